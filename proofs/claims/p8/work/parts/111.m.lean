theorem dX10_searchedBy_0 : decode cX10_searchedBy 0 = .ok (.iload_n 1, 1) := dk_27 (by decide +kernel)
theorem dX10_searchedBy_1 : decode cX10_searchedBy 1 = .ok (.aload_n 0, 1) := dk_42 (by decide +kernel)
theorem dX10_searchedBy_2 : decode cX10_searchedBy 2 = .ok (.invokevirtual 72, 3) := dk_182 (x := 0) (y := 72) (by decide +kernel) rfl
theorem dX10_searchedBy_5 : decode cX10_searchedBy 5 = .ok (.iconst (-1), 1) := dk_2 (by decide +kernel)
theorem dX10_searchedBy_6 : decode cX10_searchedBy 6 = .ok (.ixor, 1) := dk_130 (by decide +kernel)
theorem dX10_searchedBy_7 : decode cX10_searchedBy 7 = .ok (.iand, 1) := dk_126 (by decide +kernel)
theorem dX10_searchedBy_8 : decode cX10_searchedBy 8 = .ok (.ifCond .ne 22, 3) := dk_154 (x := 0) (y := 22) (by decide +kernel) rfl
theorem dX10_searchedBy_11 : decode cX10_searchedBy 11 = .ok (.iload_n 2, 1) := dk_28 (by decide +kernel)
theorem dX10_searchedBy_12 : decode cX10_searchedBy 12 = .ok (.iconst 1, 1) := dk_4 (by decide +kernel)
theorem dX10_searchedBy_13 : decode cX10_searchedBy 13 = .ok (.bipush 40, 2) := dk_16 (x := 40) (by decide +kernel) rfl
theorem dX10_searchedBy_15 : decode cX10_searchedBy 15 = .ok (.invokestatic 49, 3) := dk_184 (x := 0) (y := 49) (by decide +kernel) rfl
theorem dX10_searchedBy_18 : decode cX10_searchedBy 18 = .ok (.ifCond .eq 12, 3) := dk_153 (x := 0) (y := 12) (by decide +kernel) rfl
theorem dX10_searchedBy_21 : decode cX10_searchedBy 21 = .ok (.iload_n 3, 1) := dk_29 (by decide +kernel)
theorem dX10_searchedBy_22 : decode cX10_searchedBy 22 = .ok (.iconst 0, 1) := dk_3 (by decide +kernel)
theorem dX10_searchedBy_23 : decode cX10_searchedBy 23 = .ok (.iconst 5, 1) := dk_8 (by decide +kernel)
theorem dX10_searchedBy_24 : decode cX10_searchedBy 24 = .ok (.invokestatic 49, 3) := dk_184 (x := 0) (y := 49) (by decide +kernel) rfl
theorem dX10_searchedBy_27 : decode cX10_searchedBy 27 = .ok (.ifCond .ne 5, 3) := dk_154 (x := 0) (y := 5) (by decide +kernel) rfl
theorem dX10_searchedBy_30 : decode cX10_searchedBy 30 = .ok (.iconst (-1), 1) := dk_2 (by decide +kernel)
theorem dX10_searchedBy_31 : decode cX10_searchedBy 31 = .ok (.ireturn, 1) := dk_172 (by decide +kernel)
theorem dX10_searchedBy_32 : decode cX10_searchedBy 32 = .ok (.aload_n 0, 1) := dk_42 (by decide +kernel)
theorem dX10_searchedBy_33 : decode cX10_searchedBy 33 = .ok (.iload_n 1, 1) := dk_27 (by decide +kernel)
theorem dX10_searchedBy_34 : decode cX10_searchedBy 34 = .ok (.putfield 274, 3) := dk_181 (x := 1) (y := 18) (by decide +kernel) rfl
theorem dX10_searchedBy_37 : decode cX10_searchedBy 37 = .ok (.aload_n 0, 1) := dk_42 (by decide +kernel)
theorem dX10_searchedBy_38 : decode cX10_searchedBy 38 = .ok (.iload_n 2, 1) := dk_28 (by decide +kernel)
theorem dX10_searchedBy_39 : decode cX10_searchedBy 39 = .ok (.iconst (-1), 1) := dk_2 (by decide +kernel)
theorem dX10_searchedBy_40 : decode cX10_searchedBy 40 = .ok (.invokevirtual 372, 3) := dk_182 (x := 1) (y := 116) (by decide +kernel) rfl
theorem dX10_searchedBy_43 : decode cX10_searchedBy 43 = .ok (.iload_n 3, 1) := dk_29 (by decide +kernel)
theorem dX10_searchedBy_44 : decode cX10_searchedBy 44 = .ok (.tableswitch 69 0 4 #[36, 41, 46, 51, 56], 36) := by decide +kernel
theorem dX10_searchedBy_80 : decode cX10_searchedBy 80 = .ok (.aload_n 0, 1) := dk_42 (by decide +kernel)
theorem dX10_searchedBy_81 : decode cX10_searchedBy 81 = .ok (.getfield 335, 3) := dk_180 (x := 1) (y := 79) (by decide +kernel) rfl
theorem dX10_searchedBy_84 : decode cX10_searchedBy 84 = .ok (.ireturn, 1) := dk_172 (by decide +kernel)
theorem dX10_searchedBy_85 : decode cX10_searchedBy 85 = .ok (.aload_n 0, 1) := dk_42 (by decide +kernel)
theorem dX10_searchedBy_86 : decode cX10_searchedBy 86 = .ok (.getfield 348, 3) := dk_180 (x := 1) (y := 92) (by decide +kernel) rfl
theorem dX10_searchedBy_89 : decode cX10_searchedBy 89 = .ok (.ireturn, 1) := dk_172 (by decide +kernel)
theorem dX10_searchedBy_90 : decode cX10_searchedBy 90 = .ok (.aload_n 0, 1) := dk_42 (by decide +kernel)
theorem dX10_searchedBy_91 : decode cX10_searchedBy 91 = .ok (.getfield 351, 3) := dk_180 (x := 1) (y := 95) (by decide +kernel) rfl
theorem dX10_searchedBy_94 : decode cX10_searchedBy 94 = .ok (.ireturn, 1) := dk_172 (by decide +kernel)
theorem dX10_searchedBy_95 : decode cX10_searchedBy 95 = .ok (.aload_n 0, 1) := dk_42 (by decide +kernel)
theorem dX10_searchedBy_96 : decode cX10_searchedBy 96 = .ok (.getfield 354, 3) := dk_180 (x := 1) (y := 98) (by decide +kernel) rfl
theorem dX10_searchedBy_99 : decode cX10_searchedBy 99 = .ok (.ireturn, 1) := dk_172 (by decide +kernel)
theorem dX10_searchedBy_100 : decode cX10_searchedBy 100 = .ok (.aload_n 0, 1) := dk_42 (by decide +kernel)
theorem dX10_searchedBy_101 : decode cX10_searchedBy 101 = .ok (.getfield 341, 3) := dk_180 (x := 1) (y := 85) (by decide +kernel) rfl
theorem dX10_searchedBy_104 : decode cX10_searchedBy 104 = .ok (.ifCond .eq 7, 3) := dk_153 (x := 0) (y := 7) (by decide +kernel) rfl
theorem dX10_searchedBy_107 : decode cX10_searchedBy 107 = .ok (.iconst 0, 1) := dk_3 (by decide +kernel)
theorem dX10_searchedBy_108 : decode cX10_searchedBy 108 = .ok (.goto 4, 3) := dk_167 (x := 0) (y := 4) (by decide +kernel) rfl
theorem dX10_searchedBy_111 : decode cX10_searchedBy 111 = .ok (.iconst 1, 1) := dk_4 (by decide +kernel)
theorem dX10_searchedBy_112 : decode cX10_searchedBy 112 = .ok (.ireturn, 1) := dk_172 (by decide +kernel)
theorem dX10_searchedBy_113 : decode cX10_searchedBy 113 = .ok (.aload_n 0, 1) := dk_42 (by decide +kernel)
theorem dX10_searchedBy_114 : decode cX10_searchedBy 114 = .ok (.getfield 35, 3) := dk_180 (x := 0) (y := 35) (by decide +kernel) rfl
theorem dX10_searchedBy_117 : decode cX10_searchedBy 117 = .ok (.aload_n 0, 1) := dk_42 (by decide +kernel)
theorem dX10_searchedBy_118 : decode cX10_searchedBy 118 = .ok (.getfield 335, 3) := dk_180 (x := 1) (y := 79) (by decide +kernel) rfl
theorem dX10_searchedBy_121 : decode cX10_searchedBy 121 = .ok (.iconst 1, 1) := dk_4 (by decide +kernel)
theorem dX10_searchedBy_122 : decode cX10_searchedBy 122 = .ok (.isub, 1) := dk_100 (by decide +kernel)
theorem dX10_searchedBy_123 : decode cX10_searchedBy 123 = .ok (.iaload, 1) := dk_46 (by decide +kernel)
theorem dX10_searchedBy_124 : decode cX10_searchedBy 124 = .ok (.ireturn, 1) := dk_172 (by decide +kernel)
def f_X10_searchedBy (n : Nat) (o : Nat) (a1 : Int32) (a2 : Int32) (a3 : Int32) (M : Mem) : Option (Int32 × Mem) :=
  chk (isO M 10 o) <|
  obd (f_X10_all o M) fun r3 =>
  if (a1 &&& (r3 ^^^ (-1 : Int32))) = 0 then (
    obd (f_X10_isIn a2 (1 : Int32) (40 : Int32) M) fun r7 =>
    if r7 = 0 then (
      some ((-1 : Int32), M)
      ) else (
      obd (f_X10_isIn a3 (0 : Int32) (5 : Int32) M) fun r11 =>
      if r11 = 0 then (
        some ((-1 : Int32), M)
        ) else (
        bnd (sI M o 7 a1) fun M14 =>
        obd (f_X10_search n o a2 (-1 : Int32) M14) fun M18 =>
        if a3 = (0 : Int32) then (
          chk (isO M18 10 o) <|
          some ((mI M18 o 13), M18)
          ) else (
        if a3 = (1 : Int32) then (
          chk (isO M18 10 o) <|
          some ((mI M18 o 15), M18)
          ) else (
        if a3 = (2 : Int32) then (
          chk (isO M18 10 o) <|
          some ((mI M18 o 16), M18)
          ) else (
        if a3 = (3 : Int32) then (
          chk (isO M18 10 o) <|
          some ((mI M18 o 17), M18)
          ) else (
        if a3 = (4 : Int32) then (
          chk (isO M18 10 o) <|
          if (mI M18 o 14) = 0 then (
            some ((1 : Int32), M18)
            ) else (
            some ((0 : Int32), M18)
            )
          ) else (
        chk (isO M18 10 o) <|
        bnd (mR M18 o 12) fun o37 =>
        chk (isO M18 100 o37) <|
        chk (inB ((mI M18 o 13) - (1 : Int32)) (mLn M18 o37)) <|
        some ((mI M18 o37 (((mI M18 o 13) - (1 : Int32))).toNatClampNeg), M18)
        )
        )
        )
        )
        )
        )
      )
    ) else (
    some ((-1 : Int32), M)
    )
theorem cd_X10_searchedBy : (yX10_searchedBy.cls ≠ "java/lang/invoke/MethodHandle" ∧ yX10_searchedBy.cls ≠ "java/lang/invoke/VarHandle") ∧ (parseMethodDescriptor yX10_searchedBy.desc).map (fun d => d.parameters.length) = some 3 := ⟨⟨by decide +kernel, by decide +kernel⟩, by decide +kernel⟩
theorem k_X10_searchedBy (G : Gam) {n : Nat} {o : Nat} {a1 : Int32} {a2 : Int32} {a3 : Int32} {M : Mem} {rv : (Int32 × Mem)} (hf : f_X10_searchedBy n o a1 a2 a3 M = some rv) : Kt yX10_searchedBy cX10_searchedBy 4 (some .int) 9 212 G [.ref (gB G + o), .int a1, .int a2, .int a3] M rv.2 (some (.int rv.1)) := by
  refine Kt.of (by decide) (Nat.le_of_ble_eq_true rfl) ?_
  intro p l e R s m args below meth c X hr hlk hnm
  refine s_drop [0, 1, 2, 3] (vs' := [(0, .ref (gB G + o)), (1, .int a1), (2, .int a2), (3, .int a3)]) rfl ?_
  rw [f_X10_searchedBy] at hf
  refine s_iload_n X 1 dX10_searchedBy_0 rfl rfl ?_
  refine s_aload_n X 0 dX10_searchedBy_1 rfl rfl ?_
  obtain ⟨h1, hf⟩ := pk_chk hf
  obtain ⟨r3, hc2, hf⟩ := pk_obd hf
  refine s_callV X (ci := 10) (k_X10_all G hc2) rfl h1 wd1542 wd1544 wd52 wd1545 wd138 cd_X10_all ⟨Nat.le_of_ble_eq_true rfl, Nat.le_of_ble_eq_true rfl⟩ (Nat.le_of_ble_eq_true rfl) dX10_searchedBy_2 ?_
  refine s_iconst X (v := (-1 : Int32)) dX10_searchedBy_5 rfl ?_
  refine s_ixor X dX10_searchedBy_6 ?_
  refine s_iand X dX10_searchedBy_7 ?_
  have hs4 := pk_ite hf
  clear hf
  refine s_if_ne X (tgt := 30) dX10_searchedBy_8 rfl (fun c5 => ?_) (fun c5 => ?_)
  · have hf := hs4.2 c5
    refine s_iconst X (v := (-1 : Int32)) dX10_searchedBy_30 rfl ?_
    cases hf
    exact s_iret X hr hlk dX10_searchedBy_31
  · have hf := hs4.1 c5
    refine s_iload_n X 2 dX10_searchedBy_11 rfl rfl ?_
    refine s_iconst X (v := (1 : Int32)) dX10_searchedBy_12 rfl ?_
    refine s_bipush X (v := (40 : Int32)) dX10_searchedBy_13 rfl ?_
    obtain ⟨r7, hc6, hf⟩ := pk_obd hf
    refine s_callS X (k_X10_isIn G hc6) wd1520 wd1521 wd1522 wd138 cd_X10_isIn ⟨Nat.le_of_ble_eq_true rfl, Nat.le_of_ble_eq_true rfl⟩ (Nat.le_of_ble_eq_true rfl) dX10_searchedBy_15 ?_
    have hs8 := pk_ite hf
    clear hf
    refine s_if_eq X (tgt := 30) dX10_searchedBy_18 rfl (fun c9 => ?_) (fun c9 => ?_)
    · have hf := hs8.1 c9
      refine s_iconst X (v := (-1 : Int32)) dX10_searchedBy_30 rfl ?_
      cases hf
      exact s_iret X hr hlk dX10_searchedBy_31
    · have hf := hs8.2 c9
      refine s_iload_n X 3 dX10_searchedBy_21 rfl rfl ?_
      refine s_iconst X (v := (0 : Int32)) dX10_searchedBy_22 rfl ?_
      refine s_iconst X (v := (5 : Int32)) dX10_searchedBy_23 rfl ?_
      obtain ⟨r11, hc10, hf⟩ := pk_obd hf
      refine s_callS X (k_X10_isIn G hc10) wd1520 wd1521 wd1522 wd138 cd_X10_isIn ⟨Nat.le_of_ble_eq_true rfl, Nat.le_of_ble_eq_true rfl⟩ (Nat.le_of_ble_eq_true rfl) dX10_searchedBy_24 ?_
      have hs12 := pk_ite hf
      clear hf
      refine s_if_ne X (tgt := 32) dX10_searchedBy_27 rfl (fun c13 => ?_) (fun c13 => ?_)
      · have hf := hs12.2 c13
        refine s_aload_n X 0 dX10_searchedBy_32 rfl rfl ?_
        refine s_iload_n X 1 dX10_searchedBy_33 rfl rfl ?_
        obtain ⟨M14, e15, hf⟩ := pk_bnd hf
        refine s_putI X (ci := 10) (k := 7) rfl (Nat.le_of_ble_eq_true rfl) h1 wd1447 (fun _ _ _ => rfl) rfl rfl e15 dX10_searchedBy_34 ?_
        have h16 := io_sI e15 h1
        refine s_aload_n X 0 dX10_searchedBy_37 rfl rfl ?_
        refine s_iload_n X 2 dX10_searchedBy_38 rfl rfl ?_
        refine s_iconst X (v := (-1 : Int32)) dX10_searchedBy_39 rfl ?_
        obtain ⟨M18, hc17, hf⟩ := pk_obd hf
        refine s_callV X (ci := 10) (k_X10_search G hc17) rfl h16 wd1990 wd1992 wd115 wd1993 wd138 cd_X10_search ⟨Nat.le_of_ble_eq_true rfl, Nat.le_of_ble_eq_true rfl⟩ (Nat.le_of_ble_eq_true rfl) dX10_searchedBy_40 ?_
        refine s_iload_n X 3 dX10_searchedBy_43 rfl rfl ?_
        have hs19 := pk_ite hf
        clear hf
        by_cases c20 : a3 = (0 : Int32)
        · have hf := hs19.1 c20
          refine s_swC X (v := (0 : Int32)) (tgt := 80) dX10_searchedBy_44 c20 (by decide) (by decide) rfl rfl ?_
          refine s_aload_n X 0 dX10_searchedBy_80 rfl rfl ?_
          obtain ⟨h21, hf⟩ := pk_chk hf
          refine s_getI X (ci := 10) (k := 13) rfl (Nat.le_of_ble_eq_true rfl) h21 wd1453 (fun _ _ _ => rfl) dX10_searchedBy_81 ?_
          cases hf
          exact s_iret X hr hlk dX10_searchedBy_84
        have hf := hs19.2 c20
        have hs22 := pk_ite hf
        clear hf
        by_cases c23 : a3 = (1 : Int32)
        · have hf := hs22.1 c23
          refine s_swC X (v := (1 : Int32)) (tgt := 85) dX10_searchedBy_44 c23 (by decide) (by decide) rfl rfl ?_
          refine s_aload_n X 0 dX10_searchedBy_85 rfl rfl ?_
          obtain ⟨h24, hf⟩ := pk_chk hf
          refine s_getI X (ci := 10) (k := 15) rfl (Nat.le_of_ble_eq_true rfl) h24 wd1455 (fun _ _ _ => rfl) dX10_searchedBy_86 ?_
          cases hf
          exact s_iret X hr hlk dX10_searchedBy_89
        have hf := hs22.2 c23
        have hs25 := pk_ite hf
        clear hf
        by_cases c26 : a3 = (2 : Int32)
        · have hf := hs25.1 c26
          refine s_swC X (v := (2 : Int32)) (tgt := 90) dX10_searchedBy_44 c26 (by decide) (by decide) rfl rfl ?_
          refine s_aload_n X 0 dX10_searchedBy_90 rfl rfl ?_
          obtain ⟨h27, hf⟩ := pk_chk hf
          refine s_getI X (ci := 10) (k := 16) rfl (Nat.le_of_ble_eq_true rfl) h27 wd1456 (fun _ _ _ => rfl) dX10_searchedBy_91 ?_
          cases hf
          exact s_iret X hr hlk dX10_searchedBy_94
        have hf := hs25.2 c26
        have hs28 := pk_ite hf
        clear hf
        by_cases c29 : a3 = (3 : Int32)
        · have hf := hs28.1 c29
          refine s_swC X (v := (3 : Int32)) (tgt := 95) dX10_searchedBy_44 c29 (by decide) (by decide) rfl rfl ?_
          refine s_aload_n X 0 dX10_searchedBy_95 rfl rfl ?_
          obtain ⟨h30, hf⟩ := pk_chk hf
          refine s_getI X (ci := 10) (k := 17) rfl (Nat.le_of_ble_eq_true rfl) h30 wd1457 (fun _ _ _ => rfl) dX10_searchedBy_96 ?_
          cases hf
          exact s_iret X hr hlk dX10_searchedBy_99
        have hf := hs28.2 c29
        have hs31 := pk_ite hf
        clear hf
        by_cases c32 : a3 = (4 : Int32)
        · have hf := hs31.1 c32
          refine s_swC X (v := (4 : Int32)) (tgt := 100) dX10_searchedBy_44 c32 (by decide) (by decide) rfl rfl ?_
          refine s_aload_n X 0 dX10_searchedBy_100 rfl rfl ?_
          obtain ⟨h33, hf⟩ := pk_chk hf
          refine s_getI X (ci := 10) (k := 14) rfl (Nat.le_of_ble_eq_true rfl) h33 wd1454 (fun _ _ _ => rfl) dX10_searchedBy_101 ?_
          have hs34 := pk_ite hf
          clear hf
          refine s_if_eq X (tgt := 111) dX10_searchedBy_104 rfl (fun c35 => ?_) (fun c35 => ?_)
          · have hf := hs34.1 c35
            refine s_iconst X (v := (1 : Int32)) dX10_searchedBy_111 rfl ?_
            cases hf
            exact s_iret X hr hlk dX10_searchedBy_112
          · have hf := hs34.2 c35
            refine s_iconst X (v := (0 : Int32)) dX10_searchedBy_107 rfl ?_
            refine s_goto X (tgt := 112) dX10_searchedBy_108 rfl ?_
            cases hf
            exact s_iret X hr hlk dX10_searchedBy_112
        have hf := hs31.2 c32
        refine s_swOut X (tgt := 113) dX10_searchedBy_44 (by have := sw_ne (v := (0 : Int32)) (z := 0) c20 (by decide); have := sw_ne (v := (1 : Int32)) (z := 1) c23 (by decide); have := sw_ne (v := (2 : Int32)) (z := 2) c26 (by decide); have := sw_ne (v := (3 : Int32)) (z := 3) c29 (by decide); have := sw_ne (v := (4 : Int32)) (z := 4) c32 (by decide); omega) rfl ?_
        refine s_aload_n X 0 dX10_searchedBy_113 rfl rfl ?_
        obtain ⟨h36, hf⟩ := pk_chk hf
        obtain ⟨o37, e38, hf⟩ := pk_bnd hf
        obtain ⟨h39, hf⟩ := pk_chk hf
        refine s_getR X (ci := 10) (k := 12) rfl (Nat.le_of_ble_eq_true rfl) h36 wd1452 (fun _ _ _ => rfl) (e38 ▸ h39) dX10_searchedBy_114 (e38 ▸ ?_)
        refine s_aload_n X 0 dX10_searchedBy_117 rfl rfl ?_
        refine s_getI X (ci := 10) (k := 13) rfl (Nat.le_of_ble_eq_true rfl) h36 wd1453 (fun _ _ _ => rfl) dX10_searchedBy_118 ?_
        refine s_iconst X (v := (1 : Int32)) dX10_searchedBy_121 rfl ?_
        refine s_isub X dX10_searchedBy_122 ?_
        obtain ⟨h40, hf⟩ := pk_chk hf
        refine s_iald X h39 h40 dX10_searchedBy_123 ?_
        cases hf
        exact s_iret X hr hlk dX10_searchedBy_124
      · have hf := hs12.1 c13
        refine s_iconst X (v := (-1 : Int32)) dX10_searchedBy_30 rfl ?_
        cases hf
        exact s_iret X hr hlk dX10_searchedBy_31
theorem dX10_searched_0 : decode cX10_searched 0 = .ok (.aload_n 0, 1) := dk_42 (by decide +kernel)
theorem dX10_searched_1 : decode cX10_searched 1 = .ok (.iconst 0, 1) := dk_3 (by decide +kernel)
theorem dX10_searched_2 : decode cX10_searched 2 = .ok (.iload_n 1, 1) := dk_27 (by decide +kernel)
theorem dX10_searched_3 : decode cX10_searched 3 = .ok (.iload_n 2, 1) := dk_28 (by decide +kernel)
theorem dX10_searched_4 : decode cX10_searched 4 = .ok (.invokevirtual 369, 3) := dk_182 (x := 1) (y := 113) (by decide +kernel) rfl
theorem dX10_searched_7 : decode cX10_searched 7 = .ok (.ireturn, 1) := dk_172 (by decide +kernel)
def f_X10_searched (n : Nat) (o : Nat) (a1 : Int32) (a2 : Int32) (M : Mem) : Option (Int32 × Mem) :=
  chk (isO M 10 o) <|
  obd2 (f_X10_searchedBy n o (0 : Int32) a1 a2 M) fun r3 M4 =>
  some (r3, M4)
theorem cd_X10_searched : (yX10_searched.cls ≠ "java/lang/invoke/MethodHandle" ∧ yX10_searched.cls ≠ "java/lang/invoke/VarHandle") ∧ (parseMethodDescriptor yX10_searched.desc).map (fun d => d.parameters.length) = some 2 := ⟨⟨by decide +kernel, by decide +kernel⟩, by decide +kernel⟩
theorem k_X10_searched (G : Gam) {n : Nat} {o : Nat} {a1 : Int32} {a2 : Int32} {M : Mem} {rv : (Int32 × Mem)} (hf : f_X10_searched n o a1 a2 M = some rv) : Kt yX10_searched cX10_searched 3 (some .int) 10 235 G [.ref (gB G + o), .int a1, .int a2] M rv.2 (some (.int rv.1)) := by
  refine Kt.of (by decide) (Nat.le_of_ble_eq_true rfl) ?_
  intro p l e R s m args below meth c X hr hlk hnm
  refine s_drop [0, 1, 2] (vs' := [(0, .ref (gB G + o)), (1, .int a1), (2, .int a2)]) rfl ?_
  rw [f_X10_searched] at hf
  refine s_aload_n X 0 dX10_searched_0 rfl rfl ?_
  refine s_iconst X (v := (0 : Int32)) dX10_searched_1 rfl ?_
  refine s_iload_n X 1 dX10_searched_2 rfl rfl ?_
  refine s_iload_n X 2 dX10_searched_3 rfl rfl ?_
  obtain ⟨h1, hf⟩ := pk_chk hf
  obtain ⟨r3, M4, hc2, hf⟩ := pk_obd2 hf
  refine s_callV X (ci := 10) (k_X10_searchedBy G hc2) rfl h1 wd1986 wd1987 wd1988 wd1989 wd138 cd_X10_searchedBy ⟨Nat.le_of_ble_eq_true rfl, Nat.le_of_ble_eq_true rfl⟩ (Nat.le_of_ble_eq_true rfl) dX10_searched_4 ?_
  cases hf
  exact s_iret X hr hlk dX10_searched_7
theorem dX9_searchedBy_0 : decode cX9_searchedBy 0 = .ok (.aload_n 0, 1) := dk_42 (by decide +kernel)
theorem dX9_searchedBy_1 : decode cX9_searchedBy 1 = .ok (.getfield 10, 3) := dk_180 (x := 0) (y := 10) (by decide +kernel) rfl
theorem dX9_searchedBy_4 : decode cX9_searchedBy 4 = .ok (.iload_n 1, 1) := dk_27 (by decide +kernel)
theorem dX9_searchedBy_5 : decode cX9_searchedBy 5 = .ok (.invokevirtual 83, 3) := dk_182 (x := 0) (y := 83) (by decide +kernel) rfl
theorem dX9_searchedBy_8 : decode cX9_searchedBy 8 = .ok (.ifCond .eq 14, 3) := dk_153 (x := 0) (y := 14) (by decide +kernel) rfl
theorem dX9_searchedBy_11 : decode cX9_searchedBy 11 = .ok (.iload_n 2, 1) := dk_28 (by decide +kernel)
theorem dX9_searchedBy_12 : decode cX9_searchedBy 12 = .ok (.iconst 1, 1) := dk_4 (by decide +kernel)
theorem dX9_searchedBy_13 : decode cX9_searchedBy 13 = .ok (.if_icmp .lt 9, 3) := dk_161 (x := 0) (y := 9) (by decide +kernel) rfl
theorem dX9_searchedBy_16 : decode cX9_searchedBy 16 = .ok (.iload_n 2, 1) := dk_28 (by decide +kernel)
theorem dX9_searchedBy_17 : decode cX9_searchedBy 17 = .ok (.bipush 40, 2) := dk_16 (x := 40) (by decide +kernel) rfl
theorem dX9_searchedBy_19 : decode cX9_searchedBy 19 = .ok (.if_icmp .le 5, 3) := dk_164 (x := 0) (y := 5) (by decide +kernel) rfl
theorem dX9_searchedBy_22 : decode cX9_searchedBy 22 = .ok (.iconst (-1), 1) := dk_2 (by decide +kernel)
theorem dX9_searchedBy_23 : decode cX9_searchedBy 23 = .ok (.ireturn, 1) := dk_172 (by decide +kernel)
theorem dX9_searchedBy_24 : decode cX9_searchedBy 24 = .ok (.aload_n 0, 1) := dk_42 (by decide +kernel)
theorem dX9_searchedBy_25 : decode cX9_searchedBy 25 = .ok (.getfield 47, 3) := dk_180 (x := 0) (y := 47) (by decide +kernel) rfl
theorem dX9_searchedBy_28 : decode cX9_searchedBy 28 = .ok (.aload_n 0, 1) := dk_42 (by decide +kernel)
theorem dX9_searchedBy_29 : decode cX9_searchedBy 29 = .ok (.getfield 28, 3) := dk_180 (x := 0) (y := 28) (by decide +kernel) rfl
theorem dX9_searchedBy_32 : decode cX9_searchedBy 32 = .ok (.iload_n 1, 1) := dk_27 (by decide +kernel)
theorem dX9_searchedBy_33 : decode cX9_searchedBy 33 = .ok (.iload_n 2, 1) := dk_28 (by decide +kernel)
theorem dX9_searchedBy_34 : decode cX9_searchedBy 34 = .ok (.invokevirtual 314, 3) := dk_182 (x := 1) (y := 58) (by decide +kernel) rfl
theorem dX9_searchedBy_37 : decode cX9_searchedBy 37 = .ok (.aload_n 0, 1) := dk_42 (by decide +kernel)
theorem dX9_searchedBy_38 : decode cX9_searchedBy 38 = .ok (.getfield 47, 3) := dk_180 (x := 0) (y := 47) (by decide +kernel) rfl
theorem dX9_searchedBy_41 : decode cX9_searchedBy 41 = .ok (.iload_n 3, 1) := dk_29 (by decide +kernel)
theorem dX9_searchedBy_42 : decode cX9_searchedBy 42 = .ok (.invokevirtual 318, 3) := dk_182 (x := 1) (y := 62) (by decide +kernel) rfl
theorem dX9_searchedBy_45 : decode cX9_searchedBy 45 = .ok (.ireturn, 1) := dk_172 (by decide +kernel)
def f_X9_searchedBy (n : Nat) (o : Nat) (a1 : Int32) (a2 : Int32) (a3 : Int32) (M : Mem) : Option (Int32 × Mem) :=
  chk (isO M 9 o) <|
  bnd (mR M o 0) fun o2 =>
  chk (isO M 7 o2) <|
  obd (f_X7_isSetOfNodes o2 a1 M) fun r6 =>
  if r6 = 0 then (
    some ((-1 : Int32), M)
    ) else (
    if a2 < (1 : Int32) then (
      some ((-1 : Int32), M)
      ) else (
      if a2 ≤ (40 : Int32) then (
        bnd (mR M o 5) fun o13 =>
        chk (isO M 6 o13) <|
        bnd (mR M o 2) fun o16 =>
        chk (isO M 2 o16) <|
        obd (f_X6_run n o13 o16 a1 a2 M) fun M20 =>
        chk (isO M20 9 o) <|
        bnd (mR M20 o 5) fun o22 =>
        chk (isO M20 6 o22) <|
        obd (f_X6_tell o22 a3 M20) fun r26 =>
        some (r26, M20)
        ) else (
        some ((-1 : Int32), M)
        )
      )
    )
theorem cd_X9_searchedBy : (yX9_searchedBy.cls ≠ "java/lang/invoke/MethodHandle" ∧ yX9_searchedBy.cls ≠ "java/lang/invoke/VarHandle") ∧ (parseMethodDescriptor yX9_searchedBy.desc).map (fun d => d.parameters.length) = some 3 := ⟨⟨by decide +kernel, by decide +kernel⟩, by decide +kernel⟩
theorem k_X9_searchedBy (G : Gam) {n : Nat} {o : Nat} {a1 : Int32} {a2 : Int32} {a3 : Int32} {M : Mem} {rv : (Int32 × Mem)} (hf : f_X9_searchedBy n o a1 a2 a3 M = some rv) : Kt yX9_searchedBy cX9_searchedBy 4 (some .int) 8 201 G [.ref (gB G + o), .int a1, .int a2, .int a3] M rv.2 (some (.int rv.1)) := by
  refine Kt.of (by decide) (Nat.le_of_ble_eq_true rfl) ?_
  intro p l e R s m args below meth c X hr hlk hnm
  refine s_drop [0, 1, 2, 3] (vs' := [(0, .ref (gB G + o)), (1, .int a1), (2, .int a2), (3, .int a3)]) rfl ?_
  rw [f_X9_searchedBy] at hf
  refine s_aload_n X 0 dX9_searchedBy_0 rfl rfl ?_
  obtain ⟨h1, hf⟩ := pk_chk hf
  obtain ⟨o2, e3, hf⟩ := pk_bnd hf
  obtain ⟨h4, hf⟩ := pk_chk hf
  refine s_getR X (ci := 9) (k := 0) rfl (Nat.le_of_ble_eq_true rfl) h1 wd627 (fun _ _ _ => rfl) (e3 ▸ h4) dX9_searchedBy_1 (e3 ▸ ?_)
  refine s_iload_n X 1 dX9_searchedBy_4 rfl rfl ?_
  obtain ⟨r6, hc5, hf⟩ := pk_obd hf
  refine s_callV X (ci := 7) (k_X7_isSetOfNodes G hc5) rfl h4 wd718 wd719 wd720 wd721 wd127 cd_X7_isSetOfNodes ⟨Nat.le_of_ble_eq_true rfl, Nat.le_of_ble_eq_true rfl⟩ (Nat.le_of_ble_eq_true rfl) dX9_searchedBy_5 ?_
  have hs7 := pk_ite hf
  clear hf
  refine s_if_eq X (tgt := 22) dX9_searchedBy_8 rfl (fun c8 => ?_) (fun c8 => ?_)
  · have hf := hs7.1 c8
    refine s_iconst X (v := (-1 : Int32)) dX9_searchedBy_22 rfl ?_
    cases hf
    exact s_iret X hr hlk dX9_searchedBy_23
  · have hf := hs7.2 c8
    refine s_iload_n X 2 dX9_searchedBy_11 rfl rfl ?_
    refine s_iconst X (v := (1 : Int32)) dX9_searchedBy_12 rfl ?_
    have hs9 := pk_ite hf
    clear hf
    refine s_icmp_lt X (tgt := 22) dX9_searchedBy_13 rfl (fun c10 => ?_) (fun c10 => ?_)
    · have hf := hs9.1 c10
      refine s_iconst X (v := (-1 : Int32)) dX9_searchedBy_22 rfl ?_
      cases hf
      exact s_iret X hr hlk dX9_searchedBy_23
    · have hf := hs9.2 c10
      refine s_iload_n X 2 dX9_searchedBy_16 rfl rfl ?_
      refine s_bipush X (v := (40 : Int32)) dX9_searchedBy_17 rfl ?_
      have hs11 := pk_ite hf
      clear hf
      refine s_icmp_le X (tgt := 24) dX9_searchedBy_19 rfl (fun c12 => ?_) (fun c12 => ?_)
      · have hf := hs11.1 c12
        refine s_aload_n X 0 dX9_searchedBy_24 rfl rfl ?_
        obtain ⟨o13, e14, hf⟩ := pk_bnd hf
        obtain ⟨h15, hf⟩ := pk_chk hf
        refine s_getR X (ci := 9) (k := 5) rfl (Nat.le_of_ble_eq_true rfl) h1 wd632 (fun _ _ _ => rfl) (e14 ▸ h15) dX9_searchedBy_25 (e14 ▸ ?_)
        refine s_aload_n X 0 dX9_searchedBy_28 rfl rfl ?_
        obtain ⟨o16, e17, hf⟩ := pk_bnd hf
        obtain ⟨h18, hf⟩ := pk_chk hf
        refine s_getR X (ci := 9) (k := 2) rfl (Nat.le_of_ble_eq_true rfl) h1 wd629 (fun _ _ _ => rfl) (e17 ▸ h18) dX9_searchedBy_29 (e17 ▸ ?_)
        refine s_iload_n X 1 dX9_searchedBy_32 rfl rfl ?_
        refine s_iload_n X 2 dX9_searchedBy_33 rfl rfl ?_
        obtain ⟨M20, hc19, hf⟩ := pk_obd hf
        refine s_callV X (ci := 6) (k_X6_run G hc19) rfl h15 wd1253 wd1254 wd1255 wd1256 wd135 cd_X6_run ⟨Nat.le_of_ble_eq_true rfl, Nat.le_of_ble_eq_true rfl⟩ (Nat.le_of_ble_eq_true rfl) dX9_searchedBy_34 ?_
        refine s_aload_n X 0 dX9_searchedBy_37 rfl rfl ?_
        obtain ⟨h21, hf⟩ := pk_chk hf
        obtain ⟨o22, e23, hf⟩ := pk_bnd hf
        obtain ⟨h24, hf⟩ := pk_chk hf
        refine s_getR X (ci := 9) (k := 5) rfl (Nat.le_of_ble_eq_true rfl) h21 wd632 (fun _ _ _ => rfl) (e23 ▸ h24) dX9_searchedBy_38 (e23 ▸ ?_)
        refine s_iload_n X 3 dX9_searchedBy_41 rfl rfl ?_
        obtain ⟨r26, hc25, hf⟩ := pk_obd hf
        refine s_callV X (ci := 6) (k_X6_tell G hc25) rfl h24 wd1324 wd1325 wd1326 wd1327 wd135 cd_X6_tell ⟨Nat.le_of_ble_eq_true rfl, Nat.le_of_ble_eq_true rfl⟩ (Nat.le_of_ble_eq_true rfl) dX9_searchedBy_42 ?_
        cases hf
        exact s_iret X hr hlk dX9_searchedBy_45
      · have hf := hs11.2 c12
        refine s_iconst X (v := (-1 : Int32)) dX9_searchedBy_22 rfl ?_
        cases hf
        exact s_iret X hr hlk dX9_searchedBy_23
theorem dX9_delay_0 : decode cX9_delay 0 = .ok (.aload_n 0, 1) := dk_42 (by decide +kernel)
theorem dX9_delay_1 : decode cX9_delay 1 = .ok (.getfield 10, 3) := dk_180 (x := 0) (y := 10) (by decide +kernel) rfl
theorem dX9_delay_4 : decode cX9_delay 4 = .ok (.iload_n 1, 1) := dk_27 (by decide +kernel)
theorem dX9_delay_5 : decode cX9_delay 5 = .ok (.invokevirtual 71, 3) := dk_182 (x := 0) (y := 71) (by decide +kernel) rfl
theorem dX9_delay_8 : decode cX9_delay 8 = .ok (.ifCond .eq 25, 3) := dk_153 (x := 0) (y := 25) (by decide +kernel) rfl
theorem dX9_delay_11 : decode cX9_delay 11 = .ok (.aload_n 0, 1) := dk_42 (by decide +kernel)
theorem dX9_delay_12 : decode cX9_delay 12 = .ok (.getfield 10, 3) := dk_180 (x := 0) (y := 10) (by decide +kernel) rfl
theorem dX9_delay_15 : decode cX9_delay 15 = .ok (.iload_n 2, 1) := dk_28 (by decide +kernel)
theorem dX9_delay_16 : decode cX9_delay 16 = .ok (.invokevirtual 71, 3) := dk_182 (x := 0) (y := 71) (by decide +kernel) rfl
theorem dX9_delay_19 : decode cX9_delay 19 = .ok (.ifCond .eq 14, 3) := dk_153 (x := 0) (y := 14) (by decide +kernel) rfl
theorem dX9_delay_22 : decode cX9_delay 22 = .ok (.iload_n 3, 1) := dk_29 (by decide +kernel)
theorem dX9_delay_23 : decode cX9_delay 23 = .ok (.iconst 1, 1) := dk_4 (by decide +kernel)
theorem dX9_delay_24 : decode cX9_delay 24 = .ok (.if_icmp .lt 9, 3) := dk_161 (x := 0) (y := 9) (by decide +kernel) rfl
theorem dX9_delay_27 : decode cX9_delay 27 = .ok (.iload_n 3, 1) := dk_29 (by decide +kernel)
theorem dX9_delay_28 : decode cX9_delay 28 = .ok (.bipush 9, 2) := dk_16 (x := 9) (by decide +kernel) rfl
theorem dX9_delay_30 : decode cX9_delay 30 = .ok (.if_icmp .le 5, 3) := dk_164 (x := 0) (y := 5) (by decide +kernel) rfl
theorem dX9_delay_33 : decode cX9_delay 33 = .ok (.iconst 0, 1) := dk_3 (by decide +kernel)
theorem dX9_delay_34 : decode cX9_delay 34 = .ok (.ireturn, 1) := dk_172 (by decide +kernel)
theorem dX9_delay_35 : decode cX9_delay 35 = .ok (.aload_n 0, 1) := dk_42 (by decide +kernel)
theorem dX9_delay_36 : decode cX9_delay 36 = .ok (.getfield 38, 3) := dk_180 (x := 0) (y := 38) (by decide +kernel) rfl
theorem dX9_delay_39 : decode cX9_delay 39 = .ok (.getfield 320, 3) := dk_180 (x := 1) (y := 64) (by decide +kernel) rfl
theorem dX9_delay_42 : decode cX9_delay 42 = .ok (.iload_n 1, 1) := dk_27 (by decide +kernel)
theorem dX9_delay_43 : decode cX9_delay 43 = .ok (.bipush 16, 2) := dk_16 (x := 16) (by decide +kernel) rfl
theorem dX9_delay_45 : decode cX9_delay 45 = .ok (.imul, 1) := dk_104 (by decide +kernel)
theorem dX9_delay_46 : decode cX9_delay 46 = .ok (.iload_n 2, 1) := dk_28 (by decide +kernel)
theorem dX9_delay_47 : decode cX9_delay 47 = .ok (.iadd, 1) := dk_96 (by decide +kernel)
theorem dX9_delay_48 : decode cX9_delay 48 = .ok (.iload_n 3, 1) := dk_29 (by decide +kernel)
theorem dX9_delay_49 : decode cX9_delay 49 = .ok (.iastore, 1) := dk_79 (by decide +kernel)
theorem dX9_delay_50 : decode cX9_delay 50 = .ok (.iconst 1, 1) := dk_4 (by decide +kernel)
theorem dX9_delay_51 : decode cX9_delay 51 = .ok (.ireturn, 1) := dk_172 (by decide +kernel)
def f_X9_delay (o : Nat) (a1 : Int32) (a2 : Int32) (a3 : Int32) (M : Mem) : Option (Int32 × Mem) :=
  chk (isO M 9 o) <|
  bnd (mR M o 0) fun o2 =>
  chk (isO M 7 o2) <|
  obd (f_X7_isNode o2 a1 M) fun r6 =>
  if r6 = 0 then (
    some ((0 : Int32), M)
    ) else (
    bnd (mR M o 0) fun o9 =>
    chk (isO M 7 o9) <|
    obd (f_X7_isNode o9 a2 M) fun r13 =>
    if r13 = 0 then (
      some ((0 : Int32), M)
      ) else (
      if a3 < (1 : Int32) then (
        some ((0 : Int32), M)
        ) else (
        if a3 ≤ (9 : Int32) then (
          bnd (mR M o 4) fun o20 =>
          chk (isO M 0 o20) <|
          bnd (mR M o20 0) fun o23 =>
          chk (isO M 100 o23) <|
          chk (inB ((a1 * (16 : Int32)) + a2) (mLn M o23)) <|
          bnd (sI M o23 (((a1 * (16 : Int32)) + a2)).toNatClampNeg a3) fun M27 =>
          some ((1 : Int32), M27)
          ) else (
          some ((0 : Int32), M)
          )
        )
      )
    )
theorem cd_X9_delay : (yX9_delay.cls ≠ "java/lang/invoke/MethodHandle" ∧ yX9_delay.cls ≠ "java/lang/invoke/VarHandle") ∧ (parseMethodDescriptor yX9_delay.desc).map (fun d => d.parameters.length) = some 3 := ⟨⟨by decide +kernel, by decide +kernel⟩, by decide +kernel⟩
theorem k_X9_delay (G : Gam) {o : Nat} {a1 : Int32} {a2 : Int32} {a3 : Int32} {M : Mem} {rv : (Int32 × Mem)} (hf : f_X9_delay o a1 a2 a3 M = some rv) : Kt yX9_delay cX9_delay 4 (some .boolean) 1 21 G [.ref (gB G + o), .int a1, .int a2, .int a3] M rv.2 (some (.int rv.1)) := by
  refine Kt.of (by decide) (Nat.le_of_ble_eq_true rfl) ?_
  intro p l e R s m args below meth c X hr hlk hnm
  refine s_drop [0, 1, 2, 3] (vs' := [(0, .ref (gB G + o)), (1, .int a1), (2, .int a2), (3, .int a3)]) rfl ?_
  rw [f_X9_delay] at hf
  refine s_aload_n X 0 dX9_delay_0 rfl rfl ?_
  obtain ⟨h1, hf⟩ := pk_chk hf
  obtain ⟨o2, e3, hf⟩ := pk_bnd hf
  obtain ⟨h4, hf⟩ := pk_chk hf
  refine s_getR X (ci := 9) (k := 0) rfl (Nat.le_of_ble_eq_true rfl) h1 wd627 (fun _ _ _ => rfl) (e3 ▸ h4) dX9_delay_1 (e3 ▸ ?_)
  refine s_iload_n X 1 dX9_delay_4 rfl rfl ?_
  obtain ⟨r6, hc5, hf⟩ := pk_obd hf
  refine s_callV X (ci := 7) (k_X7_isNode G hc5) rfl h4 wd699 wd700 wd701 wd702 wd127 cd_X7_isNode ⟨Nat.le_of_ble_eq_true rfl, Nat.le_of_ble_eq_true rfl⟩ (Nat.le_of_ble_eq_true rfl) dX9_delay_5 ?_
  have hs7 := pk_ite hf
  clear hf
  refine s_if_eq X (tgt := 33) dX9_delay_8 rfl (fun c8 => ?_) (fun c8 => ?_)
  · have hf := hs7.1 c8
    refine s_iconst X (v := (0 : Int32)) dX9_delay_33 rfl ?_
    cases hf
    exact s_zret X hr (bz_n (Or.inl rfl)) hlk dX9_delay_34
  · have hf := hs7.2 c8
    refine s_aload_n X 0 dX9_delay_11 rfl rfl ?_
    obtain ⟨o9, e10, hf⟩ := pk_bnd hf
    obtain ⟨h11, hf⟩ := pk_chk hf
    refine s_getR X (ci := 9) (k := 0) rfl (Nat.le_of_ble_eq_true rfl) h1 wd627 (fun _ _ _ => rfl) (e10 ▸ h11) dX9_delay_12 (e10 ▸ ?_)
    refine s_iload_n X 2 dX9_delay_15 rfl rfl ?_
    obtain ⟨r13, hc12, hf⟩ := pk_obd hf
    refine s_callV X (ci := 7) (k_X7_isNode G hc12) rfl h11 wd699 wd700 wd701 wd702 wd127 cd_X7_isNode ⟨Nat.le_of_ble_eq_true rfl, Nat.le_of_ble_eq_true rfl⟩ (Nat.le_of_ble_eq_true rfl) dX9_delay_16 ?_
    have hs14 := pk_ite hf
    clear hf
    refine s_if_eq X (tgt := 33) dX9_delay_19 rfl (fun c15 => ?_) (fun c15 => ?_)
    · have hf := hs14.1 c15
      refine s_iconst X (v := (0 : Int32)) dX9_delay_33 rfl ?_
      cases hf
      exact s_zret X hr (bz_n (Or.inl rfl)) hlk dX9_delay_34
    · have hf := hs14.2 c15
      refine s_iload_n X 3 dX9_delay_22 rfl rfl ?_
      refine s_iconst X (v := (1 : Int32)) dX9_delay_23 rfl ?_
      have hs16 := pk_ite hf
      clear hf
      refine s_icmp_lt X (tgt := 33) dX9_delay_24 rfl (fun c17 => ?_) (fun c17 => ?_)
      · have hf := hs16.1 c17
        refine s_iconst X (v := (0 : Int32)) dX9_delay_33 rfl ?_
        cases hf
        exact s_zret X hr (bz_n (Or.inl rfl)) hlk dX9_delay_34
      · have hf := hs16.2 c17
        refine s_iload_n X 3 dX9_delay_27 rfl rfl ?_
        refine s_bipush X (v := (9 : Int32)) dX9_delay_28 rfl ?_
        have hs18 := pk_ite hf
        clear hf
        refine s_icmp_le X (tgt := 35) dX9_delay_30 rfl (fun c19 => ?_) (fun c19 => ?_)
        · have hf := hs18.1 c19
          refine s_aload_n X 0 dX9_delay_35 rfl rfl ?_
          obtain ⟨o20, e21, hf⟩ := pk_bnd hf
          obtain ⟨h22, hf⟩ := pk_chk hf
          refine s_getR X (ci := 9) (k := 4) rfl (Nat.le_of_ble_eq_true rfl) h1 wd631 (fun _ _ _ => rfl) (e21 ▸ h22) dX9_delay_36 (e21 ▸ ?_)
          obtain ⟨o23, e24, hf⟩ := pk_bnd hf
          obtain ⟨h25, hf⟩ := pk_chk hf
          refine s_getR X (ci := 0) (k := 0) rfl (Nat.le_of_ble_eq_true rfl) h22 wd500 (fun _ _ _ => rfl) (e24 ▸ h25) dX9_delay_39 (e24 ▸ ?_)
          refine s_iload_n X 1 dX9_delay_42 rfl rfl ?_
          refine s_bipush X (v := (16 : Int32)) dX9_delay_43 rfl ?_
          refine s_imul X dX9_delay_45 ?_
          refine s_iload_n X 2 dX9_delay_46 rfl rfl ?_
          refine s_iadd X dX9_delay_47 ?_
          refine s_iload_n X 3 dX9_delay_48 rfl rfl ?_
          obtain ⟨h26, hf⟩ := pk_chk hf
          obtain ⟨M27, e28, hf⟩ := pk_bnd hf
          refine s_iast X h25 h26 e28 dX9_delay_49 ?_
          have h29 := io_sI e28 h1
          have h30 := io_sI e28 h4
          have h31 := io_sI e28 h11
          have h32 := io_sI e28 h22
          have h33 := io_sI e28 h25
          refine s_iconst X (v := (1 : Int32)) dX9_delay_50 rfl ?_
          cases hf
          exact s_zret X hr (bz_n (Or.inr rfl)) hlk dX9_delay_51
        · have hf := hs18.2 c19
          refine s_iconst X (v := (0 : Int32)) dX9_delay_33 rfl ?_
          cases hf
          exact s_zret X hr (bz_n (Or.inl rfl)) hlk dX9_delay_34
theorem dX10_delay_0 : decode cX10_delay 0 = .ok (.aload_n 0, 1) := dk_42 (by decide +kernel)
theorem dX10_delay_1 : decode cX10_delay 1 = .ok (.iload_n 1, 1) := dk_27 (by decide +kernel)
theorem dX10_delay_2 : decode cX10_delay 2 = .ok (.invokevirtual 76, 3) := dk_182 (x := 0) (y := 76) (by decide +kernel) rfl
theorem dX10_delay_5 : decode cX10_delay 5 = .ok (.ifCond .eq 21, 3) := dk_153 (x := 0) (y := 21) (by decide +kernel) rfl
theorem dX10_delay_8 : decode cX10_delay 8 = .ok (.aload_n 0, 1) := dk_42 (by decide +kernel)
theorem dX10_delay_9 : decode cX10_delay 9 = .ok (.iload_n 2, 1) := dk_28 (by decide +kernel)
theorem dX10_delay_10 : decode cX10_delay 10 = .ok (.invokevirtual 76, 3) := dk_182 (x := 0) (y := 76) (by decide +kernel) rfl
theorem dX10_delay_13 : decode cX10_delay 13 = .ok (.ifCond .eq 13, 3) := dk_153 (x := 0) (y := 13) (by decide +kernel) rfl
theorem dX10_delay_16 : decode cX10_delay 16 = .ok (.iload_n 3, 1) := dk_29 (by decide +kernel)
theorem dX10_delay_17 : decode cX10_delay 17 = .ok (.iconst 1, 1) := dk_4 (by decide +kernel)
theorem dX10_delay_18 : decode cX10_delay 18 = .ok (.bipush 9, 2) := dk_16 (x := 9) (by decide +kernel) rfl
theorem dX10_delay_20 : decode cX10_delay 20 = .ok (.invokestatic 49, 3) := dk_184 (x := 0) (y := 49) (by decide +kernel) rfl
theorem dX10_delay_23 : decode cX10_delay 23 = .ok (.ifCond .ne 5, 3) := dk_154 (x := 0) (y := 5) (by decide +kernel) rfl
theorem dX10_delay_26 : decode cX10_delay 26 = .ok (.iconst 0, 1) := dk_3 (by decide +kernel)
theorem dX10_delay_27 : decode cX10_delay 27 = .ok (.ireturn, 1) := dk_172 (by decide +kernel)
theorem dX10_delay_28 : decode cX10_delay 28 = .ok (.aload_n 0, 1) := dk_42 (by decide +kernel)
theorem dX10_delay_29 : decode cX10_delay 29 = .ok (.getfield 7, 3) := dk_180 (x := 0) (y := 7) (by decide +kernel) rfl
theorem dX10_delay_32 : decode cX10_delay 32 = .ok (.sipush 10209, 3) := dk_17 (x := 39) (y := 225) (by decide +kernel) rfl
theorem dX10_delay_35 : decode cX10_delay 35 = .ok (.bipush 16, 2) := dk_16 (x := 16) (by decide +kernel) rfl
theorem dX10_delay_37 : decode cX10_delay 37 = .ok (.iload_n 1, 1) := dk_27 (by decide +kernel)
theorem dX10_delay_38 : decode cX10_delay 38 = .ok (.imul, 1) := dk_104 (by decide +kernel)
theorem dX10_delay_39 : decode cX10_delay 39 = .ok (.iadd, 1) := dk_96 (by decide +kernel)
theorem dX10_delay_40 : decode cX10_delay 40 = .ok (.iload_n 2, 1) := dk_28 (by decide +kernel)
theorem dX10_delay_41 : decode cX10_delay 41 = .ok (.iadd, 1) := dk_96 (by decide +kernel)
theorem dX10_delay_42 : decode cX10_delay 42 = .ok (.iload_n 3, 1) := dk_29 (by decide +kernel)
theorem dX10_delay_43 : decode cX10_delay 43 = .ok (.iastore, 1) := dk_79 (by decide +kernel)
theorem dX10_delay_44 : decode cX10_delay 44 = .ok (.iconst 1, 1) := dk_4 (by decide +kernel)
theorem dX10_delay_45 : decode cX10_delay 45 = .ok (.ireturn, 1) := dk_172 (by decide +kernel)
def f_X10_delay (o : Nat) (a1 : Int32) (a2 : Int32) (a3 : Int32) (M : Mem) : Option (Int32 × Mem) :=
  chk (isO M 10 o) <|
  obd (f_X10_isNode o a1 M) fun r3 =>
  if r3 = 0 then (
    some ((0 : Int32), M)
    ) else (
    obd (f_X10_isNode o a2 M) fun r7 =>
    if r7 = 0 then (
      some ((0 : Int32), M)
      ) else (
      obd (f_X10_isIn a3 (1 : Int32) (9 : Int32) M) fun r11 =>
      if r11 = 0 then (
        some ((0 : Int32), M)
        ) else (
        bnd (mR M o 0) fun o14 =>
        chk (isO M 100 o14) <|
        chk (inB (((10209 : Int32) + ((16 : Int32) * a1)) + a2) (mLn M o14)) <|
        bnd (sI M o14 ((((10209 : Int32) + ((16 : Int32) * a1)) + a2)).toNatClampNeg a3) fun M18 =>
        some ((1 : Int32), M18)
        )
      )
    )
theorem cd_X10_delay : (yX10_delay.cls ≠ "java/lang/invoke/MethodHandle" ∧ yX10_delay.cls ≠ "java/lang/invoke/VarHandle") ∧ (parseMethodDescriptor yX10_delay.desc).map (fun d => d.parameters.length) = some 3 := ⟨⟨by decide +kernel, by decide +kernel⟩, by decide +kernel⟩
theorem k_X10_delay (G : Gam) {o : Nat} {a1 : Int32} {a2 : Int32} {a3 : Int32} {M : Mem} {rv : (Int32 × Mem)} (hf : f_X10_delay o a1 a2 a3 M = some rv) : Kt yX10_delay cX10_delay 4 (some .boolean) 2 43 G [.ref (gB G + o), .int a1, .int a2, .int a3] M rv.2 (some (.int rv.1)) := by
  refine Kt.of (by decide) (Nat.le_of_ble_eq_true rfl) ?_
  intro p l e R s m args below meth c X hr hlk hnm
  refine s_drop [0, 1, 2, 3] (vs' := [(0, .ref (gB G + o)), (1, .int a1), (2, .int a2), (3, .int a3)]) rfl ?_
  rw [f_X10_delay] at hf
  refine s_aload_n X 0 dX10_delay_0 rfl rfl ?_
  refine s_iload_n X 1 dX10_delay_1 rfl rfl ?_
  obtain ⟨h1, hf⟩ := pk_chk hf
  obtain ⟨r3, hc2, hf⟩ := pk_obd hf
  refine s_callV X (ci := 10) (k_X10_isNode G hc2) rfl h1 wd1554 wd1556 wd53 wd1557 wd138 cd_X10_isNode ⟨Nat.le_of_ble_eq_true rfl, Nat.le_of_ble_eq_true rfl⟩ (Nat.le_of_ble_eq_true rfl) dX10_delay_2 ?_
  have hs4 := pk_ite hf
  clear hf
  refine s_if_eq X (tgt := 26) dX10_delay_5 rfl (fun c5 => ?_) (fun c5 => ?_)
  · have hf := hs4.1 c5
    refine s_iconst X (v := (0 : Int32)) dX10_delay_26 rfl ?_
    cases hf
    exact s_zret X hr (bz_n (Or.inl rfl)) hlk dX10_delay_27
  · have hf := hs4.2 c5
    refine s_aload_n X 0 dX10_delay_8 rfl rfl ?_
    refine s_iload_n X 2 dX10_delay_9 rfl rfl ?_
    obtain ⟨r7, hc6, hf⟩ := pk_obd hf
    refine s_callV X (ci := 10) (k_X10_isNode G hc6) rfl h1 wd1554 wd1556 wd53 wd1557 wd138 cd_X10_isNode ⟨Nat.le_of_ble_eq_true rfl, Nat.le_of_ble_eq_true rfl⟩ (Nat.le_of_ble_eq_true rfl) dX10_delay_10 ?_
    have hs8 := pk_ite hf
    clear hf
    refine s_if_eq X (tgt := 26) dX10_delay_13 rfl (fun c9 => ?_) (fun c9 => ?_)
    · have hf := hs8.1 c9
      refine s_iconst X (v := (0 : Int32)) dX10_delay_26 rfl ?_
      cases hf
      exact s_zret X hr (bz_n (Or.inl rfl)) hlk dX10_delay_27
    · have hf := hs8.2 c9
      refine s_iload_n X 3 dX10_delay_16 rfl rfl ?_
      refine s_iconst X (v := (1 : Int32)) dX10_delay_17 rfl ?_
      refine s_bipush X (v := (9 : Int32)) dX10_delay_18 rfl ?_
      obtain ⟨r11, hc10, hf⟩ := pk_obd hf
      refine s_callS X (k_X10_isIn G hc10) wd1520 wd1521 wd1522 wd138 cd_X10_isIn ⟨Nat.le_of_ble_eq_true rfl, Nat.le_of_ble_eq_true rfl⟩ (Nat.le_of_ble_eq_true rfl) dX10_delay_20 ?_
      have hs12 := pk_ite hf
      clear hf
      refine s_if_ne X (tgt := 28) dX10_delay_23 rfl (fun c13 => ?_) (fun c13 => ?_)
      · have hf := hs12.2 c13
        refine s_aload_n X 0 dX10_delay_28 rfl rfl ?_
        obtain ⟨o14, e15, hf⟩ := pk_bnd hf
        obtain ⟨h16, hf⟩ := pk_chk hf
        refine s_getR X (ci := 10) (k := 0) rfl (Nat.le_of_ble_eq_true rfl) h1 wd1440 (fun _ _ _ => rfl) (e15 ▸ h16) dX10_delay_29 (e15 ▸ ?_)
        refine s_sipush X (v := (10209 : Int32)) dX10_delay_32 rfl ?_
        refine s_bipush X (v := (16 : Int32)) dX10_delay_35 rfl ?_
        refine s_iload_n X 1 dX10_delay_37 rfl rfl ?_
        refine s_imul X dX10_delay_38 ?_
        refine s_iadd X dX10_delay_39 ?_
        refine s_iload_n X 2 dX10_delay_40 rfl rfl ?_
        refine s_iadd X dX10_delay_41 ?_
        refine s_iload_n X 3 dX10_delay_42 rfl rfl ?_
        obtain ⟨h17, hf⟩ := pk_chk hf
        obtain ⟨M18, e19, hf⟩ := pk_bnd hf
        refine s_iast X h16 h17 e19 dX10_delay_43 ?_
        have h20 := io_sI e19 h1
        have h21 := io_sI e19 h16
        refine s_iconst X (v := (1 : Int32)) dX10_delay_44 rfl ?_
        cases hf
        exact s_zret X hr (bz_n (Or.inr rfl)) hlk dX10_delay_45
      · have hf := hs12.1 c13
        refine s_iconst X (v := (0 : Int32)) dX10_delay_26 rfl ?_
        cases hf
        exact s_zret X hr (bz_n (Or.inl rfl)) hlk dX10_delay_27
theorem dX0_leaveWhoCameBy_0 : decode cX0_leaveWhoCameBy 0 = .ok (.iconst 0, 1) := dk_3 (by decide +kernel)
theorem dX0_leaveWhoCameBy_1 : decode cX0_leaveWhoCameBy 1 = .ok (.istore_n 3, 1) := dk_62 (by decide +kernel)
theorem dX0_leaveWhoCameBy_2 : decode cX0_leaveWhoCameBy 2 = .ok (.iload_n 3, 1) := dk_29 (by decide +kernel)
theorem dX0_leaveWhoCameBy_3 : decode cX0_leaveWhoCameBy 3 = .ok (.aload_n 1, 1) := dk_43 (by decide +kernel)
theorem dX0_leaveWhoCameBy_4 : decode cX0_leaveWhoCameBy 4 = .ok (.getfield 65, 3) := dk_180 (x := 0) (y := 65) (by decide +kernel) rfl
theorem dX0_leaveWhoCameBy_7 : decode cX0_leaveWhoCameBy 7 = .ok (.getfield 69, 3) := dk_180 (x := 0) (y := 69) (by decide +kernel) rfl
theorem dX0_leaveWhoCameBy_10 : decode cX0_leaveWhoCameBy 10 = .ok (.if_icmp .ge 38, 3) := dk_162 (x := 0) (y := 38) (by decide +kernel) rfl
theorem dX0_leaveWhoCameBy_13 : decode cX0_leaveWhoCameBy 13 = .ok (.aload_n 1, 1) := dk_43 (by decide +kernel)
theorem dX0_leaveWhoCameBy_14 : decode cX0_leaveWhoCameBy 14 = .ok (.getfield 59, 3) := dk_180 (x := 0) (y := 59) (by decide +kernel) rfl
theorem dX0_leaveWhoCameBy_17 : decode cX0_leaveWhoCameBy 17 = .ok (.iload_n 3, 1) := dk_29 (by decide +kernel)
theorem dX0_leaveWhoCameBy_18 : decode cX0_leaveWhoCameBy 18 = .ok (.invokestatic 74, 3) := dk_184 (x := 0) (y := 74) (by decide +kernel) rfl
theorem dX0_leaveWhoCameBy_21 : decode cX0_leaveWhoCameBy 21 = .ok (.ifCond .eq 21, 3) := dk_153 (x := 0) (y := 21) (by decide +kernel) rfl
theorem dX0_leaveWhoCameBy_24 : decode cX0_leaveWhoCameBy 24 = .ok (.aload_n 1, 1) := dk_43 (by decide +kernel)
theorem dX0_leaveWhoCameBy_25 : decode cX0_leaveWhoCameBy 25 = .ok (.getfield 78, 3) := dk_180 (x := 0) (y := 78) (by decide +kernel) rfl
theorem dX0_leaveWhoCameBy_28 : decode cX0_leaveWhoCameBy 28 = .ok (.iload_n 3, 1) := dk_29 (by decide +kernel)
theorem dX0_leaveWhoCameBy_29 : decode cX0_leaveWhoCameBy 29 = .ok (.aaload, 1) := dk_50 (by decide +kernel)
theorem dX0_leaveWhoCameBy_30 : decode cX0_leaveWhoCameBy 30 = .ok (.getfield 82, 3) := dk_180 (x := 0) (y := 82) (by decide +kernel) rfl
theorem dX0_leaveWhoCameBy_33 : decode cX0_leaveWhoCameBy 33 = .ok (.iload_n 2, 1) := dk_28 (by decide +kernel)
theorem dX0_leaveWhoCameBy_34 : decode cX0_leaveWhoCameBy 34 = .ok (.if_icmp .gt 8, 3) := dk_163 (x := 0) (y := 8) (by decide +kernel) rfl
theorem dX0_leaveWhoCameBy_37 : decode cX0_leaveWhoCameBy 37 = .ok (.aload_n 1, 1) := dk_43 (by decide +kernel)
theorem dX0_leaveWhoCameBy_38 : decode cX0_leaveWhoCameBy 38 = .ok (.iload_n 3, 1) := dk_29 (by decide +kernel)
theorem dX0_leaveWhoCameBy_39 : decode cX0_leaveWhoCameBy 39 = .ok (.invokevirtual 87, 3) := dk_182 (x := 0) (y := 87) (by decide +kernel) rfl
theorem dX0_leaveWhoCameBy_42 : decode cX0_leaveWhoCameBy 42 = .ok (.iinc 3 1, 3) := dk_132 (x := 3) (y := 1) (by decide +kernel) rfl
theorem dX0_leaveWhoCameBy_45 : decode cX0_leaveWhoCameBy 45 = .ok (.goto (-43), 3) := dk_167 (x := 255) (y := 213) (by decide +kernel) rfl
theorem dX0_leaveWhoCameBy_48 : decode cX0_leaveWhoCameBy 48 = .ok (.return_, 1) := dk_177 (by decide +kernel)
def f_X0_leaveWhoCameBy_2 : Nat → Nat → Int32 → Int32 → Mem → Option Mem
  | 0, _, _, _, _ => none
  | n + 1, v1, v2, v3, M =>
    chk (isO M 2 v1) <|
    bnd (mR M v1 0) fun o2 =>
    chk (isO M 7 o2) <|
    if (mI M o2 3) ≤ v3 then (
      some M
      ) else (
      obd (f_X9_has (mI M v1 7) v3 M) fun r8 =>
      if r8 = 0 then (
        bnd (v3 + (1 : Int32)) fun x11 =>
        f_X0_leaveWhoCameBy_2 n v1 v2 x11 M
        ) else (
        bnd (mR M v1 2) fun o13 =>
        chk (isO M 102 o13) <|
        chk (inB v3 (mLn M o13)) <|
        bnd (mR M o13 (v3).toNatClampNeg) fun o17 =>
        chk (isO M 4 o17) <|
        if v2 < (mI M o17 15) then (
          bnd (v3 + (1 : Int32)) fun x22 =>
          f_X0_leaveWhoCameBy_2 n v1 v2 x22 M
          ) else (
          obd (f_X2_finish n v1 v3 M) fun M25 =>
          bnd (v3 + (1 : Int32)) fun x26 =>
          f_X0_leaveWhoCameBy_2 n v1 v2 x26 M25
          )
        )
      )
def f_X0_leaveWhoCameBy (n : Nat) (o : Nat) (a1 : Nat) (a2 : Int32) (M : Mem) : Option Mem :=
  f_X0_leaveWhoCameBy_2 n a1 a2 (0 : Int32) M
theorem cd_X0_leaveWhoCameBy : (yX0_leaveWhoCameBy.cls ≠ "java/lang/invoke/MethodHandle" ∧ yX0_leaveWhoCameBy.cls ≠ "java/lang/invoke/VarHandle") ∧ (parseMethodDescriptor yX0_leaveWhoCameBy.desc).map (fun d => d.parameters.length) = some 2 := ⟨⟨by decide +kernel, by decide +kernel⟩, by decide +kernel⟩
section
variable {p : Program} {l : Launch} {e : Env} {R : Room} {s : State} {m : MethodId} {args : Array Value} {below : List Frame} {meth : Method} {c : Code} {G : Gam} {M0 : Mem}
theorem l_X0_leaveWhoCameBy_2 {rv : Mem} (X : Cx p R s m args c G M0 cX0_leaveWhoCameBy yX0_leaveWhoCameBy.cls 4 5 121) (hr : meth.sig.returnType = none) (hlk : meth.locks = false) (hnm : meth.name = "leaveWhoCameBy") : ∀ {n : Nat} (v1 : Nat) (v2 : Int32) (v3 : Int32) (M : Mem), f_X0_leaveWhoCameBy_2 n v1 v2 v3 M = some rv → Sg p l e R s m args below meth c (Qm below G args s none M0 rv) G M0 4 2 [(1, .ref (gB G + v1)), (2, .int v2), (3, .int v3)] [] M := by
  intro n
  induction n with
  | zero => intro v1 v2 v3 M hf; exact (pk_none hf).elim
  | succ n ih =>
    intro v1 v2 v3 M hf
    rw [f_X0_leaveWhoCameBy_2] at hf
    refine s_iload_n X 2 dX0_leaveWhoCameBy_2 rfl rfl ?_
    refine s_aload_n X 0 dX0_leaveWhoCameBy_3 rfl rfl ?_
    obtain ⟨h1, hf⟩ := pk_chk hf
    obtain ⟨o2, e3, hf⟩ := pk_bnd hf
    obtain ⟨h4, hf⟩ := pk_chk hf
    refine s_getR X (ci := 2) (k := 0) rfl (Nat.le_of_ble_eq_true rfl) h1 wd417 (fun _ _ _ => rfl) (e3 ▸ h4) dX0_leaveWhoCameBy_4 (e3 ▸ ?_)
    refine s_getI X (ci := 7) (k := 3) rfl (Nat.le_of_ble_eq_true rfl) h4 wd167 (fun _ _ _ => rfl) dX0_leaveWhoCameBy_7 ?_
    have hs5 := pk_ite hf
    clear hf
    refine s_icmp_ge X (tgt := 48) dX0_leaveWhoCameBy_10 rfl (fun c6 => ?_) (fun c6 => ?_)
    · have hf := hs5.1 c6
      cases hf
      exact s_vret X hr hlk dX0_leaveWhoCameBy_48
    · have hf := hs5.2 c6
      refine s_aload_n X 0 dX0_leaveWhoCameBy_13 rfl rfl ?_
      refine s_getI X (ci := 2) (k := 7) rfl (Nat.le_of_ble_eq_true rfl) h1 wd435 (fun _ _ _ => rfl) dX0_leaveWhoCameBy_14 ?_
      refine s_iload_n X 2 dX0_leaveWhoCameBy_17 rfl rfl ?_
      obtain ⟨r8, hc7, hf⟩ := pk_obd hf
      refine s_callSN X (k_X9_has G hc7) (host := "QuorumGate") ns_15 wd712 wd713 wd126 cd_X9_has ⟨Nat.le_of_ble_eq_true rfl, Nat.le_of_ble_eq_true rfl⟩ (Nat.le_of_ble_eq_true rfl) dX0_leaveWhoCameBy_18 ?_
      have hs9 := pk_ite hf
      clear hf
      refine s_if_eq X (tgt := 42) dX0_leaveWhoCameBy_21 rfl (fun c10 => ?_) (fun c10 => ?_)
      · have hf := hs9.1 c10
        obtain ⟨x11, e12, hf⟩ := pk_bnd hf
        refine s_iinc X (vs' := [(1, .ref (gB G + v1)), (2, .int v2), (3, .int x11)]) 2 dX0_leaveWhoCameBy_42 rfl (v := x11) e12.symm (Nat.le_of_ble_eq_true rfl) [1, 2, 0] rfl ?_
        refine s_goto X (tgt := 2) dX0_leaveWhoCameBy_45 rfl ?_
        exact ih _ _ _ _ hf
      · have hf := hs9.2 c10
        refine s_aload_n X 0 dX0_leaveWhoCameBy_24 rfl rfl ?_
        obtain ⟨o13, e14, hf⟩ := pk_bnd hf
        obtain ⟨h15, hf⟩ := pk_chk hf
        refine s_getR X (ci := 2) (k := 2) rfl (Nat.le_of_ble_eq_true rfl) h1 wd425 (fun _ _ _ => rfl) (e14 ▸ h15) dX0_leaveWhoCameBy_25 (e14 ▸ ?_)
        refine s_iload_n X 2 dX0_leaveWhoCameBy_28 rfl rfl ?_
        obtain ⟨h16, hf⟩ := pk_chk hf
        obtain ⟨o17, e18, hf⟩ := pk_bnd hf
        obtain ⟨h19, hf⟩ := pk_chk hf
        refine s_aald X h15 h16 (e18 ▸ h19) dX0_leaveWhoCameBy_29 (e18 ▸ ?_)
        refine s_getI X (ci := 4) (k := 15) rfl (Nat.le_of_ble_eq_true rfl) h19 wd380 (fun _ _ _ => rfl) dX0_leaveWhoCameBy_30 ?_
        refine s_iload_n X 1 dX0_leaveWhoCameBy_33 rfl rfl ?_
        have hs20 := pk_ite hf
        clear hf
        refine s_icmp_gt X (tgt := 42) dX0_leaveWhoCameBy_34 rfl (fun c21 => ?_) (fun c21 => ?_)
        · have hf := hs20.1 c21
          obtain ⟨x22, e23, hf⟩ := pk_bnd hf
          refine s_iinc X (vs' := [(1, .ref (gB G + v1)), (2, .int v2), (3, .int x22)]) 2 dX0_leaveWhoCameBy_42 rfl (v := x22) e23.symm (Nat.le_of_ble_eq_true rfl) [1, 2, 0] rfl ?_
          refine s_goto X (tgt := 2) dX0_leaveWhoCameBy_45 rfl ?_
          exact ih _ _ _ _ hf
        · have hf := hs20.2 c21
          refine s_aload_n X 0 dX0_leaveWhoCameBy_37 rfl rfl ?_
          refine s_iload_n X 2 dX0_leaveWhoCameBy_38 rfl rfl ?_
          obtain ⟨M25, hc24, hf⟩ := pk_obd hf
          refine s_callV X (ci := 2) (k_X2_finish G hc24) rfl h1 wd1349 wd968 wd969 wd970 wd130 cd_X2_finish ⟨Nat.le_of_ble_eq_true rfl, Nat.le_of_ble_eq_true rfl⟩ (Nat.le_of_ble_eq_true rfl) dX0_leaveWhoCameBy_39 ?_
          obtain ⟨x26, e27, hf⟩ := pk_bnd hf
          refine s_iinc X (vs' := [(1, .ref (gB G + v1)), (2, .int v2), (3, .int x26)]) 2 dX0_leaveWhoCameBy_42 rfl (v := x26) e27.symm (Nat.le_of_ble_eq_true rfl) [1, 2, 0] rfl ?_
          refine s_goto X (tgt := 2) dX0_leaveWhoCameBy_45 rfl ?_
          exact ih _ _ _ _ hf
end
theorem k_X0_leaveWhoCameBy (G : Gam) {n : Nat} {o : Nat} {a1 : Nat} {a2 : Int32} {M : Mem} {rv : Mem} (hf : f_X0_leaveWhoCameBy n o a1 a2 M = some rv) : Kt yX0_leaveWhoCameBy cX0_leaveWhoCameBy 4 none 5 121 G [.ref (gB G + o), .ref (gB G + a1), .int a2] M rv none := by
  refine Kt.of (by decide) (Nat.le_of_ble_eq_true rfl) ?_
  intro p l e R s m args below meth c X hr hlk hnm
  refine s_drop [0, 1, 2] (vs' := [(0, .ref (gB G + o)), (1, .ref (gB G + a1)), (2, .int a2)]) rfl ?_
  rw [f_X0_leaveWhoCameBy] at hf
  refine s_iconst X (v := (0 : Int32)) dX0_leaveWhoCameBy_0 rfl ?_
  refine s_istore_n X (vs' := [(0, .ref (gB G + o)), (1, .ref (gB G + a1)), (2, .int a2), (3, .int (0 : Int32))]) dX0_leaveWhoCameBy_1 rfl (Nat.le_of_ble_eq_true rfl) [1, 2, 3, 0] rfl ?_
  refine s_drop [1, 2, 3] (vs' := [(1, .ref (gB G + a1)), (2, .int a2), (3, .int (0 : Int32))]) rfl ?_
  exact l_X0_leaveWhoCameBy_2 X hr hlk hnm _ _ _ _ hf
theorem dX5_hasGoneBy_0 : decode cX5_hasGoneBy 0 = .ok (.iload_n 1, 1) := dk_27 (by decide +kernel)
theorem dX5_hasGoneBy_1 : decode cX5_hasGoneBy 1 = .ok (.bipush 16, 2) := dk_16 (x := 16) (by decide +kernel) rfl
theorem dX5_hasGoneBy_3 : decode cX5_hasGoneBy 3 = .ok (.imul, 1) := dk_104 (by decide +kernel)
theorem dX5_hasGoneBy_4 : decode cX5_hasGoneBy 4 = .ok (.iload_n 2, 1) := dk_28 (by decide +kernel)
theorem dX5_hasGoneBy_5 : decode cX5_hasGoneBy 5 = .ok (.iadd, 1) := dk_96 (by decide +kernel)
theorem dX5_hasGoneBy_6 : decode cX5_hasGoneBy 6 = .ok (.istore 4, 2) := dk_54 (x := 4) (by decide +kernel)
theorem dX5_hasGoneBy_8 : decode cX5_hasGoneBy 8 = .ok (.aload_n 0, 1) := dk_42 (by decide +kernel)
theorem dX5_hasGoneBy_9 : decode cX5_hasGoneBy 9 = .ok (.getfield 18, 3) := dk_180 (x := 0) (y := 18) (by decide +kernel) rfl
theorem dX5_hasGoneBy_12 : decode cX5_hasGoneBy 12 = .ok (.iload 4, 2) := dk_21 (x := 4) (by decide +kernel)
theorem dX5_hasGoneBy_14 : decode cX5_hasGoneBy 14 = .ok (.iaload, 1) := dk_46 (by decide +kernel)
theorem dX5_hasGoneBy_15 : decode cX5_hasGoneBy 15 = .ok (.ifCond .le 23, 3) := dk_158 (x := 0) (y := 23) (by decide +kernel) rfl
theorem dX5_hasGoneBy_18 : decode cX5_hasGoneBy 18 = .ok (.aload_n 0, 1) := dk_42 (by decide +kernel)
theorem dX5_hasGoneBy_19 : decode cX5_hasGoneBy 19 = .ok (.getfield 30, 3) := dk_180 (x := 0) (y := 30) (by decide +kernel) rfl
theorem dX5_hasGoneBy_22 : decode cX5_hasGoneBy 22 = .ok (.aload_n 0, 1) := dk_42 (by decide +kernel)
theorem dX5_hasGoneBy_23 : decode cX5_hasGoneBy 23 = .ok (.getfield 9, 3) := dk_180 (x := 0) (y := 9) (by decide +kernel) rfl
theorem dX5_hasGoneBy_26 : decode cX5_hasGoneBy 26 = .ok (.iload 4, 2) := dk_21 (x := 4) (by decide +kernel)
theorem dX5_hasGoneBy_28 : decode cX5_hasGoneBy 28 = .ok (.iaload, 1) := dk_46 (by decide +kernel)
theorem dX5_hasGoneBy_29 : decode cX5_hasGoneBy 29 = .ok (.iaload, 1) := dk_46 (by decide +kernel)
theorem dX5_hasGoneBy_30 : decode cX5_hasGoneBy 30 = .ok (.iload_n 3, 1) := dk_29 (by decide +kernel)
theorem dX5_hasGoneBy_31 : decode cX5_hasGoneBy 31 = .ok (.if_icmp .gt 7, 3) := dk_163 (x := 0) (y := 7) (by decide +kernel) rfl
theorem dX5_hasGoneBy_34 : decode cX5_hasGoneBy 34 = .ok (.iconst 1, 1) := dk_4 (by decide +kernel)
theorem dX5_hasGoneBy_35 : decode cX5_hasGoneBy 35 = .ok (.goto 4, 3) := dk_167 (x := 0) (y := 4) (by decide +kernel) rfl
theorem dX5_hasGoneBy_38 : decode cX5_hasGoneBy 38 = .ok (.iconst 0, 1) := dk_3 (by decide +kernel)
theorem dX5_hasGoneBy_39 : decode cX5_hasGoneBy 39 = .ok (.ireturn, 1) := dk_172 (by decide +kernel)
def f_X5_hasGoneBy (o : Nat) (a1 : Int32) (a2 : Int32) (a3 : Int32) (M : Mem) : Option Int32 :=
  bnd ((a1 * (16 : Int32)) + a2) fun x1 =>
  chk (isO M 5 o) <|
  bnd (mR M o 2) fun o4 =>
  chk (isO M 100 o4) <|
  chk (inB x1 (mLn M o4)) <|
  if (mI M o4 (x1).toNatClampNeg) ≤ 0 then (
    some (0 : Int32)
    ) else (
    bnd (mR M o 6) fun o10 =>
    chk (isO M 100 o10) <|
    bnd (mR M o 0) fun o13 =>
    chk (isO M 100 o13) <|
    chk (inB x1 (mLn M o13)) <|
    chk (inB (mI M o13 (x1).toNatClampNeg) (mLn M o10)) <|
    if a3 < (mI M o10 ((mI M o13 (x1).toNatClampNeg)).toNatClampNeg) then (
      some (0 : Int32)
      ) else (
      some (1 : Int32)
      )
    )
theorem cd_X5_hasGoneBy : (yX5_hasGoneBy.cls ≠ "java/lang/invoke/MethodHandle" ∧ yX5_hasGoneBy.cls ≠ "java/lang/invoke/VarHandle") ∧ (parseMethodDescriptor yX5_hasGoneBy.desc).map (fun d => d.parameters.length) = some 3 := ⟨⟨by decide +kernel, by decide +kernel⟩, by decide +kernel⟩
theorem k_X5_hasGoneBy (G : Gam) {o : Nat} {a1 : Int32} {a2 : Int32} {a3 : Int32} {M : Mem} {rv : Int32} (hf : f_X5_hasGoneBy o a1 a2 a3 M = some rv) : Kt yX5_hasGoneBy cX5_hasGoneBy 5 (some .boolean) 0 0 G [.ref (gB G + o), .int a1, .int a2, .int a3] M M (some (.int rv)) := by
  refine Kt.of (by decide) (Nat.le_of_ble_eq_true rfl) ?_
  intro p l e R s m args below meth c X hr hlk hnm
  refine s_drop [0, 1, 2, 3] (vs' := [(0, .ref (gB G + o)), (1, .int a1), (2, .int a2), (3, .int a3)]) rfl ?_
  rw [f_X5_hasGoneBy] at hf
  refine s_iload_n X 1 dX5_hasGoneBy_0 rfl rfl ?_
  refine s_bipush X (v := (16 : Int32)) dX5_hasGoneBy_1 rfl ?_
  refine s_imul X dX5_hasGoneBy_3 ?_
  refine s_iload_n X 2 dX5_hasGoneBy_4 rfl rfl ?_
  refine s_iadd X dX5_hasGoneBy_5 ?_
  obtain ⟨x1, e2, hf⟩ := pk_bnd hf
  refine s_nmI e2 ?_
  refine s_istore X (vs' := [(0, .ref (gB G + o)), (1, .int a1), (2, .int a2), (3, .int a3), (4, .int x1)]) dX5_hasGoneBy_6 (Nat.le_of_ble_eq_true rfl) [1, 2, 3, 4, 0] rfl ?_
  refine s_aload_n X 0 dX5_hasGoneBy_8 rfl rfl ?_
  obtain ⟨h3, hf⟩ := pk_chk hf
  obtain ⟨o4, e5, hf⟩ := pk_bnd hf
  obtain ⟨h6, hf⟩ := pk_chk hf
  refine s_getR X (ci := 5) (k := 2) rfl (Nat.le_of_ble_eq_true rfl) h3 wd251 (fun _ _ _ => rfl) (e5 ▸ h6) dX5_hasGoneBy_9 (e5 ▸ ?_)
  refine s_iload X 4 dX5_hasGoneBy_12 rfl ?_
  obtain ⟨h7, hf⟩ := pk_chk hf
  refine s_iald X h6 h7 dX5_hasGoneBy_14 ?_
  have hs8 := pk_ite hf
  clear hf
  refine s_if_le X (tgt := 38) dX5_hasGoneBy_15 rfl (fun c9 => ?_) (fun c9 => ?_)
  · have hf := hs8.1 c9
    refine s_iconst X (v := (0 : Int32)) dX5_hasGoneBy_38 rfl ?_
    cases hf
    exact s_zret X hr (bz_n (Or.inl rfl)) hlk dX5_hasGoneBy_39
  · have hf := hs8.2 c9
    refine s_aload_n X 0 dX5_hasGoneBy_18 rfl rfl ?_
    obtain ⟨o10, e11, hf⟩ := pk_bnd hf
    obtain ⟨h12, hf⟩ := pk_chk hf
    refine s_getR X (ci := 5) (k := 6) rfl (Nat.le_of_ble_eq_true rfl) h3 wd261 (fun _ _ _ => rfl) (e11 ▸ h12) dX5_hasGoneBy_19 (e11 ▸ ?_)
    refine s_aload_n X 0 dX5_hasGoneBy_22 rfl rfl ?_
    obtain ⟨o13, e14, hf⟩ := pk_bnd hf
    obtain ⟨h15, hf⟩ := pk_chk hf
    refine s_getR X (ci := 5) (k := 0) rfl (Nat.le_of_ble_eq_true rfl) h3 wd248 (fun _ _ _ => rfl) (e14 ▸ h15) dX5_hasGoneBy_23 (e14 ▸ ?_)
    refine s_iload X 4 dX5_hasGoneBy_26 rfl ?_
    obtain ⟨h16, hf⟩ := pk_chk hf
    refine s_iald X h15 h16 dX5_hasGoneBy_28 ?_
    obtain ⟨h17, hf⟩ := pk_chk hf
    refine s_iald X h12 h17 dX5_hasGoneBy_29 ?_
    refine s_iload_n X 3 dX5_hasGoneBy_30 rfl rfl ?_
    have hs18 := pk_ite hf
    clear hf
    refine s_icmp_gt X (tgt := 38) dX5_hasGoneBy_31 rfl (fun c19 => ?_) (fun c19 => ?_)
    · have hf := hs18.1 c19
      refine s_iconst X (v := (0 : Int32)) dX5_hasGoneBy_38 rfl ?_
      cases hf
      exact s_zret X hr (bz_n (Or.inl rfl)) hlk dX5_hasGoneBy_39
    · have hf := hs18.2 c19
      refine s_iconst X (v := (1 : Int32)) dX5_hasGoneBy_34 rfl ?_
      refine s_goto X (tgt := 39) dX5_hasGoneBy_35 rfl ?_
      cases hf
      exact s_zret X hr (bz_n (Or.inr rfl)) hlk dX5_hasGoneBy_39
theorem dX0_bringDue_0 : decode cX0_bringDue 0 = .ok (.iconst 0, 1) := dk_3 (by decide +kernel)
theorem dX0_bringDue_1 : decode cX0_bringDue 1 = .ok (.istore 4, 2) := dk_54 (x := 4) (by decide +kernel)
theorem dX0_bringDue_3 : decode cX0_bringDue 3 = .ok (.iload 4, 2) := dk_21 (x := 4) (by decide +kernel)
theorem dX0_bringDue_5 : decode cX0_bringDue 5 = .ok (.aload_n 1, 1) := dk_43 (by decide +kernel)
theorem dX0_bringDue_6 : decode cX0_bringDue 6 = .ok (.getfield 65, 3) := dk_180 (x := 0) (y := 65) (by decide +kernel) rfl
theorem dX0_bringDue_9 : decode cX0_bringDue 9 = .ok (.getfield 69, 3) := dk_180 (x := 0) (y := 69) (by decide +kernel) rfl
theorem dX0_bringDue_12 : decode cX0_bringDue 12 = .ok (.if_icmp .ge 124, 3) := dk_162 (x := 0) (y := 124) (by decide +kernel) rfl
theorem dX0_bringDue_15 : decode cX0_bringDue 15 = .ok (.iconst 0, 1) := dk_3 (by decide +kernel)
theorem dX0_bringDue_16 : decode cX0_bringDue 16 = .ok (.istore 5, 2) := dk_54 (x := 5) (by decide +kernel)
theorem dX0_bringDue_18 : decode cX0_bringDue 18 = .ok (.iload 5, 2) := dk_21 (x := 5) (by decide +kernel)
theorem dX0_bringDue_20 : decode cX0_bringDue 20 = .ok (.aload_n 1, 1) := dk_43 (by decide +kernel)
theorem dX0_bringDue_21 : decode cX0_bringDue 21 = .ok (.getfield 65, 3) := dk_180 (x := 0) (y := 65) (by decide +kernel) rfl
theorem dX0_bringDue_24 : decode cX0_bringDue 24 = .ok (.getfield 69, 3) := dk_180 (x := 0) (y := 69) (by decide +kernel) rfl
theorem dX0_bringDue_27 : decode cX0_bringDue 27 = .ok (.if_icmp .ge 103, 3) := dk_162 (x := 0) (y := 103) (by decide +kernel) rfl
theorem dX0_bringDue_30 : decode cX0_bringDue 30 = .ok (.aload_n 1, 1) := dk_43 (by decide +kernel)
theorem dX0_bringDue_31 : decode cX0_bringDue 31 = .ok (.getfield 36, 3) := dk_180 (x := 0) (y := 36) (by decide +kernel) rfl
theorem dX0_bringDue_34 : decode cX0_bringDue 34 = .ok (.getfield 91, 3) := dk_180 (x := 0) (y := 91) (by decide +kernel) rfl
theorem dX0_bringDue_37 : decode cX0_bringDue 37 = .ok (.iload 4, 2) := dk_21 (x := 4) (by decide +kernel)
theorem dX0_bringDue_39 : decode cX0_bringDue 39 = .ok (.iaload, 1) := dk_46 (by decide +kernel)
theorem dX0_bringDue_40 : decode cX0_bringDue 40 = .ok (.ifCond .eq 90, 3) := dk_153 (x := 0) (y := 90) (by decide +kernel) rfl
theorem dX0_bringDue_43 : decode cX0_bringDue 43 = .ok (.aload_n 0, 1) := dk_42 (by decide +kernel)
theorem dX0_bringDue_44 : decode cX0_bringDue 44 = .ok (.getfield 9, 3) := dk_180 (x := 0) (y := 9) (by decide +kernel) rfl
theorem dX0_bringDue_47 : decode cX0_bringDue 47 = .ok (.iload 4, 2) := dk_21 (x := 4) (by decide +kernel)
theorem dX0_bringDue_49 : decode cX0_bringDue 49 = .ok (.bipush 16, 2) := dk_16 (x := 16) (by decide +kernel) rfl
theorem dX0_bringDue_51 : decode cX0_bringDue 51 = .ok (.imul, 1) := dk_104 (by decide +kernel)
theorem dX0_bringDue_52 : decode cX0_bringDue 52 = .ok (.iload 5, 2) := dk_21 (x := 5) (by decide +kernel)
theorem dX0_bringDue_54 : decode cX0_bringDue 54 = .ok (.iadd, 1) := dk_96 (by decide +kernel)
theorem dX0_bringDue_55 : decode cX0_bringDue 55 = .ok (.iaload, 1) := dk_46 (by decide +kernel)
theorem dX0_bringDue_56 : decode cX0_bringDue 56 = .ok (.iload_n 2, 1) := dk_28 (by decide +kernel)
theorem dX0_bringDue_57 : decode cX0_bringDue 57 = .ok (.if_icmp .ne 7, 3) := dk_160 (x := 0) (y := 7) (by decide +kernel) rfl
theorem dX0_bringDue_60 : decode cX0_bringDue 60 = .ok (.iconst 1, 1) := dk_4 (by decide +kernel)
theorem dX0_bringDue_61 : decode cX0_bringDue 61 = .ok (.goto 4, 3) := dk_167 (x := 0) (y := 4) (by decide +kernel) rfl
theorem dX0_bringDue_64 : decode cX0_bringDue 64 = .ok (.iconst 0, 1) := dk_3 (by decide +kernel)
theorem dX0_bringDue_65 : decode cX0_bringDue 65 = .ok (.istore 6, 2) := dk_54 (x := 6) (by decide +kernel)
theorem dX0_bringDue_67 : decode cX0_bringDue 67 = .ok (.iload 6, 2) := dk_21 (x := 6) (by decide +kernel)
theorem dX0_bringDue_69 : decode cX0_bringDue 69 = .ok (.ifCond .eq 17, 3) := dk_153 (x := 0) (y := 17) (by decide +kernel) rfl
theorem dX0_bringDue_72 : decode cX0_bringDue 72 = .ok (.aload_n 1, 1) := dk_43 (by decide +kernel)
theorem dX0_bringDue_73 : decode cX0_bringDue 73 = .ok (.getfield 36, 3) := dk_180 (x := 0) (y := 36) (by decide +kernel) rfl
theorem dX0_bringDue_76 : decode cX0_bringDue 76 = .ok (.iload 4, 2) := dk_21 (x := 4) (by decide +kernel)
theorem dX0_bringDue_78 : decode cX0_bringDue 78 = .ok (.iload 5, 2) := dk_21 (x := 5) (by decide +kernel)
theorem dX0_bringDue_80 : decode cX0_bringDue 80 = .ok (.invokevirtual 94, 3) := dk_182 (x := 0) (y := 94) (by decide +kernel) rfl
theorem dX0_bringDue_83 : decode cX0_bringDue 83 = .ok (.goto 4, 3) := dk_167 (x := 0) (y := 4) (by decide +kernel) rfl
theorem dX0_bringDue_86 : decode cX0_bringDue 86 = .ok (.iconst 0, 1) := dk_3 (by decide +kernel)
theorem dX0_bringDue_87 : decode cX0_bringDue 87 = .ok (.istore 7, 2) := dk_54 (x := 7) (by decide +kernel)
theorem dX0_bringDue_89 : decode cX0_bringDue 89 = .ok (.iload 7, 2) := dk_21 (x := 7) (by decide +kernel)
theorem dX0_bringDue_91 : decode cX0_bringDue 91 = .ok (.ifCond .le 33, 3) := dk_158 (x := 0) (y := 33) (by decide +kernel) rfl
theorem dX0_bringDue_94 : decode cX0_bringDue 94 = .ok (.aload_n 1, 1) := dk_43 (by decide +kernel)
theorem dX0_bringDue_95 : decode cX0_bringDue 95 = .ok (.getfield 36, 3) := dk_180 (x := 0) (y := 36) (by decide +kernel) rfl
theorem dX0_bringDue_98 : decode cX0_bringDue 98 = .ok (.iload 4, 2) := dk_21 (x := 4) (by decide +kernel)
theorem dX0_bringDue_100 : decode cX0_bringDue 100 = .ok (.iload 5, 2) := dk_21 (x := 5) (by decide +kernel)
theorem dX0_bringDue_102 : decode cX0_bringDue 102 = .ok (.iload_n 3, 1) := dk_29 (by decide +kernel)
theorem dX0_bringDue_103 : decode cX0_bringDue 103 = .ok (.invokevirtual 97, 3) := dk_182 (x := 0) (y := 97) (by decide +kernel) rfl
theorem dX0_bringDue_106 : decode cX0_bringDue 106 = .ok (.ifCond .eq 12, 3) := dk_153 (x := 0) (y := 12) (by decide +kernel) rfl
theorem dX0_bringDue_109 : decode cX0_bringDue 109 = .ok (.aload_n 1, 1) := dk_43 (by decide +kernel)
theorem dX0_bringDue_110 : decode cX0_bringDue 110 = .ok (.iload 4, 2) := dk_21 (x := 4) (by decide +kernel)
theorem dX0_bringDue_112 : decode cX0_bringDue 112 = .ok (.iload 5, 2) := dk_21 (x := 5) (by decide +kernel)
theorem dX0_bringDue_114 : decode cX0_bringDue 114 = .ok (.invokevirtual 101, 3) := dk_182 (x := 0) (y := 101) (by decide +kernel) rfl
theorem dX0_bringDue_117 : decode cX0_bringDue 117 = .ok (.pop, 1) := dk_87 (by decide +kernel)
theorem dX0_bringDue_118 : decode cX0_bringDue 118 = .ok (.iinc 7 (-1), 3) := dk_132 (x := 7) (y := 255) (by decide +kernel) rfl
theorem dX0_bringDue_121 : decode cX0_bringDue 121 = .ok (.goto (-32), 3) := dk_167 (x := 255) (y := 224) (by decide +kernel) rfl
theorem dX0_bringDue_124 : decode cX0_bringDue 124 = .ok (.iinc 5 1, 3) := dk_132 (x := 5) (y := 1) (by decide +kernel) rfl
theorem dX0_bringDue_127 : decode cX0_bringDue 127 = .ok (.goto (-109), 3) := dk_167 (x := 255) (y := 147) (by decide +kernel) rfl
theorem dX0_bringDue_130 : decode cX0_bringDue 130 = .ok (.iinc 4 1, 3) := dk_132 (x := 4) (y := 1) (by decide +kernel) rfl
theorem dX0_bringDue_133 : decode cX0_bringDue 133 = .ok (.goto (-130), 3) := dk_167 (x := 255) (y := 126) (by decide +kernel) rfl
theorem dX0_bringDue_136 : decode cX0_bringDue 136 = .ok (.return_, 1) := dk_177 (by decide +kernel)
def f_X0_bringDue_89 (k_3 : Nat → Nat → Int32 → Int32 → Int32 → Mem → Option Mem) (k_18 : Nat → Nat → Int32 → Int32 → Int32 → Int32 → Mem → Option Mem) : Nat → Nat → Nat → Int32 → Int32 → Int32 → Int32 → Int32 → Mem → Option Mem
  | 0, _, _, _, _, _, _, _, _ => none
  | n + 1, v0, v1, v2, v3, v4, v5, v7, M =>
    if v7 ≤ 0 then (
      bnd (v5 + (1 : Int32)) fun x3 =>
      k_18 v0 v1 v2 v3 v4 x3 M
      ) else (
      chk (isO M 2 v1) <|
      bnd (mR M v1 1) fun o6 =>
      chk (isO M 5 o6) <|
      obd (f_X5_hasGoneBy o6 v4 v5 v3 M) fun r10 =>
      if r10 = 0 then (
        bnd (v7 + (-1 : Int32)) fun x13 =>
        f_X0_bringDue_89 k_3 k_18 n v0 v1 v2 v3 v4 v5 x13 M
        ) else (
        obd2 (f_X2_bringFirst n v1 v4 v5 M) fun r16 M17 =>
        bnd (v7 + (-1 : Int32)) fun x18 =>
        f_X0_bringDue_89 k_3 k_18 n v0 v1 v2 v3 v4 v5 x18 M17
        )
      )
def f_X0_bringDue_65 (k_3 : Nat → Nat → Int32 → Int32 → Int32 → Mem → Option Mem) (k_18 : Nat → Nat → Int32 → Int32 → Int32 → Int32 → Mem → Option Mem) (n : Nat) (v0 : Nat) (v1 : Nat) (v2 : Int32) (v3 : Int32) (v4 : Int32) (v5 : Int32) (u0 : Int32) (M : Mem) : Option Mem :=
    if u0 = 0 then (
      f_X0_bringDue_89 k_3 k_18 n v0 v1 v2 v3 v4 v5 (0 : Int32) M
      ) else (
      chk (isO M 2 v1) <|
      bnd (mR M v1 1) fun o4 =>
      chk (isO M 5 o4) <|
      obd (f_X5_countOn o4 v4 v5 M) fun r8 =>
      f_X0_bringDue_89 k_3 k_18 n v0 v1 v2 v3 v4 v5 r8 M
      )
def f_X0_bringDue_18 (k_3 : Nat → Nat → Int32 → Int32 → Int32 → Mem → Option Mem) : Nat → Nat → Nat → Int32 → Int32 → Int32 → Int32 → Mem → Option Mem
  | 0, _, _, _, _, _, _, _ => none
  | n + 1, v0, v1, v2, v3, v4, v5, M =>
    chk (isO M 2 v1) <|
    bnd (mR M v1 0) fun o2 =>
    chk (isO M 7 o2) <|
    if (mI M o2 3) ≤ v5 then (
      bnd (v4 + (1 : Int32)) fun x7 =>
      k_3 v0 v1 v2 v3 x7 M
      ) else (
      bnd (mR M v1 1) fun o9 =>
      chk (isO M 5 o9) <|
      bnd (mR M o9 3) fun o12 =>
      chk (isO M 100 o12) <|
      chk (inB v4 (mLn M o12)) <|
      if (mI M o12 (v4).toNatClampNeg) = 0 then (
        bnd (v4 + (1 : Int32)) fun x18 =>
        k_3 v0 v1 v2 v3 x18 M
        ) else (
        chk (isO M 0 v0) <|
        bnd (mR M v0 0) fun o21 =>
        chk (isO M 100 o21) <|
        chk (inB ((v4 * (16 : Int32)) + v5) (mLn M o21)) <|
        if (mI M o21 (((v4 * (16 : Int32)) + v5)).toNatClampNeg) = v2 then (
          f_X0_bringDue_65 k_3 (f_X0_bringDue_18 k_3 n) n v0 v1 v2 v3 v4 v5 (1 : Int32) M
          ) else (
          f_X0_bringDue_65 k_3 (f_X0_bringDue_18 k_3 n) n v0 v1 v2 v3 v4 v5 (0 : Int32) M
          )
        )
      )
def f_X0_bringDue_3 : Nat → Nat → Nat → Int32 → Int32 → Int32 → Mem → Option Mem
  | 0, _, _, _, _, _, _ => none
  | n + 1, v0, v1, v2, v3, v4, M =>
    chk (isO M 2 v1) <|
    bnd (mR M v1 0) fun o2 =>
    chk (isO M 7 o2) <|
    if (mI M o2 3) ≤ v4 then (
      some M
      ) else (
      f_X0_bringDue_18 (f_X0_bringDue_3 n) n v0 v1 v2 v3 v4 (0 : Int32) M
      )
def f_X0_bringDue (n : Nat) (o : Nat) (a1 : Nat) (a2 : Int32) (a3 : Int32) (M : Mem) : Option Mem :=
  f_X0_bringDue_3 n o a1 a2 a3 (0 : Int32) M
theorem cd_X0_bringDue : (yX0_bringDue.cls ≠ "java/lang/invoke/MethodHandle" ∧ yX0_bringDue.cls ≠ "java/lang/invoke/VarHandle") ∧ (parseMethodDescriptor yX0_bringDue.desc).map (fun d => d.parameters.length) = some 3 := ⟨⟨by decide +kernel, by decide +kernel⟩, by decide +kernel⟩
section
variable {p : Program} {l : Launch} {e : Env} {R : Room} {s : State} {m : MethodId} {args : Array Value} {below : List Frame} {meth : Method} {c : Code} {G : Gam} {M0 : Mem}
theorem l_X0_bringDue_89 {k_3 : Nat → Nat → Int32 → Int32 → Int32 → Mem → Option Mem} {k_18 : Nat → Nat → Int32 → Int32 → Int32 → Int32 → Mem → Option Mem} {rv : Mem} (X : Cx p R s m args c G M0 cX0_bringDue yX0_bringDue.cls 8 6 149) (hr : meth.sig.returnType = none) (hlk : meth.locks = false) (hnm : meth.name = "bringDue") (hk_3 : ∀ (v0 : Nat), ∀ (v1 : Nat), ∀ (v2 : Int32), ∀ (v3 : Int32), ∀ (v4 : Int32), ∀ M : Mem, k_3 v0 v1 v2 v3 v4 M = some rv → Sg p l e R s m args below meth c (Qm below G args s none M0 rv) G M0 8 3 [(0, .ref (gB G + v0)), (1, .ref (gB G + v1)), (2, .int v2), (3, .int v3), (4, .int v4)] [] M) (hk_18 : ∀ (v0 : Nat), ∀ (v1 : Nat), ∀ (v2 : Int32), ∀ (v3 : Int32), ∀ (v4 : Int32), ∀ (v5 : Int32), ∀ M : Mem, k_18 v0 v1 v2 v3 v4 v5 M = some rv → Sg p l e R s m args below meth c (Qm below G args s none M0 rv) G M0 8 18 [(0, .ref (gB G + v0)), (1, .ref (gB G + v1)), (2, .int v2), (3, .int v3), (4, .int v4), (5, .int v5)] [] M) : ∀ {n : Nat} (v0 : Nat) (v1 : Nat) (v2 : Int32) (v3 : Int32) (v4 : Int32) (v5 : Int32) (v7 : Int32) (M : Mem), f_X0_bringDue_89 k_3 k_18 n v0 v1 v2 v3 v4 v5 v7 M = some rv → Sg p l e R s m args below meth c (Qm below G args s none M0 rv) G M0 8 89 [(0, .ref (gB G + v0)), (1, .ref (gB G + v1)), (2, .int v2), (3, .int v3), (4, .int v4), (5, .int v5), (7, .int v7)] [] M := by
  intro n
  induction n with
  | zero => intro v0 v1 v2 v3 v4 v5 v7 M hf; exact (pk_none hf).elim
  | succ n ih =>
    intro v0 v1 v2 v3 v4 v5 v7 M hf
    rw [f_X0_bringDue_89] at hf
    refine s_iload X 6 dX0_bringDue_89 rfl ?_
    have hs1 := pk_ite hf
    clear hf
    refine s_if_le X (tgt := 124) dX0_bringDue_91 rfl (fun c2 => ?_) (fun c2 => ?_)
    · have hf := hs1.1 c2
      obtain ⟨x3, e4, hf⟩ := pk_bnd hf
      refine s_iinc X (vs' := [(0, .ref (gB G + v0)), (1, .ref (gB G + v1)), (2, .int v2), (3, .int v3), (4, .int v4), (5, .int x3), (7, .int v7)]) 5 dX0_bringDue_124 rfl (v := x3) e4.symm (Nat.le_of_ble_eq_true rfl) [1, 2, 3, 4, 5, 0, 6] rfl ?_
      refine s_goto X (tgt := 18) dX0_bringDue_127 rfl ?_
      refine s_drop [0, 1, 2, 3, 4, 5] (vs' := [(0, .ref (gB G + v0)), (1, .ref (gB G + v1)), (2, .int v2), (3, .int v3), (4, .int v4), (5, .int x3)]) rfl ?_
      exact hk_18 _ _ _ _ _ _ _ hf
    · have hf := hs1.2 c2
      refine s_aload_n X 1 dX0_bringDue_94 rfl rfl ?_
      obtain ⟨h5, hf⟩ := pk_chk hf
      obtain ⟨o6, e7, hf⟩ := pk_bnd hf
      obtain ⟨h8, hf⟩ := pk_chk hf
      refine s_getR X (ci := 2) (k := 1) rfl (Nat.le_of_ble_eq_true rfl) h5 wd420 (fun _ _ _ => rfl) (e7 ▸ h8) dX0_bringDue_95 (e7 ▸ ?_)
      refine s_iload X 4 dX0_bringDue_98 rfl ?_
      refine s_iload X 5 dX0_bringDue_100 rfl ?_
      refine s_iload_n X 3 dX0_bringDue_102 rfl rfl ?_
      obtain ⟨r10, hc9, hf⟩ := pk_obd hf
      refine s_callV X (ci := 5) (k_X5_hasGoneBy G hc9) rfl h8 wd1356 wd1357 wd1358 wd1359 wd131 cd_X5_hasGoneBy ⟨Nat.le_of_ble_eq_true rfl, Nat.le_of_ble_eq_true rfl⟩ (Nat.le_of_ble_eq_true rfl) dX0_bringDue_103 ?_
      have hs11 := pk_ite hf
      clear hf
      refine s_if_eq X (tgt := 118) dX0_bringDue_106 rfl (fun c12 => ?_) (fun c12 => ?_)
      · have hf := hs11.1 c12
        obtain ⟨x13, e14, hf⟩ := pk_bnd hf
        refine s_iinc X (vs' := [(0, .ref (gB G + v0)), (1, .ref (gB G + v1)), (2, .int v2), (3, .int v3), (4, .int v4), (5, .int v5), (7, .int x13)]) 6 dX0_bringDue_118 rfl (v := x13) e14.symm (Nat.le_of_ble_eq_true rfl) [1, 2, 3, 4, 5, 6, 0] rfl ?_
        refine s_goto X (tgt := 89) dX0_bringDue_121 rfl ?_
        exact ih _ _ _ _ _ _ _ _ hf
      · have hf := hs11.2 c12
        refine s_aload_n X 1 dX0_bringDue_109 rfl rfl ?_
        refine s_iload X 4 dX0_bringDue_110 rfl ?_
        refine s_iload X 5 dX0_bringDue_112 rfl ?_
        obtain ⟨r16, M17, hc15, hf⟩ := pk_obd2 hf
        refine s_callV X (ci := 2) (k_X2_bringFirst G hc15) rfl h5 wd1360 wd980 wd981 wd982 wd130 cd_X2_bringFirst ⟨Nat.le_of_ble_eq_true rfl, Nat.le_of_ble_eq_true rfl⟩ (Nat.le_of_ble_eq_true rfl) dX0_bringDue_114 ?_
        refine s_pop X dX0_bringDue_117 rfl ?_
        obtain ⟨x18, e19, hf⟩ := pk_bnd hf
        refine s_iinc X (vs' := [(0, .ref (gB G + v0)), (1, .ref (gB G + v1)), (2, .int v2), (3, .int v3), (4, .int v4), (5, .int v5), (7, .int x18)]) 6 dX0_bringDue_118 rfl (v := x18) e19.symm (Nat.le_of_ble_eq_true rfl) [1, 2, 3, 4, 5, 6, 0] rfl ?_
        refine s_goto X (tgt := 89) dX0_bringDue_121 rfl ?_
        exact ih _ _ _ _ _ _ _ _ hf
theorem l_X0_bringDue_65 {k_3 : Nat → Nat → Int32 → Int32 → Int32 → Mem → Option Mem} {k_18 : Nat → Nat → Int32 → Int32 → Int32 → Int32 → Mem → Option Mem} {rv : Mem} {n : Nat} {v0 : Nat} {v1 : Nat} {v2 : Int32} {v3 : Int32} {v4 : Int32} {v5 : Int32} {u0 : Int32} {M : Mem} (X : Cx p R s m args c G M0 cX0_bringDue yX0_bringDue.cls 8 6 149) (hr : meth.sig.returnType = none) (hlk : meth.locks = false) (hnm : meth.name = "bringDue") (hk_3 : ∀ (v0 : Nat), ∀ (v1 : Nat), ∀ (v2 : Int32), ∀ (v3 : Int32), ∀ (v4 : Int32), ∀ M : Mem, k_3 v0 v1 v2 v3 v4 M = some rv → Sg p l e R s m args below meth c (Qm below G args s none M0 rv) G M0 8 3 [(0, .ref (gB G + v0)), (1, .ref (gB G + v1)), (2, .int v2), (3, .int v3), (4, .int v4)] [] M) (hk_18 : ∀ (v0 : Nat), ∀ (v1 : Nat), ∀ (v2 : Int32), ∀ (v3 : Int32), ∀ (v4 : Int32), ∀ (v5 : Int32), ∀ M : Mem, k_18 v0 v1 v2 v3 v4 v5 M = some rv → Sg p l e R s m args below meth c (Qm below G args s none M0 rv) G M0 8 18 [(0, .ref (gB G + v0)), (1, .ref (gB G + v1)), (2, .int v2), (3, .int v3), (4, .int v4), (5, .int v5)] [] M) (hf : f_X0_bringDue_65 k_3 k_18 n v0 v1 v2 v3 v4 v5 u0 M = some rv) : Sg p l e R s m args below meth c (Qm below G args s none M0 rv) G M0 8 65 [(0, .ref (gB G + v0)), (1, .ref (gB G + v1)), (2, .int v2), (3, .int v3), (4, .int v4), (5, .int v5)] [.int u0] M := by
  rw [f_X0_bringDue_65] at hf
  refine s_istore X (vs' := [(0, .ref (gB G + v0)), (1, .ref (gB G + v1)), (2, .int v2), (3, .int v3), (4, .int v4), (5, .int v5), (6, .int u0)]) dX0_bringDue_65 (Nat.le_of_ble_eq_true rfl) [1, 2, 3, 4, 5, 6, 0] rfl ?_
  refine s_iload X 6 dX0_bringDue_67 rfl ?_
  have hs1 := pk_ite hf
  clear hf
  refine s_if_eq X (tgt := 86) dX0_bringDue_69 rfl (fun c2 => ?_) (fun c2 => ?_)
  · have hf := hs1.1 c2
    refine s_iconst X (v := (0 : Int32)) dX0_bringDue_86 rfl ?_
    refine s_istore X (vs' := [(0, .ref (gB G + v0)), (1, .ref (gB G + v1)), (2, .int v2), (3, .int v3), (4, .int v4), (5, .int v5), (6, .int u0), (7, .int (0 : Int32))]) dX0_bringDue_87 (Nat.le_of_ble_eq_true rfl) [1, 2, 3, 4, 5, 6, 7, 0] rfl ?_
    refine s_drop [0, 1, 2, 3, 4, 5, 7] (vs' := [(0, .ref (gB G + v0)), (1, .ref (gB G + v1)), (2, .int v2), (3, .int v3), (4, .int v4), (5, .int v5), (7, .int (0 : Int32))]) rfl ?_
    exact l_X0_bringDue_89 X hr hlk hnm hk_3 hk_18 _ _ _ _ _ _ _ _ hf
  · have hf := hs1.2 c2
    refine s_aload_n X 1 dX0_bringDue_72 rfl rfl ?_
    obtain ⟨h3, hf⟩ := pk_chk hf
    obtain ⟨o4, e5, hf⟩ := pk_bnd hf
    obtain ⟨h6, hf⟩ := pk_chk hf
    refine s_getR X (ci := 2) (k := 1) rfl (Nat.le_of_ble_eq_true rfl) h3 wd420 (fun _ _ _ => rfl) (e5 ▸ h6) dX0_bringDue_73 (e5 ▸ ?_)
    refine s_iload X 4 dX0_bringDue_76 rfl ?_
    refine s_iload X 5 dX0_bringDue_78 rfl ?_
    obtain ⟨r8, hc7, hf⟩ := pk_obd hf
    refine s_callV X (ci := 5) (k_X5_countOn G hc7) rfl h6 wd1355 wd1100 wd1101 wd1102 wd131 cd_X5_countOn ⟨Nat.le_of_ble_eq_true rfl, Nat.le_of_ble_eq_true rfl⟩ (Nat.le_of_ble_eq_true rfl) dX0_bringDue_80 ?_
    refine s_goto X (tgt := 87) dX0_bringDue_83 rfl ?_
    refine s_istore X (vs' := [(0, .ref (gB G + v0)), (1, .ref (gB G + v1)), (2, .int v2), (3, .int v3), (4, .int v4), (5, .int v5), (6, .int u0), (7, .int r8)]) dX0_bringDue_87 (Nat.le_of_ble_eq_true rfl) [1, 2, 3, 4, 5, 6, 7, 0] rfl ?_
    refine s_drop [0, 1, 2, 3, 4, 5, 7] (vs' := [(0, .ref (gB G + v0)), (1, .ref (gB G + v1)), (2, .int v2), (3, .int v3), (4, .int v4), (5, .int v5), (7, .int r8)]) rfl ?_
    exact l_X0_bringDue_89 X hr hlk hnm hk_3 hk_18 _ _ _ _ _ _ _ _ hf
theorem l_X0_bringDue_18 {k_3 : Nat → Nat → Int32 → Int32 → Int32 → Mem → Option Mem} {rv : Mem} (X : Cx p R s m args c G M0 cX0_bringDue yX0_bringDue.cls 8 6 149) (hr : meth.sig.returnType = none) (hlk : meth.locks = false) (hnm : meth.name = "bringDue") (hk_3 : ∀ (v0 : Nat), ∀ (v1 : Nat), ∀ (v2 : Int32), ∀ (v3 : Int32), ∀ (v4 : Int32), ∀ M : Mem, k_3 v0 v1 v2 v3 v4 M = some rv → Sg p l e R s m args below meth c (Qm below G args s none M0 rv) G M0 8 3 [(0, .ref (gB G + v0)), (1, .ref (gB G + v1)), (2, .int v2), (3, .int v3), (4, .int v4)] [] M) : ∀ {n : Nat} (v0 : Nat) (v1 : Nat) (v2 : Int32) (v3 : Int32) (v4 : Int32) (v5 : Int32) (M : Mem), f_X0_bringDue_18 k_3 n v0 v1 v2 v3 v4 v5 M = some rv → Sg p l e R s m args below meth c (Qm below G args s none M0 rv) G M0 8 18 [(0, .ref (gB G + v0)), (1, .ref (gB G + v1)), (2, .int v2), (3, .int v3), (4, .int v4), (5, .int v5)] [] M := by
  intro n
  induction n with
  | zero => intro v0 v1 v2 v3 v4 v5 M hf; exact (pk_none hf).elim
  | succ n ih =>
    intro v0 v1 v2 v3 v4 v5 M hf
    rw [f_X0_bringDue_18] at hf
    refine s_iload X 5 dX0_bringDue_18 rfl ?_
    refine s_aload_n X 1 dX0_bringDue_20 rfl rfl ?_
    obtain ⟨h1, hf⟩ := pk_chk hf
    obtain ⟨o2, e3, hf⟩ := pk_bnd hf
    obtain ⟨h4, hf⟩ := pk_chk hf
    refine s_getR X (ci := 2) (k := 0) rfl (Nat.le_of_ble_eq_true rfl) h1 wd417 (fun _ _ _ => rfl) (e3 ▸ h4) dX0_bringDue_21 (e3 ▸ ?_)
    refine s_getI X (ci := 7) (k := 3) rfl (Nat.le_of_ble_eq_true rfl) h4 wd167 (fun _ _ _ => rfl) dX0_bringDue_24 ?_
    have hs5 := pk_ite hf
    clear hf
    refine s_icmp_ge X (tgt := 130) dX0_bringDue_27 rfl (fun c6 => ?_) (fun c6 => ?_)
    · have hf := hs5.1 c6
      obtain ⟨x7, e8, hf⟩ := pk_bnd hf
      refine s_iinc X (vs' := [(0, .ref (gB G + v0)), (1, .ref (gB G + v1)), (2, .int v2), (3, .int v3), (4, .int x7), (5, .int v5)]) 4 dX0_bringDue_130 rfl (v := x7) e8.symm (Nat.le_of_ble_eq_true rfl) [1, 2, 3, 4, 0, 5] rfl ?_
      refine s_goto X (tgt := 3) dX0_bringDue_133 rfl ?_
      refine s_drop [0, 1, 2, 3, 4] (vs' := [(0, .ref (gB G + v0)), (1, .ref (gB G + v1)), (2, .int v2), (3, .int v3), (4, .int x7)]) rfl ?_
      exact hk_3 _ _ _ _ _ _ hf
    · have hf := hs5.2 c6
      refine s_aload_n X 1 dX0_bringDue_30 rfl rfl ?_
      obtain ⟨o9, e10, hf⟩ := pk_bnd hf
      obtain ⟨h11, hf⟩ := pk_chk hf
      refine s_getR X (ci := 2) (k := 1) rfl (Nat.le_of_ble_eq_true rfl) h1 wd420 (fun _ _ _ => rfl) (e10 ▸ h11) dX0_bringDue_31 (e10 ▸ ?_)
      obtain ⟨o12, e13, hf⟩ := pk_bnd hf
      obtain ⟨h14, hf⟩ := pk_chk hf
      refine s_getR X (ci := 5) (k := 3) rfl (Nat.le_of_ble_eq_true rfl) h11 wd254 (fun _ _ _ => rfl) (e13 ▸ h14) dX0_bringDue_34 (e13 ▸ ?_)
      refine s_iload X 4 dX0_bringDue_37 rfl ?_
      obtain ⟨h15, hf⟩ := pk_chk hf
      refine s_iald X h14 h15 dX0_bringDue_39 ?_
      have hs16 := pk_ite hf
      clear hf
      refine s_if_eq X (tgt := 130) dX0_bringDue_40 rfl (fun c17 => ?_) (fun c17 => ?_)
      · have hf := hs16.1 c17
        obtain ⟨x18, e19, hf⟩ := pk_bnd hf
        refine s_iinc X (vs' := [(0, .ref (gB G + v0)), (1, .ref (gB G + v1)), (2, .int v2), (3, .int v3), (4, .int x18), (5, .int v5)]) 4 dX0_bringDue_130 rfl (v := x18) e19.symm (Nat.le_of_ble_eq_true rfl) [1, 2, 3, 4, 0, 5] rfl ?_
        refine s_goto X (tgt := 3) dX0_bringDue_133 rfl ?_
        refine s_drop [0, 1, 2, 3, 4] (vs' := [(0, .ref (gB G + v0)), (1, .ref (gB G + v1)), (2, .int v2), (3, .int v3), (4, .int x18)]) rfl ?_
        exact hk_3 _ _ _ _ _ _ hf
      · have hf := hs16.2 c17
        refine s_aload_n X 0 dX0_bringDue_43 rfl rfl ?_
        obtain ⟨h20, hf⟩ := pk_chk hf
        obtain ⟨o21, e22, hf⟩ := pk_bnd hf
        obtain ⟨h23, hf⟩ := pk_chk hf
        refine s_getR X (ci := 0) (k := 0) rfl (Nat.le_of_ble_eq_true rfl) h20 wd499 (fun _ _ _ => rfl) (e22 ▸ h23) dX0_bringDue_44 (e22 ▸ ?_)
        refine s_iload X 4 dX0_bringDue_47 rfl ?_
        refine s_bipush X (v := (16 : Int32)) dX0_bringDue_49 rfl ?_
        refine s_imul X dX0_bringDue_51 ?_
        refine s_iload X 5 dX0_bringDue_52 rfl ?_
        refine s_iadd X dX0_bringDue_54 ?_
        obtain ⟨h24, hf⟩ := pk_chk hf
        refine s_iald X h23 h24 dX0_bringDue_55 ?_
        refine s_iload_n X 2 dX0_bringDue_56 rfl rfl ?_
        have hs25 := pk_ite hf
        clear hf
        refine s_icmp_ne X (tgt := 64) dX0_bringDue_57 rfl (fun c26 => ?_) (fun c26 => ?_)
        · have hf := hs25.2 c26
          refine s_iconst X (v := (0 : Int32)) dX0_bringDue_64 rfl ?_
          exact l_X0_bringDue_65 X hr hlk hnm hk_3 ih hf
        · have hf := hs25.1 c26
          refine s_iconst X (v := (1 : Int32)) dX0_bringDue_60 rfl ?_
          refine s_goto X (tgt := 65) dX0_bringDue_61 rfl ?_
          exact l_X0_bringDue_65 X hr hlk hnm hk_3 ih hf
theorem l_X0_bringDue_3 {rv : Mem} (X : Cx p R s m args c G M0 cX0_bringDue yX0_bringDue.cls 8 6 149) (hr : meth.sig.returnType = none) (hlk : meth.locks = false) (hnm : meth.name = "bringDue") : ∀ {n : Nat} (v0 : Nat) (v1 : Nat) (v2 : Int32) (v3 : Int32) (v4 : Int32) (M : Mem), f_X0_bringDue_3 n v0 v1 v2 v3 v4 M = some rv → Sg p l e R s m args below meth c (Qm below G args s none M0 rv) G M0 8 3 [(0, .ref (gB G + v0)), (1, .ref (gB G + v1)), (2, .int v2), (3, .int v3), (4, .int v4)] [] M := by
  intro n
  induction n with
  | zero => intro v0 v1 v2 v3 v4 M hf; exact (pk_none hf).elim
  | succ n ih =>
    intro v0 v1 v2 v3 v4 M hf
    rw [f_X0_bringDue_3] at hf
    refine s_iload X 4 dX0_bringDue_3 rfl ?_
    refine s_aload_n X 1 dX0_bringDue_5 rfl rfl ?_
    obtain ⟨h1, hf⟩ := pk_chk hf
    obtain ⟨o2, e3, hf⟩ := pk_bnd hf
    obtain ⟨h4, hf⟩ := pk_chk hf
    refine s_getR X (ci := 2) (k := 0) rfl (Nat.le_of_ble_eq_true rfl) h1 wd417 (fun _ _ _ => rfl) (e3 ▸ h4) dX0_bringDue_6 (e3 ▸ ?_)
    refine s_getI X (ci := 7) (k := 3) rfl (Nat.le_of_ble_eq_true rfl) h4 wd167 (fun _ _ _ => rfl) dX0_bringDue_9 ?_
    have hs5 := pk_ite hf
    clear hf
    refine s_icmp_ge X (tgt := 136) dX0_bringDue_12 rfl (fun c6 => ?_) (fun c6 => ?_)
    · have hf := hs5.1 c6
      cases hf
      exact s_vret X hr hlk dX0_bringDue_136
    · have hf := hs5.2 c6
      refine s_iconst X (v := (0 : Int32)) dX0_bringDue_15 rfl ?_
      refine s_istore X (vs' := [(0, .ref (gB G + v0)), (1, .ref (gB G + v1)), (2, .int v2), (3, .int v3), (4, .int v4), (5, .int (0 : Int32))]) dX0_bringDue_16 (Nat.le_of_ble_eq_true rfl) [1, 2, 3, 4, 5, 0] rfl ?_
      exact l_X0_bringDue_18 X hr hlk hnm ih _ _ _ _ _ _ _ hf
end
theorem k_X0_bringDue (G : Gam) {n : Nat} {o : Nat} {a1 : Nat} {a2 : Int32} {a3 : Int32} {M : Mem} {rv : Mem} (hf : f_X0_bringDue n o a1 a2 a3 M = some rv) : Kt yX0_bringDue cX0_bringDue 8 none 6 149 G [.ref (gB G + o), .ref (gB G + a1), .int a2, .int a3] M rv none := by
  refine Kt.of (by decide) (Nat.le_of_ble_eq_true rfl) ?_
  intro p l e R s m args below meth c X hr hlk hnm
  refine s_drop [0, 1, 2, 3] (vs' := [(0, .ref (gB G + o)), (1, .ref (gB G + a1)), (2, .int a2), (3, .int a3)]) rfl ?_
  rw [f_X0_bringDue] at hf
  refine s_iconst X (v := (0 : Int32)) dX0_bringDue_0 rfl ?_
  refine s_istore X (vs' := [(0, .ref (gB G + o)), (1, .ref (gB G + a1)), (2, .int a2), (3, .int a3), (4, .int (0 : Int32))]) dX0_bringDue_1 (Nat.le_of_ble_eq_true rfl) [1, 2, 3, 4, 0] rfl ?_
  exact l_X0_bringDue_3 X hr hlk hnm _ _ _ _ _ _ hf
theorem dX0_run_0 : decode cX0_run 0 = .ok (.aload_n 0, 1) := dk_42 (by decide +kernel)
theorem dX0_run_1 : decode cX0_run 1 = .ok (.sipush 300, 3) := dk_17 (x := 1) (y := 44) (by decide +kernel) rfl
theorem dX0_run_4 : decode cX0_run 4 = .ok (.putfield 21, 3) := dk_181 (x := 0) (y := 21) (by decide +kernel) rfl
theorem dX0_run_7 : decode cX0_run 7 = .ok (.aload_n 0, 1) := dk_42 (by decide +kernel)
theorem dX0_run_8 : decode cX0_run 8 = .ok (.iconst (-1), 1) := dk_2 (by decide +kernel)
theorem dX0_run_9 : decode cX0_run 9 = .ok (.putfield 25, 3) := dk_181 (x := 0) (y := 25) (by decide +kernel) rfl
theorem dX0_run_12 : decode cX0_run 12 = .ok (.aload_n 0, 1) := dk_42 (by decide +kernel)
theorem dX0_run_13 : decode cX0_run 13 = .ok (.iconst 0, 1) := dk_3 (by decide +kernel)
theorem dX0_run_14 : decode cX0_run 14 = .ok (.putfield 28, 3) := dk_181 (x := 0) (y := 28) (by decide +kernel) rfl
theorem dX0_run_17 : decode cX0_run 17 = .ok (.iconst 0, 1) := dk_3 (by decide +kernel)
theorem dX0_run_18 : decode cX0_run 18 = .ok (.istore_n 3, 1) := dk_62 (by decide +kernel)
theorem dX0_run_19 : decode cX0_run 19 = .ok (.iload_n 3, 1) := dk_29 (by decide +kernel)
theorem dX0_run_20 : decode cX0_run 20 = .ok (.sipush 300, 3) := dk_17 (x := 1) (y := 44) (by decide +kernel) rfl
theorem dX0_run_23 : decode cX0_run 23 = .ok (.if_icmp .ge 136, 3) := dk_162 (x := 0) (y := 136) (by decide +kernel) rfl
theorem dX0_run_26 : decode cX0_run 26 = .ok (.aload_n 0, 1) := dk_42 (by decide +kernel)
theorem dX0_run_27 : decode cX0_run 27 = .ok (.getfield 21, 3) := dk_180 (x := 0) (y := 21) (by decide +kernel) rfl
theorem dX0_run_30 : decode cX0_run 30 = .ok (.sipush 300, 3) := dk_17 (x := 1) (y := 44) (by decide +kernel) rfl
theorem dX0_run_33 : decode cX0_run 33 = .ok (.if_icmp .ne 126, 3) := dk_160 (x := 0) (y := 126) (by decide +kernel) rfl
theorem dX0_run_36 : decode cX0_run 36 = .ok (.aload_n 1, 1) := dk_43 (by decide +kernel)
theorem dX0_run_37 : decode cX0_run 37 = .ok (.getfield 31, 3) := dk_180 (x := 0) (y := 31) (by decide +kernel) rfl
theorem dX0_run_40 : decode cX0_run 40 = .ok (.istore 4, 2) := dk_54 (x := 4) (by decide +kernel)
theorem dX0_run_42 : decode cX0_run 42 = .ok (.aload_n 1, 1) := dk_43 (by decide +kernel)
theorem dX0_run_43 : decode cX0_run 43 = .ok (.getfield 36, 3) := dk_180 (x := 0) (y := 36) (by decide +kernel) rfl
theorem dX0_run_46 : decode cX0_run 46 = .ok (.iload_n 3, 1) := dk_29 (by decide +kernel)
theorem dX0_run_47 : decode cX0_run 47 = .ok (.putfield 40, 3) := dk_181 (x := 0) (y := 40) (by decide +kernel) rfl
theorem dX0_run_50 : decode cX0_run 50 = .ok (.aload_n 0, 1) := dk_42 (by decide +kernel)
theorem dX0_run_51 : decode cX0_run 51 = .ok (.aload_n 1, 1) := dk_43 (by decide +kernel)
theorem dX0_run_52 : decode cX0_run 52 = .ok (.iload_n 3, 1) := dk_29 (by decide +kernel)
theorem dX0_run_53 : decode cX0_run 53 = .ok (.iload_n 2, 1) := dk_28 (by decide +kernel)
theorem dX0_run_54 : decode cX0_run 54 = .ok (.isub, 1) := dk_100 (by decide +kernel)
theorem dX0_run_55 : decode cX0_run 55 = .ok (.invokevirtual 45, 3) := dk_182 (x := 0) (y := 45) (by decide +kernel) rfl
theorem dX0_run_58 : decode cX0_run 58 = .ok (.bipush 9, 2) := dk_16 (x := 9) (by decide +kernel) rfl
theorem dX0_run_60 : decode cX0_run 60 = .ok (.iload_n 3, 1) := dk_29 (by decide +kernel)
theorem dX0_run_61 : decode cX0_run 61 = .ok (.invokestatic 49, 3) := dk_184 (x := 0) (y := 49) (by decide +kernel) rfl
theorem dX0_run_64 : decode cX0_run 64 = .ok (.istore 5, 2) := dk_54 (x := 5) (by decide +kernel)
theorem dX0_run_66 : decode cX0_run 66 = .ok (.iload 5, 2) := dk_21 (x := 5) (by decide +kernel)
theorem dX0_run_68 : decode cX0_run 68 = .ok (.iconst 1, 1) := dk_4 (by decide +kernel)
theorem dX0_run_69 : decode cX0_run 69 = .ok (.if_icmp .lt 20, 3) := dk_161 (x := 0) (y := 20) (by decide +kernel) rfl
theorem dX0_run_72 : decode cX0_run 72 = .ok (.aload_n 0, 1) := dk_42 (by decide +kernel)
theorem dX0_run_73 : decode cX0_run 73 = .ok (.aload_n 1, 1) := dk_43 (by decide +kernel)
theorem dX0_run_74 : decode cX0_run 74 = .ok (.iload 5, 2) := dk_21 (x := 5) (by decide +kernel)
theorem dX0_run_76 : decode cX0_run 76 = .ok (.iload_n 3, 1) := dk_29 (by decide +kernel)
theorem dX0_run_77 : decode cX0_run 77 = .ok (.iload 5, 2) := dk_21 (x := 5) (by decide +kernel)
theorem dX0_run_79 : decode cX0_run 79 = .ok (.isub, 1) := dk_100 (by decide +kernel)
theorem dX0_run_80 : decode cX0_run 80 = .ok (.invokevirtual 55, 3) := dk_182 (x := 0) (y := 55) (by decide +kernel) rfl
theorem dX0_run_83 : decode cX0_run 83 = .ok (.iinc 5 (-1), 3) := dk_132 (x := 5) (y := 255) (by decide +kernel) rfl
theorem dX0_run_86 : decode cX0_run 86 = .ok (.goto (-20), 3) := dk_167 (x := 255) (y := 236) (by decide +kernel) rfl
theorem dX0_run_89 : decode cX0_run 89 = .ok (.aload_n 0, 1) := dk_42 (by decide +kernel)
theorem dX0_run_90 : decode cX0_run 90 = .ok (.aload_n 1, 1) := dk_43 (by decide +kernel)
theorem dX0_run_91 : decode cX0_run 91 = .ok (.getfield 31, 3) := dk_180 (x := 0) (y := 31) (by decide +kernel) rfl
theorem dX0_run_94 : decode cX0_run 94 = .ok (.iload 4, 2) := dk_21 (x := 4) (by decide +kernel)
theorem dX0_run_96 : decode cX0_run 96 = .ok (.if_icmp .le 7, 3) := dk_164 (x := 0) (y := 7) (by decide +kernel) rfl
theorem dX0_run_99 : decode cX0_run 99 = .ok (.iload_n 3, 1) := dk_29 (by decide +kernel)
theorem dX0_run_100 : decode cX0_run 100 = .ok (.goto 7, 3) := dk_167 (x := 0) (y := 7) (by decide +kernel) rfl
theorem dX0_run_103 : decode cX0_run 103 = .ok (.aload_n 0, 1) := dk_42 (by decide +kernel)
theorem dX0_run_104 : decode cX0_run 104 = .ok (.getfield 25, 3) := dk_180 (x := 0) (y := 25) (by decide +kernel) rfl
theorem dX0_run_107 : decode cX0_run 107 = .ok (.putfield 25, 3) := dk_181 (x := 0) (y := 25) (by decide +kernel) rfl
theorem dX0_run_110 : decode cX0_run 110 = .ok (.aload_n 0, 1) := dk_42 (by decide +kernel)
theorem dX0_run_111 : decode cX0_run 111 = .ok (.dup, 1) := dk_89 (by decide +kernel)
theorem dX0_run_112 : decode cX0_run 112 = .ok (.getfield 28, 3) := dk_180 (x := 0) (y := 28) (by decide +kernel) rfl
theorem dX0_run_115 : decode cX0_run 115 = .ok (.aload_n 1, 1) := dk_43 (by decide +kernel)
theorem dX0_run_116 : decode cX0_run 116 = .ok (.getfield 59, 3) := dk_180 (x := 0) (y := 59) (by decide +kernel) rfl
theorem dX0_run_119 : decode cX0_run 119 = .ok (.ifCond .ne 7, 3) := dk_154 (x := 0) (y := 7) (by decide +kernel) rfl
theorem dX0_run_122 : decode cX0_run 122 = .ok (.iconst 1, 1) := dk_4 (by decide +kernel)
theorem dX0_run_123 : decode cX0_run 123 = .ok (.goto 4, 3) := dk_167 (x := 0) (y := 4) (by decide +kernel) rfl
theorem dX0_run_126 : decode cX0_run 126 = .ok (.iconst 0, 1) := dk_3 (by decide +kernel)
theorem dX0_run_127 : decode cX0_run 127 = .ok (.iadd, 1) := dk_96 (by decide +kernel)
theorem dX0_run_128 : decode cX0_run 128 = .ok (.putfield 28, 3) := dk_181 (x := 0) (y := 28) (by decide +kernel) rfl
theorem dX0_run_131 : decode cX0_run 131 = .ok (.aload_n 1, 1) := dk_43 (by decide +kernel)
theorem dX0_run_132 : decode cX0_run 132 = .ok (.getfield 59, 3) := dk_180 (x := 0) (y := 59) (by decide +kernel) rfl
theorem dX0_run_135 : decode cX0_run 135 = .ok (.ifCond .ne 18, 3) := dk_154 (x := 0) (y := 18) (by decide +kernel) rfl
theorem dX0_run_138 : decode cX0_run 138 = .ok (.aload_n 1, 1) := dk_43 (by decide +kernel)
theorem dX0_run_139 : decode cX0_run 139 = .ok (.getfield 36, 3) := dk_180 (x := 0) (y := 36) (by decide +kernel) rfl
theorem dX0_run_142 : decode cX0_run 142 = .ok (.getfield 62, 3) := dk_180 (x := 0) (y := 62) (by decide +kernel) rfl
theorem dX0_run_145 : decode cX0_run 145 = .ok (.ifCond .ne 8, 3) := dk_154 (x := 0) (y := 8) (by decide +kernel) rfl
theorem dX0_run_148 : decode cX0_run 148 = .ok (.aload_n 0, 1) := dk_42 (by decide +kernel)
theorem dX0_run_149 : decode cX0_run 149 = .ok (.iload_n 3, 1) := dk_29 (by decide +kernel)
theorem dX0_run_150 : decode cX0_run 150 = .ok (.putfield 21, 3) := dk_181 (x := 0) (y := 21) (by decide +kernel) rfl
theorem dX0_run_153 : decode cX0_run 153 = .ok (.iinc 3 1, 3) := dk_132 (x := 3) (y := 1) (by decide +kernel) rfl
theorem dX0_run_156 : decode cX0_run 156 = .ok (.goto (-137), 3) := dk_167 (x := 255) (y := 119) (by decide +kernel) rfl
theorem dX0_run_159 : decode cX0_run 159 = .ok (.return_, 1) := dk_177 (by decide +kernel)
def f_X0_run_127 (k_19 : Nat → Nat → Int32 → Int32 → Mem → Option Mem) (n : Nat) (v0 : Nat) (v1 : Nat) (v2 : Int32) (v3 : Int32) (u0 : Int32) (u1 : Int32) (u2 : Nat) (M : Mem) : Option Mem :=
    chk (isO M 0 u2) <|
    bnd (sI M u2 3 (u1 + u0)) fun M2 =>
    chk (isO M2 2 v1) <|
    if (mI M2 v1 7) = 0 then (
      bnd (mR M2 v1 1) fun o10 =>
      chk (isO M2 5 o10) <|
      if (mI M2 o10 10) = 0 then (
        chk (isO M2 0 v0) <|
        bnd (sI M2 v0 1 v3) fun M18 =>
        bnd (v3 + (1 : Int32)) fun x24 =>
        k_19 v0 v1 v2 x24 M18
        ) else (
        bnd (v3 + (1 : Int32)) fun x15 =>
        k_19 v0 v1 v2 x15 M2
        )
      ) else (
      bnd (v3 + (1 : Int32)) fun x8 =>
      k_19 v0 v1 v2 x8 M2
      )
def f_X0_run_107 (k_19 : Nat → Nat → Int32 → Int32 → Mem → Option Mem) (n : Nat) (v0 : Nat) (v1 : Nat) (v2 : Int32) (v3 : Int32) (u0 : Int32) (u1 : Nat) (M : Mem) : Option Mem :=
    chk (isO M 0 u1) <|
    bnd (sI M u1 2 u0) fun M2 =>
    chk (isO M2 0 v0) <|
    chk (isO M2 2 v1) <|
    if (mI M2 v1 7) = 0 then (
      f_X0_run_127 k_19 n v0 v1 v2 v3 (1 : Int32) (mI M2 v0 3) v0 M2
      ) else (
      f_X0_run_127 k_19 n v0 v1 v2 v3 (0 : Int32) (mI M2 v0 3) v0 M2
      )
def f_X0_run_66 (k_19 : Nat → Nat → Int32 → Int32 → Mem → Option Mem) : Nat → Nat → Nat → Int32 → Int32 → Int32 → Int32 → Mem → Option Mem
  | 0, _, _, _, _, _, _, _ => none
  | n + 1, v0, v1, v2, v3, v4, v5, M =>
    if v5 < (1 : Int32) then (
      chk (isO M 2 v1) <|
      if (mI M v1 11) ≤ v4 then (
        chk (isO M 0 v0) <|
        f_X0_run_107 k_19 n v0 v1 v2 v3 (mI M v0 2) v0 M
        ) else (
        f_X0_run_107 k_19 n v0 v1 v2 v3 v3 v0 M
        )
      ) else (
      chk (isO M 0 v0) <|
      obd (f_X0_bringDue n v0 v1 v5 (v3 - v5) M) fun M9 =>
      bnd (v5 + (-1 : Int32)) fun x10 =>
      f_X0_run_66 k_19 n v0 v1 v2 v3 v4 x10 M9
      )
def f_X0_run_19 : Nat → Nat → Nat → Int32 → Int32 → Mem → Option Mem
  | 0, _, _, _, _, _ => none
  | n + 1, v0, v1, v2, v3, M =>
    if (300 : Int32) ≤ v3 then (
      some M
      ) else (
      chk (isO M 0 v0) <|
      if (mI M v0 1) = (300 : Int32) then (
        chk (isO M 2 v1) <|
        bnd (mI M v1 11) fun x7 =>
        bnd (mR M v1 1) fun o9 =>
        chk (isO M 5 o9) <|
        bnd (sI M o9 11 v3) fun M12 =>
        obd (f_X0_leaveWhoCameBy n v0 v1 (v3 - v2) M12) fun M18 =>
        bnd (if v3 < (9 : Int32) then v3 else (9 : Int32)) fun x19 =>
        f_X0_run_66 (f_X0_run_19 n) n v0 v1 v2 v3 x7 x19 M18
        ) else (
        some M
        )
      )
def f_X0_run (n : Nat) (o : Nat) (a1 : Nat) (a2 : Int32) (M : Mem) : Option Mem :=
  chk (isO M 0 o) <|
  bnd (sI M o 1 (300 : Int32)) fun M2 =>
  bnd (sI M2 o 2 (-1 : Int32)) fun M5 =>
  bnd (sI M5 o 3 (0 : Int32)) fun M8 =>
  f_X0_run_19 n o a1 a2 (0 : Int32) M8
theorem cd_X0_run : (yX0_run.cls ≠ "java/lang/invoke/MethodHandle" ∧ yX0_run.cls ≠ "java/lang/invoke/VarHandle") ∧ (parseMethodDescriptor yX0_run.desc).map (fun d => d.parameters.length) = some 2 := ⟨⟨by decide +kernel, by decide +kernel⟩, by decide +kernel⟩
section
variable {p : Program} {l : Launch} {e : Env} {R : Room} {s : State} {m : MethodId} {args : Array Value} {below : List Frame} {meth : Method} {c : Code} {G : Gam} {M0 : Mem}
theorem l_X0_run_127 {k_19 : Nat → Nat → Int32 → Int32 → Mem → Option Mem} {rv : Mem} {n : Nat} {v0 : Nat} {v1 : Nat} {v2 : Int32} {v3 : Int32} {u0 : Int32} {u1 : Int32} {u2 : Nat} {M : Mem} (X : Cx p R s m args c G M0 cX0_run yX0_run.cls 6 7 176) (hr : meth.sig.returnType = none) (hlk : meth.locks = false) (hnm : meth.name = "run") (hk_19 : ∀ (v0 : Nat), ∀ (v1 : Nat), ∀ (v2 : Int32), ∀ (v3 : Int32), ∀ M : Mem, k_19 v0 v1 v2 v3 M = some rv → Sg p l e R s m args below meth c (Qm below G args s none M0 rv) G M0 6 19 [(0, .ref (gB G + v0)), (1, .ref (gB G + v1)), (2, .int v2), (3, .int v3)] [] M) (hf : f_X0_run_127 k_19 n v0 v1 v2 v3 u0 u1 u2 M = some rv) : Sg p l e R s m args below meth c (Qm below G args s none M0 rv) G M0 6 127 [(0, .ref (gB G + v0)), (1, .ref (gB G + v1)), (2, .int v2), (3, .int v3)] [.int u0, .int u1, .ref (gB G + u2)] M := by
  rw [f_X0_run_127] at hf
  refine s_iadd X dX0_run_127 ?_
  obtain ⟨h1, hf⟩ := pk_chk hf
  obtain ⟨M2, e3, hf⟩ := pk_bnd hf
  refine s_putI X (ci := 0) (k := 3) rfl (Nat.le_of_ble_eq_true rfl) h1 wd505 (fun _ _ _ => rfl) rfl rfl e3 dX0_run_128 ?_
  have h4 := io_sI e3 h1
  refine s_aload_n X 1 dX0_run_131 rfl rfl ?_
  obtain ⟨h5, hf⟩ := pk_chk hf
  refine s_getI X (ci := 2) (k := 7) rfl (Nat.le_of_ble_eq_true rfl) h5 wd435 (fun _ _ _ => rfl) dX0_run_132 ?_
  have hs6 := pk_ite hf
  clear hf
  refine s_if_ne X (tgt := 153) dX0_run_135 rfl (fun c7 => ?_) (fun c7 => ?_)
  · have hf := hs6.2 c7
    obtain ⟨x8, e9, hf⟩ := pk_bnd hf
    refine s_iinc X (vs' := [(0, .ref (gB G + v0)), (1, .ref (gB G + v1)), (2, .int v2), (3, .int x8)]) 3 dX0_run_153 rfl (v := x8) e9.symm (Nat.le_of_ble_eq_true rfl) [1, 2, 3, 0] rfl ?_
    refine s_goto X (tgt := 19) dX0_run_156 rfl ?_
    exact hk_19 _ _ _ _ _ hf
  · have hf := hs6.1 c7
    refine s_aload_n X 1 dX0_run_138 rfl rfl ?_
    obtain ⟨o10, e11, hf⟩ := pk_bnd hf
    obtain ⟨h12, hf⟩ := pk_chk hf
    refine s_getR X (ci := 2) (k := 1) rfl (Nat.le_of_ble_eq_true rfl) h5 wd420 (fun _ _ _ => rfl) (e11 ▸ h12) dX0_run_139 (e11 ▸ ?_)
    refine s_getI X (ci := 5) (k := 10) rfl (Nat.le_of_ble_eq_true rfl) h12 wd266 (fun _ _ _ => rfl) dX0_run_142 ?_
    have hs13 := pk_ite hf
    clear hf
    refine s_if_ne X (tgt := 153) dX0_run_145 rfl (fun c14 => ?_) (fun c14 => ?_)
    · have hf := hs13.2 c14
      obtain ⟨x15, e16, hf⟩ := pk_bnd hf
      refine s_iinc X (vs' := [(0, .ref (gB G + v0)), (1, .ref (gB G + v1)), (2, .int v2), (3, .int x15)]) 3 dX0_run_153 rfl (v := x15) e16.symm (Nat.le_of_ble_eq_true rfl) [1, 2, 3, 0] rfl ?_
      refine s_goto X (tgt := 19) dX0_run_156 rfl ?_
      exact hk_19 _ _ _ _ _ hf
    · have hf := hs13.1 c14
      refine s_aload_n X 0 dX0_run_148 rfl rfl ?_
      refine s_iload_n X 3 dX0_run_149 rfl rfl ?_
      obtain ⟨h17, hf⟩ := pk_chk hf
      obtain ⟨M18, e19, hf⟩ := pk_bnd hf
      refine s_putI X (ci := 0) (k := 1) rfl (Nat.le_of_ble_eq_true rfl) h17 wd501 (fun _ _ _ => rfl) rfl rfl e19 dX0_run_150 ?_
      have h20 := io_sI e19 h4
      have h21 := io_sI e19 h5
      have h22 := io_sI e19 h12
      have h23 := io_sI e19 h17
      obtain ⟨x24, e25, hf⟩ := pk_bnd hf
      refine s_iinc X (vs' := [(0, .ref (gB G + v0)), (1, .ref (gB G + v1)), (2, .int v2), (3, .int x24)]) 3 dX0_run_153 rfl (v := x24) e25.symm (Nat.le_of_ble_eq_true rfl) [1, 2, 3, 0] rfl ?_
      refine s_goto X (tgt := 19) dX0_run_156 rfl ?_
      exact hk_19 _ _ _ _ _ hf
theorem l_X0_run_107 {k_19 : Nat → Nat → Int32 → Int32 → Mem → Option Mem} {rv : Mem} {n : Nat} {v0 : Nat} {v1 : Nat} {v2 : Int32} {v3 : Int32} {u0 : Int32} {u1 : Nat} {M : Mem} (X : Cx p R s m args c G M0 cX0_run yX0_run.cls 6 7 176) (hr : meth.sig.returnType = none) (hlk : meth.locks = false) (hnm : meth.name = "run") (hk_19 : ∀ (v0 : Nat), ∀ (v1 : Nat), ∀ (v2 : Int32), ∀ (v3 : Int32), ∀ M : Mem, k_19 v0 v1 v2 v3 M = some rv → Sg p l e R s m args below meth c (Qm below G args s none M0 rv) G M0 6 19 [(0, .ref (gB G + v0)), (1, .ref (gB G + v1)), (2, .int v2), (3, .int v3)] [] M) (hf : f_X0_run_107 k_19 n v0 v1 v2 v3 u0 u1 M = some rv) : Sg p l e R s m args below meth c (Qm below G args s none M0 rv) G M0 6 107 [(0, .ref (gB G + v0)), (1, .ref (gB G + v1)), (2, .int v2), (3, .int v3)] [.int u0, .ref (gB G + u1)] M := by
  rw [f_X0_run_107] at hf
  obtain ⟨h1, hf⟩ := pk_chk hf
  obtain ⟨M2, e3, hf⟩ := pk_bnd hf
  refine s_putI X (ci := 0) (k := 2) rfl (Nat.le_of_ble_eq_true rfl) h1 wd503 (fun _ _ _ => rfl) rfl rfl e3 dX0_run_107 ?_
  have h4 := io_sI e3 h1
  refine s_aload_n X 0 dX0_run_110 rfl rfl ?_
  refine s_dup X dX0_run_111 rfl ?_
  obtain ⟨h5, hf⟩ := pk_chk hf
  refine s_getI X (ci := 0) (k := 3) rfl (Nat.le_of_ble_eq_true rfl) h5 wd505 (fun _ _ _ => rfl) dX0_run_112 ?_
  refine s_aload_n X 1 dX0_run_115 rfl rfl ?_
  obtain ⟨h6, hf⟩ := pk_chk hf
  refine s_getI X (ci := 2) (k := 7) rfl (Nat.le_of_ble_eq_true rfl) h6 wd435 (fun _ _ _ => rfl) dX0_run_116 ?_
  have hs7 := pk_ite hf
  clear hf
  refine s_if_ne X (tgt := 126) dX0_run_119 rfl (fun c8 => ?_) (fun c8 => ?_)
  · have hf := hs7.2 c8
    refine s_iconst X (v := (0 : Int32)) dX0_run_126 rfl ?_
    exact l_X0_run_127 X hr hlk hnm hk_19 hf
  · have hf := hs7.1 c8
    refine s_iconst X (v := (1 : Int32)) dX0_run_122 rfl ?_
    refine s_goto X (tgt := 127) dX0_run_123 rfl ?_
    exact l_X0_run_127 X hr hlk hnm hk_19 hf
theorem l_X0_run_66 {k_19 : Nat → Nat → Int32 → Int32 → Mem → Option Mem} {rv : Mem} (X : Cx p R s m args c G M0 cX0_run yX0_run.cls 6 7 176) (hr : meth.sig.returnType = none) (hlk : meth.locks = false) (hnm : meth.name = "run") (hk_19 : ∀ (v0 : Nat), ∀ (v1 : Nat), ∀ (v2 : Int32), ∀ (v3 : Int32), ∀ M : Mem, k_19 v0 v1 v2 v3 M = some rv → Sg p l e R s m args below meth c (Qm below G args s none M0 rv) G M0 6 19 [(0, .ref (gB G + v0)), (1, .ref (gB G + v1)), (2, .int v2), (3, .int v3)] [] M) : ∀ {n : Nat} (v0 : Nat) (v1 : Nat) (v2 : Int32) (v3 : Int32) (v4 : Int32) (v5 : Int32) (M : Mem), f_X0_run_66 k_19 n v0 v1 v2 v3 v4 v5 M = some rv → Sg p l e R s m args below meth c (Qm below G args s none M0 rv) G M0 6 66 [(0, .ref (gB G + v0)), (1, .ref (gB G + v1)), (2, .int v2), (3, .int v3), (4, .int v4), (5, .int v5)] [] M := by
  intro n
  induction n with
  | zero => intro v0 v1 v2 v3 v4 v5 M hf; exact (pk_none hf).elim
  | succ n ih =>
    intro v0 v1 v2 v3 v4 v5 M hf
    rw [f_X0_run_66] at hf
    refine s_iload X 5 dX0_run_66 rfl ?_
    refine s_iconst X (v := (1 : Int32)) dX0_run_68 rfl ?_
    have hs1 := pk_ite hf
    clear hf
    refine s_icmp_lt X (tgt := 89) dX0_run_69 rfl (fun c2 => ?_) (fun c2 => ?_)
    · have hf := hs1.1 c2
      refine s_aload_n X 0 dX0_run_89 rfl rfl ?_
      refine s_aload_n X 1 dX0_run_90 rfl rfl ?_
      obtain ⟨h3, hf⟩ := pk_chk hf
      refine s_getI X (ci := 2) (k := 11) rfl (Nat.le_of_ble_eq_true rfl) h3 wd446 (fun _ _ _ => rfl) dX0_run_91 ?_
      refine s_iload X 4 dX0_run_94 rfl ?_
      have hs4 := pk_ite hf
      clear hf
      refine s_icmp_le X (tgt := 103) dX0_run_96 rfl (fun c5 => ?_) (fun c5 => ?_)
      · have hf := hs4.1 c5
        refine s_aload_n X 0 dX0_run_103 rfl rfl ?_
        obtain ⟨h6, hf⟩ := pk_chk hf
        refine s_getI X (ci := 0) (k := 2) rfl (Nat.le_of_ble_eq_true rfl) h6 wd503 (fun _ _ _ => rfl) dX0_run_104 ?_
        refine s_drop [0, 1, 2, 3] (vs' := [(0, .ref (gB G + v0)), (1, .ref (gB G + v1)), (2, .int v2), (3, .int v3)]) rfl ?_
        exact l_X0_run_107 X hr hlk hnm hk_19 hf
      · have hf := hs4.2 c5
        refine s_iload_n X 3 dX0_run_99 rfl rfl ?_
        refine s_goto X (tgt := 107) dX0_run_100 rfl ?_
        refine s_drop [0, 1, 2, 3] (vs' := [(0, .ref (gB G + v0)), (1, .ref (gB G + v1)), (2, .int v2), (3, .int v3)]) rfl ?_
        exact l_X0_run_107 X hr hlk hnm hk_19 hf
    · have hf := hs1.2 c2
      refine s_aload_n X 0 dX0_run_72 rfl rfl ?_
      refine s_aload_n X 1 dX0_run_73 rfl rfl ?_
      refine s_iload X 5 dX0_run_74 rfl ?_
      refine s_iload_n X 3 dX0_run_76 rfl rfl ?_
      refine s_iload X 5 dX0_run_77 rfl ?_
      refine s_isub X dX0_run_79 ?_
      obtain ⟨h7, hf⟩ := pk_chk hf
      obtain ⟨M9, hc8, hf⟩ := pk_obd hf
      refine s_callV X (ci := 0) (k_X0_bringDue G hc8) rfl h7 wd1351 wd1353 wd43 wd1354 wd134 cd_X0_bringDue ⟨Nat.le_of_ble_eq_true rfl, Nat.le_of_ble_eq_true rfl⟩ (Nat.le_of_ble_eq_true rfl) dX0_run_80 ?_
      obtain ⟨x10, e11, hf⟩ := pk_bnd hf
      refine s_iinc X (vs' := [(0, .ref (gB G + v0)), (1, .ref (gB G + v1)), (2, .int v2), (3, .int v3), (4, .int v4), (5, .int x10)]) 5 dX0_run_83 rfl (v := x10) e11.symm (Nat.le_of_ble_eq_true rfl) [1, 2, 3, 4, 5, 0] rfl ?_
      refine s_goto X (tgt := 66) dX0_run_86 rfl ?_
      exact ih _ _ _ _ _ _ _ hf
theorem l_X0_run_19 {rv : Mem} (X : Cx p R s m args c G M0 cX0_run yX0_run.cls 6 7 176) (hr : meth.sig.returnType = none) (hlk : meth.locks = false) (hnm : meth.name = "run") : ∀ {n : Nat} (v0 : Nat) (v1 : Nat) (v2 : Int32) (v3 : Int32) (M : Mem), f_X0_run_19 n v0 v1 v2 v3 M = some rv → Sg p l e R s m args below meth c (Qm below G args s none M0 rv) G M0 6 19 [(0, .ref (gB G + v0)), (1, .ref (gB G + v1)), (2, .int v2), (3, .int v3)] [] M := by
  intro n
  induction n with
  | zero => intro v0 v1 v2 v3 M hf; exact (pk_none hf).elim
  | succ n ih =>
    intro v0 v1 v2 v3 M hf
    rw [f_X0_run_19] at hf
    refine s_iload_n X 3 dX0_run_19 rfl rfl ?_
    refine s_sipush X (v := (300 : Int32)) dX0_run_20 rfl ?_
    have hs1 := pk_ite hf
    clear hf
    refine s_icmp_ge X (tgt := 159) dX0_run_23 rfl (fun c2 => ?_) (fun c2 => ?_)
    · have hf := hs1.1 c2
      cases hf
      exact s_vret X hr hlk dX0_run_159
    · have hf := hs1.2 c2
      refine s_aload_n X 0 dX0_run_26 rfl rfl ?_
      obtain ⟨h3, hf⟩ := pk_chk hf
      refine s_getI X (ci := 0) (k := 1) rfl (Nat.le_of_ble_eq_true rfl) h3 wd501 (fun _ _ _ => rfl) dX0_run_27 ?_
      refine s_sipush X (v := (300 : Int32)) dX0_run_30 rfl ?_
      have hs4 := pk_ite hf
      clear hf
      refine s_icmp_ne X (tgt := 159) dX0_run_33 rfl (fun c5 => ?_) (fun c5 => ?_)
      · have hf := hs4.2 c5
        cases hf
        exact s_vret X hr hlk dX0_run_159
      · have hf := hs4.1 c5
        refine s_aload_n X 1 dX0_run_36 rfl rfl ?_
        obtain ⟨h6, hf⟩ := pk_chk hf
        refine s_getI X (ci := 2) (k := 11) rfl (Nat.le_of_ble_eq_true rfl) h6 wd446 (fun _ _ _ => rfl) dX0_run_37 ?_
        obtain ⟨x7, e8, hf⟩ := pk_bnd hf
        refine s_nmI e8 ?_
        refine s_istore X (vs' := [(0, .ref (gB G + v0)), (1, .ref (gB G + v1)), (2, .int v2), (3, .int v3), (4, .int x7)]) dX0_run_40 (Nat.le_of_ble_eq_true rfl) [1, 2, 3, 4, 0] rfl ?_
        refine s_aload_n X 1 dX0_run_42 rfl rfl ?_
        obtain ⟨o9, e10, hf⟩ := pk_bnd hf
        obtain ⟨h11, hf⟩ := pk_chk hf
        refine s_getR X (ci := 2) (k := 1) rfl (Nat.le_of_ble_eq_true rfl) h6 wd420 (fun _ _ _ => rfl) (e10 ▸ h11) dX0_run_43 (e10 ▸ ?_)
        refine s_iload_n X 3 dX0_run_46 rfl rfl ?_
        obtain ⟨M12, e13, hf⟩ := pk_bnd hf
        refine s_putI X (ci := 5) (k := 11) rfl (Nat.le_of_ble_eq_true rfl) h11 wd271 (fun _ _ _ => rfl) rfl rfl e13 dX0_run_47 ?_
        have h14 := io_sI e13 h3
        have h15 := io_sI e13 h6
        have h16 := io_sI e13 h11
        refine s_aload_n X 0 dX0_run_50 rfl rfl ?_
        refine s_aload_n X 1 dX0_run_51 rfl rfl ?_
        refine s_iload_n X 3 dX0_run_52 rfl rfl ?_
        refine s_iload_n X 2 dX0_run_53 rfl rfl ?_
        refine s_isub X dX0_run_54 ?_
        obtain ⟨M18, hc17, hf⟩ := pk_obd hf
        refine s_callV X (ci := 0) (k_X0_leaveWhoCameBy G hc17) rfl h14 wd1344 wd1346 wd42 wd1347 wd134 cd_X0_leaveWhoCameBy ⟨Nat.le_of_ble_eq_true rfl, Nat.le_of_ble_eq_true rfl⟩ (Nat.le_of_ble_eq_true rfl) dX0_run_55 ?_
        refine s_bipush X (v := (9 : Int32)) dX0_run_58 rfl ?_
        refine s_iload_n X 3 dX0_run_60 rfl rfl ?_
        refine s_mmin X wd1350 wd889 wd142 wd890 ⟨Nat.le_of_ble_eq_true rfl, Nat.le_of_ble_eq_true rfl⟩ dX0_run_61 ?_
        obtain ⟨x19, e20, hf⟩ := pk_bnd hf
        refine s_nmI e20 ?_
        refine s_istore X (vs' := [(0, .ref (gB G + v0)), (1, .ref (gB G + v1)), (2, .int v2), (3, .int v3), (4, .int x7), (5, .int x19)]) dX0_run_64 (Nat.le_of_ble_eq_true rfl) [1, 2, 3, 4, 5, 0] rfl ?_
        exact l_X0_run_66 X hr hlk hnm ih _ _ _ _ _ _ _ hf
end
theorem k_X0_run (G : Gam) {n : Nat} {o : Nat} {a1 : Nat} {a2 : Int32} {M : Mem} {rv : Mem} (hf : f_X0_run n o a1 a2 M = some rv) : Kt yX0_run cX0_run 6 none 7 176 G [.ref (gB G + o), .ref (gB G + a1), .int a2] M rv none := by
  refine Kt.of (by decide) (Nat.le_of_ble_eq_true rfl) ?_
  intro p l e R s m args below meth c X hr hlk hnm
  refine s_drop [0, 1, 2] (vs' := [(0, .ref (gB G + o)), (1, .ref (gB G + a1)), (2, .int a2)]) rfl ?_
  rw [f_X0_run] at hf
  refine s_aload_n X 0 dX0_run_0 rfl rfl ?_
  refine s_sipush X (v := (300 : Int32)) dX0_run_1 rfl ?_
  obtain ⟨h1, hf⟩ := pk_chk hf
  obtain ⟨M2, e3, hf⟩ := pk_bnd hf
  refine s_putI X (ci := 0) (k := 1) rfl (Nat.le_of_ble_eq_true rfl) h1 wd501 (fun _ _ _ => rfl) rfl rfl e3 dX0_run_4 ?_
  have h4 := io_sI e3 h1
  refine s_aload_n X 0 dX0_run_7 rfl rfl ?_
  refine s_iconst X (v := (-1 : Int32)) dX0_run_8 rfl ?_
  obtain ⟨M5, e6, hf⟩ := pk_bnd hf
  refine s_putI X (ci := 0) (k := 2) rfl (Nat.le_of_ble_eq_true rfl) h4 wd503 (fun _ _ _ => rfl) rfl rfl e6 dX0_run_9 ?_
  have h7 := io_sI e6 h4
  refine s_aload_n X 0 dX0_run_12 rfl rfl ?_
  refine s_iconst X (v := (0 : Int32)) dX0_run_13 rfl ?_
  obtain ⟨M8, e9, hf⟩ := pk_bnd hf
  refine s_putI X (ci := 0) (k := 3) rfl (Nat.le_of_ble_eq_true rfl) h7 wd505 (fun _ _ _ => rfl) rfl rfl e9 dX0_run_14 ?_
  have h10 := io_sI e9 h7
  refine s_iconst X (v := (0 : Int32)) dX0_run_17 rfl ?_
  refine s_istore_n X (vs' := [(0, .ref (gB G + o)), (1, .ref (gB G + a1)), (2, .int a2), (3, .int (0 : Int32))]) dX0_run_18 rfl (Nat.le_of_ble_eq_true rfl) [1, 2, 3, 0] rfl ?_
  exact l_X0_run_19 X hr hlk hnm _ _ _ _ _ hf
theorem dX9_firstInside_0 : decode cX9_firstInside 0 = .ok (.aload_n 0, 1) := dk_42 (by decide +kernel)
theorem dX9_firstInside_1 : decode cX9_firstInside 1 = .ok (.getfield 28, 3) := dk_180 (x := 0) (y := 28) (by decide +kernel) rfl
theorem dX9_firstInside_4 : decode cX9_firstInside 4 = .ok (.getfield 177, 3) := dk_180 (x := 0) (y := 177) (by decide +kernel) rfl
theorem dX9_firstInside_7 : decode cX9_firstInside 7 = .ok (.iload_n 1, 1) := dk_27 (by decide +kernel)
theorem dX9_firstInside_8 : decode cX9_firstInside 8 = .ok (.invokestatic 180, 3) := dk_184 (x := 0) (y := 180) (by decide +kernel) rfl
theorem dX9_firstInside_11 : decode cX9_firstInside 11 = .ok (.ifCond .eq 5, 3) := dk_153 (x := 0) (y := 5) (by decide +kernel) rfl
theorem dX9_firstInside_14 : decode cX9_firstInside 14 = .ok (.iconst 0, 1) := dk_3 (by decide +kernel)
theorem dX9_firstInside_15 : decode cX9_firstInside 15 = .ok (.ireturn, 1) := dk_172 (by decide +kernel)
theorem dX9_firstInside_16 : decode cX9_firstInside 16 = .ok (.aload_n 0, 1) := dk_42 (by decide +kernel)
theorem dX9_firstInside_17 : decode cX9_firstInside 17 = .ok (.getfield 32, 3) := dk_180 (x := 0) (y := 32) (by decide +kernel) rfl
theorem dX9_firstInside_20 : decode cX9_firstInside 20 = .ok (.getfield 99, 3) := dk_180 (x := 0) (y := 99) (by decide +kernel) rfl
theorem dX9_firstInside_23 : decode cX9_firstInside 23 = .ok (.iload_n 1, 1) := dk_27 (by decide +kernel)
theorem dX9_firstInside_24 : decode cX9_firstInside 24 = .ok (.aaload, 1) := dk_50 (by decide +kernel)
theorem dX9_firstInside_25 : decode cX9_firstInside 25 = .ok (.getfield 221, 3) := dk_180 (x := 0) (y := 221) (by decide +kernel) rfl
theorem dX9_firstInside_28 : decode cX9_firstInside 28 = .ok (.aload_n 0, 1) := dk_42 (by decide +kernel)
theorem dX9_firstInside_29 : decode cX9_firstInside 29 = .ok (.getfield 28, 3) := dk_180 (x := 0) (y := 28) (by decide +kernel) rfl
theorem dX9_firstInside_32 : decode cX9_firstInside 32 = .ok (.getfield 99, 3) := dk_180 (x := 0) (y := 99) (by decide +kernel) rfl
theorem dX9_firstInside_35 : decode cX9_firstInside 35 = .ok (.iload_n 1, 1) := dk_27 (by decide +kernel)
theorem dX9_firstInside_36 : decode cX9_firstInside 36 = .ok (.aaload, 1) := dk_50 (by decide +kernel)
theorem dX9_firstInside_37 : decode cX9_firstInside 37 = .ok (.getfield 221, 3) := dk_180 (x := 0) (y := 221) (by decide +kernel) rfl
theorem dX9_firstInside_40 : decode cX9_firstInside 40 = .ok (.if_icmp .le 7, 3) := dk_164 (x := 0) (y := 7) (by decide +kernel) rfl
theorem dX9_firstInside_43 : decode cX9_firstInside 43 = .ok (.iconst 1, 1) := dk_4 (by decide +kernel)
theorem dX9_firstInside_44 : decode cX9_firstInside 44 = .ok (.goto 4, 3) := dk_167 (x := 0) (y := 4) (by decide +kernel) rfl
theorem dX9_firstInside_47 : decode cX9_firstInside 47 = .ok (.iconst 0, 1) := dk_3 (by decide +kernel)
theorem dX9_firstInside_48 : decode cX9_firstInside 48 = .ok (.istore_n 2, 1) := dk_61 (by decide +kernel)
theorem dX9_firstInside_49 : decode cX9_firstInside 49 = .ok (.iload_n 2, 1) := dk_28 (by decide +kernel)
theorem dX9_firstInside_50 : decode cX9_firstInside 50 = .ok (.ifCond .eq 18, 3) := dk_153 (x := 0) (y := 18) (by decide +kernel) rfl
theorem dX9_firstInside_53 : decode cX9_firstInside 53 = .ok (.aload_n 0, 1) := dk_42 (by decide +kernel)
theorem dX9_firstInside_54 : decode cX9_firstInside 54 = .ok (.getfield 32, 3) := dk_180 (x := 0) (y := 32) (by decide +kernel) rfl
theorem dX9_firstInside_57 : decode cX9_firstInside 57 = .ok (.getfield 99, 3) := dk_180 (x := 0) (y := 99) (by decide +kernel) rfl
theorem dX9_firstInside_60 : decode cX9_firstInside 60 = .ok (.iload_n 1, 1) := dk_27 (by decide +kernel)
theorem dX9_firstInside_61 : decode cX9_firstInside 61 = .ok (.aaload, 1) := dk_50 (by decide +kernel)
theorem dX9_firstInside_62 : decode cX9_firstInside 62 = .ok (.getfield 371, 3) := dk_180 (x := 1) (y := 115) (by decide +kernel) rfl
theorem dX9_firstInside_65 : decode cX9_firstInside 65 = .ok (.goto 4, 3) := dk_167 (x := 0) (y := 4) (by decide +kernel) rfl
theorem dX9_firstInside_68 : decode cX9_firstInside 68 = .ok (.iconst (-1), 1) := dk_2 (by decide +kernel)
theorem dX9_firstInside_69 : decode cX9_firstInside 69 = .ok (.ireturn, 1) := dk_172 (by decide +kernel)
def f_X9_firstInside_48 (M : Mem) (v0 : Nat) (v1 : Int32) (u0 : Int32) : Option Int32 :=
    if u0 = 0 then (
      some (-1 : Int32)
      ) else (
      chk (isO M 9 v0) <|
      bnd (mR M v0 3) fun o4 =>
      chk (isO M 2 o4) <|
      bnd (mR M o4 2) fun o7 =>
      chk (isO M 102 o7) <|
      chk (inB v1 (mLn M o7)) <|
      bnd (mR M o7 (v1).toNatClampNeg) fun o11 =>
      chk (isO M 4 o11) <|
      some (mI M o11 15)
      )
def f_X9_firstInside (o : Nat) (a1 : Int32) (M : Mem) : Option Int32 :=
  chk (isO M 9 o) <|
  bnd (mR M o 2) fun o2 =>
  chk (isO M 2 o2) <|
  obd (f_X9_has (mI M o2 7) a1 M) fun r6 =>
  if r6 = 0 then (
    bnd (mR M o 3) fun o9 =>
    chk (isO M 2 o9) <|
    bnd (mR M o9 2) fun o12 =>
    chk (isO M 102 o12) <|
    chk (inB a1 (mLn M o12)) <|
    bnd (mR M o12 (a1).toNatClampNeg) fun o16 =>
    chk (isO M 4 o16) <|
    bnd (mR M o 2) fun o19 =>
    chk (isO M 2 o19) <|
    bnd (mR M o19 2) fun o22 =>
    chk (isO M 102 o22) <|
    chk (inB a1 (mLn M o22)) <|
    bnd (mR M o22 (a1).toNatClampNeg) fun o26 =>
    chk (isO M 4 o26) <|
    if (mI M o16 11) ≤ (mI M o26 11) then (
      f_X9_firstInside_48 M o a1 (0 : Int32)
      ) else (
      f_X9_firstInside_48 M o a1 (1 : Int32)
      )
    ) else (
    some (0 : Int32)
    )
theorem cd_X9_firstInside : (yX9_firstInside.cls ≠ "java/lang/invoke/MethodHandle" ∧ yX9_firstInside.cls ≠ "java/lang/invoke/VarHandle") ∧ (parseMethodDescriptor yX9_firstInside.desc).map (fun d => d.parameters.length) = some 1 := ⟨⟨by decide +kernel, by decide +kernel⟩, by decide +kernel⟩
section
variable {p : Program} {l : Launch} {e : Env} {R : Room} {s : State} {m : MethodId} {args : Array Value} {below : List Frame} {meth : Method} {c : Code} {G : Gam} {M0 : Mem}
theorem l_X9_firstInside_48 {M : Mem} {rv : Int32} {v0 : Nat} {v1 : Int32} {u0 : Int32} (X : Cx p R s m args c G M0 cX9_firstInside yX9_firstInside.cls 3 1 21) (hr : meth.sig.returnType = (some .int)) (hlk : meth.locks = false) (hnm : meth.name = "firstInside") (hf : f_X9_firstInside_48 M v0 v1 u0 = some rv) : Sg p l e R s m args below meth c (Qm below G args s (some (.int rv)) M0 M) G M0 3 48 [(0, .ref (gB G + v0)), (1, .int v1)] [.int u0] M := by
  rw [f_X9_firstInside_48] at hf
  refine s_istore_n X (vs' := [(0, .ref (gB G + v0)), (1, .int v1), (2, .int u0)]) dX9_firstInside_48 rfl (Nat.le_of_ble_eq_true rfl) [1, 2, 0] rfl ?_
  refine s_iload_n X 2 dX9_firstInside_49 rfl rfl ?_
  have hs1 := pk_ite hf
  clear hf
  refine s_if_eq X (tgt := 68) dX9_firstInside_50 rfl (fun c2 => ?_) (fun c2 => ?_)
  · have hf := hs1.1 c2
    refine s_iconst X (v := (-1 : Int32)) dX9_firstInside_68 rfl ?_
    cases hf
    exact s_iret X hr hlk dX9_firstInside_69
  · have hf := hs1.2 c2
    refine s_aload_n X 0 dX9_firstInside_53 rfl rfl ?_
    obtain ⟨h3, hf⟩ := pk_chk hf
    obtain ⟨o4, e5, hf⟩ := pk_bnd hf
    obtain ⟨h6, hf⟩ := pk_chk hf
    refine s_getR X (ci := 9) (k := 3) rfl (Nat.le_of_ble_eq_true rfl) h3 wd630 (fun _ _ _ => rfl) (e5 ▸ h6) dX9_firstInside_54 (e5 ▸ ?_)
    obtain ⟨o7, e8, hf⟩ := pk_bnd hf
    obtain ⟨h9, hf⟩ := pk_chk hf
    refine s_getR X (ci := 2) (k := 2) rfl (Nat.le_of_ble_eq_true rfl) h6 wd426 (fun _ _ _ => rfl) (e8 ▸ h9) dX9_firstInside_57 (e8 ▸ ?_)
    refine s_iload_n X 1 dX9_firstInside_60 rfl rfl ?_
    obtain ⟨h10, hf⟩ := pk_chk hf
    obtain ⟨o11, e12, hf⟩ := pk_bnd hf
    obtain ⟨h13, hf⟩ := pk_chk hf
    refine s_aald X h9 h10 (e12 ▸ h13) dX9_firstInside_61 (e12 ▸ ?_)
    refine s_getI X (ci := 4) (k := 15) rfl (Nat.le_of_ble_eq_true rfl) h13 wd382 (fun _ _ _ => rfl) dX9_firstInside_62 ?_
    refine s_goto X (tgt := 69) dX9_firstInside_65 rfl ?_
    cases hf
    exact s_iret X hr hlk dX9_firstInside_69
end
theorem k_X9_firstInside (G : Gam) {o : Nat} {a1 : Int32} {M : Mem} {rv : Int32} (hf : f_X9_firstInside o a1 M = some rv) : Kt yX9_firstInside cX9_firstInside 3 (some .int) 1 21 G [.ref (gB G + o), .int a1] M M (some (.int rv)) := by
  refine Kt.of (by decide) (Nat.le_of_ble_eq_true rfl) ?_
  intro p l e R s m args below meth c X hr hlk hnm
  refine s_drop [0, 1] (vs' := [(0, .ref (gB G + o)), (1, .int a1)]) rfl ?_
  rw [f_X9_firstInside] at hf
  refine s_aload_n X 0 dX9_firstInside_0 rfl rfl ?_
  obtain ⟨h1, hf⟩ := pk_chk hf
  obtain ⟨o2, e3, hf⟩ := pk_bnd hf
  obtain ⟨h4, hf⟩ := pk_chk hf
  refine s_getR X (ci := 9) (k := 2) rfl (Nat.le_of_ble_eq_true rfl) h1 wd629 (fun _ _ _ => rfl) (e3 ▸ h4) dX9_firstInside_1 (e3 ▸ ?_)
  refine s_getI X (ci := 2) (k := 7) rfl (Nat.le_of_ble_eq_true rfl) h4 wd437 (fun _ _ _ => rfl) dX9_firstInside_4 ?_
  refine s_iload_n X 1 dX9_firstInside_7 rfl rfl ?_
  obtain ⟨r6, hc5, hf⟩ := pk_obd hf
  refine s_callS X (k_X9_has G hc5) wd966 wd712 wd713 wd126 cd_X9_has ⟨Nat.le_of_ble_eq_true rfl, Nat.le_of_ble_eq_true rfl⟩ (Nat.le_of_ble_eq_true rfl) dX9_firstInside_8 ?_
  have hs7 := pk_ite hf
  clear hf
  refine s_if_eq X (tgt := 16) dX9_firstInside_11 rfl (fun c8 => ?_) (fun c8 => ?_)
  · have hf := hs7.1 c8
    refine s_aload_n X 0 dX9_firstInside_16 rfl rfl ?_
    obtain ⟨o9, e10, hf⟩ := pk_bnd hf
    obtain ⟨h11, hf⟩ := pk_chk hf
    refine s_getR X (ci := 9) (k := 3) rfl (Nat.le_of_ble_eq_true rfl) h1 wd630 (fun _ _ _ => rfl) (e10 ▸ h11) dX9_firstInside_17 (e10 ▸ ?_)
    obtain ⟨o12, e13, hf⟩ := pk_bnd hf
    obtain ⟨h14, hf⟩ := pk_chk hf
    refine s_getR X (ci := 2) (k := 2) rfl (Nat.le_of_ble_eq_true rfl) h11 wd426 (fun _ _ _ => rfl) (e13 ▸ h14) dX9_firstInside_20 (e13 ▸ ?_)
    refine s_iload_n X 1 dX9_firstInside_23 rfl rfl ?_
    obtain ⟨h15, hf⟩ := pk_chk hf
    obtain ⟨o16, e17, hf⟩ := pk_bnd hf
    obtain ⟨h18, hf⟩ := pk_chk hf
    refine s_aald X h14 h15 (e17 ▸ h18) dX9_firstInside_24 (e17 ▸ ?_)
    refine s_getI X (ci := 4) (k := 11) rfl (Nat.le_of_ble_eq_true rfl) h18 wd371 (fun _ _ _ => rfl) dX9_firstInside_25 ?_
    refine s_aload_n X 0 dX9_firstInside_28 rfl rfl ?_
    obtain ⟨o19, e20, hf⟩ := pk_bnd hf
    obtain ⟨h21, hf⟩ := pk_chk hf
    refine s_getR X (ci := 9) (k := 2) rfl (Nat.le_of_ble_eq_true rfl) h1 wd629 (fun _ _ _ => rfl) (e20 ▸ h21) dX9_firstInside_29 (e20 ▸ ?_)
    obtain ⟨o22, e23, hf⟩ := pk_bnd hf
    obtain ⟨h24, hf⟩ := pk_chk hf
    refine s_getR X (ci := 2) (k := 2) rfl (Nat.le_of_ble_eq_true rfl) h21 wd426 (fun _ _ _ => rfl) (e23 ▸ h24) dX9_firstInside_32 (e23 ▸ ?_)
    refine s_iload_n X 1 dX9_firstInside_35 rfl rfl ?_
    obtain ⟨h25, hf⟩ := pk_chk hf
    obtain ⟨o26, e27, hf⟩ := pk_bnd hf
    obtain ⟨h28, hf⟩ := pk_chk hf
    refine s_aald X h24 h25 (e27 ▸ h28) dX9_firstInside_36 (e27 ▸ ?_)
    refine s_getI X (ci := 4) (k := 11) rfl (Nat.le_of_ble_eq_true rfl) h28 wd371 (fun _ _ _ => rfl) dX9_firstInside_37 ?_
    have hs29 := pk_ite hf
    clear hf
    refine s_icmp_le X (tgt := 47) dX9_firstInside_40 rfl (fun c30 => ?_) (fun c30 => ?_)
    · have hf := hs29.1 c30
      refine s_iconst X (v := (0 : Int32)) dX9_firstInside_47 rfl ?_
      exact l_X9_firstInside_48 X hr hlk hnm hf
    · have hf := hs29.2 c30
      refine s_iconst X (v := (1 : Int32)) dX9_firstInside_43 rfl ?_
      refine s_goto X (tgt := 48) dX9_firstInside_44 rfl ?_
      exact l_X9_firstInside_48 X hr hlk hnm hf
  · have hf := hs7.2 c8
    refine s_iconst X (v := (0 : Int32)) dX9_firstInside_14 rfl ?_
    cases hf
    exact s_iret X hr hlk dX9_firstInside_15
theorem dX9_timed_0 : decode cX9_timed 0 = .ok (.iload_n 1, 1) := dk_27 (by decide +kernel)
theorem dX9_timed_1 : decode cX9_timed 1 = .ok (.iconst 1, 1) := dk_4 (by decide +kernel)
theorem dX9_timed_2 : decode cX9_timed 2 = .ok (.if_icmp .lt 29, 3) := dk_161 (x := 0) (y := 29) (by decide +kernel) rfl
theorem dX9_timed_5 : decode cX9_timed 5 = .ok (.iload_n 1, 1) := dk_27 (by decide +kernel)
theorem dX9_timed_6 : decode cX9_timed 6 = .ok (.bipush 20, 2) := dk_16 (x := 20) (by decide +kernel) rfl
theorem dX9_timed_8 : decode cX9_timed 8 = .ok (.if_icmp .gt 23, 3) := dk_163 (x := 0) (y := 23) (by decide +kernel) rfl
theorem dX9_timed_11 : decode cX9_timed 11 = .ok (.aload_n 0, 1) := dk_42 (by decide +kernel)
theorem dX9_timed_12 : decode cX9_timed 12 = .ok (.getfield 10, 3) := dk_180 (x := 0) (y := 10) (by decide +kernel) rfl
theorem dX9_timed_15 : decode cX9_timed 15 = .ok (.iload_n 2, 1) := dk_28 (by decide +kernel)
theorem dX9_timed_16 : decode cX9_timed 16 = .ok (.invokevirtual 71, 3) := dk_182 (x := 0) (y := 71) (by decide +kernel) rfl
theorem dX9_timed_19 : decode cX9_timed 19 = .ok (.ifCond .eq 12, 3) := dk_153 (x := 0) (y := 12) (by decide +kernel) rfl
theorem dX9_timed_22 : decode cX9_timed 22 = .ok (.iload_n 3, 1) := dk_29 (by decide +kernel)
theorem dX9_timed_23 : decode cX9_timed 23 = .ok (.ifCond .lt 8, 3) := dk_155 (x := 0) (y := 8) (by decide +kernel) rfl
theorem dX9_timed_26 : decode cX9_timed 26 = .ok (.iload_n 3, 1) := dk_29 (by decide +kernel)
theorem dX9_timed_27 : decode cX9_timed 27 = .ok (.iconst 4, 1) := dk_7 (by decide +kernel)
theorem dX9_timed_28 : decode cX9_timed 28 = .ok (.if_icmp .le 5, 3) := dk_164 (x := 0) (y := 5) (by decide +kernel) rfl
theorem dX9_timed_31 : decode cX9_timed 31 = .ok (.iconst (-1), 1) := dk_2 (by decide +kernel)
theorem dX9_timed_32 : decode cX9_timed 32 = .ok (.ireturn, 1) := dk_172 (by decide +kernel)
theorem dX9_timed_33 : decode cX9_timed 33 = .ok (.aload_n 0, 1) := dk_42 (by decide +kernel)
theorem dX9_timed_34 : decode cX9_timed 34 = .ok (.getfield 32, 3) := dk_180 (x := 0) (y := 32) (by decide +kernel) rfl
theorem dX9_timed_37 : decode cX9_timed 37 = .ok (.aload_n 0, 1) := dk_42 (by decide +kernel)
theorem dX9_timed_38 : decode cX9_timed 38 = .ok (.getfield 28, 3) := dk_180 (x := 0) (y := 28) (by decide +kernel) rfl
theorem dX9_timed_41 : decode cX9_timed 41 = .ok (.invokevirtual 311, 3) := dk_182 (x := 1) (y := 55) (by decide +kernel) rfl
theorem dX9_timed_44 : decode cX9_timed 44 = .ok (.aload_n 0, 1) := dk_42 (by decide +kernel)
theorem dX9_timed_45 : decode cX9_timed 45 = .ok (.getfield 38, 3) := dk_180 (x := 0) (y := 38) (by decide +kernel) rfl
theorem dX9_timed_48 : decode cX9_timed 48 = .ok (.aload_n 0, 1) := dk_42 (by decide +kernel)
theorem dX9_timed_49 : decode cX9_timed 49 = .ok (.getfield 32, 3) := dk_180 (x := 0) (y := 32) (by decide +kernel) rfl
theorem dX9_timed_52 : decode cX9_timed 52 = .ok (.iload_n 1, 1) := dk_27 (by decide +kernel)
theorem dX9_timed_53 : decode cX9_timed 53 = .ok (.invokevirtual 323, 3) := dk_182 (x := 1) (y := 67) (by decide +kernel) rfl
theorem dX9_timed_56 : decode cX9_timed 56 = .ok (.iload_n 3, 1) := dk_29 (by decide +kernel)
theorem dX9_timed_57 : decode cX9_timed 57 = .ok (.tableswitch 69 0 3 #[31, 39, 55, 63], 31) := by decide +kernel
theorem dX9_timed_88 : decode cX9_timed 88 = .ok (.aload_n 0, 1) := dk_42 (by decide +kernel)
theorem dX9_timed_89 : decode cX9_timed 89 = .ok (.getfield 38, 3) := dk_180 (x := 0) (y := 38) (by decide +kernel) rfl
theorem dX9_timed_92 : decode cX9_timed 92 = .ok (.getfield 326, 3) := dk_180 (x := 1) (y := 70) (by decide +kernel) rfl
theorem dX9_timed_95 : decode cX9_timed 95 = .ok (.ireturn, 1) := dk_172 (by decide +kernel)
theorem dX9_timed_96 : decode cX9_timed 96 = .ok (.aload_n 0, 1) := dk_42 (by decide +kernel)
theorem dX9_timed_97 : decode cX9_timed 97 = .ok (.getfield 32, 3) := dk_180 (x := 0) (y := 32) (by decide +kernel) rfl
theorem dX9_timed_100 : decode cX9_timed 100 = .ok (.getfield 258, 3) := dk_180 (x := 1) (y := 2) (by decide +kernel) rfl
theorem dX9_timed_103 : decode cX9_timed 103 = .ok (.aload_n 0, 1) := dk_42 (by decide +kernel)
theorem dX9_timed_104 : decode cX9_timed 104 = .ok (.getfield 28, 3) := dk_180 (x := 0) (y := 28) (by decide +kernel) rfl
theorem dX9_timed_107 : decode cX9_timed 107 = .ok (.getfield 258, 3) := dk_180 (x := 1) (y := 2) (by decide +kernel) rfl
theorem dX9_timed_110 : decode cX9_timed 110 = .ok (.isub, 1) := dk_100 (by decide +kernel)
theorem dX9_timed_111 : decode cX9_timed 111 = .ok (.ireturn, 1) := dk_172 (by decide +kernel)
theorem dX9_timed_112 : decode cX9_timed 112 = .ok (.aload_n 0, 1) := dk_42 (by decide +kernel)
theorem dX9_timed_113 : decode cX9_timed 113 = .ok (.getfield 38, 3) := dk_180 (x := 0) (y := 38) (by decide +kernel) rfl
theorem dX9_timed_116 : decode cX9_timed 116 = .ok (.getfield 329, 3) := dk_180 (x := 1) (y := 73) (by decide +kernel) rfl
theorem dX9_timed_119 : decode cX9_timed 119 = .ok (.ireturn, 1) := dk_172 (by decide +kernel)
theorem dX9_timed_120 : decode cX9_timed 120 = .ok (.aload_n 0, 1) := dk_42 (by decide +kernel)
theorem dX9_timed_121 : decode cX9_timed 121 = .ok (.iload_n 2, 1) := dk_28 (by decide +kernel)
theorem dX9_timed_122 : decode cX9_timed 122 = .ok (.invokevirtual 332, 3) := dk_182 (x := 1) (y := 76) (by decide +kernel) rfl
theorem dX9_timed_125 : decode cX9_timed 125 = .ok (.ireturn, 1) := dk_172 (by decide +kernel)
theorem dX9_timed_126 : decode cX9_timed 126 = .ok (.aload_n 0, 1) := dk_42 (by decide +kernel)
theorem dX9_timed_127 : decode cX9_timed 127 = .ok (.getfield 38, 3) := dk_180 (x := 0) (y := 38) (by decide +kernel) rfl
theorem dX9_timed_130 : decode cX9_timed 130 = .ok (.getfield 335, 3) := dk_180 (x := 1) (y := 79) (by decide +kernel) rfl
theorem dX9_timed_133 : decode cX9_timed 133 = .ok (.ireturn, 1) := dk_172 (by decide +kernel)
def f_X9_timed (n : Nat) (o : Nat) (a1 : Int32) (a2 : Int32) (a3 : Int32) (M : Mem) : Option (Int32 × Mem) :=
  if a1 < (1 : Int32) then (
    some ((-1 : Int32), M)
    ) else (
    if (20 : Int32) < a1 then (
      some ((-1 : Int32), M)
      ) else (
      chk (isO M 9 o) <|
      bnd (mR M o 0) fun o6 =>
      chk (isO M 7 o6) <|
      obd (f_X7_isNode o6 a2 M) fun r10 =>
      if r10 = 0 then (
        some ((-1 : Int32), M)
        ) else (
        if a3 < 0 then (
          some ((-1 : Int32), M)
          ) else (
          if a3 ≤ (4 : Int32) then (
            bnd (mR M o 3) fun o17 =>
            chk (isO M 2 o17) <|
            bnd (mR M o 2) fun o20 =>
            chk (isO M 2 o20) <|
            obd (f_X2_copyFrom n o17 o20 M) fun M24 =>
            chk (isO M24 9 o) <|
            bnd (mR M24 o 4) fun o26 =>
            chk (isO M24 0 o26) <|
            bnd (mR M24 o 3) fun o29 =>
            chk (isO M24 2 o29) <|
            obd (f_X0_run n o26 o29 a1 M24) fun M33 =>
            if a3 = (0 : Int32) then (
              chk (isO M33 9 o) <|
              bnd (mR M33 o 4) fun o37 =>
              chk (isO M33 0 o37) <|
              some ((mI M33 o37 1), M33)
              ) else (
            if a3 = (1 : Int32) then (
              chk (isO M33 9 o) <|
              bnd (mR M33 o 3) fun o43 =>
              chk (isO M33 2 o43) <|
              bnd (mR M33 o 2) fun o46 =>
              chk (isO M33 2 o46) <|
              some (((mI M33 o43 11) - (mI M33 o46 11)), M33)
              ) else (
            if a3 = (2 : Int32) then (
              chk (isO M33 9 o) <|
              bnd (mR M33 o 4) fun o52 =>
              chk (isO M33 0 o52) <|
              some ((mI M33 o52 2), M33)
              ) else (
            if a3 = (3 : Int32) then (
              chk (isO M33 9 o) <|
              obd (f_X9_firstInside o a2 M33) fun r59 =>
              some (r59, M33)
              ) else (
            chk (isO M33 9 o) <|
            bnd (mR M33 o 4) fun o61 =>
            chk (isO M33 0 o61) <|
            some ((mI M33 o61 3), M33)
            )
            )
            )
            )
            ) else (
            some ((-1 : Int32), M)
            )
          )
        )
      )
    )
theorem cd_X9_timed : (yX9_timed.cls ≠ "java/lang/invoke/MethodHandle" ∧ yX9_timed.cls ≠ "java/lang/invoke/VarHandle") ∧ (parseMethodDescriptor yX9_timed.desc).map (fun d => d.parameters.length) = some 3 := ⟨⟨by decide +kernel, by decide +kernel⟩, by decide +kernel⟩
theorem k_X9_timed (G : Gam) {n : Nat} {o : Nat} {a1 : Int32} {a2 : Int32} {a3 : Int32} {M : Mem} {rv : (Int32 × Mem)} (hf : f_X9_timed n o a1 a2 a3 M = some rv) : Kt yX9_timed cX9_timed 4 (some .int) 8 201 G [.ref (gB G + o), .int a1, .int a2, .int a3] M rv.2 (some (.int rv.1)) := by
  refine Kt.of (by decide) (Nat.le_of_ble_eq_true rfl) ?_
  intro p l e R s m args below meth c X hr hlk hnm
  refine s_drop [0, 1, 2, 3] (vs' := [(0, .ref (gB G + o)), (1, .int a1), (2, .int a2), (3, .int a3)]) rfl ?_
  rw [f_X9_timed] at hf
  refine s_iload_n X 1 dX9_timed_0 rfl rfl ?_
  refine s_iconst X (v := (1 : Int32)) dX9_timed_1 rfl ?_
  have hs1 := pk_ite hf
  clear hf
  refine s_icmp_lt X (tgt := 31) dX9_timed_2 rfl (fun c2 => ?_) (fun c2 => ?_)
  · have hf := hs1.1 c2
    refine s_iconst X (v := (-1 : Int32)) dX9_timed_31 rfl ?_
    cases hf
    exact s_iret X hr hlk dX9_timed_32
  · have hf := hs1.2 c2
    refine s_iload_n X 1 dX9_timed_5 rfl rfl ?_
    refine s_bipush X (v := (20 : Int32)) dX9_timed_6 rfl ?_
    have hs3 := pk_ite hf
    clear hf
    refine s_icmp_gt X (tgt := 31) dX9_timed_8 rfl (fun c4 => ?_) (fun c4 => ?_)
    · have hf := hs3.1 c4
      refine s_iconst X (v := (-1 : Int32)) dX9_timed_31 rfl ?_
      cases hf
      exact s_iret X hr hlk dX9_timed_32
    · have hf := hs3.2 c4
      refine s_aload_n X 0 dX9_timed_11 rfl rfl ?_
      obtain ⟨h5, hf⟩ := pk_chk hf
      obtain ⟨o6, e7, hf⟩ := pk_bnd hf
      obtain ⟨h8, hf⟩ := pk_chk hf
      refine s_getR X (ci := 9) (k := 0) rfl (Nat.le_of_ble_eq_true rfl) h5 wd627 (fun _ _ _ => rfl) (e7 ▸ h8) dX9_timed_12 (e7 ▸ ?_)
      refine s_iload_n X 2 dX9_timed_15 rfl rfl ?_
      obtain ⟨r10, hc9, hf⟩ := pk_obd hf
      refine s_callV X (ci := 7) (k_X7_isNode G hc9) rfl h8 wd699 wd700 wd701 wd702 wd127 cd_X7_isNode ⟨Nat.le_of_ble_eq_true rfl, Nat.le_of_ble_eq_true rfl⟩ (Nat.le_of_ble_eq_true rfl) dX9_timed_16 ?_
      have hs11 := pk_ite hf
      clear hf
      refine s_if_eq X (tgt := 31) dX9_timed_19 rfl (fun c12 => ?_) (fun c12 => ?_)
      · have hf := hs11.1 c12
        refine s_iconst X (v := (-1 : Int32)) dX9_timed_31 rfl ?_
        cases hf
        exact s_iret X hr hlk dX9_timed_32
      · have hf := hs11.2 c12
        refine s_iload_n X 3 dX9_timed_22 rfl rfl ?_
        have hs13 := pk_ite hf
        clear hf
        refine s_if_lt X (tgt := 31) dX9_timed_23 rfl (fun c14 => ?_) (fun c14 => ?_)
        · have hf := hs13.1 c14
          refine s_iconst X (v := (-1 : Int32)) dX9_timed_31 rfl ?_
          cases hf
          exact s_iret X hr hlk dX9_timed_32
        · have hf := hs13.2 c14
          refine s_iload_n X 3 dX9_timed_26 rfl rfl ?_
          refine s_iconst X (v := (4 : Int32)) dX9_timed_27 rfl ?_
          have hs15 := pk_ite hf
          clear hf
          refine s_icmp_le X (tgt := 33) dX9_timed_28 rfl (fun c16 => ?_) (fun c16 => ?_)
          · have hf := hs15.1 c16
            refine s_aload_n X 0 dX9_timed_33 rfl rfl ?_
            obtain ⟨o17, e18, hf⟩ := pk_bnd hf
            obtain ⟨h19, hf⟩ := pk_chk hf
            refine s_getR X (ci := 9) (k := 3) rfl (Nat.le_of_ble_eq_true rfl) h5 wd630 (fun _ _ _ => rfl) (e18 ▸ h19) dX9_timed_34 (e18 ▸ ?_)
            refine s_aload_n X 0 dX9_timed_37 rfl rfl ?_
            obtain ⟨o20, e21, hf⟩ := pk_bnd hf
            obtain ⟨h22, hf⟩ := pk_chk hf
            refine s_getR X (ci := 9) (k := 2) rfl (Nat.le_of_ble_eq_true rfl) h5 wd629 (fun _ _ _ => rfl) (e21 ▸ h22) dX9_timed_38 (e21 ▸ ?_)
            obtain ⟨M24, hc23, hf⟩ := pk_obd hf
            refine s_callV X (ci := 2) (k_X2_copyFrom G hc23) rfl h19 wd1235 wd1236 wd1237 wd1238 wd130 cd_X2_copyFrom ⟨Nat.le_of_ble_eq_true rfl, Nat.le_of_ble_eq_true rfl⟩ (Nat.le_of_ble_eq_true rfl) dX9_timed_41 ?_
            refine s_aload_n X 0 dX9_timed_44 rfl rfl ?_
            obtain ⟨h25, hf⟩ := pk_chk hf
            obtain ⟨o26, e27, hf⟩ := pk_bnd hf
            obtain ⟨h28, hf⟩ := pk_chk hf
            refine s_getR X (ci := 9) (k := 4) rfl (Nat.le_of_ble_eq_true rfl) h25 wd631 (fun _ _ _ => rfl) (e27 ▸ h28) dX9_timed_45 (e27 ▸ ?_)
            refine s_aload_n X 0 dX9_timed_48 rfl rfl ?_
            obtain ⟨o29, e30, hf⟩ := pk_bnd hf
            obtain ⟨h31, hf⟩ := pk_chk hf
            refine s_getR X (ci := 9) (k := 3) rfl (Nat.le_of_ble_eq_true rfl) h25 wd630 (fun _ _ _ => rfl) (e30 ▸ h31) dX9_timed_49 (e30 ▸ ?_)
            refine s_iload_n X 1 dX9_timed_52 rfl rfl ?_
            obtain ⟨M33, hc32, hf⟩ := pk_obd hf
            refine s_callV X (ci := 0) (k_X0_run G hc32) rfl h28 wd1340 wd1341 wd1342 wd1343 wd134 cd_X0_run ⟨Nat.le_of_ble_eq_true rfl, Nat.le_of_ble_eq_true rfl⟩ (Nat.le_of_ble_eq_true rfl) dX9_timed_53 ?_
            refine s_iload_n X 3 dX9_timed_56 rfl rfl ?_
            have hs34 := pk_ite hf
            clear hf
            by_cases c35 : a3 = (0 : Int32)
            · have hf := hs34.1 c35
              refine s_swC X (v := (0 : Int32)) (tgt := 88) dX9_timed_57 c35 (by decide) (by decide) rfl rfl ?_
              refine s_aload_n X 0 dX9_timed_88 rfl rfl ?_
              obtain ⟨h36, hf⟩ := pk_chk hf
              obtain ⟨o37, e38, hf⟩ := pk_bnd hf
              obtain ⟨h39, hf⟩ := pk_chk hf
              refine s_getR X (ci := 9) (k := 4) rfl (Nat.le_of_ble_eq_true rfl) h36 wd631 (fun _ _ _ => rfl) (e38 ▸ h39) dX9_timed_89 (e38 ▸ ?_)
              refine s_getI X (ci := 0) (k := 1) rfl (Nat.le_of_ble_eq_true rfl) h39 wd502 (fun _ _ _ => rfl) dX9_timed_92 ?_
              cases hf
              exact s_iret X hr hlk dX9_timed_95
            have hf := hs34.2 c35
            have hs40 := pk_ite hf
            clear hf
            by_cases c41 : a3 = (1 : Int32)
            · have hf := hs40.1 c41
              refine s_swC X (v := (1 : Int32)) (tgt := 96) dX9_timed_57 c41 (by decide) (by decide) rfl rfl ?_
              refine s_aload_n X 0 dX9_timed_96 rfl rfl ?_
              obtain ⟨h42, hf⟩ := pk_chk hf
              obtain ⟨o43, e44, hf⟩ := pk_bnd hf
              obtain ⟨h45, hf⟩ := pk_chk hf
              refine s_getR X (ci := 9) (k := 3) rfl (Nat.le_of_ble_eq_true rfl) h42 wd630 (fun _ _ _ => rfl) (e44 ▸ h45) dX9_timed_97 (e44 ▸ ?_)
              refine s_getI X (ci := 2) (k := 11) rfl (Nat.le_of_ble_eq_true rfl) h45 wd447 (fun _ _ _ => rfl) dX9_timed_100 ?_
              refine s_aload_n X 0 dX9_timed_103 rfl rfl ?_
              obtain ⟨o46, e47, hf⟩ := pk_bnd hf
              obtain ⟨h48, hf⟩ := pk_chk hf
              refine s_getR X (ci := 9) (k := 2) rfl (Nat.le_of_ble_eq_true rfl) h42 wd629 (fun _ _ _ => rfl) (e47 ▸ h48) dX9_timed_104 (e47 ▸ ?_)
              refine s_getI X (ci := 2) (k := 11) rfl (Nat.le_of_ble_eq_true rfl) h48 wd447 (fun _ _ _ => rfl) dX9_timed_107 ?_
              refine s_isub X dX9_timed_110 ?_
              cases hf
              exact s_iret X hr hlk dX9_timed_111
            have hf := hs40.2 c41
            have hs49 := pk_ite hf
            clear hf
            by_cases c50 : a3 = (2 : Int32)
            · have hf := hs49.1 c50
              refine s_swC X (v := (2 : Int32)) (tgt := 112) dX9_timed_57 c50 (by decide) (by decide) rfl rfl ?_
              refine s_aload_n X 0 dX9_timed_112 rfl rfl ?_
              obtain ⟨h51, hf⟩ := pk_chk hf
              obtain ⟨o52, e53, hf⟩ := pk_bnd hf
              obtain ⟨h54, hf⟩ := pk_chk hf
              refine s_getR X (ci := 9) (k := 4) rfl (Nat.le_of_ble_eq_true rfl) h51 wd631 (fun _ _ _ => rfl) (e53 ▸ h54) dX9_timed_113 (e53 ▸ ?_)
              refine s_getI X (ci := 0) (k := 2) rfl (Nat.le_of_ble_eq_true rfl) h54 wd504 (fun _ _ _ => rfl) dX9_timed_116 ?_
              cases hf
              exact s_iret X hr hlk dX9_timed_119
            have hf := hs49.2 c50
            have hs55 := pk_ite hf
            clear hf
            by_cases c56 : a3 = (3 : Int32)
            · have hf := hs55.1 c56
              refine s_swC X (v := (3 : Int32)) (tgt := 120) dX9_timed_57 c56 (by decide) (by decide) rfl rfl ?_
              refine s_aload_n X 0 dX9_timed_120 rfl rfl ?_
              refine s_iload_n X 2 dX9_timed_121 rfl rfl ?_
              obtain ⟨h57, hf⟩ := pk_chk hf
              obtain ⟨r59, hc58, hf⟩ := pk_obd hf
              refine s_callV X (ci := 9) (k_X9_firstInside G hc58) rfl h57 wd1361 wd1363 wd44 wd1364 wd126 cd_X9_firstInside ⟨Nat.le_of_ble_eq_true rfl, Nat.le_of_ble_eq_true rfl⟩ (Nat.le_of_ble_eq_true rfl) dX9_timed_122 ?_
              cases hf
              exact s_iret X hr hlk dX9_timed_125
            have hf := hs55.2 c56
            refine s_swOut X (tgt := 126) dX9_timed_57 (by have := sw_ne (v := (0 : Int32)) (z := 0) c35 (by decide); have := sw_ne (v := (1 : Int32)) (z := 1) c41 (by decide); have := sw_ne (v := (2 : Int32)) (z := 2) c50 (by decide); have := sw_ne (v := (3 : Int32)) (z := 3) c56 (by decide); omega) rfl ?_
            refine s_aload_n X 0 dX9_timed_126 rfl rfl ?_
            obtain ⟨h60, hf⟩ := pk_chk hf
            obtain ⟨o61, e62, hf⟩ := pk_bnd hf
            obtain ⟨h63, hf⟩ := pk_chk hf
            refine s_getR X (ci := 9) (k := 4) rfl (Nat.le_of_ble_eq_true rfl) h60 wd631 (fun _ _ _ => rfl) (e62 ▸ h63) dX9_timed_127 (e62 ▸ ?_)
            refine s_getI X (ci := 0) (k := 3) rfl (Nat.le_of_ble_eq_true rfl) h63 wd506 (fun _ _ _ => rfl) dX9_timed_130 ?_
            cases hf
            exact s_iret X hr hlk dX9_timed_133
          · have hf := hs15.2 c16
            refine s_iconst X (v := (-1 : Int32)) dX9_timed_31 rfl ?_
            cases hf
            exact s_iret X hr hlk dX9_timed_32
theorem dX10_dueLetter_0 : decode cX10_dueLetter 0 = .ok (.iconst (-1), 1) := dk_2 (by decide +kernel)
theorem dX10_dueLetter_1 : decode cX10_dueLetter 1 = .ok (.istore_n 1, 1) := dk_60 (by decide +kernel)
theorem dX10_dueLetter_2 : decode cX10_dueLetter 2 = .ok (.iconst (-1), 1) := dk_2 (by decide +kernel)
theorem dX10_dueLetter_3 : decode cX10_dueLetter 3 = .ok (.istore_n 2, 1) := dk_61 (by decide +kernel)
theorem dX10_dueLetter_4 : decode cX10_dueLetter 4 = .ok (.iconst 0, 1) := dk_3 (by decide +kernel)
theorem dX10_dueLetter_5 : decode cX10_dueLetter 5 = .ok (.istore_n 3, 1) := dk_62 (by decide +kernel)
theorem dX10_dueLetter_6 : decode cX10_dueLetter 6 = .ok (.iload_n 3, 1) := dk_29 (by decide +kernel)
theorem dX10_dueLetter_7 : decode cX10_dueLetter 7 = .ok (.aload_n 0, 1) := dk_42 (by decide +kernel)
theorem dX10_dueLetter_8 : decode cX10_dueLetter 8 = .ok (.getfield 7, 3) := dk_180 (x := 0) (y := 7) (by decide +kernel) rfl
theorem dX10_dueLetter_11 : decode cX10_dueLetter 11 = .ok (.sipush 850, 3) := dk_17 (x := 3) (y := 82) (by decide +kernel) rfl
theorem dX10_dueLetter_14 : decode cX10_dueLetter 14 = .ok (.iaload, 1) := dk_46 (by decide +kernel)
theorem dX10_dueLetter_15 : decode cX10_dueLetter 15 = .ok (.if_icmp .ge 83, 3) := dk_162 (x := 0) (y := 83) (by decide +kernel) rfl
theorem dX10_dueLetter_18 : decode cX10_dueLetter 18 = .ok (.aload_n 0, 1) := dk_42 (by decide +kernel)
theorem dX10_dueLetter_19 : decode cX10_dueLetter 19 = .ok (.getfield 7, 3) := dk_180 (x := 0) (y := 7) (by decide +kernel) rfl
theorem dX10_dueLetter_22 : decode cX10_dueLetter 22 = .ok (.sipush 851, 3) := dk_17 (x := 3) (y := 83) (by decide +kernel) rfl
theorem dX10_dueLetter_25 : decode cX10_dueLetter 25 = .ok (.iload_n 3, 1) := dk_29 (by decide +kernel)
theorem dX10_dueLetter_26 : decode cX10_dueLetter 26 = .ok (.iadd, 1) := dk_96 (by decide +kernel)
theorem dX10_dueLetter_27 : decode cX10_dueLetter 27 = .ok (.iaload, 1) := dk_46 (by decide +kernel)
theorem dX10_dueLetter_28 : decode cX10_dueLetter 28 = .ok (.invokestatic 140, 3) := dk_184 (x := 0) (y := 140) (by decide +kernel) rfl
theorem dX10_dueLetter_31 : decode cX10_dueLetter 31 = .ok (.istore 4, 2) := dk_54 (x := 4) (by decide +kernel)
theorem dX10_dueLetter_33 : decode cX10_dueLetter 33 = .ok (.iload 4, 2) := dk_21 (x := 4) (by decide +kernel)
theorem dX10_dueLetter_35 : decode cX10_dueLetter 35 = .ok (.iload_n 2, 1) := dk_28 (by decide +kernel)
theorem dX10_dueLetter_36 : decode cX10_dueLetter 36 = .ok (.if_icmp .ne 6, 3) := dk_160 (x := 0) (y := 6) (by decide +kernel) rfl
theorem dX10_dueLetter_39 : decode cX10_dueLetter 39 = .ok (.goto 53, 3) := dk_167 (x := 0) (y := 53) (by decide +kernel) rfl
theorem dX10_dueLetter_42 : decode cX10_dueLetter 42 = .ok (.iload 4, 2) := dk_21 (x := 4) (by decide +kernel)
theorem dX10_dueLetter_44 : decode cX10_dueLetter 44 = .ok (.istore_n 2, 1) := dk_61 (by decide +kernel)
theorem dX10_dueLetter_45 : decode cX10_dueLetter 45 = .ok (.aload_n 0, 1) := dk_42 (by decide +kernel)
theorem dX10_dueLetter_46 : decode cX10_dueLetter 46 = .ok (.getfield 16, 3) := dk_180 (x := 0) (y := 16) (by decide +kernel) rfl
theorem dX10_dueLetter_49 : decode cX10_dueLetter 49 = .ok (.iload_n 3, 1) := dk_29 (by decide +kernel)
theorem dX10_dueLetter_50 : decode cX10_dueLetter 50 = .ok (.iaload, 1) := dk_46 (by decide +kernel)
theorem dX10_dueLetter_51 : decode cX10_dueLetter 51 = .ok (.aload_n 0, 1) := dk_42 (by decide +kernel)
theorem dX10_dueLetter_52 : decode cX10_dueLetter 52 = .ok (.getfield 7, 3) := dk_180 (x := 0) (y := 7) (by decide +kernel) rfl
theorem dX10_dueLetter_55 : decode cX10_dueLetter 55 = .ok (.sipush 10209, 3) := dk_17 (x := 39) (y := 225) (by decide +kernel) rfl
theorem dX10_dueLetter_58 : decode cX10_dueLetter 58 = .ok (.iload 4, 2) := dk_21 (x := 4) (by decide +kernel)
theorem dX10_dueLetter_60 : decode cX10_dueLetter 60 = .ok (.iadd, 1) := dk_96 (by decide +kernel)
theorem dX10_dueLetter_61 : decode cX10_dueLetter 61 = .ok (.iaload, 1) := dk_46 (by decide +kernel)
theorem dX10_dueLetter_62 : decode cX10_dueLetter 62 = .ok (.iadd, 1) := dk_96 (by decide +kernel)
theorem dX10_dueLetter_63 : decode cX10_dueLetter 63 = .ok (.aload_n 0, 1) := dk_42 (by decide +kernel)
theorem dX10_dueLetter_64 : decode cX10_dueLetter 64 = .ok (.getfield 143, 3) := dk_180 (x := 0) (y := 143) (by decide +kernel) rfl
theorem dX10_dueLetter_67 : decode cX10_dueLetter 67 = .ok (.if_icmp .gt 25, 3) := dk_163 (x := 0) (y := 25) (by decide +kernel) rfl
theorem dX10_dueLetter_70 : decode cX10_dueLetter 70 = .ok (.iload_n 1, 1) := dk_27 (by decide +kernel)
theorem dX10_dueLetter_71 : decode cX10_dueLetter 71 = .ok (.iconst (-1), 1) := dk_2 (by decide +kernel)
theorem dX10_dueLetter_72 : decode cX10_dueLetter 72 = .ok (.if_icmp .eq 18, 3) := dk_159 (x := 0) (y := 18) (by decide +kernel) rfl
theorem dX10_dueLetter_75 : decode cX10_dueLetter 75 = .ok (.aload_n 0, 1) := dk_42 (by decide +kernel)
theorem dX10_dueLetter_76 : decode cX10_dueLetter 76 = .ok (.getfield 16, 3) := dk_180 (x := 0) (y := 16) (by decide +kernel) rfl
theorem dX10_dueLetter_79 : decode cX10_dueLetter 79 = .ok (.iload_n 3, 1) := dk_29 (by decide +kernel)
theorem dX10_dueLetter_80 : decode cX10_dueLetter 80 = .ok (.iaload, 1) := dk_46 (by decide +kernel)
theorem dX10_dueLetter_81 : decode cX10_dueLetter 81 = .ok (.aload_n 0, 1) := dk_42 (by decide +kernel)
theorem dX10_dueLetter_82 : decode cX10_dueLetter 82 = .ok (.getfield 16, 3) := dk_180 (x := 0) (y := 16) (by decide +kernel) rfl
theorem dX10_dueLetter_85 : decode cX10_dueLetter 85 = .ok (.iload_n 1, 1) := dk_27 (by decide +kernel)
theorem dX10_dueLetter_86 : decode cX10_dueLetter 86 = .ok (.iaload, 1) := dk_46 (by decide +kernel)
theorem dX10_dueLetter_87 : decode cX10_dueLetter 87 = .ok (.if_icmp .ge 5, 3) := dk_162 (x := 0) (y := 5) (by decide +kernel) rfl
theorem dX10_dueLetter_90 : decode cX10_dueLetter 90 = .ok (.iload_n 3, 1) := dk_29 (by decide +kernel)
theorem dX10_dueLetter_91 : decode cX10_dueLetter 91 = .ok (.istore_n 1, 1) := dk_60 (by decide +kernel)
theorem dX10_dueLetter_92 : decode cX10_dueLetter 92 = .ok (.iinc 3 1, 3) := dk_132 (x := 3) (y := 1) (by decide +kernel) rfl
theorem dX10_dueLetter_95 : decode cX10_dueLetter 95 = .ok (.goto (-89), 3) := dk_167 (x := 255) (y := 167) (by decide +kernel) rfl
theorem dX10_dueLetter_98 : decode cX10_dueLetter 98 = .ok (.iload_n 1, 1) := dk_27 (by decide +kernel)
theorem dX10_dueLetter_99 : decode cX10_dueLetter 99 = .ok (.ireturn, 1) := dk_172 (by decide +kernel)
def f_X10_dueLetter_6 (M : Mem) : Nat → Nat → Int32 → Int32 → Int32 → Option Int32
  | 0, _, _, _, _ => none
  | n + 1, v0, v1, v2, v3 =>
    chk (isO M 10 v0) <|
    bnd (mR M v0 0) fun o2 =>
    chk (isO M 100 o2) <|
    chk (inB (850 : Int32) (mLn M o2)) <|
    if (mI M o2 ((850 : Int32)).toNatClampNeg) ≤ v3 then (
      some v1
      ) else (
      bnd (mR M v0 0) fun o8 =>
      chk (isO M 100 o8) <|
      chk (inB ((851 : Int32) + v3) (mLn M o8)) <|
      obd (f_X10_pairOf (mI M o8 (((851 : Int32) + v3)).toNatClampNeg) M) fun r13 =>
      if r13 = v2 then (
        bnd (v3 + (1 : Int32)) fun x46 =>
        f_X10_dueLetter_6 M n v0 v1 v2 x46
        ) else (
        bnd (mR M v0 2) fun o16 =>
        chk (isO M 100 o16) <|
        chk (inB v3 (mLn M o16)) <|
        bnd (mR M v0 0) fun o20 =>
        chk (isO M 100 o20) <|
        chk (inB ((10209 : Int32) + r13) (mLn M o20)) <|
        if (mI M v0 3) < ((mI M o16 (v3).toNatClampNeg) + (mI M o20 (((10209 : Int32) + r13)).toNatClampNeg)) then (
          bnd (v3 + (1 : Int32)) fun x26 =>
          f_X10_dueLetter_6 M n v0 v1 r13 x26
          ) else (
          if v1 = (-1 : Int32) then (
            bnd (v3 + (1 : Int32)) fun x30 =>
            f_X10_dueLetter_6 M n v0 v3 r13 x30
            ) else (
            bnd (mR M v0 2) fun o32 =>
            chk (isO M 100 o32) <|
            chk (inB v3 (mLn M o32)) <|
            bnd (mR M v0 2) fun o36 =>
            chk (isO M 100 o36) <|
            chk (inB v1 (mLn M o36)) <|
            if (mI M o36 (v1).toNatClampNeg) ≤ (mI M o32 (v3).toNatClampNeg) then (
              bnd (v3 + (1 : Int32)) fun x42 =>
              f_X10_dueLetter_6 M n v0 v1 r13 x42
              ) else (
              bnd (v3 + (1 : Int32)) fun x44 =>
              f_X10_dueLetter_6 M n v0 v3 r13 x44
              )
            )
          )
        )
      )
def f_X10_dueLetter (n : Nat) (o : Nat) (M : Mem) : Option Int32 :=
  f_X10_dueLetter_6 M n o (-1 : Int32) (-1 : Int32) (0 : Int32)
theorem cd_X10_dueLetter : (yX10_dueLetter.cls ≠ "java/lang/invoke/MethodHandle" ∧ yX10_dueLetter.cls ≠ "java/lang/invoke/VarHandle") ∧ (parseMethodDescriptor yX10_dueLetter.desc).map (fun d => d.parameters.length) = some 0 := ⟨⟨by decide +kernel, by decide +kernel⟩, by decide +kernel⟩
section
variable {p : Program} {l : Launch} {e : Env} {R : Room} {s : State} {m : MethodId} {args : Array Value} {below : List Frame} {meth : Method} {c : Code} {G : Gam} {M0 : Mem}
theorem l_X10_dueLetter_6 {M : Mem} {rv : Int32} (X : Cx p R s m args c G M0 cX10_dueLetter yX10_dueLetter.cls 5 1 20) (hr : meth.sig.returnType = (some .int)) (hlk : meth.locks = false) (hnm : meth.name = "dueLetter") : ∀ {n : Nat} (v0 : Nat) (v1 : Int32) (v2 : Int32) (v3 : Int32), f_X10_dueLetter_6 M n v0 v1 v2 v3 = some rv → Sg p l e R s m args below meth c (Qm below G args s (some (.int rv)) M0 M) G M0 5 6 [(0, .ref (gB G + v0)), (1, .int v1), (2, .int v2), (3, .int v3)] [] M := by
  intro n
  induction n with
  | zero => intro v0 v1 v2 v3 hf; exact (pk_none hf).elim
  | succ n ih =>
    intro v0 v1 v2 v3 hf
    rw [f_X10_dueLetter_6] at hf
    refine s_iload_n X 3 dX10_dueLetter_6 rfl rfl ?_
    refine s_aload_n X 0 dX10_dueLetter_7 rfl rfl ?_
    obtain ⟨h1, hf⟩ := pk_chk hf
    obtain ⟨o2, e3, hf⟩ := pk_bnd hf
    obtain ⟨h4, hf⟩ := pk_chk hf
    refine s_getR X (ci := 10) (k := 0) rfl (Nat.le_of_ble_eq_true rfl) h1 wd1440 (fun _ _ _ => rfl) (e3 ▸ h4) dX10_dueLetter_8 (e3 ▸ ?_)
    refine s_sipush X (v := (850 : Int32)) dX10_dueLetter_11 rfl ?_
    obtain ⟨h5, hf⟩ := pk_chk hf
    refine s_iald X h4 h5 dX10_dueLetter_14 ?_
    have hs6 := pk_ite hf
    clear hf
    refine s_icmp_ge X (tgt := 98) dX10_dueLetter_15 rfl (fun c7 => ?_) (fun c7 => ?_)
    · have hf := hs6.1 c7
      refine s_iload_n X 1 dX10_dueLetter_98 rfl rfl ?_
      cases hf
      exact s_iret X hr hlk dX10_dueLetter_99
    · have hf := hs6.2 c7
      refine s_aload_n X 0 dX10_dueLetter_18 rfl rfl ?_
      obtain ⟨o8, e9, hf⟩ := pk_bnd hf
      obtain ⟨h10, hf⟩ := pk_chk hf
      refine s_getR X (ci := 10) (k := 0) rfl (Nat.le_of_ble_eq_true rfl) h1 wd1440 (fun _ _ _ => rfl) (e9 ▸ h10) dX10_dueLetter_19 (e9 ▸ ?_)
      refine s_sipush X (v := (851 : Int32)) dX10_dueLetter_22 rfl ?_
      refine s_iload_n X 3 dX10_dueLetter_25 rfl rfl ?_
      refine s_iadd X dX10_dueLetter_26 ?_
      obtain ⟨h11, hf⟩ := pk_chk hf
      refine s_iald X h10 h11 dX10_dueLetter_27 ?_
      obtain ⟨r13, hc12, hf⟩ := pk_obd hf
      refine s_callS X (k_X10_pairOf G hc12) wd1704 wd1705 wd1706 wd138 cd_X10_pairOf ⟨Nat.le_of_ble_eq_true rfl, Nat.le_of_ble_eq_true rfl⟩ (Nat.le_of_ble_eq_true rfl) dX10_dueLetter_28 ?_
      refine s_istore X (vs' := [(0, .ref (gB G + v0)), (1, .int v1), (2, .int v2), (3, .int v3), (4, .int r13)]) dX10_dueLetter_31 (Nat.le_of_ble_eq_true rfl) [1, 2, 3, 4, 0] rfl ?_
      refine s_iload X 4 dX10_dueLetter_33 rfl ?_
      refine s_iload_n X 2 dX10_dueLetter_35 rfl rfl ?_
      have hs14 := pk_ite hf
      clear hf
      refine s_icmp_ne X (tgt := 42) dX10_dueLetter_36 rfl (fun c15 => ?_) (fun c15 => ?_)
      · have hf := hs14.2 c15
        refine s_iload X 4 dX10_dueLetter_42 rfl ?_
        refine s_istore_n X (vs' := [(0, .ref (gB G + v0)), (1, .int v1), (2, .int r13), (3, .int v3), (4, .int r13)]) dX10_dueLetter_44 rfl (Nat.le_of_ble_eq_true rfl) [1, 2, 0, 3, 4] rfl ?_
        refine s_aload_n X 0 dX10_dueLetter_45 rfl rfl ?_
        obtain ⟨o16, e17, hf⟩ := pk_bnd hf
        obtain ⟨h18, hf⟩ := pk_chk hf
        refine s_getR X (ci := 10) (k := 2) rfl (Nat.le_of_ble_eq_true rfl) h1 wd1442 (fun _ _ _ => rfl) (e17 ▸ h18) dX10_dueLetter_46 (e17 ▸ ?_)
        refine s_iload_n X 3 dX10_dueLetter_49 rfl rfl ?_
        obtain ⟨h19, hf⟩ := pk_chk hf
        refine s_iald X h18 h19 dX10_dueLetter_50 ?_
        refine s_aload_n X 0 dX10_dueLetter_51 rfl rfl ?_
        obtain ⟨o20, e21, hf⟩ := pk_bnd hf
        obtain ⟨h22, hf⟩ := pk_chk hf
        refine s_getR X (ci := 10) (k := 0) rfl (Nat.le_of_ble_eq_true rfl) h1 wd1440 (fun _ _ _ => rfl) (e21 ▸ h22) dX10_dueLetter_52 (e21 ▸ ?_)
        refine s_sipush X (v := (10209 : Int32)) dX10_dueLetter_55 rfl ?_
        refine s_iload X 4 dX10_dueLetter_58 rfl ?_
        refine s_iadd X dX10_dueLetter_60 ?_
        obtain ⟨h23, hf⟩ := pk_chk hf
        refine s_iald X h22 h23 dX10_dueLetter_61 ?_
        refine s_iadd X dX10_dueLetter_62 ?_
        refine s_aload_n X 0 dX10_dueLetter_63 rfl rfl ?_
        refine s_getI X (ci := 10) (k := 3) rfl (Nat.le_of_ble_eq_true rfl) h1 wd1443 (fun _ _ _ => rfl) dX10_dueLetter_64 ?_
        have hs24 := pk_ite hf
        clear hf
        refine s_icmp_gt X (tgt := 92) dX10_dueLetter_67 rfl (fun c25 => ?_) (fun c25 => ?_)
        · have hf := hs24.1 c25
          obtain ⟨x26, e27, hf⟩ := pk_bnd hf
          refine s_iinc X (vs' := [(0, .ref (gB G + v0)), (1, .int v1), (2, .int r13), (3, .int x26), (4, .int r13)]) 3 dX10_dueLetter_92 rfl (v := x26) e27.symm (Nat.le_of_ble_eq_true rfl) [1, 2, 3, 0, 4] rfl ?_
          refine s_goto X (tgt := 6) dX10_dueLetter_95 rfl ?_
          refine s_drop [0, 1, 2, 3] (vs' := [(0, .ref (gB G + v0)), (1, .int v1), (2, .int r13), (3, .int x26)]) rfl ?_
          exact ih _ _ _ _ hf
        · have hf := hs24.2 c25
          refine s_iload_n X 1 dX10_dueLetter_70 rfl rfl ?_
          refine s_iconst X (v := (-1 : Int32)) dX10_dueLetter_71 rfl ?_
          have hs28 := pk_ite hf
          clear hf
          refine s_icmp_eq X (tgt := 90) dX10_dueLetter_72 rfl (fun c29 => ?_) (fun c29 => ?_)
          · have hf := hs28.1 c29
            refine s_iload_n X 3 dX10_dueLetter_90 rfl rfl ?_
            refine s_istore_n X (vs' := [(0, .ref (gB G + v0)), (1, .int v3), (2, .int r13), (3, .int v3), (4, .int r13)]) dX10_dueLetter_91 rfl (Nat.le_of_ble_eq_true rfl) [1, 0, 2, 3, 4] rfl ?_
            obtain ⟨x30, e31, hf⟩ := pk_bnd hf
            refine s_iinc X (vs' := [(0, .ref (gB G + v0)), (1, .int v3), (2, .int r13), (3, .int x30), (4, .int r13)]) 3 dX10_dueLetter_92 rfl (v := x30) e31.symm (Nat.le_of_ble_eq_true rfl) [1, 2, 3, 0, 4] rfl ?_
            refine s_goto X (tgt := 6) dX10_dueLetter_95 rfl ?_
            refine s_drop [0, 1, 2, 3] (vs' := [(0, .ref (gB G + v0)), (1, .int v3), (2, .int r13), (3, .int x30)]) rfl ?_
            exact ih _ _ _ _ hf
          · have hf := hs28.2 c29
            refine s_aload_n X 0 dX10_dueLetter_75 rfl rfl ?_
            obtain ⟨o32, e33, hf⟩ := pk_bnd hf
            obtain ⟨h34, hf⟩ := pk_chk hf
            refine s_getR X (ci := 10) (k := 2) rfl (Nat.le_of_ble_eq_true rfl) h1 wd1442 (fun _ _ _ => rfl) (e33 ▸ h34) dX10_dueLetter_76 (e33 ▸ ?_)
            refine s_iload_n X 3 dX10_dueLetter_79 rfl rfl ?_
            obtain ⟨h35, hf⟩ := pk_chk hf
            refine s_iald X h34 h35 dX10_dueLetter_80 ?_
            refine s_aload_n X 0 dX10_dueLetter_81 rfl rfl ?_
            obtain ⟨o36, e37, hf⟩ := pk_bnd hf
            obtain ⟨h38, hf⟩ := pk_chk hf
            refine s_getR X (ci := 10) (k := 2) rfl (Nat.le_of_ble_eq_true rfl) h1 wd1442 (fun _ _ _ => rfl) (e37 ▸ h38) dX10_dueLetter_82 (e37 ▸ ?_)
            refine s_iload_n X 1 dX10_dueLetter_85 rfl rfl ?_
            obtain ⟨h39, hf⟩ := pk_chk hf
            refine s_iald X h38 h39 dX10_dueLetter_86 ?_
            have hs40 := pk_ite hf
            clear hf
            refine s_icmp_ge X (tgt := 92) dX10_dueLetter_87 rfl (fun c41 => ?_) (fun c41 => ?_)
            · have hf := hs40.1 c41
              obtain ⟨x42, e43, hf⟩ := pk_bnd hf
              refine s_iinc X (vs' := [(0, .ref (gB G + v0)), (1, .int v1), (2, .int r13), (3, .int x42), (4, .int r13)]) 3 dX10_dueLetter_92 rfl (v := x42) e43.symm (Nat.le_of_ble_eq_true rfl) [1, 2, 3, 0, 4] rfl ?_
              refine s_goto X (tgt := 6) dX10_dueLetter_95 rfl ?_
              refine s_drop [0, 1, 2, 3] (vs' := [(0, .ref (gB G + v0)), (1, .int v1), (2, .int r13), (3, .int x42)]) rfl ?_
              exact ih _ _ _ _ hf
            · have hf := hs40.2 c41
              refine s_iload_n X 3 dX10_dueLetter_90 rfl rfl ?_
              refine s_istore_n X (vs' := [(0, .ref (gB G + v0)), (1, .int v3), (2, .int r13), (3, .int v3), (4, .int r13)]) dX10_dueLetter_91 rfl (Nat.le_of_ble_eq_true rfl) [1, 0, 2, 3, 4] rfl ?_
              obtain ⟨x44, e45, hf⟩ := pk_bnd hf
              refine s_iinc X (vs' := [(0, .ref (gB G + v0)), (1, .int v3), (2, .int r13), (3, .int x44), (4, .int r13)]) 3 dX10_dueLetter_92 rfl (v := x44) e45.symm (Nat.le_of_ble_eq_true rfl) [1, 2, 3, 0, 4] rfl ?_
              refine s_goto X (tgt := 6) dX10_dueLetter_95 rfl ?_
              refine s_drop [0, 1, 2, 3] (vs' := [(0, .ref (gB G + v0)), (1, .int v3), (2, .int r13), (3, .int x44)]) rfl ?_
              exact ih _ _ _ _ hf
      · have hf := hs14.1 c15
        refine s_goto X (tgt := 92) dX10_dueLetter_39 rfl ?_
        obtain ⟨x46, e47, hf⟩ := pk_bnd hf
        refine s_iinc X (vs' := [(0, .ref (gB G + v0)), (1, .int v1), (2, .int v2), (3, .int x46), (4, .int r13)]) 3 dX10_dueLetter_92 rfl (v := x46) e47.symm (Nat.le_of_ble_eq_true rfl) [1, 2, 3, 0, 4] rfl ?_
        refine s_goto X (tgt := 6) dX10_dueLetter_95 rfl ?_
        refine s_drop [0, 1, 2, 3] (vs' := [(0, .ref (gB G + v0)), (1, .int v1), (2, .int v2), (3, .int x46)]) rfl ?_
        exact ih _ _ _ _ hf
end
theorem k_X10_dueLetter (G : Gam) {n : Nat} {o : Nat} {M : Mem} {rv : Int32} (hf : f_X10_dueLetter n o M = some rv) : Kt yX10_dueLetter cX10_dueLetter 5 (some .int) 1 20 G [.ref (gB G + o)] M M (some (.int rv)) := by
  refine Kt.of (by decide) (Nat.le_of_ble_eq_true rfl) ?_
  intro p l e R s m args below meth c X hr hlk hnm
  refine s_drop [0] (vs' := [(0, .ref (gB G + o))]) rfl ?_
  rw [f_X10_dueLetter] at hf
  refine s_iconst X (v := (-1 : Int32)) dX10_dueLetter_0 rfl ?_
  refine s_istore_n X (vs' := [(0, .ref (gB G + o)), (1, .int (-1 : Int32))]) dX10_dueLetter_1 rfl (Nat.le_of_ble_eq_true rfl) [1, 0] rfl ?_
  refine s_iconst X (v := (-1 : Int32)) dX10_dueLetter_2 rfl ?_
  refine s_istore_n X (vs' := [(0, .ref (gB G + o)), (1, .int (-1 : Int32)), (2, .int (-1 : Int32))]) dX10_dueLetter_3 rfl (Nat.le_of_ble_eq_true rfl) [1, 2, 0] rfl ?_
  refine s_iconst X (v := (0 : Int32)) dX10_dueLetter_4 rfl ?_
  refine s_istore_n X (vs' := [(0, .ref (gB G + o)), (1, .int (-1 : Int32)), (2, .int (-1 : Int32)), (3, .int (0 : Int32))]) dX10_dueLetter_5 rfl (Nat.le_of_ble_eq_true rfl) [1, 2, 3, 0] rfl ?_
  exact l_X10_dueLetter_6 X hr hlk hnm _ _ _ _ hf
theorem dX10_goTime_0 : decode cX10_goTime 0 = .ok (.iconst 0, 1) := dk_3 (by decide +kernel)
theorem dX10_goTime_1 : decode cX10_goTime 1 = .ok (.istore_n 3, 1) := dk_62 (by decide +kernel)
theorem dX10_goTime_2 : decode cX10_goTime 2 = .ok (.iload_n 3, 1) := dk_29 (by decide +kernel)
theorem dX10_goTime_3 : decode cX10_goTime 3 = .ok (.aload_n 0, 1) := dk_42 (by decide +kernel)
theorem dX10_goTime_4 : decode cX10_goTime 4 = .ok (.getfield 7, 3) := dk_180 (x := 0) (y := 7) (by decide +kernel) rfl
theorem dX10_goTime_7 : decode cX10_goTime 7 = .ok (.iconst 0, 1) := dk_3 (by decide +kernel)
theorem dX10_goTime_8 : decode cX10_goTime 8 = .ok (.iaload, 1) := dk_46 (by decide +kernel)
theorem dX10_goTime_9 : decode cX10_goTime 9 = .ok (.if_icmp .ge 39, 3) := dk_162 (x := 0) (y := 39) (by decide +kernel) rfl
theorem dX10_goTime_12 : decode cX10_goTime 12 = .ok (.aload_n 0, 1) := dk_42 (by decide +kernel)
theorem dX10_goTime_13 : decode cX10_goTime 13 = .ok (.iload_n 3, 1) := dk_29 (by decide +kernel)
theorem dX10_goTime_14 : decode cX10_goTime 14 = .ok (.iconst 0, 1) := dk_3 (by decide +kernel)
theorem dX10_goTime_15 : decode cX10_goTime 15 = .ok (.invokevirtual 93, 3) := dk_182 (x := 0) (y := 93) (by decide +kernel) rfl
theorem dX10_goTime_18 : decode cX10_goTime 18 = .ok (.iconst 2, 1) := dk_5 (by decide +kernel)
theorem dX10_goTime_19 : decode cX10_goTime 19 = .ok (.if_icmp .ne 23, 3) := dk_160 (x := 0) (y := 23) (by decide +kernel) rfl
theorem dX10_goTime_22 : decode cX10_goTime 22 = .ok (.aload_n 0, 1) := dk_42 (by decide +kernel)
theorem dX10_goTime_23 : decode cX10_goTime 23 = .ok (.getfield 143, 3) := dk_180 (x := 0) (y := 143) (by decide +kernel) rfl
theorem dX10_goTime_26 : decode cX10_goTime 26 = .ok (.aload_n 0, 1) := dk_42 (by decide +kernel)
theorem dX10_goTime_27 : decode cX10_goTime 27 = .ok (.getfield 38, 3) := dk_180 (x := 0) (y := 38) (by decide +kernel) rfl
theorem dX10_goTime_30 : decode cX10_goTime 30 = .ok (.iload_n 3, 1) := dk_29 (by decide +kernel)
theorem dX10_goTime_31 : decode cX10_goTime 31 = .ok (.iaload, 1) := dk_46 (by decide +kernel)
theorem dX10_goTime_32 : decode cX10_goTime 32 = .ok (.isub, 1) := dk_100 (by decide +kernel)
theorem dX10_goTime_33 : decode cX10_goTime 33 = .ok (.iload_n 1, 1) := dk_27 (by decide +kernel)
theorem dX10_goTime_34 : decode cX10_goTime 34 = .ok (.if_icmp .lt 8, 3) := dk_161 (x := 0) (y := 8) (by decide +kernel) rfl
theorem dX10_goTime_37 : decode cX10_goTime 37 = .ok (.aload_n 0, 1) := dk_42 (by decide +kernel)
theorem dX10_goTime_38 : decode cX10_goTime 38 = .ok (.iload_n 3, 1) := dk_29 (by decide +kernel)
theorem dX10_goTime_39 : decode cX10_goTime 39 = .ok (.invokevirtual 217, 3) := dk_182 (x := 0) (y := 217) (by decide +kernel) rfl
theorem dX10_goTime_42 : decode cX10_goTime 42 = .ok (.iinc 3 1, 3) := dk_132 (x := 3) (y := 1) (by decide +kernel) rfl
theorem dX10_goTime_45 : decode cX10_goTime 45 = .ok (.goto (-43), 3) := dk_167 (x := 255) (y := 213) (by decide +kernel) rfl
theorem dX10_goTime_48 : decode cX10_goTime 48 = .ok (.aload_n 0, 1) := dk_42 (by decide +kernel)
theorem dX10_goTime_49 : decode cX10_goTime 49 = .ok (.invokevirtual 375, 3) := dk_182 (x := 1) (y := 119) (by decide +kernel) rfl
theorem dX10_goTime_52 : decode cX10_goTime 52 = .ok (.istore_n 3, 1) := dk_62 (by decide +kernel)
theorem dX10_goTime_53 : decode cX10_goTime 53 = .ok (.iload_n 3, 1) := dk_29 (by decide +kernel)
theorem dX10_goTime_54 : decode cX10_goTime 54 = .ok (.iconst (-1), 1) := dk_2 (by decide +kernel)
theorem dX10_goTime_55 : decode cX10_goTime 55 = .ok (.if_icmp .eq 103, 3) := dk_159 (x := 0) (y := 103) (by decide +kernel) rfl
theorem dX10_goTime_58 : decode cX10_goTime 58 = .ok (.aload_n 0, 1) := dk_42 (by decide +kernel)
theorem dX10_goTime_59 : decode cX10_goTime 59 = .ok (.getfield 7, 3) := dk_180 (x := 0) (y := 7) (by decide +kernel) rfl
theorem dX10_goTime_62 : decode cX10_goTime 62 = .ok (.sipush 851, 3) := dk_17 (x := 3) (y := 83) (by decide +kernel) rfl
theorem dX10_goTime_65 : decode cX10_goTime 65 = .ok (.iload_n 3, 1) := dk_29 (by decide +kernel)
theorem dX10_goTime_66 : decode cX10_goTime 66 = .ok (.iadd, 1) := dk_96 (by decide +kernel)
theorem dX10_goTime_67 : decode cX10_goTime 67 = .ok (.iaload, 1) := dk_46 (by decide +kernel)
theorem dX10_goTime_68 : decode cX10_goTime 68 = .ok (.invokestatic 140, 3) := dk_184 (x := 0) (y := 140) (by decide +kernel) rfl
theorem dX10_goTime_71 : decode cX10_goTime 71 = .ok (.bipush 16, 2) := dk_16 (x := 16) (by decide +kernel) rfl
theorem dX10_goTime_73 : decode cX10_goTime 73 = .ok (.irem, 1) := dk_112 (by decide +kernel)
theorem dX10_goTime_74 : decode cX10_goTime 74 = .ok (.istore 4, 2) := dk_54 (x := 4) (by decide +kernel)
theorem dX10_goTime_76 : decode cX10_goTime 76 = .ok (.aload_n 0, 1) := dk_42 (by decide +kernel)
theorem dX10_goTime_77 : decode cX10_goTime 77 = .ok (.getfield 7, 3) := dk_180 (x := 0) (y := 7) (by decide +kernel) rfl
theorem dX10_goTime_80 : decode cX10_goTime 80 = .ok (.sipush 9851, 3) := dk_17 (x := 38) (y := 123) (by decide +kernel) rfl
theorem dX10_goTime_83 : decode cX10_goTime 83 = .ok (.iaload, 1) := dk_46 (by decide +kernel)
theorem dX10_goTime_84 : decode cX10_goTime 84 = .ok (.istore 5, 2) := dk_54 (x := 5) (by decide +kernel)
theorem dX10_goTime_86 : decode cX10_goTime 86 = .ok (.aload_n 0, 1) := dk_42 (by decide +kernel)
theorem dX10_goTime_87 : decode cX10_goTime 87 = .ok (.iload_n 3, 1) := dk_29 (by decide +kernel)
theorem dX10_goTime_88 : decode cX10_goTime 88 = .ok (.invokevirtual 256, 3) := dk_182 (x := 1) (y := 0) (by decide +kernel) rfl
theorem dX10_goTime_91 : decode cX10_goTime 91 = .ok (.istore 6, 2) := dk_54 (x := 6) (by decide +kernel)
theorem dX10_goTime_93 : decode cX10_goTime 93 = .ok (.aload_n 0, 1) := dk_42 (by decide +kernel)
theorem dX10_goTime_94 : decode cX10_goTime 94 = .ok (.getfield 7, 3) := dk_180 (x := 0) (y := 7) (by decide +kernel) rfl
theorem dX10_goTime_97 : decode cX10_goTime 97 = .ok (.sipush 9851, 3) := dk_17 (x := 38) (y := 123) (by decide +kernel) rfl
theorem dX10_goTime_100 : decode cX10_goTime 100 = .ok (.iaload, 1) := dk_46 (by decide +kernel)
theorem dX10_goTime_101 : decode cX10_goTime 101 = .ok (.iload 5, 2) := dk_21 (x := 5) (by decide +kernel)
theorem dX10_goTime_103 : decode cX10_goTime 103 = .ok (.if_icmp .ne 6, 3) := dk_160 (x := 0) (y := 6) (by decide +kernel) rfl
theorem dX10_goTime_106 : decode cX10_goTime 106 = .ok (.goto 44, 3) := dk_167 (x := 0) (y := 44) (by decide +kernel) rfl
theorem dX10_goTime_109 : decode cX10_goTime 109 = .ok (.aload_n 0, 1) := dk_42 (by decide +kernel)
theorem dX10_goTime_110 : decode cX10_goTime 110 = .ok (.getfield 38, 3) := dk_180 (x := 0) (y := 38) (by decide +kernel) rfl
theorem dX10_goTime_113 : decode cX10_goTime 113 = .ok (.iload 4, 2) := dk_21 (x := 4) (by decide +kernel)
theorem dX10_goTime_115 : decode cX10_goTime 115 = .ok (.aload_n 0, 1) := dk_42 (by decide +kernel)
theorem dX10_goTime_116 : decode cX10_goTime 116 = .ok (.getfield 143, 3) := dk_180 (x := 0) (y := 143) (by decide +kernel) rfl
theorem dX10_goTime_119 : decode cX10_goTime 119 = .ok (.iastore, 1) := dk_79 (by decide +kernel)
theorem dX10_goTime_120 : decode cX10_goTime 120 = .ok (.aload_n 0, 1) := dk_42 (by decide +kernel)
theorem dX10_goTime_121 : decode cX10_goTime 121 = .ok (.aload_n 0, 1) := dk_42 (by decide +kernel)
theorem dX10_goTime_122 : decode cX10_goTime 122 = .ok (.getfield 143, 3) := dk_180 (x := 0) (y := 143) (by decide +kernel) rfl
theorem dX10_goTime_125 : decode cX10_goTime 125 = .ok (.putfield 378, 3) := dk_181 (x := 1) (y := 122) (by decide +kernel) rfl
theorem dX10_goTime_128 : decode cX10_goTime 128 = .ok (.iload 4, 2) := dk_21 (x := 4) (by decide +kernel)
theorem dX10_goTime_130 : decode cX10_goTime 130 = .ok (.iload_n 2, 1) := dk_28 (by decide +kernel)
theorem dX10_goTime_131 : decode cX10_goTime 131 = .ok (.if_icmp .ne 19, 3) := dk_160 (x := 0) (y := 19) (by decide +kernel) rfl
theorem dX10_goTime_134 : decode cX10_goTime 134 = .ok (.aload_n 0, 1) := dk_42 (by decide +kernel)
theorem dX10_goTime_135 : decode cX10_goTime 135 = .ok (.getfield 381, 3) := dk_180 (x := 1) (y := 125) (by decide +kernel) rfl
theorem dX10_goTime_138 : decode cX10_goTime 138 = .ok (.iconst (-1), 1) := dk_2 (by decide +kernel)
theorem dX10_goTime_139 : decode cX10_goTime 139 = .ok (.if_icmp .ne 11, 3) := dk_160 (x := 0) (y := 11) (by decide +kernel) rfl
theorem dX10_goTime_142 : decode cX10_goTime 142 = .ok (.aload_n 0, 1) := dk_42 (by decide +kernel)
theorem dX10_goTime_143 : decode cX10_goTime 143 = .ok (.aload_n 0, 1) := dk_42 (by decide +kernel)
theorem dX10_goTime_144 : decode cX10_goTime 144 = .ok (.getfield 143, 3) := dk_180 (x := 0) (y := 143) (by decide +kernel) rfl
theorem dX10_goTime_147 : decode cX10_goTime 147 = .ok (.putfield 381, 3) := dk_181 (x := 1) (y := 125) (by decide +kernel) rfl
theorem dX10_goTime_150 : decode cX10_goTime 150 = .ok (.aload_n 0, 1) := dk_42 (by decide +kernel)
theorem dX10_goTime_151 : decode cX10_goTime 151 = .ok (.invokevirtual 375, 3) := dk_182 (x := 1) (y := 119) (by decide +kernel) rfl
theorem dX10_goTime_154 : decode cX10_goTime 154 = .ok (.istore_n 3, 1) := dk_62 (by decide +kernel)
theorem dX10_goTime_155 : decode cX10_goTime 155 = .ok (.goto (-102), 3) := dk_167 (x := 255) (y := 154) (by decide +kernel) rfl
theorem dX10_goTime_158 : decode cX10_goTime 158 = .ok (.aload_n 0, 1) := dk_42 (by decide +kernel)
theorem dX10_goTime_159 : decode cX10_goTime 159 = .ok (.dup, 1) := dk_89 (by decide +kernel)
theorem dX10_goTime_160 : decode cX10_goTime 160 = .ok (.getfield 384, 3) := dk_180 (x := 1) (y := 128) (by decide +kernel) rfl
theorem dX10_goTime_163 : decode cX10_goTime 163 = .ok (.aload_n 0, 1) := dk_42 (by decide +kernel)
theorem dX10_goTime_164 : decode cX10_goTime 164 = .ok (.invokevirtual 196, 3) := dk_182 (x := 0) (y := 196) (by decide +kernel) rfl
theorem dX10_goTime_167 : decode cX10_goTime 167 = .ok (.ifCond .ne 7, 3) := dk_154 (x := 0) (y := 7) (by decide +kernel) rfl
theorem dX10_goTime_170 : decode cX10_goTime 170 = .ok (.iconst 1, 1) := dk_4 (by decide +kernel)
theorem dX10_goTime_171 : decode cX10_goTime 171 = .ok (.goto 4, 3) := dk_167 (x := 0) (y := 4) (by decide +kernel) rfl
theorem dX10_goTime_174 : decode cX10_goTime 174 = .ok (.iconst 0, 1) := dk_3 (by decide +kernel)
theorem dX10_goTime_175 : decode cX10_goTime 175 = .ok (.iadd, 1) := dk_96 (by decide +kernel)
theorem dX10_goTime_176 : decode cX10_goTime 176 = .ok (.putfield 384, 3) := dk_181 (x := 1) (y := 128) (by decide +kernel) rfl
theorem dX10_goTime_179 : decode cX10_goTime 179 = .ok (.return_, 1) := dk_177 (by decide +kernel)
def f_X10_goTime_150 (k_53 : Nat → Int32 → Int32 → Mem → Option Mem) (n : Nat) (v0 : Nat) (v2 : Int32) (M : Mem) : Option Mem :=
    chk (isO M 10 v0) <|
    obd (f_X10_dueLetter n v0 M) fun r3 =>
    k_53 v0 v2 r3 M
def f_X10_goTime_53 : Nat → Nat → Int32 → Int32 → Mem → Option Mem
  | 0, _, _, _, _ => none
  | n + 1, v0, v2, v3, M =>
    if v3 = (-1 : Int32) then (
      chk (isO M 10 v0) <|
      obd (f_X10_insides n v0 M) fun r5 =>
      if r5 = 0 then (
        bnd (sI M v0 24 ((mI M v0 24) + (1 : Int32))) fun M11 =>
        some M11
        ) else (
        bnd (sI M v0 24 ((mI M v0 24) + (0 : Int32))) fun M8 =>
        some M8
        )
      ) else (
      chk (isO M 10 v0) <|
      bnd (mR M v0 0) fun o15 =>
      chk (isO M 100 o15) <|
      chk (inB ((851 : Int32) + v3) (mLn M o15)) <|
      obd (f_X10_pairOf (mI M o15 (((851 : Int32) + v3)).toNatClampNeg) M) fun r20 =>
      chk (¬ (16 : Int32) = 0) <|
      bnd (r20 - r20 / (16 : Int32) * (16 : Int32)) fun x22 =>
      bnd (mR M v0 0) fun o24 =>
      chk (isO M 100 o24) <|
      chk (inB (9851 : Int32) (mLn M o24)) <|
      bnd (mI M o24 ((9851 : Int32)).toNatClampNeg) fun x28 =>
      obd2 (f_X10_bringNow n v0 v3 M) fun r31 M32 =>
      chk (isO M32 10 v0) <|
      bnd (mR M32 v0 0) fun o34 =>
      chk (isO M32 100 o34) <|
      chk (inB (9851 : Int32) (mLn M32 o34)) <|
      if (mI M32 o34 ((9851 : Int32)).toNatClampNeg) = x28 then (
        f_X10_goTime_150 (f_X10_goTime_53 n) n v0 v2 M32
        ) else (
        bnd (mR M32 v0 19) fun o40 =>
        chk (isO M32 100 o40) <|
        chk (inB x22 (mLn M32 o40)) <|
        bnd (sI M32 o40 (x22).toNatClampNeg (mI M32 v0 3)) fun M44 =>
        bnd (sI M44 v0 22 (mI M44 v0 3)) fun M49 =>
        if x22 = v2 then (
          if (mI M49 v0 23) = (-1 : Int32) then (
            bnd (sI M49 v0 23 (mI M49 v0 3)) fun M58 =>
            f_X10_goTime_150 (f_X10_goTime_53 n) n v0 v2 M58
            ) else (
            f_X10_goTime_150 (f_X10_goTime_53 n) n v0 v2 M49
            )
          ) else (
          f_X10_goTime_150 (f_X10_goTime_53 n) n v0 v2 M49
          )
        )
      )
def f_X10_goTime_2 : Nat → Nat → Int32 → Int32 → Int32 → Mem → Option Mem
  | 0, _, _, _, _, _ => none
  | n + 1, v0, v1, v2, v3, M =>
    chk (isO M 10 v0) <|
    bnd (mR M v0 0) fun o2 =>
    chk (isO M 100 o2) <|
    chk (inB (0 : Int32) (mLn M o2)) <|
    if (mI M o2 ((0 : Int32)).toNatClampNeg) ≤ v3 then (
      obd (f_X10_dueLetter n v0 M) fun r9 =>
      f_X10_goTime_53 n v0 v2 r9 M
      ) else (
      obd (f_X10_get v0 v3 (0 : Int32) M) fun r11 =>
      if r11 = (2 : Int32) then (
        bnd (mR M v0 19) fun o16 =>
        chk (isO M 100 o16) <|
        chk (inB v3 (mLn M o16)) <|
        if ((mI M v0 3) - (mI M o16 (v3).toNatClampNeg)) < v1 then (
          bnd (v3 + (1 : Int32)) fun x22 =>
          f_X10_goTime_2 n v0 v1 v2 x22 M
          ) else (
          obd (f_X10_leaveNow n v0 v3 M) fun M25 =>
          bnd (v3 + (1 : Int32)) fun x26 =>
          f_X10_goTime_2 n v0 v1 v2 x26 M25
          )
        ) else (
        bnd (v3 + (1 : Int32)) fun x14 =>
        f_X10_goTime_2 n v0 v1 v2 x14 M
        )
      )
def f_X10_goTime (n : Nat) (o : Nat) (a1 : Int32) (a2 : Int32) (M : Mem) : Option Mem :=
  f_X10_goTime_2 n o a1 a2 (0 : Int32) M
theorem cd_X10_goTime : (yX10_goTime.cls ≠ "java/lang/invoke/MethodHandle" ∧ yX10_goTime.cls ≠ "java/lang/invoke/VarHandle") ∧ (parseMethodDescriptor yX10_goTime.desc).map (fun d => d.parameters.length) = some 2 := ⟨⟨by decide +kernel, by decide +kernel⟩, by decide +kernel⟩
section
variable {p : Program} {l : Launch} {e : Env} {R : Room} {s : State} {m : MethodId} {args : Array Value} {below : List Frame} {meth : Method} {c : Code} {G : Gam} {M0 : Mem}
theorem l_X10_goTime_150 {k_53 : Nat → Int32 → Int32 → Mem → Option Mem} {rv : Mem} {n : Nat} {v0 : Nat} {v2 : Int32} {M : Mem} (X : Cx p R s m args c G M0 cX10_goTime yX10_goTime.cls 7 6 144) (hr : meth.sig.returnType = none) (hlk : meth.locks = false) (hnm : meth.name = "goTime") (hk_53 : ∀ (v0 : Nat), ∀ (v2 : Int32), ∀ (v3 : Int32), ∀ M : Mem, k_53 v0 v2 v3 M = some rv → Sg p l e R s m args below meth c (Qm below G args s none M0 rv) G M0 7 53 [(0, .ref (gB G + v0)), (2, .int v2), (3, .int v3)] [] M) (hf : f_X10_goTime_150 k_53 n v0 v2 M = some rv) : Sg p l e R s m args below meth c (Qm below G args s none M0 rv) G M0 7 150 [(0, .ref (gB G + v0)), (2, .int v2)] [] M := by
  rw [f_X10_goTime_150] at hf
  refine s_aload_n X 0 dX10_goTime_150 rfl rfl ?_
  obtain ⟨h1, hf⟩ := pk_chk hf
  obtain ⟨r3, hc2, hf⟩ := pk_obd hf
  refine s_callV X (ci := 10) (k_X10_dueLetter G hc2) rfl h1 wd2039 wd2041 wd124 wd2042 wd138 cd_X10_dueLetter ⟨Nat.le_of_ble_eq_true rfl, Nat.le_of_ble_eq_true rfl⟩ (Nat.le_of_ble_eq_true rfl) dX10_goTime_151 ?_
  refine s_istore_n X (vs' := [(0, .ref (gB G + v0)), (2, .int v2), (3, .int r3)]) dX10_goTime_154 rfl (Nat.le_of_ble_eq_true rfl) [1, 2, 0] rfl ?_
  refine s_goto X (tgt := 53) dX10_goTime_155 rfl ?_
  exact hk_53 _ _ _ _ hf
theorem l_X10_goTime_53 {rv : Mem} (X : Cx p R s m args c G M0 cX10_goTime yX10_goTime.cls 7 6 144) (hr : meth.sig.returnType = none) (hlk : meth.locks = false) (hnm : meth.name = "goTime") : ∀ {n : Nat} (v0 : Nat) (v2 : Int32) (v3 : Int32) (M : Mem), f_X10_goTime_53 n v0 v2 v3 M = some rv → Sg p l e R s m args below meth c (Qm below G args s none M0 rv) G M0 7 53 [(0, .ref (gB G + v0)), (2, .int v2), (3, .int v3)] [] M := by
  intro n
  induction n with
  | zero => intro v0 v2 v3 M hf; exact (pk_none hf).elim
  | succ n ih =>
    intro v0 v2 v3 M hf
    rw [f_X10_goTime_53] at hf
    refine s_iload_n X 2 dX10_goTime_53 rfl rfl ?_
    refine s_iconst X (v := (-1 : Int32)) dX10_goTime_54 rfl ?_
    have hs1 := pk_ite hf
    clear hf
    refine s_icmp_eq X (tgt := 158) dX10_goTime_55 rfl (fun c2 => ?_) (fun c2 => ?_)
    · have hf := hs1.1 c2
      refine s_aload_n X 0 dX10_goTime_158 rfl rfl ?_
      refine s_dup X dX10_goTime_159 rfl ?_
      obtain ⟨h3, hf⟩ := pk_chk hf
      refine s_getI X (ci := 10) (k := 24) rfl (Nat.le_of_ble_eq_true rfl) h3 wd1464 (fun _ _ _ => rfl) dX10_goTime_160 ?_
      refine s_aload_n X 0 dX10_goTime_163 rfl rfl ?_
      obtain ⟨r5, hc4, hf⟩ := pk_obd hf
      refine s_callV X (ci := 10) (k_X10_insides G hc4) rfl h3 wd1826 wd1828 wd93 wd1829 wd138 cd_X10_insides ⟨Nat.le_of_ble_eq_true rfl, Nat.le_of_ble_eq_true rfl⟩ (Nat.le_of_ble_eq_true rfl) dX10_goTime_164 ?_
      have hs6 := pk_ite hf
      clear hf
      refine s_if_ne X (tgt := 174) dX10_goTime_167 rfl (fun c7 => ?_) (fun c7 => ?_)
      · have hf := hs6.2 c7
        refine s_iconst X (v := (0 : Int32)) dX10_goTime_174 rfl ?_
        refine s_iadd X dX10_goTime_175 ?_
        obtain ⟨M8, e9, hf⟩ := pk_bnd hf
        refine s_putI X (ci := 10) (k := 24) rfl (Nat.le_of_ble_eq_true rfl) h3 wd1464 (fun _ _ _ => rfl) rfl rfl e9 dX10_goTime_176 ?_
        have h10 := io_sI e9 h3
        cases hf
        exact s_vret X hr hlk dX10_goTime_179
      · have hf := hs6.1 c7
        refine s_iconst X (v := (1 : Int32)) dX10_goTime_170 rfl ?_
        refine s_goto X (tgt := 175) dX10_goTime_171 rfl ?_
        refine s_iadd X dX10_goTime_175 ?_
        obtain ⟨M11, e12, hf⟩ := pk_bnd hf
        refine s_putI X (ci := 10) (k := 24) rfl (Nat.le_of_ble_eq_true rfl) h3 wd1464 (fun _ _ _ => rfl) rfl rfl e12 dX10_goTime_176 ?_
        have h13 := io_sI e12 h3
        cases hf
        exact s_vret X hr hlk dX10_goTime_179
    · have hf := hs1.2 c2
      refine s_aload_n X 0 dX10_goTime_58 rfl rfl ?_
      obtain ⟨h14, hf⟩ := pk_chk hf
      obtain ⟨o15, e16, hf⟩ := pk_bnd hf
      obtain ⟨h17, hf⟩ := pk_chk hf
      refine s_getR X (ci := 10) (k := 0) rfl (Nat.le_of_ble_eq_true rfl) h14 wd1440 (fun _ _ _ => rfl) (e16 ▸ h17) dX10_goTime_59 (e16 ▸ ?_)
      refine s_sipush X (v := (851 : Int32)) dX10_goTime_62 rfl ?_
      refine s_iload_n X 2 dX10_goTime_65 rfl rfl ?_
      refine s_iadd X dX10_goTime_66 ?_
      obtain ⟨h18, hf⟩ := pk_chk hf
      refine s_iald X h17 h18 dX10_goTime_67 ?_
      obtain ⟨r20, hc19, hf⟩ := pk_obd hf
      refine s_callS X (k_X10_pairOf G hc19) wd1704 wd1705 wd1706 wd138 cd_X10_pairOf ⟨Nat.le_of_ble_eq_true rfl, Nat.le_of_ble_eq_true rfl⟩ (Nat.le_of_ble_eq_true rfl) dX10_goTime_68 ?_
      refine s_bipush X (v := (16 : Int32)) dX10_goTime_71 rfl ?_
      obtain ⟨h21, hf⟩ := pk_chk hf
      refine s_irem X dX10_goTime_73 h21 ?_
      obtain ⟨x22, e23, hf⟩ := pk_bnd hf
      refine s_nmI e23 ?_
      refine s_istore X (vs' := [(0, .ref (gB G + v0)), (2, .int v2), (3, .int v3), (4, .int x22)]) dX10_goTime_74 (Nat.le_of_ble_eq_true rfl) [1, 2, 3, 0] rfl ?_
      refine s_aload_n X 0 dX10_goTime_76 rfl rfl ?_
      obtain ⟨o24, e25, hf⟩ := pk_bnd hf
      obtain ⟨h26, hf⟩ := pk_chk hf
      refine s_getR X (ci := 10) (k := 0) rfl (Nat.le_of_ble_eq_true rfl) h14 wd1440 (fun _ _ _ => rfl) (e25 ▸ h26) dX10_goTime_77 (e25 ▸ ?_)
      refine s_sipush X (v := (9851 : Int32)) dX10_goTime_80 rfl ?_
      obtain ⟨h27, hf⟩ := pk_chk hf
      refine s_iald X h26 h27 dX10_goTime_83 ?_
      obtain ⟨x28, e29, hf⟩ := pk_bnd hf
      refine s_nmI e29 ?_
      refine s_istore X (vs' := [(0, .ref (gB G + v0)), (2, .int v2), (3, .int v3), (4, .int x22), (5, .int x28)]) dX10_goTime_84 (Nat.le_of_ble_eq_true rfl) [1, 2, 3, 4, 0] rfl ?_
      refine s_aload_n X 0 dX10_goTime_86 rfl rfl ?_
      refine s_iload_n X 2 dX10_goTime_87 rfl rfl ?_
      obtain ⟨r31, M32, hc30, hf⟩ := pk_obd2 hf
      refine s_callV X (ci := 10) (k_X10_bringNow G hc30) rfl h14 wd1735 wd1737 wd74 wd1738 wd138 cd_X10_bringNow ⟨Nat.le_of_ble_eq_true rfl, Nat.le_of_ble_eq_true rfl⟩ (Nat.le_of_ble_eq_true rfl) dX10_goTime_88 ?_
      refine s_istore X (vs' := [(0, .ref (gB G + v0)), (2, .int v2), (3, .int v3), (4, .int x22), (5, .int x28), (6, .int r31)]) dX10_goTime_91 (Nat.le_of_ble_eq_true rfl) [1, 2, 3, 4, 5, 0] rfl ?_
      refine s_aload_n X 0 dX10_goTime_93 rfl rfl ?_
      obtain ⟨h33, hf⟩ := pk_chk hf
      obtain ⟨o34, e35, hf⟩ := pk_bnd hf
      obtain ⟨h36, hf⟩ := pk_chk hf
      refine s_getR X (ci := 10) (k := 0) rfl (Nat.le_of_ble_eq_true rfl) h33 wd1440 (fun _ _ _ => rfl) (e35 ▸ h36) dX10_goTime_94 (e35 ▸ ?_)
      refine s_sipush X (v := (9851 : Int32)) dX10_goTime_97 rfl ?_
      obtain ⟨h37, hf⟩ := pk_chk hf
      refine s_iald X h36 h37 dX10_goTime_100 ?_
      refine s_iload X 4 dX10_goTime_101 rfl ?_
      have hs38 := pk_ite hf
      clear hf
      refine s_icmp_ne X (tgt := 109) dX10_goTime_103 rfl (fun c39 => ?_) (fun c39 => ?_)
      · have hf := hs38.2 c39
        refine s_aload_n X 0 dX10_goTime_109 rfl rfl ?_
        obtain ⟨o40, e41, hf⟩ := pk_bnd hf
        obtain ⟨h42, hf⟩ := pk_chk hf
        refine s_getR X (ci := 10) (k := 19) rfl (Nat.le_of_ble_eq_true rfl) h33 wd1459 (fun _ _ _ => rfl) (e41 ▸ h42) dX10_goTime_110 (e41 ▸ ?_)
        refine s_iload X 3 dX10_goTime_113 rfl ?_
        refine s_aload_n X 0 dX10_goTime_115 rfl rfl ?_
        refine s_getI X (ci := 10) (k := 3) rfl (Nat.le_of_ble_eq_true rfl) h33 wd1443 (fun _ _ _ => rfl) dX10_goTime_116 ?_
        obtain ⟨h43, hf⟩ := pk_chk hf
        obtain ⟨M44, e45, hf⟩ := pk_bnd hf
        refine s_iast X h42 h43 e45 dX10_goTime_119 ?_
        have h46 := io_sI e45 h33
        have h47 := io_sI e45 h36
        have h48 := io_sI e45 h42
        refine s_aload_n X 0 dX10_goTime_120 rfl rfl ?_
        refine s_aload_n X 0 dX10_goTime_121 rfl rfl ?_
        refine s_getI X (ci := 10) (k := 3) rfl (Nat.le_of_ble_eq_true rfl) h46 wd1443 (fun _ _ _ => rfl) dX10_goTime_122 ?_
        obtain ⟨M49, e50, hf⟩ := pk_bnd hf
        refine s_putI X (ci := 10) (k := 22) rfl (Nat.le_of_ble_eq_true rfl) h46 wd1462 (fun _ _ _ => rfl) rfl rfl e50 dX10_goTime_125 ?_
        have h51 := io_sI e50 h46
        have h52 := io_sI e50 h47
        have h53 := io_sI e50 h48
        refine s_iload X 3 dX10_goTime_128 rfl ?_
        refine s_iload_n X 1 dX10_goTime_130 rfl rfl ?_
        have hs54 := pk_ite hf
        clear hf
        refine s_icmp_ne X (tgt := 150) dX10_goTime_131 rfl (fun c55 => ?_) (fun c55 => ?_)
        · have hf := hs54.2 c55
          refine s_drop [0, 1] (vs' := [(0, .ref (gB G + v0)), (2, .int v2)]) rfl ?_
          exact l_X10_goTime_150 X hr hlk hnm ih hf
        · have hf := hs54.1 c55
          refine s_aload_n X 0 dX10_goTime_134 rfl rfl ?_
          refine s_getI X (ci := 10) (k := 23) rfl (Nat.le_of_ble_eq_true rfl) h51 wd1463 (fun _ _ _ => rfl) dX10_goTime_135 ?_
          refine s_iconst X (v := (-1 : Int32)) dX10_goTime_138 rfl ?_
          have hs56 := pk_ite hf
          clear hf
          refine s_icmp_ne X (tgt := 150) dX10_goTime_139 rfl (fun c57 => ?_) (fun c57 => ?_)
          · have hf := hs56.2 c57
            refine s_drop [0, 1] (vs' := [(0, .ref (gB G + v0)), (2, .int v2)]) rfl ?_
            exact l_X10_goTime_150 X hr hlk hnm ih hf
          · have hf := hs56.1 c57
            refine s_aload_n X 0 dX10_goTime_142 rfl rfl ?_
            refine s_aload_n X 0 dX10_goTime_143 rfl rfl ?_
            refine s_getI X (ci := 10) (k := 3) rfl (Nat.le_of_ble_eq_true rfl) h51 wd1443 (fun _ _ _ => rfl) dX10_goTime_144 ?_
            obtain ⟨M58, e59, hf⟩ := pk_bnd hf
            refine s_putI X (ci := 10) (k := 23) rfl (Nat.le_of_ble_eq_true rfl) h51 wd1463 (fun _ _ _ => rfl) rfl rfl e59 dX10_goTime_147 ?_
            have h60 := io_sI e59 h51
            have h61 := io_sI e59 h52
            have h62 := io_sI e59 h53
            refine s_drop [0, 1] (vs' := [(0, .ref (gB G + v0)), (2, .int v2)]) rfl ?_
            exact l_X10_goTime_150 X hr hlk hnm ih hf
      · have hf := hs38.1 c39
        refine s_goto X (tgt := 150) dX10_goTime_106 rfl ?_
        refine s_drop [0, 1] (vs' := [(0, .ref (gB G + v0)), (2, .int v2)]) rfl ?_
        exact l_X10_goTime_150 X hr hlk hnm ih hf
theorem l_X10_goTime_2 {rv : Mem} (X : Cx p R s m args c G M0 cX10_goTime yX10_goTime.cls 7 6 144) (hr : meth.sig.returnType = none) (hlk : meth.locks = false) (hnm : meth.name = "goTime") : ∀ {n : Nat} (v0 : Nat) (v1 : Int32) (v2 : Int32) (v3 : Int32) (M : Mem), f_X10_goTime_2 n v0 v1 v2 v3 M = some rv → Sg p l e R s m args below meth c (Qm below G args s none M0 rv) G M0 7 2 [(0, .ref (gB G + v0)), (1, .int v1), (2, .int v2), (3, .int v3)] [] M := by
  intro n
  induction n with
  | zero => intro v0 v1 v2 v3 M hf; exact (pk_none hf).elim
  | succ n ih =>
    intro v0 v1 v2 v3 M hf
    rw [f_X10_goTime_2] at hf
    refine s_iload_n X 3 dX10_goTime_2 rfl rfl ?_
    refine s_aload_n X 0 dX10_goTime_3 rfl rfl ?_
    obtain ⟨h1, hf⟩ := pk_chk hf
    obtain ⟨o2, e3, hf⟩ := pk_bnd hf
    obtain ⟨h4, hf⟩ := pk_chk hf
    refine s_getR X (ci := 10) (k := 0) rfl (Nat.le_of_ble_eq_true rfl) h1 wd1440 (fun _ _ _ => rfl) (e3 ▸ h4) dX10_goTime_4 (e3 ▸ ?_)
    refine s_iconst X (v := (0 : Int32)) dX10_goTime_7 rfl ?_
    obtain ⟨h5, hf⟩ := pk_chk hf
    refine s_iald X h4 h5 dX10_goTime_8 ?_
    have hs6 := pk_ite hf
    clear hf
    refine s_icmp_ge X (tgt := 48) dX10_goTime_9 rfl (fun c7 => ?_) (fun c7 => ?_)
    · have hf := hs6.1 c7
      refine s_aload_n X 0 dX10_goTime_48 rfl rfl ?_
      obtain ⟨r9, hc8, hf⟩ := pk_obd hf
      refine s_callV X (ci := 10) (k_X10_dueLetter G hc8) rfl h1 wd2039 wd2041 wd124 wd2042 wd138 cd_X10_dueLetter ⟨Nat.le_of_ble_eq_true rfl, Nat.le_of_ble_eq_true rfl⟩ (Nat.le_of_ble_eq_true rfl) dX10_goTime_49 ?_
      refine s_istore_n X (vs' := [(0, .ref (gB G + v0)), (1, .int v1), (2, .int v2), (3, .int r9)]) dX10_goTime_52 rfl (Nat.le_of_ble_eq_true rfl) [1, 2, 3, 0] rfl ?_
      refine s_drop [0, 2, 3] (vs' := [(0, .ref (gB G + v0)), (2, .int v2), (3, .int r9)]) rfl ?_
      exact l_X10_goTime_53 X hr hlk hnm _ _ _ _ hf
    · have hf := hs6.2 c7
      refine s_aload_n X 0 dX10_goTime_12 rfl rfl ?_
      refine s_iload_n X 3 dX10_goTime_13 rfl rfl ?_
      refine s_iconst X (v := (0 : Int32)) dX10_goTime_14 rfl ?_
      obtain ⟨r11, hc10, hf⟩ := pk_obd hf
      refine s_callV X (ci := 10) (k_X10_get G hc10) rfl h1 wd1588 wd1590 wd57 wd1591 wd138 cd_X10_get ⟨Nat.le_of_ble_eq_true rfl, Nat.le_of_ble_eq_true rfl⟩ (Nat.le_of_ble_eq_true rfl) dX10_goTime_15 ?_
      refine s_iconst X (v := (2 : Int32)) dX10_goTime_18 rfl ?_
      have hs12 := pk_ite hf
      clear hf
      refine s_icmp_ne X (tgt := 42) dX10_goTime_19 rfl (fun c13 => ?_) (fun c13 => ?_)
      · have hf := hs12.2 c13
        obtain ⟨x14, e15, hf⟩ := pk_bnd hf
        refine s_iinc X (vs' := [(0, .ref (gB G + v0)), (1, .int v1), (2, .int v2), (3, .int x14)]) 3 dX10_goTime_42 rfl (v := x14) e15.symm (Nat.le_of_ble_eq_true rfl) [1, 2, 3, 0] rfl ?_
        refine s_goto X (tgt := 2) dX10_goTime_45 rfl ?_
        exact ih _ _ _ _ _ hf
      · have hf := hs12.1 c13
        refine s_aload_n X 0 dX10_goTime_22 rfl rfl ?_
        refine s_getI X (ci := 10) (k := 3) rfl (Nat.le_of_ble_eq_true rfl) h1 wd1443 (fun _ _ _ => rfl) dX10_goTime_23 ?_
        refine s_aload_n X 0 dX10_goTime_26 rfl rfl ?_
        obtain ⟨o16, e17, hf⟩ := pk_bnd hf
        obtain ⟨h18, hf⟩ := pk_chk hf
        refine s_getR X (ci := 10) (k := 19) rfl (Nat.le_of_ble_eq_true rfl) h1 wd1459 (fun _ _ _ => rfl) (e17 ▸ h18) dX10_goTime_27 (e17 ▸ ?_)
        refine s_iload_n X 3 dX10_goTime_30 rfl rfl ?_
        obtain ⟨h19, hf⟩ := pk_chk hf
        refine s_iald X h18 h19 dX10_goTime_31 ?_
        refine s_isub X dX10_goTime_32 ?_
        refine s_iload_n X 1 dX10_goTime_33 rfl rfl ?_
        have hs20 := pk_ite hf
        clear hf
        refine s_icmp_lt X (tgt := 42) dX10_goTime_34 rfl (fun c21 => ?_) (fun c21 => ?_)
        · have hf := hs20.1 c21
          obtain ⟨x22, e23, hf⟩ := pk_bnd hf
          refine s_iinc X (vs' := [(0, .ref (gB G + v0)), (1, .int v1), (2, .int v2), (3, .int x22)]) 3 dX10_goTime_42 rfl (v := x22) e23.symm (Nat.le_of_ble_eq_true rfl) [1, 2, 3, 0] rfl ?_
          refine s_goto X (tgt := 2) dX10_goTime_45 rfl ?_
          exact ih _ _ _ _ _ hf
        · have hf := hs20.2 c21
          refine s_aload_n X 0 dX10_goTime_37 rfl rfl ?_
          refine s_iload_n X 3 dX10_goTime_38 rfl rfl ?_
          obtain ⟨M25, hc24, hf⟩ := pk_obd hf
          refine s_callV X (ci := 10) (k_X10_leaveNow G hc24) rfl h1 wd1711 wd1713 wd71 wd1714 wd138 cd_X10_leaveNow ⟨Nat.le_of_ble_eq_true rfl, Nat.le_of_ble_eq_true rfl⟩ (Nat.le_of_ble_eq_true rfl) dX10_goTime_39 ?_
          obtain ⟨x26, e27, hf⟩ := pk_bnd hf
          refine s_iinc X (vs' := [(0, .ref (gB G + v0)), (1, .int v1), (2, .int v2), (3, .int x26)]) 3 dX10_goTime_42 rfl (v := x26) e27.symm (Nat.le_of_ble_eq_true rfl) [1, 2, 3, 0] rfl ?_
          refine s_goto X (tgt := 2) dX10_goTime_45 rfl ?_
          exact ih _ _ _ _ _ hf
end
theorem k_X10_goTime (G : Gam) {n : Nat} {o : Nat} {a1 : Int32} {a2 : Int32} {M : Mem} {rv : Mem} (hf : f_X10_goTime n o a1 a2 M = some rv) : Kt yX10_goTime cX10_goTime 7 none 6 144 G [.ref (gB G + o), .int a1, .int a2] M rv none := by
  refine Kt.of (by decide) (Nat.le_of_ble_eq_true rfl) ?_
  intro p l e R s m args below meth c X hr hlk hnm
  refine s_drop [0, 1, 2] (vs' := [(0, .ref (gB G + o)), (1, .int a1), (2, .int a2)]) rfl ?_
  rw [f_X10_goTime] at hf
  refine s_iconst X (v := (0 : Int32)) dX10_goTime_0 rfl ?_
  refine s_istore_n X (vs' := [(0, .ref (gB G + o)), (1, .int a1), (2, .int a2), (3, .int (0 : Int32))]) dX10_goTime_1 rfl (Nat.le_of_ble_eq_true rfl) [1, 2, 3, 0] rfl ?_
  exact l_X10_goTime_2 X hr hlk hnm _ _ _ _ _ hf
theorem dX10_goClock_0 : decode cX10_goClock 0 = .ok (.aload_n 0, 1) := dk_42 (by decide +kernel)
theorem dX10_goClock_1 : decode cX10_goClock 1 = .ok (.getfield 7, 3) := dk_180 (x := 0) (y := 7) (by decide +kernel) rfl
theorem dX10_goClock_4 : decode cX10_goClock 4 = .ok (.sipush 9851, 3) := dk_17 (x := 38) (y := 123) (by decide +kernel) rfl
theorem dX10_goClock_7 : decode cX10_goClock 7 = .ok (.iaload, 1) := dk_46 (by decide +kernel)
theorem dX10_goClock_8 : decode cX10_goClock 8 = .ok (.istore_n 3, 1) := dk_62 (by decide +kernel)
theorem dX10_goClock_9 : decode cX10_goClock 9 = .ok (.iconst 0, 1) := dk_3 (by decide +kernel)
theorem dX10_goClock_10 : decode cX10_goClock 10 = .ok (.istore 4, 2) := dk_54 (x := 4) (by decide +kernel)
theorem dX10_goClock_12 : decode cX10_goClock 12 = .ok (.iload 4, 2) := dk_21 (x := 4) (by decide +kernel)
theorem dX10_goClock_14 : decode cX10_goClock 14 = .ok (.aload_n 0, 1) := dk_42 (by decide +kernel)
theorem dX10_goClock_15 : decode cX10_goClock 15 = .ok (.getfield 7, 3) := dk_180 (x := 0) (y := 7) (by decide +kernel) rfl
theorem dX10_goClock_18 : decode cX10_goClock 18 = .ok (.sipush 850, 3) := dk_17 (x := 3) (y := 82) (by decide +kernel) rfl
theorem dX10_goClock_21 : decode cX10_goClock 21 = .ok (.iaload, 1) := dk_46 (by decide +kernel)
theorem dX10_goClock_22 : decode cX10_goClock 22 = .ok (.if_icmp .ge 17, 3) := dk_162 (x := 0) (y := 17) (by decide +kernel) rfl
theorem dX10_goClock_25 : decode cX10_goClock 25 = .ok (.aload_n 0, 1) := dk_42 (by decide +kernel)
theorem dX10_goClock_26 : decode cX10_goClock 26 = .ok (.getfield 16, 3) := dk_180 (x := 0) (y := 16) (by decide +kernel) rfl
theorem dX10_goClock_29 : decode cX10_goClock 29 = .ok (.iload 4, 2) := dk_21 (x := 4) (by decide +kernel)
theorem dX10_goClock_31 : decode cX10_goClock 31 = .ok (.iconst 0, 1) := dk_3 (by decide +kernel)
theorem dX10_goClock_32 : decode cX10_goClock 32 = .ok (.iastore, 1) := dk_79 (by decide +kernel)
theorem dX10_goClock_33 : decode cX10_goClock 33 = .ok (.iinc 4 1, 3) := dk_132 (x := 4) (y := 1) (by decide +kernel) rfl
theorem dX10_goClock_36 : decode cX10_goClock 36 = .ok (.goto (-24), 3) := dk_167 (x := 255) (y := 232) (by decide +kernel) rfl
theorem dX10_goClock_39 : decode cX10_goClock 39 = .ok (.iconst 0, 1) := dk_3 (by decide +kernel)
theorem dX10_goClock_40 : decode cX10_goClock 40 = .ok (.istore 4, 2) := dk_54 (x := 4) (by decide +kernel)
theorem dX10_goClock_42 : decode cX10_goClock 42 = .ok (.iload 4, 2) := dk_21 (x := 4) (by decide +kernel)
theorem dX10_goClock_44 : decode cX10_goClock 44 = .ok (.bipush 16, 2) := dk_16 (x := 16) (by decide +kernel) rfl
theorem dX10_goClock_46 : decode cX10_goClock 46 = .ok (.if_icmp .ge 17, 3) := dk_162 (x := 0) (y := 17) (by decide +kernel) rfl
theorem dX10_goClock_49 : decode cX10_goClock 49 = .ok (.aload_n 0, 1) := dk_42 (by decide +kernel)
theorem dX10_goClock_50 : decode cX10_goClock 50 = .ok (.getfield 38, 3) := dk_180 (x := 0) (y := 38) (by decide +kernel) rfl
theorem dX10_goClock_53 : decode cX10_goClock 53 = .ok (.iload 4, 2) := dk_21 (x := 4) (by decide +kernel)
theorem dX10_goClock_55 : decode cX10_goClock 55 = .ok (.iconst 0, 1) := dk_3 (by decide +kernel)
theorem dX10_goClock_56 : decode cX10_goClock 56 = .ok (.iastore, 1) := dk_79 (by decide +kernel)
theorem dX10_goClock_57 : decode cX10_goClock 57 = .ok (.iinc 4 1, 3) := dk_132 (x := 4) (y := 1) (by decide +kernel) rfl
theorem dX10_goClock_60 : decode cX10_goClock 60 = .ok (.goto (-18), 3) := dk_167 (x := 255) (y := 238) (by decide +kernel) rfl
theorem dX10_goClock_63 : decode cX10_goClock 63 = .ok (.aload_n 0, 1) := dk_42 (by decide +kernel)
theorem dX10_goClock_64 : decode cX10_goClock 64 = .ok (.iconst (-1), 1) := dk_2 (by decide +kernel)
theorem dX10_goClock_65 : decode cX10_goClock 65 = .ok (.putfield 378, 3) := dk_181 (x := 1) (y := 122) (by decide +kernel) rfl
theorem dX10_goClock_68 : decode cX10_goClock 68 = .ok (.aload_n 0, 1) := dk_42 (by decide +kernel)
theorem dX10_goClock_69 : decode cX10_goClock 69 = .ok (.aload_n 0, 1) := dk_42 (by decide +kernel)
theorem dX10_goClock_70 : decode cX10_goClock 70 = .ok (.iload_n 2, 1) := dk_28 (by decide +kernel)
theorem dX10_goClock_71 : decode cX10_goClock 71 = .ok (.iconst 0, 1) := dk_3 (by decide +kernel)
theorem dX10_goClock_72 : decode cX10_goClock 72 = .ok (.invokevirtual 93, 3) := dk_182 (x := 0) (y := 93) (by decide +kernel) rfl
theorem dX10_goClock_75 : decode cX10_goClock 75 = .ok (.iconst 2, 1) := dk_5 (by decide +kernel)
theorem dX10_goClock_76 : decode cX10_goClock 76 = .ok (.if_icmp .ne 7, 3) := dk_160 (x := 0) (y := 7) (by decide +kernel) rfl
theorem dX10_goClock_79 : decode cX10_goClock 79 = .ok (.iconst 0, 1) := dk_3 (by decide +kernel)
theorem dX10_goClock_80 : decode cX10_goClock 80 = .ok (.goto 4, 3) := dk_167 (x := 0) (y := 4) (by decide +kernel) rfl
theorem dX10_goClock_83 : decode cX10_goClock 83 = .ok (.iconst (-1), 1) := dk_2 (by decide +kernel)
theorem dX10_goClock_84 : decode cX10_goClock 84 = .ok (.putfield 381, 3) := dk_181 (x := 1) (y := 125) (by decide +kernel) rfl
theorem dX10_goClock_87 : decode cX10_goClock 87 = .ok (.aload_n 0, 1) := dk_42 (by decide +kernel)
theorem dX10_goClock_88 : decode cX10_goClock 88 = .ok (.iconst 0, 1) := dk_3 (by decide +kernel)
theorem dX10_goClock_89 : decode cX10_goClock 89 = .ok (.putfield 384, 3) := dk_181 (x := 1) (y := 128) (by decide +kernel) rfl
theorem dX10_goClock_92 : decode cX10_goClock 92 = .ok (.aload_n 0, 1) := dk_42 (by decide +kernel)
theorem dX10_goClock_93 : decode cX10_goClock 93 = .ok (.sipush 300, 3) := dk_17 (x := 1) (y := 44) (by decide +kernel) rfl
theorem dX10_goClock_96 : decode cX10_goClock 96 = .ok (.putfield 387, 3) := dk_181 (x := 1) (y := 131) (by decide +kernel) rfl
theorem dX10_goClock_99 : decode cX10_goClock 99 = .ok (.aload_n 0, 1) := dk_42 (by decide +kernel)
theorem dX10_goClock_100 : decode cX10_goClock 100 = .ok (.iconst 0, 1) := dk_3 (by decide +kernel)
theorem dX10_goClock_101 : decode cX10_goClock 101 = .ok (.putfield 143, 3) := dk_181 (x := 0) (y := 143) (by decide +kernel) rfl
theorem dX10_goClock_104 : decode cX10_goClock 104 = .ok (.aload_n 0, 1) := dk_42 (by decide +kernel)
theorem dX10_goClock_105 : decode cX10_goClock 105 = .ok (.getfield 143, 3) := dk_180 (x := 0) (y := 143) (by decide +kernel) rfl
theorem dX10_goClock_108 : decode cX10_goClock 108 = .ok (.aload_n 0, 1) := dk_42 (by decide +kernel)
theorem dX10_goClock_109 : decode cX10_goClock 109 = .ok (.getfield 387, 3) := dk_180 (x := 1) (y := 131) (by decide +kernel) rfl
theorem dX10_goClock_112 : decode cX10_goClock 112 = .ok (.if_icmp .ge 48, 3) := dk_162 (x := 0) (y := 48) (by decide +kernel) rfl
theorem dX10_goClock_115 : decode cX10_goClock 115 = .ok (.aload_n 0, 1) := dk_42 (by decide +kernel)
theorem dX10_goClock_116 : decode cX10_goClock 116 = .ok (.iload_n 1, 1) := dk_27 (by decide +kernel)
theorem dX10_goClock_117 : decode cX10_goClock 117 = .ok (.iload_n 2, 1) := dk_28 (by decide +kernel)
theorem dX10_goClock_118 : decode cX10_goClock 118 = .ok (.invokevirtual 390, 3) := dk_182 (x := 1) (y := 134) (by decide +kernel) rfl
theorem dX10_goClock_121 : decode cX10_goClock 121 = .ok (.aload_n 0, 1) := dk_42 (by decide +kernel)
theorem dX10_goClock_122 : decode cX10_goClock 122 = .ok (.getfield 7, 3) := dk_180 (x := 0) (y := 7) (by decide +kernel) rfl
theorem dX10_goClock_125 : decode cX10_goClock 125 = .ok (.sipush 850, 3) := dk_17 (x := 3) (y := 82) (by decide +kernel) rfl
theorem dX10_goClock_128 : decode cX10_goClock 128 = .ok (.iaload, 1) := dk_46 (by decide +kernel)
theorem dX10_goClock_129 : decode cX10_goClock 129 = .ok (.ifCond .ne 18, 3) := dk_154 (x := 0) (y := 18) (by decide +kernel) rfl
theorem dX10_goClock_132 : decode cX10_goClock 132 = .ok (.aload_n 0, 1) := dk_42 (by decide +kernel)
theorem dX10_goClock_133 : decode cX10_goClock 133 = .ok (.invokevirtual 196, 3) := dk_182 (x := 0) (y := 196) (by decide +kernel) rfl
theorem dX10_goClock_136 : decode cX10_goClock 136 = .ok (.ifCond .ne 11, 3) := dk_154 (x := 0) (y := 11) (by decide +kernel) rfl
theorem dX10_goClock_139 : decode cX10_goClock 139 = .ok (.aload_n 0, 1) := dk_42 (by decide +kernel)
theorem dX10_goClock_140 : decode cX10_goClock 140 = .ok (.aload_n 0, 1) := dk_42 (by decide +kernel)
theorem dX10_goClock_141 : decode cX10_goClock 141 = .ok (.getfield 143, 3) := dk_180 (x := 0) (y := 143) (by decide +kernel) rfl
theorem dX10_goClock_144 : decode cX10_goClock 144 = .ok (.putfield 387, 3) := dk_181 (x := 1) (y := 131) (by decide +kernel) rfl
theorem dX10_goClock_147 : decode cX10_goClock 147 = .ok (.aload_n 0, 1) := dk_42 (by decide +kernel)
theorem dX10_goClock_148 : decode cX10_goClock 148 = .ok (.dup, 1) := dk_89 (by decide +kernel)
theorem dX10_goClock_149 : decode cX10_goClock 149 = .ok (.getfield 143, 3) := dk_180 (x := 0) (y := 143) (by decide +kernel) rfl
theorem dX10_goClock_152 : decode cX10_goClock 152 = .ok (.iconst 1, 1) := dk_4 (by decide +kernel)
theorem dX10_goClock_153 : decode cX10_goClock 153 = .ok (.iadd, 1) := dk_96 (by decide +kernel)
theorem dX10_goClock_154 : decode cX10_goClock 154 = .ok (.putfield 143, 3) := dk_181 (x := 0) (y := 143) (by decide +kernel) rfl
theorem dX10_goClock_157 : decode cX10_goClock 157 = .ok (.goto (-53), 3) := dk_167 (x := 255) (y := 203) (by decide +kernel) rfl
theorem dX10_goClock_160 : decode cX10_goClock 160 = .ok (.aload_n 0, 1) := dk_42 (by decide +kernel)
theorem dX10_goClock_161 : decode cX10_goClock 161 = .ok (.iconst 0, 1) := dk_3 (by decide +kernel)
theorem dX10_goClock_162 : decode cX10_goClock 162 = .ok (.putfield 143, 3) := dk_181 (x := 0) (y := 143) (by decide +kernel) rfl
theorem dX10_goClock_165 : decode cX10_goClock 165 = .ok (.aload_n 0, 1) := dk_42 (by decide +kernel)
theorem dX10_goClock_166 : decode cX10_goClock 166 = .ok (.aload_n 0, 1) := dk_42 (by decide +kernel)
theorem dX10_goClock_167 : decode cX10_goClock 167 = .ok (.getfield 7, 3) := dk_180 (x := 0) (y := 7) (by decide +kernel) rfl
theorem dX10_goClock_170 : decode cX10_goClock 170 = .ok (.sipush 9851, 3) := dk_17 (x := 38) (y := 123) (by decide +kernel) rfl
theorem dX10_goClock_173 : decode cX10_goClock 173 = .ok (.iaload, 1) := dk_46 (by decide +kernel)
theorem dX10_goClock_174 : decode cX10_goClock 174 = .ok (.iload_n 3, 1) := dk_29 (by decide +kernel)
theorem dX10_goClock_175 : decode cX10_goClock 175 = .ok (.isub, 1) := dk_100 (by decide +kernel)
theorem dX10_goClock_176 : decode cX10_goClock 176 = .ok (.putfield 393, 3) := dk_181 (x := 1) (y := 137) (by decide +kernel) rfl
theorem dX10_goClock_179 : decode cX10_goClock 179 = .ok (.return_, 1) := dk_177 (by decide +kernel)
def f_X10_goClock_104 : Nat → Nat → Int32 → Int32 → Int32 → Mem → Option Mem
  | 0, _, _, _, _, _ => none
  | n + 1, v0, v1, v2, v3, M =>
    chk (isO M 10 v0) <|
    if (mI M v0 20) ≤ (mI M v0 3) then (
      bnd (sI M v0 3 (0 : Int32)) fun M4 =>
      bnd (mR M4 v0 0) fun o7 =>
      chk (isO M4 100 o7) <|
      chk (inB (9851 : Int32) (mLn M4 o7)) <|
      bnd (sI M4 v0 21 ((mI M4 o7 ((9851 : Int32)).toNatClampNeg) - v3)) fun M11 =>
      some M11
      ) else (
      obd (f_X10_goTime n v0 v1 v2 M) fun M16 =>
      chk (isO M16 10 v0) <|
      bnd (mR M16 v0 0) fun o18 =>
      chk (isO M16 100 o18) <|
      chk (inB (850 : Int32) (mLn M16 o18)) <|
      if (mI M16 o18 ((850 : Int32)).toNatClampNeg) = 0 then (
        obd (f_X10_insides n v0 M16) fun r29 =>
        if r29 = 0 then (
          bnd (sI M16 v0 20 (mI M16 v0 3)) fun M36 =>
          bnd (sI M36 v0 3 ((mI M36 v0 3) + (1 : Int32))) fun M40 =>
          f_X10_goClock_104 n v0 v1 v2 v3 M40
          ) else (
          bnd (sI M16 v0 3 ((mI M16 v0 3) + (1 : Int32))) fun M32 =>
          f_X10_goClock_104 n v0 v1 v2 v3 M32
          )
        ) else (
        bnd (sI M16 v0 3 ((mI M16 v0 3) + (1 : Int32))) fun M24 =>
        f_X10_goClock_104 n v0 v1 v2 v3 M24
        )
      )
def f_X10_goClock_42 : Nat → Nat → Int32 → Int32 → Int32 → Int32 → Mem → Option Mem
  | 0, _, _, _, _, _, _ => none
  | n + 1, v0, v1, v2, v3, v4, M =>
    if (16 : Int32) ≤ v4 then (
      chk (isO M 10 v0) <|
      bnd (sI M v0 22 (-1 : Int32)) fun M4 =>
      obd (f_X10_get v0 v2 (0 : Int32) M4) fun r8 =>
      if r8 = (2 : Int32) then (
        bnd (sI M4 v0 23 (0 : Int32)) fun M23 =>
        bnd (sI M23 v0 24 (0 : Int32)) fun M26 =>
        bnd (sI M26 v0 20 (300 : Int32)) fun M29 =>
        bnd (sI M29 v0 3 (0 : Int32)) fun M32 =>
        f_X10_goClock_104 n v0 v1 v2 v3 M32
        ) else (
        bnd (sI M4 v0 23 (-1 : Int32)) fun M11 =>
        bnd (sI M11 v0 24 (0 : Int32)) fun M14 =>
        bnd (sI M14 v0 20 (300 : Int32)) fun M17 =>
        bnd (sI M17 v0 3 (0 : Int32)) fun M20 =>
        f_X10_goClock_104 n v0 v1 v2 v3 M20
        )
      ) else (
      chk (isO M 10 v0) <|
      bnd (mR M v0 19) fun o36 =>
      chk (isO M 100 o36) <|
      chk (inB v4 (mLn M o36)) <|
      bnd (sI M o36 (v4).toNatClampNeg (0 : Int32)) fun M40 =>
      bnd (v4 + (1 : Int32)) fun x44 =>
      f_X10_goClock_42 n v0 v1 v2 v3 x44 M40
      )
def f_X10_goClock_12 : Nat → Nat → Int32 → Int32 → Int32 → Int32 → Mem → Option Mem
  | 0, _, _, _, _, _, _ => none
  | n + 1, v0, v1, v2, v3, v4, M =>
    chk (isO M 10 v0) <|
    bnd (mR M v0 0) fun o2 =>
    chk (isO M 100 o2) <|
    chk (inB (850 : Int32) (mLn M o2)) <|
    if (mI M o2 ((850 : Int32)).toNatClampNeg) ≤ v4 then (
      f_X10_goClock_42 n v0 v1 v2 v3 (0 : Int32) M
      ) else (
      bnd (mR M v0 2) fun o8 =>
      chk (isO M 100 o8) <|
      chk (inB v4 (mLn M o8)) <|
      bnd (sI M o8 (v4).toNatClampNeg (0 : Int32)) fun M12 =>
      bnd (v4 + (1 : Int32)) fun x17 =>
      f_X10_goClock_12 n v0 v1 v2 v3 x17 M12
      )
def f_X10_goClock (n : Nat) (o : Nat) (a1 : Int32) (a2 : Int32) (M : Mem) : Option Mem :=
  chk (isO M 10 o) <|
  bnd (mR M o 0) fun o2 =>
  chk (isO M 100 o2) <|
  chk (inB (9851 : Int32) (mLn M o2)) <|
  bnd (mI M o2 ((9851 : Int32)).toNatClampNeg) fun x6 =>
  f_X10_goClock_12 n o a1 a2 x6 (0 : Int32) M
theorem cd_X10_goClock : (yX10_goClock.cls ≠ "java/lang/invoke/MethodHandle" ∧ yX10_goClock.cls ≠ "java/lang/invoke/VarHandle") ∧ (parseMethodDescriptor yX10_goClock.desc).map (fun d => d.parameters.length) = some 2 := ⟨⟨by decide +kernel, by decide +kernel⟩, by decide +kernel⟩
section
variable {p : Program} {l : Launch} {e : Env} {R : Room} {s : State} {m : MethodId} {args : Array Value} {below : List Frame} {meth : Method} {c : Code} {G : Gam} {M0 : Mem}
theorem l_X10_goClock_104 {rv : Mem} (X : Cx p R s m args c G M0 cX10_goClock yX10_goClock.cls 5 7 170) (hr : meth.sig.returnType = none) (hlk : meth.locks = false) (hnm : meth.name = "goClock") : ∀ {n : Nat} (v0 : Nat) (v1 : Int32) (v2 : Int32) (v3 : Int32) (M : Mem), f_X10_goClock_104 n v0 v1 v2 v3 M = some rv → Sg p l e R s m args below meth c (Qm below G args s none M0 rv) G M0 5 104 [(0, .ref (gB G + v0)), (1, .int v1), (2, .int v2), (3, .int v3)] [] M := by
  intro n
  induction n with
  | zero => intro v0 v1 v2 v3 M hf; exact (pk_none hf).elim
  | succ n ih =>
    intro v0 v1 v2 v3 M hf
    rw [f_X10_goClock_104] at hf
    refine s_aload_n X 0 dX10_goClock_104 rfl rfl ?_
    obtain ⟨h1, hf⟩ := pk_chk hf
    refine s_getI X (ci := 10) (k := 3) rfl (Nat.le_of_ble_eq_true rfl) h1 wd1443 (fun _ _ _ => rfl) dX10_goClock_105 ?_
    refine s_aload_n X 0 dX10_goClock_108 rfl rfl ?_
    refine s_getI X (ci := 10) (k := 20) rfl (Nat.le_of_ble_eq_true rfl) h1 wd1460 (fun _ _ _ => rfl) dX10_goClock_109 ?_
    have hs2 := pk_ite hf
    clear hf
    refine s_icmp_ge X (tgt := 160) dX10_goClock_112 rfl (fun c3 => ?_) (fun c3 => ?_)
    · have hf := hs2.1 c3
      refine s_aload_n X 0 dX10_goClock_160 rfl rfl ?_
      refine s_iconst X (v := (0 : Int32)) dX10_goClock_161 rfl ?_
      obtain ⟨M4, e5, hf⟩ := pk_bnd hf
      refine s_putI X (ci := 10) (k := 3) rfl (Nat.le_of_ble_eq_true rfl) h1 wd1443 (fun _ _ _ => rfl) rfl rfl e5 dX10_goClock_162 ?_
      have h6 := io_sI e5 h1
      refine s_aload_n X 0 dX10_goClock_165 rfl rfl ?_
      refine s_aload_n X 0 dX10_goClock_166 rfl rfl ?_
      obtain ⟨o7, e8, hf⟩ := pk_bnd hf
      obtain ⟨h9, hf⟩ := pk_chk hf
      refine s_getR X (ci := 10) (k := 0) rfl (Nat.le_of_ble_eq_true rfl) h6 wd1440 (fun _ _ _ => rfl) (e8 ▸ h9) dX10_goClock_167 (e8 ▸ ?_)
      refine s_sipush X (v := (9851 : Int32)) dX10_goClock_170 rfl ?_
      obtain ⟨h10, hf⟩ := pk_chk hf
      refine s_iald X h9 h10 dX10_goClock_173 ?_
      refine s_iload_n X 3 dX10_goClock_174 rfl rfl ?_
      refine s_isub X dX10_goClock_175 ?_
      obtain ⟨M11, e12, hf⟩ := pk_bnd hf
      refine s_putI X (ci := 10) (k := 21) rfl (Nat.le_of_ble_eq_true rfl) h6 wd1461 (fun _ _ _ => rfl) rfl rfl e12 dX10_goClock_176 ?_
      have h13 := io_sI e12 h6
      have h14 := io_sI e12 h9
      cases hf
      exact s_vret X hr hlk dX10_goClock_179
    · have hf := hs2.2 c3
      refine s_aload_n X 0 dX10_goClock_115 rfl rfl ?_
      refine s_iload_n X 1 dX10_goClock_116 rfl rfl ?_
      refine s_iload_n X 2 dX10_goClock_117 rfl rfl ?_
      obtain ⟨M16, hc15, hf⟩ := pk_obd hf
      refine s_callV X (ci := 10) (k_X10_goTime G hc15) rfl h1 wd2035 wd2037 wd123 wd2038 wd138 cd_X10_goTime ⟨Nat.le_of_ble_eq_true rfl, Nat.le_of_ble_eq_true rfl⟩ (Nat.le_of_ble_eq_true rfl) dX10_goClock_118 ?_
      refine s_aload_n X 0 dX10_goClock_121 rfl rfl ?_
      obtain ⟨h17, hf⟩ := pk_chk hf
      obtain ⟨o18, e19, hf⟩ := pk_bnd hf
      obtain ⟨h20, hf⟩ := pk_chk hf
      refine s_getR X (ci := 10) (k := 0) rfl (Nat.le_of_ble_eq_true rfl) h17 wd1440 (fun _ _ _ => rfl) (e19 ▸ h20) dX10_goClock_122 (e19 ▸ ?_)
      refine s_sipush X (v := (850 : Int32)) dX10_goClock_125 rfl ?_
      obtain ⟨h21, hf⟩ := pk_chk hf
      refine s_iald X h20 h21 dX10_goClock_128 ?_
      have hs22 := pk_ite hf
      clear hf
      refine s_if_ne X (tgt := 147) dX10_goClock_129 rfl (fun c23 => ?_) (fun c23 => ?_)
      · have hf := hs22.2 c23
        refine s_aload_n X 0 dX10_goClock_147 rfl rfl ?_
        refine s_dup X dX10_goClock_148 rfl ?_
        refine s_getI X (ci := 10) (k := 3) rfl (Nat.le_of_ble_eq_true rfl) h17 wd1443 (fun _ _ _ => rfl) dX10_goClock_149 ?_
        refine s_iconst X (v := (1 : Int32)) dX10_goClock_152 rfl ?_
        refine s_iadd X dX10_goClock_153 ?_
        obtain ⟨M24, e25, hf⟩ := pk_bnd hf
        refine s_putI X (ci := 10) (k := 3) rfl (Nat.le_of_ble_eq_true rfl) h17 wd1443 (fun _ _ _ => rfl) rfl rfl e25 dX10_goClock_154 ?_
        have h26 := io_sI e25 h17
        have h27 := io_sI e25 h20
        refine s_goto X (tgt := 104) dX10_goClock_157 rfl ?_
        exact ih _ _ _ _ _ hf
      · have hf := hs22.1 c23
        refine s_aload_n X 0 dX10_goClock_132 rfl rfl ?_
        obtain ⟨r29, hc28, hf⟩ := pk_obd hf
        refine s_callV X (ci := 10) (k_X10_insides G hc28) rfl h17 wd1826 wd1828 wd93 wd1829 wd138 cd_X10_insides ⟨Nat.le_of_ble_eq_true rfl, Nat.le_of_ble_eq_true rfl⟩ (Nat.le_of_ble_eq_true rfl) dX10_goClock_133 ?_
        have hs30 := pk_ite hf
        clear hf
        refine s_if_ne X (tgt := 147) dX10_goClock_136 rfl (fun c31 => ?_) (fun c31 => ?_)
        · have hf := hs30.2 c31
          refine s_aload_n X 0 dX10_goClock_147 rfl rfl ?_
          refine s_dup X dX10_goClock_148 rfl ?_
          refine s_getI X (ci := 10) (k := 3) rfl (Nat.le_of_ble_eq_true rfl) h17 wd1443 (fun _ _ _ => rfl) dX10_goClock_149 ?_
          refine s_iconst X (v := (1 : Int32)) dX10_goClock_152 rfl ?_
          refine s_iadd X dX10_goClock_153 ?_
          obtain ⟨M32, e33, hf⟩ := pk_bnd hf
          refine s_putI X (ci := 10) (k := 3) rfl (Nat.le_of_ble_eq_true rfl) h17 wd1443 (fun _ _ _ => rfl) rfl rfl e33 dX10_goClock_154 ?_
          have h34 := io_sI e33 h17
          have h35 := io_sI e33 h20
          refine s_goto X (tgt := 104) dX10_goClock_157 rfl ?_
          exact ih _ _ _ _ _ hf
        · have hf := hs30.1 c31
          refine s_aload_n X 0 dX10_goClock_139 rfl rfl ?_
          refine s_aload_n X 0 dX10_goClock_140 rfl rfl ?_
          refine s_getI X (ci := 10) (k := 3) rfl (Nat.le_of_ble_eq_true rfl) h17 wd1443 (fun _ _ _ => rfl) dX10_goClock_141 ?_
          obtain ⟨M36, e37, hf⟩ := pk_bnd hf
          refine s_putI X (ci := 10) (k := 20) rfl (Nat.le_of_ble_eq_true rfl) h17 wd1460 (fun _ _ _ => rfl) rfl rfl e37 dX10_goClock_144 ?_
          have h38 := io_sI e37 h17
          have h39 := io_sI e37 h20
          refine s_aload_n X 0 dX10_goClock_147 rfl rfl ?_
          refine s_dup X dX10_goClock_148 rfl ?_
          refine s_getI X (ci := 10) (k := 3) rfl (Nat.le_of_ble_eq_true rfl) h38 wd1443 (fun _ _ _ => rfl) dX10_goClock_149 ?_
          refine s_iconst X (v := (1 : Int32)) dX10_goClock_152 rfl ?_
          refine s_iadd X dX10_goClock_153 ?_
          obtain ⟨M40, e41, hf⟩ := pk_bnd hf
          refine s_putI X (ci := 10) (k := 3) rfl (Nat.le_of_ble_eq_true rfl) h38 wd1443 (fun _ _ _ => rfl) rfl rfl e41 dX10_goClock_154 ?_
          have h42 := io_sI e41 h38
          have h43 := io_sI e41 h39
          refine s_goto X (tgt := 104) dX10_goClock_157 rfl ?_
          exact ih _ _ _ _ _ hf
theorem l_X10_goClock_42 {rv : Mem} (X : Cx p R s m args c G M0 cX10_goClock yX10_goClock.cls 5 7 170) (hr : meth.sig.returnType = none) (hlk : meth.locks = false) (hnm : meth.name = "goClock") : ∀ {n : Nat} (v0 : Nat) (v1 : Int32) (v2 : Int32) (v3 : Int32) (v4 : Int32) (M : Mem), f_X10_goClock_42 n v0 v1 v2 v3 v4 M = some rv → Sg p l e R s m args below meth c (Qm below G args s none M0 rv) G M0 5 42 [(0, .ref (gB G + v0)), (1, .int v1), (2, .int v2), (3, .int v3), (4, .int v4)] [] M := by
  intro n
  induction n with
  | zero => intro v0 v1 v2 v3 v4 M hf; exact (pk_none hf).elim
  | succ n ih =>
    intro v0 v1 v2 v3 v4 M hf
    rw [f_X10_goClock_42] at hf
    refine s_iload X 4 dX10_goClock_42 rfl ?_
    refine s_bipush X (v := (16 : Int32)) dX10_goClock_44 rfl ?_
    have hs1 := pk_ite hf
    clear hf
    refine s_icmp_ge X (tgt := 63) dX10_goClock_46 rfl (fun c2 => ?_) (fun c2 => ?_)
    · have hf := hs1.1 c2
      refine s_aload_n X 0 dX10_goClock_63 rfl rfl ?_
      refine s_iconst X (v := (-1 : Int32)) dX10_goClock_64 rfl ?_
      obtain ⟨h3, hf⟩ := pk_chk hf
      obtain ⟨M4, e5, hf⟩ := pk_bnd hf
      refine s_putI X (ci := 10) (k := 22) rfl (Nat.le_of_ble_eq_true rfl) h3 wd1462 (fun _ _ _ => rfl) rfl rfl e5 dX10_goClock_65 ?_
      have h6 := io_sI e5 h3
      refine s_aload_n X 0 dX10_goClock_68 rfl rfl ?_
      refine s_aload_n X 0 dX10_goClock_69 rfl rfl ?_
      refine s_iload_n X 2 dX10_goClock_70 rfl rfl ?_
      refine s_iconst X (v := (0 : Int32)) dX10_goClock_71 rfl ?_
      obtain ⟨r8, hc7, hf⟩ := pk_obd hf
      refine s_callV X (ci := 10) (k_X10_get G hc7) rfl h6 wd1588 wd1590 wd57 wd1591 wd138 cd_X10_get ⟨Nat.le_of_ble_eq_true rfl, Nat.le_of_ble_eq_true rfl⟩ (Nat.le_of_ble_eq_true rfl) dX10_goClock_72 ?_
      refine s_iconst X (v := (2 : Int32)) dX10_goClock_75 rfl ?_
      have hs9 := pk_ite hf
      clear hf
      refine s_icmp_ne X (tgt := 83) dX10_goClock_76 rfl (fun c10 => ?_) (fun c10 => ?_)
      · have hf := hs9.2 c10
        refine s_iconst X (v := (-1 : Int32)) dX10_goClock_83 rfl ?_
        obtain ⟨M11, e12, hf⟩ := pk_bnd hf
        refine s_putI X (ci := 10) (k := 23) rfl (Nat.le_of_ble_eq_true rfl) h6 wd1463 (fun _ _ _ => rfl) rfl rfl e12 dX10_goClock_84 ?_
        have h13 := io_sI e12 h6
        refine s_aload_n X 0 dX10_goClock_87 rfl rfl ?_
        refine s_iconst X (v := (0 : Int32)) dX10_goClock_88 rfl ?_
        obtain ⟨M14, e15, hf⟩ := pk_bnd hf
        refine s_putI X (ci := 10) (k := 24) rfl (Nat.le_of_ble_eq_true rfl) h13 wd1464 (fun _ _ _ => rfl) rfl rfl e15 dX10_goClock_89 ?_
        have h16 := io_sI e15 h13
        refine s_aload_n X 0 dX10_goClock_92 rfl rfl ?_
        refine s_sipush X (v := (300 : Int32)) dX10_goClock_93 rfl ?_
        obtain ⟨M17, e18, hf⟩ := pk_bnd hf
        refine s_putI X (ci := 10) (k := 20) rfl (Nat.le_of_ble_eq_true rfl) h16 wd1460 (fun _ _ _ => rfl) rfl rfl e18 dX10_goClock_96 ?_
        have h19 := io_sI e18 h16
        refine s_aload_n X 0 dX10_goClock_99 rfl rfl ?_
        refine s_iconst X (v := (0 : Int32)) dX10_goClock_100 rfl ?_
        obtain ⟨M20, e21, hf⟩ := pk_bnd hf
        refine s_putI X (ci := 10) (k := 3) rfl (Nat.le_of_ble_eq_true rfl) h19 wd1443 (fun _ _ _ => rfl) rfl rfl e21 dX10_goClock_101 ?_
        have h22 := io_sI e21 h19
        refine s_drop [0, 1, 2, 3] (vs' := [(0, .ref (gB G + v0)), (1, .int v1), (2, .int v2), (3, .int v3)]) rfl ?_
        exact l_X10_goClock_104 X hr hlk hnm _ _ _ _ _ hf
      · have hf := hs9.1 c10
        refine s_iconst X (v := (0 : Int32)) dX10_goClock_79 rfl ?_
        refine s_goto X (tgt := 84) dX10_goClock_80 rfl ?_
        obtain ⟨M23, e24, hf⟩ := pk_bnd hf
        refine s_putI X (ci := 10) (k := 23) rfl (Nat.le_of_ble_eq_true rfl) h6 wd1463 (fun _ _ _ => rfl) rfl rfl e24 dX10_goClock_84 ?_
        have h25 := io_sI e24 h6
        refine s_aload_n X 0 dX10_goClock_87 rfl rfl ?_
        refine s_iconst X (v := (0 : Int32)) dX10_goClock_88 rfl ?_
        obtain ⟨M26, e27, hf⟩ := pk_bnd hf
        refine s_putI X (ci := 10) (k := 24) rfl (Nat.le_of_ble_eq_true rfl) h25 wd1464 (fun _ _ _ => rfl) rfl rfl e27 dX10_goClock_89 ?_
        have h28 := io_sI e27 h25
        refine s_aload_n X 0 dX10_goClock_92 rfl rfl ?_
        refine s_sipush X (v := (300 : Int32)) dX10_goClock_93 rfl ?_
        obtain ⟨M29, e30, hf⟩ := pk_bnd hf
        refine s_putI X (ci := 10) (k := 20) rfl (Nat.le_of_ble_eq_true rfl) h28 wd1460 (fun _ _ _ => rfl) rfl rfl e30 dX10_goClock_96 ?_
        have h31 := io_sI e30 h28
        refine s_aload_n X 0 dX10_goClock_99 rfl rfl ?_
        refine s_iconst X (v := (0 : Int32)) dX10_goClock_100 rfl ?_
        obtain ⟨M32, e33, hf⟩ := pk_bnd hf
        refine s_putI X (ci := 10) (k := 3) rfl (Nat.le_of_ble_eq_true rfl) h31 wd1443 (fun _ _ _ => rfl) rfl rfl e33 dX10_goClock_101 ?_
        have h34 := io_sI e33 h31
        refine s_drop [0, 1, 2, 3] (vs' := [(0, .ref (gB G + v0)), (1, .int v1), (2, .int v2), (3, .int v3)]) rfl ?_
        exact l_X10_goClock_104 X hr hlk hnm _ _ _ _ _ hf
    · have hf := hs1.2 c2
      refine s_aload_n X 0 dX10_goClock_49 rfl rfl ?_
      obtain ⟨h35, hf⟩ := pk_chk hf
      obtain ⟨o36, e37, hf⟩ := pk_bnd hf
      obtain ⟨h38, hf⟩ := pk_chk hf
      refine s_getR X (ci := 10) (k := 19) rfl (Nat.le_of_ble_eq_true rfl) h35 wd1459 (fun _ _ _ => rfl) (e37 ▸ h38) dX10_goClock_50 (e37 ▸ ?_)
      refine s_iload X 4 dX10_goClock_53 rfl ?_
      refine s_iconst X (v := (0 : Int32)) dX10_goClock_55 rfl ?_
      obtain ⟨h39, hf⟩ := pk_chk hf
      obtain ⟨M40, e41, hf⟩ := pk_bnd hf
      refine s_iast X h38 h39 e41 dX10_goClock_56 ?_
      have h42 := io_sI e41 h35
      have h43 := io_sI e41 h38
      obtain ⟨x44, e45, hf⟩ := pk_bnd hf
      refine s_iinc X (vs' := [(0, .ref (gB G + v0)), (1, .int v1), (2, .int v2), (3, .int v3), (4, .int x44)]) 4 dX10_goClock_57 rfl (v := x44) e45.symm (Nat.le_of_ble_eq_true rfl) [1, 2, 3, 4, 0] rfl ?_
      refine s_goto X (tgt := 42) dX10_goClock_60 rfl ?_
      exact ih _ _ _ _ _ _ hf
theorem l_X10_goClock_12 {rv : Mem} (X : Cx p R s m args c G M0 cX10_goClock yX10_goClock.cls 5 7 170) (hr : meth.sig.returnType = none) (hlk : meth.locks = false) (hnm : meth.name = "goClock") : ∀ {n : Nat} (v0 : Nat) (v1 : Int32) (v2 : Int32) (v3 : Int32) (v4 : Int32) (M : Mem), f_X10_goClock_12 n v0 v1 v2 v3 v4 M = some rv → Sg p l e R s m args below meth c (Qm below G args s none M0 rv) G M0 5 12 [(0, .ref (gB G + v0)), (1, .int v1), (2, .int v2), (3, .int v3), (4, .int v4)] [] M := by
  intro n
  induction n with
  | zero => intro v0 v1 v2 v3 v4 M hf; exact (pk_none hf).elim
  | succ n ih =>
    intro v0 v1 v2 v3 v4 M hf
    rw [f_X10_goClock_12] at hf
    refine s_iload X 4 dX10_goClock_12 rfl ?_
    refine s_aload_n X 0 dX10_goClock_14 rfl rfl ?_
    obtain ⟨h1, hf⟩ := pk_chk hf
    obtain ⟨o2, e3, hf⟩ := pk_bnd hf
    obtain ⟨h4, hf⟩ := pk_chk hf
    refine s_getR X (ci := 10) (k := 0) rfl (Nat.le_of_ble_eq_true rfl) h1 wd1440 (fun _ _ _ => rfl) (e3 ▸ h4) dX10_goClock_15 (e3 ▸ ?_)
    refine s_sipush X (v := (850 : Int32)) dX10_goClock_18 rfl ?_
    obtain ⟨h5, hf⟩ := pk_chk hf
    refine s_iald X h4 h5 dX10_goClock_21 ?_
    have hs6 := pk_ite hf
    clear hf
    refine s_icmp_ge X (tgt := 39) dX10_goClock_22 rfl (fun c7 => ?_) (fun c7 => ?_)
    · have hf := hs6.1 c7
      refine s_iconst X (v := (0 : Int32)) dX10_goClock_39 rfl ?_
      refine s_istore X (vs' := [(0, .ref (gB G + v0)), (1, .int v1), (2, .int v2), (3, .int v3), (4, .int (0 : Int32))]) dX10_goClock_40 (Nat.le_of_ble_eq_true rfl) [1, 2, 3, 4, 0] rfl ?_
      exact l_X10_goClock_42 X hr hlk hnm _ _ _ _ _ _ hf
    · have hf := hs6.2 c7
      refine s_aload_n X 0 dX10_goClock_25 rfl rfl ?_
      obtain ⟨o8, e9, hf⟩ := pk_bnd hf
      obtain ⟨h10, hf⟩ := pk_chk hf
      refine s_getR X (ci := 10) (k := 2) rfl (Nat.le_of_ble_eq_true rfl) h1 wd1442 (fun _ _ _ => rfl) (e9 ▸ h10) dX10_goClock_26 (e9 ▸ ?_)
      refine s_iload X 4 dX10_goClock_29 rfl ?_
      refine s_iconst X (v := (0 : Int32)) dX10_goClock_31 rfl ?_
      obtain ⟨h11, hf⟩ := pk_chk hf
      obtain ⟨M12, e13, hf⟩ := pk_bnd hf
      refine s_iast X h10 h11 e13 dX10_goClock_32 ?_
      have h14 := io_sI e13 h1
      have h15 := io_sI e13 h4
      have h16 := io_sI e13 h10
      obtain ⟨x17, e18, hf⟩ := pk_bnd hf
      refine s_iinc X (vs' := [(0, .ref (gB G + v0)), (1, .int v1), (2, .int v2), (3, .int v3), (4, .int x17)]) 4 dX10_goClock_33 rfl (v := x17) e18.symm (Nat.le_of_ble_eq_true rfl) [1, 2, 3, 4, 0] rfl ?_
      refine s_goto X (tgt := 12) dX10_goClock_36 rfl ?_
      exact ih _ _ _ _ _ _ hf
end
theorem k_X10_goClock (G : Gam) {n : Nat} {o : Nat} {a1 : Int32} {a2 : Int32} {M : Mem} {rv : Mem} (hf : f_X10_goClock n o a1 a2 M = some rv) : Kt yX10_goClock cX10_goClock 5 none 7 170 G [.ref (gB G + o), .int a1, .int a2] M rv none := by
  refine Kt.of (by decide) (Nat.le_of_ble_eq_true rfl) ?_
  intro p l e R s m args below meth c X hr hlk hnm
  refine s_drop [0, 1, 2] (vs' := [(0, .ref (gB G + o)), (1, .int a1), (2, .int a2)]) rfl ?_
  rw [f_X10_goClock] at hf
  refine s_aload_n X 0 dX10_goClock_0 rfl rfl ?_
  obtain ⟨h1, hf⟩ := pk_chk hf
  obtain ⟨o2, e3, hf⟩ := pk_bnd hf
  obtain ⟨h4, hf⟩ := pk_chk hf
  refine s_getR X (ci := 10) (k := 0) rfl (Nat.le_of_ble_eq_true rfl) h1 wd1440 (fun _ _ _ => rfl) (e3 ▸ h4) dX10_goClock_1 (e3 ▸ ?_)
  refine s_sipush X (v := (9851 : Int32)) dX10_goClock_4 rfl ?_
  obtain ⟨h5, hf⟩ := pk_chk hf
  refine s_iald X h4 h5 dX10_goClock_7 ?_
  obtain ⟨x6, e7, hf⟩ := pk_bnd hf
  refine s_nmI e7 ?_
  refine s_istore_n X (vs' := [(0, .ref (gB G + o)), (1, .int a1), (2, .int a2), (3, .int x6)]) dX10_goClock_8 rfl (Nat.le_of_ble_eq_true rfl) [1, 2, 3, 0] rfl ?_
  refine s_iconst X (v := (0 : Int32)) dX10_goClock_9 rfl ?_
  refine s_istore X (vs' := [(0, .ref (gB G + o)), (1, .int a1), (2, .int a2), (3, .int x6), (4, .int (0 : Int32))]) dX10_goClock_10 (Nat.le_of_ble_eq_true rfl) [1, 2, 3, 4, 0] rfl ?_
  exact l_X10_goClock_12 X hr hlk hnm _ _ _ _ _ _ hf
theorem dX10_timed_0 : decode cX10_timed 0 = .ok (.iload_n 1, 1) := dk_27 (by decide +kernel)
theorem dX10_timed_1 : decode cX10_timed 1 = .ok (.iconst 1, 1) := dk_4 (by decide +kernel)
theorem dX10_timed_2 : decode cX10_timed 2 = .ok (.bipush 20, 2) := dk_16 (x := 20) (by decide +kernel) rfl
theorem dX10_timed_4 : decode cX10_timed 4 = .ok (.invokestatic 49, 3) := dk_184 (x := 0) (y := 49) (by decide +kernel) rfl
theorem dX10_timed_7 : decode cX10_timed 7 = .ok (.ifCond .eq 20, 3) := dk_153 (x := 0) (y := 20) (by decide +kernel) rfl
theorem dX10_timed_10 : decode cX10_timed 10 = .ok (.aload_n 0, 1) := dk_42 (by decide +kernel)
theorem dX10_timed_11 : decode cX10_timed 11 = .ok (.iload_n 2, 1) := dk_28 (by decide +kernel)
theorem dX10_timed_12 : decode cX10_timed 12 = .ok (.invokevirtual 76, 3) := dk_182 (x := 0) (y := 76) (by decide +kernel) rfl
theorem dX10_timed_15 : decode cX10_timed 15 = .ok (.ifCond .eq 12, 3) := dk_153 (x := 0) (y := 12) (by decide +kernel) rfl
theorem dX10_timed_18 : decode cX10_timed 18 = .ok (.iload_n 3, 1) := dk_29 (by decide +kernel)
theorem dX10_timed_19 : decode cX10_timed 19 = .ok (.iconst 0, 1) := dk_3 (by decide +kernel)
theorem dX10_timed_20 : decode cX10_timed 20 = .ok (.iconst 4, 1) := dk_7 (by decide +kernel)
theorem dX10_timed_21 : decode cX10_timed 21 = .ok (.invokestatic 49, 3) := dk_184 (x := 0) (y := 49) (by decide +kernel) rfl
theorem dX10_timed_24 : decode cX10_timed 24 = .ok (.ifCond .ne 5, 3) := dk_154 (x := 0) (y := 5) (by decide +kernel) rfl
theorem dX10_timed_27 : decode cX10_timed 27 = .ok (.iconst (-1), 1) := dk_2 (by decide +kernel)
theorem dX10_timed_28 : decode cX10_timed 28 = .ok (.ireturn, 1) := dk_172 (by decide +kernel)
theorem dX10_timed_29 : decode cX10_timed 29 = .ok (.aload_n 0, 1) := dk_42 (by decide +kernel)
theorem dX10_timed_30 : decode cX10_timed 30 = .ok (.invokevirtual 320, 3) := dk_182 (x := 1) (y := 64) (by decide +kernel) rfl
theorem dX10_timed_33 : decode cX10_timed 33 = .ok (.aload_n 0, 1) := dk_42 (by decide +kernel)
theorem dX10_timed_34 : decode cX10_timed 34 = .ok (.iload_n 1, 1) := dk_27 (by decide +kernel)
theorem dX10_timed_35 : decode cX10_timed 35 = .ok (.iload_n 2, 1) := dk_28 (by decide +kernel)
theorem dX10_timed_36 : decode cX10_timed 36 = .ok (.invokevirtual 396, 3) := dk_182 (x := 1) (y := 140) (by decide +kernel) rfl
theorem dX10_timed_39 : decode cX10_timed 39 = .ok (.aload_n 0, 1) := dk_42 (by decide +kernel)
theorem dX10_timed_40 : decode cX10_timed 40 = .ok (.invokevirtual 323, 3) := dk_182 (x := 1) (y := 67) (by decide +kernel) rfl
theorem dX10_timed_43 : decode cX10_timed 43 = .ok (.iload_n 3, 1) := dk_29 (by decide +kernel)
theorem dX10_timed_44 : decode cX10_timed 44 = .ok (.ifCond .ne 10, 3) := dk_154 (x := 0) (y := 10) (by decide +kernel) rfl
theorem dX10_timed_47 : decode cX10_timed 47 = .ok (.aload_n 0, 1) := dk_42 (by decide +kernel)
theorem dX10_timed_48 : decode cX10_timed 48 = .ok (.getfield 387, 3) := dk_180 (x := 1) (y := 131) (by decide +kernel) rfl
theorem dX10_timed_51 : decode cX10_timed 51 = .ok (.goto 43, 3) := dk_167 (x := 0) (y := 43) (by decide +kernel) rfl
theorem dX10_timed_54 : decode cX10_timed 54 = .ok (.iload_n 3, 1) := dk_29 (by decide +kernel)
theorem dX10_timed_55 : decode cX10_timed 55 = .ok (.iconst 1, 1) := dk_4 (by decide +kernel)
theorem dX10_timed_56 : decode cX10_timed 56 = .ok (.if_icmp .ne 10, 3) := dk_160 (x := 0) (y := 10) (by decide +kernel) rfl
theorem dX10_timed_59 : decode cX10_timed 59 = .ok (.aload_n 0, 1) := dk_42 (by decide +kernel)
theorem dX10_timed_60 : decode cX10_timed 60 = .ok (.getfield 393, 3) := dk_180 (x := 1) (y := 137) (by decide +kernel) rfl
theorem dX10_timed_63 : decode cX10_timed 63 = .ok (.goto 31, 3) := dk_167 (x := 0) (y := 31) (by decide +kernel) rfl
theorem dX10_timed_66 : decode cX10_timed 66 = .ok (.iload_n 3, 1) := dk_29 (by decide +kernel)
theorem dX10_timed_67 : decode cX10_timed 67 = .ok (.iconst 2, 1) := dk_5 (by decide +kernel)
theorem dX10_timed_68 : decode cX10_timed 68 = .ok (.if_icmp .ne 10, 3) := dk_160 (x := 0) (y := 10) (by decide +kernel) rfl
theorem dX10_timed_71 : decode cX10_timed 71 = .ok (.aload_n 0, 1) := dk_42 (by decide +kernel)
theorem dX10_timed_72 : decode cX10_timed 72 = .ok (.getfield 378, 3) := dk_180 (x := 1) (y := 122) (by decide +kernel) rfl
theorem dX10_timed_75 : decode cX10_timed 75 = .ok (.goto 19, 3) := dk_167 (x := 0) (y := 19) (by decide +kernel) rfl
theorem dX10_timed_78 : decode cX10_timed 78 = .ok (.iload_n 3, 1) := dk_29 (by decide +kernel)
theorem dX10_timed_79 : decode cX10_timed 79 = .ok (.iconst 3, 1) := dk_6 (by decide +kernel)
theorem dX10_timed_80 : decode cX10_timed 80 = .ok (.if_icmp .ne 10, 3) := dk_160 (x := 0) (y := 10) (by decide +kernel) rfl
theorem dX10_timed_83 : decode cX10_timed 83 = .ok (.aload_n 0, 1) := dk_42 (by decide +kernel)
theorem dX10_timed_84 : decode cX10_timed 84 = .ok (.getfield 381, 3) := dk_180 (x := 1) (y := 125) (by decide +kernel) rfl
theorem dX10_timed_87 : decode cX10_timed 87 = .ok (.goto 7, 3) := dk_167 (x := 0) (y := 7) (by decide +kernel) rfl
theorem dX10_timed_90 : decode cX10_timed 90 = .ok (.aload_n 0, 1) := dk_42 (by decide +kernel)
theorem dX10_timed_91 : decode cX10_timed 91 = .ok (.getfield 384, 3) := dk_180 (x := 1) (y := 128) (by decide +kernel) rfl
theorem dX10_timed_94 : decode cX10_timed 94 = .ok (.ireturn, 1) := dk_172 (by decide +kernel)
def f_X10_timed (n : Nat) (o : Nat) (a1 : Int32) (a2 : Int32) (a3 : Int32) (M : Mem) : Option (Int32 × Mem) :=
  obd (f_X10_isIn a1 (1 : Int32) (20 : Int32) M) fun r2 =>
  if r2 = 0 then (
    some ((-1 : Int32), M)
    ) else (
    chk (isO M 10 o) <|
    obd (f_X10_isNode o a2 M) fun r7 =>
    if r7 = 0 then (
      some ((-1 : Int32), M)
      ) else (
      obd (f_X10_isIn a3 (0 : Int32) (4 : Int32) M) fun r11 =>
      if r11 = 0 then (
        some ((-1 : Int32), M)
        ) else (
        obd (f_X10_putAside n o M) fun M15 =>
        chk (isO M15 10 o) <|
        obd (f_X10_goClock n o a1 a2 M15) fun M18 =>
        chk (isO M18 10 o) <|
        obd (f_X10_bringBack n o M18) fun M21 =>
        if a3 = 0 then (
          chk (isO M21 10 o) <|
          some ((mI M21 o 20), M21)
          ) else (
          if a3 = (1 : Int32) then (
            chk (isO M21 10 o) <|
            some ((mI M21 o 21), M21)
            ) else (
            if a3 = (2 : Int32) then (
              chk (isO M21 10 o) <|
              some ((mI M21 o 22), M21)
              ) else (
              if a3 = (3 : Int32) then (
                chk (isO M21 10 o) <|
                some ((mI M21 o 23), M21)
                ) else (
                chk (isO M21 10 o) <|
                some ((mI M21 o 24), M21)
                )
              )
            )
          )
        )
      )
    )
theorem cd_X10_timed : (yX10_timed.cls ≠ "java/lang/invoke/MethodHandle" ∧ yX10_timed.cls ≠ "java/lang/invoke/VarHandle") ∧ (parseMethodDescriptor yX10_timed.desc).map (fun d => d.parameters.length) = some 3 := ⟨⟨by decide +kernel, by decide +kernel⟩, by decide +kernel⟩
theorem k_X10_timed (G : Gam) {n : Nat} {o : Nat} {a1 : Int32} {a2 : Int32} {a3 : Int32} {M : Mem} {rv : (Int32 × Mem)} (hf : f_X10_timed n o a1 a2 a3 M = some rv) : Kt yX10_timed cX10_timed 4 (some .int) 8 194 G [.ref (gB G + o), .int a1, .int a2, .int a3] M rv.2 (some (.int rv.1)) := by
  refine Kt.of (by decide) (Nat.le_of_ble_eq_true rfl) ?_
  intro p l e R s m args below meth c X hr hlk hnm
  refine s_drop [0, 1, 2, 3] (vs' := [(0, .ref (gB G + o)), (1, .int a1), (2, .int a2), (3, .int a3)]) rfl ?_
  rw [f_X10_timed] at hf
  refine s_iload_n X 1 dX10_timed_0 rfl rfl ?_
  refine s_iconst X (v := (1 : Int32)) dX10_timed_1 rfl ?_
  refine s_bipush X (v := (20 : Int32)) dX10_timed_2 rfl ?_
  obtain ⟨r2, hc1, hf⟩ := pk_obd hf
  refine s_callS X (k_X10_isIn G hc1) wd1520 wd1521 wd1522 wd138 cd_X10_isIn ⟨Nat.le_of_ble_eq_true rfl, Nat.le_of_ble_eq_true rfl⟩ (Nat.le_of_ble_eq_true rfl) dX10_timed_4 ?_
  have hs3 := pk_ite hf
  clear hf
  refine s_if_eq X (tgt := 27) dX10_timed_7 rfl (fun c4 => ?_) (fun c4 => ?_)
  · have hf := hs3.1 c4
    refine s_iconst X (v := (-1 : Int32)) dX10_timed_27 rfl ?_
    cases hf
    exact s_iret X hr hlk dX10_timed_28
  · have hf := hs3.2 c4
    refine s_aload_n X 0 dX10_timed_10 rfl rfl ?_
    refine s_iload_n X 2 dX10_timed_11 rfl rfl ?_
    obtain ⟨h5, hf⟩ := pk_chk hf
    obtain ⟨r7, hc6, hf⟩ := pk_obd hf
    refine s_callV X (ci := 10) (k_X10_isNode G hc6) rfl h5 wd1554 wd1556 wd53 wd1557 wd138 cd_X10_isNode ⟨Nat.le_of_ble_eq_true rfl, Nat.le_of_ble_eq_true rfl⟩ (Nat.le_of_ble_eq_true rfl) dX10_timed_12 ?_
    have hs8 := pk_ite hf
    clear hf
    refine s_if_eq X (tgt := 27) dX10_timed_15 rfl (fun c9 => ?_) (fun c9 => ?_)
    · have hf := hs8.1 c9
      refine s_iconst X (v := (-1 : Int32)) dX10_timed_27 rfl ?_
      cases hf
      exact s_iret X hr hlk dX10_timed_28
    · have hf := hs8.2 c9
      refine s_iload_n X 3 dX10_timed_18 rfl rfl ?_
      refine s_iconst X (v := (0 : Int32)) dX10_timed_19 rfl ?_
      refine s_iconst X (v := (4 : Int32)) dX10_timed_20 rfl ?_
      obtain ⟨r11, hc10, hf⟩ := pk_obd hf
      refine s_callS X (k_X10_isIn G hc10) wd1520 wd1521 wd1522 wd138 cd_X10_isIn ⟨Nat.le_of_ble_eq_true rfl, Nat.le_of_ble_eq_true rfl⟩ (Nat.le_of_ble_eq_true rfl) dX10_timed_21 ?_
      have hs12 := pk_ite hf
      clear hf
      refine s_if_ne X (tgt := 29) dX10_timed_24 rfl (fun c13 => ?_) (fun c13 => ?_)
      · have hf := hs12.2 c13
        refine s_aload_n X 0 dX10_timed_29 rfl rfl ?_
        obtain ⟨M15, hc14, hf⟩ := pk_obd hf
        refine s_callV X (ci := 10) (k_X10_putAside G hc14) rfl h5 wd1962 wd1964 wd111 wd1965 wd138 cd_X10_putAside ⟨Nat.le_of_ble_eq_true rfl, Nat.le_of_ble_eq_true rfl⟩ (Nat.le_of_ble_eq_true rfl) dX10_timed_30 ?_
        refine s_aload_n X 0 dX10_timed_33 rfl rfl ?_
        refine s_iload_n X 1 dX10_timed_34 rfl rfl ?_
        refine s_iload_n X 2 dX10_timed_35 rfl rfl ?_
        obtain ⟨h16, hf⟩ := pk_chk hf
        obtain ⟨M18, hc17, hf⟩ := pk_obd hf
        refine s_callV X (ci := 10) (k_X10_goClock G hc17) rfl h16 wd2031 wd2033 wd122 wd2034 wd138 cd_X10_goClock ⟨Nat.le_of_ble_eq_true rfl, Nat.le_of_ble_eq_true rfl⟩ (Nat.le_of_ble_eq_true rfl) dX10_timed_36 ?_
        refine s_aload_n X 0 dX10_timed_39 rfl rfl ?_
        obtain ⟨h19, hf⟩ := pk_chk hf
        obtain ⟨M21, hc20, hf⟩ := pk_obd hf
        refine s_callV X (ci := 10) (k_X10_bringBack G hc20) rfl h19 wd1966 wd1968 wd112 wd1969 wd138 cd_X10_bringBack ⟨Nat.le_of_ble_eq_true rfl, Nat.le_of_ble_eq_true rfl⟩ (Nat.le_of_ble_eq_true rfl) dX10_timed_40 ?_
        refine s_iload_n X 3 dX10_timed_43 rfl rfl ?_
        have hs22 := pk_ite hf
        clear hf
        refine s_if_ne X (tgt := 54) dX10_timed_44 rfl (fun c23 => ?_) (fun c23 => ?_)
        · have hf := hs22.2 c23
          refine s_iload_n X 3 dX10_timed_54 rfl rfl ?_
          refine s_iconst X (v := (1 : Int32)) dX10_timed_55 rfl ?_
          have hs24 := pk_ite hf
          clear hf
          refine s_icmp_ne X (tgt := 66) dX10_timed_56 rfl (fun c25 => ?_) (fun c25 => ?_)
          · have hf := hs24.2 c25
            refine s_iload_n X 3 dX10_timed_66 rfl rfl ?_
            refine s_iconst X (v := (2 : Int32)) dX10_timed_67 rfl ?_
            have hs26 := pk_ite hf
            clear hf
            refine s_icmp_ne X (tgt := 78) dX10_timed_68 rfl (fun c27 => ?_) (fun c27 => ?_)
            · have hf := hs26.2 c27
              refine s_iload_n X 3 dX10_timed_78 rfl rfl ?_
              refine s_iconst X (v := (3 : Int32)) dX10_timed_79 rfl ?_
              have hs28 := pk_ite hf
              clear hf
              refine s_icmp_ne X (tgt := 90) dX10_timed_80 rfl (fun c29 => ?_) (fun c29 => ?_)
              · have hf := hs28.2 c29
                refine s_aload_n X 0 dX10_timed_90 rfl rfl ?_
                obtain ⟨h30, hf⟩ := pk_chk hf
                refine s_getI X (ci := 10) (k := 24) rfl (Nat.le_of_ble_eq_true rfl) h30 wd1464 (fun _ _ _ => rfl) dX10_timed_91 ?_
                cases hf
                exact s_iret X hr hlk dX10_timed_94
              · have hf := hs28.1 c29
                refine s_aload_n X 0 dX10_timed_83 rfl rfl ?_
                obtain ⟨h31, hf⟩ := pk_chk hf
                refine s_getI X (ci := 10) (k := 23) rfl (Nat.le_of_ble_eq_true rfl) h31 wd1463 (fun _ _ _ => rfl) dX10_timed_84 ?_
                refine s_goto X (tgt := 94) dX10_timed_87 rfl ?_
                cases hf
                exact s_iret X hr hlk dX10_timed_94
            · have hf := hs26.1 c27
              refine s_aload_n X 0 dX10_timed_71 rfl rfl ?_
              obtain ⟨h32, hf⟩ := pk_chk hf
              refine s_getI X (ci := 10) (k := 22) rfl (Nat.le_of_ble_eq_true rfl) h32 wd1462 (fun _ _ _ => rfl) dX10_timed_72 ?_
              refine s_goto X (tgt := 94) dX10_timed_75 rfl ?_
              cases hf
              exact s_iret X hr hlk dX10_timed_94
          · have hf := hs24.1 c25
            refine s_aload_n X 0 dX10_timed_59 rfl rfl ?_
            obtain ⟨h33, hf⟩ := pk_chk hf
            refine s_getI X (ci := 10) (k := 21) rfl (Nat.le_of_ble_eq_true rfl) h33 wd1461 (fun _ _ _ => rfl) dX10_timed_60 ?_
            refine s_goto X (tgt := 94) dX10_timed_63 rfl ?_
            cases hf
            exact s_iret X hr hlk dX10_timed_94
        · have hf := hs22.1 c23
          refine s_aload_n X 0 dX10_timed_47 rfl rfl ?_
          obtain ⟨h34, hf⟩ := pk_chk hf
          refine s_getI X (ci := 10) (k := 20) rfl (Nat.le_of_ble_eq_true rfl) h34 wd1460 (fun _ _ _ => rfl) dX10_timed_48 ?_
          refine s_goto X (tgt := 94) dX10_timed_51 rfl ?_
          cases hf
          exact s_iret X hr hlk dX10_timed_94
      · have hf := hs12.1 c13
        refine s_iconst X (v := (-1 : Int32)) dX10_timed_27 rfl ?_
        cases hf
        exact s_iret X hr hlk dX10_timed_28
theorem dX6_soonestInside_0 : decode cX6_soonestInside 0 = .ok (.iconst 0, 1) := dk_3 (by decide +kernel)
theorem dX6_soonestInside_1 : decode cX6_soonestInside 1 = .ok (.istore_n 2, 1) := dk_61 (by decide +kernel)
theorem dX6_soonestInside_2 : decode cX6_soonestInside 2 = .ok (.iload_n 2, 1) := dk_28 (by decide +kernel)
theorem dX6_soonestInside_3 : decode cX6_soonestInside 3 = .ok (.aload_n 0, 1) := dk_42 (by decide +kernel)
theorem dX6_soonestInside_4 : decode cX6_soonestInside 4 = .ok (.getfield 39, 3) := dk_180 (x := 0) (y := 39) (by decide +kernel) rfl
theorem dX6_soonestInside_7 : decode cX6_soonestInside 7 = .ok (.if_icmp .ge 29, 3) := dk_162 (x := 0) (y := 29) (by decide +kernel) rfl
theorem dX6_soonestInside_10 : decode cX6_soonestInside 10 = .ok (.aload_n 0, 1) := dk_42 (by decide +kernel)
theorem dX6_soonestInside_11 : decode cX6_soonestInside 11 = .ok (.getfield 18, 3) := dk_180 (x := 0) (y := 18) (by decide +kernel) rfl
theorem dX6_soonestInside_14 : decode cX6_soonestInside 14 = .ok (.iload_n 2, 1) := dk_28 (by decide +kernel)
theorem dX6_soonestInside_15 : decode cX6_soonestInside 15 = .ok (.iaload, 1) := dk_46 (by decide +kernel)
theorem dX6_soonestInside_16 : decode cX6_soonestInside 16 = .ok (.iload_n 1, 1) := dk_27 (by decide +kernel)
theorem dX6_soonestInside_17 : decode cX6_soonestInside 17 = .ok (.invokestatic 120, 3) := dk_184 (x := 0) (y := 120) (by decide +kernel) rfl
theorem dX6_soonestInside_20 : decode cX6_soonestInside 20 = .ok (.ifCond .eq 10, 3) := dk_153 (x := 0) (y := 10) (by decide +kernel) rfl
theorem dX6_soonestInside_23 : decode cX6_soonestInside 23 = .ok (.aload_n 0, 1) := dk_42 (by decide +kernel)
theorem dX6_soonestInside_24 : decode cX6_soonestInside 24 = .ok (.getfield 15, 3) := dk_180 (x := 0) (y := 15) (by decide +kernel) rfl
theorem dX6_soonestInside_27 : decode cX6_soonestInside 27 = .ok (.iload_n 2, 1) := dk_28 (by decide +kernel)
theorem dX6_soonestInside_28 : decode cX6_soonestInside 28 = .ok (.iaload, 1) := dk_46 (by decide +kernel)
theorem dX6_soonestInside_29 : decode cX6_soonestInside 29 = .ok (.ireturn, 1) := dk_172 (by decide +kernel)
theorem dX6_soonestInside_30 : decode cX6_soonestInside 30 = .ok (.iinc 2 1, 3) := dk_132 (x := 2) (y := 1) (by decide +kernel) rfl
theorem dX6_soonestInside_33 : decode cX6_soonestInside 33 = .ok (.goto (-31), 3) := dk_167 (x := 255) (y := 225) (by decide +kernel) rfl
theorem dX6_soonestInside_36 : decode cX6_soonestInside 36 = .ok (.iconst (-1), 1) := dk_2 (by decide +kernel)
theorem dX6_soonestInside_37 : decode cX6_soonestInside 37 = .ok (.ireturn, 1) := dk_172 (by decide +kernel)
def f_X6_soonestInside_2 (M : Mem) : Nat → Nat → Int32 → Int32 → Option Int32
  | 0, _, _, _ => none
  | n + 1, v0, v1, v2 =>
    chk (isO M 6 v0) <|
    if (mI M v0 10) ≤ v2 then (
      some (-1 : Int32)
      ) else (
      bnd (mR M v0 3) fun o4 =>
      chk (isO M 100 o4) <|
      chk (inB v2 (mLn M o4)) <|
      obd (f_X9_has (mI M o4 (v2).toNatClampNeg) v1 M) fun r9 =>
      if r9 = 0 then (
        bnd (v2 + (1 : Int32)) fun x12 =>
        f_X6_soonestInside_2 M n v0 v1 x12
        ) else (
        bnd (mR M v0 2) fun o14 =>
        chk (isO M 100 o14) <|
        chk (inB v2 (mLn M o14)) <|
        some (mI M o14 (v2).toNatClampNeg)
        )
      )
def f_X6_soonestInside (n : Nat) (o : Nat) (a1 : Int32) (M : Mem) : Option Int32 :=
  f_X6_soonestInside_2 M n o a1 (0 : Int32)
theorem cd_X6_soonestInside : (yX6_soonestInside.cls ≠ "java/lang/invoke/MethodHandle" ∧ yX6_soonestInside.cls ≠ "java/lang/invoke/VarHandle") ∧ (parseMethodDescriptor yX6_soonestInside.desc).map (fun d => d.parameters.length) = some 1 := ⟨⟨by decide +kernel, by decide +kernel⟩, by decide +kernel⟩
section
variable {p : Program} {l : Launch} {e : Env} {R : Room} {s : State} {m : MethodId} {args : Array Value} {below : List Frame} {meth : Method} {c : Code} {G : Gam} {M0 : Mem}
theorem l_X6_soonestInside_2 {M : Mem} {rv : Int32} (X : Cx p R s m args c G M0 cX6_soonestInside yX6_soonestInside.cls 3 1 21) (hr : meth.sig.returnType = (some .int)) (hlk : meth.locks = false) (hnm : meth.name = "soonestInside") : ∀ {n : Nat} (v0 : Nat) (v1 : Int32) (v2 : Int32), f_X6_soonestInside_2 M n v0 v1 v2 = some rv → Sg p l e R s m args below meth c (Qm below G args s (some (.int rv)) M0 M) G M0 3 2 [(0, .ref (gB G + v0)), (1, .int v1), (2, .int v2)] [] M := by
  intro n
  induction n with
  | zero => intro v0 v1 v2 hf; exact (pk_none hf).elim
  | succ n ih =>
    intro v0 v1 v2 hf
    rw [f_X6_soonestInside_2] at hf
    refine s_iload_n X 2 dX6_soonestInside_2 rfl rfl ?_
    refine s_aload_n X 0 dX6_soonestInside_3 rfl rfl ?_
    obtain ⟨h1, hf⟩ := pk_chk hf
    refine s_getI X (ci := 6) (k := 10) rfl (Nat.le_of_ble_eq_true rfl) h1 wd532 (fun _ _ _ => rfl) dX6_soonestInside_4 ?_
    have hs2 := pk_ite hf
    clear hf
    refine s_icmp_ge X (tgt := 36) dX6_soonestInside_7 rfl (fun c3 => ?_) (fun c3 => ?_)
    · have hf := hs2.1 c3
      refine s_iconst X (v := (-1 : Int32)) dX6_soonestInside_36 rfl ?_
      cases hf
      exact s_iret X hr hlk dX6_soonestInside_37
    · have hf := hs2.2 c3
      refine s_aload_n X 0 dX6_soonestInside_10 rfl rfl ?_
      obtain ⟨o4, e5, hf⟩ := pk_bnd hf
      obtain ⟨h6, hf⟩ := pk_chk hf
      refine s_getR X (ci := 6) (k := 3) rfl (Nat.le_of_ble_eq_true rfl) h1 wd525 (fun _ _ _ => rfl) (e5 ▸ h6) dX6_soonestInside_11 (e5 ▸ ?_)
      refine s_iload_n X 2 dX6_soonestInside_14 rfl rfl ?_
      obtain ⟨h7, hf⟩ := pk_chk hf
      refine s_iald X h6 h7 dX6_soonestInside_15 ?_
      refine s_iload_n X 1 dX6_soonestInside_16 rfl rfl ?_
      obtain ⟨r9, hc8, hf⟩ := pk_obd hf
      refine s_callSN X (k_X9_has G hc8) (host := "QuorumGate") ns_13 wd712 wd713 wd126 cd_X9_has ⟨Nat.le_of_ble_eq_true rfl, Nat.le_of_ble_eq_true rfl⟩ (Nat.le_of_ble_eq_true rfl) dX6_soonestInside_17 ?_
      have hs10 := pk_ite hf
      clear hf
      refine s_if_eq X (tgt := 30) dX6_soonestInside_20 rfl (fun c11 => ?_) (fun c11 => ?_)
      · have hf := hs10.1 c11
        obtain ⟨x12, e13, hf⟩ := pk_bnd hf
        refine s_iinc X (vs' := [(0, .ref (gB G + v0)), (1, .int v1), (2, .int x12)]) 2 dX6_soonestInside_30 rfl (v := x12) e13.symm (Nat.le_of_ble_eq_true rfl) [1, 2, 0] rfl ?_
        refine s_goto X (tgt := 2) dX6_soonestInside_33 rfl ?_
        exact ih _ _ _ hf
      · have hf := hs10.2 c11
        refine s_aload_n X 0 dX6_soonestInside_23 rfl rfl ?_
        obtain ⟨o14, e15, hf⟩ := pk_bnd hf
        obtain ⟨h16, hf⟩ := pk_chk hf
        refine s_getR X (ci := 6) (k := 2) rfl (Nat.le_of_ble_eq_true rfl) h1 wd524 (fun _ _ _ => rfl) (e15 ▸ h16) dX6_soonestInside_24 (e15 ▸ ?_)
        refine s_iload_n X 2 dX6_soonestInside_27 rfl rfl ?_
        obtain ⟨h17, hf⟩ := pk_chk hf
        refine s_iald X h16 h17 dX6_soonestInside_28 ?_
        cases hf
        exact s_iret X hr hlk dX6_soonestInside_29
end
theorem k_X6_soonestInside (G : Gam) {n : Nat} {o : Nat} {a1 : Int32} {M : Mem} {rv : Int32} (hf : f_X6_soonestInside n o a1 M = some rv) : Kt yX6_soonestInside cX6_soonestInside 3 (some .int) 1 21 G [.ref (gB G + o), .int a1] M M (some (.int rv)) := by
  refine Kt.of (by decide) (Nat.le_of_ble_eq_true rfl) ?_
  intro p l e R s m args below meth c X hr hlk hnm
  refine s_drop [0, 1] (vs' := [(0, .ref (gB G + o)), (1, .int a1)]) rfl ?_
  rw [f_X6_soonestInside] at hf
  refine s_iconst X (v := (0 : Int32)) dX6_soonestInside_0 rfl ?_
  refine s_istore_n X (vs' := [(0, .ref (gB G + o)), (1, .int a1), (2, .int (0 : Int32))]) dX6_soonestInside_1 rfl (Nat.le_of_ble_eq_true rfl) [1, 2, 0] rfl ?_
  exact l_X6_soonestInside_2 X hr hlk hnm _ _ _ hf
theorem dX9_soonest_0 : decode cX9_soonest 0 = .ok (.aload_n 0, 1) := dk_42 (by decide +kernel)
theorem dX9_soonest_1 : decode cX9_soonest 1 = .ok (.getfield 10, 3) := dk_180 (x := 0) (y := 10) (by decide +kernel) rfl
theorem dX9_soonest_4 : decode cX9_soonest 4 = .ok (.iload_n 1, 1) := dk_27 (by decide +kernel)
theorem dX9_soonest_5 : decode cX9_soonest 5 = .ok (.invokevirtual 71, 3) := dk_182 (x := 0) (y := 71) (by decide +kernel) rfl
theorem dX9_soonest_8 : decode cX9_soonest 8 = .ok (.ifCond .eq 14, 3) := dk_153 (x := 0) (y := 14) (by decide +kernel) rfl
theorem dX9_soonest_11 : decode cX9_soonest 11 = .ok (.iload_n 2, 1) := dk_28 (by decide +kernel)
theorem dX9_soonest_12 : decode cX9_soonest 12 = .ok (.iconst 1, 1) := dk_4 (by decide +kernel)
theorem dX9_soonest_13 : decode cX9_soonest 13 = .ok (.if_icmp .lt 9, 3) := dk_161 (x := 0) (y := 9) (by decide +kernel) rfl
theorem dX9_soonest_16 : decode cX9_soonest 16 = .ok (.iload_n 2, 1) := dk_28 (by decide +kernel)
theorem dX9_soonest_17 : decode cX9_soonest 17 = .ok (.bipush 40, 2) := dk_16 (x := 40) (by decide +kernel) rfl
theorem dX9_soonest_19 : decode cX9_soonest 19 = .ok (.if_icmp .le 5, 3) := dk_164 (x := 0) (y := 5) (by decide +kernel) rfl
theorem dX9_soonest_22 : decode cX9_soonest 22 = .ok (.iconst (-1), 1) := dk_2 (by decide +kernel)
theorem dX9_soonest_23 : decode cX9_soonest 23 = .ok (.ireturn, 1) := dk_172 (by decide +kernel)
theorem dX9_soonest_24 : decode cX9_soonest 24 = .ok (.aload_n 0, 1) := dk_42 (by decide +kernel)
theorem dX9_soonest_25 : decode cX9_soonest 25 = .ok (.getfield 47, 3) := dk_180 (x := 0) (y := 47) (by decide +kernel) rfl
theorem dX9_soonest_28 : decode cX9_soonest 28 = .ok (.aload_n 0, 1) := dk_42 (by decide +kernel)
theorem dX9_soonest_29 : decode cX9_soonest 29 = .ok (.getfield 28, 3) := dk_180 (x := 0) (y := 28) (by decide +kernel) rfl
theorem dX9_soonest_32 : decode cX9_soonest 32 = .ok (.iconst 0, 1) := dk_3 (by decide +kernel)
theorem dX9_soonest_33 : decode cX9_soonest 33 = .ok (.iload_n 2, 1) := dk_28 (by decide +kernel)
theorem dX9_soonest_34 : decode cX9_soonest 34 = .ok (.invokevirtual 314, 3) := dk_182 (x := 1) (y := 58) (by decide +kernel) rfl
theorem dX9_soonest_37 : decode cX9_soonest 37 = .ok (.aload_n 0, 1) := dk_42 (by decide +kernel)
theorem dX9_soonest_38 : decode cX9_soonest 38 = .ok (.getfield 47, 3) := dk_180 (x := 0) (y := 47) (by decide +kernel) rfl
theorem dX9_soonest_41 : decode cX9_soonest 41 = .ok (.iload_n 1, 1) := dk_27 (by decide +kernel)
theorem dX9_soonest_42 : decode cX9_soonest 42 = .ok (.invokevirtual 338, 3) := dk_182 (x := 1) (y := 82) (by decide +kernel) rfl
theorem dX9_soonest_45 : decode cX9_soonest 45 = .ok (.ireturn, 1) := dk_172 (by decide +kernel)
def f_X9_soonest (n : Nat) (o : Nat) (a1 : Int32) (a2 : Int32) (M : Mem) : Option (Int32 × Mem) :=
  chk (isO M 9 o) <|
  bnd (mR M o 0) fun o2 =>
  chk (isO M 7 o2) <|
  obd (f_X7_isNode o2 a1 M) fun r6 =>
  if r6 = 0 then (
    some ((-1 : Int32), M)
    ) else (
    if a2 < (1 : Int32) then (
      some ((-1 : Int32), M)
      ) else (
      if a2 ≤ (40 : Int32) then (
        bnd (mR M o 5) fun o13 =>
        chk (isO M 6 o13) <|
        bnd (mR M o 2) fun o16 =>
        chk (isO M 2 o16) <|
        obd (f_X6_run n o13 o16 (0 : Int32) a2 M) fun M20 =>
        chk (isO M20 9 o) <|
        bnd (mR M20 o 5) fun o22 =>
        chk (isO M20 6 o22) <|
        obd (f_X6_soonestInside n o22 a1 M20) fun r26 =>
        some (r26, M20)
        ) else (
        some ((-1 : Int32), M)
        )
      )
    )
theorem cd_X9_soonest : (yX9_soonest.cls ≠ "java/lang/invoke/MethodHandle" ∧ yX9_soonest.cls ≠ "java/lang/invoke/VarHandle") ∧ (parseMethodDescriptor yX9_soonest.desc).map (fun d => d.parameters.length) = some 2 := ⟨⟨by decide +kernel, by decide +kernel⟩, by decide +kernel⟩
theorem k_X9_soonest (G : Gam) {n : Nat} {o : Nat} {a1 : Int32} {a2 : Int32} {M : Mem} {rv : (Int32 × Mem)} (hf : f_X9_soonest n o a1 a2 M = some rv) : Kt yX9_soonest cX9_soonest 3 (some .int) 8 201 G [.ref (gB G + o), .int a1, .int a2] M rv.2 (some (.int rv.1)) := by
  refine Kt.of (by decide) (Nat.le_of_ble_eq_true rfl) ?_
  intro p l e R s m args below meth c X hr hlk hnm
  refine s_drop [0, 1, 2] (vs' := [(0, .ref (gB G + o)), (1, .int a1), (2, .int a2)]) rfl ?_
  rw [f_X9_soonest] at hf
  refine s_aload_n X 0 dX9_soonest_0 rfl rfl ?_
  obtain ⟨h1, hf⟩ := pk_chk hf
  obtain ⟨o2, e3, hf⟩ := pk_bnd hf
  obtain ⟨h4, hf⟩ := pk_chk hf
  refine s_getR X (ci := 9) (k := 0) rfl (Nat.le_of_ble_eq_true rfl) h1 wd627 (fun _ _ _ => rfl) (e3 ▸ h4) dX9_soonest_1 (e3 ▸ ?_)
  refine s_iload_n X 1 dX9_soonest_4 rfl rfl ?_
  obtain ⟨r6, hc5, hf⟩ := pk_obd hf
  refine s_callV X (ci := 7) (k_X7_isNode G hc5) rfl h4 wd699 wd700 wd701 wd702 wd127 cd_X7_isNode ⟨Nat.le_of_ble_eq_true rfl, Nat.le_of_ble_eq_true rfl⟩ (Nat.le_of_ble_eq_true rfl) dX9_soonest_5 ?_
  have hs7 := pk_ite hf
  clear hf
  refine s_if_eq X (tgt := 22) dX9_soonest_8 rfl (fun c8 => ?_) (fun c8 => ?_)
  · have hf := hs7.1 c8
    refine s_iconst X (v := (-1 : Int32)) dX9_soonest_22 rfl ?_
    cases hf
    exact s_iret X hr hlk dX9_soonest_23
  · have hf := hs7.2 c8
    refine s_iload_n X 2 dX9_soonest_11 rfl rfl ?_
    refine s_iconst X (v := (1 : Int32)) dX9_soonest_12 rfl ?_
    have hs9 := pk_ite hf
    clear hf
    refine s_icmp_lt X (tgt := 22) dX9_soonest_13 rfl (fun c10 => ?_) (fun c10 => ?_)
    · have hf := hs9.1 c10
      refine s_iconst X (v := (-1 : Int32)) dX9_soonest_22 rfl ?_
      cases hf
      exact s_iret X hr hlk dX9_soonest_23
    · have hf := hs9.2 c10
      refine s_iload_n X 2 dX9_soonest_16 rfl rfl ?_
      refine s_bipush X (v := (40 : Int32)) dX9_soonest_17 rfl ?_
      have hs11 := pk_ite hf
      clear hf
      refine s_icmp_le X (tgt := 24) dX9_soonest_19 rfl (fun c12 => ?_) (fun c12 => ?_)
      · have hf := hs11.1 c12
        refine s_aload_n X 0 dX9_soonest_24 rfl rfl ?_
        obtain ⟨o13, e14, hf⟩ := pk_bnd hf
        obtain ⟨h15, hf⟩ := pk_chk hf
        refine s_getR X (ci := 9) (k := 5) rfl (Nat.le_of_ble_eq_true rfl) h1 wd632 (fun _ _ _ => rfl) (e14 ▸ h15) dX9_soonest_25 (e14 ▸ ?_)
        refine s_aload_n X 0 dX9_soonest_28 rfl rfl ?_
        obtain ⟨o16, e17, hf⟩ := pk_bnd hf
        obtain ⟨h18, hf⟩ := pk_chk hf
        refine s_getR X (ci := 9) (k := 2) rfl (Nat.le_of_ble_eq_true rfl) h1 wd629 (fun _ _ _ => rfl) (e17 ▸ h18) dX9_soonest_29 (e17 ▸ ?_)
        refine s_iconst X (v := (0 : Int32)) dX9_soonest_32 rfl ?_
        refine s_iload_n X 2 dX9_soonest_33 rfl rfl ?_
        obtain ⟨M20, hc19, hf⟩ := pk_obd hf
        refine s_callV X (ci := 6) (k_X6_run G hc19) rfl h15 wd1253 wd1254 wd1255 wd1256 wd135 cd_X6_run ⟨Nat.le_of_ble_eq_true rfl, Nat.le_of_ble_eq_true rfl⟩ (Nat.le_of_ble_eq_true rfl) dX9_soonest_34 ?_
        refine s_aload_n X 0 dX9_soonest_37 rfl rfl ?_
        obtain ⟨h21, hf⟩ := pk_chk hf
        obtain ⟨o22, e23, hf⟩ := pk_bnd hf
        obtain ⟨h24, hf⟩ := pk_chk hf
        refine s_getR X (ci := 9) (k := 5) rfl (Nat.le_of_ble_eq_true rfl) h21 wd632 (fun _ _ _ => rfl) (e23 ▸ h24) dX9_soonest_38 (e23 ▸ ?_)
        refine s_iload_n X 1 dX9_soonest_41 rfl rfl ?_
        obtain ⟨r26, hc25, hf⟩ := pk_obd hf
        refine s_callV X (ci := 6) (k_X6_soonestInside G hc25) rfl h24 wd1369 wd1370 wd1371 wd1372 wd135 cd_X6_soonestInside ⟨Nat.le_of_ble_eq_true rfl, Nat.le_of_ble_eq_true rfl⟩ (Nat.le_of_ble_eq_true rfl) dX9_soonest_42 ?_
        cases hf
        exact s_iret X hr hlk dX9_soonest_45
      · have hf := hs11.2 c12
        refine s_iconst X (v := (-1 : Int32)) dX9_soonest_22 rfl ?_
        cases hf
        exact s_iret X hr hlk dX9_soonest_23
theorem dX10_soonest_0 : decode cX10_soonest 0 = .ok (.aload_n 0, 1) := dk_42 (by decide +kernel)
theorem dX10_soonest_1 : decode cX10_soonest 1 = .ok (.iload_n 1, 1) := dk_27 (by decide +kernel)
theorem dX10_soonest_2 : decode cX10_soonest 2 = .ok (.invokevirtual 76, 3) := dk_182 (x := 0) (y := 76) (by decide +kernel) rfl
theorem dX10_soonest_5 : decode cX10_soonest 5 = .ok (.ifCond .eq 13, 3) := dk_153 (x := 0) (y := 13) (by decide +kernel) rfl
theorem dX10_soonest_8 : decode cX10_soonest 8 = .ok (.iload_n 2, 1) := dk_28 (by decide +kernel)
theorem dX10_soonest_9 : decode cX10_soonest 9 = .ok (.iconst 1, 1) := dk_4 (by decide +kernel)
theorem dX10_soonest_10 : decode cX10_soonest 10 = .ok (.bipush 40, 2) := dk_16 (x := 40) (by decide +kernel) rfl
theorem dX10_soonest_12 : decode cX10_soonest 12 = .ok (.invokestatic 49, 3) := dk_184 (x := 0) (y := 49) (by decide +kernel) rfl
theorem dX10_soonest_15 : decode cX10_soonest 15 = .ok (.ifCond .ne 5, 3) := dk_154 (x := 0) (y := 5) (by decide +kernel) rfl
theorem dX10_soonest_18 : decode cX10_soonest 18 = .ok (.iconst (-1), 1) := dk_2 (by decide +kernel)
theorem dX10_soonest_19 : decode cX10_soonest 19 = .ok (.ireturn, 1) := dk_172 (by decide +kernel)
theorem dX10_soonest_20 : decode cX10_soonest 20 = .ok (.aload_n 0, 1) := dk_42 (by decide +kernel)
theorem dX10_soonest_21 : decode cX10_soonest 21 = .ok (.iload_n 2, 1) := dk_28 (by decide +kernel)
theorem dX10_soonest_22 : decode cX10_soonest 22 = .ok (.iload_n 1, 1) := dk_27 (by decide +kernel)
theorem dX10_soonest_23 : decode cX10_soonest 23 = .ok (.invokevirtual 372, 3) := dk_182 (x := 1) (y := 116) (by decide +kernel) rfl
theorem dX10_soonest_26 : decode cX10_soonest 26 = .ok (.aload_n 0, 1) := dk_42 (by decide +kernel)
theorem dX10_soonest_27 : decode cX10_soonest 27 = .ok (.getfield 357, 3) := dk_180 (x := 1) (y := 101) (by decide +kernel) rfl
theorem dX10_soonest_30 : decode cX10_soonest 30 = .ok (.ireturn, 1) := dk_172 (by decide +kernel)
def f_X10_soonest (n : Nat) (o : Nat) (a1 : Int32) (a2 : Int32) (M : Mem) : Option (Int32 × Mem) :=
  chk (isO M 10 o) <|
  obd (f_X10_isNode o a1 M) fun r3 =>
  if r3 = 0 then (
    some ((-1 : Int32), M)
    ) else (
    obd (f_X10_isIn a2 (1 : Int32) (40 : Int32) M) fun r7 =>
    if r7 = 0 then (
      some ((-1 : Int32), M)
      ) else (
      obd (f_X10_search n o a2 a1 M) fun M11 =>
      chk (isO M11 10 o) <|
      some ((mI M11 o 18), M11)
      )
    )
theorem cd_X10_soonest : (yX10_soonest.cls ≠ "java/lang/invoke/MethodHandle" ∧ yX10_soonest.cls ≠ "java/lang/invoke/VarHandle") ∧ (parseMethodDescriptor yX10_soonest.desc).map (fun d => d.parameters.length) = some 2 := ⟨⟨by decide +kernel, by decide +kernel⟩, by decide +kernel⟩
theorem k_X10_soonest (G : Gam) {n : Nat} {o : Nat} {a1 : Int32} {a2 : Int32} {M : Mem} {rv : (Int32 × Mem)} (hf : f_X10_soonest n o a1 a2 M = some rv) : Kt yX10_soonest cX10_soonest 3 (some .int) 9 212 G [.ref (gB G + o), .int a1, .int a2] M rv.2 (some (.int rv.1)) := by
  refine Kt.of (by decide) (Nat.le_of_ble_eq_true rfl) ?_
  intro p l e R s m args below meth c X hr hlk hnm
  refine s_drop [0, 1, 2] (vs' := [(0, .ref (gB G + o)), (1, .int a1), (2, .int a2)]) rfl ?_
  rw [f_X10_soonest] at hf
  refine s_aload_n X 0 dX10_soonest_0 rfl rfl ?_
  refine s_iload_n X 1 dX10_soonest_1 rfl rfl ?_
  obtain ⟨h1, hf⟩ := pk_chk hf
  obtain ⟨r3, hc2, hf⟩ := pk_obd hf
  refine s_callV X (ci := 10) (k_X10_isNode G hc2) rfl h1 wd1554 wd1556 wd53 wd1557 wd138 cd_X10_isNode ⟨Nat.le_of_ble_eq_true rfl, Nat.le_of_ble_eq_true rfl⟩ (Nat.le_of_ble_eq_true rfl) dX10_soonest_2 ?_
  have hs4 := pk_ite hf
  clear hf
  refine s_if_eq X (tgt := 18) dX10_soonest_5 rfl (fun c5 => ?_) (fun c5 => ?_)
  · have hf := hs4.1 c5
    refine s_iconst X (v := (-1 : Int32)) dX10_soonest_18 rfl ?_
    cases hf
    exact s_iret X hr hlk dX10_soonest_19
  · have hf := hs4.2 c5
    refine s_iload_n X 2 dX10_soonest_8 rfl rfl ?_
    refine s_iconst X (v := (1 : Int32)) dX10_soonest_9 rfl ?_
    refine s_bipush X (v := (40 : Int32)) dX10_soonest_10 rfl ?_
    obtain ⟨r7, hc6, hf⟩ := pk_obd hf
    refine s_callS X (k_X10_isIn G hc6) wd1520 wd1521 wd1522 wd138 cd_X10_isIn ⟨Nat.le_of_ble_eq_true rfl, Nat.le_of_ble_eq_true rfl⟩ (Nat.le_of_ble_eq_true rfl) dX10_soonest_12 ?_
    have hs8 := pk_ite hf
    clear hf
    refine s_if_ne X (tgt := 20) dX10_soonest_15 rfl (fun c9 => ?_) (fun c9 => ?_)
    · have hf := hs8.2 c9
      refine s_aload_n X 0 dX10_soonest_20 rfl rfl ?_
      refine s_iload_n X 2 dX10_soonest_21 rfl rfl ?_
      refine s_iload_n X 1 dX10_soonest_22 rfl rfl ?_
      obtain ⟨M11, hc10, hf⟩ := pk_obd hf
      refine s_callV X (ci := 10) (k_X10_search G hc10) rfl h1 wd1990 wd1992 wd115 wd1993 wd138 cd_X10_search ⟨Nat.le_of_ble_eq_true rfl, Nat.le_of_ble_eq_true rfl⟩ (Nat.le_of_ble_eq_true rfl) dX10_soonest_23 ?_
      refine s_aload_n X 0 dX10_soonest_26 rfl rfl ?_
      obtain ⟨h12, hf⟩ := pk_chk hf
      refine s_getI X (ci := 10) (k := 18) rfl (Nat.le_of_ble_eq_true rfl) h12 wd1458 (fun _ _ _ => rfl) dX10_soonest_27 ?_
      cases hf
      exact s_iret X hr hlk dX10_soonest_30
    · have hf := hs8.1 c9
      refine s_iconst X (v := (-1 : Int32)) dX10_soonest_18 rfl ?_
      cases hf
      exact s_iret X hr hlk dX10_soonest_19
theorem dX2_letAllAsk_0 : decode cX2_letAllAsk 0 = .ok (.iconst 0, 1) := dk_3 (by decide +kernel)
theorem dX2_letAllAsk_1 : decode cX2_letAllAsk 1 = .ok (.istore_n 1, 1) := dk_60 (by decide +kernel)
theorem dX2_letAllAsk_2 : decode cX2_letAllAsk 2 = .ok (.iload_n 1, 1) := dk_27 (by decide +kernel)
theorem dX2_letAllAsk_3 : decode cX2_letAllAsk 3 = .ok (.aload_n 0, 1) := dk_42 (by decide +kernel)
theorem dX2_letAllAsk_4 : decode cX2_letAllAsk 4 = .ok (.getfield 43, 3) := dk_180 (x := 0) (y := 43) (by decide +kernel) rfl
theorem dX2_letAllAsk_7 : decode cX2_letAllAsk 7 = .ok (.getfield 94, 3) := dk_180 (x := 0) (y := 94) (by decide +kernel) rfl
theorem dX2_letAllAsk_10 : decode cX2_letAllAsk 10 = .ok (.if_icmp .ge 22, 3) := dk_162 (x := 0) (y := 22) (by decide +kernel) rfl
theorem dX2_letAllAsk_13 : decode cX2_letAllAsk 13 = .ok (.aload_n 0, 1) := dk_42 (by decide +kernel)
theorem dX2_letAllAsk_14 : decode cX2_letAllAsk 14 = .ok (.iload_n 1, 1) := dk_27 (by decide +kernel)
theorem dX2_letAllAsk_15 : decode cX2_letAllAsk 15 = .ok (.invokevirtual 137, 3) := dk_182 (x := 0) (y := 137) (by decide +kernel) rfl
theorem dX2_letAllAsk_18 : decode cX2_letAllAsk 18 = .ok (.ifCond .eq 8, 3) := dk_153 (x := 0) (y := 8) (by decide +kernel) rfl
theorem dX2_letAllAsk_21 : decode cX2_letAllAsk 21 = .ok (.aload_n 0, 1) := dk_42 (by decide +kernel)
theorem dX2_letAllAsk_22 : decode cX2_letAllAsk 22 = .ok (.iload_n 1, 1) := dk_27 (by decide +kernel)
theorem dX2_letAllAsk_23 : decode cX2_letAllAsk 23 = .ok (.invokevirtual 141, 3) := dk_182 (x := 0) (y := 141) (by decide +kernel) rfl
theorem dX2_letAllAsk_26 : decode cX2_letAllAsk 26 = .ok (.iinc 1 1, 3) := dk_132 (x := 1) (y := 1) (by decide +kernel) rfl
theorem dX2_letAllAsk_29 : decode cX2_letAllAsk 29 = .ok (.goto (-27), 3) := dk_167 (x := 255) (y := 229) (by decide +kernel) rfl
theorem dX2_letAllAsk_32 : decode cX2_letAllAsk 32 = .ok (.return_, 1) := dk_177 (by decide +kernel)
def f_X2_letAllAsk_2 : Nat → Nat → Int32 → Mem → Option Mem
  | 0, _, _, _ => none
  | n + 1, v0, v1, M =>
    chk (isO M 2 v0) <|
    bnd (mR M v0 0) fun o2 =>
    chk (isO M 7 o2) <|
    if (mI M o2 3) ≤ v1 then (
      some M
      ) else (
      obd (f_X2_mayAsk v0 v1 M) fun r8 =>
      if r8 = 0 then (
        bnd (v1 + (1 : Int32)) fun x11 =>
        f_X2_letAllAsk_2 n v0 x11 M
        ) else (
        obd (f_X2_startAsking n v0 v1 M) fun M14 =>
        bnd (v1 + (1 : Int32)) fun x15 =>
        f_X2_letAllAsk_2 n v0 x15 M14
        )
      )
def f_X2_letAllAsk (n : Nat) (o : Nat) (M : Mem) : Option Mem :=
  f_X2_letAllAsk_2 n o (0 : Int32) M
theorem cd_X2_letAllAsk : (yX2_letAllAsk.cls ≠ "java/lang/invoke/MethodHandle" ∧ yX2_letAllAsk.cls ≠ "java/lang/invoke/VarHandle") ∧ (parseMethodDescriptor yX2_letAllAsk.desc).map (fun d => d.parameters.length) = some 0 := ⟨⟨by decide +kernel, by decide +kernel⟩, by decide +kernel⟩
section
variable {p : Program} {l : Launch} {e : Env} {R : Room} {s : State} {m : MethodId} {args : Array Value} {below : List Frame} {meth : Method} {c : Code} {G : Gam} {M0 : Mem}
theorem l_X2_letAllAsk_2 {rv : Mem} (X : Cx p R s m args c G M0 cX2_letAllAsk yX2_letAllAsk.cls 2 5 122) (hr : meth.sig.returnType = none) (hlk : meth.locks = false) (hnm : meth.name = "letAllAsk") : ∀ {n : Nat} (v0 : Nat) (v1 : Int32) (M : Mem), f_X2_letAllAsk_2 n v0 v1 M = some rv → Sg p l e R s m args below meth c (Qm below G args s none M0 rv) G M0 2 2 [(0, .ref (gB G + v0)), (1, .int v1)] [] M := by
  intro n
  induction n with
  | zero => intro v0 v1 M hf; exact (pk_none hf).elim
  | succ n ih =>
    intro v0 v1 M hf
    rw [f_X2_letAllAsk_2] at hf
    refine s_iload_n X 1 dX2_letAllAsk_2 rfl rfl ?_
    refine s_aload_n X 0 dX2_letAllAsk_3 rfl rfl ?_
    obtain ⟨h1, hf⟩ := pk_chk hf
    obtain ⟨o2, e3, hf⟩ := pk_bnd hf
    obtain ⟨h4, hf⟩ := pk_chk hf
    refine s_getR X (ci := 2) (k := 0) rfl (Nat.le_of_ble_eq_true rfl) h1 wd416 (fun _ _ _ => rfl) (e3 ▸ h4) dX2_letAllAsk_4 (e3 ▸ ?_)
    refine s_getI X (ci := 7) (k := 3) rfl (Nat.le_of_ble_eq_true rfl) h4 wd166 (fun _ _ _ => rfl) dX2_letAllAsk_7 ?_
    have hs5 := pk_ite hf
    clear hf
    refine s_icmp_ge X (tgt := 32) dX2_letAllAsk_10 rfl (fun c6 => ?_) (fun c6 => ?_)
    · have hf := hs5.1 c6
      cases hf
      exact s_vret X hr hlk dX2_letAllAsk_32
    · have hf := hs5.2 c6
      refine s_aload_n X 0 dX2_letAllAsk_13 rfl rfl ?_
      refine s_iload_n X 1 dX2_letAllAsk_14 rfl rfl ?_
      obtain ⟨r8, hc7, hf⟩ := pk_obd hf
      refine s_callV X (ci := 2) (k_X2_mayAsk G hc7) rfl h1 wd1112 wd932 wd933 wd934 wd130 cd_X2_mayAsk ⟨Nat.le_of_ble_eq_true rfl, Nat.le_of_ble_eq_true rfl⟩ (Nat.le_of_ble_eq_true rfl) dX2_letAllAsk_15 ?_
      have hs9 := pk_ite hf
      clear hf
      refine s_if_eq X (tgt := 26) dX2_letAllAsk_18 rfl (fun c10 => ?_) (fun c10 => ?_)
      · have hf := hs9.1 c10
        obtain ⟨x11, e12, hf⟩ := pk_bnd hf
        refine s_iinc X (vs' := [(0, .ref (gB G + v0)), (1, .int x11)]) 1 dX2_letAllAsk_26 rfl (v := x11) e12.symm (Nat.le_of_ble_eq_true rfl) [1, 0] rfl ?_
        refine s_goto X (tgt := 2) dX2_letAllAsk_29 rfl ?_
        exact ih _ _ _ hf
      · have hf := hs9.2 c10
        refine s_aload_n X 0 dX2_letAllAsk_21 rfl rfl ?_
        refine s_iload_n X 1 dX2_letAllAsk_22 rfl rfl ?_
        obtain ⟨M14, hc13, hf⟩ := pk_obd hf
        refine s_callV X (ci := 2) (k_X2_startAsking G hc13) rfl h1 wd1113 wd937 wd938 wd939 wd130 cd_X2_startAsking ⟨Nat.le_of_ble_eq_true rfl, Nat.le_of_ble_eq_true rfl⟩ (Nat.le_of_ble_eq_true rfl) dX2_letAllAsk_23 ?_
        obtain ⟨x15, e16, hf⟩ := pk_bnd hf
        refine s_iinc X (vs' := [(0, .ref (gB G + v0)), (1, .int x15)]) 1 dX2_letAllAsk_26 rfl (v := x15) e16.symm (Nat.le_of_ble_eq_true rfl) [1, 0] rfl ?_
        refine s_goto X (tgt := 2) dX2_letAllAsk_29 rfl ?_
        exact ih _ _ _ hf
end
theorem k_X2_letAllAsk (G : Gam) {n : Nat} {o : Nat} {M : Mem} {rv : Mem} (hf : f_X2_letAllAsk n o M = some rv) : Kt yX2_letAllAsk cX2_letAllAsk 2 none 5 122 G [.ref (gB G + o)] M rv none := by
  refine Kt.of (by decide) (Nat.le_of_ble_eq_true rfl) ?_
  intro p l e R s m args below meth c X hr hlk hnm
  refine s_drop [0] (vs' := [(0, .ref (gB G + o))]) rfl ?_
  rw [f_X2_letAllAsk] at hf
  refine s_iconst X (v := (0 : Int32)) dX2_letAllAsk_0 rfl ?_
  refine s_istore_n X (vs' := [(0, .ref (gB G + o)), (1, .int (0 : Int32))]) dX2_letAllAsk_1 rfl (Nat.le_of_ble_eq_true rfl) [1, 0] rfl ?_
  exact l_X2_letAllAsk_2 X hr hlk hnm _ _ _ hf
theorem dX9_newEntries_0 : decode cX9_newEntries 0 = .ok (.aload_n 0, 1) := dk_42 (by decide +kernel)
theorem dX9_newEntries_1 : decode cX9_newEntries 1 = .ok (.getfield 32, 3) := dk_180 (x := 0) (y := 32) (by decide +kernel) rfl
theorem dX9_newEntries_4 : decode cX9_newEntries 4 = .ok (.getfield 99, 3) := dk_180 (x := 0) (y := 99) (by decide +kernel) rfl
theorem dX9_newEntries_7 : decode cX9_newEntries 7 = .ok (.iload_n 1, 1) := dk_27 (by decide +kernel)
theorem dX9_newEntries_8 : decode cX9_newEntries 8 = .ok (.aaload, 1) := dk_50 (by decide +kernel)
theorem dX9_newEntries_9 : decode cX9_newEntries 9 = .ok (.getfield 221, 3) := dk_180 (x := 0) (y := 221) (by decide +kernel) rfl
theorem dX9_newEntries_12 : decode cX9_newEntries 12 = .ok (.aload_n 0, 1) := dk_42 (by decide +kernel)
theorem dX9_newEntries_13 : decode cX9_newEntries 13 = .ok (.getfield 28, 3) := dk_180 (x := 0) (y := 28) (by decide +kernel) rfl
theorem dX9_newEntries_16 : decode cX9_newEntries 16 = .ok (.getfield 99, 3) := dk_180 (x := 0) (y := 99) (by decide +kernel) rfl
theorem dX9_newEntries_19 : decode cX9_newEntries 19 = .ok (.iload_n 1, 1) := dk_27 (by decide +kernel)
theorem dX9_newEntries_20 : decode cX9_newEntries 20 = .ok (.aaload, 1) := dk_50 (by decide +kernel)
theorem dX9_newEntries_21 : decode cX9_newEntries 21 = .ok (.getfield 221, 3) := dk_180 (x := 0) (y := 221) (by decide +kernel) rfl
theorem dX9_newEntries_24 : decode cX9_newEntries 24 = .ok (.isub, 1) := dk_100 (by decide +kernel)
theorem dX9_newEntries_25 : decode cX9_newEntries 25 = .ok (.ireturn, 1) := dk_172 (by decide +kernel)
def f_X9_newEntries (o : Nat) (a1 : Int32) (M : Mem) : Option Int32 :=
  chk (isO M 9 o) <|
  bnd (mR M o 3) fun o2 =>
  chk (isO M 2 o2) <|
  bnd (mR M o2 2) fun o5 =>
  chk (isO M 102 o5) <|
  chk (inB a1 (mLn M o5)) <|
  bnd (mR M o5 (a1).toNatClampNeg) fun o9 =>
  chk (isO M 4 o9) <|
  bnd (mR M o 2) fun o12 =>
  chk (isO M 2 o12) <|
  bnd (mR M o12 2) fun o15 =>
  chk (isO M 102 o15) <|
  chk (inB a1 (mLn M o15)) <|
  bnd (mR M o15 (a1).toNatClampNeg) fun o19 =>
  chk (isO M 4 o19) <|
  some ((mI M o9 11) - (mI M o19 11))
theorem cd_X9_newEntries : (yX9_newEntries.cls ≠ "java/lang/invoke/MethodHandle" ∧ yX9_newEntries.cls ≠ "java/lang/invoke/VarHandle") ∧ (parseMethodDescriptor yX9_newEntries.desc).map (fun d => d.parameters.length) = some 1 := ⟨⟨by decide +kernel, by decide +kernel⟩, by decide +kernel⟩
theorem k_X9_newEntries (G : Gam) {o : Nat} {a1 : Int32} {M : Mem} {rv : Int32} (hf : f_X9_newEntries o a1 M = some rv) : Kt yX9_newEntries cX9_newEntries 2 (some .int) 0 0 G [.ref (gB G + o), .int a1] M M (some (.int rv)) := by
  refine Kt.of (by decide) (Nat.le_of_ble_eq_true rfl) ?_
  intro p l e R s m args below meth c X hr hlk hnm
  refine s_drop [0, 1] (vs' := [(0, .ref (gB G + o)), (1, .int a1)]) rfl ?_
  rw [f_X9_newEntries] at hf
  refine s_aload_n X 0 dX9_newEntries_0 rfl rfl ?_
  obtain ⟨h1, hf⟩ := pk_chk hf
  obtain ⟨o2, e3, hf⟩ := pk_bnd hf
  obtain ⟨h4, hf⟩ := pk_chk hf
  refine s_getR X (ci := 9) (k := 3) rfl (Nat.le_of_ble_eq_true rfl) h1 wd630 (fun _ _ _ => rfl) (e3 ▸ h4) dX9_newEntries_1 (e3 ▸ ?_)
  obtain ⟨o5, e6, hf⟩ := pk_bnd hf
  obtain ⟨h7, hf⟩ := pk_chk hf
  refine s_getR X (ci := 2) (k := 2) rfl (Nat.le_of_ble_eq_true rfl) h4 wd426 (fun _ _ _ => rfl) (e6 ▸ h7) dX9_newEntries_4 (e6 ▸ ?_)
  refine s_iload_n X 1 dX9_newEntries_7 rfl rfl ?_
  obtain ⟨h8, hf⟩ := pk_chk hf
  obtain ⟨o9, e10, hf⟩ := pk_bnd hf
  obtain ⟨h11, hf⟩ := pk_chk hf
  refine s_aald X h7 h8 (e10 ▸ h11) dX9_newEntries_8 (e10 ▸ ?_)
  refine s_getI X (ci := 4) (k := 11) rfl (Nat.le_of_ble_eq_true rfl) h11 wd371 (fun _ _ _ => rfl) dX9_newEntries_9 ?_
  refine s_aload_n X 0 dX9_newEntries_12 rfl rfl ?_
  obtain ⟨o12, e13, hf⟩ := pk_bnd hf
  obtain ⟨h14, hf⟩ := pk_chk hf
  refine s_getR X (ci := 9) (k := 2) rfl (Nat.le_of_ble_eq_true rfl) h1 wd629 (fun _ _ _ => rfl) (e13 ▸ h14) dX9_newEntries_13 (e13 ▸ ?_)
  obtain ⟨o15, e16, hf⟩ := pk_bnd hf
  obtain ⟨h17, hf⟩ := pk_chk hf
  refine s_getR X (ci := 2) (k := 2) rfl (Nat.le_of_ble_eq_true rfl) h14 wd426 (fun _ _ _ => rfl) (e16 ▸ h17) dX9_newEntries_16 (e16 ▸ ?_)
  refine s_iload_n X 1 dX9_newEntries_19 rfl rfl ?_
  obtain ⟨h18, hf⟩ := pk_chk hf
  obtain ⟨o19, e20, hf⟩ := pk_bnd hf
  obtain ⟨h21, hf⟩ := pk_chk hf
  refine s_aald X h17 h18 (e20 ▸ h21) dX9_newEntries_20 (e20 ▸ ?_)
  refine s_getI X (ci := 4) (k := 11) rfl (Nat.le_of_ble_eq_true rfl) h21 wd371 (fun _ _ _ => rfl) dX9_newEntries_21 ?_
  refine s_isub X dX9_newEntries_24 ?_
  cases hf
  exact s_iret X hr hlk dX9_newEntries_25
