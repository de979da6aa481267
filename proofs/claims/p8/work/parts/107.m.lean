theorem dX10_withdraw_0 : decode cX10_withdraw 0 = .ok (.aload_n 0, 1) := dk_42 (by decide +kernel)
theorem dX10_withdraw_1 : decode cX10_withdraw 1 = .ok (.iload_n 1, 1) := dk_27 (by decide +kernel)
theorem dX10_withdraw_2 : decode cX10_withdraw 2 = .ok (.invokevirtual 76, 3) := dk_182 (x := 0) (y := 76) (by decide +kernel) rfl
theorem dX10_withdraw_5 : decode cX10_withdraw 5 = .ok (.ifCond .eq 13, 3) := dk_153 (x := 0) (y := 13) (by decide +kernel) rfl
theorem dX10_withdraw_8 : decode cX10_withdraw 8 = .ok (.aload_n 0, 1) := dk_42 (by decide +kernel)
theorem dX10_withdraw_9 : decode cX10_withdraw 9 = .ok (.iload_n 1, 1) := dk_27 (by decide +kernel)
theorem dX10_withdraw_10 : decode cX10_withdraw 10 = .ok (.iconst 0, 1) := dk_3 (by decide +kernel)
theorem dX10_withdraw_11 : decode cX10_withdraw 11 = .ok (.invokevirtual 93, 3) := dk_182 (x := 0) (y := 93) (by decide +kernel) rfl
theorem dX10_withdraw_14 : decode cX10_withdraw 14 = .ok (.iconst 1, 1) := dk_4 (by decide +kernel)
theorem dX10_withdraw_15 : decode cX10_withdraw 15 = .ok (.if_icmp .eq 5, 3) := dk_159 (x := 0) (y := 5) (by decide +kernel) rfl
theorem dX10_withdraw_18 : decode cX10_withdraw 18 = .ok (.iconst 0, 1) := dk_3 (by decide +kernel)
theorem dX10_withdraw_19 : decode cX10_withdraw 19 = .ok (.ireturn, 1) := dk_172 (by decide +kernel)
theorem dX10_withdraw_20 : decode cX10_withdraw 20 = .ok (.aload_n 0, 1) := dk_42 (by decide +kernel)
theorem dX10_withdraw_21 : decode cX10_withdraw 21 = .ok (.iload_n 1, 1) := dk_27 (by decide +kernel)
theorem dX10_withdraw_22 : decode cX10_withdraw 22 = .ok (.invokevirtual 217, 3) := dk_182 (x := 0) (y := 217) (by decide +kernel) rfl
theorem dX10_withdraw_25 : decode cX10_withdraw 25 = .ok (.iconst 1, 1) := dk_4 (by decide +kernel)
theorem dX10_withdraw_26 : decode cX10_withdraw 26 = .ok (.ireturn, 1) := dk_172 (by decide +kernel)
def f_X10_withdraw (n : Nat) (o : Nat) (a1 : Int32) (M : Mem) : Option (Int32 × Mem) :=
  chk (isO M 10 o) <|
  obd (f_X10_isNode o a1 M) fun r3 =>
  if r3 = 0 then (
    some ((0 : Int32), M)
    ) else (
    obd (f_X10_get o a1 (0 : Int32) M) fun r7 =>
    if r7 = (1 : Int32) then (
      obd (f_X10_leaveNow n o a1 M) fun M11 =>
      some ((1 : Int32), M11)
      ) else (
      some ((0 : Int32), M)
      )
    )
theorem cd_X10_withdraw : (yX10_withdraw.cls ≠ "java/lang/invoke/MethodHandle" ∧ yX10_withdraw.cls ≠ "java/lang/invoke/VarHandle") ∧ (parseMethodDescriptor yX10_withdraw.desc).map (fun d => d.parameters.length) = some 1 := ⟨⟨by decide +kernel, by decide +kernel⟩, by decide +kernel⟩
theorem k_X10_withdraw (G : Gam) {n : Nat} {o : Nat} {a1 : Int32} {M : Mem} {rv : (Int32 × Mem)} (hf : f_X10_withdraw n o a1 M = some rv) : Kt yX10_withdraw cX10_withdraw 2 (some .boolean) 4 93 G [.ref (gB G + o), .int a1] M rv.2 (some (.int rv.1)) := by
  refine Kt.of (by decide) (Nat.le_of_ble_eq_true rfl) ?_
  intro p l e R s m args below meth c X hr hlk hnm
  refine s_drop [0, 1] (vs' := [(0, .ref (gB G + o)), (1, .int a1)]) rfl ?_
  rw [f_X10_withdraw] at hf
  refine s_aload_n X 0 dX10_withdraw_0 rfl rfl ?_
  refine s_iload_n X 1 dX10_withdraw_1 rfl rfl ?_
  obtain ⟨h1, hf⟩ := pk_chk hf
  obtain ⟨r3, hc2, hf⟩ := pk_obd hf
  refine s_callV X (ci := 10) (k_X10_isNode G hc2) rfl h1 wd1554 wd1556 wd53 wd1557 wd138 cd_X10_isNode ⟨Nat.le_of_ble_eq_true rfl, Nat.le_of_ble_eq_true rfl⟩ (Nat.le_of_ble_eq_true rfl) dX10_withdraw_2 ?_
  have hs4 := pk_ite hf
  clear hf
  refine s_if_eq X (tgt := 18) dX10_withdraw_5 rfl (fun c5 => ?_) (fun c5 => ?_)
  · have hf := hs4.1 c5
    refine s_iconst X (v := (0 : Int32)) dX10_withdraw_18 rfl ?_
    cases hf
    exact s_zret X hr (bz_n (Or.inl rfl)) hlk dX10_withdraw_19
  · have hf := hs4.2 c5
    refine s_aload_n X 0 dX10_withdraw_8 rfl rfl ?_
    refine s_iload_n X 1 dX10_withdraw_9 rfl rfl ?_
    refine s_iconst X (v := (0 : Int32)) dX10_withdraw_10 rfl ?_
    obtain ⟨r7, hc6, hf⟩ := pk_obd hf
    refine s_callV X (ci := 10) (k_X10_get G hc6) rfl h1 wd1588 wd1590 wd57 wd1591 wd138 cd_X10_get ⟨Nat.le_of_ble_eq_true rfl, Nat.le_of_ble_eq_true rfl⟩ (Nat.le_of_ble_eq_true rfl) dX10_withdraw_11 ?_
    refine s_iconst X (v := (1 : Int32)) dX10_withdraw_14 rfl ?_
    have hs8 := pk_ite hf
    clear hf
    refine s_icmp_eq X (tgt := 20) dX10_withdraw_15 rfl (fun c9 => ?_) (fun c9 => ?_)
    · have hf := hs8.1 c9
      refine s_aload_n X 0 dX10_withdraw_20 rfl rfl ?_
      refine s_iload_n X 1 dX10_withdraw_21 rfl rfl ?_
      obtain ⟨M11, hc10, hf⟩ := pk_obd hf
      refine s_callV X (ci := 10) (k_X10_leaveNow G hc10) rfl h1 wd1711 wd1713 wd71 wd1714 wd138 cd_X10_leaveNow ⟨Nat.le_of_ble_eq_true rfl, Nat.le_of_ble_eq_true rfl⟩ (Nat.le_of_ble_eq_true rfl) dX10_withdraw_22 ?_
      refine s_iconst X (v := (1 : Int32)) dX10_withdraw_25 rfl ?_
      cases hf
      exact s_zret X hr (bz_n (Or.inr rfl)) hlk dX10_withdraw_26
    · have hf := hs8.2 c9
      refine s_iconst X (v := (0 : Int32)) dX10_withdraw_18 rfl ?_
      cases hf
      exact s_zret X hr (bz_n (Or.inl rfl)) hlk dX10_withdraw_19
theorem dX2_howIs_0 : decode cX2_howIs 0 = .ok (.aload_n 0, 1) := dk_42 (by decide +kernel)
theorem dX2_howIs_1 : decode cX2_howIs 1 = .ok (.getfield 55, 3) := dk_180 (x := 0) (y := 55) (by decide +kernel) rfl
theorem dX2_howIs_4 : decode cX2_howIs 4 = .ok (.iload_n 1, 1) := dk_27 (by decide +kernel)
theorem dX2_howIs_5 : decode cX2_howIs 5 = .ok (.invokestatic 108, 3) := dk_184 (x := 0) (y := 108) (by decide +kernel) rfl
theorem dX2_howIs_8 : decode cX2_howIs 8 = .ok (.ifCond .eq 5, 3) := dk_153 (x := 0) (y := 5) (by decide +kernel) rfl
theorem dX2_howIs_11 : decode cX2_howIs 11 = .ok (.iconst 2, 1) := dk_5 (by decide +kernel)
theorem dX2_howIs_12 : decode cX2_howIs 12 = .ok (.ireturn, 1) := dk_172 (by decide +kernel)
theorem dX2_howIs_13 : decode cX2_howIs 13 = .ok (.aload_n 0, 1) := dk_42 (by decide +kernel)
theorem dX2_howIs_14 : decode cX2_howIs 14 = .ok (.getfield 59, 3) := dk_180 (x := 0) (y := 59) (by decide +kernel) rfl
theorem dX2_howIs_17 : decode cX2_howIs 17 = .ok (.iload_n 1, 1) := dk_27 (by decide +kernel)
theorem dX2_howIs_18 : decode cX2_howIs 18 = .ok (.invokestatic 108, 3) := dk_184 (x := 0) (y := 108) (by decide +kernel) rfl
theorem dX2_howIs_21 : decode cX2_howIs 21 = .ok (.ifCond .eq 7, 3) := dk_153 (x := 0) (y := 7) (by decide +kernel) rfl
theorem dX2_howIs_24 : decode cX2_howIs 24 = .ok (.iconst 1, 1) := dk_4 (by decide +kernel)
theorem dX2_howIs_25 : decode cX2_howIs 25 = .ok (.goto 4, 3) := dk_167 (x := 0) (y := 4) (by decide +kernel) rfl
theorem dX2_howIs_28 : decode cX2_howIs 28 = .ok (.iconst 0, 1) := dk_3 (by decide +kernel)
theorem dX2_howIs_29 : decode cX2_howIs 29 = .ok (.ireturn, 1) := dk_172 (by decide +kernel)
def f_X2_howIs (o : Nat) (a1 : Int32) (M : Mem) : Option Int32 :=
  chk (isO M 2 o) <|
  obd (f_X9_has (mI M o 7) a1 M) fun r3 =>
  if r3 = 0 then (
    obd (f_X9_has (mI M o 8) a1 M) fun r7 =>
    if r7 = 0 then (
      some (0 : Int32)
      ) else (
      some (1 : Int32)
      )
    ) else (
    some (2 : Int32)
    )
theorem cd_X2_howIs : (yX2_howIs.cls ≠ "java/lang/invoke/MethodHandle" ∧ yX2_howIs.cls ≠ "java/lang/invoke/VarHandle") ∧ (parseMethodDescriptor yX2_howIs.desc).map (fun d => d.parameters.length) = some 1 := ⟨⟨by decide +kernel, by decide +kernel⟩, by decide +kernel⟩
theorem k_X2_howIs (G : Gam) {o : Nat} {a1 : Int32} {M : Mem} {rv : Int32} (hf : f_X2_howIs o a1 M = some rv) : Kt yX2_howIs cX2_howIs 2 (some .int) 1 21 G [.ref (gB G + o), .int a1] M M (some (.int rv)) := by
  refine Kt.of (by decide) (Nat.le_of_ble_eq_true rfl) ?_
  intro p l e R s m args below meth c X hr hlk hnm
  refine s_drop [0, 1] (vs' := [(0, .ref (gB G + o)), (1, .int a1)]) rfl ?_
  rw [f_X2_howIs] at hf
  refine s_aload_n X 0 dX2_howIs_0 rfl rfl ?_
  obtain ⟨h1, hf⟩ := pk_chk hf
  refine s_getI X (ci := 2) (k := 7) rfl (Nat.le_of_ble_eq_true rfl) h1 wd434 (fun _ _ _ => rfl) dX2_howIs_1 ?_
  refine s_iload_n X 1 dX2_howIs_4 rfl rfl ?_
  obtain ⟨r3, hc2, hf⟩ := pk_obd hf
  refine s_callSN X (k_X9_has G hc2) (host := "QuorumGate") ns_8 wd712 wd713 wd126 cd_X9_has ⟨Nat.le_of_ble_eq_true rfl, Nat.le_of_ble_eq_true rfl⟩ (Nat.le_of_ble_eq_true rfl) dX2_howIs_5 ?_
  have hs4 := pk_ite hf
  clear hf
  refine s_if_eq X (tgt := 13) dX2_howIs_8 rfl (fun c5 => ?_) (fun c5 => ?_)
  · have hf := hs4.1 c5
    refine s_aload_n X 0 dX2_howIs_13 rfl rfl ?_
    refine s_getI X (ci := 2) (k := 8) rfl (Nat.le_of_ble_eq_true rfl) h1 wd438 (fun _ _ _ => rfl) dX2_howIs_14 ?_
    refine s_iload_n X 1 dX2_howIs_17 rfl rfl ?_
    obtain ⟨r7, hc6, hf⟩ := pk_obd hf
    refine s_callSN X (k_X9_has G hc6) (host := "QuorumGate") ns_8 wd712 wd713 wd126 cd_X9_has ⟨Nat.le_of_ble_eq_true rfl, Nat.le_of_ble_eq_true rfl⟩ (Nat.le_of_ble_eq_true rfl) dX2_howIs_18 ?_
    have hs8 := pk_ite hf
    clear hf
    refine s_if_eq X (tgt := 28) dX2_howIs_21 rfl (fun c9 => ?_) (fun c9 => ?_)
    · have hf := hs8.1 c9
      refine s_iconst X (v := (0 : Int32)) dX2_howIs_28 rfl ?_
      cases hf
      exact s_iret X hr hlk dX2_howIs_29
    · have hf := hs8.2 c9
      refine s_iconst X (v := (1 : Int32)) dX2_howIs_24 rfl ?_
      refine s_goto X (tgt := 29) dX2_howIs_25 rfl ?_
      cases hf
      exact s_iret X hr hlk dX2_howIs_29
  · have hf := hs4.2 c5
    refine s_iconst X (v := (2 : Int32)) dX2_howIs_11 rfl ?_
    cases hf
    exact s_iret X hr hlk dX2_howIs_12
theorem dX7_quorumNow_0 : decode cX7_quorumNow 0 = .ok (.aload_n 0, 1) := dk_42 (by decide +kernel)
theorem dX7_quorumNow_1 : decode cX7_quorumNow 1 = .ok (.getfield 9, 3) := dk_180 (x := 0) (y := 9) (by decide +kernel) rfl
theorem dX7_quorumNow_4 : decode cX7_quorumNow 4 = .ok (.iload_n 1, 1) := dk_27 (by decide +kernel)
theorem dX7_quorumNow_5 : decode cX7_quorumNow 5 = .ok (.iaload, 1) := dk_46 (by decide +kernel)
theorem dX7_quorumNow_6 : decode cX7_quorumNow 6 = .ok (.iload_n 2, 1) := dk_28 (by decide +kernel)
theorem dX7_quorumNow_7 : decode cX7_quorumNow 7 = .ok (.iand, 1) := dk_126 (by decide +kernel)
theorem dX7_quorumNow_8 : decode cX7_quorumNow 8 = .ok (.ifCond .ne 10, 3) := dk_154 (x := 0) (y := 10) (by decide +kernel) rfl
theorem dX7_quorumNow_11 : decode cX7_quorumNow 11 = .ok (.aload_n 0, 1) := dk_42 (by decide +kernel)
theorem dX7_quorumNow_12 : decode cX7_quorumNow 12 = .ok (.getfield 9, 3) := dk_180 (x := 0) (y := 9) (by decide +kernel) rfl
theorem dX7_quorumNow_15 : decode cX7_quorumNow 15 = .ok (.iload_n 1, 1) := dk_27 (by decide +kernel)
theorem dX7_quorumNow_16 : decode cX7_quorumNow 16 = .ok (.iaload, 1) := dk_46 (by decide +kernel)
theorem dX7_quorumNow_17 : decode cX7_quorumNow 17 = .ok (.ireturn, 1) := dk_172 (by decide +kernel)
theorem dX7_quorumNow_18 : decode cX7_quorumNow 18 = .ok (.aload_n 0, 1) := dk_42 (by decide +kernel)
theorem dX7_quorumNow_19 : decode cX7_quorumNow 19 = .ok (.getfield 36, 3) := dk_180 (x := 0) (y := 36) (by decide +kernel) rfl
theorem dX7_quorumNow_22 : decode cX7_quorumNow 22 = .ok (.ifCond .eq 9, 3) := dk_153 (x := 0) (y := 9) (by decide +kernel) rfl
theorem dX7_quorumNow_25 : decode cX7_quorumNow 25 = .ok (.aload_n 0, 1) := dk_42 (by decide +kernel)
theorem dX7_quorumNow_26 : decode cX7_quorumNow 26 = .ok (.iload_n 2, 1) := dk_28 (by decide +kernel)
theorem dX7_quorumNow_27 : decode cX7_quorumNow 27 = .ok (.invokevirtual 64, 3) := dk_182 (x := 0) (y := 64) (by decide +kernel) rfl
theorem dX7_quorumNow_30 : decode cX7_quorumNow 30 = .ok (.ireturn, 1) := dk_172 (by decide +kernel)
theorem dX7_quorumNow_31 : decode cX7_quorumNow 31 = .ok (.aload_n 0, 1) := dk_42 (by decide +kernel)
theorem dX7_quorumNow_32 : decode cX7_quorumNow 32 = .ok (.iload_n 2, 1) := dk_28 (by decide +kernel)
theorem dX7_quorumNow_33 : decode cX7_quorumNow 33 = .ok (.invokevirtual 68, 3) := dk_182 (x := 0) (y := 68) (by decide +kernel) rfl
theorem dX7_quorumNow_36 : decode cX7_quorumNow 36 = .ok (.ireturn, 1) := dk_172 (by decide +kernel)
def f_X7_quorumNow (n : Nat) (o : Nat) (a1 : Int32) (a2 : Int32) (M : Mem) : Option (Int32 × Mem) :=
  chk (isO M 7 o) <|
  bnd (mR M o 0) fun o2 =>
  chk (isO M 100 o2) <|
  chk (inB a1 (mLn M o2)) <|
  if ((mI M o2 (a1).toNatClampNeg) &&& a2) = 0 then (
    bnd (mR M o 0) fun o15 =>
    chk (isO M 100 o15) <|
    chk (inB a1 (mLn M o15)) <|
    some ((mI M o15 (a1).toNatClampNeg), M)
    ) else (
    if (mI M o 4) = 0 then (
      obd (f_X7_firstUnbroken n o a2 M) fun r11 =>
      some (r11, M)
      ) else (
      obd2 (f_X7_wholeOfRoot n o a2 M) fun r13 M14 =>
      some (r13, M14)
      )
    )
theorem cd_X7_quorumNow : (yX7_quorumNow.cls ≠ "java/lang/invoke/MethodHandle" ∧ yX7_quorumNow.cls ≠ "java/lang/invoke/VarHandle") ∧ (parseMethodDescriptor yX7_quorumNow.desc).map (fun d => d.parameters.length) = some 2 := ⟨⟨by decide +kernel, by decide +kernel⟩, by decide +kernel⟩
theorem k_X7_quorumNow (G : Gam) {n : Nat} {o : Nat} {a1 : Int32} {a2 : Int32} {M : Mem} {rv : (Int32 × Mem)} (hf : f_X7_quorumNow n o a1 a2 M = some rv) : Kt yX7_quorumNow cX7_quorumNow 3 (some .int) 3 70 G [.ref (gB G + o), .int a1, .int a2] M rv.2 (some (.int rv.1)) := by
  refine Kt.of (by decide) (Nat.le_of_ble_eq_true rfl) ?_
  intro p l e R s m args below meth c X hr hlk hnm
  refine s_drop [0, 1, 2] (vs' := [(0, .ref (gB G + o)), (1, .int a1), (2, .int a2)]) rfl ?_
  rw [f_X7_quorumNow] at hf
  refine s_aload_n X 0 dX7_quorumNow_0 rfl rfl ?_
  obtain ⟨h1, hf⟩ := pk_chk hf
  obtain ⟨o2, e3, hf⟩ := pk_bnd hf
  obtain ⟨h4, hf⟩ := pk_chk hf
  refine s_getR X (ci := 7) (k := 0) rfl (Nat.le_of_ble_eq_true rfl) h1 wd159 (fun _ _ _ => rfl) (e3 ▸ h4) dX7_quorumNow_1 (e3 ▸ ?_)
  refine s_iload_n X 1 dX7_quorumNow_4 rfl rfl ?_
  obtain ⟨h5, hf⟩ := pk_chk hf
  refine s_iald X h4 h5 dX7_quorumNow_5 ?_
  refine s_iload_n X 2 dX7_quorumNow_6 rfl rfl ?_
  refine s_iand X dX7_quorumNow_7 ?_
  have hs6 := pk_ite hf
  clear hf
  refine s_if_ne X (tgt := 18) dX7_quorumNow_8 rfl (fun c7 => ?_) (fun c7 => ?_)
  · have hf := hs6.2 c7
    refine s_aload_n X 0 dX7_quorumNow_18 rfl rfl ?_
    refine s_getI X (ci := 7) (k := 4) rfl (Nat.le_of_ble_eq_true rfl) h1 wd172 (fun _ _ _ => rfl) dX7_quorumNow_19 ?_
    have hs8 := pk_ite hf
    clear hf
    refine s_if_eq X (tgt := 31) dX7_quorumNow_22 rfl (fun c9 => ?_) (fun c9 => ?_)
    · have hf := hs8.1 c9
      refine s_aload_n X 0 dX7_quorumNow_31 rfl rfl ?_
      refine s_iload_n X 2 dX7_quorumNow_32 rfl rfl ?_
      obtain ⟨r11, hc10, hf⟩ := pk_obd hf
      refine s_callV X (ci := 7) (k_X7_firstUnbroken G hc10) rfl h1 wd776 wd778 wd4 wd779 wd127 cd_X7_firstUnbroken ⟨Nat.le_of_ble_eq_true rfl, Nat.le_of_ble_eq_true rfl⟩ (Nat.le_of_ble_eq_true rfl) dX7_quorumNow_33 ?_
      cases hf
      exact s_iret X hr hlk dX7_quorumNow_36
    · have hf := hs8.2 c9
      refine s_aload_n X 0 dX7_quorumNow_25 rfl rfl ?_
      refine s_iload_n X 2 dX7_quorumNow_26 rfl rfl ?_
      obtain ⟨r13, M14, hc12, hf⟩ := pk_obd2 hf
      refine s_callV X (ci := 7) (k_X7_wholeOfRoot G hc12) rfl h1 wd768 wd770 wd2 wd771 wd127 cd_X7_wholeOfRoot ⟨Nat.le_of_ble_eq_true rfl, Nat.le_of_ble_eq_true rfl⟩ (Nat.le_of_ble_eq_true rfl) dX7_quorumNow_27 ?_
      cases hf
      exact s_iret X hr hlk dX7_quorumNow_30
  · have hf := hs6.1 c7
    refine s_aload_n X 0 dX7_quorumNow_11 rfl rfl ?_
    obtain ⟨o15, e16, hf⟩ := pk_bnd hf
    obtain ⟨h17, hf⟩ := pk_chk hf
    refine s_getR X (ci := 7) (k := 0) rfl (Nat.le_of_ble_eq_true rfl) h1 wd159 (fun _ _ _ => rfl) (e16 ▸ h17) dX7_quorumNow_12 (e16 ▸ ?_)
    refine s_iload_n X 1 dX7_quorumNow_15 rfl rfl ?_
    obtain ⟨h18, hf⟩ := pk_chk hf
    refine s_iald X h17 h18 dX7_quorumNow_16 ?_
    cases hf
    exact s_iret X hr hlk dX7_quorumNow_17
theorem dX2_renewQuorums_0 : decode cX2_renewQuorums 0 = .ok (.iconst 0, 1) := dk_3 (by decide +kernel)
theorem dX2_renewQuorums_1 : decode cX2_renewQuorums 1 = .ok (.istore_n 1, 1) := dk_60 (by decide +kernel)
theorem dX2_renewQuorums_2 : decode cX2_renewQuorums 2 = .ok (.iload_n 1, 1) := dk_27 (by decide +kernel)
theorem dX2_renewQuorums_3 : decode cX2_renewQuorums 3 = .ok (.aload_n 0, 1) := dk_42 (by decide +kernel)
theorem dX2_renewQuorums_4 : decode cX2_renewQuorums 4 = .ok (.getfield 43, 3) := dk_180 (x := 0) (y := 43) (by decide +kernel) rfl
theorem dX2_renewQuorums_7 : decode cX2_renewQuorums 7 = .ok (.getfield 94, 3) := dk_180 (x := 0) (y := 94) (by decide +kernel) rfl
theorem dX2_renewQuorums_10 : decode cX2_renewQuorums 10 = .ok (.if_icmp .ge 27, 3) := dk_162 (x := 0) (y := 27) (by decide +kernel) rfl
theorem dX2_renewQuorums_13 : decode cX2_renewQuorums 13 = .ok (.aload_n 0, 1) := dk_42 (by decide +kernel)
theorem dX2_renewQuorums_14 : decode cX2_renewQuorums 14 = .ok (.getfield 36, 3) := dk_180 (x := 0) (y := 36) (by decide +kernel) rfl
theorem dX2_renewQuorums_17 : decode cX2_renewQuorums 17 = .ok (.iload_n 1, 1) := dk_27 (by decide +kernel)
theorem dX2_renewQuorums_18 : decode cX2_renewQuorums 18 = .ok (.aload_n 0, 1) := dk_42 (by decide +kernel)
theorem dX2_renewQuorums_19 : decode cX2_renewQuorums 19 = .ok (.getfield 43, 3) := dk_180 (x := 0) (y := 43) (by decide +kernel) rfl
theorem dX2_renewQuorums_22 : decode cX2_renewQuorums 22 = .ok (.iload_n 1, 1) := dk_27 (by decide +kernel)
theorem dX2_renewQuorums_23 : decode cX2_renewQuorums 23 = .ok (.aload_n 0, 1) := dk_42 (by decide +kernel)
theorem dX2_renewQuorums_24 : decode cX2_renewQuorums 24 = .ok (.getfield 62, 3) := dk_180 (x := 0) (y := 62) (by decide +kernel) rfl
theorem dX2_renewQuorums_27 : decode cX2_renewQuorums 27 = .ok (.invokevirtual 97, 3) := dk_182 (x := 0) (y := 97) (by decide +kernel) rfl
theorem dX2_renewQuorums_30 : decode cX2_renewQuorums 30 = .ok (.iastore, 1) := dk_79 (by decide +kernel)
theorem dX2_renewQuorums_31 : decode cX2_renewQuorums 31 = .ok (.iinc 1 1, 3) := dk_132 (x := 1) (y := 1) (by decide +kernel) rfl
theorem dX2_renewQuorums_34 : decode cX2_renewQuorums 34 = .ok (.goto (-32), 3) := dk_167 (x := 255) (y := 224) (by decide +kernel) rfl
theorem dX2_renewQuorums_37 : decode cX2_renewQuorums 37 = .ok (.return_, 1) := dk_177 (by decide +kernel)
def f_X2_renewQuorums_2 : Nat → Nat → Int32 → Mem → Option Mem
  | 0, _, _, _ => none
  | n + 1, v0, v1, M =>
    chk (isO M 2 v0) <|
    bnd (mR M v0 0) fun o2 =>
    chk (isO M 7 o2) <|
    if (mI M o2 3) ≤ v1 then (
      some M
      ) else (
      bnd (mR M v0 5) fun o7 =>
      chk (isO M 100 o7) <|
      bnd (mR M v0 0) fun o10 =>
      chk (isO M 7 o10) <|
      obd2 (f_X7_quorumNow n o10 v1 (mI M v0 9) M) fun r14 M15 =>
      chk (isO M15 100 o7) <|
      chk (inB v1 (mLn M15 o7)) <|
      bnd (sI M15 o7 (v1).toNatClampNeg r14) fun M18 =>
      bnd (v1 + (1 : Int32)) fun x21 =>
      f_X2_renewQuorums_2 n v0 x21 M18
      )
def f_X2_renewQuorums (n : Nat) (o : Nat) (M : Mem) : Option Mem :=
  f_X2_renewQuorums_2 n o (0 : Int32) M
theorem cd_X2_renewQuorums : (yX2_renewQuorums.cls ≠ "java/lang/invoke/MethodHandle" ∧ yX2_renewQuorums.cls ≠ "java/lang/invoke/VarHandle") ∧ (parseMethodDescriptor yX2_renewQuorums.desc).map (fun d => d.parameters.length) = some 0 := ⟨⟨by decide +kernel, by decide +kernel⟩, by decide +kernel⟩
section
variable {p : Program} {l : Launch} {e : Env} {R : Room} {s : State} {m : MethodId} {args : Array Value} {below : List Frame} {meth : Method} {c : Code} {G : Gam} {M0 : Mem}
theorem l_X2_renewQuorums_2 {rv : Mem} (X : Cx p R s m args c G M0 cX2_renewQuorums yX2_renewQuorums.cls 2 4 92) (hr : meth.sig.returnType = none) (hlk : meth.locks = false) (hnm : meth.name = "renewQuorums") : ∀ {n : Nat} (v0 : Nat) (v1 : Int32) (M : Mem), f_X2_renewQuorums_2 n v0 v1 M = some rv → Sg p l e R s m args below meth c (Qm below G args s none M0 rv) G M0 2 2 [(0, .ref (gB G + v0)), (1, .int v1)] [] M := by
  intro n
  induction n with
  | zero => intro v0 v1 M hf; exact (pk_none hf).elim
  | succ n ih =>
    intro v0 v1 M hf
    rw [f_X2_renewQuorums_2] at hf
    refine s_iload_n X 1 dX2_renewQuorums_2 rfl rfl ?_
    refine s_aload_n X 0 dX2_renewQuorums_3 rfl rfl ?_
    obtain ⟨h1, hf⟩ := pk_chk hf
    obtain ⟨o2, e3, hf⟩ := pk_bnd hf
    obtain ⟨h4, hf⟩ := pk_chk hf
    refine s_getR X (ci := 2) (k := 0) rfl (Nat.le_of_ble_eq_true rfl) h1 wd416 (fun _ _ _ => rfl) (e3 ▸ h4) dX2_renewQuorums_4 (e3 ▸ ?_)
    refine s_getI X (ci := 7) (k := 3) rfl (Nat.le_of_ble_eq_true rfl) h4 wd166 (fun _ _ _ => rfl) dX2_renewQuorums_7 ?_
    have hs5 := pk_ite hf
    clear hf
    refine s_icmp_ge X (tgt := 37) dX2_renewQuorums_10 rfl (fun c6 => ?_) (fun c6 => ?_)
    · have hf := hs5.1 c6
      cases hf
      exact s_vret X hr hlk dX2_renewQuorums_37
    · have hf := hs5.2 c6
      refine s_aload_n X 0 dX2_renewQuorums_13 rfl rfl ?_
      obtain ⟨o7, e8, hf⟩ := pk_bnd hf
      obtain ⟨h9, hf⟩ := pk_chk hf
      refine s_getR X (ci := 2) (k := 5) rfl (Nat.le_of_ble_eq_true rfl) h1 wd431 (fun _ _ _ => rfl) (e8 ▸ h9) dX2_renewQuorums_14 (e8 ▸ ?_)
      refine s_iload_n X 1 dX2_renewQuorums_17 rfl rfl ?_
      refine s_aload_n X 0 dX2_renewQuorums_18 rfl rfl ?_
      obtain ⟨o10, e11, hf⟩ := pk_bnd hf
      obtain ⟨h12, hf⟩ := pk_chk hf
      refine s_getR X (ci := 2) (k := 0) rfl (Nat.le_of_ble_eq_true rfl) h1 wd416 (fun _ _ _ => rfl) (e11 ▸ h12) dX2_renewQuorums_19 (e11 ▸ ?_)
      refine s_iload_n X 1 dX2_renewQuorums_22 rfl rfl ?_
      refine s_aload_n X 0 dX2_renewQuorums_23 rfl rfl ?_
      refine s_getI X (ci := 2) (k := 9) rfl (Nat.le_of_ble_eq_true rfl) h1 wd441 (fun _ _ _ => rfl) dX2_renewQuorums_24 ?_
      obtain ⟨r14, M15, hc13, hf⟩ := pk_obd2 hf
      refine s_callV X (ci := 7) (k_X7_quorumNow G hc13) rfl h12 wd1090 wd1091 wd1092 wd1093 wd127 cd_X7_quorumNow ⟨Nat.le_of_ble_eq_true rfl, Nat.le_of_ble_eq_true rfl⟩ (Nat.le_of_ble_eq_true rfl) dX2_renewQuorums_27 ?_
      obtain ⟨h16, hf⟩ := pk_chk hf
      obtain ⟨h17, hf⟩ := pk_chk hf
      obtain ⟨M18, e19, hf⟩ := pk_bnd hf
      refine s_iast X h16 h17 e19 dX2_renewQuorums_30 ?_
      have h20 := io_sI e19 h16
      obtain ⟨x21, e22, hf⟩ := pk_bnd hf
      refine s_iinc X (vs' := [(0, .ref (gB G + v0)), (1, .int x21)]) 1 dX2_renewQuorums_31 rfl (v := x21) e22.symm (Nat.le_of_ble_eq_true rfl) [1, 0] rfl ?_
      refine s_goto X (tgt := 2) dX2_renewQuorums_34 rfl ?_
      exact ih _ _ _ hf
end
theorem k_X2_renewQuorums (G : Gam) {n : Nat} {o : Nat} {M : Mem} {rv : Mem} (hf : f_X2_renewQuorums n o M = some rv) : Kt yX2_renewQuorums cX2_renewQuorums 2 none 4 92 G [.ref (gB G + o)] M rv none := by
  refine Kt.of (by decide) (Nat.le_of_ble_eq_true rfl) ?_
  intro p l e R s m args below meth c X hr hlk hnm
  refine s_drop [0] (vs' := [(0, .ref (gB G + o))]) rfl ?_
  rw [f_X2_renewQuorums] at hf
  refine s_iconst X (v := (0 : Int32)) dX2_renewQuorums_0 rfl ?_
  refine s_istore_n X (vs' := [(0, .ref (gB G + o)), (1, .int (0 : Int32))]) dX2_renewQuorums_1 rfl (Nat.le_of_ble_eq_true rfl) [1, 0] rfl ?_
  exact l_X2_renewQuorums_2 X hr hlk hnm _ _ _ hf
theorem dX5_countOn_0 : decode cX5_countOn 0 = .ok (.aload_n 0, 1) := dk_42 (by decide +kernel)
theorem dX5_countOn_1 : decode cX5_countOn 1 = .ok (.getfield 18, 3) := dk_180 (x := 0) (y := 18) (by decide +kernel) rfl
theorem dX5_countOn_4 : decode cX5_countOn 4 = .ok (.iload_n 1, 1) := dk_27 (by decide +kernel)
theorem dX5_countOn_5 : decode cX5_countOn 5 = .ok (.bipush 16, 2) := dk_16 (x := 16) (by decide +kernel) rfl
theorem dX5_countOn_7 : decode cX5_countOn 7 = .ok (.imul, 1) := dk_104 (by decide +kernel)
theorem dX5_countOn_8 : decode cX5_countOn 8 = .ok (.iload_n 2, 1) := dk_28 (by decide +kernel)
theorem dX5_countOn_9 : decode cX5_countOn 9 = .ok (.iadd, 1) := dk_96 (by decide +kernel)
theorem dX5_countOn_10 : decode cX5_countOn 10 = .ok (.iaload, 1) := dk_46 (by decide +kernel)
theorem dX5_countOn_11 : decode cX5_countOn 11 = .ok (.ireturn, 1) := dk_172 (by decide +kernel)
def f_X5_countOn (o : Nat) (a1 : Int32) (a2 : Int32) (M : Mem) : Option Int32 :=
  chk (isO M 5 o) <|
  bnd (mR M o 2) fun o2 =>
  chk (isO M 100 o2) <|
  chk (inB ((a1 * (16 : Int32)) + a2) (mLn M o2)) <|
  some (mI M o2 (((a1 * (16 : Int32)) + a2)).toNatClampNeg)
theorem cd_X5_countOn : (yX5_countOn.cls ≠ "java/lang/invoke/MethodHandle" ∧ yX5_countOn.cls ≠ "java/lang/invoke/VarHandle") ∧ (parseMethodDescriptor yX5_countOn.desc).map (fun d => d.parameters.length) = some 2 := ⟨⟨by decide +kernel, by decide +kernel⟩, by decide +kernel⟩
theorem k_X5_countOn (G : Gam) {o : Nat} {a1 : Int32} {a2 : Int32} {M : Mem} {rv : Int32} (hf : f_X5_countOn o a1 a2 M = some rv) : Kt yX5_countOn cX5_countOn 3 (some .int) 0 0 G [.ref (gB G + o), .int a1, .int a2] M M (some (.int rv)) := by
  refine Kt.of (by decide) (Nat.le_of_ble_eq_true rfl) ?_
  intro p l e R s m args below meth c X hr hlk hnm
  refine s_drop [0, 1, 2] (vs' := [(0, .ref (gB G + o)), (1, .int a1), (2, .int a2)]) rfl ?_
  rw [f_X5_countOn] at hf
  refine s_aload_n X 0 dX5_countOn_0 rfl rfl ?_
  obtain ⟨h1, hf⟩ := pk_chk hf
  obtain ⟨o2, e3, hf⟩ := pk_bnd hf
  obtain ⟨h4, hf⟩ := pk_chk hf
  refine s_getR X (ci := 5) (k := 2) rfl (Nat.le_of_ble_eq_true rfl) h1 wd251 (fun _ _ _ => rfl) (e3 ▸ h4) dX5_countOn_1 (e3 ▸ ?_)
  refine s_iload_n X 1 dX5_countOn_4 rfl rfl ?_
  refine s_bipush X (v := (16 : Int32)) dX5_countOn_5 rfl ?_
  refine s_imul X dX5_countOn_7 ?_
  refine s_iload_n X 2 dX5_countOn_8 rfl rfl ?_
  refine s_iadd X dX5_countOn_9 ?_
  obtain ⟨h5, hf⟩ := pk_chk hf
  refine s_iald X h4 h5 dX5_countOn_10 ?_
  cases hf
  exact s_iret X hr hlk dX5_countOn_11
theorem dX5_drop_0 : decode cX5_drop 0 = .ok (.aload_n 0, 1) := dk_42 (by decide +kernel)
theorem dX5_drop_1 : decode cX5_drop 1 = .ok (.iload_n 1, 1) := dk_27 (by decide +kernel)
theorem dX5_drop_2 : decode cX5_drop 2 = .ok (.iload_n 2, 1) := dk_28 (by decide +kernel)
theorem dX5_drop_3 : decode cX5_drop 3 = .ok (.invokevirtual 56, 3) := dk_182 (x := 0) (y := 56) (by decide +kernel) rfl
theorem dX5_drop_6 : decode cX5_drop 6 = .ok (.istore_n 3, 1) := dk_62 (by decide +kernel)
theorem dX5_drop_7 : decode cX5_drop 7 = .ok (.iload_n 3, 1) := dk_29 (by decide +kernel)
theorem dX5_drop_8 : decode cX5_drop 8 = .ok (.ifCond .le 16, 3) := dk_158 (x := 0) (y := 16) (by decide +kernel) rfl
theorem dX5_drop_11 : decode cX5_drop 11 = .ok (.aload_n 0, 1) := dk_42 (by decide +kernel)
theorem dX5_drop_12 : decode cX5_drop 12 = .ok (.iload_n 1, 1) := dk_27 (by decide +kernel)
theorem dX5_drop_13 : decode cX5_drop 13 = .ok (.iload_n 2, 1) := dk_28 (by decide +kernel)
theorem dX5_drop_14 : decode cX5_drop 14 = .ok (.invokevirtual 60, 3) := dk_182 (x := 0) (y := 60) (by decide +kernel) rfl
theorem dX5_drop_17 : decode cX5_drop 17 = .ok (.pop, 1) := dk_87 (by decide +kernel)
theorem dX5_drop_18 : decode cX5_drop 18 = .ok (.iinc 3 (-1), 3) := dk_132 (x := 3) (y := 255) (by decide +kernel) rfl
theorem dX5_drop_21 : decode cX5_drop 21 = .ok (.goto (-14), 3) := dk_167 (x := 255) (y := 242) (by decide +kernel) rfl
theorem dX5_drop_24 : decode cX5_drop 24 = .ok (.return_, 1) := dk_177 (by decide +kernel)
def f_X5_drop_7 : Nat → Nat → Int32 → Int32 → Int32 → Mem → Option Mem
  | 0, _, _, _, _, _ => none
  | n + 1, v0, v1, v2, v3, M =>
    if v3 ≤ 0 then (
      some M
      ) else (
      chk (isO M 5 v0) <|
      obd2 (f_X5_takeFirst v0 v1 v2 M) fun r5 M6 =>
      bnd (v3 + (-1 : Int32)) fun x7 =>
      f_X5_drop_7 n v0 v1 v2 x7 M6
      )
def f_X5_drop (n : Nat) (o : Nat) (a1 : Int32) (a2 : Int32) (M : Mem) : Option Mem :=
  chk (isO M 5 o) <|
  obd (f_X5_countOn o a1 a2 M) fun r3 =>
  f_X5_drop_7 n o a1 a2 r3 M
theorem cd_X5_drop : (yX5_drop.cls ≠ "java/lang/invoke/MethodHandle" ∧ yX5_drop.cls ≠ "java/lang/invoke/VarHandle") ∧ (parseMethodDescriptor yX5_drop.desc).map (fun d => d.parameters.length) = some 2 := ⟨⟨by decide +kernel, by decide +kernel⟩, by decide +kernel⟩
section
variable {p : Program} {l : Launch} {e : Env} {R : Room} {s : State} {m : MethodId} {args : Array Value} {below : List Frame} {meth : Method} {c : Code} {G : Gam} {M0 : Mem}
theorem l_X5_drop_7 {rv : Mem} (X : Cx p R s m args c G M0 cX5_drop yX5_drop.cls 4 1 24) (hr : meth.sig.returnType = none) (hlk : meth.locks = false) (hnm : meth.name = "drop") : ∀ {n : Nat} (v0 : Nat) (v1 : Int32) (v2 : Int32) (v3 : Int32) (M : Mem), f_X5_drop_7 n v0 v1 v2 v3 M = some rv → Sg p l e R s m args below meth c (Qm below G args s none M0 rv) G M0 4 7 [(0, .ref (gB G + v0)), (1, .int v1), (2, .int v2), (3, .int v3)] [] M := by
  intro n
  induction n with
  | zero => intro v0 v1 v2 v3 M hf; exact (pk_none hf).elim
  | succ n ih =>
    intro v0 v1 v2 v3 M hf
    rw [f_X5_drop_7] at hf
    refine s_iload_n X 3 dX5_drop_7 rfl rfl ?_
    have hs1 := pk_ite hf
    clear hf
    refine s_if_le X (tgt := 24) dX5_drop_8 rfl (fun c2 => ?_) (fun c2 => ?_)
    · have hf := hs1.1 c2
      cases hf
      exact s_vret X hr hlk dX5_drop_24
    · have hf := hs1.2 c2
      refine s_aload_n X 0 dX5_drop_11 rfl rfl ?_
      refine s_iload_n X 1 dX5_drop_12 rfl rfl ?_
      refine s_iload_n X 2 dX5_drop_13 rfl rfl ?_
      obtain ⟨h3, hf⟩ := pk_chk hf
      obtain ⟨r5, M6, hc4, hf⟩ := pk_obd2 hf
      refine s_callV X (ci := 5) (k_X5_takeFirst G hc4) rfl h3 wd1103 wd985 wd986 wd987 wd131 cd_X5_takeFirst ⟨Nat.le_of_ble_eq_true rfl, Nat.le_of_ble_eq_true rfl⟩ (Nat.le_of_ble_eq_true rfl) dX5_drop_14 ?_
      refine s_pop X dX5_drop_17 rfl ?_
      obtain ⟨x7, e8, hf⟩ := pk_bnd hf
      refine s_iinc X (vs' := [(0, .ref (gB G + v0)), (1, .int v1), (2, .int v2), (3, .int x7)]) 3 dX5_drop_18 rfl (v := x7) e8.symm (Nat.le_of_ble_eq_true rfl) [1, 2, 3, 0] rfl ?_
      refine s_goto X (tgt := 7) dX5_drop_21 rfl ?_
      exact ih _ _ _ _ _ hf
end
theorem k_X5_drop (G : Gam) {n : Nat} {o : Nat} {a1 : Int32} {a2 : Int32} {M : Mem} {rv : Mem} (hf : f_X5_drop n o a1 a2 M = some rv) : Kt yX5_drop cX5_drop 4 none 1 24 G [.ref (gB G + o), .int a1, .int a2] M rv none := by
  refine Kt.of (by decide) (Nat.le_of_ble_eq_true rfl) ?_
  intro p l e R s m args below meth c X hr hlk hnm
  refine s_drop [0, 1, 2] (vs' := [(0, .ref (gB G + o)), (1, .int a1), (2, .int a2)]) rfl ?_
  rw [f_X5_drop] at hf
  refine s_aload_n X 0 dX5_drop_0 rfl rfl ?_
  refine s_iload_n X 1 dX5_drop_1 rfl rfl ?_
  refine s_iload_n X 2 dX5_drop_2 rfl rfl ?_
  obtain ⟨h1, hf⟩ := pk_chk hf
  obtain ⟨r3, hc2, hf⟩ := pk_obd hf
  refine s_callV X (ci := 5) (k_X5_countOn G hc2) rfl h1 wd1099 wd1100 wd1101 wd1102 wd131 cd_X5_countOn ⟨Nat.le_of_ble_eq_true rfl, Nat.le_of_ble_eq_true rfl⟩ (Nat.le_of_ble_eq_true rfl) dX5_drop_3 ?_
  refine s_istore_n X (vs' := [(0, .ref (gB G + o)), (1, .int a1), (2, .int a2), (3, .int r3)]) dX5_drop_6 rfl (Nat.le_of_ble_eq_true rfl) [1, 2, 3, 0] rfl ?_
  exact l_X5_drop_7 X hr hlk hnm _ _ _ _ _ hf
theorem dX2_forget_0 : decode cX2_forget 0 = .ok (.aload_n 0, 1) := dk_42 (by decide +kernel)
theorem dX2_forget_1 : decode cX2_forget 1 = .ok (.getfield 20, 3) := dk_180 (x := 0) (y := 20) (by decide +kernel) rfl
theorem dX2_forget_4 : decode cX2_forget 4 = .ok (.iload_n 2, 1) := dk_28 (by decide +kernel)
theorem dX2_forget_5 : decode cX2_forget 5 = .ok (.aaload, 1) := dk_50 (by decide +kernel)
theorem dX2_forget_6 : decode cX2_forget 6 = .ok (.astore_n 3, 1) := dk_78 (by decide +kernel)
theorem dX2_forget_7 : decode cX2_forget 7 = .ok (.aload_n 3, 1) := dk_45 (by decide +kernel)
theorem dX2_forget_8 : decode cX2_forget 8 = .ok (.dup, 1) := dk_89 (by decide +kernel)
theorem dX2_forget_9 : decode cX2_forget 9 = .ok (.getfield 167, 3) := dk_180 (x := 0) (y := 167) (by decide +kernel) rfl
theorem dX2_forget_12 : decode cX2_forget 12 = .ok (.iconst 1, 1) := dk_4 (by decide +kernel)
theorem dX2_forget_13 : decode cX2_forget 13 = .ok (.iload_n 1, 1) := dk_27 (by decide +kernel)
theorem dX2_forget_14 : decode cX2_forget 14 = .ok (.ishl, 1) := dk_120 (by decide +kernel)
theorem dX2_forget_15 : decode cX2_forget 15 = .ok (.iconst (-1), 1) := dk_2 (by decide +kernel)
theorem dX2_forget_16 : decode cX2_forget 16 = .ok (.ixor, 1) := dk_130 (by decide +kernel)
theorem dX2_forget_17 : decode cX2_forget 17 = .ok (.iand, 1) := dk_126 (by decide +kernel)
theorem dX2_forget_18 : decode cX2_forget 18 = .ok (.putfield 167, 3) := dk_181 (x := 0) (y := 167) (by decide +kernel) rfl
theorem dX2_forget_21 : decode cX2_forget 21 = .ok (.aload_n 3, 1) := dk_45 (by decide +kernel)
theorem dX2_forget_22 : decode cX2_forget 22 = .ok (.getfield 170, 3) := dk_180 (x := 0) (y := 170) (by decide +kernel) rfl
theorem dX2_forget_25 : decode cX2_forget 25 = .ok (.iload_n 1, 1) := dk_27 (by decide +kernel)
theorem dX2_forget_26 : decode cX2_forget 26 = .ok (.if_icmp .ne 12, 3) := dk_160 (x := 0) (y := 12) (by decide +kernel) rfl
theorem dX2_forget_29 : decode cX2_forget 29 = .ok (.aload_n 3, 1) := dk_45 (by decide +kernel)
theorem dX2_forget_30 : decode cX2_forget 30 = .ok (.invokevirtual 173, 3) := dk_182 (x := 0) (y := 173) (by decide +kernel) rfl
theorem dX2_forget_33 : decode cX2_forget 33 = .ok (.aload_n 0, 1) := dk_42 (by decide +kernel)
theorem dX2_forget_34 : decode cX2_forget 34 = .ok (.iload_n 2, 1) := dk_28 (by decide +kernel)
theorem dX2_forget_35 : decode cX2_forget 35 = .ok (.invokevirtual 176, 3) := dk_182 (x := 0) (y := 176) (by decide +kernel) rfl
theorem dX2_forget_38 : decode cX2_forget 38 = .ok (.return_, 1) := dk_177 (by decide +kernel)
def f_X2_forget (n : Nat) (o : Nat) (a1 : Int32) (a2 : Int32) (M : Mem) : Option Mem :=
  chk (isO M 2 o) <|
  bnd (mR M o 2) fun o2 =>
  chk (isO M 102 o2) <|
  chk (inB a2 (mLn M o2)) <|
  bnd (mR M o2 (a2).toNatClampNeg) fun o6 =>
  chk (isO M 4 o6) <|
  bnd (sI M o6 9 ((mI M o6 9) &&& (((1 : Int32) <<< (a1 &&& 31)) ^^^ (-1 : Int32)))) fun M9 =>
  if (mI M9 o6 6) = a1 then (
    obd (f_X4_forgetGranted o6 M9) fun M17 =>
    chk (isO M17 2 o) <|
    obd (f_X2_grantFirst n o a2 M17) fun M20 =>
    some M20
    ) else (
    some M9
    )
theorem cd_X2_forget : (yX2_forget.cls ≠ "java/lang/invoke/MethodHandle" ∧ yX2_forget.cls ≠ "java/lang/invoke/VarHandle") ∧ (parseMethodDescriptor yX2_forget.desc).map (fun d => d.parameters.length) = some 2 := ⟨⟨by decide +kernel, by decide +kernel⟩, by decide +kernel⟩
theorem k_X2_forget (G : Gam) {n : Nat} {o : Nat} {a1 : Int32} {a2 : Int32} {M : Mem} {rv : Mem} (hf : f_X2_forget n o a1 a2 M = some rv) : Kt yX2_forget cX2_forget 4 none 4 99 G [.ref (gB G + o), .int a1, .int a2] M rv none := by
  refine Kt.of (by decide) (Nat.le_of_ble_eq_true rfl) ?_
  intro p l e R s m args below meth c X hr hlk hnm
  refine s_drop [0, 1, 2] (vs' := [(0, .ref (gB G + o)), (1, .int a1), (2, .int a2)]) rfl ?_
  rw [f_X2_forget] at hf
  refine s_aload_n X 0 dX2_forget_0 rfl rfl ?_
  obtain ⟨h1, hf⟩ := pk_chk hf
  obtain ⟨o2, e3, hf⟩ := pk_bnd hf
  obtain ⟨h4, hf⟩ := pk_chk hf
  refine s_getR X (ci := 2) (k := 2) rfl (Nat.le_of_ble_eq_true rfl) h1 wd423 (fun _ _ _ => rfl) (e3 ▸ h4) dX2_forget_1 (e3 ▸ ?_)
  refine s_iload_n X 2 dX2_forget_4 rfl rfl ?_
  obtain ⟨h5, hf⟩ := pk_chk hf
  obtain ⟨o6, e7, hf⟩ := pk_bnd hf
  obtain ⟨h8, hf⟩ := pk_chk hf
  refine s_aald X h4 h5 (e7 ▸ h8) dX2_forget_5 (e7 ▸ ?_)
  refine s_astore_n X (vs' := [(0, .ref (gB G + o)), (1, .int a1), (2, .int a2), (3, .ref (gB G + o6))]) dX2_forget_6 rfl (Nat.le_of_ble_eq_true rfl) [1, 2, 3, 0] rfl ?_
  refine s_aload_n X 3 dX2_forget_7 rfl rfl ?_
  refine s_dup X dX2_forget_8 rfl ?_
  refine s_getI X (ci := 4) (k := 9) rfl (Nat.le_of_ble_eq_true rfl) h8 wd363 (fun _ _ _ => rfl) dX2_forget_9 ?_
  refine s_iconst X (v := (1 : Int32)) dX2_forget_12 rfl ?_
  refine s_iload_n X 1 dX2_forget_13 rfl rfl ?_
  refine s_ishl X dX2_forget_14 ?_
  refine s_iconst X (v := (-1 : Int32)) dX2_forget_15 rfl ?_
  refine s_ixor X dX2_forget_16 ?_
  refine s_iand X dX2_forget_17 ?_
  obtain ⟨M9, e10, hf⟩ := pk_bnd hf
  refine s_putI X (ci := 4) (k := 9) rfl (Nat.le_of_ble_eq_true rfl) h8 wd363 (fun _ _ _ => rfl) rfl rfl e10 dX2_forget_18 ?_
  have h11 := io_sI e10 h1
  have h12 := io_sI e10 h4
  have h13 := io_sI e10 h8
  refine s_aload_n X 3 dX2_forget_21 rfl rfl ?_
  refine s_getI X (ci := 4) (k := 6) rfl (Nat.le_of_ble_eq_true rfl) h13 wd351 (fun _ _ _ => rfl) dX2_forget_22 ?_
  refine s_iload_n X 1 dX2_forget_25 rfl rfl ?_
  have hs14 := pk_ite hf
  clear hf
  refine s_icmp_ne X (tgt := 38) dX2_forget_26 rfl (fun c15 => ?_) (fun c15 => ?_)
  · have hf := hs14.2 c15
    cases hf
    exact s_vret X hr hlk dX2_forget_38
  · have hf := hs14.1 c15
    refine s_aload_n X 3 dX2_forget_29 rfl rfl ?_
    obtain ⟨M17, hc16, hf⟩ := pk_obd hf
    refine s_callV X (ci := 4) (k_X4_forgetGranted G hc16) rfl h13 wd1065 wd612 wd613 wd614 wd133 cd_X4_forgetGranted ⟨Nat.le_of_ble_eq_true rfl, Nat.le_of_ble_eq_true rfl⟩ (Nat.le_of_ble_eq_true rfl) dX2_forget_30 ?_
    refine s_aload_n X 0 dX2_forget_33 rfl rfl ?_
    refine s_iload_n X 2 dX2_forget_34 rfl rfl ?_
    obtain ⟨h18, hf⟩ := pk_chk hf
    obtain ⟨M20, hc19, hf⟩ := pk_obd hf
    refine s_callV X (ci := 2) (k_X2_grantFirst G hc19) rfl h18 wd1016 wd1018 wd16 wd1019 wd130 cd_X2_grantFirst ⟨Nat.le_of_ble_eq_true rfl, Nat.le_of_ble_eq_true rfl⟩ (Nat.le_of_ble_eq_true rfl) dX2_forget_35 ?_
    cases hf
    exact s_vret X hr hlk dX2_forget_38
theorem dX2_doWithout_0 : decode cX2_doWithout 0 = .ok (.aload_n 0, 1) := dk_42 (by decide +kernel)
theorem dX2_doWithout_1 : decode cX2_doWithout 1 = .ok (.getfield 55, 3) := dk_180 (x := 0) (y := 55) (by decide +kernel) rfl
theorem dX2_doWithout_4 : decode cX2_doWithout 4 = .ok (.iload_n 2, 1) := dk_28 (by decide +kernel)
theorem dX2_doWithout_5 : decode cX2_doWithout 5 = .ok (.invokestatic 108, 3) := dk_184 (x := 0) (y := 108) (by decide +kernel) rfl
theorem dX2_doWithout_8 : decode cX2_doWithout 8 = .ok (.ifCond .eq 23, 3) := dk_153 (x := 0) (y := 23) (by decide +kernel) rfl
theorem dX2_doWithout_11 : decode cX2_doWithout 11 = .ok (.aload_n 0, 1) := dk_42 (by decide +kernel)
theorem dX2_doWithout_12 : decode cX2_doWithout 12 = .ok (.getfield 20, 3) := dk_180 (x := 0) (y := 20) (by decide +kernel) rfl
theorem dX2_doWithout_15 : decode cX2_doWithout 15 = .ok (.iload_n 2, 1) := dk_28 (by decide +kernel)
theorem dX2_doWithout_16 : decode cX2_doWithout 16 = .ok (.aaload, 1) := dk_50 (by decide +kernel)
theorem dX2_doWithout_17 : decode cX2_doWithout 17 = .ok (.dup, 1) := dk_89 (by decide +kernel)
theorem dX2_doWithout_18 : decode cX2_doWithout 18 = .ok (.getfield 124, 3) := dk_180 (x := 0) (y := 124) (by decide +kernel) rfl
theorem dX2_doWithout_21 : decode cX2_doWithout 21 = .ok (.iconst 1, 1) := dk_4 (by decide +kernel)
theorem dX2_doWithout_22 : decode cX2_doWithout 22 = .ok (.iload_n 1, 1) := dk_27 (by decide +kernel)
theorem dX2_doWithout_23 : decode cX2_doWithout 23 = .ok (.ishl, 1) := dk_120 (by decide +kernel)
theorem dX2_doWithout_24 : decode cX2_doWithout 24 = .ok (.iconst (-1), 1) := dk_2 (by decide +kernel)
theorem dX2_doWithout_25 : decode cX2_doWithout 25 = .ok (.ixor, 1) := dk_130 (by decide +kernel)
theorem dX2_doWithout_26 : decode cX2_doWithout 26 = .ok (.iand, 1) := dk_126 (by decide +kernel)
theorem dX2_doWithout_27 : decode cX2_doWithout 27 = .ok (.putfield 124, 3) := dk_181 (x := 0) (y := 124) (by decide +kernel) rfl
theorem dX2_doWithout_30 : decode cX2_doWithout 30 = .ok (.return_, 1) := dk_177 (by decide +kernel)
theorem dX2_doWithout_31 : decode cX2_doWithout 31 = .ok (.aload_n 0, 1) := dk_42 (by decide +kernel)
theorem dX2_doWithout_32 : decode cX2_doWithout 32 = .ok (.iconst 5, 1) := dk_8 (by decide +kernel)
theorem dX2_doWithout_33 : decode cX2_doWithout 33 = .ok (.iload_n 2, 1) := dk_28 (by decide +kernel)
theorem dX2_doWithout_34 : decode cX2_doWithout 34 = .ok (.aload_n 0, 1) := dk_42 (by decide +kernel)
theorem dX2_doWithout_35 : decode cX2_doWithout 35 = .ok (.getfield 20, 3) := dk_180 (x := 0) (y := 20) (by decide +kernel) rfl
theorem dX2_doWithout_38 : decode cX2_doWithout 38 = .ok (.iload_n 2, 1) := dk_28 (by decide +kernel)
theorem dX2_doWithout_39 : decode cX2_doWithout 39 = .ok (.aaload, 1) := dk_50 (by decide +kernel)
theorem dX2_doWithout_40 : decode cX2_doWithout 40 = .ok (.getfield 124, 3) := dk_180 (x := 0) (y := 124) (by decide +kernel) rfl
theorem dX2_doWithout_43 : decode cX2_doWithout 43 = .ok (.aload_n 0, 1) := dk_42 (by decide +kernel)
theorem dX2_doWithout_44 : decode cX2_doWithout 44 = .ok (.getfield 62, 3) := dk_180 (x := 0) (y := 62) (by decide +kernel) rfl
theorem dX2_doWithout_47 : decode cX2_doWithout 47 = .ok (.iconst (-1), 1) := dk_2 (by decide +kernel)
theorem dX2_doWithout_48 : decode cX2_doWithout 48 = .ok (.ixor, 1) := dk_130 (by decide +kernel)
theorem dX2_doWithout_49 : decode cX2_doWithout 49 = .ok (.iand, 1) := dk_126 (by decide +kernel)
theorem dX2_doWithout_50 : decode cX2_doWithout 50 = .ok (.invokevirtual 133, 3) := dk_182 (x := 0) (y := 133) (by decide +kernel) rfl
theorem dX2_doWithout_53 : decode cX2_doWithout 53 = .ok (.aload_n 0, 1) := dk_42 (by decide +kernel)
theorem dX2_doWithout_54 : decode cX2_doWithout 54 = .ok (.iload_n 2, 1) := dk_28 (by decide +kernel)
theorem dX2_doWithout_55 : decode cX2_doWithout 55 = .ok (.invokevirtual 144, 3) := dk_182 (x := 0) (y := 144) (by decide +kernel) rfl
theorem dX2_doWithout_58 : decode cX2_doWithout 58 = .ok (.aload_n 0, 1) := dk_42 (by decide +kernel)
theorem dX2_doWithout_59 : decode cX2_doWithout 59 = .ok (.iload_n 2, 1) := dk_28 (by decide +kernel)
theorem dX2_doWithout_60 : decode cX2_doWithout 60 = .ok (.invokevirtual 137, 3) := dk_182 (x := 0) (y := 137) (by decide +kernel) rfl
theorem dX2_doWithout_63 : decode cX2_doWithout 63 = .ok (.ifCond .eq 8, 3) := dk_153 (x := 0) (y := 8) (by decide +kernel) rfl
theorem dX2_doWithout_66 : decode cX2_doWithout 66 = .ok (.aload_n 0, 1) := dk_42 (by decide +kernel)
theorem dX2_doWithout_67 : decode cX2_doWithout 67 = .ok (.iload_n 2, 1) := dk_28 (by decide +kernel)
theorem dX2_doWithout_68 : decode cX2_doWithout 68 = .ok (.invokevirtual 141, 3) := dk_182 (x := 0) (y := 141) (by decide +kernel) rfl
theorem dX2_doWithout_71 : decode cX2_doWithout 71 = .ok (.return_, 1) := dk_177 (by decide +kernel)
def f_X2_doWithout (n : Nat) (o : Nat) (a1 : Int32) (a2 : Int32) (M : Mem) : Option Mem :=
  chk (isO M 2 o) <|
  obd (f_X9_has (mI M o 7) a2 M) fun r3 =>
  if r3 = 0 then (
    bnd (mR M o 2) fun o6 =>
    chk (isO M 102 o6) <|
    chk (inB a2 (mLn M o6)) <|
    bnd (mR M o6 (a2).toNatClampNeg) fun o10 =>
    chk (isO M 4 o10) <|
    obd (f_X2_sendToAll n o (5 : Int32) a2 ((mI M o10 2) &&& ((mI M o 9) ^^^ (-1 : Int32))) M) fun M14 =>
    chk (isO M14 2 o) <|
    obd (f_X2_beIdle o a2 M14) fun M17 =>
    chk (isO M17 2 o) <|
    obd (f_X2_mayAsk o a2 M17) fun r20 =>
    if r20 = 0 then (
      some M17
      ) else (
      obd (f_X2_startAsking n o a2 M17) fun M24 =>
      some M24
      )
    ) else (
    bnd (mR M o 2) fun o25 =>
    chk (isO M 102 o25) <|
    chk (inB a2 (mLn M o25)) <|
    bnd (mR M o25 (a2).toNatClampNeg) fun o29 =>
    chk (isO M 4 o29) <|
    bnd (sI M o29 2 ((mI M o29 2) &&& (((1 : Int32) <<< (a1 &&& 31)) ^^^ (-1 : Int32)))) fun M32 =>
    some M32
    )
theorem cd_X2_doWithout : (yX2_doWithout.cls ≠ "java/lang/invoke/MethodHandle" ∧ yX2_doWithout.cls ≠ "java/lang/invoke/VarHandle") ∧ (parseMethodDescriptor yX2_doWithout.desc).map (fun d => d.parameters.length) = some 2 := ⟨⟨by decide +kernel, by decide +kernel⟩, by decide +kernel⟩
theorem k_X2_doWithout (G : Gam) {n : Nat} {o : Nat} {a1 : Int32} {a2 : Int32} {M : Mem} {rv : Mem} (hf : f_X2_doWithout n o a1 a2 M = some rv) : Kt yX2_doWithout cX2_doWithout 3 none 5 122 G [.ref (gB G + o), .int a1, .int a2] M rv none := by
  refine Kt.of (by decide) (Nat.le_of_ble_eq_true rfl) ?_
  intro p l e R s m args below meth c X hr hlk hnm
  refine s_drop [0, 1, 2] (vs' := [(0, .ref (gB G + o)), (1, .int a1), (2, .int a2)]) rfl ?_
  rw [f_X2_doWithout] at hf
  refine s_aload_n X 0 dX2_doWithout_0 rfl rfl ?_
  obtain ⟨h1, hf⟩ := pk_chk hf
  refine s_getI X (ci := 2) (k := 7) rfl (Nat.le_of_ble_eq_true rfl) h1 wd434 (fun _ _ _ => rfl) dX2_doWithout_1 ?_
  refine s_iload_n X 2 dX2_doWithout_4 rfl rfl ?_
  obtain ⟨r3, hc2, hf⟩ := pk_obd hf
  refine s_callSN X (k_X9_has G hc2) (host := "QuorumGate") ns_8 wd712 wd713 wd126 cd_X9_has ⟨Nat.le_of_ble_eq_true rfl, Nat.le_of_ble_eq_true rfl⟩ (Nat.le_of_ble_eq_true rfl) dX2_doWithout_5 ?_
  have hs4 := pk_ite hf
  clear hf
  refine s_if_eq X (tgt := 31) dX2_doWithout_8 rfl (fun c5 => ?_) (fun c5 => ?_)
  · have hf := hs4.1 c5
    refine s_aload_n X 0 dX2_doWithout_31 rfl rfl ?_
    refine s_iconst X (v := (5 : Int32)) dX2_doWithout_32 rfl ?_
    refine s_iload_n X 2 dX2_doWithout_33 rfl rfl ?_
    refine s_aload_n X 0 dX2_doWithout_34 rfl rfl ?_
    obtain ⟨o6, e7, hf⟩ := pk_bnd hf
    obtain ⟨h8, hf⟩ := pk_chk hf
    refine s_getR X (ci := 2) (k := 2) rfl (Nat.le_of_ble_eq_true rfl) h1 wd423 (fun _ _ _ => rfl) (e7 ▸ h8) dX2_doWithout_35 (e7 ▸ ?_)
    refine s_iload_n X 2 dX2_doWithout_38 rfl rfl ?_
    obtain ⟨h9, hf⟩ := pk_chk hf
    obtain ⟨o10, e11, hf⟩ := pk_bnd hf
    obtain ⟨h12, hf⟩ := pk_chk hf
    refine s_aald X h8 h9 (e11 ▸ h12) dX2_doWithout_39 (e11 ▸ ?_)
    refine s_getI X (ci := 4) (k := 2) rfl (Nat.le_of_ble_eq_true rfl) h12 wd334 (fun _ _ _ => rfl) dX2_doWithout_40 ?_
    refine s_aload_n X 0 dX2_doWithout_43 rfl rfl ?_
    refine s_getI X (ci := 2) (k := 9) rfl (Nat.le_of_ble_eq_true rfl) h1 wd441 (fun _ _ _ => rfl) dX2_doWithout_44 ?_
    refine s_iconst X (v := (-1 : Int32)) dX2_doWithout_47 rfl ?_
    refine s_ixor X dX2_doWithout_48 ?_
    refine s_iand X dX2_doWithout_49 ?_
    obtain ⟨M14, hc13, hf⟩ := pk_obd hf
    refine s_callV X (ci := 2) (k_X2_sendToAll G hc13) rfl h1 wd941 wd943 wd12 wd944 wd130 cd_X2_sendToAll ⟨Nat.le_of_ble_eq_true rfl, Nat.le_of_ble_eq_true rfl⟩ (Nat.le_of_ble_eq_true rfl) dX2_doWithout_50 ?_
    refine s_aload_n X 0 dX2_doWithout_53 rfl rfl ?_
    refine s_iload_n X 2 dX2_doWithout_54 rfl rfl ?_
    obtain ⟨h15, hf⟩ := pk_chk hf
    obtain ⟨M17, hc16, hf⟩ := pk_obd hf
    refine s_callV X (ci := 2) (k_X2_beIdle G hc16) rfl h15 wd971 wd973 wd13 wd974 wd130 cd_X2_beIdle ⟨Nat.le_of_ble_eq_true rfl, Nat.le_of_ble_eq_true rfl⟩ (Nat.le_of_ble_eq_true rfl) dX2_doWithout_55 ?_
    refine s_aload_n X 0 dX2_doWithout_58 rfl rfl ?_
    refine s_iload_n X 2 dX2_doWithout_59 rfl rfl ?_
    obtain ⟨h18, hf⟩ := pk_chk hf
    obtain ⟨r20, hc19, hf⟩ := pk_obd hf
    refine s_callV X (ci := 2) (k_X2_mayAsk G hc19) rfl h18 wd1112 wd932 wd933 wd934 wd130 cd_X2_mayAsk ⟨Nat.le_of_ble_eq_true rfl, Nat.le_of_ble_eq_true rfl⟩ (Nat.le_of_ble_eq_true rfl) dX2_doWithout_60 ?_
    have hs21 := pk_ite hf
    clear hf
    refine s_if_eq X (tgt := 71) dX2_doWithout_63 rfl (fun c22 => ?_) (fun c22 => ?_)
    · have hf := hs21.1 c22
      cases hf
      exact s_vret X hr hlk dX2_doWithout_71
    · have hf := hs21.2 c22
      refine s_aload_n X 0 dX2_doWithout_66 rfl rfl ?_
      refine s_iload_n X 2 dX2_doWithout_67 rfl rfl ?_
      obtain ⟨M24, hc23, hf⟩ := pk_obd hf
      refine s_callV X (ci := 2) (k_X2_startAsking G hc23) rfl h18 wd1113 wd937 wd938 wd939 wd130 cd_X2_startAsking ⟨Nat.le_of_ble_eq_true rfl, Nat.le_of_ble_eq_true rfl⟩ (Nat.le_of_ble_eq_true rfl) dX2_doWithout_68 ?_
      cases hf
      exact s_vret X hr hlk dX2_doWithout_71
  · have hf := hs4.2 c5
    refine s_aload_n X 0 dX2_doWithout_11 rfl rfl ?_
    obtain ⟨o25, e26, hf⟩ := pk_bnd hf
    obtain ⟨h27, hf⟩ := pk_chk hf
    refine s_getR X (ci := 2) (k := 2) rfl (Nat.le_of_ble_eq_true rfl) h1 wd423 (fun _ _ _ => rfl) (e26 ▸ h27) dX2_doWithout_12 (e26 ▸ ?_)
    refine s_iload_n X 2 dX2_doWithout_15 rfl rfl ?_
    obtain ⟨h28, hf⟩ := pk_chk hf
    obtain ⟨o29, e30, hf⟩ := pk_bnd hf
    obtain ⟨h31, hf⟩ := pk_chk hf
    refine s_aald X h27 h28 (e30 ▸ h31) dX2_doWithout_16 (e30 ▸ ?_)
    refine s_dup X dX2_doWithout_17 rfl ?_
    refine s_getI X (ci := 4) (k := 2) rfl (Nat.le_of_ble_eq_true rfl) h31 wd334 (fun _ _ _ => rfl) dX2_doWithout_18 ?_
    refine s_iconst X (v := (1 : Int32)) dX2_doWithout_21 rfl ?_
    refine s_iload_n X 1 dX2_doWithout_22 rfl rfl ?_
    refine s_ishl X dX2_doWithout_23 ?_
    refine s_iconst X (v := (-1 : Int32)) dX2_doWithout_24 rfl ?_
    refine s_ixor X dX2_doWithout_25 ?_
    refine s_iand X dX2_doWithout_26 ?_
    obtain ⟨M32, e33, hf⟩ := pk_bnd hf
    refine s_putI X (ci := 4) (k := 2) rfl (Nat.le_of_ble_eq_true rfl) h31 wd334 (fun _ _ _ => rfl) rfl rfl e33 dX2_doWithout_27 ?_
    have h34 := io_sI e33 h1
    have h35 := io_sI e33 h27
    have h36 := io_sI e33 h31
    cases hf
    exact s_vret X hr hlk dX2_doWithout_30
theorem dX2_breakNode_0 : decode cX2_breakNode 0 = .ok (.aload_n 0, 1) := dk_42 (by decide +kernel)
theorem dX2_breakNode_1 : decode cX2_breakNode 1 = .ok (.dup, 1) := dk_89 (by decide +kernel)
theorem dX2_breakNode_2 : decode cX2_breakNode 2 = .ok (.getfield 62, 3) := dk_180 (x := 0) (y := 62) (by decide +kernel) rfl
theorem dX2_breakNode_5 : decode cX2_breakNode 5 = .ok (.iconst 1, 1) := dk_4 (by decide +kernel)
theorem dX2_breakNode_6 : decode cX2_breakNode 6 = .ok (.iload_n 1, 1) := dk_27 (by decide +kernel)
theorem dX2_breakNode_7 : decode cX2_breakNode 7 = .ok (.ishl, 1) := dk_120 (by decide +kernel)
theorem dX2_breakNode_8 : decode cX2_breakNode 8 = .ok (.ior, 1) := dk_128 (by decide +kernel)
theorem dX2_breakNode_9 : decode cX2_breakNode 9 = .ok (.putfield 62, 3) := dk_181 (x := 0) (y := 62) (by decide +kernel) rfl
theorem dX2_breakNode_12 : decode cX2_breakNode 12 = .ok (.aload_n 0, 1) := dk_42 (by decide +kernel)
theorem dX2_breakNode_13 : decode cX2_breakNode 13 = .ok (.invokevirtual 151, 3) := dk_182 (x := 0) (y := 151) (by decide +kernel) rfl
theorem dX2_breakNode_16 : decode cX2_breakNode 16 = .ok (.aload_n 0, 1) := dk_42 (by decide +kernel)
theorem dX2_breakNode_17 : decode cX2_breakNode 17 = .ok (.getfield 20, 3) := dk_180 (x := 0) (y := 20) (by decide +kernel) rfl
theorem dX2_breakNode_20 : decode cX2_breakNode 20 = .ok (.iload_n 1, 1) := dk_27 (by decide +kernel)
theorem dX2_breakNode_21 : decode cX2_breakNode 21 = .ok (.aaload, 1) := dk_50 (by decide +kernel)
theorem dX2_breakNode_22 : decode cX2_breakNode 22 = .ok (.invokevirtual 154, 3) := dk_182 (x := 0) (y := 154) (by decide +kernel) rfl
theorem dX2_breakNode_25 : decode cX2_breakNode 25 = .ok (.iconst 0, 1) := dk_3 (by decide +kernel)
theorem dX2_breakNode_26 : decode cX2_breakNode 26 = .ok (.istore_n 2, 1) := dk_61 (by decide +kernel)
theorem dX2_breakNode_27 : decode cX2_breakNode 27 = .ok (.iload_n 2, 1) := dk_28 (by decide +kernel)
theorem dX2_breakNode_28 : decode cX2_breakNode 28 = .ok (.aload_n 0, 1) := dk_42 (by decide +kernel)
theorem dX2_breakNode_29 : decode cX2_breakNode 29 = .ok (.getfield 43, 3) := dk_180 (x := 0) (y := 43) (by decide +kernel) rfl
theorem dX2_breakNode_32 : decode cX2_breakNode 32 = .ok (.getfield 94, 3) := dk_180 (x := 0) (y := 94) (by decide +kernel) rfl
theorem dX2_breakNode_35 : decode cX2_breakNode 35 = .ok (.if_icmp .ge 27, 3) := dk_162 (x := 0) (y := 27) (by decide +kernel) rfl
theorem dX2_breakNode_38 : decode cX2_breakNode 38 = .ok (.aload_n 0, 1) := dk_42 (by decide +kernel)
theorem dX2_breakNode_39 : decode cX2_breakNode 39 = .ok (.getfield 12, 3) := dk_180 (x := 0) (y := 12) (by decide +kernel) rfl
theorem dX2_breakNode_42 : decode cX2_breakNode 42 = .ok (.iload_n 1, 1) := dk_27 (by decide +kernel)
theorem dX2_breakNode_43 : decode cX2_breakNode 43 = .ok (.iload_n 2, 1) := dk_28 (by decide +kernel)
theorem dX2_breakNode_44 : decode cX2_breakNode 44 = .ok (.invokevirtual 157, 3) := dk_182 (x := 0) (y := 157) (by decide +kernel) rfl
theorem dX2_breakNode_47 : decode cX2_breakNode 47 = .ok (.aload_n 0, 1) := dk_42 (by decide +kernel)
theorem dX2_breakNode_48 : decode cX2_breakNode 48 = .ok (.getfield 12, 3) := dk_180 (x := 0) (y := 12) (by decide +kernel) rfl
theorem dX2_breakNode_51 : decode cX2_breakNode 51 = .ok (.iload_n 2, 1) := dk_28 (by decide +kernel)
theorem dX2_breakNode_52 : decode cX2_breakNode 52 = .ok (.iload_n 1, 1) := dk_27 (by decide +kernel)
theorem dX2_breakNode_53 : decode cX2_breakNode 53 = .ok (.invokevirtual 157, 3) := dk_182 (x := 0) (y := 157) (by decide +kernel) rfl
theorem dX2_breakNode_56 : decode cX2_breakNode 56 = .ok (.iinc 2 1, 3) := dk_132 (x := 2) (y := 1) (by decide +kernel) rfl
theorem dX2_breakNode_59 : decode cX2_breakNode 59 = .ok (.goto (-32), 3) := dk_167 (x := 255) (y := 224) (by decide +kernel) rfl
theorem dX2_breakNode_62 : decode cX2_breakNode 62 = .ok (.iconst 0, 1) := dk_3 (by decide +kernel)
theorem dX2_breakNode_63 : decode cX2_breakNode 63 = .ok (.istore_n 2, 1) := dk_61 (by decide +kernel)
theorem dX2_breakNode_64 : decode cX2_breakNode 64 = .ok (.iload_n 2, 1) := dk_28 (by decide +kernel)
theorem dX2_breakNode_65 : decode cX2_breakNode 65 = .ok (.aload_n 0, 1) := dk_42 (by decide +kernel)
theorem dX2_breakNode_66 : decode cX2_breakNode 66 = .ok (.getfield 43, 3) := dk_180 (x := 0) (y := 43) (by decide +kernel) rfl
theorem dX2_breakNode_69 : decode cX2_breakNode 69 = .ok (.getfield 94, 3) := dk_180 (x := 0) (y := 94) (by decide +kernel) rfl
theorem dX2_breakNode_72 : decode cX2_breakNode 72 = .ok (.if_icmp .ge 15, 3) := dk_162 (x := 0) (y := 15) (by decide +kernel) rfl
theorem dX2_breakNode_75 : decode cX2_breakNode 75 = .ok (.aload_n 0, 1) := dk_42 (by decide +kernel)
theorem dX2_breakNode_76 : decode cX2_breakNode 76 = .ok (.iload_n 1, 1) := dk_27 (by decide +kernel)
theorem dX2_breakNode_77 : decode cX2_breakNode 77 = .ok (.iload_n 2, 1) := dk_28 (by decide +kernel)
theorem dX2_breakNode_78 : decode cX2_breakNode 78 = .ok (.invokevirtual 161, 3) := dk_182 (x := 0) (y := 161) (by decide +kernel) rfl
theorem dX2_breakNode_81 : decode cX2_breakNode 81 = .ok (.iinc 2 1, 3) := dk_132 (x := 2) (y := 1) (by decide +kernel) rfl
theorem dX2_breakNode_84 : decode cX2_breakNode 84 = .ok (.goto (-20), 3) := dk_167 (x := 255) (y := 236) (by decide +kernel) rfl
theorem dX2_breakNode_87 : decode cX2_breakNode 87 = .ok (.iconst 0, 1) := dk_3 (by decide +kernel)
theorem dX2_breakNode_88 : decode cX2_breakNode 88 = .ok (.istore_n 2, 1) := dk_61 (by decide +kernel)
theorem dX2_breakNode_89 : decode cX2_breakNode 89 = .ok (.iload_n 2, 1) := dk_28 (by decide +kernel)
theorem dX2_breakNode_90 : decode cX2_breakNode 90 = .ok (.aload_n 0, 1) := dk_42 (by decide +kernel)
theorem dX2_breakNode_91 : decode cX2_breakNode 91 = .ok (.getfield 43, 3) := dk_180 (x := 0) (y := 43) (by decide +kernel) rfl
theorem dX2_breakNode_94 : decode cX2_breakNode 94 = .ok (.getfield 94, 3) := dk_180 (x := 0) (y := 94) (by decide +kernel) rfl
theorem dX2_breakNode_97 : decode cX2_breakNode 97 = .ok (.if_icmp .ge 31, 3) := dk_162 (x := 0) (y := 31) (by decide +kernel) rfl
theorem dX2_breakNode_100 : decode cX2_breakNode 100 = .ok (.aload_n 0, 1) := dk_42 (by decide +kernel)
theorem dX2_breakNode_101 : decode cX2_breakNode 101 = .ok (.getfield 20, 3) := dk_180 (x := 0) (y := 20) (by decide +kernel) rfl
theorem dX2_breakNode_104 : decode cX2_breakNode 104 = .ok (.iload_n 2, 1) := dk_28 (by decide +kernel)
theorem dX2_breakNode_105 : decode cX2_breakNode 105 = .ok (.aaload, 1) := dk_50 (by decide +kernel)
theorem dX2_breakNode_106 : decode cX2_breakNode 106 = .ok (.getfield 124, 3) := dk_180 (x := 0) (y := 124) (by decide +kernel) rfl
theorem dX2_breakNode_109 : decode cX2_breakNode 109 = .ok (.iload_n 1, 1) := dk_27 (by decide +kernel)
theorem dX2_breakNode_110 : decode cX2_breakNode 110 = .ok (.invokestatic 108, 3) := dk_184 (x := 0) (y := 108) (by decide +kernel) rfl
theorem dX2_breakNode_113 : decode cX2_breakNode 113 = .ok (.ifCond .eq 9, 3) := dk_153 (x := 0) (y := 9) (by decide +kernel) rfl
theorem dX2_breakNode_116 : decode cX2_breakNode 116 = .ok (.aload_n 0, 1) := dk_42 (by decide +kernel)
theorem dX2_breakNode_117 : decode cX2_breakNode 117 = .ok (.iload_n 1, 1) := dk_27 (by decide +kernel)
theorem dX2_breakNode_118 : decode cX2_breakNode 118 = .ok (.iload_n 2, 1) := dk_28 (by decide +kernel)
theorem dX2_breakNode_119 : decode cX2_breakNode 119 = .ok (.invokevirtual 164, 3) := dk_182 (x := 0) (y := 164) (by decide +kernel) rfl
theorem dX2_breakNode_122 : decode cX2_breakNode 122 = .ok (.iinc 2 1, 3) := dk_132 (x := 2) (y := 1) (by decide +kernel) rfl
theorem dX2_breakNode_125 : decode cX2_breakNode 125 = .ok (.goto (-36), 3) := dk_167 (x := 255) (y := 220) (by decide +kernel) rfl
theorem dX2_breakNode_128 : decode cX2_breakNode 128 = .ok (.return_, 1) := dk_177 (by decide +kernel)
def f_X2_breakNode_89 : Nat → Nat → Int32 → Int32 → Mem → Option Mem
  | 0, _, _, _, _ => none
  | n + 1, v0, v1, v2, M =>
    chk (isO M 2 v0) <|
    bnd (mR M v0 0) fun o2 =>
    chk (isO M 7 o2) <|
    if (mI M o2 3) ≤ v2 then (
      some M
      ) else (
      bnd (mR M v0 2) fun o7 =>
      chk (isO M 102 o7) <|
      chk (inB v2 (mLn M o7)) <|
      bnd (mR M o7 (v2).toNatClampNeg) fun o11 =>
      chk (isO M 4 o11) <|
      obd (f_X9_has (mI M o11 2) v1 M) fun r15 =>
      if r15 = 0 then (
        bnd (v2 + (1 : Int32)) fun x18 =>
        f_X2_breakNode_89 n v0 v1 x18 M
        ) else (
        obd (f_X2_doWithout n v0 v1 v2 M) fun M21 =>
        bnd (v2 + (1 : Int32)) fun x22 =>
        f_X2_breakNode_89 n v0 v1 x22 M21
        )
      )
def f_X2_breakNode_64 : Nat → Nat → Int32 → Int32 → Mem → Option Mem
  | 0, _, _, _, _ => none
  | n + 1, v0, v1, v2, M =>
    chk (isO M 2 v0) <|
    bnd (mR M v0 0) fun o2 =>
    chk (isO M 7 o2) <|
    if (mI M o2 3) ≤ v2 then (
      f_X2_breakNode_89 n v0 v1 (0 : Int32) M
      ) else (
      obd (f_X2_forget n v0 v1 v2 M) fun M8 =>
      bnd (v2 + (1 : Int32)) fun x9 =>
      f_X2_breakNode_64 n v0 v1 x9 M8
      )
def f_X2_breakNode_27 : Nat → Nat → Int32 → Int32 → Mem → Option Mem
  | 0, _, _, _, _ => none
  | n + 1, v0, v1, v2, M =>
    chk (isO M 2 v0) <|
    bnd (mR M v0 0) fun o2 =>
    chk (isO M 7 o2) <|
    if (mI M o2 3) ≤ v2 then (
      f_X2_breakNode_64 n v0 v1 (0 : Int32) M
      ) else (
      bnd (mR M v0 1) fun o7 =>
      chk (isO M 5 o7) <|
      obd (f_X5_drop n o7 v1 v2 M) fun M11 =>
      chk (isO M11 2 v0) <|
      bnd (mR M11 v0 1) fun o13 =>
      chk (isO M11 5 o13) <|
      obd (f_X5_drop n o13 v2 v1 M11) fun M17 =>
      bnd (v2 + (1 : Int32)) fun x18 =>
      f_X2_breakNode_27 n v0 v1 x18 M17
      )
def f_X2_breakNode (n : Nat) (o : Nat) (a1 : Int32) (M : Mem) : Option Mem :=
  chk (isO M 2 o) <|
  bnd (sI M o 9 ((mI M o 9) ||| ((1 : Int32) <<< (a1 &&& 31)))) fun M2 =>
  obd (f_X2_renewQuorums n o M2) fun M6 =>
  chk (isO M6 2 o) <|
  bnd (mR M6 o 2) fun o8 =>
  chk (isO M6 102 o8) <|
  chk (inB a1 (mLn M6 o8)) <|
  bnd (mR M6 o8 (a1).toNatClampNeg) fun o12 =>
  chk (isO M6 4 o12) <|
  obd (f_X4_forgetAll o12 M6) fun M16 =>
  f_X2_breakNode_27 n o a1 (0 : Int32) M16
theorem cd_X2_breakNode : (yX2_breakNode.cls ≠ "java/lang/invoke/MethodHandle" ∧ yX2_breakNode.cls ≠ "java/lang/invoke/VarHandle") ∧ (parseMethodDescriptor yX2_breakNode.desc).map (fun d => d.parameters.length) = some 1 := ⟨⟨by decide +kernel, by decide +kernel⟩, by decide +kernel⟩
section
variable {p : Program} {l : Launch} {e : Env} {R : Room} {s : State} {m : MethodId} {args : Array Value} {below : List Frame} {meth : Method} {c : Code} {G : Gam} {M0 : Mem}
theorem l_X2_breakNode_89 {rv : Mem} (X : Cx p R s m args c G M0 cX2_breakNode yX2_breakNode.cls 3 6 144) (hr : meth.sig.returnType = none) (hlk : meth.locks = false) (hnm : meth.name = "breakNode") : ∀ {n : Nat} (v0 : Nat) (v1 : Int32) (v2 : Int32) (M : Mem), f_X2_breakNode_89 n v0 v1 v2 M = some rv → Sg p l e R s m args below meth c (Qm below G args s none M0 rv) G M0 3 89 [(0, .ref (gB G + v0)), (1, .int v1), (2, .int v2)] [] M := by
  intro n
  induction n with
  | zero => intro v0 v1 v2 M hf; exact (pk_none hf).elim
  | succ n ih =>
    intro v0 v1 v2 M hf
    rw [f_X2_breakNode_89] at hf
    refine s_iload_n X 2 dX2_breakNode_89 rfl rfl ?_
    refine s_aload_n X 0 dX2_breakNode_90 rfl rfl ?_
    obtain ⟨h1, hf⟩ := pk_chk hf
    obtain ⟨o2, e3, hf⟩ := pk_bnd hf
    obtain ⟨h4, hf⟩ := pk_chk hf
    refine s_getR X (ci := 2) (k := 0) rfl (Nat.le_of_ble_eq_true rfl) h1 wd416 (fun _ _ _ => rfl) (e3 ▸ h4) dX2_breakNode_91 (e3 ▸ ?_)
    refine s_getI X (ci := 7) (k := 3) rfl (Nat.le_of_ble_eq_true rfl) h4 wd166 (fun _ _ _ => rfl) dX2_breakNode_94 ?_
    have hs5 := pk_ite hf
    clear hf
    refine s_icmp_ge X (tgt := 128) dX2_breakNode_97 rfl (fun c6 => ?_) (fun c6 => ?_)
    · have hf := hs5.1 c6
      cases hf
      exact s_vret X hr hlk dX2_breakNode_128
    · have hf := hs5.2 c6
      refine s_aload_n X 0 dX2_breakNode_100 rfl rfl ?_
      obtain ⟨o7, e8, hf⟩ := pk_bnd hf
      obtain ⟨h9, hf⟩ := pk_chk hf
      refine s_getR X (ci := 2) (k := 2) rfl (Nat.le_of_ble_eq_true rfl) h1 wd423 (fun _ _ _ => rfl) (e8 ▸ h9) dX2_breakNode_101 (e8 ▸ ?_)
      refine s_iload_n X 2 dX2_breakNode_104 rfl rfl ?_
      obtain ⟨h10, hf⟩ := pk_chk hf
      obtain ⟨o11, e12, hf⟩ := pk_bnd hf
      obtain ⟨h13, hf⟩ := pk_chk hf
      refine s_aald X h9 h10 (e12 ▸ h13) dX2_breakNode_105 (e12 ▸ ?_)
      refine s_getI X (ci := 4) (k := 2) rfl (Nat.le_of_ble_eq_true rfl) h13 wd334 (fun _ _ _ => rfl) dX2_breakNode_106 ?_
      refine s_iload_n X 1 dX2_breakNode_109 rfl rfl ?_
      obtain ⟨r15, hc14, hf⟩ := pk_obd hf
      refine s_callSN X (k_X9_has G hc14) (host := "QuorumGate") ns_8 wd712 wd713 wd126 cd_X9_has ⟨Nat.le_of_ble_eq_true rfl, Nat.le_of_ble_eq_true rfl⟩ (Nat.le_of_ble_eq_true rfl) dX2_breakNode_110 ?_
      have hs16 := pk_ite hf
      clear hf
      refine s_if_eq X (tgt := 122) dX2_breakNode_113 rfl (fun c17 => ?_) (fun c17 => ?_)
      · have hf := hs16.1 c17
        obtain ⟨x18, e19, hf⟩ := pk_bnd hf
        refine s_iinc X (vs' := [(0, .ref (gB G + v0)), (1, .int v1), (2, .int x18)]) 2 dX2_breakNode_122 rfl (v := x18) e19.symm (Nat.le_of_ble_eq_true rfl) [1, 2, 0] rfl ?_
        refine s_goto X (tgt := 89) dX2_breakNode_125 rfl ?_
        exact ih _ _ _ _ hf
      · have hf := hs16.2 c17
        refine s_aload_n X 0 dX2_breakNode_116 rfl rfl ?_
        refine s_iload_n X 1 dX2_breakNode_117 rfl rfl ?_
        refine s_iload_n X 2 dX2_breakNode_118 rfl rfl ?_
        obtain ⟨M21, hc20, hf⟩ := pk_obd hf
        refine s_callV X (ci := 2) (k_X2_doWithout G hc20) rfl h1 wd1108 wd1110 wd27 wd1111 wd130 cd_X2_doWithout ⟨Nat.le_of_ble_eq_true rfl, Nat.le_of_ble_eq_true rfl⟩ (Nat.le_of_ble_eq_true rfl) dX2_breakNode_119 ?_
        obtain ⟨x22, e23, hf⟩ := pk_bnd hf
        refine s_iinc X (vs' := [(0, .ref (gB G + v0)), (1, .int v1), (2, .int x22)]) 2 dX2_breakNode_122 rfl (v := x22) e23.symm (Nat.le_of_ble_eq_true rfl) [1, 2, 0] rfl ?_
        refine s_goto X (tgt := 89) dX2_breakNode_125 rfl ?_
        exact ih _ _ _ _ hf
theorem l_X2_breakNode_64 {rv : Mem} (X : Cx p R s m args c G M0 cX2_breakNode yX2_breakNode.cls 3 6 144) (hr : meth.sig.returnType = none) (hlk : meth.locks = false) (hnm : meth.name = "breakNode") : ∀ {n : Nat} (v0 : Nat) (v1 : Int32) (v2 : Int32) (M : Mem), f_X2_breakNode_64 n v0 v1 v2 M = some rv → Sg p l e R s m args below meth c (Qm below G args s none M0 rv) G M0 3 64 [(0, .ref (gB G + v0)), (1, .int v1), (2, .int v2)] [] M := by
  intro n
  induction n with
  | zero => intro v0 v1 v2 M hf; exact (pk_none hf).elim
  | succ n ih =>
    intro v0 v1 v2 M hf
    rw [f_X2_breakNode_64] at hf
    refine s_iload_n X 2 dX2_breakNode_64 rfl rfl ?_
    refine s_aload_n X 0 dX2_breakNode_65 rfl rfl ?_
    obtain ⟨h1, hf⟩ := pk_chk hf
    obtain ⟨o2, e3, hf⟩ := pk_bnd hf
    obtain ⟨h4, hf⟩ := pk_chk hf
    refine s_getR X (ci := 2) (k := 0) rfl (Nat.le_of_ble_eq_true rfl) h1 wd416 (fun _ _ _ => rfl) (e3 ▸ h4) dX2_breakNode_66 (e3 ▸ ?_)
    refine s_getI X (ci := 7) (k := 3) rfl (Nat.le_of_ble_eq_true rfl) h4 wd166 (fun _ _ _ => rfl) dX2_breakNode_69 ?_
    have hs5 := pk_ite hf
    clear hf
    refine s_icmp_ge X (tgt := 87) dX2_breakNode_72 rfl (fun c6 => ?_) (fun c6 => ?_)
    · have hf := hs5.1 c6
      refine s_iconst X (v := (0 : Int32)) dX2_breakNode_87 rfl ?_
      refine s_istore_n X (vs' := [(0, .ref (gB G + v0)), (1, .int v1), (2, .int (0 : Int32))]) dX2_breakNode_88 rfl (Nat.le_of_ble_eq_true rfl) [1, 2, 0] rfl ?_
      exact l_X2_breakNode_89 X hr hlk hnm _ _ _ _ hf
    · have hf := hs5.2 c6
      refine s_aload_n X 0 dX2_breakNode_75 rfl rfl ?_
      refine s_iload_n X 1 dX2_breakNode_76 rfl rfl ?_
      refine s_iload_n X 2 dX2_breakNode_77 rfl rfl ?_
      obtain ⟨M8, hc7, hf⟩ := pk_obd hf
      refine s_callV X (ci := 2) (k_X2_forget G hc7) rfl h1 wd1104 wd1106 wd26 wd1107 wd130 cd_X2_forget ⟨Nat.le_of_ble_eq_true rfl, Nat.le_of_ble_eq_true rfl⟩ (Nat.le_of_ble_eq_true rfl) dX2_breakNode_78 ?_
      obtain ⟨x9, e10, hf⟩ := pk_bnd hf
      refine s_iinc X (vs' := [(0, .ref (gB G + v0)), (1, .int v1), (2, .int x9)]) 2 dX2_breakNode_81 rfl (v := x9) e10.symm (Nat.le_of_ble_eq_true rfl) [1, 2, 0] rfl ?_
      refine s_goto X (tgt := 64) dX2_breakNode_84 rfl ?_
      exact ih _ _ _ _ hf
theorem l_X2_breakNode_27 {rv : Mem} (X : Cx p R s m args c G M0 cX2_breakNode yX2_breakNode.cls 3 6 144) (hr : meth.sig.returnType = none) (hlk : meth.locks = false) (hnm : meth.name = "breakNode") : ∀ {n : Nat} (v0 : Nat) (v1 : Int32) (v2 : Int32) (M : Mem), f_X2_breakNode_27 n v0 v1 v2 M = some rv → Sg p l e R s m args below meth c (Qm below G args s none M0 rv) G M0 3 27 [(0, .ref (gB G + v0)), (1, .int v1), (2, .int v2)] [] M := by
  intro n
  induction n with
  | zero => intro v0 v1 v2 M hf; exact (pk_none hf).elim
  | succ n ih =>
    intro v0 v1 v2 M hf
    rw [f_X2_breakNode_27] at hf
    refine s_iload_n X 2 dX2_breakNode_27 rfl rfl ?_
    refine s_aload_n X 0 dX2_breakNode_28 rfl rfl ?_
    obtain ⟨h1, hf⟩ := pk_chk hf
    obtain ⟨o2, e3, hf⟩ := pk_bnd hf
    obtain ⟨h4, hf⟩ := pk_chk hf
    refine s_getR X (ci := 2) (k := 0) rfl (Nat.le_of_ble_eq_true rfl) h1 wd416 (fun _ _ _ => rfl) (e3 ▸ h4) dX2_breakNode_29 (e3 ▸ ?_)
    refine s_getI X (ci := 7) (k := 3) rfl (Nat.le_of_ble_eq_true rfl) h4 wd166 (fun _ _ _ => rfl) dX2_breakNode_32 ?_
    have hs5 := pk_ite hf
    clear hf
    refine s_icmp_ge X (tgt := 62) dX2_breakNode_35 rfl (fun c6 => ?_) (fun c6 => ?_)
    · have hf := hs5.1 c6
      refine s_iconst X (v := (0 : Int32)) dX2_breakNode_62 rfl ?_
      refine s_istore_n X (vs' := [(0, .ref (gB G + v0)), (1, .int v1), (2, .int (0 : Int32))]) dX2_breakNode_63 rfl (Nat.le_of_ble_eq_true rfl) [1, 2, 0] rfl ?_
      exact l_X2_breakNode_64 X hr hlk hnm _ _ _ _ hf
    · have hf := hs5.2 c6
      refine s_aload_n X 0 dX2_breakNode_38 rfl rfl ?_
      obtain ⟨o7, e8, hf⟩ := pk_bnd hf
      obtain ⟨h9, hf⟩ := pk_chk hf
      refine s_getR X (ci := 2) (k := 1) rfl (Nat.le_of_ble_eq_true rfl) h1 wd419 (fun _ _ _ => rfl) (e8 ▸ h9) dX2_breakNode_39 (e8 ▸ ?_)
      refine s_iload_n X 1 dX2_breakNode_42 rfl rfl ?_
      refine s_iload_n X 2 dX2_breakNode_43 rfl rfl ?_
      obtain ⟨M11, hc10, hf⟩ := pk_obd hf
      refine s_callV X (ci := 5) (k_X5_drop G hc10) rfl h9 wd1095 wd1096 wd1097 wd1098 wd131 cd_X5_drop ⟨Nat.le_of_ble_eq_true rfl, Nat.le_of_ble_eq_true rfl⟩ (Nat.le_of_ble_eq_true rfl) dX2_breakNode_44 ?_
      refine s_aload_n X 0 dX2_breakNode_47 rfl rfl ?_
      obtain ⟨h12, hf⟩ := pk_chk hf
      obtain ⟨o13, e14, hf⟩ := pk_bnd hf
      obtain ⟨h15, hf⟩ := pk_chk hf
      refine s_getR X (ci := 2) (k := 1) rfl (Nat.le_of_ble_eq_true rfl) h12 wd419 (fun _ _ _ => rfl) (e14 ▸ h15) dX2_breakNode_48 (e14 ▸ ?_)
      refine s_iload_n X 2 dX2_breakNode_51 rfl rfl ?_
      refine s_iload_n X 1 dX2_breakNode_52 rfl rfl ?_
      obtain ⟨M17, hc16, hf⟩ := pk_obd hf
      refine s_callV X (ci := 5) (k_X5_drop G hc16) rfl h15 wd1095 wd1096 wd1097 wd1098 wd131 cd_X5_drop ⟨Nat.le_of_ble_eq_true rfl, Nat.le_of_ble_eq_true rfl⟩ (Nat.le_of_ble_eq_true rfl) dX2_breakNode_53 ?_
      obtain ⟨x18, e19, hf⟩ := pk_bnd hf
      refine s_iinc X (vs' := [(0, .ref (gB G + v0)), (1, .int v1), (2, .int x18)]) 2 dX2_breakNode_56 rfl (v := x18) e19.symm (Nat.le_of_ble_eq_true rfl) [1, 2, 0] rfl ?_
      refine s_goto X (tgt := 27) dX2_breakNode_59 rfl ?_
      exact ih _ _ _ _ hf
end
theorem k_X2_breakNode (G : Gam) {n : Nat} {o : Nat} {a1 : Int32} {M : Mem} {rv : Mem} (hf : f_X2_breakNode n o a1 M = some rv) : Kt yX2_breakNode cX2_breakNode 3 none 6 144 G [.ref (gB G + o), .int a1] M rv none := by
  refine Kt.of (by decide) (Nat.le_of_ble_eq_true rfl) ?_
  intro p l e R s m args below meth c X hr hlk hnm
  refine s_drop [0, 1] (vs' := [(0, .ref (gB G + o)), (1, .int a1)]) rfl ?_
  rw [f_X2_breakNode] at hf
  refine s_aload_n X 0 dX2_breakNode_0 rfl rfl ?_
  refine s_dup X dX2_breakNode_1 rfl ?_
  obtain ⟨h1, hf⟩ := pk_chk hf
  refine s_getI X (ci := 2) (k := 9) rfl (Nat.le_of_ble_eq_true rfl) h1 wd441 (fun _ _ _ => rfl) dX2_breakNode_2 ?_
  refine s_iconst X (v := (1 : Int32)) dX2_breakNode_5 rfl ?_
  refine s_iload_n X 1 dX2_breakNode_6 rfl rfl ?_
  refine s_ishl X dX2_breakNode_7 ?_
  refine s_ior X dX2_breakNode_8 ?_
  obtain ⟨M2, e3, hf⟩ := pk_bnd hf
  refine s_putI X (ci := 2) (k := 9) rfl (Nat.le_of_ble_eq_true rfl) h1 wd441 (fun _ _ _ => rfl) rfl rfl e3 dX2_breakNode_9 ?_
  have h4 := io_sI e3 h1
  refine s_aload_n X 0 dX2_breakNode_12 rfl rfl ?_
  obtain ⟨M6, hc5, hf⟩ := pk_obd hf
  refine s_callV X (ci := 2) (k_X2_renewQuorums G hc5) rfl h4 wd1086 wd1088 wd25 wd1089 wd130 cd_X2_renewQuorums ⟨Nat.le_of_ble_eq_true rfl, Nat.le_of_ble_eq_true rfl⟩ (Nat.le_of_ble_eq_true rfl) dX2_breakNode_13 ?_
  refine s_aload_n X 0 dX2_breakNode_16 rfl rfl ?_
  obtain ⟨h7, hf⟩ := pk_chk hf
  obtain ⟨o8, e9, hf⟩ := pk_bnd hf
  obtain ⟨h10, hf⟩ := pk_chk hf
  refine s_getR X (ci := 2) (k := 2) rfl (Nat.le_of_ble_eq_true rfl) h7 wd423 (fun _ _ _ => rfl) (e9 ▸ h10) dX2_breakNode_17 (e9 ▸ ?_)
  refine s_iload_n X 1 dX2_breakNode_20 rfl rfl ?_
  obtain ⟨h11, hf⟩ := pk_chk hf
  obtain ⟨o12, e13, hf⟩ := pk_bnd hf
  obtain ⟨h14, hf⟩ := pk_chk hf
  refine s_aald X h10 h11 (e13 ▸ h14) dX2_breakNode_21 (e13 ▸ ?_)
  obtain ⟨M16, hc15, hf⟩ := pk_obd hf
  refine s_callV X (ci := 4) (k_X4_forgetAll G hc15) rfl h14 wd1094 wd608 wd609 wd610 wd133 cd_X4_forgetAll ⟨Nat.le_of_ble_eq_true rfl, Nat.le_of_ble_eq_true rfl⟩ (Nat.le_of_ble_eq_true rfl) dX2_breakNode_22 ?_
  refine s_iconst X (v := (0 : Int32)) dX2_breakNode_25 rfl ?_
  refine s_istore_n X (vs' := [(0, .ref (gB G + o)), (1, .int a1), (2, .int (0 : Int32))]) dX2_breakNode_26 rfl (Nat.le_of_ble_eq_true rfl) [1, 2, 0] rfl ?_
  exact l_X2_breakNode_27 X hr hlk hnm _ _ _ _ hf
theorem dX9_breakDown_0 : decode cX9_breakDown 0 = .ok (.aload_n 0, 1) := dk_42 (by decide +kernel)
theorem dX9_breakDown_1 : decode cX9_breakDown 1 = .ok (.getfield 10, 3) := dk_180 (x := 0) (y := 10) (by decide +kernel) rfl
theorem dX9_breakDown_4 : decode cX9_breakDown 4 = .ok (.iload_n 1, 1) := dk_27 (by decide +kernel)
theorem dX9_breakDown_5 : decode cX9_breakDown 5 = .ok (.invokevirtual 71, 3) := dk_182 (x := 0) (y := 71) (by decide +kernel) rfl
theorem dX9_breakDown_8 : decode cX9_breakDown 8 = .ok (.ifCond .eq 28, 3) := dk_153 (x := 0) (y := 28) (by decide +kernel) rfl
theorem dX9_breakDown_11 : decode cX9_breakDown 11 = .ok (.aload_n 0, 1) := dk_42 (by decide +kernel)
theorem dX9_breakDown_12 : decode cX9_breakDown 12 = .ok (.getfield 28, 3) := dk_180 (x := 0) (y := 28) (by decide +kernel) rfl
theorem dX9_breakDown_15 : decode cX9_breakDown 15 = .ok (.iload_n 1, 1) := dk_27 (by decide +kernel)
theorem dX9_breakDown_16 : decode cX9_breakDown 16 = .ok (.invokevirtual 194, 3) := dk_182 (x := 0) (y := 194) (by decide +kernel) rfl
theorem dX9_breakDown_19 : decode cX9_breakDown 19 = .ok (.ifCond .ne 17, 3) := dk_154 (x := 0) (y := 17) (by decide +kernel) rfl
theorem dX9_breakDown_22 : decode cX9_breakDown 22 = .ok (.aload_n 0, 1) := dk_42 (by decide +kernel)
theorem dX9_breakDown_23 : decode cX9_breakDown 23 = .ok (.getfield 28, 3) := dk_180 (x := 0) (y := 28) (by decide +kernel) rfl
theorem dX9_breakDown_26 : decode cX9_breakDown 26 = .ok (.getfield 197, 3) := dk_180 (x := 0) (y := 197) (by decide +kernel) rfl
theorem dX9_breakDown_29 : decode cX9_breakDown 29 = .ok (.iload_n 1, 1) := dk_27 (by decide +kernel)
theorem dX9_breakDown_30 : decode cX9_breakDown 30 = .ok (.invokestatic 180, 3) := dk_184 (x := 0) (y := 180) (by decide +kernel) rfl
theorem dX9_breakDown_33 : decode cX9_breakDown 33 = .ok (.ifCond .eq 5, 3) := dk_153 (x := 0) (y := 5) (by decide +kernel) rfl
theorem dX9_breakDown_36 : decode cX9_breakDown 36 = .ok (.iconst 0, 1) := dk_3 (by decide +kernel)
theorem dX9_breakDown_37 : decode cX9_breakDown 37 = .ok (.ireturn, 1) := dk_172 (by decide +kernel)
theorem dX9_breakDown_38 : decode cX9_breakDown 38 = .ok (.aload_n 0, 1) := dk_42 (by decide +kernel)
theorem dX9_breakDown_39 : decode cX9_breakDown 39 = .ok (.getfield 28, 3) := dk_180 (x := 0) (y := 28) (by decide +kernel) rfl
theorem dX9_breakDown_42 : decode cX9_breakDown 42 = .ok (.iload_n 1, 1) := dk_27 (by decide +kernel)
theorem dX9_breakDown_43 : decode cX9_breakDown 43 = .ok (.invokevirtual 200, 3) := dk_182 (x := 0) (y := 200) (by decide +kernel) rfl
theorem dX9_breakDown_46 : decode cX9_breakDown 46 = .ok (.iconst 1, 1) := dk_4 (by decide +kernel)
theorem dX9_breakDown_47 : decode cX9_breakDown 47 = .ok (.ireturn, 1) := dk_172 (by decide +kernel)
def f_X9_breakDown (n : Nat) (o : Nat) (a1 : Int32) (M : Mem) : Option (Int32 × Mem) :=
  chk (isO M 9 o) <|
  bnd (mR M o 0) fun o2 =>
  chk (isO M 7 o2) <|
  obd (f_X7_isNode o2 a1 M) fun r6 =>
  if r6 = 0 then (
    some ((0 : Int32), M)
    ) else (
    bnd (mR M o 2) fun o9 =>
    chk (isO M 2 o9) <|
    obd (f_X2_howIs o9 a1 M) fun r13 =>
    if r13 = 0 then (
      bnd (mR M o 2) fun o16 =>
      chk (isO M 2 o16) <|
      obd (f_X9_has (mI M o16 9) a1 M) fun r20 =>
      if r20 = 0 then (
        bnd (mR M o 2) fun o23 =>
        chk (isO M 2 o23) <|
        obd (f_X2_breakNode n o23 a1 M) fun M27 =>
        some ((1 : Int32), M27)
        ) else (
        some ((0 : Int32), M)
        )
      ) else (
      some ((0 : Int32), M)
      )
    )
theorem cd_X9_breakDown : (yX9_breakDown.cls ≠ "java/lang/invoke/MethodHandle" ∧ yX9_breakDown.cls ≠ "java/lang/invoke/VarHandle") ∧ (parseMethodDescriptor yX9_breakDown.desc).map (fun d => d.parameters.length) = some 1 := ⟨⟨by decide +kernel, by decide +kernel⟩, by decide +kernel⟩
theorem k_X9_breakDown (G : Gam) {n : Nat} {o : Nat} {a1 : Int32} {M : Mem} {rv : (Int32 × Mem)} (hf : f_X9_breakDown n o a1 M = some rv) : Kt yX9_breakDown cX9_breakDown 2 (some .boolean) 7 166 G [.ref (gB G + o), .int a1] M rv.2 (some (.int rv.1)) := by
  refine Kt.of (by decide) (Nat.le_of_ble_eq_true rfl) ?_
  intro p l e R s m args below meth c X hr hlk hnm
  refine s_drop [0, 1] (vs' := [(0, .ref (gB G + o)), (1, .int a1)]) rfl ?_
  rw [f_X9_breakDown] at hf
  refine s_aload_n X 0 dX9_breakDown_0 rfl rfl ?_
  obtain ⟨h1, hf⟩ := pk_chk hf
  obtain ⟨o2, e3, hf⟩ := pk_bnd hf
  obtain ⟨h4, hf⟩ := pk_chk hf
  refine s_getR X (ci := 9) (k := 0) rfl (Nat.le_of_ble_eq_true rfl) h1 wd627 (fun _ _ _ => rfl) (e3 ▸ h4) dX9_breakDown_1 (e3 ▸ ?_)
  refine s_iload_n X 1 dX9_breakDown_4 rfl rfl ?_
  obtain ⟨r6, hc5, hf⟩ := pk_obd hf
  refine s_callV X (ci := 7) (k_X7_isNode G hc5) rfl h4 wd699 wd700 wd701 wd702 wd127 cd_X7_isNode ⟨Nat.le_of_ble_eq_true rfl, Nat.le_of_ble_eq_true rfl⟩ (Nat.le_of_ble_eq_true rfl) dX9_breakDown_5 ?_
  have hs7 := pk_ite hf
  clear hf
  refine s_if_eq X (tgt := 36) dX9_breakDown_8 rfl (fun c8 => ?_) (fun c8 => ?_)
  · have hf := hs7.1 c8
    refine s_iconst X (v := (0 : Int32)) dX9_breakDown_36 rfl ?_
    cases hf
    exact s_zret X hr (bz_n (Or.inl rfl)) hlk dX9_breakDown_37
  · have hf := hs7.2 c8
    refine s_aload_n X 0 dX9_breakDown_11 rfl rfl ?_
    obtain ⟨o9, e10, hf⟩ := pk_bnd hf
    obtain ⟨h11, hf⟩ := pk_chk hf
    refine s_getR X (ci := 9) (k := 2) rfl (Nat.le_of_ble_eq_true rfl) h1 wd629 (fun _ _ _ => rfl) (e10 ▸ h11) dX9_breakDown_12 (e10 ▸ ?_)
    refine s_iload_n X 1 dX9_breakDown_15 rfl rfl ?_
    obtain ⟨r13, hc12, hf⟩ := pk_obd hf
    refine s_callV X (ci := 2) (k_X2_howIs G hc12) rfl h11 wd1078 wd1079 wd1080 wd1081 wd130 cd_X2_howIs ⟨Nat.le_of_ble_eq_true rfl, Nat.le_of_ble_eq_true rfl⟩ (Nat.le_of_ble_eq_true rfl) dX9_breakDown_16 ?_
    have hs14 := pk_ite hf
    clear hf
    refine s_if_ne X (tgt := 36) dX9_breakDown_19 rfl (fun c15 => ?_) (fun c15 => ?_)
    · have hf := hs14.2 c15
      refine s_iconst X (v := (0 : Int32)) dX9_breakDown_36 rfl ?_
      cases hf
      exact s_zret X hr (bz_n (Or.inl rfl)) hlk dX9_breakDown_37
    · have hf := hs14.1 c15
      refine s_aload_n X 0 dX9_breakDown_22 rfl rfl ?_
      obtain ⟨o16, e17, hf⟩ := pk_bnd hf
      obtain ⟨h18, hf⟩ := pk_chk hf
      refine s_getR X (ci := 9) (k := 2) rfl (Nat.le_of_ble_eq_true rfl) h1 wd629 (fun _ _ _ => rfl) (e17 ▸ h18) dX9_breakDown_23 (e17 ▸ ?_)
      refine s_getI X (ci := 2) (k := 9) rfl (Nat.le_of_ble_eq_true rfl) h18 wd442 (fun _ _ _ => rfl) dX9_breakDown_26 ?_
      refine s_iload_n X 1 dX9_breakDown_29 rfl rfl ?_
      obtain ⟨r20, hc19, hf⟩ := pk_obd hf
      refine s_callS X (k_X9_has G hc19) wd966 wd712 wd713 wd126 cd_X9_has ⟨Nat.le_of_ble_eq_true rfl, Nat.le_of_ble_eq_true rfl⟩ (Nat.le_of_ble_eq_true rfl) dX9_breakDown_30 ?_
      have hs21 := pk_ite hf
      clear hf
      refine s_if_eq X (tgt := 38) dX9_breakDown_33 rfl (fun c22 => ?_) (fun c22 => ?_)
      · have hf := hs21.1 c22
        refine s_aload_n X 0 dX9_breakDown_38 rfl rfl ?_
        obtain ⟨o23, e24, hf⟩ := pk_bnd hf
        obtain ⟨h25, hf⟩ := pk_chk hf
        refine s_getR X (ci := 9) (k := 2) rfl (Nat.le_of_ble_eq_true rfl) h1 wd629 (fun _ _ _ => rfl) (e24 ▸ h25) dX9_breakDown_39 (e24 ▸ ?_)
        refine s_iload_n X 1 dX9_breakDown_42 rfl rfl ?_
        obtain ⟨M27, hc26, hf⟩ := pk_obd hf
        refine s_callV X (ci := 2) (k_X2_breakNode G hc26) rfl h25 wd1082 wd1083 wd1084 wd1085 wd130 cd_X2_breakNode ⟨Nat.le_of_ble_eq_true rfl, Nat.le_of_ble_eq_true rfl⟩ (Nat.le_of_ble_eq_true rfl) dX9_breakDown_43 ?_
        refine s_iconst X (v := (1 : Int32)) dX9_breakDown_46 rfl ?_
        cases hf
        exact s_zret X hr (bz_n (Or.inr rfl)) hlk dX9_breakDown_47
      · have hf := hs21.2 c22
        refine s_iconst X (v := (0 : Int32)) dX9_breakDown_36 rfl ?_
        cases hf
        exact s_zret X hr (bz_n (Or.inl rfl)) hlk dX9_breakDown_37
theorem dX10_dropLetters_0 : decode cX10_dropLetters 0 = .ok (.aload_n 0, 1) := dk_42 (by decide +kernel)
theorem dX10_dropLetters_1 : decode cX10_dropLetters 1 = .ok (.getfield 7, 3) := dk_180 (x := 0) (y := 7) (by decide +kernel) rfl
theorem dX10_dropLetters_4 : decode cX10_dropLetters 4 = .ok (.sipush 850, 3) := dk_17 (x := 3) (y := 82) (by decide +kernel) rfl
theorem dX10_dropLetters_7 : decode cX10_dropLetters 7 = .ok (.iaload, 1) := dk_46 (by decide +kernel)
theorem dX10_dropLetters_8 : decode cX10_dropLetters 8 = .ok (.iconst 1, 1) := dk_4 (by decide +kernel)
theorem dX10_dropLetters_9 : decode cX10_dropLetters 9 = .ok (.isub, 1) := dk_100 (by decide +kernel)
theorem dX10_dropLetters_10 : decode cX10_dropLetters 10 = .ok (.istore_n 2, 1) := dk_61 (by decide +kernel)
theorem dX10_dropLetters_11 : decode cX10_dropLetters 11 = .ok (.iload_n 2, 1) := dk_28 (by decide +kernel)
theorem dX10_dropLetters_12 : decode cX10_dropLetters 12 = .ok (.ifCond .lt 54, 3) := dk_155 (x := 0) (y := 54) (by decide +kernel) rfl
theorem dX10_dropLetters_15 : decode cX10_dropLetters 15 = .ok (.aload_n 0, 1) := dk_42 (by decide +kernel)
theorem dX10_dropLetters_16 : decode cX10_dropLetters 16 = .ok (.getfield 7, 3) := dk_180 (x := 0) (y := 7) (by decide +kernel) rfl
theorem dX10_dropLetters_19 : decode cX10_dropLetters 19 = .ok (.sipush 851, 3) := dk_17 (x := 3) (y := 83) (by decide +kernel) rfl
theorem dX10_dropLetters_22 : decode cX10_dropLetters 22 = .ok (.iload_n 2, 1) := dk_28 (by decide +kernel)
theorem dX10_dropLetters_23 : decode cX10_dropLetters 23 = .ok (.iadd, 1) := dk_96 (by decide +kernel)
theorem dX10_dropLetters_24 : decode cX10_dropLetters 24 = .ok (.iaload, 1) := dk_46 (by decide +kernel)
theorem dX10_dropLetters_25 : decode cX10_dropLetters 25 = .ok (.invokestatic 140, 3) := dk_184 (x := 0) (y := 140) (by decide +kernel) rfl
theorem dX10_dropLetters_28 : decode cX10_dropLetters 28 = .ok (.bipush 16, 2) := dk_16 (x := 16) (by decide +kernel) rfl
theorem dX10_dropLetters_30 : decode cX10_dropLetters 30 = .ok (.idiv, 1) := dk_108 (by decide +kernel)
theorem dX10_dropLetters_31 : decode cX10_dropLetters 31 = .ok (.iload_n 1, 1) := dk_27 (by decide +kernel)
theorem dX10_dropLetters_32 : decode cX10_dropLetters 32 = .ok (.if_icmp .eq 23, 3) := dk_159 (x := 0) (y := 23) (by decide +kernel) rfl
theorem dX10_dropLetters_35 : decode cX10_dropLetters 35 = .ok (.aload_n 0, 1) := dk_42 (by decide +kernel)
theorem dX10_dropLetters_36 : decode cX10_dropLetters 36 = .ok (.getfield 7, 3) := dk_180 (x := 0) (y := 7) (by decide +kernel) rfl
theorem dX10_dropLetters_39 : decode cX10_dropLetters 39 = .ok (.sipush 851, 3) := dk_17 (x := 3) (y := 83) (by decide +kernel) rfl
theorem dX10_dropLetters_42 : decode cX10_dropLetters 42 = .ok (.iload_n 2, 1) := dk_28 (by decide +kernel)
theorem dX10_dropLetters_43 : decode cX10_dropLetters 43 = .ok (.iadd, 1) := dk_96 (by decide +kernel)
theorem dX10_dropLetters_44 : decode cX10_dropLetters 44 = .ok (.iaload, 1) := dk_46 (by decide +kernel)
theorem dX10_dropLetters_45 : decode cX10_dropLetters 45 = .ok (.invokestatic 140, 3) := dk_184 (x := 0) (y := 140) (by decide +kernel) rfl
theorem dX10_dropLetters_48 : decode cX10_dropLetters 48 = .ok (.bipush 16, 2) := dk_16 (x := 16) (by decide +kernel) rfl
theorem dX10_dropLetters_50 : decode cX10_dropLetters 50 = .ok (.irem, 1) := dk_112 (by decide +kernel)
theorem dX10_dropLetters_51 : decode cX10_dropLetters 51 = .ok (.iload_n 1, 1) := dk_27 (by decide +kernel)
theorem dX10_dropLetters_52 : decode cX10_dropLetters 52 = .ok (.if_icmp .ne 8, 3) := dk_160 (x := 0) (y := 8) (by decide +kernel) rfl
theorem dX10_dropLetters_55 : decode cX10_dropLetters 55 = .ok (.aload_n 0, 1) := dk_42 (by decide +kernel)
theorem dX10_dropLetters_56 : decode cX10_dropLetters 56 = .ok (.iload_n 2, 1) := dk_28 (by decide +kernel)
theorem dX10_dropLetters_57 : decode cX10_dropLetters 57 = .ok (.invokevirtual 238, 3) := dk_182 (x := 0) (y := 238) (by decide +kernel) rfl
theorem dX10_dropLetters_60 : decode cX10_dropLetters 60 = .ok (.iinc 2 (-1), 3) := dk_132 (x := 2) (y := 255) (by decide +kernel) rfl
theorem dX10_dropLetters_63 : decode cX10_dropLetters 63 = .ok (.goto (-52), 3) := dk_167 (x := 255) (y := 204) (by decide +kernel) rfl
theorem dX10_dropLetters_66 : decode cX10_dropLetters 66 = .ok (.return_, 1) := dk_177 (by decide +kernel)
def f_X10_dropLetters_55 (k_11 : Nat → Int32 → Int32 → Mem → Option Mem) (n : Nat) (v0 : Nat) (v1 : Int32) (v2 : Int32) (M : Mem) : Option Mem :=
    chk (isO M 10 v0) <|
    obd (f_X10_takeLetter n v0 v2 M) fun M3 =>
    bnd (v2 + (-1 : Int32)) fun x4 =>
    k_11 v0 v1 x4 M3
def f_X10_dropLetters_11 : Nat → Nat → Int32 → Int32 → Mem → Option Mem
  | 0, _, _, _, _ => none
  | n + 1, v0, v1, v2, M =>
    if v2 < 0 then (
      some M
      ) else (
      chk (isO M 10 v0) <|
      bnd (mR M v0 0) fun o4 =>
      chk (isO M 100 o4) <|
      chk (inB ((851 : Int32) + v2) (mLn M o4)) <|
      obd (f_X10_pairOf (mI M o4 (((851 : Int32) + v2)).toNatClampNeg) M) fun r9 =>
      chk (¬ (16 : Int32) = 0) <|
      if (r9 / (16 : Int32)) = v1 then (
        f_X10_dropLetters_55 (f_X10_dropLetters_11 n) n v0 v1 v2 M
        ) else (
        bnd (mR M v0 0) fun o13 =>
        chk (isO M 100 o13) <|
        chk (inB ((851 : Int32) + v2) (mLn M o13)) <|
        obd (f_X10_pairOf (mI M o13 (((851 : Int32) + v2)).toNatClampNeg) M) fun r18 =>
        chk (¬ (16 : Int32) = 0) <|
        if (r18 - r18 / (16 : Int32) * (16 : Int32)) = v1 then (
          f_X10_dropLetters_55 (f_X10_dropLetters_11 n) n v0 v1 v2 M
          ) else (
          bnd (v2 + (-1 : Int32)) fun x22 =>
          f_X10_dropLetters_11 n v0 v1 x22 M
          )
        )
      )
def f_X10_dropLetters (n : Nat) (o : Nat) (a1 : Int32) (M : Mem) : Option Mem :=
  chk (isO M 10 o) <|
  bnd (mR M o 0) fun o2 =>
  chk (isO M 100 o2) <|
  chk (inB (850 : Int32) (mLn M o2)) <|
  bnd ((mI M o2 ((850 : Int32)).toNatClampNeg) - (1 : Int32)) fun x6 =>
  f_X10_dropLetters_11 n o a1 x6 M
theorem cd_X10_dropLetters : (yX10_dropLetters.cls ≠ "java/lang/invoke/MethodHandle" ∧ yX10_dropLetters.cls ≠ "java/lang/invoke/VarHandle") ∧ (parseMethodDescriptor yX10_dropLetters.desc).map (fun d => d.parameters.length) = some 1 := ⟨⟨by decide +kernel, by decide +kernel⟩, by decide +kernel⟩
section
variable {p : Program} {l : Launch} {e : Env} {R : Room} {s : State} {m : MethodId} {args : Array Value} {below : List Frame} {meth : Method} {c : Code} {G : Gam} {M0 : Mem}
theorem l_X10_dropLetters_55 {k_11 : Nat → Int32 → Int32 → Mem → Option Mem} {rv : Mem} {n : Nat} {v0 : Nat} {v1 : Int32} {v2 : Int32} {M : Mem} (X : Cx p R s m args c G M0 cX10_dropLetters yX10_dropLetters.cls 3 1 22) (hr : meth.sig.returnType = none) (hlk : meth.locks = false) (hnm : meth.name = "dropLetters") (hk_11 : ∀ (v0 : Nat), ∀ (v1 : Int32), ∀ (v2 : Int32), ∀ M : Mem, k_11 v0 v1 v2 M = some rv → Sg p l e R s m args below meth c (Qm below G args s none M0 rv) G M0 3 11 [(0, .ref (gB G + v0)), (1, .int v1), (2, .int v2)] [] M) (hf : f_X10_dropLetters_55 k_11 n v0 v1 v2 M = some rv) : Sg p l e R s m args below meth c (Qm below G args s none M0 rv) G M0 3 55 [(0, .ref (gB G + v0)), (1, .int v1), (2, .int v2)] [] M := by
  rw [f_X10_dropLetters_55] at hf
  refine s_aload_n X 0 dX10_dropLetters_55 rfl rfl ?_
  refine s_iload_n X 2 dX10_dropLetters_56 rfl rfl ?_
  obtain ⟨h1, hf⟩ := pk_chk hf
  obtain ⟨M3, hc2, hf⟩ := pk_obd hf
  refine s_callV X (ci := 10) (k_X10_takeLetter G hc2) rfl h1 wd1739 wd1741 wd75 wd1742 wd138 cd_X10_takeLetter ⟨Nat.le_of_ble_eq_true rfl, Nat.le_of_ble_eq_true rfl⟩ (Nat.le_of_ble_eq_true rfl) dX10_dropLetters_57 ?_
  obtain ⟨x4, e5, hf⟩ := pk_bnd hf
  refine s_iinc X (vs' := [(0, .ref (gB G + v0)), (1, .int v1), (2, .int x4)]) 2 dX10_dropLetters_60 rfl (v := x4) e5.symm (Nat.le_of_ble_eq_true rfl) [1, 2, 0] rfl ?_
  refine s_goto X (tgt := 11) dX10_dropLetters_63 rfl ?_
  exact hk_11 _ _ _ _ hf
theorem l_X10_dropLetters_11 {rv : Mem} (X : Cx p R s m args c G M0 cX10_dropLetters yX10_dropLetters.cls 3 1 22) (hr : meth.sig.returnType = none) (hlk : meth.locks = false) (hnm : meth.name = "dropLetters") : ∀ {n : Nat} (v0 : Nat) (v1 : Int32) (v2 : Int32) (M : Mem), f_X10_dropLetters_11 n v0 v1 v2 M = some rv → Sg p l e R s m args below meth c (Qm below G args s none M0 rv) G M0 3 11 [(0, .ref (gB G + v0)), (1, .int v1), (2, .int v2)] [] M := by
  intro n
  induction n with
  | zero => intro v0 v1 v2 M hf; exact (pk_none hf).elim
  | succ n ih =>
    intro v0 v1 v2 M hf
    rw [f_X10_dropLetters_11] at hf
    refine s_iload_n X 2 dX10_dropLetters_11 rfl rfl ?_
    have hs1 := pk_ite hf
    clear hf
    refine s_if_lt X (tgt := 66) dX10_dropLetters_12 rfl (fun c2 => ?_) (fun c2 => ?_)
    · have hf := hs1.1 c2
      cases hf
      exact s_vret X hr hlk dX10_dropLetters_66
    · have hf := hs1.2 c2
      refine s_aload_n X 0 dX10_dropLetters_15 rfl rfl ?_
      obtain ⟨h3, hf⟩ := pk_chk hf
      obtain ⟨o4, e5, hf⟩ := pk_bnd hf
      obtain ⟨h6, hf⟩ := pk_chk hf
      refine s_getR X (ci := 10) (k := 0) rfl (Nat.le_of_ble_eq_true rfl) h3 wd1440 (fun _ _ _ => rfl) (e5 ▸ h6) dX10_dropLetters_16 (e5 ▸ ?_)
      refine s_sipush X (v := (851 : Int32)) dX10_dropLetters_19 rfl ?_
      refine s_iload_n X 2 dX10_dropLetters_22 rfl rfl ?_
      refine s_iadd X dX10_dropLetters_23 ?_
      obtain ⟨h7, hf⟩ := pk_chk hf
      refine s_iald X h6 h7 dX10_dropLetters_24 ?_
      obtain ⟨r9, hc8, hf⟩ := pk_obd hf
      refine s_callS X (k_X10_pairOf G hc8) wd1704 wd1705 wd1706 wd138 cd_X10_pairOf ⟨Nat.le_of_ble_eq_true rfl, Nat.le_of_ble_eq_true rfl⟩ (Nat.le_of_ble_eq_true rfl) dX10_dropLetters_25 ?_
      refine s_bipush X (v := (16 : Int32)) dX10_dropLetters_28 rfl ?_
      obtain ⟨h10, hf⟩ := pk_chk hf
      refine s_idiv X dX10_dropLetters_30 h10 ?_
      refine s_iload_n X 1 dX10_dropLetters_31 rfl rfl ?_
      have hs11 := pk_ite hf
      clear hf
      refine s_icmp_eq X (tgt := 55) dX10_dropLetters_32 rfl (fun c12 => ?_) (fun c12 => ?_)
      · have hf := hs11.1 c12
        exact l_X10_dropLetters_55 X hr hlk hnm ih hf
      · have hf := hs11.2 c12
        refine s_aload_n X 0 dX10_dropLetters_35 rfl rfl ?_
        obtain ⟨o13, e14, hf⟩ := pk_bnd hf
        obtain ⟨h15, hf⟩ := pk_chk hf
        refine s_getR X (ci := 10) (k := 0) rfl (Nat.le_of_ble_eq_true rfl) h3 wd1440 (fun _ _ _ => rfl) (e14 ▸ h15) dX10_dropLetters_36 (e14 ▸ ?_)
        refine s_sipush X (v := (851 : Int32)) dX10_dropLetters_39 rfl ?_
        refine s_iload_n X 2 dX10_dropLetters_42 rfl rfl ?_
        refine s_iadd X dX10_dropLetters_43 ?_
        obtain ⟨h16, hf⟩ := pk_chk hf
        refine s_iald X h15 h16 dX10_dropLetters_44 ?_
        obtain ⟨r18, hc17, hf⟩ := pk_obd hf
        refine s_callS X (k_X10_pairOf G hc17) wd1704 wd1705 wd1706 wd138 cd_X10_pairOf ⟨Nat.le_of_ble_eq_true rfl, Nat.le_of_ble_eq_true rfl⟩ (Nat.le_of_ble_eq_true rfl) dX10_dropLetters_45 ?_
        refine s_bipush X (v := (16 : Int32)) dX10_dropLetters_48 rfl ?_
        obtain ⟨h19, hf⟩ := pk_chk hf
        refine s_irem X dX10_dropLetters_50 h19 ?_
        refine s_iload_n X 1 dX10_dropLetters_51 rfl rfl ?_
        have hs20 := pk_ite hf
        clear hf
        refine s_icmp_ne X (tgt := 60) dX10_dropLetters_52 rfl (fun c21 => ?_) (fun c21 => ?_)
        · have hf := hs20.2 c21
          obtain ⟨x22, e23, hf⟩ := pk_bnd hf
          refine s_iinc X (vs' := [(0, .ref (gB G + v0)), (1, .int v1), (2, .int x22)]) 2 dX10_dropLetters_60 rfl (v := x22) e23.symm (Nat.le_of_ble_eq_true rfl) [1, 2, 0] rfl ?_
          refine s_goto X (tgt := 11) dX10_dropLetters_63 rfl ?_
          exact ih _ _ _ _ hf
        · have hf := hs20.1 c21
          exact l_X10_dropLetters_55 X hr hlk hnm ih hf
end
theorem k_X10_dropLetters (G : Gam) {n : Nat} {o : Nat} {a1 : Int32} {M : Mem} {rv : Mem} (hf : f_X10_dropLetters n o a1 M = some rv) : Kt yX10_dropLetters cX10_dropLetters 3 none 1 22 G [.ref (gB G + o), .int a1] M rv none := by
  refine Kt.of (by decide) (Nat.le_of_ble_eq_true rfl) ?_
  intro p l e R s m args below meth c X hr hlk hnm
  refine s_drop [0, 1] (vs' := [(0, .ref (gB G + o)), (1, .int a1)]) rfl ?_
  rw [f_X10_dropLetters] at hf
  refine s_aload_n X 0 dX10_dropLetters_0 rfl rfl ?_
  obtain ⟨h1, hf⟩ := pk_chk hf
  obtain ⟨o2, e3, hf⟩ := pk_bnd hf
  obtain ⟨h4, hf⟩ := pk_chk hf
  refine s_getR X (ci := 10) (k := 0) rfl (Nat.le_of_ble_eq_true rfl) h1 wd1440 (fun _ _ _ => rfl) (e3 ▸ h4) dX10_dropLetters_1 (e3 ▸ ?_)
  refine s_sipush X (v := (850 : Int32)) dX10_dropLetters_4 rfl ?_
  obtain ⟨h5, hf⟩ := pk_chk hf
  refine s_iald X h4 h5 dX10_dropLetters_7 ?_
  refine s_iconst X (v := (1 : Int32)) dX10_dropLetters_8 rfl ?_
  refine s_isub X dX10_dropLetters_9 ?_
  obtain ⟨x6, e7, hf⟩ := pk_bnd hf
  refine s_nmI e7 ?_
  refine s_istore_n X (vs' := [(0, .ref (gB G + o)), (1, .int a1), (2, .int x6)]) dX10_dropLetters_10 rfl (Nat.le_of_ble_eq_true rfl) [1, 2, 0] rfl ?_
  exact l_X10_dropLetters_11 X hr hlk hnm _ _ _ _ hf
theorem dX10_forgotten_0 : decode cX10_forgotten 0 = .ok (.aload_n 0, 1) := dk_42 (by decide +kernel)
theorem dX10_forgotten_1 : decode cX10_forgotten 1 = .ok (.iload_n 1, 1) := dk_27 (by decide +kernel)
theorem dX10_forgotten_2 : decode cX10_forgotten 2 = .ok (.iconst 0, 1) := dk_3 (by decide +kernel)
theorem dX10_forgotten_3 : decode cX10_forgotten 3 = .ok (.invokevirtual 151, 3) := dk_182 (x := 0) (y := 151) (by decide +kernel) rfl
theorem dX10_forgotten_6 : decode cX10_forgotten 6 = .ok (.iload_n 2, 1) := dk_28 (by decide +kernel)
theorem dX10_forgotten_7 : decode cX10_forgotten 7 = .ok (.if_icmp .ne 9, 3) := dk_160 (x := 0) (y := 9) (by decide +kernel) rfl
theorem dX10_forgotten_10 : decode cX10_forgotten 10 = .ok (.aload_n 0, 1) := dk_42 (by decide +kernel)
theorem dX10_forgotten_11 : decode cX10_forgotten 11 = .ok (.iload_n 1, 1) := dk_27 (by decide +kernel)
theorem dX10_forgotten_12 : decode cX10_forgotten 12 = .ok (.invokevirtual 175, 3) := dk_182 (x := 0) (y := 175) (by decide +kernel) rfl
theorem dX10_forgotten_15 : decode cX10_forgotten 15 = .ok (.return_, 1) := dk_177 (by decide +kernel)
theorem dX10_forgotten_16 : decode cX10_forgotten 16 = .ok (.aload_n 0, 1) := dk_42 (by decide +kernel)
theorem dX10_forgotten_17 : decode cX10_forgotten 17 = .ok (.iload_n 1, 1) := dk_27 (by decide +kernel)
theorem dX10_forgotten_18 : decode cX10_forgotten 18 = .ok (.iconst 3, 1) := dk_6 (by decide +kernel)
theorem dX10_forgotten_19 : decode cX10_forgotten 19 = .ok (.invokevirtual 151, 3) := dk_182 (x := 0) (y := 151) (by decide +kernel) rfl
theorem dX10_forgotten_22 : decode cX10_forgotten 22 = .ok (.iconst 1, 1) := dk_4 (by decide +kernel)
theorem dX10_forgotten_23 : decode cX10_forgotten 23 = .ok (.isub, 1) := dk_100 (by decide +kernel)
theorem dX10_forgotten_24 : decode cX10_forgotten 24 = .ok (.istore_n 3, 1) := dk_62 (by decide +kernel)
theorem dX10_forgotten_25 : decode cX10_forgotten 25 = .ok (.iload_n 3, 1) := dk_29 (by decide +kernel)
theorem dX10_forgotten_26 : decode cX10_forgotten 26 = .ok (.ifCond .lt 25, 3) := dk_155 (x := 0) (y := 25) (by decide +kernel) rfl
theorem dX10_forgotten_29 : decode cX10_forgotten 29 = .ok (.aload_n 0, 1) := dk_42 (by decide +kernel)
theorem dX10_forgotten_30 : decode cX10_forgotten 30 = .ok (.iload_n 1, 1) := dk_27 (by decide +kernel)
theorem dX10_forgotten_31 : decode cX10_forgotten 31 = .ok (.iload_n 3, 1) := dk_29 (by decide +kernel)
theorem dX10_forgotten_32 : decode cX10_forgotten 32 = .ok (.invokevirtual 161, 3) := dk_182 (x := 0) (y := 161) (by decide +kernel) rfl
theorem dX10_forgotten_35 : decode cX10_forgotten 35 = .ok (.iload_n 2, 1) := dk_28 (by decide +kernel)
theorem dX10_forgotten_36 : decode cX10_forgotten 36 = .ok (.if_icmp .ne 9, 3) := dk_160 (x := 0) (y := 9) (by decide +kernel) rfl
theorem dX10_forgotten_39 : decode cX10_forgotten 39 = .ok (.aload_n 0, 1) := dk_42 (by decide +kernel)
theorem dX10_forgotten_40 : decode cX10_forgotten 40 = .ok (.iload_n 1, 1) := dk_27 (by decide +kernel)
theorem dX10_forgotten_41 : decode cX10_forgotten 41 = .ok (.iload_n 3, 1) := dk_29 (by decide +kernel)
theorem dX10_forgotten_42 : decode cX10_forgotten 42 = .ok (.invokevirtual 168, 3) := dk_182 (x := 0) (y := 168) (by decide +kernel) rfl
theorem dX10_forgotten_45 : decode cX10_forgotten 45 = .ok (.iinc 3 (-1), 3) := dk_132 (x := 3) (y := 255) (by decide +kernel) rfl
theorem dX10_forgotten_48 : decode cX10_forgotten 48 = .ok (.goto (-23), 3) := dk_167 (x := 255) (y := 233) (by decide +kernel) rfl
theorem dX10_forgotten_51 : decode cX10_forgotten 51 = .ok (.return_, 1) := dk_177 (by decide +kernel)
def f_X10_forgotten_25 : Nat → Nat → Int32 → Int32 → Int32 → Mem → Option Mem
  | 0, _, _, _, _, _ => none
  | n + 1, v0, v1, v2, v3, M =>
    if v3 < 0 then (
      some M
      ) else (
      chk (isO M 10 v0) <|
      obd (f_X10_waitNode v0 v1 v3 M) fun r5 =>
      if r5 = v2 then (
        obd (f_X10_goWaiting n v0 v1 v3 M) fun M11 =>
        bnd (v3 + (-1 : Int32)) fun x12 =>
        f_X10_forgotten_25 n v0 v1 v2 x12 M11
        ) else (
        bnd (v3 + (-1 : Int32)) fun x8 =>
        f_X10_forgotten_25 n v0 v1 v2 x8 M
        )
      )
def f_X10_forgotten (n : Nat) (o : Nat) (a1 : Int32) (a2 : Int32) (M : Mem) : Option Mem :=
  chk (isO M 10 o) <|
  obd (f_X10_of o a1 (0 : Int32) M) fun r3 =>
  if r3 = a2 then (
    obd (f_X10_grantFirst n o a1 M) fun M11 =>
    some M11
    ) else (
    obd (f_X10_of o a1 (3 : Int32) M) fun r7 =>
    bnd (r7 - (1 : Int32)) fun x8 =>
    f_X10_forgotten_25 n o a1 a2 x8 M
    )
theorem cd_X10_forgotten : (yX10_forgotten.cls ≠ "java/lang/invoke/MethodHandle" ∧ yX10_forgotten.cls ≠ "java/lang/invoke/VarHandle") ∧ (parseMethodDescriptor yX10_forgotten.desc).map (fun d => d.parameters.length) = some 2 := ⟨⟨by decide +kernel, by decide +kernel⟩, by decide +kernel⟩
section
variable {p : Program} {l : Launch} {e : Env} {R : Room} {s : State} {m : MethodId} {args : Array Value} {below : List Frame} {meth : Method} {c : Code} {G : Gam} {M0 : Mem}
theorem l_X10_forgotten_25 {rv : Mem} (X : Cx p R s m args c G M0 cX10_forgotten yX10_forgotten.cls 4 3 68) (hr : meth.sig.returnType = none) (hlk : meth.locks = false) (hnm : meth.name = "forgotten") : ∀ {n : Nat} (v0 : Nat) (v1 : Int32) (v2 : Int32) (v3 : Int32) (M : Mem), f_X10_forgotten_25 n v0 v1 v2 v3 M = some rv → Sg p l e R s m args below meth c (Qm below G args s none M0 rv) G M0 4 25 [(0, .ref (gB G + v0)), (1, .int v1), (2, .int v2), (3, .int v3)] [] M := by
  intro n
  induction n with
  | zero => intro v0 v1 v2 v3 M hf; exact (pk_none hf).elim
  | succ n ih =>
    intro v0 v1 v2 v3 M hf
    rw [f_X10_forgotten_25] at hf
    refine s_iload_n X 3 dX10_forgotten_25 rfl rfl ?_
    have hs1 := pk_ite hf
    clear hf
    refine s_if_lt X (tgt := 51) dX10_forgotten_26 rfl (fun c2 => ?_) (fun c2 => ?_)
    · have hf := hs1.1 c2
      cases hf
      exact s_vret X hr hlk dX10_forgotten_51
    · have hf := hs1.2 c2
      refine s_aload_n X 0 dX10_forgotten_29 rfl rfl ?_
      refine s_iload_n X 1 dX10_forgotten_30 rfl rfl ?_
      refine s_iload_n X 3 dX10_forgotten_31 rfl rfl ?_
      obtain ⟨h3, hf⟩ := pk_chk hf
      obtain ⟨r5, hc4, hf⟩ := pk_obd hf
      refine s_callV X (ci := 10) (k_X10_waitNode G hc4) rfl h3 wd1765 wd1767 wd80 wd1768 wd138 cd_X10_waitNode ⟨Nat.le_of_ble_eq_true rfl, Nat.le_of_ble_eq_true rfl⟩ (Nat.le_of_ble_eq_true rfl) dX10_forgotten_32 ?_
      refine s_iload_n X 2 dX10_forgotten_35 rfl rfl ?_
      have hs6 := pk_ite hf
      clear hf
      refine s_icmp_ne X (tgt := 45) dX10_forgotten_36 rfl (fun c7 => ?_) (fun c7 => ?_)
      · have hf := hs6.2 c7
        obtain ⟨x8, e9, hf⟩ := pk_bnd hf
        refine s_iinc X (vs' := [(0, .ref (gB G + v0)), (1, .int v1), (2, .int v2), (3, .int x8)]) 3 dX10_forgotten_45 rfl (v := x8) e9.symm (Nat.le_of_ble_eq_true rfl) [1, 2, 3, 0] rfl ?_
        refine s_goto X (tgt := 25) dX10_forgotten_48 rfl ?_
        exact ih _ _ _ _ _ hf
      · have hf := hs6.1 c7
        refine s_aload_n X 0 dX10_forgotten_39 rfl rfl ?_
        refine s_iload_n X 1 dX10_forgotten_40 rfl rfl ?_
        refine s_iload_n X 3 dX10_forgotten_41 rfl rfl ?_
        obtain ⟨M11, hc10, hf⟩ := pk_obd hf
        refine s_callV X (ci := 10) (k_X10_goWaiting G hc10) rfl h3 wd1788 wd1790 wd85 wd1791 wd138 cd_X10_goWaiting ⟨Nat.le_of_ble_eq_true rfl, Nat.le_of_ble_eq_true rfl⟩ (Nat.le_of_ble_eq_true rfl) dX10_forgotten_42 ?_
        obtain ⟨x12, e13, hf⟩ := pk_bnd hf
        refine s_iinc X (vs' := [(0, .ref (gB G + v0)), (1, .int v1), (2, .int v2), (3, .int x12)]) 3 dX10_forgotten_45 rfl (v := x12) e13.symm (Nat.le_of_ble_eq_true rfl) [1, 2, 3, 0] rfl ?_
        refine s_goto X (tgt := 25) dX10_forgotten_48 rfl ?_
        exact ih _ _ _ _ _ hf
end
theorem k_X10_forgotten (G : Gam) {n : Nat} {o : Nat} {a1 : Int32} {a2 : Int32} {M : Mem} {rv : Mem} (hf : f_X10_forgotten n o a1 a2 M = some rv) : Kt yX10_forgotten cX10_forgotten 4 none 3 68 G [.ref (gB G + o), .int a1, .int a2] M rv none := by
  refine Kt.of (by decide) (Nat.le_of_ble_eq_true rfl) ?_
  intro p l e R s m args below meth c X hr hlk hnm
  refine s_drop [0, 1, 2] (vs' := [(0, .ref (gB G + o)), (1, .int a1), (2, .int a2)]) rfl ?_
  rw [f_X10_forgotten] at hf
  refine s_aload_n X 0 dX10_forgotten_0 rfl rfl ?_
  refine s_iload_n X 1 dX10_forgotten_1 rfl rfl ?_
  refine s_iconst X (v := (0 : Int32)) dX10_forgotten_2 rfl ?_
  obtain ⟨h1, hf⟩ := pk_chk hf
  obtain ⟨r3, hc2, hf⟩ := pk_obd hf
  refine s_callV X (ci := 10) (k_X10_of G hc2) rfl h1 wd1761 wd1763 wd79 wd1764 wd138 cd_X10_of ⟨Nat.le_of_ble_eq_true rfl, Nat.le_of_ble_eq_true rfl⟩ (Nat.le_of_ble_eq_true rfl) dX10_forgotten_3 ?_
  refine s_iload_n X 2 dX10_forgotten_6 rfl rfl ?_
  have hs4 := pk_ite hf
  clear hf
  refine s_icmp_ne X (tgt := 16) dX10_forgotten_7 rfl (fun c5 => ?_) (fun c5 => ?_)
  · have hf := hs4.2 c5
    refine s_aload_n X 0 dX10_forgotten_16 rfl rfl ?_
    refine s_iload_n X 1 dX10_forgotten_17 rfl rfl ?_
    refine s_iconst X (v := (3 : Int32)) dX10_forgotten_18 rfl ?_
    obtain ⟨r7, hc6, hf⟩ := pk_obd hf
    refine s_callV X (ci := 10) (k_X10_of G hc6) rfl h1 wd1761 wd1763 wd79 wd1764 wd138 cd_X10_of ⟨Nat.le_of_ble_eq_true rfl, Nat.le_of_ble_eq_true rfl⟩ (Nat.le_of_ble_eq_true rfl) dX10_forgotten_19 ?_
    refine s_iconst X (v := (1 : Int32)) dX10_forgotten_22 rfl ?_
    refine s_isub X dX10_forgotten_23 ?_
    obtain ⟨x8, e9, hf⟩ := pk_bnd hf
    refine s_nmI e9 ?_
    refine s_istore_n X (vs' := [(0, .ref (gB G + o)), (1, .int a1), (2, .int a2), (3, .int x8)]) dX10_forgotten_24 rfl (Nat.le_of_ble_eq_true rfl) [1, 2, 3, 0] rfl ?_
    exact l_X10_forgotten_25 X hr hlk hnm _ _ _ _ _ hf
  · have hf := hs4.1 c5
    refine s_aload_n X 0 dX10_forgotten_10 rfl rfl ?_
    refine s_iload_n X 1 dX10_forgotten_11 rfl rfl ?_
    obtain ⟨M11, hc10, hf⟩ := pk_obd hf
    refine s_callV X (ci := 10) (k_X10_grantFirst G hc10) rfl h1 wd1780 wd1782 wd83 wd1783 wd138 cd_X10_grantFirst ⟨Nat.le_of_ble_eq_true rfl, Nat.le_of_ble_eq_true rfl⟩ (Nat.le_of_ble_eq_true rfl) dX10_forgotten_12 ?_
    cases hf
    exact s_vret X hr hlk dX10_forgotten_15
theorem dX10_goWithout_0 : decode cX10_goWithout 0 = .ok (.aload_n 0, 1) := dk_42 (by decide +kernel)
theorem dX10_goWithout_1 : decode cX10_goWithout 1 = .ok (.iload_n 1, 1) := dk_27 (by decide +kernel)
theorem dX10_goWithout_2 : decode cX10_goWithout 2 = .ok (.iconst 3, 1) := dk_6 (by decide +kernel)
theorem dX10_goWithout_3 : decode cX10_goWithout 3 = .ok (.invokevirtual 93, 3) := dk_182 (x := 0) (y := 93) (by decide +kernel) rfl
theorem dX10_goWithout_6 : decode cX10_goWithout 6 = .ok (.iload_n 2, 1) := dk_28 (by decide +kernel)
theorem dX10_goWithout_7 : decode cX10_goWithout 7 = .ok (.invokestatic 184, 3) := dk_184 (x := 0) (y := 184) (by decide +kernel) rfl
theorem dX10_goWithout_10 : decode cX10_goWithout 10 = .ok (.istore_n 3, 1) := dk_62 (by decide +kernel)
theorem dX10_goWithout_11 : decode cX10_goWithout 11 = .ok (.aload_n 0, 1) := dk_42 (by decide +kernel)
theorem dX10_goWithout_12 : decode cX10_goWithout 12 = .ok (.iload_n 1, 1) := dk_27 (by decide +kernel)
theorem dX10_goWithout_13 : decode cX10_goWithout 13 = .ok (.iconst 0, 1) := dk_3 (by decide +kernel)
theorem dX10_goWithout_14 : decode cX10_goWithout 14 = .ok (.invokevirtual 93, 3) := dk_182 (x := 0) (y := 93) (by decide +kernel) rfl
theorem dX10_goWithout_17 : decode cX10_goWithout 17 = .ok (.iconst 2, 1) := dk_5 (by decide +kernel)
theorem dX10_goWithout_18 : decode cX10_goWithout 18 = .ok (.if_icmp .ne 11, 3) := dk_160 (x := 0) (y := 11) (by decide +kernel) rfl
theorem dX10_goWithout_21 : decode cX10_goWithout 21 = .ok (.aload_n 0, 1) := dk_42 (by decide +kernel)
theorem dX10_goWithout_22 : decode cX10_goWithout 22 = .ok (.iload_n 1, 1) := dk_27 (by decide +kernel)
theorem dX10_goWithout_23 : decode cX10_goWithout 23 = .ok (.iconst 3, 1) := dk_6 (by decide +kernel)
theorem dX10_goWithout_24 : decode cX10_goWithout 24 = .ok (.iload_n 3, 1) := dk_29 (by decide +kernel)
theorem dX10_goWithout_25 : decode cX10_goWithout 25 = .ok (.invokevirtual 187, 3) := dk_182 (x := 0) (y := 187) (by decide +kernel) rfl
theorem dX10_goWithout_28 : decode cX10_goWithout 28 = .ok (.return_, 1) := dk_177 (by decide +kernel)
theorem dX10_goWithout_29 : decode cX10_goWithout 29 = .ok (.aload_n 0, 1) := dk_42 (by decide +kernel)
theorem dX10_goWithout_30 : decode cX10_goWithout 30 = .ok (.iload_n 1, 1) := dk_27 (by decide +kernel)
theorem dX10_goWithout_31 : decode cX10_goWithout 31 = .ok (.iconst 2, 1) := dk_5 (by decide +kernel)
theorem dX10_goWithout_32 : decode cX10_goWithout 32 = .ok (.invokevirtual 93, 3) := dk_182 (x := 0) (y := 93) (by decide +kernel) rfl
theorem dX10_goWithout_35 : decode cX10_goWithout 35 = .ok (.istore 4, 2) := dk_54 (x := 4) (by decide +kernel)
theorem dX10_goWithout_37 : decode cX10_goWithout 37 = .ok (.aload_n 0, 1) := dk_42 (by decide +kernel)
theorem dX10_goWithout_38 : decode cX10_goWithout 38 = .ok (.iconst 5, 1) := dk_8 (by decide +kernel)
theorem dX10_goWithout_39 : decode cX10_goWithout 39 = .ok (.iload_n 1, 1) := dk_27 (by decide +kernel)
theorem dX10_goWithout_40 : decode cX10_goWithout 40 = .ok (.iload_n 3, 1) := dk_29 (by decide +kernel)
theorem dX10_goWithout_41 : decode cX10_goWithout 41 = .ok (.aload_n 0, 1) := dk_42 (by decide +kernel)
theorem dX10_goWithout_42 : decode cX10_goWithout 42 = .ok (.invokevirtual 96, 3) := dk_182 (x := 0) (y := 96) (by decide +kernel) rfl
theorem dX10_goWithout_45 : decode cX10_goWithout 45 = .ok (.iconst (-1), 1) := dk_2 (by decide +kernel)
theorem dX10_goWithout_46 : decode cX10_goWithout 46 = .ok (.ixor, 1) := dk_130 (by decide +kernel)
theorem dX10_goWithout_47 : decode cX10_goWithout 47 = .ok (.iand, 1) := dk_126 (by decide +kernel)
theorem dX10_goWithout_48 : decode cX10_goWithout 48 = .ok (.iload 4, 2) := dk_21 (x := 4) (by decide +kernel)
theorem dX10_goWithout_50 : decode cX10_goWithout 50 = .ok (.invokevirtual 205, 3) := dk_182 (x := 0) (y := 205) (by decide +kernel) rfl
theorem dX10_goWithout_53 : decode cX10_goWithout 53 = .ok (.aload_n 0, 1) := dk_42 (by decide +kernel)
theorem dX10_goWithout_54 : decode cX10_goWithout 54 = .ok (.iload_n 1, 1) := dk_27 (by decide +kernel)
theorem dX10_goWithout_55 : decode cX10_goWithout 55 = .ok (.invokevirtual 214, 3) := dk_182 (x := 0) (y := 214) (by decide +kernel) rfl
theorem dX10_goWithout_58 : decode cX10_goWithout 58 = .ok (.aload_n 0, 1) := dk_42 (by decide +kernel)
theorem dX10_goWithout_59 : decode cX10_goWithout 59 = .ok (.iload_n 1, 1) := dk_27 (by decide +kernel)
theorem dX10_goWithout_60 : decode cX10_goWithout 60 = .ok (.invokevirtual 208, 3) := dk_182 (x := 0) (y := 208) (by decide +kernel) rfl
theorem dX10_goWithout_63 : decode cX10_goWithout 63 = .ok (.ifCond .eq 8, 3) := dk_153 (x := 0) (y := 8) (by decide +kernel) rfl
theorem dX10_goWithout_66 : decode cX10_goWithout 66 = .ok (.aload_n 0, 1) := dk_42 (by decide +kernel)
theorem dX10_goWithout_67 : decode cX10_goWithout 67 = .ok (.iload_n 1, 1) := dk_27 (by decide +kernel)
theorem dX10_goWithout_68 : decode cX10_goWithout 68 = .ok (.invokevirtual 211, 3) := dk_182 (x := 0) (y := 211) (by decide +kernel) rfl
theorem dX10_goWithout_71 : decode cX10_goWithout 71 = .ok (.return_, 1) := dk_177 (by decide +kernel)
def f_X10_goWithout (n : Nat) (o : Nat) (a1 : Int32) (a2 : Int32) (M : Mem) : Option Mem :=
  chk (isO M 10 o) <|
  obd (f_X10_get o a1 (3 : Int32) M) fun r3 =>
  obd (f_X10_without0 r3 a2 M) fun r5 =>
  obd (f_X10_get o a1 (0 : Int32) M) fun r7 =>
  if r7 = (2 : Int32) then (
    obd (f_X10_let o a1 (3 : Int32) r5 M) fun M29 =>
    some M29
    ) else (
    obd (f_X10_get o a1 (2 : Int32) M) fun r11 =>
    obd (f_X10_brokenOnes n o M) fun r13 =>
    obd (f_X10_sendAll n o (5 : Int32) a1 (r5 &&& (r13 ^^^ (-1 : Int32))) r11 M) fun M15 =>
    chk (isO M15 10 o) <|
    obd (f_X10_rest n o a1 M15) fun M18 =>
    chk (isO M18 10 o) <|
    obd2 (f_X10_canAsk n o a1 M18) fun r21 M22 =>
    if r21 = 0 then (
      some M22
      ) else (
      chk (isO M22 10 o) <|
      obd (f_X10_askNow n o a1 M22) fun M27 =>
      some M27
      )
    )
theorem cd_X10_goWithout : (yX10_goWithout.cls ≠ "java/lang/invoke/MethodHandle" ∧ yX10_goWithout.cls ≠ "java/lang/invoke/VarHandle") ∧ (parseMethodDescriptor yX10_goWithout.desc).map (fun d => d.parameters.length) = some 2 := ⟨⟨by decide +kernel, by decide +kernel⟩, by decide +kernel⟩
theorem k_X10_goWithout (G : Gam) {n : Nat} {o : Nat} {a1 : Int32} {a2 : Int32} {M : Mem} {rv : Mem} (hf : f_X10_goWithout n o a1 a2 M = some rv) : Kt yX10_goWithout cX10_goWithout 5 none 5 111 G [.ref (gB G + o), .int a1, .int a2] M rv none := by
  refine Kt.of (by decide) (Nat.le_of_ble_eq_true rfl) ?_
  intro p l e R s m args below meth c X hr hlk hnm
  refine s_drop [0, 1, 2] (vs' := [(0, .ref (gB G + o)), (1, .int a1), (2, .int a2)]) rfl ?_
  rw [f_X10_goWithout] at hf
  refine s_aload_n X 0 dX10_goWithout_0 rfl rfl ?_
  refine s_iload_n X 1 dX10_goWithout_1 rfl rfl ?_
  refine s_iconst X (v := (3 : Int32)) dX10_goWithout_2 rfl ?_
  obtain ⟨h1, hf⟩ := pk_chk hf
  obtain ⟨r3, hc2, hf⟩ := pk_obd hf
  refine s_callV X (ci := 10) (k_X10_get G hc2) rfl h1 wd1588 wd1590 wd57 wd1591 wd138 cd_X10_get ⟨Nat.le_of_ble_eq_true rfl, Nat.le_of_ble_eq_true rfl⟩ (Nat.le_of_ble_eq_true rfl) dX10_goWithout_3 ?_
  refine s_iload_n X 2 dX10_goWithout_6 rfl rfl ?_
  obtain ⟨r5, hc4, hf⟩ := pk_obd hf
  refine s_callS X (k_X10_without0 G hc4) wd1815 wd1816 wd1817 wd138 cd_X10_without0 ⟨Nat.le_of_ble_eq_true rfl, Nat.le_of_ble_eq_true rfl⟩ (Nat.le_of_ble_eq_true rfl) dX10_goWithout_7 ?_
  refine s_istore_n X (vs' := [(0, .ref (gB G + o)), (1, .int a1), (2, .int a2), (3, .int r5)]) dX10_goWithout_10 rfl (Nat.le_of_ble_eq_true rfl) [1, 2, 3, 0] rfl ?_
  refine s_aload_n X 0 dX10_goWithout_11 rfl rfl ?_
  refine s_iload_n X 1 dX10_goWithout_12 rfl rfl ?_
  refine s_iconst X (v := (0 : Int32)) dX10_goWithout_13 rfl ?_
  obtain ⟨r7, hc6, hf⟩ := pk_obd hf
  refine s_callV X (ci := 10) (k_X10_get G hc6) rfl h1 wd1588 wd1590 wd57 wd1591 wd138 cd_X10_get ⟨Nat.le_of_ble_eq_true rfl, Nat.le_of_ble_eq_true rfl⟩ (Nat.le_of_ble_eq_true rfl) dX10_goWithout_14 ?_
  refine s_iconst X (v := (2 : Int32)) dX10_goWithout_17 rfl ?_
  have hs8 := pk_ite hf
  clear hf
  refine s_icmp_ne X (tgt := 29) dX10_goWithout_18 rfl (fun c9 => ?_) (fun c9 => ?_)
  · have hf := hs8.2 c9
    refine s_aload_n X 0 dX10_goWithout_29 rfl rfl ?_
    refine s_iload_n X 1 dX10_goWithout_30 rfl rfl ?_
    refine s_iconst X (v := (2 : Int32)) dX10_goWithout_31 rfl ?_
    obtain ⟨r11, hc10, hf⟩ := pk_obd hf
    refine s_callV X (ci := 10) (k_X10_get G hc10) rfl h1 wd1588 wd1590 wd57 wd1591 wd138 cd_X10_get ⟨Nat.le_of_ble_eq_true rfl, Nat.le_of_ble_eq_true rfl⟩ (Nat.le_of_ble_eq_true rfl) dX10_goWithout_32 ?_
    refine s_istore X (vs' := [(0, .ref (gB G + o)), (1, .int a1), (2, .int a2), (3, .int r5), (4, .int r11)]) dX10_goWithout_35 (Nat.le_of_ble_eq_true rfl) [1, 2, 3, 4, 0] rfl ?_
    refine s_aload_n X 0 dX10_goWithout_37 rfl rfl ?_
    refine s_iconst X (v := (5 : Int32)) dX10_goWithout_38 rfl ?_
    refine s_iload_n X 1 dX10_goWithout_39 rfl rfl ?_
    refine s_iload_n X 3 dX10_goWithout_40 rfl rfl ?_
    refine s_aload_n X 0 dX10_goWithout_41 rfl rfl ?_
    obtain ⟨r13, hc12, hf⟩ := pk_obd hf
    refine s_callV X (ci := 10) (k_X10_brokenOnes G hc12) rfl h1 wd1584 wd1586 wd56 wd1587 wd138 cd_X10_brokenOnes ⟨Nat.le_of_ble_eq_true rfl, Nat.le_of_ble_eq_true rfl⟩ (Nat.le_of_ble_eq_true rfl) dX10_goWithout_42 ?_
    refine s_iconst X (v := (-1 : Int32)) dX10_goWithout_45 rfl ?_
    refine s_ixor X dX10_goWithout_46 ?_
    refine s_iand X dX10_goWithout_47 ?_
    refine s_iload X 4 dX10_goWithout_48 rfl ?_
    obtain ⟨M15, hc14, hf⟩ := pk_obd hf
    refine s_callV X (ci := 10) (k_X10_sendAll G hc14) rfl h1 wd1696 wd1698 wd69 wd1699 wd138 cd_X10_sendAll ⟨Nat.le_of_ble_eq_true rfl, Nat.le_of_ble_eq_true rfl⟩ (Nat.le_of_ble_eq_true rfl) dX10_goWithout_50 ?_
    refine s_aload_n X 0 dX10_goWithout_53 rfl rfl ?_
    refine s_iload_n X 1 dX10_goWithout_54 rfl rfl ?_
    obtain ⟨h16, hf⟩ := pk_chk hf
    obtain ⟨M18, hc17, hf⟩ := pk_obd hf
    refine s_callV X (ci := 10) (k_X10_rest G hc17) rfl h16 wd1715 wd1717 wd72 wd1718 wd138 cd_X10_rest ⟨Nat.le_of_ble_eq_true rfl, Nat.le_of_ble_eq_true rfl⟩ (Nat.le_of_ble_eq_true rfl) dX10_goWithout_55 ?_
    refine s_aload_n X 0 dX10_goWithout_58 rfl rfl ?_
    refine s_iload_n X 1 dX10_goWithout_59 rfl rfl ?_
    obtain ⟨h19, hf⟩ := pk_chk hf
    obtain ⟨r21, M22, hc20, hf⟩ := pk_obd2 hf
    refine s_callV X (ci := 10) (k_X10_canAsk G hc20) rfl h19 wd1684 wd1686 wd66 wd1687 wd138 cd_X10_canAsk ⟨Nat.le_of_ble_eq_true rfl, Nat.le_of_ble_eq_true rfl⟩ (Nat.le_of_ble_eq_true rfl) dX10_goWithout_60 ?_
    have hs23 := pk_ite hf
    clear hf
    refine s_if_eq X (tgt := 71) dX10_goWithout_63 rfl (fun c24 => ?_) (fun c24 => ?_)
    · have hf := hs23.1 c24
      cases hf
      exact s_vret X hr hlk dX10_goWithout_71
    · have hf := hs23.2 c24
      refine s_aload_n X 0 dX10_goWithout_66 rfl rfl ?_
      refine s_iload_n X 1 dX10_goWithout_67 rfl rfl ?_
      obtain ⟨h25, hf⟩ := pk_chk hf
      obtain ⟨M27, hc26, hf⟩ := pk_obd hf
      refine s_callV X (ci := 10) (k_X10_askNow G hc26) rfl h25 wd1688 wd1690 wd67 wd1691 wd138 cd_X10_askNow ⟨Nat.le_of_ble_eq_true rfl, Nat.le_of_ble_eq_true rfl⟩ (Nat.le_of_ble_eq_true rfl) dX10_goWithout_68 ?_
      cases hf
      exact s_vret X hr hlk dX10_goWithout_71
  · have hf := hs8.1 c9
    refine s_aload_n X 0 dX10_goWithout_21 rfl rfl ?_
    refine s_iload_n X 1 dX10_goWithout_22 rfl rfl ?_
    refine s_iconst X (v := (3 : Int32)) dX10_goWithout_23 rfl ?_
    refine s_iload_n X 3 dX10_goWithout_24 rfl rfl ?_
    obtain ⟨M29, hc28, hf⟩ := pk_obd hf
    refine s_callV X (ci := 10) (k_X10_let G hc28) rfl h1 wd1692 wd1694 wd68 wd1695 wd138 cd_X10_let ⟨Nat.le_of_ble_eq_true rfl, Nat.le_of_ble_eq_true rfl⟩ (Nat.le_of_ble_eq_true rfl) dX10_goWithout_25 ?_
    cases hf
    exact s_vret X hr hlk dX10_goWithout_28
theorem dX10_breakDown_0 : decode cX10_breakDown 0 = .ok (.aload_n 0, 1) := dk_42 (by decide +kernel)
theorem dX10_breakDown_1 : decode cX10_breakDown 1 = .ok (.iload_n 1, 1) := dk_27 (by decide +kernel)
theorem dX10_breakDown_2 : decode cX10_breakDown 2 = .ok (.invokevirtual 76, 3) := dk_182 (x := 0) (y := 76) (by decide +kernel) rfl
theorem dX10_breakDown_5 : decode cX10_breakDown 5 = .ok (.ifCond .eq 23, 3) := dk_153 (x := 0) (y := 23) (by decide +kernel) rfl
theorem dX10_breakDown_8 : decode cX10_breakDown 8 = .ok (.aload_n 0, 1) := dk_42 (by decide +kernel)
theorem dX10_breakDown_9 : decode cX10_breakDown 9 = .ok (.iload_n 1, 1) := dk_27 (by decide +kernel)
theorem dX10_breakDown_10 : decode cX10_breakDown 10 = .ok (.iconst 0, 1) := dk_3 (by decide +kernel)
theorem dX10_breakDown_11 : decode cX10_breakDown 11 = .ok (.invokevirtual 93, 3) := dk_182 (x := 0) (y := 93) (by decide +kernel) rfl
theorem dX10_breakDown_14 : decode cX10_breakDown 14 = .ok (.ifCond .ne 14, 3) := dk_154 (x := 0) (y := 14) (by decide +kernel) rfl
theorem dX10_breakDown_17 : decode cX10_breakDown 17 = .ok (.aload_n 0, 1) := dk_42 (by decide +kernel)
theorem dX10_breakDown_18 : decode cX10_breakDown 18 = .ok (.iload_n 1, 1) := dk_27 (by decide +kernel)
theorem dX10_breakDown_19 : decode cX10_breakDown 19 = .ok (.bipush 7, 2) := dk_16 (x := 7) (by decide +kernel) rfl
theorem dX10_breakDown_21 : decode cX10_breakDown 21 = .ok (.invokevirtual 93, 3) := dk_182 (x := 0) (y := 93) (by decide +kernel) rfl
theorem dX10_breakDown_24 : decode cX10_breakDown 24 = .ok (.iconst 1, 1) := dk_4 (by decide +kernel)
theorem dX10_breakDown_25 : decode cX10_breakDown 25 = .ok (.if_icmp .ne 5, 3) := dk_160 (x := 0) (y := 5) (by decide +kernel) rfl
theorem dX10_breakDown_28 : decode cX10_breakDown 28 = .ok (.iconst 0, 1) := dk_3 (by decide +kernel)
theorem dX10_breakDown_29 : decode cX10_breakDown 29 = .ok (.ireturn, 1) := dk_172 (by decide +kernel)
theorem dX10_breakDown_30 : decode cX10_breakDown 30 = .ok (.aload_n 0, 1) := dk_42 (by decide +kernel)
theorem dX10_breakDown_31 : decode cX10_breakDown 31 = .ok (.iload_n 1, 1) := dk_27 (by decide +kernel)
theorem dX10_breakDown_32 : decode cX10_breakDown 32 = .ok (.bipush 7, 2) := dk_16 (x := 7) (by decide +kernel) rfl
theorem dX10_breakDown_34 : decode cX10_breakDown 34 = .ok (.iconst 1, 1) := dk_4 (by decide +kernel)
theorem dX10_breakDown_35 : decode cX10_breakDown 35 = .ok (.invokevirtual 187, 3) := dk_182 (x := 0) (y := 187) (by decide +kernel) rfl
theorem dX10_breakDown_38 : decode cX10_breakDown 38 = .ok (.aload_n 0, 1) := dk_42 (by decide +kernel)
theorem dX10_breakDown_39 : decode cX10_breakDown 39 = .ok (.iload_n 1, 1) := dk_27 (by decide +kernel)
theorem dX10_breakDown_40 : decode cX10_breakDown 40 = .ok (.invokevirtual 259, 3) := dk_182 (x := 1) (y := 3) (by decide +kernel) rfl
theorem dX10_breakDown_43 : decode cX10_breakDown 43 = .ok (.aload_n 0, 1) := dk_42 (by decide +kernel)
theorem dX10_breakDown_44 : decode cX10_breakDown 44 = .ok (.iload_n 1, 1) := dk_27 (by decide +kernel)
theorem dX10_breakDown_45 : decode cX10_breakDown 45 = .ok (.invokevirtual 164, 3) := dk_182 (x := 0) (y := 164) (by decide +kernel) rfl
theorem dX10_breakDown_48 : decode cX10_breakDown 48 = .ok (.aload_n 0, 1) := dk_42 (by decide +kernel)
theorem dX10_breakDown_49 : decode cX10_breakDown 49 = .ok (.iload_n 1, 1) := dk_27 (by decide +kernel)
theorem dX10_breakDown_50 : decode cX10_breakDown 50 = .ok (.iconst 3, 1) := dk_6 (by decide +kernel)
theorem dX10_breakDown_51 : decode cX10_breakDown 51 = .ok (.invokevirtual 151, 3) := dk_182 (x := 0) (y := 151) (by decide +kernel) rfl
theorem dX10_breakDown_54 : decode cX10_breakDown 54 = .ok (.ifCond .le 12, 3) := dk_158 (x := 0) (y := 12) (by decide +kernel) rfl
theorem dX10_breakDown_57 : decode cX10_breakDown 57 = .ok (.aload_n 0, 1) := dk_42 (by decide +kernel)
theorem dX10_breakDown_58 : decode cX10_breakDown 58 = .ok (.iload_n 1, 1) := dk_27 (by decide +kernel)
theorem dX10_breakDown_59 : decode cX10_breakDown 59 = .ok (.iconst 0, 1) := dk_3 (by decide +kernel)
theorem dX10_breakDown_60 : decode cX10_breakDown 60 = .ok (.invokevirtual 168, 3) := dk_182 (x := 0) (y := 168) (by decide +kernel) rfl
theorem dX10_breakDown_63 : decode cX10_breakDown 63 = .ok (.goto (-15), 3) := dk_167 (x := 255) (y := 241) (by decide +kernel) rfl
theorem dX10_breakDown_66 : decode cX10_breakDown 66 = .ok (.iconst 0, 1) := dk_3 (by decide +kernel)
theorem dX10_breakDown_67 : decode cX10_breakDown 67 = .ok (.istore_n 2, 1) := dk_61 (by decide +kernel)
theorem dX10_breakDown_68 : decode cX10_breakDown 68 = .ok (.iload_n 2, 1) := dk_28 (by decide +kernel)
theorem dX10_breakDown_69 : decode cX10_breakDown 69 = .ok (.aload_n 0, 1) := dk_42 (by decide +kernel)
theorem dX10_breakDown_70 : decode cX10_breakDown 70 = .ok (.getfield 7, 3) := dk_180 (x := 0) (y := 7) (by decide +kernel) rfl
theorem dX10_breakDown_73 : decode cX10_breakDown 73 = .ok (.iconst 0, 1) := dk_3 (by decide +kernel)
theorem dX10_breakDown_74 : decode cX10_breakDown 74 = .ok (.iaload, 1) := dk_46 (by decide +kernel)
theorem dX10_breakDown_75 : decode cX10_breakDown 75 = .ok (.if_icmp .ge 20, 3) := dk_162 (x := 0) (y := 20) (by decide +kernel) rfl
theorem dX10_breakDown_78 : decode cX10_breakDown 78 = .ok (.iload_n 2, 1) := dk_28 (by decide +kernel)
theorem dX10_breakDown_79 : decode cX10_breakDown 79 = .ok (.iload_n 1, 1) := dk_27 (by decide +kernel)
theorem dX10_breakDown_80 : decode cX10_breakDown 80 = .ok (.if_icmp .eq 9, 3) := dk_159 (x := 0) (y := 9) (by decide +kernel) rfl
theorem dX10_breakDown_83 : decode cX10_breakDown 83 = .ok (.aload_n 0, 1) := dk_42 (by decide +kernel)
theorem dX10_breakDown_84 : decode cX10_breakDown 84 = .ok (.iload_n 2, 1) := dk_28 (by decide +kernel)
theorem dX10_breakDown_85 : decode cX10_breakDown 85 = .ok (.iload_n 1, 1) := dk_27 (by decide +kernel)
theorem dX10_breakDown_86 : decode cX10_breakDown 86 = .ok (.invokevirtual 262, 3) := dk_182 (x := 1) (y := 6) (by decide +kernel) rfl
theorem dX10_breakDown_89 : decode cX10_breakDown 89 = .ok (.iinc 2 1, 3) := dk_132 (x := 2) (y := 1) (by decide +kernel) rfl
theorem dX10_breakDown_92 : decode cX10_breakDown 92 = .ok (.goto (-24), 3) := dk_167 (x := 255) (y := 232) (by decide +kernel) rfl
theorem dX10_breakDown_95 : decode cX10_breakDown 95 = .ok (.iconst 0, 1) := dk_3 (by decide +kernel)
theorem dX10_breakDown_96 : decode cX10_breakDown 96 = .ok (.istore_n 2, 1) := dk_61 (by decide +kernel)
theorem dX10_breakDown_97 : decode cX10_breakDown 97 = .ok (.iload_n 2, 1) := dk_28 (by decide +kernel)
theorem dX10_breakDown_98 : decode cX10_breakDown 98 = .ok (.aload_n 0, 1) := dk_42 (by decide +kernel)
theorem dX10_breakDown_99 : decode cX10_breakDown 99 = .ok (.getfield 7, 3) := dk_180 (x := 0) (y := 7) (by decide +kernel) rfl
theorem dX10_breakDown_102 : decode cX10_breakDown 102 = .ok (.iconst 0, 1) := dk_3 (by decide +kernel)
theorem dX10_breakDown_103 : decode cX10_breakDown 103 = .ok (.iaload, 1) := dk_46 (by decide +kernel)
theorem dX10_breakDown_104 : decode cX10_breakDown 104 = .ok (.if_icmp .ge 33, 3) := dk_162 (x := 0) (y := 33) (by decide +kernel) rfl
theorem dX10_breakDown_107 : decode cX10_breakDown 107 = .ok (.iload_n 2, 1) := dk_28 (by decide +kernel)
theorem dX10_breakDown_108 : decode cX10_breakDown 108 = .ok (.iload_n 1, 1) := dk_27 (by decide +kernel)
theorem dX10_breakDown_109 : decode cX10_breakDown 109 = .ok (.if_icmp .eq 22, 3) := dk_159 (x := 0) (y := 22) (by decide +kernel) rfl
theorem dX10_breakDown_112 : decode cX10_breakDown 112 = .ok (.aload_n 0, 1) := dk_42 (by decide +kernel)
theorem dX10_breakDown_113 : decode cX10_breakDown 113 = .ok (.iload_n 2, 1) := dk_28 (by decide +kernel)
theorem dX10_breakDown_114 : decode cX10_breakDown 114 = .ok (.iconst 3, 1) := dk_6 (by decide +kernel)
theorem dX10_breakDown_115 : decode cX10_breakDown 115 = .ok (.invokevirtual 93, 3) := dk_182 (x := 0) (y := 93) (by decide +kernel) rfl
theorem dX10_breakDown_118 : decode cX10_breakDown 118 = .ok (.iload_n 1, 1) := dk_27 (by decide +kernel)
theorem dX10_breakDown_119 : decode cX10_breakDown 119 = .ok (.invokestatic 45, 3) := dk_184 (x := 0) (y := 45) (by decide +kernel) rfl
theorem dX10_breakDown_122 : decode cX10_breakDown 122 = .ok (.ifCond .eq 9, 3) := dk_153 (x := 0) (y := 9) (by decide +kernel) rfl
theorem dX10_breakDown_125 : decode cX10_breakDown 125 = .ok (.aload_n 0, 1) := dk_42 (by decide +kernel)
theorem dX10_breakDown_126 : decode cX10_breakDown 126 = .ok (.iload_n 2, 1) := dk_28 (by decide +kernel)
theorem dX10_breakDown_127 : decode cX10_breakDown 127 = .ok (.iload_n 1, 1) := dk_27 (by decide +kernel)
theorem dX10_breakDown_128 : decode cX10_breakDown 128 = .ok (.invokevirtual 265, 3) := dk_182 (x := 1) (y := 9) (by decide +kernel) rfl
theorem dX10_breakDown_131 : decode cX10_breakDown 131 = .ok (.iinc 2 1, 3) := dk_132 (x := 2) (y := 1) (by decide +kernel) rfl
theorem dX10_breakDown_134 : decode cX10_breakDown 134 = .ok (.goto (-37), 3) := dk_167 (x := 255) (y := 219) (by decide +kernel) rfl
theorem dX10_breakDown_137 : decode cX10_breakDown 137 = .ok (.iconst 1, 1) := dk_4 (by decide +kernel)
theorem dX10_breakDown_138 : decode cX10_breakDown 138 = .ok (.ireturn, 1) := dk_172 (by decide +kernel)
def f_X10_breakDown_97 : Nat → Nat → Int32 → Int32 → Mem → Option (Int32 × Mem)
  | 0, _, _, _, _ => none
  | n + 1, v0, v1, v2, M =>
    chk (isO M 10 v0) <|
    bnd (mR M v0 0) fun o2 =>
    chk (isO M 100 o2) <|
    chk (inB (0 : Int32) (mLn M o2)) <|
    if (mI M o2 ((0 : Int32)).toNatClampNeg) ≤ v2 then (
      some ((1 : Int32), M)
      ) else (
      if v2 = v1 then (
        bnd (v2 + (1 : Int32)) fun x10 =>
        f_X10_breakDown_97 n v0 v1 x10 M
        ) else (
        obd (f_X10_get v0 v2 (3 : Int32) M) fun r13 =>
        obd (f_X10_has r13 v1 M) fun r15 =>
        if r15 = 0 then (
          bnd (v2 + (1 : Int32)) fun x18 =>
          f_X10_breakDown_97 n v0 v1 x18 M
          ) else (
          obd (f_X10_goWithout n v0 v2 v1 M) fun M21 =>
          bnd (v2 + (1 : Int32)) fun x22 =>
          f_X10_breakDown_97 n v0 v1 x22 M21
          )
        )
      )
def f_X10_breakDown_68 : Nat → Nat → Int32 → Int32 → Mem → Option (Int32 × Mem)
  | 0, _, _, _, _ => none
  | n + 1, v0, v1, v2, M =>
    chk (isO M 10 v0) <|
    bnd (mR M v0 0) fun o2 =>
    chk (isO M 100 o2) <|
    chk (inB (0 : Int32) (mLn M o2)) <|
    if (mI M o2 ((0 : Int32)).toNatClampNeg) ≤ v2 then (
      f_X10_breakDown_97 n v0 v1 (0 : Int32) M
      ) else (
      if v2 = v1 then (
        bnd (v2 + (1 : Int32)) fun x10 =>
        f_X10_breakDown_68 n v0 v1 x10 M
        ) else (
        obd (f_X10_forgotten n v0 v2 v1 M) fun M13 =>
        bnd (v2 + (1 : Int32)) fun x14 =>
        f_X10_breakDown_68 n v0 v1 x14 M13
        )
      )
def f_X10_breakDown_48 : Nat → Nat → Int32 → Mem → Option (Int32 × Mem)
  | 0, _, _, _ => none
  | n + 1, v0, v1, M =>
    chk (isO M 10 v0) <|
    obd (f_X10_of v0 v1 (3 : Int32) M) fun r3 =>
    if r3 ≤ 0 then (
      f_X10_breakDown_68 n v0 v1 (0 : Int32) M
      ) else (
      obd (f_X10_goWaiting n v0 v1 (0 : Int32) M) fun M7 =>
      f_X10_breakDown_48 n v0 v1 M7
      )
def f_X10_breakDown (n : Nat) (o : Nat) (a1 : Int32) (M : Mem) : Option (Int32 × Mem) :=
  chk (isO M 10 o) <|
  obd (f_X10_isNode o a1 M) fun r3 =>
  if r3 = 0 then (
    some ((0 : Int32), M)
    ) else (
    obd (f_X10_get o a1 (0 : Int32) M) fun r7 =>
    if r7 = 0 then (
      obd (f_X10_get o a1 (7 : Int32) M) fun r11 =>
      if r11 = (1 : Int32) then (
        some ((0 : Int32), M)
        ) else (
        obd (f_X10_let o a1 (7 : Int32) (1 : Int32) M) fun M15 =>
        chk (isO M15 10 o) <|
        obd (f_X10_dropLetters n o a1 M15) fun M18 =>
        chk (isO M18 10 o) <|
        obd (f_X10_nobody o a1 M18) fun M21 =>
        f_X10_breakDown_48 n o a1 M21
        )
      ) else (
      some ((0 : Int32), M)
      )
    )
theorem cd_X10_breakDown : (yX10_breakDown.cls ≠ "java/lang/invoke/MethodHandle" ∧ yX10_breakDown.cls ≠ "java/lang/invoke/VarHandle") ∧ (parseMethodDescriptor yX10_breakDown.desc).map (fun d => d.parameters.length) = some 1 := ⟨⟨by decide +kernel, by decide +kernel⟩, by decide +kernel⟩
section
variable {p : Program} {l : Launch} {e : Env} {R : Room} {s : State} {m : MethodId} {args : Array Value} {below : List Frame} {meth : Method} {c : Code} {G : Gam} {M0 : Mem}
theorem l_X10_breakDown_97 {rv : (Int32 × Mem)} (X : Cx p R s m args c G M0 cX10_breakDown yX10_breakDown.cls 3 6 135) (hr : meth.sig.returnType = (some .boolean)) (hlk : meth.locks = false) (hnm : meth.name = "breakDown") : ∀ {n : Nat} (v0 : Nat) (v1 : Int32) (v2 : Int32) (M : Mem), f_X10_breakDown_97 n v0 v1 v2 M = some rv → Sg p l e R s m args below meth c (Qm below G args s (some (.int rv.1)) M0 rv.2) G M0 3 97 [(0, .ref (gB G + v0)), (1, .int v1), (2, .int v2)] [] M := by
  intro n
  induction n with
  | zero => intro v0 v1 v2 M hf; exact (pk_none hf).elim
  | succ n ih =>
    intro v0 v1 v2 M hf
    rw [f_X10_breakDown_97] at hf
    refine s_iload_n X 2 dX10_breakDown_97 rfl rfl ?_
    refine s_aload_n X 0 dX10_breakDown_98 rfl rfl ?_
    obtain ⟨h1, hf⟩ := pk_chk hf
    obtain ⟨o2, e3, hf⟩ := pk_bnd hf
    obtain ⟨h4, hf⟩ := pk_chk hf
    refine s_getR X (ci := 10) (k := 0) rfl (Nat.le_of_ble_eq_true rfl) h1 wd1440 (fun _ _ _ => rfl) (e3 ▸ h4) dX10_breakDown_99 (e3 ▸ ?_)
    refine s_iconst X (v := (0 : Int32)) dX10_breakDown_102 rfl ?_
    obtain ⟨h5, hf⟩ := pk_chk hf
    refine s_iald X h4 h5 dX10_breakDown_103 ?_
    have hs6 := pk_ite hf
    clear hf
    refine s_icmp_ge X (tgt := 137) dX10_breakDown_104 rfl (fun c7 => ?_) (fun c7 => ?_)
    · have hf := hs6.1 c7
      refine s_iconst X (v := (1 : Int32)) dX10_breakDown_137 rfl ?_
      cases hf
      exact s_zret X hr (bz_n (Or.inr rfl)) hlk dX10_breakDown_138
    · have hf := hs6.2 c7
      refine s_iload_n X 2 dX10_breakDown_107 rfl rfl ?_
      refine s_iload_n X 1 dX10_breakDown_108 rfl rfl ?_
      have hs8 := pk_ite hf
      clear hf
      refine s_icmp_eq X (tgt := 131) dX10_breakDown_109 rfl (fun c9 => ?_) (fun c9 => ?_)
      · have hf := hs8.1 c9
        obtain ⟨x10, e11, hf⟩ := pk_bnd hf
        refine s_iinc X (vs' := [(0, .ref (gB G + v0)), (1, .int v1), (2, .int x10)]) 2 dX10_breakDown_131 rfl (v := x10) e11.symm (Nat.le_of_ble_eq_true rfl) [1, 2, 0] rfl ?_
        refine s_goto X (tgt := 97) dX10_breakDown_134 rfl ?_
        exact ih _ _ _ _ hf
      · have hf := hs8.2 c9
        refine s_aload_n X 0 dX10_breakDown_112 rfl rfl ?_
        refine s_iload_n X 2 dX10_breakDown_113 rfl rfl ?_
        refine s_iconst X (v := (3 : Int32)) dX10_breakDown_114 rfl ?_
        obtain ⟨r13, hc12, hf⟩ := pk_obd hf
        refine s_callV X (ci := 10) (k_X10_get G hc12) rfl h1 wd1588 wd1590 wd57 wd1591 wd138 cd_X10_get ⟨Nat.le_of_ble_eq_true rfl, Nat.le_of_ble_eq_true rfl⟩ (Nat.le_of_ble_eq_true rfl) dX10_breakDown_115 ?_
        refine s_iload_n X 1 dX10_breakDown_118 rfl rfl ?_
        obtain ⟨r15, hc14, hf⟩ := pk_obd hf
        refine s_callS X (k_X10_has G hc14) wd1565 wd1566 wd1567 wd138 cd_X10_has ⟨Nat.le_of_ble_eq_true rfl, Nat.le_of_ble_eq_true rfl⟩ (Nat.le_of_ble_eq_true rfl) dX10_breakDown_119 ?_
        have hs16 := pk_ite hf
        clear hf
        refine s_if_eq X (tgt := 131) dX10_breakDown_122 rfl (fun c17 => ?_) (fun c17 => ?_)
        · have hf := hs16.1 c17
          obtain ⟨x18, e19, hf⟩ := pk_bnd hf
          refine s_iinc X (vs' := [(0, .ref (gB G + v0)), (1, .int v1), (2, .int x18)]) 2 dX10_breakDown_131 rfl (v := x18) e19.symm (Nat.le_of_ble_eq_true rfl) [1, 2, 0] rfl ?_
          refine s_goto X (tgt := 97) dX10_breakDown_134 rfl ?_
          exact ih _ _ _ _ hf
        · have hf := hs16.2 c17
          refine s_aload_n X 0 dX10_breakDown_125 rfl rfl ?_
          refine s_iload_n X 2 dX10_breakDown_126 rfl rfl ?_
          refine s_iload_n X 1 dX10_breakDown_127 rfl rfl ?_
          obtain ⟨M21, hc20, hf⟩ := pk_obd hf
          refine s_callV X (ci := 10) (k_X10_goWithout G hc20) rfl h1 wd1854 wd1856 wd99 wd1857 wd138 cd_X10_goWithout ⟨Nat.le_of_ble_eq_true rfl, Nat.le_of_ble_eq_true rfl⟩ (Nat.le_of_ble_eq_true rfl) dX10_breakDown_128 ?_
          obtain ⟨x22, e23, hf⟩ := pk_bnd hf
          refine s_iinc X (vs' := [(0, .ref (gB G + v0)), (1, .int v1), (2, .int x22)]) 2 dX10_breakDown_131 rfl (v := x22) e23.symm (Nat.le_of_ble_eq_true rfl) [1, 2, 0] rfl ?_
          refine s_goto X (tgt := 97) dX10_breakDown_134 rfl ?_
          exact ih _ _ _ _ hf
theorem l_X10_breakDown_68 {rv : (Int32 × Mem)} (X : Cx p R s m args c G M0 cX10_breakDown yX10_breakDown.cls 3 6 135) (hr : meth.sig.returnType = (some .boolean)) (hlk : meth.locks = false) (hnm : meth.name = "breakDown") : ∀ {n : Nat} (v0 : Nat) (v1 : Int32) (v2 : Int32) (M : Mem), f_X10_breakDown_68 n v0 v1 v2 M = some rv → Sg p l e R s m args below meth c (Qm below G args s (some (.int rv.1)) M0 rv.2) G M0 3 68 [(0, .ref (gB G + v0)), (1, .int v1), (2, .int v2)] [] M := by
  intro n
  induction n with
  | zero => intro v0 v1 v2 M hf; exact (pk_none hf).elim
  | succ n ih =>
    intro v0 v1 v2 M hf
    rw [f_X10_breakDown_68] at hf
    refine s_iload_n X 2 dX10_breakDown_68 rfl rfl ?_
    refine s_aload_n X 0 dX10_breakDown_69 rfl rfl ?_
    obtain ⟨h1, hf⟩ := pk_chk hf
    obtain ⟨o2, e3, hf⟩ := pk_bnd hf
    obtain ⟨h4, hf⟩ := pk_chk hf
    refine s_getR X (ci := 10) (k := 0) rfl (Nat.le_of_ble_eq_true rfl) h1 wd1440 (fun _ _ _ => rfl) (e3 ▸ h4) dX10_breakDown_70 (e3 ▸ ?_)
    refine s_iconst X (v := (0 : Int32)) dX10_breakDown_73 rfl ?_
    obtain ⟨h5, hf⟩ := pk_chk hf
    refine s_iald X h4 h5 dX10_breakDown_74 ?_
    have hs6 := pk_ite hf
    clear hf
    refine s_icmp_ge X (tgt := 95) dX10_breakDown_75 rfl (fun c7 => ?_) (fun c7 => ?_)
    · have hf := hs6.1 c7
      refine s_iconst X (v := (0 : Int32)) dX10_breakDown_95 rfl ?_
      refine s_istore_n X (vs' := [(0, .ref (gB G + v0)), (1, .int v1), (2, .int (0 : Int32))]) dX10_breakDown_96 rfl (Nat.le_of_ble_eq_true rfl) [1, 2, 0] rfl ?_
      exact l_X10_breakDown_97 X hr hlk hnm _ _ _ _ hf
    · have hf := hs6.2 c7
      refine s_iload_n X 2 dX10_breakDown_78 rfl rfl ?_
      refine s_iload_n X 1 dX10_breakDown_79 rfl rfl ?_
      have hs8 := pk_ite hf
      clear hf
      refine s_icmp_eq X (tgt := 89) dX10_breakDown_80 rfl (fun c9 => ?_) (fun c9 => ?_)
      · have hf := hs8.1 c9
        obtain ⟨x10, e11, hf⟩ := pk_bnd hf
        refine s_iinc X (vs' := [(0, .ref (gB G + v0)), (1, .int v1), (2, .int x10)]) 2 dX10_breakDown_89 rfl (v := x10) e11.symm (Nat.le_of_ble_eq_true rfl) [1, 2, 0] rfl ?_
        refine s_goto X (tgt := 68) dX10_breakDown_92 rfl ?_
        exact ih _ _ _ _ hf
      · have hf := hs8.2 c9
        refine s_aload_n X 0 dX10_breakDown_83 rfl rfl ?_
        refine s_iload_n X 2 dX10_breakDown_84 rfl rfl ?_
        refine s_iload_n X 1 dX10_breakDown_85 rfl rfl ?_
        obtain ⟨M13, hc12, hf⟩ := pk_obd hf
        refine s_callV X (ci := 10) (k_X10_forgotten G hc12) rfl h1 wd1850 wd1852 wd98 wd1853 wd138 cd_X10_forgotten ⟨Nat.le_of_ble_eq_true rfl, Nat.le_of_ble_eq_true rfl⟩ (Nat.le_of_ble_eq_true rfl) dX10_breakDown_86 ?_
        obtain ⟨x14, e15, hf⟩ := pk_bnd hf
        refine s_iinc X (vs' := [(0, .ref (gB G + v0)), (1, .int v1), (2, .int x14)]) 2 dX10_breakDown_89 rfl (v := x14) e15.symm (Nat.le_of_ble_eq_true rfl) [1, 2, 0] rfl ?_
        refine s_goto X (tgt := 68) dX10_breakDown_92 rfl ?_
        exact ih _ _ _ _ hf
theorem l_X10_breakDown_48 {rv : (Int32 × Mem)} (X : Cx p R s m args c G M0 cX10_breakDown yX10_breakDown.cls 3 6 135) (hr : meth.sig.returnType = (some .boolean)) (hlk : meth.locks = false) (hnm : meth.name = "breakDown") : ∀ {n : Nat} (v0 : Nat) (v1 : Int32) (M : Mem), f_X10_breakDown_48 n v0 v1 M = some rv → Sg p l e R s m args below meth c (Qm below G args s (some (.int rv.1)) M0 rv.2) G M0 3 48 [(0, .ref (gB G + v0)), (1, .int v1)] [] M := by
  intro n
  induction n with
  | zero => intro v0 v1 M hf; exact (pk_none hf).elim
  | succ n ih =>
    intro v0 v1 M hf
    rw [f_X10_breakDown_48] at hf
    refine s_aload_n X 0 dX10_breakDown_48 rfl rfl ?_
    refine s_iload_n X 1 dX10_breakDown_49 rfl rfl ?_
    refine s_iconst X (v := (3 : Int32)) dX10_breakDown_50 rfl ?_
    obtain ⟨h1, hf⟩ := pk_chk hf
    obtain ⟨r3, hc2, hf⟩ := pk_obd hf
    refine s_callV X (ci := 10) (k_X10_of G hc2) rfl h1 wd1761 wd1763 wd79 wd1764 wd138 cd_X10_of ⟨Nat.le_of_ble_eq_true rfl, Nat.le_of_ble_eq_true rfl⟩ (Nat.le_of_ble_eq_true rfl) dX10_breakDown_51 ?_
    have hs4 := pk_ite hf
    clear hf
    refine s_if_le X (tgt := 66) dX10_breakDown_54 rfl (fun c5 => ?_) (fun c5 => ?_)
    · have hf := hs4.1 c5
      refine s_iconst X (v := (0 : Int32)) dX10_breakDown_66 rfl ?_
      refine s_istore_n X (vs' := [(0, .ref (gB G + v0)), (1, .int v1), (2, .int (0 : Int32))]) dX10_breakDown_67 rfl (Nat.le_of_ble_eq_true rfl) [1, 2, 0] rfl ?_
      exact l_X10_breakDown_68 X hr hlk hnm _ _ _ _ hf
    · have hf := hs4.2 c5
      refine s_aload_n X 0 dX10_breakDown_57 rfl rfl ?_
      refine s_iload_n X 1 dX10_breakDown_58 rfl rfl ?_
      refine s_iconst X (v := (0 : Int32)) dX10_breakDown_59 rfl ?_
      obtain ⟨M7, hc6, hf⟩ := pk_obd hf
      refine s_callV X (ci := 10) (k_X10_goWaiting G hc6) rfl h1 wd1788 wd1790 wd85 wd1791 wd138 cd_X10_goWaiting ⟨Nat.le_of_ble_eq_true rfl, Nat.le_of_ble_eq_true rfl⟩ (Nat.le_of_ble_eq_true rfl) dX10_breakDown_60 ?_
      refine s_goto X (tgt := 48) dX10_breakDown_63 rfl ?_
      exact ih _ _ _ hf
end
theorem k_X10_breakDown (G : Gam) {n : Nat} {o : Nat} {a1 : Int32} {M : Mem} {rv : (Int32 × Mem)} (hf : f_X10_breakDown n o a1 M = some rv) : Kt yX10_breakDown cX10_breakDown 3 (some .boolean) 6 135 G [.ref (gB G + o), .int a1] M rv.2 (some (.int rv.1)) := by
  refine Kt.of (by decide) (Nat.le_of_ble_eq_true rfl) ?_
  intro p l e R s m args below meth c X hr hlk hnm
  refine s_drop [0, 1] (vs' := [(0, .ref (gB G + o)), (1, .int a1)]) rfl ?_
  rw [f_X10_breakDown] at hf
  refine s_aload_n X 0 dX10_breakDown_0 rfl rfl ?_
  refine s_iload_n X 1 dX10_breakDown_1 rfl rfl ?_
  obtain ⟨h1, hf⟩ := pk_chk hf
  obtain ⟨r3, hc2, hf⟩ := pk_obd hf
  refine s_callV X (ci := 10) (k_X10_isNode G hc2) rfl h1 wd1554 wd1556 wd53 wd1557 wd138 cd_X10_isNode ⟨Nat.le_of_ble_eq_true rfl, Nat.le_of_ble_eq_true rfl⟩ (Nat.le_of_ble_eq_true rfl) dX10_breakDown_2 ?_
  have hs4 := pk_ite hf
  clear hf
  refine s_if_eq X (tgt := 28) dX10_breakDown_5 rfl (fun c5 => ?_) (fun c5 => ?_)
  · have hf := hs4.1 c5
    refine s_iconst X (v := (0 : Int32)) dX10_breakDown_28 rfl ?_
    cases hf
    exact s_zret X hr (bz_n (Or.inl rfl)) hlk dX10_breakDown_29
  · have hf := hs4.2 c5
    refine s_aload_n X 0 dX10_breakDown_8 rfl rfl ?_
    refine s_iload_n X 1 dX10_breakDown_9 rfl rfl ?_
    refine s_iconst X (v := (0 : Int32)) dX10_breakDown_10 rfl ?_
    obtain ⟨r7, hc6, hf⟩ := pk_obd hf
    refine s_callV X (ci := 10) (k_X10_get G hc6) rfl h1 wd1588 wd1590 wd57 wd1591 wd138 cd_X10_get ⟨Nat.le_of_ble_eq_true rfl, Nat.le_of_ble_eq_true rfl⟩ (Nat.le_of_ble_eq_true rfl) dX10_breakDown_11 ?_
    have hs8 := pk_ite hf
    clear hf
    refine s_if_ne X (tgt := 28) dX10_breakDown_14 rfl (fun c9 => ?_) (fun c9 => ?_)
    · have hf := hs8.2 c9
      refine s_iconst X (v := (0 : Int32)) dX10_breakDown_28 rfl ?_
      cases hf
      exact s_zret X hr (bz_n (Or.inl rfl)) hlk dX10_breakDown_29
    · have hf := hs8.1 c9
      refine s_aload_n X 0 dX10_breakDown_17 rfl rfl ?_
      refine s_iload_n X 1 dX10_breakDown_18 rfl rfl ?_
      refine s_bipush X (v := (7 : Int32)) dX10_breakDown_19 rfl ?_
      obtain ⟨r11, hc10, hf⟩ := pk_obd hf
      refine s_callV X (ci := 10) (k_X10_get G hc10) rfl h1 wd1588 wd1590 wd57 wd1591 wd138 cd_X10_get ⟨Nat.le_of_ble_eq_true rfl, Nat.le_of_ble_eq_true rfl⟩ (Nat.le_of_ble_eq_true rfl) dX10_breakDown_21 ?_
      refine s_iconst X (v := (1 : Int32)) dX10_breakDown_24 rfl ?_
      have hs12 := pk_ite hf
      clear hf
      refine s_icmp_ne X (tgt := 30) dX10_breakDown_25 rfl (fun c13 => ?_) (fun c13 => ?_)
      · have hf := hs12.2 c13
        refine s_aload_n X 0 dX10_breakDown_30 rfl rfl ?_
        refine s_iload_n X 1 dX10_breakDown_31 rfl rfl ?_
        refine s_bipush X (v := (7 : Int32)) dX10_breakDown_32 rfl ?_
        refine s_iconst X (v := (1 : Int32)) dX10_breakDown_34 rfl ?_
        obtain ⟨M15, hc14, hf⟩ := pk_obd hf
        refine s_callV X (ci := 10) (k_X10_let G hc14) rfl h1 wd1692 wd1694 wd68 wd1695 wd138 cd_X10_let ⟨Nat.le_of_ble_eq_true rfl, Nat.le_of_ble_eq_true rfl⟩ (Nat.le_of_ble_eq_true rfl) dX10_breakDown_35 ?_
        refine s_aload_n X 0 dX10_breakDown_38 rfl rfl ?_
        refine s_iload_n X 1 dX10_breakDown_39 rfl rfl ?_
        obtain ⟨h16, hf⟩ := pk_chk hf
        obtain ⟨M18, hc17, hf⟩ := pk_obd hf
        refine s_callV X (ci := 10) (k_X10_dropLetters G hc17) rfl h16 wd1846 wd1848 wd97 wd1849 wd138 cd_X10_dropLetters ⟨Nat.le_of_ble_eq_true rfl, Nat.le_of_ble_eq_true rfl⟩ (Nat.le_of_ble_eq_true rfl) dX10_breakDown_40 ?_
        refine s_aload_n X 0 dX10_breakDown_43 rfl rfl ?_
        refine s_iload_n X 1 dX10_breakDown_44 rfl rfl ?_
        obtain ⟨h19, hf⟩ := pk_chk hf
        obtain ⟨M21, hc20, hf⟩ := pk_obd hf
        refine s_callV X (ci := 10) (k_X10_nobody G hc20) rfl h19 wd1784 wd1786 wd84 wd1787 wd138 cd_X10_nobody ⟨Nat.le_of_ble_eq_true rfl, Nat.le_of_ble_eq_true rfl⟩ (Nat.le_of_ble_eq_true rfl) dX10_breakDown_45 ?_
        exact l_X10_breakDown_48 X hr hlk hnm _ _ _ hf
      · have hf := hs12.1 c13
        refine s_iconst X (v := (0 : Int32)) dX10_breakDown_28 rfl ?_
        cases hf
        exact s_zret X hr (bz_n (Or.inl rfl)) hlk dX10_breakDown_29
theorem dX2_isStill_0 : decode cX2_isStill 0 = .ok (.aload_n 0, 1) := dk_42 (by decide +kernel)
theorem dX2_isStill_1 : decode cX2_isStill 1 = .ok (.getfield 55, 3) := dk_180 (x := 0) (y := 55) (by decide +kernel) rfl
theorem dX2_isStill_4 : decode cX2_isStill 4 = .ok (.ifCond .ne 24, 3) := dk_154 (x := 0) (y := 24) (by decide +kernel) rfl
theorem dX2_isStill_7 : decode cX2_isStill 7 = .ok (.aload_n 0, 1) := dk_42 (by decide +kernel)
theorem dX2_isStill_8 : decode cX2_isStill 8 = .ok (.getfield 59, 3) := dk_180 (x := 0) (y := 59) (by decide +kernel) rfl
theorem dX2_isStill_11 : decode cX2_isStill 11 = .ok (.ifCond .ne 17, 3) := dk_154 (x := 0) (y := 17) (by decide +kernel) rfl
theorem dX2_isStill_14 : decode cX2_isStill 14 = .ok (.aload_n 0, 1) := dk_42 (by decide +kernel)
theorem dX2_isStill_15 : decode cX2_isStill 15 = .ok (.getfield 12, 3) := dk_180 (x := 0) (y := 12) (by decide +kernel) rfl
theorem dX2_isStill_18 : decode cX2_isStill 18 = .ok (.getfield 112, 3) := dk_180 (x := 0) (y := 112) (by decide +kernel) rfl
theorem dX2_isStill_21 : decode cX2_isStill 21 = .ok (.ifCond .ne 7, 3) := dk_154 (x := 0) (y := 7) (by decide +kernel) rfl
theorem dX2_isStill_24 : decode cX2_isStill 24 = .ok (.iconst 1, 1) := dk_4 (by decide +kernel)
theorem dX2_isStill_25 : decode cX2_isStill 25 = .ok (.goto 4, 3) := dk_167 (x := 0) (y := 4) (by decide +kernel) rfl
theorem dX2_isStill_28 : decode cX2_isStill 28 = .ok (.iconst 0, 1) := dk_3 (by decide +kernel)
theorem dX2_isStill_29 : decode cX2_isStill 29 = .ok (.ireturn, 1) := dk_172 (by decide +kernel)
def f_X2_isStill (o : Nat) (M : Mem) : Option Int32 :=
  chk (isO M 2 o) <|
  if (mI M o 7) = 0 then (
    if (mI M o 8) = 0 then (
      bnd (mR M o 1) fun o6 =>
      chk (isO M 5 o6) <|
      if (mI M o6 10) = 0 then (
        some (1 : Int32)
        ) else (
        some (0 : Int32)
        )
      ) else (
      some (0 : Int32)
      )
    ) else (
    some (0 : Int32)
    )
theorem cd_X2_isStill : (yX2_isStill.cls ≠ "java/lang/invoke/MethodHandle" ∧ yX2_isStill.cls ≠ "java/lang/invoke/VarHandle") ∧ (parseMethodDescriptor yX2_isStill.desc).map (fun d => d.parameters.length) = some 0 := ⟨⟨by decide +kernel, by decide +kernel⟩, by decide +kernel⟩
theorem k_X2_isStill (G : Gam) {o : Nat} {M : Mem} {rv : Int32} (hf : f_X2_isStill o M = some rv) : Kt yX2_isStill cX2_isStill 1 (some .boolean) 0 0 G [.ref (gB G + o)] M M (some (.int rv)) := by
  refine Kt.of (by decide) (Nat.le_of_ble_eq_true rfl) ?_
  intro p l e R s m args below meth c X hr hlk hnm
  refine s_drop [0] (vs' := [(0, .ref (gB G + o))]) rfl ?_
  rw [f_X2_isStill] at hf
  refine s_aload_n X 0 dX2_isStill_0 rfl rfl ?_
  obtain ⟨h1, hf⟩ := pk_chk hf
  refine s_getI X (ci := 2) (k := 7) rfl (Nat.le_of_ble_eq_true rfl) h1 wd434 (fun _ _ _ => rfl) dX2_isStill_1 ?_
  have hs2 := pk_ite hf
  clear hf
  refine s_if_ne X (tgt := 28) dX2_isStill_4 rfl (fun c3 => ?_) (fun c3 => ?_)
  · have hf := hs2.2 c3
    refine s_iconst X (v := (0 : Int32)) dX2_isStill_28 rfl ?_
    cases hf
    exact s_zret X hr (bz_n (Or.inl rfl)) hlk dX2_isStill_29
  · have hf := hs2.1 c3
    refine s_aload_n X 0 dX2_isStill_7 rfl rfl ?_
    refine s_getI X (ci := 2) (k := 8) rfl (Nat.le_of_ble_eq_true rfl) h1 wd438 (fun _ _ _ => rfl) dX2_isStill_8 ?_
    have hs4 := pk_ite hf
    clear hf
    refine s_if_ne X (tgt := 28) dX2_isStill_11 rfl (fun c5 => ?_) (fun c5 => ?_)
    · have hf := hs4.2 c5
      refine s_iconst X (v := (0 : Int32)) dX2_isStill_28 rfl ?_
      cases hf
      exact s_zret X hr (bz_n (Or.inl rfl)) hlk dX2_isStill_29
    · have hf := hs4.1 c5
      refine s_aload_n X 0 dX2_isStill_14 rfl rfl ?_
      obtain ⟨o6, e7, hf⟩ := pk_bnd hf
      obtain ⟨h8, hf⟩ := pk_chk hf
      refine s_getR X (ci := 2) (k := 1) rfl (Nat.le_of_ble_eq_true rfl) h1 wd419 (fun _ _ _ => rfl) (e7 ▸ h8) dX2_isStill_15 (e7 ▸ ?_)
      refine s_getI X (ci := 5) (k := 10) rfl (Nat.le_of_ble_eq_true rfl) h8 wd269 (fun _ _ _ => rfl) dX2_isStill_18 ?_
      have hs9 := pk_ite hf
      clear hf
      refine s_if_ne X (tgt := 28) dX2_isStill_21 rfl (fun c10 => ?_) (fun c10 => ?_)
      · have hf := hs9.2 c10
        refine s_iconst X (v := (0 : Int32)) dX2_isStill_28 rfl ?_
        cases hf
        exact s_zret X hr (bz_n (Or.inl rfl)) hlk dX2_isStill_29
      · have hf := hs9.1 c10
        refine s_iconst X (v := (1 : Int32)) dX2_isStill_24 rfl ?_
        refine s_goto X (tgt := 29) dX2_isStill_25 rfl ?_
        cases hf
        exact s_zret X hr (bz_n (Or.inr rfl)) hlk dX2_isStill_29
theorem dX2_mendNode_0 : decode cX2_mendNode 0 = .ok (.aload_n 0, 1) := dk_42 (by decide +kernel)
theorem dX2_mendNode_1 : decode cX2_mendNode 1 = .ok (.dup, 1) := dk_89 (by decide +kernel)
theorem dX2_mendNode_2 : decode cX2_mendNode 2 = .ok (.getfield 62, 3) := dk_180 (x := 0) (y := 62) (by decide +kernel) rfl
theorem dX2_mendNode_5 : decode cX2_mendNode 5 = .ok (.iconst 1, 1) := dk_4 (by decide +kernel)
theorem dX2_mendNode_6 : decode cX2_mendNode 6 = .ok (.iload_n 1, 1) := dk_27 (by decide +kernel)
theorem dX2_mendNode_7 : decode cX2_mendNode 7 = .ok (.ishl, 1) := dk_120 (by decide +kernel)
theorem dX2_mendNode_8 : decode cX2_mendNode 8 = .ok (.iconst (-1), 1) := dk_2 (by decide +kernel)
theorem dX2_mendNode_9 : decode cX2_mendNode 9 = .ok (.ixor, 1) := dk_130 (by decide +kernel)
theorem dX2_mendNode_10 : decode cX2_mendNode 10 = .ok (.iand, 1) := dk_126 (by decide +kernel)
theorem dX2_mendNode_11 : decode cX2_mendNode 11 = .ok (.putfield 62, 3) := dk_181 (x := 0) (y := 62) (by decide +kernel) rfl
theorem dX2_mendNode_14 : decode cX2_mendNode 14 = .ok (.aload_n 0, 1) := dk_42 (by decide +kernel)
theorem dX2_mendNode_15 : decode cX2_mendNode 15 = .ok (.invokevirtual 151, 3) := dk_182 (x := 0) (y := 151) (by decide +kernel) rfl
theorem dX2_mendNode_18 : decode cX2_mendNode 18 = .ok (.return_, 1) := dk_177 (by decide +kernel)
def f_X2_mendNode (n : Nat) (o : Nat) (a1 : Int32) (M : Mem) : Option Mem :=
  chk (isO M 2 o) <|
  bnd (sI M o 9 ((mI M o 9) &&& (((1 : Int32) <<< (a1 &&& 31)) ^^^ (-1 : Int32)))) fun M2 =>
  obd (f_X2_renewQuorums n o M2) fun M6 =>
  some M6
theorem cd_X2_mendNode : (yX2_mendNode.cls ≠ "java/lang/invoke/MethodHandle" ∧ yX2_mendNode.cls ≠ "java/lang/invoke/VarHandle") ∧ (parseMethodDescriptor yX2_mendNode.desc).map (fun d => d.parameters.length) = some 1 := ⟨⟨by decide +kernel, by decide +kernel⟩, by decide +kernel⟩
theorem k_X2_mendNode (G : Gam) {n : Nat} {o : Nat} {a1 : Int32} {M : Mem} {rv : Mem} (hf : f_X2_mendNode n o a1 M = some rv) : Kt yX2_mendNode cX2_mendNode 2 none 5 113 G [.ref (gB G + o), .int a1] M rv none := by
  refine Kt.of (by decide) (Nat.le_of_ble_eq_true rfl) ?_
  intro p l e R s m args below meth c X hr hlk hnm
  refine s_drop [0, 1] (vs' := [(0, .ref (gB G + o)), (1, .int a1)]) rfl ?_
  rw [f_X2_mendNode] at hf
  refine s_aload_n X 0 dX2_mendNode_0 rfl rfl ?_
  refine s_dup X dX2_mendNode_1 rfl ?_
  obtain ⟨h1, hf⟩ := pk_chk hf
  refine s_getI X (ci := 2) (k := 9) rfl (Nat.le_of_ble_eq_true rfl) h1 wd441 (fun _ _ _ => rfl) dX2_mendNode_2 ?_
  refine s_iconst X (v := (1 : Int32)) dX2_mendNode_5 rfl ?_
  refine s_iload_n X 1 dX2_mendNode_6 rfl rfl ?_
  refine s_ishl X dX2_mendNode_7 ?_
  refine s_iconst X (v := (-1 : Int32)) dX2_mendNode_8 rfl ?_
  refine s_ixor X dX2_mendNode_9 ?_
  refine s_iand X dX2_mendNode_10 ?_
  obtain ⟨M2, e3, hf⟩ := pk_bnd hf
  refine s_putI X (ci := 2) (k := 9) rfl (Nat.le_of_ble_eq_true rfl) h1 wd441 (fun _ _ _ => rfl) rfl rfl e3 dX2_mendNode_11 ?_
  have h4 := io_sI e3 h1
  refine s_aload_n X 0 dX2_mendNode_14 rfl rfl ?_
  obtain ⟨M6, hc5, hf⟩ := pk_obd hf
  refine s_callV X (ci := 2) (k_X2_renewQuorums G hc5) rfl h4 wd1086 wd1088 wd25 wd1089 wd130 cd_X2_renewQuorums ⟨Nat.le_of_ble_eq_true rfl, Nat.le_of_ble_eq_true rfl⟩ (Nat.le_of_ble_eq_true rfl) dX2_mendNode_15 ?_
  cases hf
  exact s_vret X hr hlk dX2_mendNode_18
theorem dX9_mend_0 : decode cX9_mend 0 = .ok (.aload_n 0, 1) := dk_42 (by decide +kernel)
theorem dX9_mend_1 : decode cX9_mend 1 = .ok (.getfield 10, 3) := dk_180 (x := 0) (y := 10) (by decide +kernel) rfl
theorem dX9_mend_4 : decode cX9_mend 4 = .ok (.iload_n 1, 1) := dk_27 (by decide +kernel)
theorem dX9_mend_5 : decode cX9_mend 5 = .ok (.invokevirtual 71, 3) := dk_182 (x := 0) (y := 71) (by decide +kernel) rfl
theorem dX9_mend_8 : decode cX9_mend 8 = .ok (.ifCond .eq 27, 3) := dk_153 (x := 0) (y := 27) (by decide +kernel) rfl
theorem dX9_mend_11 : decode cX9_mend 11 = .ok (.aload_n 0, 1) := dk_42 (by decide +kernel)
theorem dX9_mend_12 : decode cX9_mend 12 = .ok (.getfield 28, 3) := dk_180 (x := 0) (y := 28) (by decide +kernel) rfl
theorem dX9_mend_15 : decode cX9_mend 15 = .ok (.getfield 197, 3) := dk_180 (x := 0) (y := 197) (by decide +kernel) rfl
theorem dX9_mend_18 : decode cX9_mend 18 = .ok (.iload_n 1, 1) := dk_27 (by decide +kernel)
theorem dX9_mend_19 : decode cX9_mend 19 = .ok (.invokestatic 180, 3) := dk_184 (x := 0) (y := 180) (by decide +kernel) rfl
theorem dX9_mend_22 : decode cX9_mend 22 = .ok (.ifCond .eq 13, 3) := dk_153 (x := 0) (y := 13) (by decide +kernel) rfl
theorem dX9_mend_25 : decode cX9_mend 25 = .ok (.aload_n 0, 1) := dk_42 (by decide +kernel)
theorem dX9_mend_26 : decode cX9_mend 26 = .ok (.getfield 28, 3) := dk_180 (x := 0) (y := 28) (by decide +kernel) rfl
theorem dX9_mend_29 : decode cX9_mend 29 = .ok (.invokevirtual 203, 3) := dk_182 (x := 0) (y := 203) (by decide +kernel) rfl
theorem dX9_mend_32 : decode cX9_mend 32 = .ok (.ifCond .ne 5, 3) := dk_154 (x := 0) (y := 5) (by decide +kernel) rfl
theorem dX9_mend_35 : decode cX9_mend 35 = .ok (.iconst 0, 1) := dk_3 (by decide +kernel)
theorem dX9_mend_36 : decode cX9_mend 36 = .ok (.ireturn, 1) := dk_172 (by decide +kernel)
theorem dX9_mend_37 : decode cX9_mend 37 = .ok (.aload_n 0, 1) := dk_42 (by decide +kernel)
theorem dX9_mend_38 : decode cX9_mend 38 = .ok (.getfield 28, 3) := dk_180 (x := 0) (y := 28) (by decide +kernel) rfl
theorem dX9_mend_41 : decode cX9_mend 41 = .ok (.iload_n 1, 1) := dk_27 (by decide +kernel)
theorem dX9_mend_42 : decode cX9_mend 42 = .ok (.invokevirtual 206, 3) := dk_182 (x := 0) (y := 206) (by decide +kernel) rfl
theorem dX9_mend_45 : decode cX9_mend 45 = .ok (.iconst 1, 1) := dk_4 (by decide +kernel)
theorem dX9_mend_46 : decode cX9_mend 46 = .ok (.ireturn, 1) := dk_172 (by decide +kernel)
def f_X9_mend (n : Nat) (o : Nat) (a1 : Int32) (M : Mem) : Option (Int32 × Mem) :=
  chk (isO M 9 o) <|
  bnd (mR M o 0) fun o2 =>
  chk (isO M 7 o2) <|
  obd (f_X7_isNode o2 a1 M) fun r6 =>
  if r6 = 0 then (
    some ((0 : Int32), M)
    ) else (
    bnd (mR M o 2) fun o9 =>
    chk (isO M 2 o9) <|
    obd (f_X9_has (mI M o9 9) a1 M) fun r13 =>
    if r13 = 0 then (
      some ((0 : Int32), M)
      ) else (
      bnd (mR M o 2) fun o16 =>
      chk (isO M 2 o16) <|
      obd (f_X2_isStill o16 M) fun r20 =>
      if r20 = 0 then (
        some ((0 : Int32), M)
        ) else (
        bnd (mR M o 2) fun o23 =>
        chk (isO M 2 o23) <|
        obd (f_X2_mendNode n o23 a1 M) fun M27 =>
        some ((1 : Int32), M27)
        )
      )
    )
theorem cd_X9_mend : (yX9_mend.cls ≠ "java/lang/invoke/MethodHandle" ∧ yX9_mend.cls ≠ "java/lang/invoke/VarHandle") ∧ (parseMethodDescriptor yX9_mend.desc).map (fun d => d.parameters.length) = some 1 := ⟨⟨by decide +kernel, by decide +kernel⟩, by decide +kernel⟩
theorem k_X9_mend (G : Gam) {n : Nat} {o : Nat} {a1 : Int32} {M : Mem} {rv : (Int32 × Mem)} (hf : f_X9_mend n o a1 M = some rv) : Kt yX9_mend cX9_mend 2 (some .boolean) 6 134 G [.ref (gB G + o), .int a1] M rv.2 (some (.int rv.1)) := by
  refine Kt.of (by decide) (Nat.le_of_ble_eq_true rfl) ?_
  intro p l e R s m args below meth c X hr hlk hnm
  refine s_drop [0, 1] (vs' := [(0, .ref (gB G + o)), (1, .int a1)]) rfl ?_
  rw [f_X9_mend] at hf
  refine s_aload_n X 0 dX9_mend_0 rfl rfl ?_
  obtain ⟨h1, hf⟩ := pk_chk hf
  obtain ⟨o2, e3, hf⟩ := pk_bnd hf
  obtain ⟨h4, hf⟩ := pk_chk hf
  refine s_getR X (ci := 9) (k := 0) rfl (Nat.le_of_ble_eq_true rfl) h1 wd627 (fun _ _ _ => rfl) (e3 ▸ h4) dX9_mend_1 (e3 ▸ ?_)
  refine s_iload_n X 1 dX9_mend_4 rfl rfl ?_
  obtain ⟨r6, hc5, hf⟩ := pk_obd hf
  refine s_callV X (ci := 7) (k_X7_isNode G hc5) rfl h4 wd699 wd700 wd701 wd702 wd127 cd_X7_isNode ⟨Nat.le_of_ble_eq_true rfl, Nat.le_of_ble_eq_true rfl⟩ (Nat.le_of_ble_eq_true rfl) dX9_mend_5 ?_
  have hs7 := pk_ite hf
  clear hf
  refine s_if_eq X (tgt := 35) dX9_mend_8 rfl (fun c8 => ?_) (fun c8 => ?_)
  · have hf := hs7.1 c8
    refine s_iconst X (v := (0 : Int32)) dX9_mend_35 rfl ?_
    cases hf
    exact s_zret X hr (bz_n (Or.inl rfl)) hlk dX9_mend_36
  · have hf := hs7.2 c8
    refine s_aload_n X 0 dX9_mend_11 rfl rfl ?_
    obtain ⟨o9, e10, hf⟩ := pk_bnd hf
    obtain ⟨h11, hf⟩ := pk_chk hf
    refine s_getR X (ci := 9) (k := 2) rfl (Nat.le_of_ble_eq_true rfl) h1 wd629 (fun _ _ _ => rfl) (e10 ▸ h11) dX9_mend_12 (e10 ▸ ?_)
    refine s_getI X (ci := 2) (k := 9) rfl (Nat.le_of_ble_eq_true rfl) h11 wd442 (fun _ _ _ => rfl) dX9_mend_15 ?_
    refine s_iload_n X 1 dX9_mend_18 rfl rfl ?_
    obtain ⟨r13, hc12, hf⟩ := pk_obd hf
    refine s_callS X (k_X9_has G hc12) wd966 wd712 wd713 wd126 cd_X9_has ⟨Nat.le_of_ble_eq_true rfl, Nat.le_of_ble_eq_true rfl⟩ (Nat.le_of_ble_eq_true rfl) dX9_mend_19 ?_
    have hs14 := pk_ite hf
    clear hf
    refine s_if_eq X (tgt := 35) dX9_mend_22 rfl (fun c15 => ?_) (fun c15 => ?_)
    · have hf := hs14.1 c15
      refine s_iconst X (v := (0 : Int32)) dX9_mend_35 rfl ?_
      cases hf
      exact s_zret X hr (bz_n (Or.inl rfl)) hlk dX9_mend_36
    · have hf := hs14.2 c15
      refine s_aload_n X 0 dX9_mend_25 rfl rfl ?_
      obtain ⟨o16, e17, hf⟩ := pk_bnd hf
      obtain ⟨h18, hf⟩ := pk_chk hf
      refine s_getR X (ci := 9) (k := 2) rfl (Nat.le_of_ble_eq_true rfl) h1 wd629 (fun _ _ _ => rfl) (e17 ▸ h18) dX9_mend_26 (e17 ▸ ?_)
      obtain ⟨r20, hc19, hf⟩ := pk_obd hf
      refine s_callV X (ci := 2) (k_X2_isStill G hc19) rfl h18 wd1118 wd1119 wd1120 wd1121 wd130 cd_X2_isStill ⟨Nat.le_of_ble_eq_true rfl, Nat.le_of_ble_eq_true rfl⟩ (Nat.le_of_ble_eq_true rfl) dX9_mend_29 ?_
      have hs21 := pk_ite hf
      clear hf
      refine s_if_ne X (tgt := 37) dX9_mend_32 rfl (fun c22 => ?_) (fun c22 => ?_)
      · have hf := hs21.2 c22
        refine s_aload_n X 0 dX9_mend_37 rfl rfl ?_
        obtain ⟨o23, e24, hf⟩ := pk_bnd hf
        obtain ⟨h25, hf⟩ := pk_chk hf
        refine s_getR X (ci := 9) (k := 2) rfl (Nat.le_of_ble_eq_true rfl) h1 wd629 (fun _ _ _ => rfl) (e24 ▸ h25) dX9_mend_38 (e24 ▸ ?_)
        refine s_iload_n X 1 dX9_mend_41 rfl rfl ?_
        obtain ⟨M27, hc26, hf⟩ := pk_obd hf
        refine s_callV X (ci := 2) (k_X2_mendNode G hc26) rfl h25 wd1122 wd1123 wd1124 wd1125 wd130 cd_X2_mendNode ⟨Nat.le_of_ble_eq_true rfl, Nat.le_of_ble_eq_true rfl⟩ (Nat.le_of_ble_eq_true rfl) dX9_mend_42 ?_
        refine s_iconst X (v := (1 : Int32)) dX9_mend_45 rfl ?_
        cases hf
        exact s_zret X hr (bz_n (Or.inr rfl)) hlk dX9_mend_46
      · have hf := hs21.1 c22
        refine s_iconst X (v := (0 : Int32)) dX9_mend_35 rfl ?_
        cases hf
        exact s_zret X hr (bz_n (Or.inl rfl)) hlk dX9_mend_36
theorem dX10_askings_0 : decode cX10_askings 0 = .ok (.iconst 0, 1) := dk_3 (by decide +kernel)
theorem dX10_askings_1 : decode cX10_askings 1 = .ok (.istore_n 1, 1) := dk_60 (by decide +kernel)
theorem dX10_askings_2 : decode cX10_askings 2 = .ok (.iconst 0, 1) := dk_3 (by decide +kernel)
theorem dX10_askings_3 : decode cX10_askings 3 = .ok (.istore_n 2, 1) := dk_61 (by decide +kernel)
theorem dX10_askings_4 : decode cX10_askings 4 = .ok (.iload_n 2, 1) := dk_28 (by decide +kernel)
theorem dX10_askings_5 : decode cX10_askings 5 = .ok (.aload_n 0, 1) := dk_42 (by decide +kernel)
theorem dX10_askings_6 : decode cX10_askings 6 = .ok (.getfield 7, 3) := dk_180 (x := 0) (y := 7) (by decide +kernel) rfl
theorem dX10_askings_9 : decode cX10_askings 9 = .ok (.iconst 0, 1) := dk_3 (by decide +kernel)
theorem dX10_askings_10 : decode cX10_askings 10 = .ok (.iaload, 1) := dk_46 (by decide +kernel)
theorem dX10_askings_11 : decode cX10_askings 11 = .ok (.if_icmp .ge 29, 3) := dk_162 (x := 0) (y := 29) (by decide +kernel) rfl
theorem dX10_askings_14 : decode cX10_askings 14 = .ok (.iload_n 1, 1) := dk_27 (by decide +kernel)
theorem dX10_askings_15 : decode cX10_askings 15 = .ok (.aload_n 0, 1) := dk_42 (by decide +kernel)
theorem dX10_askings_16 : decode cX10_askings 16 = .ok (.iload_n 2, 1) := dk_28 (by decide +kernel)
theorem dX10_askings_17 : decode cX10_askings 17 = .ok (.iconst 0, 1) := dk_3 (by decide +kernel)
theorem dX10_askings_18 : decode cX10_askings 18 = .ok (.invokevirtual 93, 3) := dk_182 (x := 0) (y := 93) (by decide +kernel) rfl
theorem dX10_askings_21 : decode cX10_askings 21 = .ok (.iconst 1, 1) := dk_4 (by decide +kernel)
theorem dX10_askings_22 : decode cX10_askings 22 = .ok (.if_icmp .ne 9, 3) := dk_160 (x := 0) (y := 9) (by decide +kernel) rfl
theorem dX10_askings_25 : decode cX10_askings 25 = .ok (.iconst 1, 1) := dk_4 (by decide +kernel)
theorem dX10_askings_26 : decode cX10_askings 26 = .ok (.iload_n 2, 1) := dk_28 (by decide +kernel)
theorem dX10_askings_27 : decode cX10_askings 27 = .ok (.ishl, 1) := dk_120 (by decide +kernel)
theorem dX10_askings_28 : decode cX10_askings 28 = .ok (.goto 4, 3) := dk_167 (x := 0) (y := 4) (by decide +kernel) rfl
theorem dX10_askings_31 : decode cX10_askings 31 = .ok (.iconst 0, 1) := dk_3 (by decide +kernel)
theorem dX10_askings_32 : decode cX10_askings 32 = .ok (.ior, 1) := dk_128 (by decide +kernel)
theorem dX10_askings_33 : decode cX10_askings 33 = .ok (.istore_n 1, 1) := dk_60 (by decide +kernel)
theorem dX10_askings_34 : decode cX10_askings 34 = .ok (.iinc 2 1, 3) := dk_132 (x := 2) (y := 1) (by decide +kernel) rfl
theorem dX10_askings_37 : decode cX10_askings 37 = .ok (.goto (-33), 3) := dk_167 (x := 255) (y := 223) (by decide +kernel) rfl
theorem dX10_askings_40 : decode cX10_askings 40 = .ok (.iload_n 1, 1) := dk_27 (by decide +kernel)
theorem dX10_askings_41 : decode cX10_askings 41 = .ok (.ireturn, 1) := dk_172 (by decide +kernel)
def f_X10_askings_4 (M : Mem) : Nat → Nat → Int32 → Int32 → Option Int32
  | 0, _, _, _ => none
  | n + 1, v0, v1, v2 =>
    chk (isO M 10 v0) <|
    bnd (mR M v0 0) fun o2 =>
    chk (isO M 100 o2) <|
    chk (inB (0 : Int32) (mLn M o2)) <|
    if (mI M o2 ((0 : Int32)).toNatClampNeg) ≤ v2 then (
      some v1
      ) else (
      obd (f_X10_get v0 v2 (0 : Int32) M) fun r9 =>
      if r9 = (1 : Int32) then (
        bnd (v1 ||| ((1 : Int32) <<< (v2 &&& 31))) fun x16 =>
        bnd (v2 + (1 : Int32)) fun x18 =>
        f_X10_askings_4 M n v0 x16 x18
        ) else (
        bnd (v1 ||| (0 : Int32)) fun x12 =>
        bnd (v2 + (1 : Int32)) fun x14 =>
        f_X10_askings_4 M n v0 x12 x14
        )
      )
def f_X10_askings (n : Nat) (o : Nat) (M : Mem) : Option Int32 :=
  f_X10_askings_4 M n o (0 : Int32) (0 : Int32)
theorem cd_X10_askings : (yX10_askings.cls ≠ "java/lang/invoke/MethodHandle" ∧ yX10_askings.cls ≠ "java/lang/invoke/VarHandle") ∧ (parseMethodDescriptor yX10_askings.desc).map (fun d => d.parameters.length) = some 0 := ⟨⟨by decide +kernel, by decide +kernel⟩, by decide +kernel⟩
section
variable {p : Program} {l : Launch} {e : Env} {R : Room} {s : State} {m : MethodId} {args : Array Value} {below : List Frame} {meth : Method} {c : Code} {G : Gam} {M0 : Mem}
theorem l_X10_askings_4 {M : Mem} {rv : Int32} (X : Cx p R s m args c G M0 cX10_askings yX10_askings.cls 3 1 22) (hr : meth.sig.returnType = (some .int)) (hlk : meth.locks = false) (hnm : meth.name = "askings") : ∀ {n : Nat} (v0 : Nat) (v1 : Int32) (v2 : Int32), f_X10_askings_4 M n v0 v1 v2 = some rv → Sg p l e R s m args below meth c (Qm below G args s (some (.int rv)) M0 M) G M0 3 4 [(0, .ref (gB G + v0)), (1, .int v1), (2, .int v2)] [] M := by
  intro n
  induction n with
  | zero => intro v0 v1 v2 hf; exact (pk_none hf).elim
  | succ n ih =>
    intro v0 v1 v2 hf
    rw [f_X10_askings_4] at hf
    refine s_iload_n X 2 dX10_askings_4 rfl rfl ?_
    refine s_aload_n X 0 dX10_askings_5 rfl rfl ?_
    obtain ⟨h1, hf⟩ := pk_chk hf
    obtain ⟨o2, e3, hf⟩ := pk_bnd hf
    obtain ⟨h4, hf⟩ := pk_chk hf
    refine s_getR X (ci := 10) (k := 0) rfl (Nat.le_of_ble_eq_true rfl) h1 wd1440 (fun _ _ _ => rfl) (e3 ▸ h4) dX10_askings_6 (e3 ▸ ?_)
    refine s_iconst X (v := (0 : Int32)) dX10_askings_9 rfl ?_
    obtain ⟨h5, hf⟩ := pk_chk hf
    refine s_iald X h4 h5 dX10_askings_10 ?_
    have hs6 := pk_ite hf
    clear hf
    refine s_icmp_ge X (tgt := 40) dX10_askings_11 rfl (fun c7 => ?_) (fun c7 => ?_)
    · have hf := hs6.1 c7
      refine s_iload_n X 1 dX10_askings_40 rfl rfl ?_
      cases hf
      exact s_iret X hr hlk dX10_askings_41
    · have hf := hs6.2 c7
      refine s_iload_n X 1 dX10_askings_14 rfl rfl ?_
      refine s_aload_n X 0 dX10_askings_15 rfl rfl ?_
      refine s_iload_n X 2 dX10_askings_16 rfl rfl ?_
      refine s_iconst X (v := (0 : Int32)) dX10_askings_17 rfl ?_
      obtain ⟨r9, hc8, hf⟩ := pk_obd hf
      refine s_callV X (ci := 10) (k_X10_get G hc8) rfl h1 wd1588 wd1590 wd57 wd1591 wd138 cd_X10_get ⟨Nat.le_of_ble_eq_true rfl, Nat.le_of_ble_eq_true rfl⟩ (Nat.le_of_ble_eq_true rfl) dX10_askings_18 ?_
      refine s_iconst X (v := (1 : Int32)) dX10_askings_21 rfl ?_
      have hs10 := pk_ite hf
      clear hf
      refine s_icmp_ne X (tgt := 31) dX10_askings_22 rfl (fun c11 => ?_) (fun c11 => ?_)
      · have hf := hs10.2 c11
        refine s_iconst X (v := (0 : Int32)) dX10_askings_31 rfl ?_
        refine s_ior X dX10_askings_32 ?_
        obtain ⟨x12, e13, hf⟩ := pk_bnd hf
        refine s_nmI e13 ?_
        refine s_istore_n X (vs' := [(0, .ref (gB G + v0)), (1, .int x12), (2, .int v2)]) dX10_askings_33 rfl (Nat.le_of_ble_eq_true rfl) [1, 0, 2] rfl ?_
        obtain ⟨x14, e15, hf⟩ := pk_bnd hf
        refine s_iinc X (vs' := [(0, .ref (gB G + v0)), (1, .int x12), (2, .int x14)]) 2 dX10_askings_34 rfl (v := x14) e15.symm (Nat.le_of_ble_eq_true rfl) [1, 2, 0] rfl ?_
        refine s_goto X (tgt := 4) dX10_askings_37 rfl ?_
        exact ih _ _ _ hf
      · have hf := hs10.1 c11
        refine s_iconst X (v := (1 : Int32)) dX10_askings_25 rfl ?_
        refine s_iload_n X 2 dX10_askings_26 rfl rfl ?_
        refine s_ishl X dX10_askings_27 ?_
        refine s_goto X (tgt := 32) dX10_askings_28 rfl ?_
        refine s_ior X dX10_askings_32 ?_
        obtain ⟨x16, e17, hf⟩ := pk_bnd hf
        refine s_nmI e17 ?_
        refine s_istore_n X (vs' := [(0, .ref (gB G + v0)), (1, .int x16), (2, .int v2)]) dX10_askings_33 rfl (Nat.le_of_ble_eq_true rfl) [1, 0, 2] rfl ?_
        obtain ⟨x18, e19, hf⟩ := pk_bnd hf
        refine s_iinc X (vs' := [(0, .ref (gB G + v0)), (1, .int x16), (2, .int x18)]) 2 dX10_askings_34 rfl (v := x18) e19.symm (Nat.le_of_ble_eq_true rfl) [1, 2, 0] rfl ?_
        refine s_goto X (tgt := 4) dX10_askings_37 rfl ?_
        exact ih _ _ _ hf
end
theorem k_X10_askings (G : Gam) {n : Nat} {o : Nat} {M : Mem} {rv : Int32} (hf : f_X10_askings n o M = some rv) : Kt yX10_askings cX10_askings 3 (some .int) 1 22 G [.ref (gB G + o)] M M (some (.int rv)) := by
  refine Kt.of (by decide) (Nat.le_of_ble_eq_true rfl) ?_
  intro p l e R s m args below meth c X hr hlk hnm
  refine s_drop [0] (vs' := [(0, .ref (gB G + o))]) rfl ?_
  rw [f_X10_askings] at hf
  refine s_iconst X (v := (0 : Int32)) dX10_askings_0 rfl ?_
  refine s_istore_n X (vs' := [(0, .ref (gB G + o)), (1, .int (0 : Int32))]) dX10_askings_1 rfl (Nat.le_of_ble_eq_true rfl) [1, 0] rfl ?_
  refine s_iconst X (v := (0 : Int32)) dX10_askings_2 rfl ?_
  refine s_istore_n X (vs' := [(0, .ref (gB G + o)), (1, .int (0 : Int32)), (2, .int (0 : Int32))]) dX10_askings_3 rfl (Nat.le_of_ble_eq_true rfl) [1, 2, 0] rfl ?_
  exact l_X10_askings_4 X hr hlk hnm _ _ _ hf
theorem dX10_mend_0 : decode cX10_mend 0 = .ok (.aload_n 0, 1) := dk_42 (by decide +kernel)
theorem dX10_mend_1 : decode cX10_mend 1 = .ok (.iload_n 1, 1) := dk_27 (by decide +kernel)
theorem dX10_mend_2 : decode cX10_mend 2 = .ok (.invokevirtual 76, 3) := dk_182 (x := 0) (y := 76) (by decide +kernel) rfl
theorem dX10_mend_5 : decode cX10_mend 5 = .ok (.ifCond .eq 38, 3) := dk_153 (x := 0) (y := 38) (by decide +kernel) rfl
theorem dX10_mend_8 : decode cX10_mend 8 = .ok (.aload_n 0, 1) := dk_42 (by decide +kernel)
theorem dX10_mend_9 : decode cX10_mend 9 = .ok (.iload_n 1, 1) := dk_27 (by decide +kernel)
theorem dX10_mend_10 : decode cX10_mend 10 = .ok (.bipush 7, 2) := dk_16 (x := 7) (by decide +kernel) rfl
theorem dX10_mend_12 : decode cX10_mend 12 = .ok (.invokevirtual 93, 3) := dk_182 (x := 0) (y := 93) (by decide +kernel) rfl
theorem dX10_mend_15 : decode cX10_mend 15 = .ok (.ifCond .eq 28, 3) := dk_153 (x := 0) (y := 28) (by decide +kernel) rfl
theorem dX10_mend_18 : decode cX10_mend 18 = .ok (.aload_n 0, 1) := dk_42 (by decide +kernel)
theorem dX10_mend_19 : decode cX10_mend 19 = .ok (.invokevirtual 268, 3) := dk_182 (x := 1) (y := 12) (by decide +kernel) rfl
theorem dX10_mend_22 : decode cX10_mend 22 = .ok (.ifCond .ne 21, 3) := dk_154 (x := 0) (y := 21) (by decide +kernel) rfl
theorem dX10_mend_25 : decode cX10_mend 25 = .ok (.aload_n 0, 1) := dk_42 (by decide +kernel)
theorem dX10_mend_26 : decode cX10_mend 26 = .ok (.invokevirtual 196, 3) := dk_182 (x := 0) (y := 196) (by decide +kernel) rfl
theorem dX10_mend_29 : decode cX10_mend 29 = .ok (.ifCond .ne 14, 3) := dk_154 (x := 0) (y := 14) (by decide +kernel) rfl
theorem dX10_mend_32 : decode cX10_mend 32 = .ok (.aload_n 0, 1) := dk_42 (by decide +kernel)
theorem dX10_mend_33 : decode cX10_mend 33 = .ok (.getfield 7, 3) := dk_180 (x := 0) (y := 7) (by decide +kernel) rfl
theorem dX10_mend_36 : decode cX10_mend 36 = .ok (.sipush 850, 3) := dk_17 (x := 3) (y := 82) (by decide +kernel) rfl
theorem dX10_mend_39 : decode cX10_mend 39 = .ok (.iaload, 1) := dk_46 (by decide +kernel)
theorem dX10_mend_40 : decode cX10_mend 40 = .ok (.ifCond .le 5, 3) := dk_158 (x := 0) (y := 5) (by decide +kernel) rfl
theorem dX10_mend_43 : decode cX10_mend 43 = .ok (.iconst 0, 1) := dk_3 (by decide +kernel)
theorem dX10_mend_44 : decode cX10_mend 44 = .ok (.ireturn, 1) := dk_172 (by decide +kernel)
theorem dX10_mend_45 : decode cX10_mend 45 = .ok (.aload_n 0, 1) := dk_42 (by decide +kernel)
theorem dX10_mend_46 : decode cX10_mend 46 = .ok (.iload_n 1, 1) := dk_27 (by decide +kernel)
theorem dX10_mend_47 : decode cX10_mend 47 = .ok (.bipush 7, 2) := dk_16 (x := 7) (by decide +kernel) rfl
theorem dX10_mend_49 : decode cX10_mend 49 = .ok (.iconst 0, 1) := dk_3 (by decide +kernel)
theorem dX10_mend_50 : decode cX10_mend 50 = .ok (.invokevirtual 187, 3) := dk_182 (x := 0) (y := 187) (by decide +kernel) rfl
theorem dX10_mend_53 : decode cX10_mend 53 = .ok (.iconst 1, 1) := dk_4 (by decide +kernel)
theorem dX10_mend_54 : decode cX10_mend 54 = .ok (.ireturn, 1) := dk_172 (by decide +kernel)
def f_X10_mend (n : Nat) (o : Nat) (a1 : Int32) (M : Mem) : Option (Int32 × Mem) :=
  chk (isO M 10 o) <|
  obd (f_X10_isNode o a1 M) fun r3 =>
  if r3 = 0 then (
    some ((0 : Int32), M)
    ) else (
    obd (f_X10_get o a1 (7 : Int32) M) fun r7 =>
    if r7 = 0 then (
      some ((0 : Int32), M)
      ) else (
      obd (f_X10_askings n o M) fun r11 =>
      if r11 = 0 then (
        obd (f_X10_insides n o M) fun r15 =>
        if r15 = 0 then (
          bnd (mR M o 0) fun o18 =>
          chk (isO M 100 o18) <|
          chk (inB (850 : Int32) (mLn M o18)) <|
          if (mI M o18 ((850 : Int32)).toNatClampNeg) ≤ 0 then (
            obd (f_X10_let o a1 (7 : Int32) (0 : Int32) M) fun M25 =>
            some ((1 : Int32), M25)
            ) else (
            some ((0 : Int32), M)
            )
          ) else (
          some ((0 : Int32), M)
          )
        ) else (
        some ((0 : Int32), M)
        )
      )
    )
theorem cd_X10_mend : (yX10_mend.cls ≠ "java/lang/invoke/MethodHandle" ∧ yX10_mend.cls ≠ "java/lang/invoke/VarHandle") ∧ (parseMethodDescriptor yX10_mend.desc).map (fun d => d.parameters.length) = some 1 := ⟨⟨by decide +kernel, by decide +kernel⟩, by decide +kernel⟩
theorem k_X10_mend (G : Gam) {n : Nat} {o : Nat} {a1 : Int32} {M : Mem} {rv : (Int32 × Mem)} (hf : f_X10_mend n o a1 M = some rv) : Kt yX10_mend cX10_mend 2 (some .boolean) 2 44 G [.ref (gB G + o), .int a1] M rv.2 (some (.int rv.1)) := by
  refine Kt.of (by decide) (Nat.le_of_ble_eq_true rfl) ?_
  intro p l e R s m args below meth c X hr hlk hnm
  refine s_drop [0, 1] (vs' := [(0, .ref (gB G + o)), (1, .int a1)]) rfl ?_
  rw [f_X10_mend] at hf
  refine s_aload_n X 0 dX10_mend_0 rfl rfl ?_
  refine s_iload_n X 1 dX10_mend_1 rfl rfl ?_
  obtain ⟨h1, hf⟩ := pk_chk hf
  obtain ⟨r3, hc2, hf⟩ := pk_obd hf
  refine s_callV X (ci := 10) (k_X10_isNode G hc2) rfl h1 wd1554 wd1556 wd53 wd1557 wd138 cd_X10_isNode ⟨Nat.le_of_ble_eq_true rfl, Nat.le_of_ble_eq_true rfl⟩ (Nat.le_of_ble_eq_true rfl) dX10_mend_2 ?_
  have hs4 := pk_ite hf
  clear hf
  refine s_if_eq X (tgt := 43) dX10_mend_5 rfl (fun c5 => ?_) (fun c5 => ?_)
  · have hf := hs4.1 c5
    refine s_iconst X (v := (0 : Int32)) dX10_mend_43 rfl ?_
    cases hf
    exact s_zret X hr (bz_n (Or.inl rfl)) hlk dX10_mend_44
  · have hf := hs4.2 c5
    refine s_aload_n X 0 dX10_mend_8 rfl rfl ?_
    refine s_iload_n X 1 dX10_mend_9 rfl rfl ?_
    refine s_bipush X (v := (7 : Int32)) dX10_mend_10 rfl ?_
    obtain ⟨r7, hc6, hf⟩ := pk_obd hf
    refine s_callV X (ci := 10) (k_X10_get G hc6) rfl h1 wd1588 wd1590 wd57 wd1591 wd138 cd_X10_get ⟨Nat.le_of_ble_eq_true rfl, Nat.le_of_ble_eq_true rfl⟩ (Nat.le_of_ble_eq_true rfl) dX10_mend_12 ?_
    have hs8 := pk_ite hf
    clear hf
    refine s_if_eq X (tgt := 43) dX10_mend_15 rfl (fun c9 => ?_) (fun c9 => ?_)
    · have hf := hs8.1 c9
      refine s_iconst X (v := (0 : Int32)) dX10_mend_43 rfl ?_
      cases hf
      exact s_zret X hr (bz_n (Or.inl rfl)) hlk dX10_mend_44
    · have hf := hs8.2 c9
      refine s_aload_n X 0 dX10_mend_18 rfl rfl ?_
      obtain ⟨r11, hc10, hf⟩ := pk_obd hf
      refine s_callV X (ci := 10) (k_X10_askings G hc10) rfl h1 wd1862 wd1864 wd100 wd1865 wd138 cd_X10_askings ⟨Nat.le_of_ble_eq_true rfl, Nat.le_of_ble_eq_true rfl⟩ (Nat.le_of_ble_eq_true rfl) dX10_mend_19 ?_
      have hs12 := pk_ite hf
      clear hf
      refine s_if_ne X (tgt := 43) dX10_mend_22 rfl (fun c13 => ?_) (fun c13 => ?_)
      · have hf := hs12.2 c13
        refine s_iconst X (v := (0 : Int32)) dX10_mend_43 rfl ?_
        cases hf
        exact s_zret X hr (bz_n (Or.inl rfl)) hlk dX10_mend_44
      · have hf := hs12.1 c13
        refine s_aload_n X 0 dX10_mend_25 rfl rfl ?_
        obtain ⟨r15, hc14, hf⟩ := pk_obd hf
        refine s_callV X (ci := 10) (k_X10_insides G hc14) rfl h1 wd1826 wd1828 wd93 wd1829 wd138 cd_X10_insides ⟨Nat.le_of_ble_eq_true rfl, Nat.le_of_ble_eq_true rfl⟩ (Nat.le_of_ble_eq_true rfl) dX10_mend_26 ?_
        have hs16 := pk_ite hf
        clear hf
        refine s_if_ne X (tgt := 43) dX10_mend_29 rfl (fun c17 => ?_) (fun c17 => ?_)
        · have hf := hs16.2 c17
          refine s_iconst X (v := (0 : Int32)) dX10_mend_43 rfl ?_
          cases hf
          exact s_zret X hr (bz_n (Or.inl rfl)) hlk dX10_mend_44
        · have hf := hs16.1 c17
          refine s_aload_n X 0 dX10_mend_32 rfl rfl ?_
          obtain ⟨o18, e19, hf⟩ := pk_bnd hf
          obtain ⟨h20, hf⟩ := pk_chk hf
          refine s_getR X (ci := 10) (k := 0) rfl (Nat.le_of_ble_eq_true rfl) h1 wd1440 (fun _ _ _ => rfl) (e19 ▸ h20) dX10_mend_33 (e19 ▸ ?_)
          refine s_sipush X (v := (850 : Int32)) dX10_mend_36 rfl ?_
          obtain ⟨h21, hf⟩ := pk_chk hf
          refine s_iald X h20 h21 dX10_mend_39 ?_
          have hs22 := pk_ite hf
          clear hf
          refine s_if_le X (tgt := 45) dX10_mend_40 rfl (fun c23 => ?_) (fun c23 => ?_)
          · have hf := hs22.1 c23
            refine s_aload_n X 0 dX10_mend_45 rfl rfl ?_
            refine s_iload_n X 1 dX10_mend_46 rfl rfl ?_
            refine s_bipush X (v := (7 : Int32)) dX10_mend_47 rfl ?_
            refine s_iconst X (v := (0 : Int32)) dX10_mend_49 rfl ?_
            obtain ⟨M25, hc24, hf⟩ := pk_obd hf
            refine s_callV X (ci := 10) (k_X10_let G hc24) rfl h1 wd1692 wd1694 wd68 wd1695 wd138 cd_X10_let ⟨Nat.le_of_ble_eq_true rfl, Nat.le_of_ble_eq_true rfl⟩ (Nat.le_of_ble_eq_true rfl) dX10_mend_50 ?_
            refine s_iconst X (v := (1 : Int32)) dX10_mend_53 rfl ?_
            cases hf
            exact s_zret X hr (bz_n (Or.inr rfl)) hlk dX10_mend_54
          · have hf := hs22.2 c23
            refine s_iconst X (v := (0 : Int32)) dX10_mend_43 rfl ?_
            cases hf
            exact s_zret X hr (bz_n (Or.inl rfl)) hlk dX10_mend_44
theorem dX9_node_0 : decode cX9_node 0 = .ok (.aload_n 0, 1) := dk_42 (by decide +kernel)
theorem dX9_node_1 : decode cX9_node 1 = .ok (.getfield 10, 3) := dk_180 (x := 0) (y := 10) (by decide +kernel) rfl
theorem dX9_node_4 : decode cX9_node 4 = .ok (.iload_n 1, 1) := dk_27 (by decide +kernel)
theorem dX9_node_5 : decode cX9_node 5 = .ok (.invokevirtual 71, 3) := dk_182 (x := 0) (y := 71) (by decide +kernel) rfl
theorem dX9_node_8 : decode cX9_node 8 = .ok (.ifCond .ne 5, 3) := dk_154 (x := 0) (y := 5) (by decide +kernel) rfl
theorem dX9_node_11 : decode cX9_node 11 = .ok (.iconst (-1), 1) := dk_2 (by decide +kernel)
theorem dX9_node_12 : decode cX9_node 12 = .ok (.ireturn, 1) := dk_172 (by decide +kernel)
theorem dX9_node_13 : decode cX9_node 13 = .ok (.aload_n 0, 1) := dk_42 (by decide +kernel)
theorem dX9_node_14 : decode cX9_node 14 = .ok (.getfield 28, 3) := dk_180 (x := 0) (y := 28) (by decide +kernel) rfl
theorem dX9_node_17 : decode cX9_node 17 = .ok (.getfield 99, 3) := dk_180 (x := 0) (y := 99) (by decide +kernel) rfl
theorem dX9_node_20 : decode cX9_node 20 = .ok (.iload_n 1, 1) := dk_27 (by decide +kernel)
theorem dX9_node_21 : decode cX9_node 21 = .ok (.aaload, 1) := dk_50 (by decide +kernel)
theorem dX9_node_22 : decode cX9_node 22 = .ok (.astore_n 3, 1) := dk_78 (by decide +kernel)
theorem dX9_node_23 : decode cX9_node 23 = .ok (.iload_n 2, 1) := dk_28 (by decide +kernel)
theorem dX9_node_24 : decode cX9_node 24 = .ok (.tableswitch 107 0 7 #[48, 57, 62, 67, 72, 77, 82, 102], 48) := by decide +kernel
theorem dX9_node_72 : decode cX9_node 72 = .ok (.aload_n 0, 1) := dk_42 (by decide +kernel)
theorem dX9_node_73 : decode cX9_node 73 = .ok (.getfield 28, 3) := dk_180 (x := 0) (y := 28) (by decide +kernel) rfl
theorem dX9_node_76 : decode cX9_node 76 = .ok (.iload_n 1, 1) := dk_27 (by decide +kernel)
theorem dX9_node_77 : decode cX9_node 77 = .ok (.invokevirtual 194, 3) := dk_182 (x := 0) (y := 194) (by decide +kernel) rfl
theorem dX9_node_80 : decode cX9_node 80 = .ok (.ireturn, 1) := dk_172 (by decide +kernel)
theorem dX9_node_81 : decode cX9_node 81 = .ok (.aload_n 3, 1) := dk_45 (by decide +kernel)
theorem dX9_node_82 : decode cX9_node 82 = .ok (.getfield 209, 3) := dk_180 (x := 0) (y := 209) (by decide +kernel) rfl
theorem dX9_node_85 : decode cX9_node 85 = .ok (.ireturn, 1) := dk_172 (by decide +kernel)
theorem dX9_node_86 : decode cX9_node 86 = .ok (.aload_n 3, 1) := dk_45 (by decide +kernel)
theorem dX9_node_87 : decode cX9_node 87 = .ok (.getfield 174, 3) := dk_180 (x := 0) (y := 174) (by decide +kernel) rfl
theorem dX9_node_90 : decode cX9_node 90 = .ok (.ireturn, 1) := dk_172 (by decide +kernel)
theorem dX9_node_91 : decode cX9_node 91 = .ok (.aload_n 3, 1) := dk_45 (by decide +kernel)
theorem dX9_node_92 : decode cX9_node 92 = .ok (.getfield 212, 3) := dk_180 (x := 0) (y := 212) (by decide +kernel) rfl
theorem dX9_node_95 : decode cX9_node 95 = .ok (.ireturn, 1) := dk_172 (by decide +kernel)
theorem dX9_node_96 : decode cX9_node 96 = .ok (.aload_n 3, 1) := dk_45 (by decide +kernel)
theorem dX9_node_97 : decode cX9_node 97 = .ok (.getfield 215, 3) := dk_180 (x := 0) (y := 215) (by decide +kernel) rfl
theorem dX9_node_100 : decode cX9_node 100 = .ok (.ireturn, 1) := dk_172 (by decide +kernel)
theorem dX9_node_101 : decode cX9_node 101 = .ok (.aload_n 3, 1) := dk_45 (by decide +kernel)
theorem dX9_node_102 : decode cX9_node 102 = .ok (.getfield 218, 3) := dk_180 (x := 0) (y := 218) (by decide +kernel) rfl
theorem dX9_node_105 : decode cX9_node 105 = .ok (.ireturn, 1) := dk_172 (by decide +kernel)
theorem dX9_node_106 : decode cX9_node 106 = .ok (.aload_n 0, 1) := dk_42 (by decide +kernel)
theorem dX9_node_107 : decode cX9_node 107 = .ok (.getfield 28, 3) := dk_180 (x := 0) (y := 28) (by decide +kernel) rfl
theorem dX9_node_110 : decode cX9_node 110 = .ok (.getfield 197, 3) := dk_180 (x := 0) (y := 197) (by decide +kernel) rfl
theorem dX9_node_113 : decode cX9_node 113 = .ok (.iload_n 1, 1) := dk_27 (by decide +kernel)
theorem dX9_node_114 : decode cX9_node 114 = .ok (.invokestatic 180, 3) := dk_184 (x := 0) (y := 180) (by decide +kernel) rfl
theorem dX9_node_117 : decode cX9_node 117 = .ok (.ifCond .eq 7, 3) := dk_153 (x := 0) (y := 7) (by decide +kernel) rfl
theorem dX9_node_120 : decode cX9_node 120 = .ok (.iconst 1, 1) := dk_4 (by decide +kernel)
theorem dX9_node_121 : decode cX9_node 121 = .ok (.goto 4, 3) := dk_167 (x := 0) (y := 4) (by decide +kernel) rfl
theorem dX9_node_124 : decode cX9_node 124 = .ok (.iconst 0, 1) := dk_3 (by decide +kernel)
theorem dX9_node_125 : decode cX9_node 125 = .ok (.ireturn, 1) := dk_172 (by decide +kernel)
theorem dX9_node_126 : decode cX9_node 126 = .ok (.aload_n 3, 1) := dk_45 (by decide +kernel)
theorem dX9_node_127 : decode cX9_node 127 = .ok (.getfield 221, 3) := dk_180 (x := 0) (y := 221) (by decide +kernel) rfl
theorem dX9_node_130 : decode cX9_node 130 = .ok (.ireturn, 1) := dk_172 (by decide +kernel)
theorem dX9_node_131 : decode cX9_node 131 = .ok (.iconst (-1), 1) := dk_2 (by decide +kernel)
theorem dX9_node_132 : decode cX9_node 132 = .ok (.ireturn, 1) := dk_172 (by decide +kernel)
def f_X9_node (o : Nat) (a1 : Int32) (a2 : Int32) (M : Mem) : Option Int32 :=
  chk (isO M 9 o) <|
  bnd (mR M o 0) fun o2 =>
  chk (isO M 7 o2) <|
  obd (f_X7_isNode o2 a1 M) fun r6 =>
  if r6 = 0 then (
    some (-1 : Int32)
    ) else (
    bnd (mR M o 2) fun o9 =>
    chk (isO M 2 o9) <|
    bnd (mR M o9 2) fun o12 =>
    chk (isO M 102 o12) <|
    chk (inB a1 (mLn M o12)) <|
    bnd (mR M o12 (a1).toNatClampNeg) fun o16 =>
    chk (isO M 4 o16) <|
    if a2 = (0 : Int32) then (
      bnd (mR M o 2) fun o21 =>
      chk (isO M 2 o21) <|
      obd (f_X2_howIs o21 a1 M) fun r25 =>
      some r25
      ) else (
    if a2 = (1 : Int32) then (
      some (mI M o16 0)
      ) else (
    if a2 = (2 : Int32) then (
      some (mI M o16 1)
      ) else (
    if a2 = (3 : Int32) then (
      some (mI M o16 3)
      ) else (
    if a2 = (4 : Int32) then (
      some (mI M o16 4)
      ) else (
    if a2 = (5 : Int32) then (
      some (mI M o16 5)
      ) else (
    if a2 = (6 : Int32) then (
      bnd (mR M o 2) fun o38 =>
      chk (isO M 2 o38) <|
      obd (f_X9_has (mI M o38 9) a1 M) fun r42 =>
      if r42 = 0 then (
        some (0 : Int32)
        ) else (
        some (1 : Int32)
        )
      ) else (
    if a2 = (7 : Int32) then (
      some (mI M o16 11)
      ) else (
    some (-1 : Int32)
    )
    )
    )
    )
    )
    )
    )
    )
    )
theorem cd_X9_node : (yX9_node.cls ≠ "java/lang/invoke/MethodHandle" ∧ yX9_node.cls ≠ "java/lang/invoke/VarHandle") ∧ (parseMethodDescriptor yX9_node.desc).map (fun d => d.parameters.length) = some 2 := ⟨⟨by decide +kernel, by decide +kernel⟩, by decide +kernel⟩
theorem k_X9_node (G : Gam) {o : Nat} {a1 : Int32} {a2 : Int32} {M : Mem} {rv : Int32} (hf : f_X9_node o a1 a2 M = some rv) : Kt yX9_node cX9_node 4 (some .int) 2 42 G [.ref (gB G + o), .int a1, .int a2] M M (some (.int rv)) := by
  refine Kt.of (by decide) (Nat.le_of_ble_eq_true rfl) ?_
  intro p l e R s m args below meth c X hr hlk hnm
  refine s_drop [0, 1, 2] (vs' := [(0, .ref (gB G + o)), (1, .int a1), (2, .int a2)]) rfl ?_
  rw [f_X9_node] at hf
  refine s_aload_n X 0 dX9_node_0 rfl rfl ?_
  obtain ⟨h1, hf⟩ := pk_chk hf
  obtain ⟨o2, e3, hf⟩ := pk_bnd hf
  obtain ⟨h4, hf⟩ := pk_chk hf
  refine s_getR X (ci := 9) (k := 0) rfl (Nat.le_of_ble_eq_true rfl) h1 wd627 (fun _ _ _ => rfl) (e3 ▸ h4) dX9_node_1 (e3 ▸ ?_)
  refine s_iload_n X 1 dX9_node_4 rfl rfl ?_
  obtain ⟨r6, hc5, hf⟩ := pk_obd hf
  refine s_callV X (ci := 7) (k_X7_isNode G hc5) rfl h4 wd699 wd700 wd701 wd702 wd127 cd_X7_isNode ⟨Nat.le_of_ble_eq_true rfl, Nat.le_of_ble_eq_true rfl⟩ (Nat.le_of_ble_eq_true rfl) dX9_node_5 ?_
  have hs7 := pk_ite hf
  clear hf
  refine s_if_ne X (tgt := 13) dX9_node_8 rfl (fun c8 => ?_) (fun c8 => ?_)
  · have hf := hs7.2 c8
    refine s_aload_n X 0 dX9_node_13 rfl rfl ?_
    obtain ⟨o9, e10, hf⟩ := pk_bnd hf
    obtain ⟨h11, hf⟩ := pk_chk hf
    refine s_getR X (ci := 9) (k := 2) rfl (Nat.le_of_ble_eq_true rfl) h1 wd629 (fun _ _ _ => rfl) (e10 ▸ h11) dX9_node_14 (e10 ▸ ?_)
    obtain ⟨o12, e13, hf⟩ := pk_bnd hf
    obtain ⟨h14, hf⟩ := pk_chk hf
    refine s_getR X (ci := 2) (k := 2) rfl (Nat.le_of_ble_eq_true rfl) h11 wd426 (fun _ _ _ => rfl) (e13 ▸ h14) dX9_node_17 (e13 ▸ ?_)
    refine s_iload_n X 1 dX9_node_20 rfl rfl ?_
    obtain ⟨h15, hf⟩ := pk_chk hf
    obtain ⟨o16, e17, hf⟩ := pk_bnd hf
    obtain ⟨h18, hf⟩ := pk_chk hf
    refine s_aald X h14 h15 (e17 ▸ h18) dX9_node_21 (e17 ▸ ?_)
    refine s_astore_n X (vs' := [(0, .ref (gB G + o)), (1, .int a1), (2, .int a2), (3, .ref (gB G + o16))]) dX9_node_22 rfl (Nat.le_of_ble_eq_true rfl) [1, 2, 3, 0] rfl ?_
    refine s_iload_n X 2 dX9_node_23 rfl rfl ?_
    have hs19 := pk_ite hf
    clear hf
    by_cases c20 : a2 = (0 : Int32)
    · have hf := hs19.1 c20
      refine s_swC X (v := (0 : Int32)) (tgt := 72) dX9_node_24 c20 (by decide) (by decide) rfl rfl ?_
      refine s_aload_n X 0 dX9_node_72 rfl rfl ?_
      obtain ⟨o21, e22, hf⟩ := pk_bnd hf
      obtain ⟨h23, hf⟩ := pk_chk hf
      refine s_getR X (ci := 9) (k := 2) rfl (Nat.le_of_ble_eq_true rfl) h1 wd629 (fun _ _ _ => rfl) (e22 ▸ h23) dX9_node_73 (e22 ▸ ?_)
      refine s_iload_n X 1 dX9_node_76 rfl rfl ?_
      obtain ⟨r25, hc24, hf⟩ := pk_obd hf
      refine s_callV X (ci := 2) (k_X2_howIs G hc24) rfl h23 wd1078 wd1079 wd1080 wd1081 wd130 cd_X2_howIs ⟨Nat.le_of_ble_eq_true rfl, Nat.le_of_ble_eq_true rfl⟩ (Nat.le_of_ble_eq_true rfl) dX9_node_77 ?_
      cases hf
      exact s_iret X hr hlk dX9_node_80
    have hf := hs19.2 c20
    have hs26 := pk_ite hf
    clear hf
    by_cases c27 : a2 = (1 : Int32)
    · have hf := hs26.1 c27
      refine s_swC X (v := (1 : Int32)) (tgt := 81) dX9_node_24 c27 (by decide) (by decide) rfl rfl ?_
      refine s_aload_n X 3 dX9_node_81 rfl rfl ?_
      refine s_getI X (ci := 4) (k := 0) rfl (Nat.le_of_ble_eq_true rfl) h18 wd328 (fun _ _ _ => rfl) dX9_node_82 ?_
      cases hf
      exact s_iret X hr hlk dX9_node_85
    have hf := hs26.2 c27
    have hs28 := pk_ite hf
    clear hf
    by_cases c29 : a2 = (2 : Int32)
    · have hf := hs28.1 c29
      refine s_swC X (v := (2 : Int32)) (tgt := 86) dX9_node_24 c29 (by decide) (by decide) rfl rfl ?_
      refine s_aload_n X 3 dX9_node_86 rfl rfl ?_
      refine s_getI X (ci := 4) (k := 1) rfl (Nat.le_of_ble_eq_true rfl) h18 wd332 (fun _ _ _ => rfl) dX9_node_87 ?_
      cases hf
      exact s_iret X hr hlk dX9_node_90
    have hf := hs28.2 c29
    have hs30 := pk_ite hf
    clear hf
    by_cases c31 : a2 = (3 : Int32)
    · have hf := hs30.1 c31
      refine s_swC X (v := (3 : Int32)) (tgt := 91) dX9_node_24 c31 (by decide) (by decide) rfl rfl ?_
      refine s_aload_n X 3 dX9_node_91 rfl rfl ?_
      refine s_getI X (ci := 4) (k := 3) rfl (Nat.le_of_ble_eq_true rfl) h18 wd340 (fun _ _ _ => rfl) dX9_node_92 ?_
      cases hf
      exact s_iret X hr hlk dX9_node_95
    have hf := hs30.2 c31
    have hs32 := pk_ite hf
    clear hf
    by_cases c33 : a2 = (4 : Int32)
    · have hf := hs32.1 c33
      refine s_swC X (v := (4 : Int32)) (tgt := 96) dX9_node_24 c33 (by decide) (by decide) rfl rfl ?_
      refine s_aload_n X 3 dX9_node_96 rfl rfl ?_
      refine s_getI X (ci := 4) (k := 4) rfl (Nat.le_of_ble_eq_true rfl) h18 wd344 (fun _ _ _ => rfl) dX9_node_97 ?_
      cases hf
      exact s_iret X hr hlk dX9_node_100
    have hf := hs32.2 c33
    have hs34 := pk_ite hf
    clear hf
    by_cases c35 : a2 = (5 : Int32)
    · have hf := hs34.1 c35
      refine s_swC X (v := (5 : Int32)) (tgt := 101) dX9_node_24 c35 (by decide) (by decide) rfl rfl ?_
      refine s_aload_n X 3 dX9_node_101 rfl rfl ?_
      refine s_getI X (ci := 4) (k := 5) rfl (Nat.le_of_ble_eq_true rfl) h18 wd348 (fun _ _ _ => rfl) dX9_node_102 ?_
      cases hf
      exact s_iret X hr hlk dX9_node_105
    have hf := hs34.2 c35
    have hs36 := pk_ite hf
    clear hf
    by_cases c37 : a2 = (6 : Int32)
    · have hf := hs36.1 c37
      refine s_swC X (v := (6 : Int32)) (tgt := 106) dX9_node_24 c37 (by decide) (by decide) rfl rfl ?_
      refine s_aload_n X 0 dX9_node_106 rfl rfl ?_
      obtain ⟨o38, e39, hf⟩ := pk_bnd hf
      obtain ⟨h40, hf⟩ := pk_chk hf
      refine s_getR X (ci := 9) (k := 2) rfl (Nat.le_of_ble_eq_true rfl) h1 wd629 (fun _ _ _ => rfl) (e39 ▸ h40) dX9_node_107 (e39 ▸ ?_)
      refine s_getI X (ci := 2) (k := 9) rfl (Nat.le_of_ble_eq_true rfl) h40 wd442 (fun _ _ _ => rfl) dX9_node_110 ?_
      refine s_iload_n X 1 dX9_node_113 rfl rfl ?_
      obtain ⟨r42, hc41, hf⟩ := pk_obd hf
      refine s_callS X (k_X9_has G hc41) wd966 wd712 wd713 wd126 cd_X9_has ⟨Nat.le_of_ble_eq_true rfl, Nat.le_of_ble_eq_true rfl⟩ (Nat.le_of_ble_eq_true rfl) dX9_node_114 ?_
      have hs43 := pk_ite hf
      clear hf
      refine s_if_eq X (tgt := 124) dX9_node_117 rfl (fun c44 => ?_) (fun c44 => ?_)
      · have hf := hs43.1 c44
        refine s_iconst X (v := (0 : Int32)) dX9_node_124 rfl ?_
        cases hf
        exact s_iret X hr hlk dX9_node_125
      · have hf := hs43.2 c44
        refine s_iconst X (v := (1 : Int32)) dX9_node_120 rfl ?_
        refine s_goto X (tgt := 125) dX9_node_121 rfl ?_
        cases hf
        exact s_iret X hr hlk dX9_node_125
    have hf := hs36.2 c37
    have hs45 := pk_ite hf
    clear hf
    by_cases c46 : a2 = (7 : Int32)
    · have hf := hs45.1 c46
      refine s_swC X (v := (7 : Int32)) (tgt := 126) dX9_node_24 c46 (by decide) (by decide) rfl rfl ?_
      refine s_aload_n X 3 dX9_node_126 rfl rfl ?_
      refine s_getI X (ci := 4) (k := 11) rfl (Nat.le_of_ble_eq_true rfl) h18 wd371 (fun _ _ _ => rfl) dX9_node_127 ?_
      cases hf
      exact s_iret X hr hlk dX9_node_130
    have hf := hs45.2 c46
    refine s_swOut X (tgt := 131) dX9_node_24 (by have := sw_ne (v := (0 : Int32)) (z := 0) c20 (by decide); have := sw_ne (v := (1 : Int32)) (z := 1) c27 (by decide); have := sw_ne (v := (2 : Int32)) (z := 2) c29 (by decide); have := sw_ne (v := (3 : Int32)) (z := 3) c31 (by decide); have := sw_ne (v := (4 : Int32)) (z := 4) c33 (by decide); have := sw_ne (v := (5 : Int32)) (z := 5) c35 (by decide); have := sw_ne (v := (6 : Int32)) (z := 6) c37 (by decide); have := sw_ne (v := (7 : Int32)) (z := 7) c46 (by decide); omega) rfl ?_
    refine s_iconst X (v := (-1 : Int32)) dX9_node_131 rfl ?_
    cases hf
    exact s_iret X hr hlk dX9_node_132
  · have hf := hs7.1 c8
    refine s_iconst X (v := (-1 : Int32)) dX9_node_11 rfl ?_
    cases hf
    exact s_iret X hr hlk dX9_node_12
theorem dX10_node_0 : decode cX10_node 0 = .ok (.aload_n 0, 1) := dk_42 (by decide +kernel)
theorem dX10_node_1 : decode cX10_node 1 = .ok (.iload_n 1, 1) := dk_27 (by decide +kernel)
theorem dX10_node_2 : decode cX10_node 2 = .ok (.invokevirtual 76, 3) := dk_182 (x := 0) (y := 76) (by decide +kernel) rfl
theorem dX10_node_5 : decode cX10_node 5 = .ok (.ifCond .ne 5, 3) := dk_154 (x := 0) (y := 5) (by decide +kernel) rfl
theorem dX10_node_8 : decode cX10_node 8 = .ok (.iconst (-1), 1) := dk_2 (by decide +kernel)
theorem dX10_node_9 : decode cX10_node 9 = .ok (.ireturn, 1) := dk_172 (by decide +kernel)
theorem dX10_node_10 : decode cX10_node 10 = .ok (.iload_n 2, 1) := dk_28 (by decide +kernel)
theorem dX10_node_11 : decode cX10_node 11 = .ok (.tableswitch 103 0 7 #[45, 52, 59, 66, 73, 80, 88, 96], 45) := by decide +kernel
theorem dX10_node_56 : decode cX10_node 56 = .ok (.aload_n 0, 1) := dk_42 (by decide +kernel)
theorem dX10_node_57 : decode cX10_node 57 = .ok (.iload_n 1, 1) := dk_27 (by decide +kernel)
theorem dX10_node_58 : decode cX10_node 58 = .ok (.iconst 0, 1) := dk_3 (by decide +kernel)
theorem dX10_node_59 : decode cX10_node 59 = .ok (.invokevirtual 93, 3) := dk_182 (x := 0) (y := 93) (by decide +kernel) rfl
theorem dX10_node_62 : decode cX10_node 62 = .ok (.ireturn, 1) := dk_172 (by decide +kernel)
theorem dX10_node_63 : decode cX10_node 63 = .ok (.aload_n 0, 1) := dk_42 (by decide +kernel)
theorem dX10_node_64 : decode cX10_node 64 = .ok (.iload_n 1, 1) := dk_27 (by decide +kernel)
theorem dX10_node_65 : decode cX10_node 65 = .ok (.iconst 1, 1) := dk_4 (by decide +kernel)
theorem dX10_node_66 : decode cX10_node 66 = .ok (.invokevirtual 93, 3) := dk_182 (x := 0) (y := 93) (by decide +kernel) rfl
theorem dX10_node_69 : decode cX10_node 69 = .ok (.ireturn, 1) := dk_172 (by decide +kernel)
theorem dX10_node_70 : decode cX10_node 70 = .ok (.aload_n 0, 1) := dk_42 (by decide +kernel)
theorem dX10_node_71 : decode cX10_node 71 = .ok (.iload_n 1, 1) := dk_27 (by decide +kernel)
theorem dX10_node_72 : decode cX10_node 72 = .ok (.iconst 2, 1) := dk_5 (by decide +kernel)
theorem dX10_node_73 : decode cX10_node 73 = .ok (.invokevirtual 93, 3) := dk_182 (x := 0) (y := 93) (by decide +kernel) rfl
theorem dX10_node_76 : decode cX10_node 76 = .ok (.ireturn, 1) := dk_172 (by decide +kernel)
theorem dX10_node_77 : decode cX10_node 77 = .ok (.aload_n 0, 1) := dk_42 (by decide +kernel)
theorem dX10_node_78 : decode cX10_node 78 = .ok (.iload_n 1, 1) := dk_27 (by decide +kernel)
theorem dX10_node_79 : decode cX10_node 79 = .ok (.iconst 4, 1) := dk_7 (by decide +kernel)
theorem dX10_node_80 : decode cX10_node 80 = .ok (.invokevirtual 93, 3) := dk_182 (x := 0) (y := 93) (by decide +kernel) rfl
theorem dX10_node_83 : decode cX10_node 83 = .ok (.ireturn, 1) := dk_172 (by decide +kernel)
theorem dX10_node_84 : decode cX10_node 84 = .ok (.aload_n 0, 1) := dk_42 (by decide +kernel)
theorem dX10_node_85 : decode cX10_node 85 = .ok (.iload_n 1, 1) := dk_27 (by decide +kernel)
theorem dX10_node_86 : decode cX10_node 86 = .ok (.iconst 5, 1) := dk_8 (by decide +kernel)
theorem dX10_node_87 : decode cX10_node 87 = .ok (.invokevirtual 93, 3) := dk_182 (x := 0) (y := 93) (by decide +kernel) rfl
theorem dX10_node_90 : decode cX10_node 90 = .ok (.ireturn, 1) := dk_172 (by decide +kernel)
theorem dX10_node_91 : decode cX10_node 91 = .ok (.aload_n 0, 1) := dk_42 (by decide +kernel)
theorem dX10_node_92 : decode cX10_node 92 = .ok (.iload_n 1, 1) := dk_27 (by decide +kernel)
theorem dX10_node_93 : decode cX10_node 93 = .ok (.bipush 6, 2) := dk_16 (x := 6) (by decide +kernel) rfl
theorem dX10_node_95 : decode cX10_node 95 = .ok (.invokevirtual 93, 3) := dk_182 (x := 0) (y := 93) (by decide +kernel) rfl
theorem dX10_node_98 : decode cX10_node 98 = .ok (.ireturn, 1) := dk_172 (by decide +kernel)
theorem dX10_node_99 : decode cX10_node 99 = .ok (.aload_n 0, 1) := dk_42 (by decide +kernel)
theorem dX10_node_100 : decode cX10_node 100 = .ok (.iload_n 1, 1) := dk_27 (by decide +kernel)
theorem dX10_node_101 : decode cX10_node 101 = .ok (.bipush 7, 2) := dk_16 (x := 7) (by decide +kernel) rfl
theorem dX10_node_103 : decode cX10_node 103 = .ok (.invokevirtual 93, 3) := dk_182 (x := 0) (y := 93) (by decide +kernel) rfl
theorem dX10_node_106 : decode cX10_node 106 = .ok (.ireturn, 1) := dk_172 (by decide +kernel)
theorem dX10_node_107 : decode cX10_node 107 = .ok (.aload_n 0, 1) := dk_42 (by decide +kernel)
theorem dX10_node_108 : decode cX10_node 108 = .ok (.iload_n 1, 1) := dk_27 (by decide +kernel)
theorem dX10_node_109 : decode cX10_node 109 = .ok (.iconst 0, 1) := dk_3 (by decide +kernel)
theorem dX10_node_110 : decode cX10_node 110 = .ok (.invokevirtual 193, 3) := dk_182 (x := 0) (y := 193) (by decide +kernel) rfl
theorem dX10_node_113 : decode cX10_node 113 = .ok (.ireturn, 1) := dk_172 (by decide +kernel)
theorem dX10_node_114 : decode cX10_node 114 = .ok (.iconst (-1), 1) := dk_2 (by decide +kernel)
theorem dX10_node_115 : decode cX10_node 115 = .ok (.ireturn, 1) := dk_172 (by decide +kernel)
def f_X10_node (o : Nat) (a1 : Int32) (a2 : Int32) (M : Mem) : Option Int32 :=
  chk (isO M 10 o) <|
  obd (f_X10_isNode o a1 M) fun r3 =>
  if r3 = 0 then (
    some (-1 : Int32)
    ) else (
    if a2 = (0 : Int32) then (
      obd (f_X10_get o a1 (0 : Int32) M) fun r9 =>
      some r9
      ) else (
    if a2 = (1 : Int32) then (
      obd (f_X10_get o a1 (1 : Int32) M) fun r13 =>
      some r13
      ) else (
    if a2 = (2 : Int32) then (
      obd (f_X10_get o a1 (2 : Int32) M) fun r17 =>
      some r17
      ) else (
    if a2 = (3 : Int32) then (
      obd (f_X10_get o a1 (4 : Int32) M) fun r21 =>
      some r21
      ) else (
    if a2 = (4 : Int32) then (
      obd (f_X10_get o a1 (5 : Int32) M) fun r25 =>
      some r25
      ) else (
    if a2 = (5 : Int32) then (
      obd (f_X10_get o a1 (6 : Int32) M) fun r29 =>
      some r29
      ) else (
    if a2 = (6 : Int32) then (
      obd (f_X10_get o a1 (7 : Int32) M) fun r33 =>
      some r33
      ) else (
    if a2 = (7 : Int32) then (
      obd (f_X10_countOf o a1 (0 : Int32) M) fun r37 =>
      some r37
      ) else (
    some (-1 : Int32)
    )
    )
    )
    )
    )
    )
    )
    )
    )
theorem cd_X10_node : (yX10_node.cls ≠ "java/lang/invoke/MethodHandle" ∧ yX10_node.cls ≠ "java/lang/invoke/VarHandle") ∧ (parseMethodDescriptor yX10_node.desc).map (fun d => d.parameters.length) = some 2 := ⟨⟨by decide +kernel, by decide +kernel⟩, by decide +kernel⟩
theorem k_X10_node (G : Gam) {o : Nat} {a1 : Int32} {a2 : Int32} {M : Mem} {rv : Int32} (hf : f_X10_node o a1 a2 M = some rv) : Kt yX10_node cX10_node 3 (some .int) 2 43 G [.ref (gB G + o), .int a1, .int a2] M M (some (.int rv)) := by
  refine Kt.of (by decide) (Nat.le_of_ble_eq_true rfl) ?_
  intro p l e R s m args below meth c X hr hlk hnm
  refine s_drop [0, 1, 2] (vs' := [(0, .ref (gB G + o)), (1, .int a1), (2, .int a2)]) rfl ?_
  rw [f_X10_node] at hf
  refine s_aload_n X 0 dX10_node_0 rfl rfl ?_
  refine s_iload_n X 1 dX10_node_1 rfl rfl ?_
  obtain ⟨h1, hf⟩ := pk_chk hf
  obtain ⟨r3, hc2, hf⟩ := pk_obd hf
  refine s_callV X (ci := 10) (k_X10_isNode G hc2) rfl h1 wd1554 wd1556 wd53 wd1557 wd138 cd_X10_isNode ⟨Nat.le_of_ble_eq_true rfl, Nat.le_of_ble_eq_true rfl⟩ (Nat.le_of_ble_eq_true rfl) dX10_node_2 ?_
  have hs4 := pk_ite hf
  clear hf
  refine s_if_ne X (tgt := 10) dX10_node_5 rfl (fun c5 => ?_) (fun c5 => ?_)
  · have hf := hs4.2 c5
    refine s_iload_n X 2 dX10_node_10 rfl rfl ?_
    have hs6 := pk_ite hf
    clear hf
    by_cases c7 : a2 = (0 : Int32)
    · have hf := hs6.1 c7
      refine s_swC X (v := (0 : Int32)) (tgt := 56) dX10_node_11 c7 (by decide) (by decide) rfl rfl ?_
      refine s_aload_n X 0 dX10_node_56 rfl rfl ?_
      refine s_iload_n X 1 dX10_node_57 rfl rfl ?_
      refine s_iconst X (v := (0 : Int32)) dX10_node_58 rfl ?_
      obtain ⟨r9, hc8, hf⟩ := pk_obd hf
      refine s_callV X (ci := 10) (k_X10_get G hc8) rfl h1 wd1588 wd1590 wd57 wd1591 wd138 cd_X10_get ⟨Nat.le_of_ble_eq_true rfl, Nat.le_of_ble_eq_true rfl⟩ (Nat.le_of_ble_eq_true rfl) dX10_node_59 ?_
      cases hf
      exact s_iret X hr hlk dX10_node_62
    have hf := hs6.2 c7
    have hs10 := pk_ite hf
    clear hf
    by_cases c11 : a2 = (1 : Int32)
    · have hf := hs10.1 c11
      refine s_swC X (v := (1 : Int32)) (tgt := 63) dX10_node_11 c11 (by decide) (by decide) rfl rfl ?_
      refine s_aload_n X 0 dX10_node_63 rfl rfl ?_
      refine s_iload_n X 1 dX10_node_64 rfl rfl ?_
      refine s_iconst X (v := (1 : Int32)) dX10_node_65 rfl ?_
      obtain ⟨r13, hc12, hf⟩ := pk_obd hf
      refine s_callV X (ci := 10) (k_X10_get G hc12) rfl h1 wd1588 wd1590 wd57 wd1591 wd138 cd_X10_get ⟨Nat.le_of_ble_eq_true rfl, Nat.le_of_ble_eq_true rfl⟩ (Nat.le_of_ble_eq_true rfl) dX10_node_66 ?_
      cases hf
      exact s_iret X hr hlk dX10_node_69
    have hf := hs10.2 c11
    have hs14 := pk_ite hf
    clear hf
    by_cases c15 : a2 = (2 : Int32)
    · have hf := hs14.1 c15
      refine s_swC X (v := (2 : Int32)) (tgt := 70) dX10_node_11 c15 (by decide) (by decide) rfl rfl ?_
      refine s_aload_n X 0 dX10_node_70 rfl rfl ?_
      refine s_iload_n X 1 dX10_node_71 rfl rfl ?_
      refine s_iconst X (v := (2 : Int32)) dX10_node_72 rfl ?_
      obtain ⟨r17, hc16, hf⟩ := pk_obd hf
      refine s_callV X (ci := 10) (k_X10_get G hc16) rfl h1 wd1588 wd1590 wd57 wd1591 wd138 cd_X10_get ⟨Nat.le_of_ble_eq_true rfl, Nat.le_of_ble_eq_true rfl⟩ (Nat.le_of_ble_eq_true rfl) dX10_node_73 ?_
      cases hf
      exact s_iret X hr hlk dX10_node_76
    have hf := hs14.2 c15
    have hs18 := pk_ite hf
    clear hf
    by_cases c19 : a2 = (3 : Int32)
    · have hf := hs18.1 c19
      refine s_swC X (v := (3 : Int32)) (tgt := 77) dX10_node_11 c19 (by decide) (by decide) rfl rfl ?_
      refine s_aload_n X 0 dX10_node_77 rfl rfl ?_
      refine s_iload_n X 1 dX10_node_78 rfl rfl ?_
      refine s_iconst X (v := (4 : Int32)) dX10_node_79 rfl ?_
      obtain ⟨r21, hc20, hf⟩ := pk_obd hf
      refine s_callV X (ci := 10) (k_X10_get G hc20) rfl h1 wd1588 wd1590 wd57 wd1591 wd138 cd_X10_get ⟨Nat.le_of_ble_eq_true rfl, Nat.le_of_ble_eq_true rfl⟩ (Nat.le_of_ble_eq_true rfl) dX10_node_80 ?_
      cases hf
      exact s_iret X hr hlk dX10_node_83
    have hf := hs18.2 c19
    have hs22 := pk_ite hf
    clear hf
    by_cases c23 : a2 = (4 : Int32)
    · have hf := hs22.1 c23
      refine s_swC X (v := (4 : Int32)) (tgt := 84) dX10_node_11 c23 (by decide) (by decide) rfl rfl ?_
      refine s_aload_n X 0 dX10_node_84 rfl rfl ?_
      refine s_iload_n X 1 dX10_node_85 rfl rfl ?_
      refine s_iconst X (v := (5 : Int32)) dX10_node_86 rfl ?_
      obtain ⟨r25, hc24, hf⟩ := pk_obd hf
      refine s_callV X (ci := 10) (k_X10_get G hc24) rfl h1 wd1588 wd1590 wd57 wd1591 wd138 cd_X10_get ⟨Nat.le_of_ble_eq_true rfl, Nat.le_of_ble_eq_true rfl⟩ (Nat.le_of_ble_eq_true rfl) dX10_node_87 ?_
      cases hf
      exact s_iret X hr hlk dX10_node_90
    have hf := hs22.2 c23
    have hs26 := pk_ite hf
    clear hf
    by_cases c27 : a2 = (5 : Int32)
    · have hf := hs26.1 c27
      refine s_swC X (v := (5 : Int32)) (tgt := 91) dX10_node_11 c27 (by decide) (by decide) rfl rfl ?_
      refine s_aload_n X 0 dX10_node_91 rfl rfl ?_
      refine s_iload_n X 1 dX10_node_92 rfl rfl ?_
      refine s_bipush X (v := (6 : Int32)) dX10_node_93 rfl ?_
      obtain ⟨r29, hc28, hf⟩ := pk_obd hf
      refine s_callV X (ci := 10) (k_X10_get G hc28) rfl h1 wd1588 wd1590 wd57 wd1591 wd138 cd_X10_get ⟨Nat.le_of_ble_eq_true rfl, Nat.le_of_ble_eq_true rfl⟩ (Nat.le_of_ble_eq_true rfl) dX10_node_95 ?_
      cases hf
      exact s_iret X hr hlk dX10_node_98
    have hf := hs26.2 c27
    have hs30 := pk_ite hf
    clear hf
    by_cases c31 : a2 = (6 : Int32)
    · have hf := hs30.1 c31
      refine s_swC X (v := (6 : Int32)) (tgt := 99) dX10_node_11 c31 (by decide) (by decide) rfl rfl ?_
      refine s_aload_n X 0 dX10_node_99 rfl rfl ?_
      refine s_iload_n X 1 dX10_node_100 rfl rfl ?_
      refine s_bipush X (v := (7 : Int32)) dX10_node_101 rfl ?_
      obtain ⟨r33, hc32, hf⟩ := pk_obd hf
      refine s_callV X (ci := 10) (k_X10_get G hc32) rfl h1 wd1588 wd1590 wd57 wd1591 wd138 cd_X10_get ⟨Nat.le_of_ble_eq_true rfl, Nat.le_of_ble_eq_true rfl⟩ (Nat.le_of_ble_eq_true rfl) dX10_node_103 ?_
      cases hf
      exact s_iret X hr hlk dX10_node_106
    have hf := hs30.2 c31
    have hs34 := pk_ite hf
    clear hf
    by_cases c35 : a2 = (7 : Int32)
    · have hf := hs34.1 c35
      refine s_swC X (v := (7 : Int32)) (tgt := 107) dX10_node_11 c35 (by decide) (by decide) rfl rfl ?_
      refine s_aload_n X 0 dX10_node_107 rfl rfl ?_
      refine s_iload_n X 1 dX10_node_108 rfl rfl ?_
      refine s_iconst X (v := (0 : Int32)) dX10_node_109 rfl ?_
      obtain ⟨r37, hc36, hf⟩ := pk_obd hf
      refine s_callV X (ci := 10) (k_X10_countOf G hc36) rfl h1 wd1822 wd1824 wd92 wd1825 wd138 cd_X10_countOf ⟨Nat.le_of_ble_eq_true rfl, Nat.le_of_ble_eq_true rfl⟩ (Nat.le_of_ble_eq_true rfl) dX10_node_110 ?_
      cases hf
      exact s_iret X hr hlk dX10_node_113
    have hf := hs34.2 c35
    refine s_swOut X (tgt := 114) dX10_node_11 (by have := sw_ne (v := (0 : Int32)) (z := 0) c7 (by decide); have := sw_ne (v := (1 : Int32)) (z := 1) c11 (by decide); have := sw_ne (v := (2 : Int32)) (z := 2) c15 (by decide); have := sw_ne (v := (3 : Int32)) (z := 3) c19 (by decide); have := sw_ne (v := (4 : Int32)) (z := 4) c23 (by decide); have := sw_ne (v := (5 : Int32)) (z := 5) c27 (by decide); have := sw_ne (v := (6 : Int32)) (z := 6) c31 (by decide); have := sw_ne (v := (7 : Int32)) (z := 7) c35 (by decide); omega) rfl ?_
    refine s_iconst X (v := (-1 : Int32)) dX10_node_114 rfl ?_
    cases hf
    exact s_iret X hr hlk dX10_node_115
  · have hf := hs4.1 c5
    refine s_iconst X (v := (-1 : Int32)) dX10_node_8 rfl ?_
    cases hf
    exact s_iret X hr hlk dX10_node_9
theorem dX9_arbiter_0 : decode cX9_arbiter 0 = .ok (.aload_n 0, 1) := dk_42 (by decide +kernel)
theorem dX9_arbiter_1 : decode cX9_arbiter 1 = .ok (.getfield 10, 3) := dk_180 (x := 0) (y := 10) (by decide +kernel) rfl
theorem dX9_arbiter_4 : decode cX9_arbiter 4 = .ok (.iload_n 1, 1) := dk_27 (by decide +kernel)
theorem dX9_arbiter_5 : decode cX9_arbiter 5 = .ok (.invokevirtual 71, 3) := dk_182 (x := 0) (y := 71) (by decide +kernel) rfl
theorem dX9_arbiter_8 : decode cX9_arbiter 8 = .ok (.ifCond .ne 5, 3) := dk_154 (x := 0) (y := 5) (by decide +kernel) rfl
theorem dX9_arbiter_11 : decode cX9_arbiter 11 = .ok (.iconst (-1), 1) := dk_2 (by decide +kernel)
theorem dX9_arbiter_12 : decode cX9_arbiter 12 = .ok (.ireturn, 1) := dk_172 (by decide +kernel)
theorem dX9_arbiter_13 : decode cX9_arbiter 13 = .ok (.aload_n 0, 1) := dk_42 (by decide +kernel)
theorem dX9_arbiter_14 : decode cX9_arbiter 14 = .ok (.getfield 28, 3) := dk_180 (x := 0) (y := 28) (by decide +kernel) rfl
theorem dX9_arbiter_17 : decode cX9_arbiter 17 = .ok (.getfield 99, 3) := dk_180 (x := 0) (y := 99) (by decide +kernel) rfl
theorem dX9_arbiter_20 : decode cX9_arbiter 20 = .ok (.iload_n 1, 1) := dk_27 (by decide +kernel)
theorem dX9_arbiter_21 : decode cX9_arbiter 21 = .ok (.aaload, 1) := dk_50 (by decide +kernel)
theorem dX9_arbiter_22 : decode cX9_arbiter 22 = .ok (.astore_n 3, 1) := dk_78 (by decide +kernel)
theorem dX9_arbiter_23 : decode cX9_arbiter 23 = .ok (.iload_n 2, 1) := dk_28 (by decide +kernel)
theorem dX9_arbiter_24 : decode cX9_arbiter 24 = .ok (.tableswitch 63 0 3 #[32, 37, 42, 55], 32) := by decide +kernel
theorem dX9_arbiter_56 : decode cX9_arbiter 56 = .ok (.aload_n 3, 1) := dk_45 (by decide +kernel)
theorem dX9_arbiter_57 : decode cX9_arbiter 57 = .ok (.getfield 224, 3) := dk_180 (x := 0) (y := 224) (by decide +kernel) rfl
theorem dX9_arbiter_60 : decode cX9_arbiter 60 = .ok (.ireturn, 1) := dk_172 (by decide +kernel)
theorem dX9_arbiter_61 : decode cX9_arbiter 61 = .ok (.aload_n 3, 1) := dk_45 (by decide +kernel)
theorem dX9_arbiter_62 : decode cX9_arbiter 62 = .ok (.getfield 227, 3) := dk_180 (x := 0) (y := 227) (by decide +kernel) rfl
theorem dX9_arbiter_65 : decode cX9_arbiter 65 = .ok (.ireturn, 1) := dk_172 (by decide +kernel)
theorem dX9_arbiter_66 : decode cX9_arbiter 66 = .ok (.aload_n 3, 1) := dk_45 (by decide +kernel)
theorem dX9_arbiter_67 : decode cX9_arbiter 67 = .ok (.getfield 230, 3) := dk_180 (x := 0) (y := 230) (by decide +kernel) rfl
theorem dX9_arbiter_70 : decode cX9_arbiter 70 = .ok (.ifCond .eq 7, 3) := dk_153 (x := 0) (y := 7) (by decide +kernel) rfl
theorem dX9_arbiter_73 : decode cX9_arbiter 73 = .ok (.iconst 1, 1) := dk_4 (by decide +kernel)
theorem dX9_arbiter_74 : decode cX9_arbiter 74 = .ok (.goto 4, 3) := dk_167 (x := 0) (y := 4) (by decide +kernel) rfl
theorem dX9_arbiter_77 : decode cX9_arbiter 77 = .ok (.iconst 0, 1) := dk_3 (by decide +kernel)
theorem dX9_arbiter_78 : decode cX9_arbiter 78 = .ok (.ireturn, 1) := dk_172 (by decide +kernel)
theorem dX9_arbiter_79 : decode cX9_arbiter 79 = .ok (.aload_n 3, 1) := dk_45 (by decide +kernel)
theorem dX9_arbiter_80 : decode cX9_arbiter 80 = .ok (.getfield 234, 3) := dk_180 (x := 0) (y := 234) (by decide +kernel) rfl
theorem dX9_arbiter_83 : decode cX9_arbiter 83 = .ok (.invokestatic 134, 3) := dk_184 (x := 0) (y := 134) (by decide +kernel) rfl
theorem dX9_arbiter_86 : decode cX9_arbiter 86 = .ok (.ireturn, 1) := dk_172 (by decide +kernel)
theorem dX9_arbiter_87 : decode cX9_arbiter 87 = .ok (.iconst (-1), 1) := dk_2 (by decide +kernel)
theorem dX9_arbiter_88 : decode cX9_arbiter 88 = .ok (.ireturn, 1) := dk_172 (by decide +kernel)
def f_X9_arbiter (o : Nat) (a1 : Int32) (a2 : Int32) (M : Mem) : Option Int32 :=
  chk (isO M 9 o) <|
  bnd (mR M o 0) fun o2 =>
  chk (isO M 7 o2) <|
  obd (f_X7_isNode o2 a1 M) fun r6 =>
  if r6 = 0 then (
    some (-1 : Int32)
    ) else (
    bnd (mR M o 2) fun o9 =>
    chk (isO M 2 o9) <|
    bnd (mR M o9 2) fun o12 =>
    chk (isO M 102 o12) <|
    chk (inB a1 (mLn M o12)) <|
    bnd (mR M o12 (a1).toNatClampNeg) fun o16 =>
    chk (isO M 4 o16) <|
    if a2 = (0 : Int32) then (
      some (mI M o16 6)
      ) else (
    if a2 = (1 : Int32) then (
      some (mI M o16 7)
      ) else (
    if a2 = (2 : Int32) then (
      if (mI M o16 8) = 0 then (
        some (0 : Int32)
        ) else (
        some (1 : Int32)
        )
      ) else (
    if a2 = (3 : Int32) then (
      obd (f_J6_bitCount_0f7a4 (mI M o16 9) M) fun r30 =>
      some r30
      ) else (
    some (-1 : Int32)
    )
    )
    )
    )
    )
theorem cd_X9_arbiter : (yX9_arbiter.cls ≠ "java/lang/invoke/MethodHandle" ∧ yX9_arbiter.cls ≠ "java/lang/invoke/VarHandle") ∧ (parseMethodDescriptor yX9_arbiter.desc).map (fun d => d.parameters.length) = some 2 := ⟨⟨by decide +kernel, by decide +kernel⟩, by decide +kernel⟩
theorem k_X9_arbiter (G : Gam) {o : Nat} {a1 : Int32} {a2 : Int32} {M : Mem} {rv : Int32} (hf : f_X9_arbiter o a1 a2 M = some rv) : Kt yX9_arbiter cX9_arbiter 4 (some .int) 1 21 G [.ref (gB G + o), .int a1, .int a2] M M (some (.int rv)) := by
  refine Kt.of (by decide) (Nat.le_of_ble_eq_true rfl) ?_
  intro p l e R s m args below meth c X hr hlk hnm
  refine s_drop [0, 1, 2] (vs' := [(0, .ref (gB G + o)), (1, .int a1), (2, .int a2)]) rfl ?_
  rw [f_X9_arbiter] at hf
  refine s_aload_n X 0 dX9_arbiter_0 rfl rfl ?_
  obtain ⟨h1, hf⟩ := pk_chk hf
  obtain ⟨o2, e3, hf⟩ := pk_bnd hf
  obtain ⟨h4, hf⟩ := pk_chk hf
  refine s_getR X (ci := 9) (k := 0) rfl (Nat.le_of_ble_eq_true rfl) h1 wd627 (fun _ _ _ => rfl) (e3 ▸ h4) dX9_arbiter_1 (e3 ▸ ?_)
  refine s_iload_n X 1 dX9_arbiter_4 rfl rfl ?_
  obtain ⟨r6, hc5, hf⟩ := pk_obd hf
  refine s_callV X (ci := 7) (k_X7_isNode G hc5) rfl h4 wd699 wd700 wd701 wd702 wd127 cd_X7_isNode ⟨Nat.le_of_ble_eq_true rfl, Nat.le_of_ble_eq_true rfl⟩ (Nat.le_of_ble_eq_true rfl) dX9_arbiter_5 ?_
  have hs7 := pk_ite hf
  clear hf
  refine s_if_ne X (tgt := 13) dX9_arbiter_8 rfl (fun c8 => ?_) (fun c8 => ?_)
  · have hf := hs7.2 c8
    refine s_aload_n X 0 dX9_arbiter_13 rfl rfl ?_
    obtain ⟨o9, e10, hf⟩ := pk_bnd hf
    obtain ⟨h11, hf⟩ := pk_chk hf
    refine s_getR X (ci := 9) (k := 2) rfl (Nat.le_of_ble_eq_true rfl) h1 wd629 (fun _ _ _ => rfl) (e10 ▸ h11) dX9_arbiter_14 (e10 ▸ ?_)
    obtain ⟨o12, e13, hf⟩ := pk_bnd hf
    obtain ⟨h14, hf⟩ := pk_chk hf
    refine s_getR X (ci := 2) (k := 2) rfl (Nat.le_of_ble_eq_true rfl) h11 wd426 (fun _ _ _ => rfl) (e13 ▸ h14) dX9_arbiter_17 (e13 ▸ ?_)
    refine s_iload_n X 1 dX9_arbiter_20 rfl rfl ?_
    obtain ⟨h15, hf⟩ := pk_chk hf
    obtain ⟨o16, e17, hf⟩ := pk_bnd hf
    obtain ⟨h18, hf⟩ := pk_chk hf
    refine s_aald X h14 h15 (e17 ▸ h18) dX9_arbiter_21 (e17 ▸ ?_)
    refine s_astore_n X (vs' := [(0, .ref (gB G + o)), (1, .int a1), (2, .int a2), (3, .ref (gB G + o16))]) dX9_arbiter_22 rfl (Nat.le_of_ble_eq_true rfl) [1, 2, 3, 0] rfl ?_
    refine s_iload_n X 2 dX9_arbiter_23 rfl rfl ?_
    have hs19 := pk_ite hf
    clear hf
    by_cases c20 : a2 = (0 : Int32)
    · have hf := hs19.1 c20
      refine s_swC X (v := (0 : Int32)) (tgt := 56) dX9_arbiter_24 c20 (by decide) (by decide) rfl rfl ?_
      refine s_aload_n X 3 dX9_arbiter_56 rfl rfl ?_
      refine s_getI X (ci := 4) (k := 6) rfl (Nat.le_of_ble_eq_true rfl) h18 wd352 (fun _ _ _ => rfl) dX9_arbiter_57 ?_
      cases hf
      exact s_iret X hr hlk dX9_arbiter_60
    have hf := hs19.2 c20
    have hs21 := pk_ite hf
    clear hf
    by_cases c22 : a2 = (1 : Int32)
    · have hf := hs21.1 c22
      refine s_swC X (v := (1 : Int32)) (tgt := 61) dX9_arbiter_24 c22 (by decide) (by decide) rfl rfl ?_
      refine s_aload_n X 3 dX9_arbiter_61 rfl rfl ?_
      refine s_getI X (ci := 4) (k := 7) rfl (Nat.le_of_ble_eq_true rfl) h18 wd356 (fun _ _ _ => rfl) dX9_arbiter_62 ?_
      cases hf
      exact s_iret X hr hlk dX9_arbiter_65
    have hf := hs21.2 c22
    have hs23 := pk_ite hf
    clear hf
    by_cases c24 : a2 = (2 : Int32)
    · have hf := hs23.1 c24
      refine s_swC X (v := (2 : Int32)) (tgt := 66) dX9_arbiter_24 c24 (by decide) (by decide) rfl rfl ?_
      refine s_aload_n X 3 dX9_arbiter_66 rfl rfl ?_
      refine s_getI X (ci := 4) (k := 8) rfl (Nat.le_of_ble_eq_true rfl) h18 wd360 (fun _ _ _ => rfl) dX9_arbiter_67 ?_
      have hs25 := pk_ite hf
      clear hf
      refine s_if_eq X (tgt := 77) dX9_arbiter_70 rfl (fun c26 => ?_) (fun c26 => ?_)
      · have hf := hs25.1 c26
        refine s_iconst X (v := (0 : Int32)) dX9_arbiter_77 rfl ?_
        cases hf
        exact s_iret X hr hlk dX9_arbiter_78
      · have hf := hs25.2 c26
        refine s_iconst X (v := (1 : Int32)) dX9_arbiter_73 rfl ?_
        refine s_goto X (tgt := 78) dX9_arbiter_74 rfl ?_
        cases hf
        exact s_iret X hr hlk dX9_arbiter_78
    have hf := hs23.2 c24
    have hs27 := pk_ite hf
    clear hf
    by_cases c28 : a2 = (3 : Int32)
    · have hf := hs27.1 c28
      refine s_swC X (v := (3 : Int32)) (tgt := 79) dX9_arbiter_24 c28 (by decide) (by decide) rfl rfl ?_
      refine s_aload_n X 3 dX9_arbiter_79 rfl rfl ?_
      refine s_getI X (ci := 4) (k := 9) rfl (Nat.le_of_ble_eq_true rfl) h18 wd364 (fun _ _ _ => rfl) dX9_arbiter_80 ?_
      obtain ⟨r30, hc29, hf⟩ := pk_obd hf
      refine s_callS X (k_J6_bitCount_0f7a4 G hc29) wd839 wd831 wd832 wd141 cd_J6_bitCount_0f7a4 ⟨Nat.le_of_ble_eq_true rfl, Nat.le_of_ble_eq_true rfl⟩ (Nat.le_of_ble_eq_true rfl) dX9_arbiter_83 ?_
      cases hf
      exact s_iret X hr hlk dX9_arbiter_86
    have hf := hs27.2 c28
    refine s_swOut X (tgt := 87) dX9_arbiter_24 (by have := sw_ne (v := (0 : Int32)) (z := 0) c20 (by decide); have := sw_ne (v := (1 : Int32)) (z := 1) c22 (by decide); have := sw_ne (v := (2 : Int32)) (z := 2) c24 (by decide); have := sw_ne (v := (3 : Int32)) (z := 3) c28 (by decide); omega) rfl ?_
    refine s_iconst X (v := (-1 : Int32)) dX9_arbiter_87 rfl ?_
    cases hf
    exact s_iret X hr hlk dX9_arbiter_88
  · have hf := hs7.1 c8
    refine s_iconst X (v := (-1 : Int32)) dX9_arbiter_11 rfl ?_
    cases hf
    exact s_iret X hr hlk dX9_arbiter_12
theorem dX10_arbiter_0 : decode cX10_arbiter 0 = .ok (.aload_n 0, 1) := dk_42 (by decide +kernel)
theorem dX10_arbiter_1 : decode cX10_arbiter 1 = .ok (.iload_n 1, 1) := dk_27 (by decide +kernel)
theorem dX10_arbiter_2 : decode cX10_arbiter 2 = .ok (.invokevirtual 76, 3) := dk_182 (x := 0) (y := 76) (by decide +kernel) rfl
theorem dX10_arbiter_5 : decode cX10_arbiter 5 = .ok (.ifCond .ne 5, 3) := dk_154 (x := 0) (y := 5) (by decide +kernel) rfl
theorem dX10_arbiter_8 : decode cX10_arbiter 8 = .ok (.iconst (-1), 1) := dk_2 (by decide +kernel)
theorem dX10_arbiter_9 : decode cX10_arbiter 9 = .ok (.ireturn, 1) := dk_172 (by decide +kernel)
theorem dX10_arbiter_10 : decode cX10_arbiter 10 = .ok (.iload_n 2, 1) := dk_28 (by decide +kernel)
theorem dX10_arbiter_11 : decode cX10_arbiter 11 = .ok (.tableswitch 71 0 3 #[29, 36, 57, 64], 29) := by decide +kernel
theorem dX10_arbiter_40 : decode cX10_arbiter 40 = .ok (.aload_n 0, 1) := dk_42 (by decide +kernel)
theorem dX10_arbiter_41 : decode cX10_arbiter 41 = .ok (.iload_n 1, 1) := dk_27 (by decide +kernel)
theorem dX10_arbiter_42 : decode cX10_arbiter 42 = .ok (.iconst 0, 1) := dk_3 (by decide +kernel)
theorem dX10_arbiter_43 : decode cX10_arbiter 43 = .ok (.invokevirtual 151, 3) := dk_182 (x := 0) (y := 151) (by decide +kernel) rfl
theorem dX10_arbiter_46 : decode cX10_arbiter 46 = .ok (.ireturn, 1) := dk_172 (by decide +kernel)
theorem dX10_arbiter_47 : decode cX10_arbiter 47 = .ok (.aload_n 0, 1) := dk_42 (by decide +kernel)
theorem dX10_arbiter_48 : decode cX10_arbiter 48 = .ok (.iload_n 1, 1) := dk_27 (by decide +kernel)
theorem dX10_arbiter_49 : decode cX10_arbiter 49 = .ok (.iconst 0, 1) := dk_3 (by decide +kernel)
theorem dX10_arbiter_50 : decode cX10_arbiter 50 = .ok (.invokevirtual 151, 3) := dk_182 (x := 0) (y := 151) (by decide +kernel) rfl
theorem dX10_arbiter_53 : decode cX10_arbiter 53 = .ok (.iconst (-1), 1) := dk_2 (by decide +kernel)
theorem dX10_arbiter_54 : decode cX10_arbiter 54 = .ok (.if_icmp .ne 7, 3) := dk_160 (x := 0) (y := 7) (by decide +kernel) rfl
theorem dX10_arbiter_57 : decode cX10_arbiter 57 = .ok (.iconst (-1), 1) := dk_2 (by decide +kernel)
theorem dX10_arbiter_58 : decode cX10_arbiter 58 = .ok (.goto 9, 3) := dk_167 (x := 0) (y := 9) (by decide +kernel) rfl
theorem dX10_arbiter_61 : decode cX10_arbiter 61 = .ok (.aload_n 0, 1) := dk_42 (by decide +kernel)
theorem dX10_arbiter_62 : decode cX10_arbiter 62 = .ok (.iload_n 1, 1) := dk_27 (by decide +kernel)
theorem dX10_arbiter_63 : decode cX10_arbiter 63 = .ok (.iconst 1, 1) := dk_4 (by decide +kernel)
theorem dX10_arbiter_64 : decode cX10_arbiter 64 = .ok (.invokevirtual 151, 3) := dk_182 (x := 0) (y := 151) (by decide +kernel) rfl
theorem dX10_arbiter_67 : decode cX10_arbiter 67 = .ok (.ireturn, 1) := dk_172 (by decide +kernel)
theorem dX10_arbiter_68 : decode cX10_arbiter 68 = .ok (.aload_n 0, 1) := dk_42 (by decide +kernel)
theorem dX10_arbiter_69 : decode cX10_arbiter 69 = .ok (.iload_n 1, 1) := dk_27 (by decide +kernel)
theorem dX10_arbiter_70 : decode cX10_arbiter 70 = .ok (.iconst 2, 1) := dk_5 (by decide +kernel)
theorem dX10_arbiter_71 : decode cX10_arbiter 71 = .ok (.invokevirtual 151, 3) := dk_182 (x := 0) (y := 151) (by decide +kernel) rfl
theorem dX10_arbiter_74 : decode cX10_arbiter 74 = .ok (.ireturn, 1) := dk_172 (by decide +kernel)
theorem dX10_arbiter_75 : decode cX10_arbiter 75 = .ok (.aload_n 0, 1) := dk_42 (by decide +kernel)
theorem dX10_arbiter_76 : decode cX10_arbiter 76 = .ok (.iload_n 1, 1) := dk_27 (by decide +kernel)
theorem dX10_arbiter_77 : decode cX10_arbiter 77 = .ok (.iconst 3, 1) := dk_6 (by decide +kernel)
theorem dX10_arbiter_78 : decode cX10_arbiter 78 = .ok (.invokevirtual 151, 3) := dk_182 (x := 0) (y := 151) (by decide +kernel) rfl
theorem dX10_arbiter_81 : decode cX10_arbiter 81 = .ok (.ireturn, 1) := dk_172 (by decide +kernel)
theorem dX10_arbiter_82 : decode cX10_arbiter 82 = .ok (.iconst (-1), 1) := dk_2 (by decide +kernel)
theorem dX10_arbiter_83 : decode cX10_arbiter 83 = .ok (.ireturn, 1) := dk_172 (by decide +kernel)
def f_X10_arbiter (o : Nat) (a1 : Int32) (a2 : Int32) (M : Mem) : Option Int32 :=
  chk (isO M 10 o) <|
  obd (f_X10_isNode o a1 M) fun r3 =>
  if r3 = 0 then (
    some (-1 : Int32)
    ) else (
    if a2 = (0 : Int32) then (
      obd (f_X10_of o a1 (0 : Int32) M) fun r9 =>
      some r9
      ) else (
    if a2 = (1 : Int32) then (
      obd (f_X10_of o a1 (0 : Int32) M) fun r13 =>
      if r13 = (-1 : Int32) then (
        some (-1 : Int32)
        ) else (
        obd (f_X10_of o a1 (1 : Int32) M) fun r17 =>
        some r17
        )
      ) else (
    if a2 = (2 : Int32) then (
      obd (f_X10_of o a1 (2 : Int32) M) fun r21 =>
      some r21
      ) else (
    if a2 = (3 : Int32) then (
      obd (f_X10_of o a1 (3 : Int32) M) fun r25 =>
      some r25
      ) else (
    some (-1 : Int32)
    )
    )
    )
    )
    )
theorem cd_X10_arbiter : (yX10_arbiter.cls ≠ "java/lang/invoke/MethodHandle" ∧ yX10_arbiter.cls ≠ "java/lang/invoke/VarHandle") ∧ (parseMethodDescriptor yX10_arbiter.desc).map (fun d => d.parameters.length) = some 2 := ⟨⟨by decide +kernel, by decide +kernel⟩, by decide +kernel⟩
theorem k_X10_arbiter (G : Gam) {o : Nat} {a1 : Int32} {a2 : Int32} {M : Mem} {rv : Int32} (hf : f_X10_arbiter o a1 a2 M = some rv) : Kt yX10_arbiter cX10_arbiter 3 (some .int) 2 43 G [.ref (gB G + o), .int a1, .int a2] M M (some (.int rv)) := by
  refine Kt.of (by decide) (Nat.le_of_ble_eq_true rfl) ?_
  intro p l e R s m args below meth c X hr hlk hnm
  refine s_drop [0, 1, 2] (vs' := [(0, .ref (gB G + o)), (1, .int a1), (2, .int a2)]) rfl ?_
  rw [f_X10_arbiter] at hf
  refine s_aload_n X 0 dX10_arbiter_0 rfl rfl ?_
  refine s_iload_n X 1 dX10_arbiter_1 rfl rfl ?_
  obtain ⟨h1, hf⟩ := pk_chk hf
  obtain ⟨r3, hc2, hf⟩ := pk_obd hf
  refine s_callV X (ci := 10) (k_X10_isNode G hc2) rfl h1 wd1554 wd1556 wd53 wd1557 wd138 cd_X10_isNode ⟨Nat.le_of_ble_eq_true rfl, Nat.le_of_ble_eq_true rfl⟩ (Nat.le_of_ble_eq_true rfl) dX10_arbiter_2 ?_
  have hs4 := pk_ite hf
  clear hf
  refine s_if_ne X (tgt := 10) dX10_arbiter_5 rfl (fun c5 => ?_) (fun c5 => ?_)
  · have hf := hs4.2 c5
    refine s_iload_n X 2 dX10_arbiter_10 rfl rfl ?_
    have hs6 := pk_ite hf
    clear hf
    by_cases c7 : a2 = (0 : Int32)
    · have hf := hs6.1 c7
      refine s_swC X (v := (0 : Int32)) (tgt := 40) dX10_arbiter_11 c7 (by decide) (by decide) rfl rfl ?_
      refine s_aload_n X 0 dX10_arbiter_40 rfl rfl ?_
      refine s_iload_n X 1 dX10_arbiter_41 rfl rfl ?_
      refine s_iconst X (v := (0 : Int32)) dX10_arbiter_42 rfl ?_
      obtain ⟨r9, hc8, hf⟩ := pk_obd hf
      refine s_callV X (ci := 10) (k_X10_of G hc8) rfl h1 wd1761 wd1763 wd79 wd1764 wd138 cd_X10_of ⟨Nat.le_of_ble_eq_true rfl, Nat.le_of_ble_eq_true rfl⟩ (Nat.le_of_ble_eq_true rfl) dX10_arbiter_43 ?_
      cases hf
      exact s_iret X hr hlk dX10_arbiter_46
    have hf := hs6.2 c7
    have hs10 := pk_ite hf
    clear hf
    by_cases c11 : a2 = (1 : Int32)
    · have hf := hs10.1 c11
      refine s_swC X (v := (1 : Int32)) (tgt := 47) dX10_arbiter_11 c11 (by decide) (by decide) rfl rfl ?_
      refine s_aload_n X 0 dX10_arbiter_47 rfl rfl ?_
      refine s_iload_n X 1 dX10_arbiter_48 rfl rfl ?_
      refine s_iconst X (v := (0 : Int32)) dX10_arbiter_49 rfl ?_
      obtain ⟨r13, hc12, hf⟩ := pk_obd hf
      refine s_callV X (ci := 10) (k_X10_of G hc12) rfl h1 wd1761 wd1763 wd79 wd1764 wd138 cd_X10_of ⟨Nat.le_of_ble_eq_true rfl, Nat.le_of_ble_eq_true rfl⟩ (Nat.le_of_ble_eq_true rfl) dX10_arbiter_50 ?_
      refine s_iconst X (v := (-1 : Int32)) dX10_arbiter_53 rfl ?_
      have hs14 := pk_ite hf
      clear hf
      refine s_icmp_ne X (tgt := 61) dX10_arbiter_54 rfl (fun c15 => ?_) (fun c15 => ?_)
      · have hf := hs14.2 c15
        refine s_aload_n X 0 dX10_arbiter_61 rfl rfl ?_
        refine s_iload_n X 1 dX10_arbiter_62 rfl rfl ?_
        refine s_iconst X (v := (1 : Int32)) dX10_arbiter_63 rfl ?_
        obtain ⟨r17, hc16, hf⟩ := pk_obd hf
        refine s_callV X (ci := 10) (k_X10_of G hc16) rfl h1 wd1761 wd1763 wd79 wd1764 wd138 cd_X10_of ⟨Nat.le_of_ble_eq_true rfl, Nat.le_of_ble_eq_true rfl⟩ (Nat.le_of_ble_eq_true rfl) dX10_arbiter_64 ?_
        cases hf
        exact s_iret X hr hlk dX10_arbiter_67
      · have hf := hs14.1 c15
        refine s_iconst X (v := (-1 : Int32)) dX10_arbiter_57 rfl ?_
        refine s_goto X (tgt := 67) dX10_arbiter_58 rfl ?_
        cases hf
        exact s_iret X hr hlk dX10_arbiter_67
    have hf := hs10.2 c11
    have hs18 := pk_ite hf
    clear hf
    by_cases c19 : a2 = (2 : Int32)
    · have hf := hs18.1 c19
      refine s_swC X (v := (2 : Int32)) (tgt := 68) dX10_arbiter_11 c19 (by decide) (by decide) rfl rfl ?_
      refine s_aload_n X 0 dX10_arbiter_68 rfl rfl ?_
      refine s_iload_n X 1 dX10_arbiter_69 rfl rfl ?_
      refine s_iconst X (v := (2 : Int32)) dX10_arbiter_70 rfl ?_
      obtain ⟨r21, hc20, hf⟩ := pk_obd hf
      refine s_callV X (ci := 10) (k_X10_of G hc20) rfl h1 wd1761 wd1763 wd79 wd1764 wd138 cd_X10_of ⟨Nat.le_of_ble_eq_true rfl, Nat.le_of_ble_eq_true rfl⟩ (Nat.le_of_ble_eq_true rfl) dX10_arbiter_71 ?_
      cases hf
      exact s_iret X hr hlk dX10_arbiter_74
    have hf := hs18.2 c19
    have hs22 := pk_ite hf
    clear hf
    by_cases c23 : a2 = (3 : Int32)
    · have hf := hs22.1 c23
      refine s_swC X (v := (3 : Int32)) (tgt := 75) dX10_arbiter_11 c23 (by decide) (by decide) rfl rfl ?_
      refine s_aload_n X 0 dX10_arbiter_75 rfl rfl ?_
      refine s_iload_n X 1 dX10_arbiter_76 rfl rfl ?_
      refine s_iconst X (v := (3 : Int32)) dX10_arbiter_77 rfl ?_
      obtain ⟨r25, hc24, hf⟩ := pk_obd hf
      refine s_callV X (ci := 10) (k_X10_of G hc24) rfl h1 wd1761 wd1763 wd79 wd1764 wd138 cd_X10_of ⟨Nat.le_of_ble_eq_true rfl, Nat.le_of_ble_eq_true rfl⟩ (Nat.le_of_ble_eq_true rfl) dX10_arbiter_78 ?_
      cases hf
      exact s_iret X hr hlk dX10_arbiter_81
    have hf := hs22.2 c23
    refine s_swOut X (tgt := 82) dX10_arbiter_11 (by have := sw_ne (v := (0 : Int32)) (z := 0) c7 (by decide); have := sw_ne (v := (1 : Int32)) (z := 1) c11 (by decide); have := sw_ne (v := (2 : Int32)) (z := 2) c19 (by decide); have := sw_ne (v := (3 : Int32)) (z := 3) c23 (by decide); omega) rfl ?_
    refine s_iconst X (v := (-1 : Int32)) dX10_arbiter_82 rfl ?_
    cases hf
    exact s_iret X hr hlk dX10_arbiter_83
  · have hf := hs4.1 c5
    refine s_iconst X (v := (-1 : Int32)) dX10_arbiter_8 rfl ?_
    cases hf
    exact s_iret X hr hlk dX10_arbiter_9
theorem dX4_countAheadOf_0 : decode cX4_countAheadOf 0 = .ok (.iconst 0, 1) := dk_3 (by decide +kernel)
theorem dX4_countAheadOf_1 : decode cX4_countAheadOf 1 = .ok (.istore_n 2, 1) := dk_61 (by decide +kernel)
theorem dX4_countAheadOf_2 : decode cX4_countAheadOf 2 = .ok (.iconst 0, 1) := dk_3 (by decide +kernel)
theorem dX4_countAheadOf_3 : decode cX4_countAheadOf 3 = .ok (.istore_n 3, 1) := dk_62 (by decide +kernel)
theorem dX4_countAheadOf_4 : decode cX4_countAheadOf 4 = .ok (.iload_n 3, 1) := dk_29 (by decide +kernel)
theorem dX4_countAheadOf_5 : decode cX4_countAheadOf 5 = .ok (.bipush 16, 2) := dk_16 (x := 16) (by decide +kernel) rfl
theorem dX4_countAheadOf_7 : decode cX4_countAheadOf 7 = .ok (.if_icmp .ge 43, 3) := dk_162 (x := 0) (y := 43) (by decide +kernel) rfl
theorem dX4_countAheadOf_10 : decode cX4_countAheadOf 10 = .ok (.aload_n 0, 1) := dk_42 (by decide +kernel)
theorem dX4_countAheadOf_11 : decode cX4_countAheadOf 11 = .ok (.getfield 64, 3) := dk_180 (x := 0) (y := 64) (by decide +kernel) rfl
theorem dX4_countAheadOf_14 : decode cX4_countAheadOf 14 = .ok (.iload_n 3, 1) := dk_29 (by decide +kernel)
theorem dX4_countAheadOf_15 : decode cX4_countAheadOf 15 = .ok (.invokestatic 77, 3) := dk_184 (x := 0) (y := 77) (by decide +kernel) rfl
theorem dX4_countAheadOf_18 : decode cX4_countAheadOf 18 = .ok (.ifCond .eq 26, 3) := dk_153 (x := 0) (y := 26) (by decide +kernel) rfl
theorem dX4_countAheadOf_21 : decode cX4_countAheadOf 21 = .ok (.aload_n 0, 1) := dk_42 (by decide +kernel)
theorem dX4_countAheadOf_22 : decode cX4_countAheadOf 22 = .ok (.getfield 18, 3) := dk_180 (x := 0) (y := 18) (by decide +kernel) rfl
theorem dX4_countAheadOf_25 : decode cX4_countAheadOf 25 = .ok (.iload_n 3, 1) := dk_29 (by decide +kernel)
theorem dX4_countAheadOf_26 : decode cX4_countAheadOf 26 = .ok (.iaload, 1) := dk_46 (by decide +kernel)
theorem dX4_countAheadOf_27 : decode cX4_countAheadOf 27 = .ok (.iload_n 3, 1) := dk_29 (by decide +kernel)
theorem dX4_countAheadOf_28 : decode cX4_countAheadOf 28 = .ok (.aload_n 0, 1) := dk_42 (by decide +kernel)
theorem dX4_countAheadOf_29 : decode cX4_countAheadOf 29 = .ok (.getfield 18, 3) := dk_180 (x := 0) (y := 18) (by decide +kernel) rfl
theorem dX4_countAheadOf_32 : decode cX4_countAheadOf 32 = .ok (.iload_n 1, 1) := dk_27 (by decide +kernel)
theorem dX4_countAheadOf_33 : decode cX4_countAheadOf 33 = .ok (.iaload, 1) := dk_46 (by decide +kernel)
theorem dX4_countAheadOf_34 : decode cX4_countAheadOf 34 = .ok (.iload_n 1, 1) := dk_27 (by decide +kernel)
theorem dX4_countAheadOf_35 : decode cX4_countAheadOf 35 = .ok (.invokestatic 81, 3) := dk_184 (x := 0) (y := 81) (by decide +kernel) rfl
theorem dX4_countAheadOf_38 : decode cX4_countAheadOf 38 = .ok (.ifCond .eq 6, 3) := dk_153 (x := 0) (y := 6) (by decide +kernel) rfl
theorem dX4_countAheadOf_41 : decode cX4_countAheadOf 41 = .ok (.iinc 2 1, 3) := dk_132 (x := 2) (y := 1) (by decide +kernel) rfl
theorem dX4_countAheadOf_44 : decode cX4_countAheadOf 44 = .ok (.iinc 3 1, 3) := dk_132 (x := 3) (y := 1) (by decide +kernel) rfl
theorem dX4_countAheadOf_47 : decode cX4_countAheadOf 47 = .ok (.goto (-43), 3) := dk_167 (x := 255) (y := 213) (by decide +kernel) rfl
theorem dX4_countAheadOf_50 : decode cX4_countAheadOf 50 = .ok (.iload_n 2, 1) := dk_28 (by decide +kernel)
theorem dX4_countAheadOf_51 : decode cX4_countAheadOf 51 = .ok (.ireturn, 1) := dk_172 (by decide +kernel)
def f_X4_countAheadOf_4 (M : Mem) : Nat → Nat → Int32 → Int32 → Int32 → Option Int32
  | 0, _, _, _, _ => none
  | n + 1, v0, v1, v2, v3 =>
    if (16 : Int32) ≤ v3 then (
      some v2
      ) else (
      chk (isO M 4 v0) <|
      obd (f_X9_has (mI M v0 9) v3 M) fun r5 =>
      if r5 = 0 then (
        bnd (v3 + (1 : Int32)) fun x8 =>
        f_X4_countAheadOf_4 M n v0 v1 v2 x8
        ) else (
        bnd (mR M v0 10) fun o10 =>
        chk (isO M 100 o10) <|
        chk (inB v3 (mLn M o10)) <|
        bnd (mR M v0 10) fun o14 =>
        chk (isO M 100 o14) <|
        chk (inB v1 (mLn M o14)) <|
        obd (f_X9_isAhead (mI M o10 (v3).toNatClampNeg) v3 (mI M o14 (v1).toNatClampNeg) v1 M) fun r19 =>
        if r19 = 0 then (
          bnd (v3 + (1 : Int32)) fun x22 =>
          f_X4_countAheadOf_4 M n v0 v1 v2 x22
          ) else (
          bnd (v2 + (1 : Int32)) fun x24 =>
          bnd (v3 + (1 : Int32)) fun x26 =>
          f_X4_countAheadOf_4 M n v0 v1 x24 x26
          )
        )
      )
def f_X4_countAheadOf (n : Nat) (o : Nat) (a1 : Int32) (M : Mem) : Option Int32 :=
  f_X4_countAheadOf_4 M n o a1 (0 : Int32) (0 : Int32)
theorem cd_X4_countAheadOf : (yX4_countAheadOf.cls ≠ "java/lang/invoke/MethodHandle" ∧ yX4_countAheadOf.cls ≠ "java/lang/invoke/VarHandle") ∧ (parseMethodDescriptor yX4_countAheadOf.desc).map (fun d => d.parameters.length) = some 1 := ⟨⟨by decide +kernel, by decide +kernel⟩, by decide +kernel⟩
section
variable {p : Program} {l : Launch} {e : Env} {R : Room} {s : State} {m : MethodId} {args : Array Value} {below : List Frame} {meth : Method} {c : Code} {G : Gam} {M0 : Mem}
theorem l_X4_countAheadOf_4 {M : Mem} {rv : Int32} (X : Cx p R s m args c G M0 cX4_countAheadOf yX4_countAheadOf.cls 4 1 23) (hr : meth.sig.returnType = (some .int)) (hlk : meth.locks = false) (hnm : meth.name = "countAheadOf") : ∀ {n : Nat} (v0 : Nat) (v1 : Int32) (v2 : Int32) (v3 : Int32), f_X4_countAheadOf_4 M n v0 v1 v2 v3 = some rv → Sg p l e R s m args below meth c (Qm below G args s (some (.int rv)) M0 M) G M0 4 4 [(0, .ref (gB G + v0)), (1, .int v1), (2, .int v2), (3, .int v3)] [] M := by
  intro n
  induction n with
  | zero => intro v0 v1 v2 v3 hf; exact (pk_none hf).elim
  | succ n ih =>
    intro v0 v1 v2 v3 hf
    rw [f_X4_countAheadOf_4] at hf
    refine s_iload_n X 3 dX4_countAheadOf_4 rfl rfl ?_
    refine s_bipush X (v := (16 : Int32)) dX4_countAheadOf_5 rfl ?_
    have hs1 := pk_ite hf
    clear hf
    refine s_icmp_ge X (tgt := 50) dX4_countAheadOf_7 rfl (fun c2 => ?_) (fun c2 => ?_)
    · have hf := hs1.1 c2
      refine s_iload_n X 2 dX4_countAheadOf_50 rfl rfl ?_
      cases hf
      exact s_iret X hr hlk dX4_countAheadOf_51
    · have hf := hs1.2 c2
      refine s_aload_n X 0 dX4_countAheadOf_10 rfl rfl ?_
      obtain ⟨h3, hf⟩ := pk_chk hf
      refine s_getI X (ci := 4) (k := 9) rfl (Nat.le_of_ble_eq_true rfl) h3 wd361 (fun _ _ _ => rfl) dX4_countAheadOf_11 ?_
      refine s_iload_n X 3 dX4_countAheadOf_14 rfl rfl ?_
      obtain ⟨r5, hc4, hf⟩ := pk_obd hf
      refine s_callSN X (k_X9_has G hc4) (host := "QuorumGate") ns_9 wd712 wd713 wd126 cd_X9_has ⟨Nat.le_of_ble_eq_true rfl, Nat.le_of_ble_eq_true rfl⟩ (Nat.le_of_ble_eq_true rfl) dX4_countAheadOf_15 ?_
      have hs6 := pk_ite hf
      clear hf
      refine s_if_eq X (tgt := 44) dX4_countAheadOf_18 rfl (fun c7 => ?_) (fun c7 => ?_)
      · have hf := hs6.1 c7
        obtain ⟨x8, e9, hf⟩ := pk_bnd hf
        refine s_iinc X (vs' := [(0, .ref (gB G + v0)), (1, .int v1), (2, .int v2), (3, .int x8)]) 3 dX4_countAheadOf_44 rfl (v := x8) e9.symm (Nat.le_of_ble_eq_true rfl) [1, 2, 3, 0] rfl ?_
        refine s_goto X (tgt := 4) dX4_countAheadOf_47 rfl ?_
        exact ih _ _ _ _ hf
      · have hf := hs6.2 c7
        refine s_aload_n X 0 dX4_countAheadOf_21 rfl rfl ?_
        obtain ⟨o10, e11, hf⟩ := pk_bnd hf
        obtain ⟨h12, hf⟩ := pk_chk hf
        refine s_getR X (ci := 4) (k := 10) rfl (Nat.le_of_ble_eq_true rfl) h3 wd365 (fun _ _ _ => rfl) (e11 ▸ h12) dX4_countAheadOf_22 (e11 ▸ ?_)
        refine s_iload_n X 3 dX4_countAheadOf_25 rfl rfl ?_
        obtain ⟨h13, hf⟩ := pk_chk hf
        refine s_iald X h12 h13 dX4_countAheadOf_26 ?_
        refine s_iload_n X 3 dX4_countAheadOf_27 rfl rfl ?_
        refine s_aload_n X 0 dX4_countAheadOf_28 rfl rfl ?_
        obtain ⟨o14, e15, hf⟩ := pk_bnd hf
        obtain ⟨h16, hf⟩ := pk_chk hf
        refine s_getR X (ci := 4) (k := 10) rfl (Nat.le_of_ble_eq_true rfl) h3 wd365 (fun _ _ _ => rfl) (e15 ▸ h16) dX4_countAheadOf_29 (e15 ▸ ?_)
        refine s_iload_n X 1 dX4_countAheadOf_32 rfl rfl ?_
        obtain ⟨h17, hf⟩ := pk_chk hf
        refine s_iald X h16 h17 dX4_countAheadOf_33 ?_
        refine s_iload_n X 1 dX4_countAheadOf_34 rfl rfl ?_
        obtain ⟨r19, hc18, hf⟩ := pk_obd hf
        refine s_callSN X (k_X9_isAhead G hc18) (host := "QuorumGate") ns_10 wd1025 wd1026 wd126 cd_X9_isAhead ⟨Nat.le_of_ble_eq_true rfl, Nat.le_of_ble_eq_true rfl⟩ (Nat.le_of_ble_eq_true rfl) dX4_countAheadOf_35 ?_
        have hs20 := pk_ite hf
        clear hf
        refine s_if_eq X (tgt := 44) dX4_countAheadOf_38 rfl (fun c21 => ?_) (fun c21 => ?_)
        · have hf := hs20.1 c21
          obtain ⟨x22, e23, hf⟩ := pk_bnd hf
          refine s_iinc X (vs' := [(0, .ref (gB G + v0)), (1, .int v1), (2, .int v2), (3, .int x22)]) 3 dX4_countAheadOf_44 rfl (v := x22) e23.symm (Nat.le_of_ble_eq_true rfl) [1, 2, 3, 0] rfl ?_
          refine s_goto X (tgt := 4) dX4_countAheadOf_47 rfl ?_
          exact ih _ _ _ _ hf
        · have hf := hs20.2 c21
          obtain ⟨x24, e25, hf⟩ := pk_bnd hf
          refine s_iinc X (vs' := [(0, .ref (gB G + v0)), (1, .int v1), (2, .int x24), (3, .int v3)]) 2 dX4_countAheadOf_41 rfl (v := x24) e25.symm (Nat.le_of_ble_eq_true rfl) [1, 2, 0, 3] rfl ?_
          obtain ⟨x26, e27, hf⟩ := pk_bnd hf
          refine s_iinc X (vs' := [(0, .ref (gB G + v0)), (1, .int v1), (2, .int x24), (3, .int x26)]) 3 dX4_countAheadOf_44 rfl (v := x26) e27.symm (Nat.le_of_ble_eq_true rfl) [1, 2, 3, 0] rfl ?_
          refine s_goto X (tgt := 4) dX4_countAheadOf_47 rfl ?_
          exact ih _ _ _ _ hf
end
theorem k_X4_countAheadOf (G : Gam) {n : Nat} {o : Nat} {a1 : Int32} {M : Mem} {rv : Int32} (hf : f_X4_countAheadOf n o a1 M = some rv) : Kt yX4_countAheadOf cX4_countAheadOf 4 (some .int) 1 23 G [.ref (gB G + o), .int a1] M M (some (.int rv)) := by
  refine Kt.of (by decide) (Nat.le_of_ble_eq_true rfl) ?_
  intro p l e R s m args below meth c X hr hlk hnm
  refine s_drop [0, 1] (vs' := [(0, .ref (gB G + o)), (1, .int a1)]) rfl ?_
  rw [f_X4_countAheadOf] at hf
  refine s_iconst X (v := (0 : Int32)) dX4_countAheadOf_0 rfl ?_
  refine s_istore_n X (vs' := [(0, .ref (gB G + o)), (1, .int a1), (2, .int (0 : Int32))]) dX4_countAheadOf_1 rfl (Nat.le_of_ble_eq_true rfl) [1, 2, 0] rfl ?_
  refine s_iconst X (v := (0 : Int32)) dX4_countAheadOf_2 rfl ?_
  refine s_istore_n X (vs' := [(0, .ref (gB G + o)), (1, .int a1), (2, .int (0 : Int32)), (3, .int (0 : Int32))]) dX4_countAheadOf_3 rfl (Nat.le_of_ble_eq_true rfl) [1, 2, 3, 0] rfl ?_
  exact l_X4_countAheadOf_4 X hr hlk hnm _ _ _ _ hf
theorem dX4_waiterAt_0 : decode cX4_waiterAt 0 = .ok (.iconst 0, 1) := dk_3 (by decide +kernel)
theorem dX4_waiterAt_1 : decode cX4_waiterAt 1 = .ok (.istore_n 2, 1) := dk_61 (by decide +kernel)
theorem dX4_waiterAt_2 : decode cX4_waiterAt 2 = .ok (.iload_n 2, 1) := dk_28 (by decide +kernel)
theorem dX4_waiterAt_3 : decode cX4_waiterAt 3 = .ok (.bipush 16, 2) := dk_16 (x := 16) (by decide +kernel) rfl
theorem dX4_waiterAt_5 : decode cX4_waiterAt 5 = .ok (.if_icmp .ge 31, 3) := dk_162 (x := 0) (y := 31) (by decide +kernel) rfl
theorem dX4_waiterAt_8 : decode cX4_waiterAt 8 = .ok (.aload_n 0, 1) := dk_42 (by decide +kernel)
theorem dX4_waiterAt_9 : decode cX4_waiterAt 9 = .ok (.getfield 64, 3) := dk_180 (x := 0) (y := 64) (by decide +kernel) rfl
theorem dX4_waiterAt_12 : decode cX4_waiterAt 12 = .ok (.iload_n 2, 1) := dk_28 (by decide +kernel)
theorem dX4_waiterAt_13 : decode cX4_waiterAt 13 = .ok (.invokestatic 77, 3) := dk_184 (x := 0) (y := 77) (by decide +kernel) rfl
theorem dX4_waiterAt_16 : decode cX4_waiterAt 16 = .ok (.ifCond .eq 14, 3) := dk_153 (x := 0) (y := 14) (by decide +kernel) rfl
theorem dX4_waiterAt_19 : decode cX4_waiterAt 19 = .ok (.aload_n 0, 1) := dk_42 (by decide +kernel)
theorem dX4_waiterAt_20 : decode cX4_waiterAt 20 = .ok (.iload_n 2, 1) := dk_28 (by decide +kernel)
theorem dX4_waiterAt_21 : decode cX4_waiterAt 21 = .ok (.invokevirtual 85, 3) := dk_182 (x := 0) (y := 85) (by decide +kernel) rfl
theorem dX4_waiterAt_24 : decode cX4_waiterAt 24 = .ok (.iload_n 1, 1) := dk_27 (by decide +kernel)
theorem dX4_waiterAt_25 : decode cX4_waiterAt 25 = .ok (.if_icmp .ne 5, 3) := dk_160 (x := 0) (y := 5) (by decide +kernel) rfl
theorem dX4_waiterAt_28 : decode cX4_waiterAt 28 = .ok (.iload_n 2, 1) := dk_28 (by decide +kernel)
theorem dX4_waiterAt_29 : decode cX4_waiterAt 29 = .ok (.ireturn, 1) := dk_172 (by decide +kernel)
theorem dX4_waiterAt_30 : decode cX4_waiterAt 30 = .ok (.iinc 2 1, 3) := dk_132 (x := 2) (y := 1) (by decide +kernel) rfl
theorem dX4_waiterAt_33 : decode cX4_waiterAt 33 = .ok (.goto (-31), 3) := dk_167 (x := 255) (y := 225) (by decide +kernel) rfl
theorem dX4_waiterAt_36 : decode cX4_waiterAt 36 = .ok (.iconst (-1), 1) := dk_2 (by decide +kernel)
theorem dX4_waiterAt_37 : decode cX4_waiterAt 37 = .ok (.ireturn, 1) := dk_172 (by decide +kernel)
def f_X4_waiterAt_2 (M : Mem) : Nat → Nat → Int32 → Int32 → Option Int32
  | 0, _, _, _ => none
  | n + 1, v0, v1, v2 =>
    if (16 : Int32) ≤ v2 then (
      some (-1 : Int32)
      ) else (
      chk (isO M 4 v0) <|
      obd (f_X9_has (mI M v0 9) v2 M) fun r5 =>
      if r5 = 0 then (
        bnd (v2 + (1 : Int32)) fun x8 =>
        f_X4_waiterAt_2 M n v0 v1 x8
        ) else (
        obd (f_X4_countAheadOf n v0 v2 M) fun r11 =>
        if r11 = v1 then (
          some v2
          ) else (
          bnd (v2 + (1 : Int32)) fun x14 =>
          f_X4_waiterAt_2 M n v0 v1 x14
          )
        )
      )
def f_X4_waiterAt (n : Nat) (o : Nat) (a1 : Int32) (M : Mem) : Option Int32 :=
  f_X4_waiterAt_2 M n o a1 (0 : Int32)
theorem cd_X4_waiterAt : (yX4_waiterAt.cls ≠ "java/lang/invoke/MethodHandle" ∧ yX4_waiterAt.cls ≠ "java/lang/invoke/VarHandle") ∧ (parseMethodDescriptor yX4_waiterAt.desc).map (fun d => d.parameters.length) = some 1 := ⟨⟨by decide +kernel, by decide +kernel⟩, by decide +kernel⟩
section
variable {p : Program} {l : Launch} {e : Env} {R : Room} {s : State} {m : MethodId} {args : Array Value} {below : List Frame} {meth : Method} {c : Code} {G : Gam} {M0 : Mem}
theorem l_X4_waiterAt_2 {M : Mem} {rv : Int32} (X : Cx p R s m args c G M0 cX4_waiterAt yX4_waiterAt.cls 3 2 46) (hr : meth.sig.returnType = (some .int)) (hlk : meth.locks = false) (hnm : meth.name = "waiterAt") : ∀ {n : Nat} (v0 : Nat) (v1 : Int32) (v2 : Int32), f_X4_waiterAt_2 M n v0 v1 v2 = some rv → Sg p l e R s m args below meth c (Qm below G args s (some (.int rv)) M0 M) G M0 3 2 [(0, .ref (gB G + v0)), (1, .int v1), (2, .int v2)] [] M := by
  intro n
  induction n with
  | zero => intro v0 v1 v2 hf; exact (pk_none hf).elim
  | succ n ih =>
    intro v0 v1 v2 hf
    rw [f_X4_waiterAt_2] at hf
    refine s_iload_n X 2 dX4_waiterAt_2 rfl rfl ?_
    refine s_bipush X (v := (16 : Int32)) dX4_waiterAt_3 rfl ?_
    have hs1 := pk_ite hf
    clear hf
    refine s_icmp_ge X (tgt := 36) dX4_waiterAt_5 rfl (fun c2 => ?_) (fun c2 => ?_)
    · have hf := hs1.1 c2
      refine s_iconst X (v := (-1 : Int32)) dX4_waiterAt_36 rfl ?_
      cases hf
      exact s_iret X hr hlk dX4_waiterAt_37
    · have hf := hs1.2 c2
      refine s_aload_n X 0 dX4_waiterAt_8 rfl rfl ?_
      obtain ⟨h3, hf⟩ := pk_chk hf
      refine s_getI X (ci := 4) (k := 9) rfl (Nat.le_of_ble_eq_true rfl) h3 wd361 (fun _ _ _ => rfl) dX4_waiterAt_9 ?_
      refine s_iload_n X 2 dX4_waiterAt_12 rfl rfl ?_
      obtain ⟨r5, hc4, hf⟩ := pk_obd hf
      refine s_callSN X (k_X9_has G hc4) (host := "QuorumGate") ns_9 wd712 wd713 wd126 cd_X9_has ⟨Nat.le_of_ble_eq_true rfl, Nat.le_of_ble_eq_true rfl⟩ (Nat.le_of_ble_eq_true rfl) dX4_waiterAt_13 ?_
      have hs6 := pk_ite hf
      clear hf
      refine s_if_eq X (tgt := 30) dX4_waiterAt_16 rfl (fun c7 => ?_) (fun c7 => ?_)
      · have hf := hs6.1 c7
        obtain ⟨x8, e9, hf⟩ := pk_bnd hf
        refine s_iinc X (vs' := [(0, .ref (gB G + v0)), (1, .int v1), (2, .int x8)]) 2 dX4_waiterAt_30 rfl (v := x8) e9.symm (Nat.le_of_ble_eq_true rfl) [1, 2, 0] rfl ?_
        refine s_goto X (tgt := 2) dX4_waiterAt_33 rfl ?_
        exact ih _ _ _ hf
      · have hf := hs6.2 c7
        refine s_aload_n X 0 dX4_waiterAt_19 rfl rfl ?_
        refine s_iload_n X 2 dX4_waiterAt_20 rfl rfl ?_
        obtain ⟨r11, hc10, hf⟩ := pk_obd hf
        refine s_callV X (ci := 4) (k_X4_countAheadOf G hc10) rfl h3 wd1142 wd1144 wd28 wd1145 wd133 cd_X4_countAheadOf ⟨Nat.le_of_ble_eq_true rfl, Nat.le_of_ble_eq_true rfl⟩ (Nat.le_of_ble_eq_true rfl) dX4_waiterAt_21 ?_
        refine s_iload_n X 1 dX4_waiterAt_24 rfl rfl ?_
        have hs12 := pk_ite hf
        clear hf
        refine s_icmp_ne X (tgt := 30) dX4_waiterAt_25 rfl (fun c13 => ?_) (fun c13 => ?_)
        · have hf := hs12.2 c13
          obtain ⟨x14, e15, hf⟩ := pk_bnd hf
          refine s_iinc X (vs' := [(0, .ref (gB G + v0)), (1, .int v1), (2, .int x14)]) 2 dX4_waiterAt_30 rfl (v := x14) e15.symm (Nat.le_of_ble_eq_true rfl) [1, 2, 0] rfl ?_
          refine s_goto X (tgt := 2) dX4_waiterAt_33 rfl ?_
          exact ih _ _ _ hf
        · have hf := hs12.1 c13
          refine s_iload_n X 2 dX4_waiterAt_28 rfl rfl ?_
          cases hf
          exact s_iret X hr hlk dX4_waiterAt_29
end
theorem k_X4_waiterAt (G : Gam) {n : Nat} {o : Nat} {a1 : Int32} {M : Mem} {rv : Int32} (hf : f_X4_waiterAt n o a1 M = some rv) : Kt yX4_waiterAt cX4_waiterAt 3 (some .int) 2 46 G [.ref (gB G + o), .int a1] M M (some (.int rv)) := by
  refine Kt.of (by decide) (Nat.le_of_ble_eq_true rfl) ?_
  intro p l e R s m args below meth c X hr hlk hnm
  refine s_drop [0, 1] (vs' := [(0, .ref (gB G + o)), (1, .int a1)]) rfl ?_
  rw [f_X4_waiterAt] at hf
  refine s_iconst X (v := (0 : Int32)) dX4_waiterAt_0 rfl ?_
  refine s_istore_n X (vs' := [(0, .ref (gB G + o)), (1, .int a1), (2, .int (0 : Int32))]) dX4_waiterAt_1 rfl (Nat.le_of_ble_eq_true rfl) [1, 2, 0] rfl ?_
  exact l_X4_waiterAt_2 X hr hlk hnm _ _ _ hf
theorem dX9_waiting_0 : decode cX9_waiting 0 = .ok (.aload_n 0, 1) := dk_42 (by decide +kernel)
theorem dX9_waiting_1 : decode cX9_waiting 1 = .ok (.getfield 10, 3) := dk_180 (x := 0) (y := 10) (by decide +kernel) rfl
theorem dX9_waiting_4 : decode cX9_waiting 4 = .ok (.iload_n 1, 1) := dk_27 (by decide +kernel)
theorem dX9_waiting_5 : decode cX9_waiting 5 = .ok (.invokevirtual 71, 3) := dk_182 (x := 0) (y := 71) (by decide +kernel) rfl
theorem dX9_waiting_8 : decode cX9_waiting 8 = .ok (.ifCond .eq 12, 3) := dk_153 (x := 0) (y := 12) (by decide +kernel) rfl
theorem dX9_waiting_11 : decode cX9_waiting 11 = .ok (.iload_n 3, 1) := dk_29 (by decide +kernel)
theorem dX9_waiting_12 : decode cX9_waiting 12 = .ok (.ifCond .lt 8, 3) := dk_155 (x := 0) (y := 8) (by decide +kernel) rfl
theorem dX9_waiting_15 : decode cX9_waiting 15 = .ok (.iload_n 3, 1) := dk_29 (by decide +kernel)
theorem dX9_waiting_16 : decode cX9_waiting 16 = .ok (.iconst 1, 1) := dk_4 (by decide +kernel)
theorem dX9_waiting_17 : decode cX9_waiting 17 = .ok (.if_icmp .le 5, 3) := dk_164 (x := 0) (y := 5) (by decide +kernel) rfl
theorem dX9_waiting_20 : decode cX9_waiting 20 = .ok (.iconst (-1), 1) := dk_2 (by decide +kernel)
theorem dX9_waiting_21 : decode cX9_waiting 21 = .ok (.ireturn, 1) := dk_172 (by decide +kernel)
theorem dX9_waiting_22 : decode cX9_waiting 22 = .ok (.aload_n 0, 1) := dk_42 (by decide +kernel)
theorem dX9_waiting_23 : decode cX9_waiting 23 = .ok (.getfield 28, 3) := dk_180 (x := 0) (y := 28) (by decide +kernel) rfl
theorem dX9_waiting_26 : decode cX9_waiting 26 = .ok (.getfield 99, 3) := dk_180 (x := 0) (y := 99) (by decide +kernel) rfl
theorem dX9_waiting_29 : decode cX9_waiting 29 = .ok (.iload_n 1, 1) := dk_27 (by decide +kernel)
theorem dX9_waiting_30 : decode cX9_waiting 30 = .ok (.aaload, 1) := dk_50 (by decide +kernel)
theorem dX9_waiting_31 : decode cX9_waiting 31 = .ok (.astore 4, 2) := dk_58 (x := 4) (by decide +kernel)
theorem dX9_waiting_33 : decode cX9_waiting 33 = .ok (.aload 4, 2) := dk_25 (x := 4) (by decide +kernel)
theorem dX9_waiting_35 : decode cX9_waiting 35 = .ok (.iload_n 2, 1) := dk_28 (by decide +kernel)
theorem dX9_waiting_36 : decode cX9_waiting 36 = .ok (.invokevirtual 237, 3) := dk_182 (x := 0) (y := 237) (by decide +kernel) rfl
theorem dX9_waiting_39 : decode cX9_waiting 39 = .ok (.istore 5, 2) := dk_54 (x := 5) (by decide +kernel)
theorem dX9_waiting_41 : decode cX9_waiting 41 = .ok (.iload 5, 2) := dk_21 (x := 5) (by decide +kernel)
theorem dX9_waiting_43 : decode cX9_waiting 43 = .ok (.iconst (-1), 1) := dk_2 (by decide +kernel)
theorem dX9_waiting_44 : decode cX9_waiting 44 = .ok (.if_icmp .ne 5, 3) := dk_160 (x := 0) (y := 5) (by decide +kernel) rfl
theorem dX9_waiting_47 : decode cX9_waiting 47 = .ok (.iconst (-1), 1) := dk_2 (by decide +kernel)
theorem dX9_waiting_48 : decode cX9_waiting 48 = .ok (.ireturn, 1) := dk_172 (by decide +kernel)
theorem dX9_waiting_49 : decode cX9_waiting 49 = .ok (.iload_n 3, 1) := dk_29 (by decide +kernel)
theorem dX9_waiting_50 : decode cX9_waiting 50 = .ok (.ifCond .ne 8, 3) := dk_154 (x := 0) (y := 8) (by decide +kernel) rfl
theorem dX9_waiting_53 : decode cX9_waiting 53 = .ok (.iload 5, 2) := dk_21 (x := 5) (by decide +kernel)
theorem dX9_waiting_55 : decode cX9_waiting 55 = .ok (.goto 11, 3) := dk_167 (x := 0) (y := 11) (by decide +kernel) rfl
theorem dX9_waiting_58 : decode cX9_waiting 58 = .ok (.aload 4, 2) := dk_25 (x := 4) (by decide +kernel)
theorem dX9_waiting_60 : decode cX9_waiting 60 = .ok (.getfield 240, 3) := dk_180 (x := 0) (y := 240) (by decide +kernel) rfl
theorem dX9_waiting_63 : decode cX9_waiting 63 = .ok (.iload 5, 2) := dk_21 (x := 5) (by decide +kernel)
theorem dX9_waiting_65 : decode cX9_waiting 65 = .ok (.iaload, 1) := dk_46 (by decide +kernel)
theorem dX9_waiting_66 : decode cX9_waiting 66 = .ok (.ireturn, 1) := dk_172 (by decide +kernel)
def f_X9_waiting (n : Nat) (o : Nat) (a1 : Int32) (a2 : Int32) (a3 : Int32) (M : Mem) : Option Int32 :=
  chk (isO M 9 o) <|
  bnd (mR M o 0) fun o2 =>
  chk (isO M 7 o2) <|
  obd (f_X7_isNode o2 a1 M) fun r6 =>
  if r6 = 0 then (
    some (-1 : Int32)
    ) else (
    if a3 < 0 then (
      some (-1 : Int32)
      ) else (
      if a3 ≤ (1 : Int32) then (
        bnd (mR M o 2) fun o13 =>
        chk (isO M 2 o13) <|
        bnd (mR M o13 2) fun o16 =>
        chk (isO M 102 o16) <|
        chk (inB a1 (mLn M o16)) <|
        bnd (mR M o16 (a1).toNatClampNeg) fun o20 =>
        chk (isO M 4 o20) <|
        obd (f_X4_waiterAt n o20 a2 M) fun r24 =>
        if r24 = (-1 : Int32) then (
          some (-1 : Int32)
          ) else (
          if a3 = 0 then (
            some r24
            ) else (
            bnd (mR M o20 10) fun o29 =>
            chk (isO M 100 o29) <|
            chk (inB r24 (mLn M o29)) <|
            some (mI M o29 (r24).toNatClampNeg)
            )
          )
        ) else (
        some (-1 : Int32)
        )
      )
    )
theorem cd_X9_waiting : (yX9_waiting.cls ≠ "java/lang/invoke/MethodHandle" ∧ yX9_waiting.cls ≠ "java/lang/invoke/VarHandle") ∧ (parseMethodDescriptor yX9_waiting.desc).map (fun d => d.parameters.length) = some 3 := ⟨⟨by decide +kernel, by decide +kernel⟩, by decide +kernel⟩
theorem k_X9_waiting (G : Gam) {n : Nat} {o : Nat} {a1 : Int32} {a2 : Int32} {a3 : Int32} {M : Mem} {rv : Int32} (hf : f_X9_waiting n o a1 a2 a3 M = some rv) : Kt yX9_waiting cX9_waiting 6 (some .int) 3 68 G [.ref (gB G + o), .int a1, .int a2, .int a3] M M (some (.int rv)) := by
  refine Kt.of (by decide) (Nat.le_of_ble_eq_true rfl) ?_
  intro p l e R s m args below meth c X hr hlk hnm
  refine s_drop [0, 1, 2, 3] (vs' := [(0, .ref (gB G + o)), (1, .int a1), (2, .int a2), (3, .int a3)]) rfl ?_
  rw [f_X9_waiting] at hf
  refine s_aload_n X 0 dX9_waiting_0 rfl rfl ?_
  obtain ⟨h1, hf⟩ := pk_chk hf
  obtain ⟨o2, e3, hf⟩ := pk_bnd hf
  obtain ⟨h4, hf⟩ := pk_chk hf
  refine s_getR X (ci := 9) (k := 0) rfl (Nat.le_of_ble_eq_true rfl) h1 wd627 (fun _ _ _ => rfl) (e3 ▸ h4) dX9_waiting_1 (e3 ▸ ?_)
  refine s_iload_n X 1 dX9_waiting_4 rfl rfl ?_
  obtain ⟨r6, hc5, hf⟩ := pk_obd hf
  refine s_callV X (ci := 7) (k_X7_isNode G hc5) rfl h4 wd699 wd700 wd701 wd702 wd127 cd_X7_isNode ⟨Nat.le_of_ble_eq_true rfl, Nat.le_of_ble_eq_true rfl⟩ (Nat.le_of_ble_eq_true rfl) dX9_waiting_5 ?_
  have hs7 := pk_ite hf
  clear hf
  refine s_if_eq X (tgt := 20) dX9_waiting_8 rfl (fun c8 => ?_) (fun c8 => ?_)
  · have hf := hs7.1 c8
    refine s_iconst X (v := (-1 : Int32)) dX9_waiting_20 rfl ?_
    cases hf
    exact s_iret X hr hlk dX9_waiting_21
  · have hf := hs7.2 c8
    refine s_iload_n X 3 dX9_waiting_11 rfl rfl ?_
    have hs9 := pk_ite hf
    clear hf
    refine s_if_lt X (tgt := 20) dX9_waiting_12 rfl (fun c10 => ?_) (fun c10 => ?_)
    · have hf := hs9.1 c10
      refine s_iconst X (v := (-1 : Int32)) dX9_waiting_20 rfl ?_
      cases hf
      exact s_iret X hr hlk dX9_waiting_21
    · have hf := hs9.2 c10
      refine s_iload_n X 3 dX9_waiting_15 rfl rfl ?_
      refine s_iconst X (v := (1 : Int32)) dX9_waiting_16 rfl ?_
      have hs11 := pk_ite hf
      clear hf
      refine s_icmp_le X (tgt := 22) dX9_waiting_17 rfl (fun c12 => ?_) (fun c12 => ?_)
      · have hf := hs11.1 c12
        refine s_aload_n X 0 dX9_waiting_22 rfl rfl ?_
        obtain ⟨o13, e14, hf⟩ := pk_bnd hf
        obtain ⟨h15, hf⟩ := pk_chk hf
        refine s_getR X (ci := 9) (k := 2) rfl (Nat.le_of_ble_eq_true rfl) h1 wd629 (fun _ _ _ => rfl) (e14 ▸ h15) dX9_waiting_23 (e14 ▸ ?_)
        obtain ⟨o16, e17, hf⟩ := pk_bnd hf
        obtain ⟨h18, hf⟩ := pk_chk hf
        refine s_getR X (ci := 2) (k := 2) rfl (Nat.le_of_ble_eq_true rfl) h15 wd426 (fun _ _ _ => rfl) (e17 ▸ h18) dX9_waiting_26 (e17 ▸ ?_)
        refine s_iload_n X 1 dX9_waiting_29 rfl rfl ?_
        obtain ⟨h19, hf⟩ := pk_chk hf
        obtain ⟨o20, e21, hf⟩ := pk_bnd hf
        obtain ⟨h22, hf⟩ := pk_chk hf
        refine s_aald X h18 h19 (e21 ▸ h22) dX9_waiting_30 (e21 ▸ ?_)
        refine s_astore X (vs' := [(0, .ref (gB G + o)), (1, .int a1), (2, .int a2), (3, .int a3), (4, .ref (gB G + o20))]) dX9_waiting_31 (Nat.le_of_ble_eq_true rfl) [1, 2, 3, 4, 0] rfl ?_
        refine s_aload X 4 dX9_waiting_33 rfl ?_
        refine s_iload_n X 2 dX9_waiting_35 rfl rfl ?_
        obtain ⟨r24, hc23, hf⟩ := pk_obd hf
        refine s_callV X (ci := 4) (k_X4_waiterAt G hc23) rfl h22 wd1138 wd1139 wd1140 wd1141 wd133 cd_X4_waiterAt ⟨Nat.le_of_ble_eq_true rfl, Nat.le_of_ble_eq_true rfl⟩ (Nat.le_of_ble_eq_true rfl) dX9_waiting_36 ?_
        refine s_istore X (vs' := [(0, .ref (gB G + o)), (1, .int a1), (2, .int a2), (3, .int a3), (4, .ref (gB G + o20)), (5, .int r24)]) dX9_waiting_39 (Nat.le_of_ble_eq_true rfl) [1, 2, 3, 4, 5, 0] rfl ?_
        refine s_iload X 5 dX9_waiting_41 rfl ?_
        refine s_iconst X (v := (-1 : Int32)) dX9_waiting_43 rfl ?_
        have hs25 := pk_ite hf
        clear hf
        refine s_icmp_ne X (tgt := 49) dX9_waiting_44 rfl (fun c26 => ?_) (fun c26 => ?_)
        · have hf := hs25.2 c26
          refine s_iload_n X 3 dX9_waiting_49 rfl rfl ?_
          have hs27 := pk_ite hf
          clear hf
          refine s_if_ne X (tgt := 58) dX9_waiting_50 rfl (fun c28 => ?_) (fun c28 => ?_)
          · have hf := hs27.2 c28
            refine s_aload X 4 dX9_waiting_58 rfl ?_
            obtain ⟨o29, e30, hf⟩ := pk_bnd hf
            obtain ⟨h31, hf⟩ := pk_chk hf
            refine s_getR X (ci := 4) (k := 10) rfl (Nat.le_of_ble_eq_true rfl) h22 wd368 (fun _ _ _ => rfl) (e30 ▸ h31) dX9_waiting_60 (e30 ▸ ?_)
            refine s_iload X 5 dX9_waiting_63 rfl ?_
            obtain ⟨h32, hf⟩ := pk_chk hf
            refine s_iald X h31 h32 dX9_waiting_65 ?_
            cases hf
            exact s_iret X hr hlk dX9_waiting_66
          · have hf := hs27.1 c28
            refine s_iload X 5 dX9_waiting_53 rfl ?_
            refine s_goto X (tgt := 66) dX9_waiting_55 rfl ?_
            cases hf
            exact s_iret X hr hlk dX9_waiting_66
        · have hf := hs25.1 c26
          refine s_iconst X (v := (-1 : Int32)) dX9_waiting_47 rfl ?_
          cases hf
          exact s_iret X hr hlk dX9_waiting_48
      · have hf := hs11.2 c12
        refine s_iconst X (v := (-1 : Int32)) dX9_waiting_20 rfl ?_
        cases hf
        exact s_iret X hr hlk dX9_waiting_21
theorem dX10_waiting_0 : decode cX10_waiting 0 = .ok (.aload_n 0, 1) := dk_42 (by decide +kernel)
theorem dX10_waiting_1 : decode cX10_waiting 1 = .ok (.iload_n 1, 1) := dk_27 (by decide +kernel)
theorem dX10_waiting_2 : decode cX10_waiting 2 = .ok (.invokevirtual 76, 3) := dk_182 (x := 0) (y := 76) (by decide +kernel) rfl
theorem dX10_waiting_5 : decode cX10_waiting 5 = .ok (.ifCond .eq 28, 3) := dk_153 (x := 0) (y := 28) (by decide +kernel) rfl
theorem dX10_waiting_8 : decode cX10_waiting 8 = .ok (.iload_n 2, 1) := dk_28 (by decide +kernel)
theorem dX10_waiting_9 : decode cX10_waiting 9 = .ok (.iconst 0, 1) := dk_3 (by decide +kernel)
theorem dX10_waiting_10 : decode cX10_waiting 10 = .ok (.aload_n 0, 1) := dk_42 (by decide +kernel)
theorem dX10_waiting_11 : decode cX10_waiting 11 = .ok (.iload_n 1, 1) := dk_27 (by decide +kernel)
theorem dX10_waiting_12 : decode cX10_waiting 12 = .ok (.iconst 3, 1) := dk_6 (by decide +kernel)
theorem dX10_waiting_13 : decode cX10_waiting 13 = .ok (.invokevirtual 151, 3) := dk_182 (x := 0) (y := 151) (by decide +kernel) rfl
theorem dX10_waiting_16 : decode cX10_waiting 16 = .ok (.iconst 1, 1) := dk_4 (by decide +kernel)
theorem dX10_waiting_17 : decode cX10_waiting 17 = .ok (.isub, 1) := dk_100 (by decide +kernel)
theorem dX10_waiting_18 : decode cX10_waiting 18 = .ok (.invokestatic 49, 3) := dk_184 (x := 0) (y := 49) (by decide +kernel) rfl
theorem dX10_waiting_21 : decode cX10_waiting 21 = .ok (.ifCond .eq 12, 3) := dk_153 (x := 0) (y := 12) (by decide +kernel) rfl
theorem dX10_waiting_24 : decode cX10_waiting 24 = .ok (.iload_n 3, 1) := dk_29 (by decide +kernel)
theorem dX10_waiting_25 : decode cX10_waiting 25 = .ok (.iconst 0, 1) := dk_3 (by decide +kernel)
theorem dX10_waiting_26 : decode cX10_waiting 26 = .ok (.iconst 1, 1) := dk_4 (by decide +kernel)
theorem dX10_waiting_27 : decode cX10_waiting 27 = .ok (.invokestatic 49, 3) := dk_184 (x := 0) (y := 49) (by decide +kernel) rfl
theorem dX10_waiting_30 : decode cX10_waiting 30 = .ok (.ifCond .ne 5, 3) := dk_154 (x := 0) (y := 5) (by decide +kernel) rfl
theorem dX10_waiting_33 : decode cX10_waiting 33 = .ok (.iconst (-1), 1) := dk_2 (by decide +kernel)
theorem dX10_waiting_34 : decode cX10_waiting 34 = .ok (.ireturn, 1) := dk_172 (by decide +kernel)
theorem dX10_waiting_35 : decode cX10_waiting 35 = .ok (.iload_n 3, 1) := dk_29 (by decide +kernel)
theorem dX10_waiting_36 : decode cX10_waiting 36 = .ok (.ifCond .ne 12, 3) := dk_154 (x := 0) (y := 12) (by decide +kernel) rfl
theorem dX10_waiting_39 : decode cX10_waiting 39 = .ok (.aload_n 0, 1) := dk_42 (by decide +kernel)
theorem dX10_waiting_40 : decode cX10_waiting 40 = .ok (.iload_n 1, 1) := dk_27 (by decide +kernel)
theorem dX10_waiting_41 : decode cX10_waiting 41 = .ok (.iload_n 2, 1) := dk_28 (by decide +kernel)
theorem dX10_waiting_42 : decode cX10_waiting 42 = .ok (.invokevirtual 161, 3) := dk_182 (x := 0) (y := 161) (by decide +kernel) rfl
theorem dX10_waiting_45 : decode cX10_waiting 45 = .ok (.goto 9, 3) := dk_167 (x := 0) (y := 9) (by decide +kernel) rfl
theorem dX10_waiting_48 : decode cX10_waiting 48 = .ok (.aload_n 0, 1) := dk_42 (by decide +kernel)
theorem dX10_waiting_49 : decode cX10_waiting 49 = .ok (.iload_n 1, 1) := dk_27 (by decide +kernel)
theorem dX10_waiting_50 : decode cX10_waiting 50 = .ok (.iload_n 2, 1) := dk_28 (by decide +kernel)
theorem dX10_waiting_51 : decode cX10_waiting 51 = .ok (.invokevirtual 158, 3) := dk_182 (x := 0) (y := 158) (by decide +kernel) rfl
theorem dX10_waiting_54 : decode cX10_waiting 54 = .ok (.ireturn, 1) := dk_172 (by decide +kernel)
def f_X10_waiting (o : Nat) (a1 : Int32) (a2 : Int32) (a3 : Int32) (M : Mem) : Option Int32 :=
  chk (isO M 10 o) <|
  obd (f_X10_isNode o a1 M) fun r3 =>
  if r3 = 0 then (
    some (-1 : Int32)
    ) else (
    obd (f_X10_of o a1 (3 : Int32) M) fun r7 =>
    obd (f_X10_isIn a2 (0 : Int32) (r7 - (1 : Int32)) M) fun r9 =>
    if r9 = 0 then (
      some (-1 : Int32)
      ) else (
      obd (f_X10_isIn a3 (0 : Int32) (1 : Int32) M) fun r13 =>
      if r13 = 0 then (
        some (-1 : Int32)
        ) else (
        if a3 = 0 then (
          obd (f_X10_waitNode o a1 a2 M) fun r21 =>
          some r21
          ) else (
          obd (f_X10_waitStamp o a1 a2 M) fun r19 =>
          some r19
          )
        )
      )
    )
theorem cd_X10_waiting : (yX10_waiting.cls ≠ "java/lang/invoke/MethodHandle" ∧ yX10_waiting.cls ≠ "java/lang/invoke/VarHandle") ∧ (parseMethodDescriptor yX10_waiting.desc).map (fun d => d.parameters.length) = some 3 := ⟨⟨by decide +kernel, by decide +kernel⟩, by decide +kernel⟩
theorem k_X10_waiting (G : Gam) {o : Nat} {a1 : Int32} {a2 : Int32} {a3 : Int32} {M : Mem} {rv : Int32} (hf : f_X10_waiting o a1 a2 a3 M = some rv) : Kt yX10_waiting cX10_waiting 4 (some .int) 2 44 G [.ref (gB G + o), .int a1, .int a2, .int a3] M M (some (.int rv)) := by
  refine Kt.of (by decide) (Nat.le_of_ble_eq_true rfl) ?_
  intro p l e R s m args below meth c X hr hlk hnm
  refine s_drop [0, 1, 2, 3] (vs' := [(0, .ref (gB G + o)), (1, .int a1), (2, .int a2), (3, .int a3)]) rfl ?_
  rw [f_X10_waiting] at hf
  refine s_aload_n X 0 dX10_waiting_0 rfl rfl ?_
  refine s_iload_n X 1 dX10_waiting_1 rfl rfl ?_
  obtain ⟨h1, hf⟩ := pk_chk hf
  obtain ⟨r3, hc2, hf⟩ := pk_obd hf
  refine s_callV X (ci := 10) (k_X10_isNode G hc2) rfl h1 wd1554 wd1556 wd53 wd1557 wd138 cd_X10_isNode ⟨Nat.le_of_ble_eq_true rfl, Nat.le_of_ble_eq_true rfl⟩ (Nat.le_of_ble_eq_true rfl) dX10_waiting_2 ?_
  have hs4 := pk_ite hf
  clear hf
  refine s_if_eq X (tgt := 33) dX10_waiting_5 rfl (fun c5 => ?_) (fun c5 => ?_)
  · have hf := hs4.1 c5
    refine s_iconst X (v := (-1 : Int32)) dX10_waiting_33 rfl ?_
    cases hf
    exact s_iret X hr hlk dX10_waiting_34
  · have hf := hs4.2 c5
    refine s_iload_n X 2 dX10_waiting_8 rfl rfl ?_
    refine s_iconst X (v := (0 : Int32)) dX10_waiting_9 rfl ?_
    refine s_aload_n X 0 dX10_waiting_10 rfl rfl ?_
    refine s_iload_n X 1 dX10_waiting_11 rfl rfl ?_
    refine s_iconst X (v := (3 : Int32)) dX10_waiting_12 rfl ?_
    obtain ⟨r7, hc6, hf⟩ := pk_obd hf
    refine s_callV X (ci := 10) (k_X10_of G hc6) rfl h1 wd1761 wd1763 wd79 wd1764 wd138 cd_X10_of ⟨Nat.le_of_ble_eq_true rfl, Nat.le_of_ble_eq_true rfl⟩ (Nat.le_of_ble_eq_true rfl) dX10_waiting_13 ?_
    refine s_iconst X (v := (1 : Int32)) dX10_waiting_16 rfl ?_
    refine s_isub X dX10_waiting_17 ?_
    obtain ⟨r9, hc8, hf⟩ := pk_obd hf
    refine s_callS X (k_X10_isIn G hc8) wd1520 wd1521 wd1522 wd138 cd_X10_isIn ⟨Nat.le_of_ble_eq_true rfl, Nat.le_of_ble_eq_true rfl⟩ (Nat.le_of_ble_eq_true rfl) dX10_waiting_18 ?_
    have hs10 := pk_ite hf
    clear hf
    refine s_if_eq X (tgt := 33) dX10_waiting_21 rfl (fun c11 => ?_) (fun c11 => ?_)
    · have hf := hs10.1 c11
      refine s_iconst X (v := (-1 : Int32)) dX10_waiting_33 rfl ?_
      cases hf
      exact s_iret X hr hlk dX10_waiting_34
    · have hf := hs10.2 c11
      refine s_iload_n X 3 dX10_waiting_24 rfl rfl ?_
      refine s_iconst X (v := (0 : Int32)) dX10_waiting_25 rfl ?_
      refine s_iconst X (v := (1 : Int32)) dX10_waiting_26 rfl ?_
      obtain ⟨r13, hc12, hf⟩ := pk_obd hf
      refine s_callS X (k_X10_isIn G hc12) wd1520 wd1521 wd1522 wd138 cd_X10_isIn ⟨Nat.le_of_ble_eq_true rfl, Nat.le_of_ble_eq_true rfl⟩ (Nat.le_of_ble_eq_true rfl) dX10_waiting_27 ?_
      have hs14 := pk_ite hf
      clear hf
      refine s_if_ne X (tgt := 35) dX10_waiting_30 rfl (fun c15 => ?_) (fun c15 => ?_)
      · have hf := hs14.2 c15
        refine s_iload_n X 3 dX10_waiting_35 rfl rfl ?_
        have hs16 := pk_ite hf
        clear hf
        refine s_if_ne X (tgt := 48) dX10_waiting_36 rfl (fun c17 => ?_) (fun c17 => ?_)
        · have hf := hs16.2 c17
          refine s_aload_n X 0 dX10_waiting_48 rfl rfl ?_
          refine s_iload_n X 1 dX10_waiting_49 rfl rfl ?_
          refine s_iload_n X 2 dX10_waiting_50 rfl rfl ?_
          obtain ⟨r19, hc18, hf⟩ := pk_obd hf
          refine s_callV X (ci := 10) (k_X10_waitStamp G hc18) rfl h1 wd1769 wd1771 wd81 wd1772 wd138 cd_X10_waitStamp ⟨Nat.le_of_ble_eq_true rfl, Nat.le_of_ble_eq_true rfl⟩ (Nat.le_of_ble_eq_true rfl) dX10_waiting_51 ?_
          cases hf
          exact s_iret X hr hlk dX10_waiting_54
        · have hf := hs16.1 c17
          refine s_aload_n X 0 dX10_waiting_39 rfl rfl ?_
          refine s_iload_n X 1 dX10_waiting_40 rfl rfl ?_
          refine s_iload_n X 2 dX10_waiting_41 rfl rfl ?_
          obtain ⟨r21, hc20, hf⟩ := pk_obd hf
          refine s_callV X (ci := 10) (k_X10_waitNode G hc20) rfl h1 wd1765 wd1767 wd80 wd1768 wd138 cd_X10_waitNode ⟨Nat.le_of_ble_eq_true rfl, Nat.le_of_ble_eq_true rfl⟩ (Nat.le_of_ble_eq_true rfl) dX10_waiting_42 ?_
          refine s_goto X (tgt := 54) dX10_waiting_45 rfl ?_
          cases hf
          exact s_iret X hr hlk dX10_waiting_54
      · have hf := hs14.1 c15
        refine s_iconst X (v := (-1 : Int32)) dX10_waiting_33 rfl ?_
        cases hf
        exact s_iret X hr hlk dX10_waiting_34
theorem dX5_kindAt_0 : decode cX5_kindAt 0 = .ok (.iload_n 1, 1) := dk_27 (by decide +kernel)
theorem dX5_kindAt_1 : decode cX5_kindAt 1 = .ok (.bipush 16, 2) := dk_16 (x := 16) (by decide +kernel) rfl
theorem dX5_kindAt_3 : decode cX5_kindAt 3 = .ok (.imul, 1) := dk_104 (by decide +kernel)
theorem dX5_kindAt_4 : decode cX5_kindAt 4 = .ok (.iload_n 2, 1) := dk_28 (by decide +kernel)
theorem dX5_kindAt_5 : decode cX5_kindAt 5 = .ok (.iadd, 1) := dk_96 (by decide +kernel)
theorem dX5_kindAt_6 : decode cX5_kindAt 6 = .ok (.istore 4, 2) := dk_54 (x := 4) (by decide +kernel)
theorem dX5_kindAt_8 : decode cX5_kindAt 8 = .ok (.iload_n 3, 1) := dk_29 (by decide +kernel)
theorem dX5_kindAt_9 : decode cX5_kindAt 9 = .ok (.ifCond .lt 14, 3) := dk_155 (x := 0) (y := 14) (by decide +kernel) rfl
theorem dX5_kindAt_12 : decode cX5_kindAt 12 = .ok (.iload_n 3, 1) := dk_29 (by decide +kernel)
theorem dX5_kindAt_13 : decode cX5_kindAt 13 = .ok (.aload_n 0, 1) := dk_42 (by decide +kernel)
theorem dX5_kindAt_14 : decode cX5_kindAt 14 = .ok (.getfield 18, 3) := dk_180 (x := 0) (y := 18) (by decide +kernel) rfl
theorem dX5_kindAt_17 : decode cX5_kindAt 17 = .ok (.iload 4, 2) := dk_21 (x := 4) (by decide +kernel)
theorem dX5_kindAt_19 : decode cX5_kindAt 19 = .ok (.iaload, 1) := dk_46 (by decide +kernel)
theorem dX5_kindAt_20 : decode cX5_kindAt 20 = .ok (.if_icmp .lt 5, 3) := dk_161 (x := 0) (y := 5) (by decide +kernel) rfl
theorem dX5_kindAt_23 : decode cX5_kindAt 23 = .ok (.iconst (-1), 1) := dk_2 (by decide +kernel)
theorem dX5_kindAt_24 : decode cX5_kindAt 24 = .ok (.ireturn, 1) := dk_172 (by decide +kernel)
theorem dX5_kindAt_25 : decode cX5_kindAt 25 = .ok (.aload_n 0, 1) := dk_42 (by decide +kernel)
theorem dX5_kindAt_26 : decode cX5_kindAt 26 = .ok (.getfield 9, 3) := dk_180 (x := 0) (y := 9) (by decide +kernel) rfl
theorem dX5_kindAt_29 : decode cX5_kindAt 29 = .ok (.iload 4, 2) := dk_21 (x := 4) (by decide +kernel)
theorem dX5_kindAt_31 : decode cX5_kindAt 31 = .ok (.iaload, 1) := dk_46 (by decide +kernel)
theorem dX5_kindAt_32 : decode cX5_kindAt 32 = .ok (.istore 5, 2) := dk_54 (x := 5) (by decide +kernel)
theorem dX5_kindAt_34 : decode cX5_kindAt 34 = .ok (.iconst 0, 1) := dk_3 (by decide +kernel)
theorem dX5_kindAt_35 : decode cX5_kindAt 35 = .ok (.istore 6, 2) := dk_54 (x := 6) (by decide +kernel)
theorem dX5_kindAt_37 : decode cX5_kindAt 37 = .ok (.iload 6, 2) := dk_21 (x := 6) (by decide +kernel)
theorem dX5_kindAt_39 : decode cX5_kindAt 39 = .ok (.iload_n 3, 1) := dk_29 (by decide +kernel)
theorem dX5_kindAt_40 : decode cX5_kindAt 40 = .ok (.if_icmp .ge 18, 3) := dk_162 (x := 0) (y := 18) (by decide +kernel) rfl
theorem dX5_kindAt_43 : decode cX5_kindAt 43 = .ok (.aload_n 0, 1) := dk_42 (by decide +kernel)
theorem dX5_kindAt_44 : decode cX5_kindAt 44 = .ok (.getfield 33, 3) := dk_180 (x := 0) (y := 33) (by decide +kernel) rfl
theorem dX5_kindAt_47 : decode cX5_kindAt 47 = .ok (.iload 5, 2) := dk_21 (x := 5) (by decide +kernel)
theorem dX5_kindAt_49 : decode cX5_kindAt 49 = .ok (.iaload, 1) := dk_46 (by decide +kernel)
theorem dX5_kindAt_50 : decode cX5_kindAt 50 = .ok (.istore 5, 2) := dk_54 (x := 5) (by decide +kernel)
theorem dX5_kindAt_52 : decode cX5_kindAt 52 = .ok (.iinc 6 1, 3) := dk_132 (x := 6) (y := 1) (by decide +kernel) rfl
theorem dX5_kindAt_55 : decode cX5_kindAt 55 = .ok (.goto (-18), 3) := dk_167 (x := 255) (y := 238) (by decide +kernel) rfl
theorem dX5_kindAt_58 : decode cX5_kindAt 58 = .ok (.aload_n 0, 1) := dk_42 (by decide +kernel)
theorem dX5_kindAt_59 : decode cX5_kindAt 59 = .ok (.getfield 27, 3) := dk_180 (x := 0) (y := 27) (by decide +kernel) rfl
theorem dX5_kindAt_62 : decode cX5_kindAt 62 = .ok (.iload 5, 2) := dk_21 (x := 5) (by decide +kernel)
theorem dX5_kindAt_64 : decode cX5_kindAt 64 = .ok (.iaload, 1) := dk_46 (by decide +kernel)
theorem dX5_kindAt_65 : decode cX5_kindAt 65 = .ok (.invokestatic 63, 3) := dk_184 (x := 0) (y := 63) (by decide +kernel) rfl
theorem dX5_kindAt_68 : decode cX5_kindAt 68 = .ok (.ireturn, 1) := dk_172 (by decide +kernel)
def f_X5_kindAt_37 (M : Mem) : Nat → Nat → Int32 → Int32 → Int32 → Option Int32
  | 0, _, _, _, _ => none
  | n + 1, v0, v3, v5, v6 =>
    if v3 ≤ v6 then (
      chk (isO M 5 v0) <|
      bnd (mR M v0 5) fun o4 =>
      chk (isO M 100 o4) <|
      chk (inB v5 (mLn M o4)) <|
      obd (f_X5_kindOf (mI M o4 (v5).toNatClampNeg) M) fun r9 =>
      some r9
      ) else (
      chk (isO M 5 v0) <|
      bnd (mR M v0 7) fun o11 =>
      chk (isO M 100 o11) <|
      chk (inB v5 (mLn M o11)) <|
      bnd (mI M o11 (v5).toNatClampNeg) fun x15 =>
      bnd (v6 + (1 : Int32)) fun x17 =>
      f_X5_kindAt_37 M n v0 v3 x15 x17
      )
def f_X5_kindAt (n : Nat) (o : Nat) (a1 : Int32) (a2 : Int32) (a3 : Int32) (M : Mem) : Option Int32 :=
  bnd ((a1 * (16 : Int32)) + a2) fun x1 =>
  if a3 < 0 then (
    some (-1 : Int32)
    ) else (
    chk (isO M 5 o) <|
    bnd (mR M o 2) fun o6 =>
    chk (isO M 100 o6) <|
    chk (inB x1 (mLn M o6)) <|
    if a3 < (mI M o6 (x1).toNatClampNeg) then (
      bnd (mR M o 0) fun o12 =>
      chk (isO M 100 o12) <|
      chk (inB x1 (mLn M o12)) <|
      bnd (mI M o12 (x1).toNatClampNeg) fun x16 =>
      f_X5_kindAt_37 M n o a3 x16 (0 : Int32)
      ) else (
      some (-1 : Int32)
      )
    )
theorem cd_X5_kindAt : (yX5_kindAt.cls ≠ "java/lang/invoke/MethodHandle" ∧ yX5_kindAt.cls ≠ "java/lang/invoke/VarHandle") ∧ (parseMethodDescriptor yX5_kindAt.desc).map (fun d => d.parameters.length) = some 3 := ⟨⟨by decide +kernel, by decide +kernel⟩, by decide +kernel⟩
section
variable {p : Program} {l : Launch} {e : Env} {R : Room} {s : State} {m : MethodId} {args : Array Value} {below : List Frame} {meth : Method} {c : Code} {G : Gam} {M0 : Mem}
theorem l_X5_kindAt_37 {M : Mem} {rv : Int32} (X : Cx p R s m args c G M0 cX5_kindAt yX5_kindAt.cls 7 1 20) (hr : meth.sig.returnType = (some .int)) (hlk : meth.locks = false) (hnm : meth.name = "kindAt") : ∀ {n : Nat} (v0 : Nat) (v3 : Int32) (v5 : Int32) (v6 : Int32), f_X5_kindAt_37 M n v0 v3 v5 v6 = some rv → Sg p l e R s m args below meth c (Qm below G args s (some (.int rv)) M0 M) G M0 7 37 [(0, .ref (gB G + v0)), (3, .int v3), (5, .int v5), (6, .int v6)] [] M := by
  intro n
  induction n with
  | zero => intro v0 v3 v5 v6 hf; exact (pk_none hf).elim
  | succ n ih =>
    intro v0 v3 v5 v6 hf
    rw [f_X5_kindAt_37] at hf
    refine s_iload X 3 dX5_kindAt_37 rfl ?_
    refine s_iload_n X 1 dX5_kindAt_39 rfl rfl ?_
    have hs1 := pk_ite hf
    clear hf
    refine s_icmp_ge X (tgt := 58) dX5_kindAt_40 rfl (fun c2 => ?_) (fun c2 => ?_)
    · have hf := hs1.1 c2
      refine s_aload_n X 0 dX5_kindAt_58 rfl rfl ?_
      obtain ⟨h3, hf⟩ := pk_chk hf
      obtain ⟨o4, e5, hf⟩ := pk_bnd hf
      obtain ⟨h6, hf⟩ := pk_chk hf
      refine s_getR X (ci := 5) (k := 5) rfl (Nat.le_of_ble_eq_true rfl) h3 wd259 (fun _ _ _ => rfl) (e5 ▸ h6) dX5_kindAt_59 (e5 ▸ ?_)
      refine s_iload X 2 dX5_kindAt_62 rfl ?_
      obtain ⟨h7, hf⟩ := pk_chk hf
      refine s_iald X h6 h7 dX5_kindAt_64 ?_
      obtain ⟨r9, hc8, hf⟩ := pk_obd hf
      refine s_callS X (k_X5_kindOf G hc8) wd1155 wd989 wd990 wd131 cd_X5_kindOf ⟨Nat.le_of_ble_eq_true rfl, Nat.le_of_ble_eq_true rfl⟩ (Nat.le_of_ble_eq_true rfl) dX5_kindAt_65 ?_
      cases hf
      exact s_iret X hr hlk dX5_kindAt_68
    · have hf := hs1.2 c2
      refine s_aload_n X 0 dX5_kindAt_43 rfl rfl ?_
      obtain ⟨h10, hf⟩ := pk_chk hf
      obtain ⟨o11, e12, hf⟩ := pk_bnd hf
      obtain ⟨h13, hf⟩ := pk_chk hf
      refine s_getR X (ci := 5) (k := 7) rfl (Nat.le_of_ble_eq_true rfl) h10 wd262 (fun _ _ _ => rfl) (e12 ▸ h13) dX5_kindAt_44 (e12 ▸ ?_)
      refine s_iload X 2 dX5_kindAt_47 rfl ?_
      obtain ⟨h14, hf⟩ := pk_chk hf
      refine s_iald X h13 h14 dX5_kindAt_49 ?_
      obtain ⟨x15, e16, hf⟩ := pk_bnd hf
      refine s_nmI e16 ?_
      refine s_istore X (vs' := [(0, .ref (gB G + v0)), (3, .int v3), (5, .int x15), (6, .int v6)]) dX5_kindAt_50 (Nat.le_of_ble_eq_true rfl) [1, 2, 0, 3] rfl ?_
      obtain ⟨x17, e18, hf⟩ := pk_bnd hf
      refine s_iinc X (vs' := [(0, .ref (gB G + v0)), (3, .int v3), (5, .int x15), (6, .int x17)]) 3 dX5_kindAt_52 rfl (v := x17) e18.symm (Nat.le_of_ble_eq_true rfl) [1, 2, 3, 0] rfl ?_
      refine s_goto X (tgt := 37) dX5_kindAt_55 rfl ?_
      exact ih _ _ _ _ hf
end
theorem k_X5_kindAt (G : Gam) {n : Nat} {o : Nat} {a1 : Int32} {a2 : Int32} {a3 : Int32} {M : Mem} {rv : Int32} (hf : f_X5_kindAt n o a1 a2 a3 M = some rv) : Kt yX5_kindAt cX5_kindAt 7 (some .int) 1 20 G [.ref (gB G + o), .int a1, .int a2, .int a3] M M (some (.int rv)) := by
  refine Kt.of (by decide) (Nat.le_of_ble_eq_true rfl) ?_
  intro p l e R s m args below meth c X hr hlk hnm
  refine s_drop [0, 1, 2, 3] (vs' := [(0, .ref (gB G + o)), (1, .int a1), (2, .int a2), (3, .int a3)]) rfl ?_
  rw [f_X5_kindAt] at hf
  refine s_iload_n X 1 dX5_kindAt_0 rfl rfl ?_
  refine s_bipush X (v := (16 : Int32)) dX5_kindAt_1 rfl ?_
  refine s_imul X dX5_kindAt_3 ?_
  refine s_iload_n X 2 dX5_kindAt_4 rfl rfl ?_
  refine s_iadd X dX5_kindAt_5 ?_
  obtain ⟨x1, e2, hf⟩ := pk_bnd hf
  refine s_nmI e2 ?_
  refine s_istore X (vs' := [(0, .ref (gB G + o)), (1, .int a1), (2, .int a2), (3, .int a3), (4, .int x1)]) dX5_kindAt_6 (Nat.le_of_ble_eq_true rfl) [1, 2, 3, 4, 0] rfl ?_
  refine s_iload_n X 3 dX5_kindAt_8 rfl rfl ?_
  have hs3 := pk_ite hf
  clear hf
  refine s_if_lt X (tgt := 23) dX5_kindAt_9 rfl (fun c4 => ?_) (fun c4 => ?_)
  · have hf := hs3.1 c4
    refine s_iconst X (v := (-1 : Int32)) dX5_kindAt_23 rfl ?_
    cases hf
    exact s_iret X hr hlk dX5_kindAt_24
  · have hf := hs3.2 c4
    refine s_iload_n X 3 dX5_kindAt_12 rfl rfl ?_
    refine s_aload_n X 0 dX5_kindAt_13 rfl rfl ?_
    obtain ⟨h5, hf⟩ := pk_chk hf
    obtain ⟨o6, e7, hf⟩ := pk_bnd hf
    obtain ⟨h8, hf⟩ := pk_chk hf
    refine s_getR X (ci := 5) (k := 2) rfl (Nat.le_of_ble_eq_true rfl) h5 wd251 (fun _ _ _ => rfl) (e7 ▸ h8) dX5_kindAt_14 (e7 ▸ ?_)
    refine s_iload X 4 dX5_kindAt_17 rfl ?_
    obtain ⟨h9, hf⟩ := pk_chk hf
    refine s_iald X h8 h9 dX5_kindAt_19 ?_
    have hs10 := pk_ite hf
    clear hf
    refine s_icmp_lt X (tgt := 25) dX5_kindAt_20 rfl (fun c11 => ?_) (fun c11 => ?_)
    · have hf := hs10.1 c11
      refine s_aload_n X 0 dX5_kindAt_25 rfl rfl ?_
      obtain ⟨o12, e13, hf⟩ := pk_bnd hf
      obtain ⟨h14, hf⟩ := pk_chk hf
      refine s_getR X (ci := 5) (k := 0) rfl (Nat.le_of_ble_eq_true rfl) h5 wd248 (fun _ _ _ => rfl) (e13 ▸ h14) dX5_kindAt_26 (e13 ▸ ?_)
      refine s_iload X 4 dX5_kindAt_29 rfl ?_
      obtain ⟨h15, hf⟩ := pk_chk hf
      refine s_iald X h14 h15 dX5_kindAt_31 ?_
      obtain ⟨x16, e17, hf⟩ := pk_bnd hf
      refine s_nmI e17 ?_
      refine s_istore X (vs' := [(0, .ref (gB G + o)), (1, .int a1), (2, .int a2), (3, .int a3), (4, .int x1), (5, .int x16)]) dX5_kindAt_32 (Nat.le_of_ble_eq_true rfl) [1, 2, 3, 4, 5, 0] rfl ?_
      refine s_iconst X (v := (0 : Int32)) dX5_kindAt_34 rfl ?_
      refine s_istore X (vs' := [(0, .ref (gB G + o)), (1, .int a1), (2, .int a2), (3, .int a3), (4, .int x1), (5, .int x16), (6, .int (0 : Int32))]) dX5_kindAt_35 (Nat.le_of_ble_eq_true rfl) [1, 2, 3, 4, 5, 6, 0] rfl ?_
      refine s_drop [0, 3, 5, 6] (vs' := [(0, .ref (gB G + o)), (3, .int a3), (5, .int x16), (6, .int (0 : Int32))]) rfl ?_
      exact l_X5_kindAt_37 X hr hlk hnm _ _ _ _ hf
    · have hf := hs10.2 c11
      refine s_iconst X (v := (-1 : Int32)) dX5_kindAt_23 rfl ?_
      cases hf
      exact s_iret X hr hlk dX5_kindAt_24
