theorem dX9_crowded_0 : decode cX9_crowded 0 = .ok (.iload_n 1, 1) := dk_27 (by decide +kernel)
theorem dX9_crowded_1 : decode cX9_crowded 1 = .ok (.ifCond .lt 8, 3) := dk_155 (x := 0) (y := 8) (by decide +kernel) rfl
theorem dX9_crowded_4 : decode cX9_crowded 4 = .ok (.iload_n 1, 1) := dk_27 (by decide +kernel)
theorem dX9_crowded_5 : decode cX9_crowded 5 = .ok (.iconst 1, 1) := dk_4 (by decide +kernel)
theorem dX9_crowded_6 : decode cX9_crowded 6 = .ok (.if_icmp .le 5, 3) := dk_164 (x := 0) (y := 5) (by decide +kernel) rfl
theorem dX9_crowded_9 : decode cX9_crowded 9 = .ok (.iconst (-1), 1) := dk_2 (by decide +kernel)
theorem dX9_crowded_10 : decode cX9_crowded 10 = .ok (.ireturn, 1) := dk_172 (by decide +kernel)
theorem dX9_crowded_11 : decode cX9_crowded 11 = .ok (.iconst 0, 1) := dk_3 (by decide +kernel)
theorem dX9_crowded_12 : decode cX9_crowded 12 = .ok (.istore_n 2, 1) := dk_61 (by decide +kernel)
theorem dX9_crowded_13 : decode cX9_crowded 13 = .ok (.iconst (-1), 1) := dk_2 (by decide +kernel)
theorem dX9_crowded_14 : decode cX9_crowded 14 = .ok (.istore_n 3, 1) := dk_62 (by decide +kernel)
theorem dX9_crowded_15 : decode cX9_crowded 15 = .ok (.iconst 0, 1) := dk_3 (by decide +kernel)
theorem dX9_crowded_16 : decode cX9_crowded 16 = .ok (.istore 4, 2) := dk_54 (x := 4) (by decide +kernel)
theorem dX9_crowded_18 : decode cX9_crowded 18 = .ok (.iload 4, 2) := dk_21 (x := 4) (by decide +kernel)
theorem dX9_crowded_20 : decode cX9_crowded 20 = .ok (.aload_n 0, 1) := dk_42 (by decide +kernel)
theorem dX9_crowded_21 : decode cX9_crowded 21 = .ok (.getfield 10, 3) := dk_180 (x := 0) (y := 10) (by decide +kernel) rfl
theorem dX9_crowded_24 : decode cX9_crowded 24 = .ok (.getfield 75, 3) := dk_180 (x := 0) (y := 75) (by decide +kernel) rfl
theorem dX9_crowded_27 : decode cX9_crowded 27 = .ok (.if_icmp .ge 39, 3) := dk_162 (x := 0) (y := 39) (by decide +kernel) rfl
theorem dX9_crowded_30 : decode cX9_crowded 30 = .ok (.aload_n 0, 1) := dk_42 (by decide +kernel)
theorem dX9_crowded_31 : decode cX9_crowded 31 = .ok (.getfield 28, 3) := dk_180 (x := 0) (y := 28) (by decide +kernel) rfl
theorem dX9_crowded_34 : decode cX9_crowded 34 = .ok (.getfield 99, 3) := dk_180 (x := 0) (y := 99) (by decide +kernel) rfl
theorem dX9_crowded_37 : decode cX9_crowded 37 = .ok (.iload 4, 2) := dk_21 (x := 4) (by decide +kernel)
theorem dX9_crowded_39 : decode cX9_crowded 39 = .ok (.aaload, 1) := dk_50 (by decide +kernel)
theorem dX9_crowded_40 : decode cX9_crowded 40 = .ok (.getfield 234, 3) := dk_180 (x := 0) (y := 234) (by decide +kernel) rfl
theorem dX9_crowded_43 : decode cX9_crowded 43 = .ok (.invokestatic 134, 3) := dk_184 (x := 0) (y := 134) (by decide +kernel) rfl
theorem dX9_crowded_46 : decode cX9_crowded 46 = .ok (.istore 5, 2) := dk_54 (x := 5) (by decide +kernel)
theorem dX9_crowded_48 : decode cX9_crowded 48 = .ok (.iload 5, 2) := dk_21 (x := 5) (by decide +kernel)
theorem dX9_crowded_50 : decode cX9_crowded 50 = .ok (.iload_n 2, 1) := dk_28 (by decide +kernel)
theorem dX9_crowded_51 : decode cX9_crowded 51 = .ok (.if_icmp .le 9, 3) := dk_164 (x := 0) (y := 9) (by decide +kernel) rfl
theorem dX9_crowded_54 : decode cX9_crowded 54 = .ok (.iload 5, 2) := dk_21 (x := 5) (by decide +kernel)
theorem dX9_crowded_56 : decode cX9_crowded 56 = .ok (.istore_n 2, 1) := dk_61 (by decide +kernel)
theorem dX9_crowded_57 : decode cX9_crowded 57 = .ok (.iload 4, 2) := dk_21 (x := 4) (by decide +kernel)
theorem dX9_crowded_59 : decode cX9_crowded 59 = .ok (.istore_n 3, 1) := dk_62 (by decide +kernel)
theorem dX9_crowded_60 : decode cX9_crowded 60 = .ok (.iinc 4 1, 3) := dk_132 (x := 4) (y := 1) (by decide +kernel) rfl
theorem dX9_crowded_63 : decode cX9_crowded 63 = .ok (.goto (-45), 3) := dk_167 (x := 255) (y := 211) (by decide +kernel) rfl
theorem dX9_crowded_66 : decode cX9_crowded 66 = .ok (.iload_n 1, 1) := dk_27 (by decide +kernel)
theorem dX9_crowded_67 : decode cX9_crowded 67 = .ok (.ifCond .ne 7, 3) := dk_154 (x := 0) (y := 7) (by decide +kernel) rfl
theorem dX9_crowded_70 : decode cX9_crowded 70 = .ok (.iload_n 3, 1) := dk_29 (by decide +kernel)
theorem dX9_crowded_71 : decode cX9_crowded 71 = .ok (.goto 4, 3) := dk_167 (x := 0) (y := 4) (by decide +kernel) rfl
theorem dX9_crowded_74 : decode cX9_crowded 74 = .ok (.iload_n 2, 1) := dk_28 (by decide +kernel)
theorem dX9_crowded_75 : decode cX9_crowded 75 = .ok (.ireturn, 1) := dk_172 (by decide +kernel)
def f_X9_crowded_18 (M : Mem) : Nat → Nat → Int32 → Int32 → Int32 → Int32 → Option Int32
  | 0, _, _, _, _, _ => none
  | n + 1, v0, v1, v2, v3, v4 =>
    chk (isO M 9 v0) <|
    bnd (mR M v0 0) fun o2 =>
    chk (isO M 7 o2) <|
    if (mI M o2 3) ≤ v4 then (
      if v1 = 0 then (
        some v3
        ) else (
        some v2
        )
      ) else (
      bnd (mR M v0 2) fun o9 =>
      chk (isO M 2 o9) <|
      bnd (mR M o9 2) fun o12 =>
      chk (isO M 102 o12) <|
      chk (inB v4 (mLn M o12)) <|
      bnd (mR M o12 (v4).toNatClampNeg) fun o16 =>
      chk (isO M 4 o16) <|
      obd (f_J6_bitCount_0f7a4 (mI M o16 9) M) fun r20 =>
      if r20 ≤ v2 then (
        bnd (v4 + (1 : Int32)) fun x23 =>
        f_X9_crowded_18 M n v0 v1 v2 v3 x23
        ) else (
        bnd (v4 + (1 : Int32)) fun x25 =>
        f_X9_crowded_18 M n v0 v1 r20 v4 x25
        )
      )
def f_X9_crowded (n : Nat) (o : Nat) (a1 : Int32) (M : Mem) : Option Int32 :=
  if a1 < 0 then (
    some (-1 : Int32)
    ) else (
    if a1 ≤ (1 : Int32) then (
      f_X9_crowded_18 M n o a1 (0 : Int32) (-1 : Int32) (0 : Int32)
      ) else (
      some (-1 : Int32)
      )
    )
theorem cd_X9_crowded : (yX9_crowded.cls ≠ "java/lang/invoke/MethodHandle" ∧ yX9_crowded.cls ≠ "java/lang/invoke/VarHandle") ∧ (parseMethodDescriptor yX9_crowded.desc).map (fun d => d.parameters.length) = some 1 := ⟨⟨by decide +kernel, by decide +kernel⟩, by decide +kernel⟩
section
variable {p : Program} {l : Launch} {e : Env} {R : Room} {s : State} {m : MethodId} {args : Array Value} {below : List Frame} {meth : Method} {c : Code} {G : Gam} {M0 : Mem}
theorem l_X9_crowded_18 {M : Mem} {rv : Int32} (X : Cx p R s m args c G M0 cX9_crowded yX9_crowded.cls 6 1 20) (hr : meth.sig.returnType = (some .int)) (hlk : meth.locks = false) (hnm : meth.name = "crowded") : ∀ {n : Nat} (v0 : Nat) (v1 : Int32) (v2 : Int32) (v3 : Int32) (v4 : Int32), f_X9_crowded_18 M n v0 v1 v2 v3 v4 = some rv → Sg p l e R s m args below meth c (Qm below G args s (some (.int rv)) M0 M) G M0 6 18 [(0, .ref (gB G + v0)), (1, .int v1), (2, .int v2), (3, .int v3), (4, .int v4)] [] M := by
  intro n
  induction n with
  | zero => intro v0 v1 v2 v3 v4 hf; exact (pk_none hf).elim
  | succ n ih =>
    intro v0 v1 v2 v3 v4 hf
    rw [f_X9_crowded_18] at hf
    refine s_iload X 4 dX9_crowded_18 rfl ?_
    refine s_aload_n X 0 dX9_crowded_20 rfl rfl ?_
    obtain ⟨h1, hf⟩ := pk_chk hf
    obtain ⟨o2, e3, hf⟩ := pk_bnd hf
    obtain ⟨h4, hf⟩ := pk_chk hf
    refine s_getR X (ci := 9) (k := 0) rfl (Nat.le_of_ble_eq_true rfl) h1 wd627 (fun _ _ _ => rfl) (e3 ▸ h4) dX9_crowded_21 (e3 ▸ ?_)
    refine s_getI X (ci := 7) (k := 3) rfl (Nat.le_of_ble_eq_true rfl) h4 wd170 (fun _ _ _ => rfl) dX9_crowded_24 ?_
    have hs5 := pk_ite hf
    clear hf
    refine s_icmp_ge X (tgt := 66) dX9_crowded_27 rfl (fun c6 => ?_) (fun c6 => ?_)
    · have hf := hs5.1 c6
      refine s_iload_n X 1 dX9_crowded_66 rfl rfl ?_
      have hs7 := pk_ite hf
      clear hf
      refine s_if_ne X (tgt := 74) dX9_crowded_67 rfl (fun c8 => ?_) (fun c8 => ?_)
      · have hf := hs7.2 c8
        refine s_iload_n X 2 dX9_crowded_74 rfl rfl ?_
        cases hf
        exact s_iret X hr hlk dX9_crowded_75
      · have hf := hs7.1 c8
        refine s_iload_n X 3 dX9_crowded_70 rfl rfl ?_
        refine s_goto X (tgt := 75) dX9_crowded_71 rfl ?_
        cases hf
        exact s_iret X hr hlk dX9_crowded_75
    · have hf := hs5.2 c6
      refine s_aload_n X 0 dX9_crowded_30 rfl rfl ?_
      obtain ⟨o9, e10, hf⟩ := pk_bnd hf
      obtain ⟨h11, hf⟩ := pk_chk hf
      refine s_getR X (ci := 9) (k := 2) rfl (Nat.le_of_ble_eq_true rfl) h1 wd629 (fun _ _ _ => rfl) (e10 ▸ h11) dX9_crowded_31 (e10 ▸ ?_)
      obtain ⟨o12, e13, hf⟩ := pk_bnd hf
      obtain ⟨h14, hf⟩ := pk_chk hf
      refine s_getR X (ci := 2) (k := 2) rfl (Nat.le_of_ble_eq_true rfl) h11 wd426 (fun _ _ _ => rfl) (e13 ▸ h14) dX9_crowded_34 (e13 ▸ ?_)
      refine s_iload X 4 dX9_crowded_37 rfl ?_
      obtain ⟨h15, hf⟩ := pk_chk hf
      obtain ⟨o16, e17, hf⟩ := pk_bnd hf
      obtain ⟨h18, hf⟩ := pk_chk hf
      refine s_aald X h14 h15 (e17 ▸ h18) dX9_crowded_39 (e17 ▸ ?_)
      refine s_getI X (ci := 4) (k := 9) rfl (Nat.le_of_ble_eq_true rfl) h18 wd364 (fun _ _ _ => rfl) dX9_crowded_40 ?_
      obtain ⟨r20, hc19, hf⟩ := pk_obd hf
      refine s_callS X (k_J6_bitCount_0f7a4 G hc19) wd839 wd831 wd832 wd141 cd_J6_bitCount_0f7a4 ⟨Nat.le_of_ble_eq_true rfl, Nat.le_of_ble_eq_true rfl⟩ (Nat.le_of_ble_eq_true rfl) dX9_crowded_43 ?_
      refine s_istore X (vs' := [(0, .ref (gB G + v0)), (1, .int v1), (2, .int v2), (3, .int v3), (4, .int v4), (5, .int r20)]) dX9_crowded_46 (Nat.le_of_ble_eq_true rfl) [1, 2, 3, 4, 5, 0] rfl ?_
      refine s_iload X 5 dX9_crowded_48 rfl ?_
      refine s_iload_n X 2 dX9_crowded_50 rfl rfl ?_
      have hs21 := pk_ite hf
      clear hf
      refine s_icmp_le X (tgt := 60) dX9_crowded_51 rfl (fun c22 => ?_) (fun c22 => ?_)
      · have hf := hs21.1 c22
        obtain ⟨x23, e24, hf⟩ := pk_bnd hf
        refine s_iinc X (vs' := [(0, .ref (gB G + v0)), (1, .int v1), (2, .int v2), (3, .int v3), (4, .int x23), (5, .int r20)]) 4 dX9_crowded_60 rfl (v := x23) e24.symm (Nat.le_of_ble_eq_true rfl) [1, 2, 3, 4, 0, 5] rfl ?_
        refine s_goto X (tgt := 18) dX9_crowded_63 rfl ?_
        refine s_drop [0, 1, 2, 3, 4] (vs' := [(0, .ref (gB G + v0)), (1, .int v1), (2, .int v2), (3, .int v3), (4, .int x23)]) rfl ?_
        exact ih _ _ _ _ _ hf
      · have hf := hs21.2 c22
        refine s_iload X 5 dX9_crowded_54 rfl ?_
        refine s_istore_n X (vs' := [(0, .ref (gB G + v0)), (1, .int v1), (2, .int r20), (3, .int v3), (4, .int v4), (5, .int r20)]) dX9_crowded_56 rfl (Nat.le_of_ble_eq_true rfl) [1, 2, 0, 3, 4, 5] rfl ?_
        refine s_iload X 4 dX9_crowded_57 rfl ?_
        refine s_istore_n X (vs' := [(0, .ref (gB G + v0)), (1, .int v1), (2, .int r20), (3, .int v4), (4, .int v4), (5, .int r20)]) dX9_crowded_59 rfl (Nat.le_of_ble_eq_true rfl) [1, 2, 3, 0, 4, 5] rfl ?_
        obtain ⟨x25, e26, hf⟩ := pk_bnd hf
        refine s_iinc X (vs' := [(0, .ref (gB G + v0)), (1, .int v1), (2, .int r20), (3, .int v4), (4, .int x25), (5, .int r20)]) 4 dX9_crowded_60 rfl (v := x25) e26.symm (Nat.le_of_ble_eq_true rfl) [1, 2, 3, 4, 0, 5] rfl ?_
        refine s_goto X (tgt := 18) dX9_crowded_63 rfl ?_
        refine s_drop [0, 1, 2, 3, 4] (vs' := [(0, .ref (gB G + v0)), (1, .int v1), (2, .int r20), (3, .int v4), (4, .int x25)]) rfl ?_
        exact ih _ _ _ _ _ hf
end
theorem k_X9_crowded (G : Gam) {n : Nat} {o : Nat} {a1 : Int32} {M : Mem} {rv : Int32} (hf : f_X9_crowded n o a1 M = some rv) : Kt yX9_crowded cX9_crowded 6 (some .int) 1 20 G [.ref (gB G + o), .int a1] M M (some (.int rv)) := by
  refine Kt.of (by decide) (Nat.le_of_ble_eq_true rfl) ?_
  intro p l e R s m args below meth c X hr hlk hnm
  refine s_drop [0, 1] (vs' := [(0, .ref (gB G + o)), (1, .int a1)]) rfl ?_
  rw [f_X9_crowded] at hf
  refine s_iload_n X 1 dX9_crowded_0 rfl rfl ?_
  have hs1 := pk_ite hf
  clear hf
  refine s_if_lt X (tgt := 9) dX9_crowded_1 rfl (fun c2 => ?_) (fun c2 => ?_)
  · have hf := hs1.1 c2
    refine s_iconst X (v := (-1 : Int32)) dX9_crowded_9 rfl ?_
    cases hf
    exact s_iret X hr hlk dX9_crowded_10
  · have hf := hs1.2 c2
    refine s_iload_n X 1 dX9_crowded_4 rfl rfl ?_
    refine s_iconst X (v := (1 : Int32)) dX9_crowded_5 rfl ?_
    have hs3 := pk_ite hf
    clear hf
    refine s_icmp_le X (tgt := 11) dX9_crowded_6 rfl (fun c4 => ?_) (fun c4 => ?_)
    · have hf := hs3.1 c4
      refine s_iconst X (v := (0 : Int32)) dX9_crowded_11 rfl ?_
      refine s_istore_n X (vs' := [(0, .ref (gB G + o)), (1, .int a1), (2, .int (0 : Int32))]) dX9_crowded_12 rfl (Nat.le_of_ble_eq_true rfl) [1, 2, 0] rfl ?_
      refine s_iconst X (v := (-1 : Int32)) dX9_crowded_13 rfl ?_
      refine s_istore_n X (vs' := [(0, .ref (gB G + o)), (1, .int a1), (2, .int (0 : Int32)), (3, .int (-1 : Int32))]) dX9_crowded_14 rfl (Nat.le_of_ble_eq_true rfl) [1, 2, 3, 0] rfl ?_
      refine s_iconst X (v := (0 : Int32)) dX9_crowded_15 rfl ?_
      refine s_istore X (vs' := [(0, .ref (gB G + o)), (1, .int a1), (2, .int (0 : Int32)), (3, .int (-1 : Int32)), (4, .int (0 : Int32))]) dX9_crowded_16 (Nat.le_of_ble_eq_true rfl) [1, 2, 3, 4, 0] rfl ?_
      exact l_X9_crowded_18 X hr hlk hnm _ _ _ _ _ hf
    · have hf := hs3.2 c4
      refine s_iconst X (v := (-1 : Int32)) dX9_crowded_9 rfl ?_
      cases hf
      exact s_iret X hr hlk dX9_crowded_10
theorem dX10_crowded_0 : decode cX10_crowded 0 = .ok (.iload_n 1, 1) := dk_27 (by decide +kernel)
theorem dX10_crowded_1 : decode cX10_crowded 1 = .ok (.iconst 0, 1) := dk_3 (by decide +kernel)
theorem dX10_crowded_2 : decode cX10_crowded 2 = .ok (.iconst 1, 1) := dk_4 (by decide +kernel)
theorem dX10_crowded_3 : decode cX10_crowded 3 = .ok (.invokestatic 49, 3) := dk_184 (x := 0) (y := 49) (by decide +kernel) rfl
theorem dX10_crowded_6 : decode cX10_crowded 6 = .ok (.ifCond .ne 5, 3) := dk_154 (x := 0) (y := 5) (by decide +kernel) rfl
theorem dX10_crowded_9 : decode cX10_crowded 9 = .ok (.iconst (-1), 1) := dk_2 (by decide +kernel)
theorem dX10_crowded_10 : decode cX10_crowded 10 = .ok (.ireturn, 1) := dk_172 (by decide +kernel)
theorem dX10_crowded_11 : decode cX10_crowded 11 = .ok (.iconst (-1), 1) := dk_2 (by decide +kernel)
theorem dX10_crowded_12 : decode cX10_crowded 12 = .ok (.istore_n 2, 1) := dk_61 (by decide +kernel)
theorem dX10_crowded_13 : decode cX10_crowded 13 = .ok (.iconst 0, 1) := dk_3 (by decide +kernel)
theorem dX10_crowded_14 : decode cX10_crowded 14 = .ok (.istore_n 3, 1) := dk_62 (by decide +kernel)
theorem dX10_crowded_15 : decode cX10_crowded 15 = .ok (.iconst 0, 1) := dk_3 (by decide +kernel)
theorem dX10_crowded_16 : decode cX10_crowded 16 = .ok (.istore 4, 2) := dk_54 (x := 4) (by decide +kernel)
theorem dX10_crowded_18 : decode cX10_crowded 18 = .ok (.iload 4, 2) := dk_21 (x := 4) (by decide +kernel)
theorem dX10_crowded_20 : decode cX10_crowded 20 = .ok (.aload_n 0, 1) := dk_42 (by decide +kernel)
theorem dX10_crowded_21 : decode cX10_crowded 21 = .ok (.getfield 7, 3) := dk_180 (x := 0) (y := 7) (by decide +kernel) rfl
theorem dX10_crowded_24 : decode cX10_crowded 24 = .ok (.iconst 0, 1) := dk_3 (by decide +kernel)
theorem dX10_crowded_25 : decode cX10_crowded 25 = .ok (.iaload, 1) := dk_46 (by decide +kernel)
theorem dX10_crowded_26 : decode cX10_crowded 26 = .ok (.if_icmp .ge 34, 3) := dk_162 (x := 0) (y := 34) (by decide +kernel) rfl
theorem dX10_crowded_29 : decode cX10_crowded 29 = .ok (.aload_n 0, 1) := dk_42 (by decide +kernel)
theorem dX10_crowded_30 : decode cX10_crowded 30 = .ok (.iload 4, 2) := dk_21 (x := 4) (by decide +kernel)
theorem dX10_crowded_32 : decode cX10_crowded 32 = .ok (.iconst 3, 1) := dk_6 (by decide +kernel)
theorem dX10_crowded_33 : decode cX10_crowded 33 = .ok (.invokevirtual 151, 3) := dk_182 (x := 0) (y := 151) (by decide +kernel) rfl
theorem dX10_crowded_36 : decode cX10_crowded 36 = .ok (.iload_n 3, 1) := dk_29 (by decide +kernel)
theorem dX10_crowded_37 : decode cX10_crowded 37 = .ok (.if_icmp .gt 6, 3) := dk_163 (x := 0) (y := 6) (by decide +kernel) rfl
theorem dX10_crowded_40 : decode cX10_crowded 40 = .ok (.goto 14, 3) := dk_167 (x := 0) (y := 14) (by decide +kernel) rfl
theorem dX10_crowded_43 : decode cX10_crowded 43 = .ok (.iload 4, 2) := dk_21 (x := 4) (by decide +kernel)
theorem dX10_crowded_45 : decode cX10_crowded 45 = .ok (.istore_n 2, 1) := dk_61 (by decide +kernel)
theorem dX10_crowded_46 : decode cX10_crowded 46 = .ok (.aload_n 0, 1) := dk_42 (by decide +kernel)
theorem dX10_crowded_47 : decode cX10_crowded 47 = .ok (.iload 4, 2) := dk_21 (x := 4) (by decide +kernel)
theorem dX10_crowded_49 : decode cX10_crowded 49 = .ok (.iconst 3, 1) := dk_6 (by decide +kernel)
theorem dX10_crowded_50 : decode cX10_crowded 50 = .ok (.invokevirtual 151, 3) := dk_182 (x := 0) (y := 151) (by decide +kernel) rfl
theorem dX10_crowded_53 : decode cX10_crowded 53 = .ok (.istore_n 3, 1) := dk_62 (by decide +kernel)
theorem dX10_crowded_54 : decode cX10_crowded 54 = .ok (.iinc 4 1, 3) := dk_132 (x := 4) (y := 1) (by decide +kernel) rfl
theorem dX10_crowded_57 : decode cX10_crowded 57 = .ok (.goto (-39), 3) := dk_167 (x := 255) (y := 217) (by decide +kernel) rfl
theorem dX10_crowded_60 : decode cX10_crowded 60 = .ok (.iload_n 1, 1) := dk_27 (by decide +kernel)
theorem dX10_crowded_61 : decode cX10_crowded 61 = .ok (.ifCond .ne 7, 3) := dk_154 (x := 0) (y := 7) (by decide +kernel) rfl
theorem dX10_crowded_64 : decode cX10_crowded 64 = .ok (.iload_n 2, 1) := dk_28 (by decide +kernel)
theorem dX10_crowded_65 : decode cX10_crowded 65 = .ok (.goto 4, 3) := dk_167 (x := 0) (y := 4) (by decide +kernel) rfl
theorem dX10_crowded_68 : decode cX10_crowded 68 = .ok (.iload_n 3, 1) := dk_29 (by decide +kernel)
theorem dX10_crowded_69 : decode cX10_crowded 69 = .ok (.ireturn, 1) := dk_172 (by decide +kernel)
def f_X10_crowded_18 (M : Mem) : Nat → Nat → Int32 → Int32 → Int32 → Int32 → Option Int32
  | 0, _, _, _, _, _ => none
  | n + 1, v0, v1, v2, v3, v4 =>
    chk (isO M 10 v0) <|
    bnd (mR M v0 0) fun o2 =>
    chk (isO M 100 o2) <|
    chk (inB (0 : Int32) (mLn M o2)) <|
    if (mI M o2 ((0 : Int32)).toNatClampNeg) ≤ v4 then (
      if v1 = 0 then (
        some v2
        ) else (
        some v3
        )
      ) else (
      obd (f_X10_of v0 v4 (3 : Int32) M) fun r11 =>
      if v3 < r11 then (
        obd (f_X10_of v0 v4 (3 : Int32) M) fun r15 =>
        bnd (v4 + (1 : Int32)) fun x16 =>
        f_X10_crowded_18 M n v0 v1 v4 r15 x16
        ) else (
        bnd (v4 + (1 : Int32)) fun x18 =>
        f_X10_crowded_18 M n v0 v1 v2 v3 x18
        )
      )
def f_X10_crowded (n : Nat) (o : Nat) (a1 : Int32) (M : Mem) : Option Int32 :=
  obd (f_X10_isIn a1 (0 : Int32) (1 : Int32) M) fun r2 =>
  if r2 = 0 then (
    some (-1 : Int32)
    ) else (
    f_X10_crowded_18 M n o a1 (-1 : Int32) (0 : Int32) (0 : Int32)
    )
theorem cd_X10_crowded : (yX10_crowded.cls ≠ "java/lang/invoke/MethodHandle" ∧ yX10_crowded.cls ≠ "java/lang/invoke/VarHandle") ∧ (parseMethodDescriptor yX10_crowded.desc).map (fun d => d.parameters.length) = some 1 := ⟨⟨by decide +kernel, by decide +kernel⟩, by decide +kernel⟩
section
variable {p : Program} {l : Launch} {e : Env} {R : Room} {s : State} {m : MethodId} {args : Array Value} {below : List Frame} {meth : Method} {c : Code} {G : Gam} {M0 : Mem}
theorem l_X10_crowded_18 {M : Mem} {rv : Int32} (X : Cx p R s m args c G M0 cX10_crowded yX10_crowded.cls 5 1 22) (hr : meth.sig.returnType = (some .int)) (hlk : meth.locks = false) (hnm : meth.name = "crowded") : ∀ {n : Nat} (v0 : Nat) (v1 : Int32) (v2 : Int32) (v3 : Int32) (v4 : Int32), f_X10_crowded_18 M n v0 v1 v2 v3 v4 = some rv → Sg p l e R s m args below meth c (Qm below G args s (some (.int rv)) M0 M) G M0 5 18 [(0, .ref (gB G + v0)), (1, .int v1), (2, .int v2), (3, .int v3), (4, .int v4)] [] M := by
  intro n
  induction n with
  | zero => intro v0 v1 v2 v3 v4 hf; exact (pk_none hf).elim
  | succ n ih =>
    intro v0 v1 v2 v3 v4 hf
    rw [f_X10_crowded_18] at hf
    refine s_iload X 4 dX10_crowded_18 rfl ?_
    refine s_aload_n X 0 dX10_crowded_20 rfl rfl ?_
    obtain ⟨h1, hf⟩ := pk_chk hf
    obtain ⟨o2, e3, hf⟩ := pk_bnd hf
    obtain ⟨h4, hf⟩ := pk_chk hf
    refine s_getR X (ci := 10) (k := 0) rfl (Nat.le_of_ble_eq_true rfl) h1 wd1440 (fun _ _ _ => rfl) (e3 ▸ h4) dX10_crowded_21 (e3 ▸ ?_)
    refine s_iconst X (v := (0 : Int32)) dX10_crowded_24 rfl ?_
    obtain ⟨h5, hf⟩ := pk_chk hf
    refine s_iald X h4 h5 dX10_crowded_25 ?_
    have hs6 := pk_ite hf
    clear hf
    refine s_icmp_ge X (tgt := 60) dX10_crowded_26 rfl (fun c7 => ?_) (fun c7 => ?_)
    · have hf := hs6.1 c7
      refine s_iload_n X 1 dX10_crowded_60 rfl rfl ?_
      have hs8 := pk_ite hf
      clear hf
      refine s_if_ne X (tgt := 68) dX10_crowded_61 rfl (fun c9 => ?_) (fun c9 => ?_)
      · have hf := hs8.2 c9
        refine s_iload_n X 3 dX10_crowded_68 rfl rfl ?_
        cases hf
        exact s_iret X hr hlk dX10_crowded_69
      · have hf := hs8.1 c9
        refine s_iload_n X 2 dX10_crowded_64 rfl rfl ?_
        refine s_goto X (tgt := 69) dX10_crowded_65 rfl ?_
        cases hf
        exact s_iret X hr hlk dX10_crowded_69
    · have hf := hs6.2 c7
      refine s_aload_n X 0 dX10_crowded_29 rfl rfl ?_
      refine s_iload X 4 dX10_crowded_30 rfl ?_
      refine s_iconst X (v := (3 : Int32)) dX10_crowded_32 rfl ?_
      obtain ⟨r11, hc10, hf⟩ := pk_obd hf
      refine s_callV X (ci := 10) (k_X10_of G hc10) rfl h1 wd1761 wd1763 wd79 wd1764 wd138 cd_X10_of ⟨Nat.le_of_ble_eq_true rfl, Nat.le_of_ble_eq_true rfl⟩ (Nat.le_of_ble_eq_true rfl) dX10_crowded_33 ?_
      refine s_iload_n X 3 dX10_crowded_36 rfl rfl ?_
      have hs12 := pk_ite hf
      clear hf
      refine s_icmp_gt X (tgt := 43) dX10_crowded_37 rfl (fun c13 => ?_) (fun c13 => ?_)
      · have hf := hs12.1 c13
        refine s_iload X 4 dX10_crowded_43 rfl ?_
        refine s_istore_n X (vs' := [(0, .ref (gB G + v0)), (1, .int v1), (2, .int v4), (3, .int v3), (4, .int v4)]) dX10_crowded_45 rfl (Nat.le_of_ble_eq_true rfl) [1, 2, 0, 3, 4] rfl ?_
        refine s_aload_n X 0 dX10_crowded_46 rfl rfl ?_
        refine s_iload X 4 dX10_crowded_47 rfl ?_
        refine s_iconst X (v := (3 : Int32)) dX10_crowded_49 rfl ?_
        obtain ⟨r15, hc14, hf⟩ := pk_obd hf
        refine s_callV X (ci := 10) (k_X10_of G hc14) rfl h1 wd1761 wd1763 wd79 wd1764 wd138 cd_X10_of ⟨Nat.le_of_ble_eq_true rfl, Nat.le_of_ble_eq_true rfl⟩ (Nat.le_of_ble_eq_true rfl) dX10_crowded_50 ?_
        refine s_istore_n X (vs' := [(0, .ref (gB G + v0)), (1, .int v1), (2, .int v4), (3, .int r15), (4, .int v4)]) dX10_crowded_53 rfl (Nat.le_of_ble_eq_true rfl) [1, 2, 3, 0, 4] rfl ?_
        obtain ⟨x16, e17, hf⟩ := pk_bnd hf
        refine s_iinc X (vs' := [(0, .ref (gB G + v0)), (1, .int v1), (2, .int v4), (3, .int r15), (4, .int x16)]) 4 dX10_crowded_54 rfl (v := x16) e17.symm (Nat.le_of_ble_eq_true rfl) [1, 2, 3, 4, 0] rfl ?_
        refine s_goto X (tgt := 18) dX10_crowded_57 rfl ?_
        exact ih _ _ _ _ _ hf
      · have hf := hs12.2 c13
        refine s_goto X (tgt := 54) dX10_crowded_40 rfl ?_
        obtain ⟨x18, e19, hf⟩ := pk_bnd hf
        refine s_iinc X (vs' := [(0, .ref (gB G + v0)), (1, .int v1), (2, .int v2), (3, .int v3), (4, .int x18)]) 4 dX10_crowded_54 rfl (v := x18) e19.symm (Nat.le_of_ble_eq_true rfl) [1, 2, 3, 4, 0] rfl ?_
        refine s_goto X (tgt := 18) dX10_crowded_57 rfl ?_
        exact ih _ _ _ _ _ hf
end
theorem k_X10_crowded (G : Gam) {n : Nat} {o : Nat} {a1 : Int32} {M : Mem} {rv : Int32} (hf : f_X10_crowded n o a1 M = some rv) : Kt yX10_crowded cX10_crowded 5 (some .int) 1 22 G [.ref (gB G + o), .int a1] M M (some (.int rv)) := by
  refine Kt.of (by decide) (Nat.le_of_ble_eq_true rfl) ?_
  intro p l e R s m args below meth c X hr hlk hnm
  refine s_drop [0, 1] (vs' := [(0, .ref (gB G + o)), (1, .int a1)]) rfl ?_
  rw [f_X10_crowded] at hf
  refine s_iload_n X 1 dX10_crowded_0 rfl rfl ?_
  refine s_iconst X (v := (0 : Int32)) dX10_crowded_1 rfl ?_
  refine s_iconst X (v := (1 : Int32)) dX10_crowded_2 rfl ?_
  obtain ⟨r2, hc1, hf⟩ := pk_obd hf
  refine s_callS X (k_X10_isIn G hc1) wd1520 wd1521 wd1522 wd138 cd_X10_isIn ⟨Nat.le_of_ble_eq_true rfl, Nat.le_of_ble_eq_true rfl⟩ (Nat.le_of_ble_eq_true rfl) dX10_crowded_3 ?_
  have hs3 := pk_ite hf
  clear hf
  refine s_if_ne X (tgt := 11) dX10_crowded_6 rfl (fun c4 => ?_) (fun c4 => ?_)
  · have hf := hs3.2 c4
    refine s_iconst X (v := (-1 : Int32)) dX10_crowded_11 rfl ?_
    refine s_istore_n X (vs' := [(0, .ref (gB G + o)), (1, .int a1), (2, .int (-1 : Int32))]) dX10_crowded_12 rfl (Nat.le_of_ble_eq_true rfl) [1, 2, 0] rfl ?_
    refine s_iconst X (v := (0 : Int32)) dX10_crowded_13 rfl ?_
    refine s_istore_n X (vs' := [(0, .ref (gB G + o)), (1, .int a1), (2, .int (-1 : Int32)), (3, .int (0 : Int32))]) dX10_crowded_14 rfl (Nat.le_of_ble_eq_true rfl) [1, 2, 3, 0] rfl ?_
    refine s_iconst X (v := (0 : Int32)) dX10_crowded_15 rfl ?_
    refine s_istore X (vs' := [(0, .ref (gB G + o)), (1, .int a1), (2, .int (-1 : Int32)), (3, .int (0 : Int32)), (4, .int (0 : Int32))]) dX10_crowded_16 (Nat.le_of_ble_eq_true rfl) [1, 2, 3, 4, 0] rfl ?_
    exact l_X10_crowded_18 X hr hlk hnm _ _ _ _ _ hf
  · have hf := hs3.1 c4
    refine s_iconst X (v := (-1 : Int32)) dX10_crowded_9 rfl ?_
    cases hf
    exact s_iret X hr hlk dX10_crowded_10
theorem dX9_trace_0 : decode cX9_trace 0 = .ok (.aload_n 0, 1) := dk_42 (by decide +kernel)
theorem dX9_trace_1 : decode cX9_trace 1 = .ok (.getfield 28, 3) := dk_180 (x := 0) (y := 28) (by decide +kernel) rfl
theorem dX9_trace_4 : decode cX9_trace 4 = .ok (.getfield 301, 3) := dk_180 (x := 1) (y := 45) (by decide +kernel) rfl
theorem dX9_trace_7 : decode cX9_trace 7 = .ok (.iload_n 1, 1) := dk_27 (by decide +kernel)
theorem dX9_trace_8 : decode cX9_trace 8 = .ok (.iload_n 2, 1) := dk_28 (by decide +kernel)
theorem dX9_trace_9 : decode cX9_trace 9 = .ok (.invokevirtual 293, 3) := dk_182 (x := 1) (y := 37) (by decide +kernel) rfl
theorem dX9_trace_12 : decode cX9_trace 12 = .ok (.ireturn, 1) := dk_172 (by decide +kernel)
def f_X9_trace (o : Nat) (a1 : Int32) (a2 : Int32) (M : Mem) : Option Int32 :=
  chk (isO M 9 o) <|
  bnd (mR M o 2) fun o2 =>
  chk (isO M 2 o2) <|
  bnd (mR M o2 4) fun o5 =>
  chk (isO M 3 o5) <|
  obd (f_X3_tell o5 a1 a2 M) fun r9 =>
  some r9
theorem cd_X9_trace : (yX9_trace.cls ≠ "java/lang/invoke/MethodHandle" ∧ yX9_trace.cls ≠ "java/lang/invoke/VarHandle") ∧ (parseMethodDescriptor yX9_trace.desc).map (fun d => d.parameters.length) = some 2 := ⟨⟨by decide +kernel, by decide +kernel⟩, by decide +kernel⟩
theorem k_X9_trace (G : Gam) {o : Nat} {a1 : Int32} {a2 : Int32} {M : Mem} {rv : Int32} (hf : f_X9_trace o a1 a2 M = some rv) : Kt yX9_trace cX9_trace 3 (some .int) 1 23 G [.ref (gB G + o), .int a1, .int a2] M M (some (.int rv)) := by
  refine Kt.of (by decide) (Nat.le_of_ble_eq_true rfl) ?_
  intro p l e R s m args below meth c X hr hlk hnm
  refine s_drop [0, 1, 2] (vs' := [(0, .ref (gB G + o)), (1, .int a1), (2, .int a2)]) rfl ?_
  rw [f_X9_trace] at hf
  refine s_aload_n X 0 dX9_trace_0 rfl rfl ?_
  obtain ⟨h1, hf⟩ := pk_chk hf
  obtain ⟨o2, e3, hf⟩ := pk_bnd hf
  obtain ⟨h4, hf⟩ := pk_chk hf
  refine s_getR X (ci := 9) (k := 2) rfl (Nat.le_of_ble_eq_true rfl) h1 wd629 (fun _ _ _ => rfl) (e3 ▸ h4) dX9_trace_1 (e3 ▸ ?_)
  obtain ⟨o5, e6, hf⟩ := pk_bnd hf
  obtain ⟨h7, hf⟩ := pk_chk hf
  refine s_getR X (ci := 2) (k := 4) rfl (Nat.le_of_ble_eq_true rfl) h4 wd430 (fun _ _ _ => rfl) (e6 ▸ h7) dX9_trace_4 (e6 ▸ ?_)
  refine s_iload_n X 1 dX9_trace_7 rfl rfl ?_
  refine s_iload_n X 2 dX9_trace_8 rfl rfl ?_
  obtain ⟨r9, hc8, hf⟩ := pk_obd hf
  refine s_callV X (ci := 3) (k_X3_tell G hc8) rfl h7 wd1188 wd1189 wd1190 wd1191 wd132 cd_X3_tell ⟨Nat.le_of_ble_eq_true rfl, Nat.le_of_ble_eq_true rfl⟩ (Nat.le_of_ble_eq_true rfl) dX9_trace_9 ?_
  cases hf
  exact s_iret X hr hlk dX9_trace_12
theorem dX10_trace_0 : decode cX10_trace 0 = .ok (.iload_n 1, 1) := dk_27 (by decide +kernel)
theorem dX10_trace_1 : decode cX10_trace 1 = .ok (.iconst (-1), 1) := dk_2 (by decide +kernel)
theorem dX10_trace_2 : decode cX10_trace 2 = .ok (.if_icmp .ne 12, 3) := dk_160 (x := 0) (y := 12) (by decide +kernel) rfl
theorem dX10_trace_5 : decode cX10_trace 5 = .ok (.aload_n 0, 1) := dk_42 (by decide +kernel)
theorem dX10_trace_6 : decode cX10_trace 6 = .ok (.getfield 7, 3) := dk_180 (x := 0) (y := 7) (by decide +kernel) rfl
theorem dX10_trace_9 : decode cX10_trace 9 = .ok (.sipush 9858, 3) := dk_17 (x := 38) (y := 130) (by decide +kernel) rfl
theorem dX10_trace_12 : decode cX10_trace 12 = .ok (.iaload, 1) := dk_46 (by decide +kernel)
theorem dX10_trace_13 : decode cX10_trace 13 = .ok (.ireturn, 1) := dk_172 (by decide +kernel)
theorem dX10_trace_14 : decode cX10_trace 14 = .ok (.iload_n 1, 1) := dk_27 (by decide +kernel)
theorem dX10_trace_15 : decode cX10_trace 15 = .ok (.iconst 0, 1) := dk_3 (by decide +kernel)
theorem dX10_trace_16 : decode cX10_trace 16 = .ok (.aload_n 0, 1) := dk_42 (by decide +kernel)
theorem dX10_trace_17 : decode cX10_trace 17 = .ok (.getfield 7, 3) := dk_180 (x := 0) (y := 7) (by decide +kernel) rfl
theorem dX10_trace_20 : decode cX10_trace 20 = .ok (.sipush 9858, 3) := dk_17 (x := 38) (y := 130) (by decide +kernel) rfl
theorem dX10_trace_23 : decode cX10_trace 23 = .ok (.iaload, 1) := dk_46 (by decide +kernel)
theorem dX10_trace_24 : decode cX10_trace 24 = .ok (.iconst 1, 1) := dk_4 (by decide +kernel)
theorem dX10_trace_25 : decode cX10_trace 25 = .ok (.isub, 1) := dk_100 (by decide +kernel)
theorem dX10_trace_26 : decode cX10_trace 26 = .ok (.invokestatic 49, 3) := dk_184 (x := 0) (y := 49) (by decide +kernel) rfl
theorem dX10_trace_29 : decode cX10_trace 29 = .ok (.ifCond .eq 40, 3) := dk_153 (x := 0) (y := 40) (by decide +kernel) rfl
theorem dX10_trace_32 : decode cX10_trace 32 = .ok (.iload_n 2, 1) := dk_28 (by decide +kernel)
theorem dX10_trace_33 : decode cX10_trace 33 = .ok (.iconst 0, 1) := dk_3 (by decide +kernel)
theorem dX10_trace_34 : decode cX10_trace 34 = .ok (.iconst 3, 1) := dk_6 (by decide +kernel)
theorem dX10_trace_35 : decode cX10_trace 35 = .ok (.invokestatic 49, 3) := dk_184 (x := 0) (y := 49) (by decide +kernel) rfl
theorem dX10_trace_38 : decode cX10_trace 38 = .ok (.ifCond .eq 31, 3) := dk_153 (x := 0) (y := 31) (by decide +kernel) rfl
theorem dX10_trace_41 : decode cX10_trace 41 = .ok (.aload_n 0, 1) := dk_42 (by decide +kernel)
theorem dX10_trace_42 : decode cX10_trace 42 = .ok (.getfield 7, 3) := dk_180 (x := 0) (y := 7) (by decide +kernel) rfl
theorem dX10_trace_45 : decode cX10_trace 45 = .ok (.sipush 10033, 3) := dk_17 (x := 39) (y := 49) (by decide +kernel) rfl
theorem dX10_trace_48 : decode cX10_trace 48 = .ok (.iconst 4, 1) := dk_7 (by decide +kernel)
theorem dX10_trace_49 : decode cX10_trace 49 = .ok (.aload_n 0, 1) := dk_42 (by decide +kernel)
theorem dX10_trace_50 : decode cX10_trace 50 = .ok (.getfield 7, 3) := dk_180 (x := 0) (y := 7) (by decide +kernel) rfl
theorem dX10_trace_53 : decode cX10_trace 53 = .ok (.sipush 9858, 3) := dk_17 (x := 38) (y := 130) (by decide +kernel) rfl
theorem dX10_trace_56 : decode cX10_trace 56 = .ok (.iaload, 1) := dk_46 (by decide +kernel)
theorem dX10_trace_57 : decode cX10_trace 57 = .ok (.iconst 1, 1) := dk_4 (by decide +kernel)
theorem dX10_trace_58 : decode cX10_trace 58 = .ok (.isub, 1) := dk_100 (by decide +kernel)
theorem dX10_trace_59 : decode cX10_trace 59 = .ok (.iload_n 1, 1) := dk_27 (by decide +kernel)
theorem dX10_trace_60 : decode cX10_trace 60 = .ok (.isub, 1) := dk_100 (by decide +kernel)
theorem dX10_trace_61 : decode cX10_trace 61 = .ok (.imul, 1) := dk_104 (by decide +kernel)
theorem dX10_trace_62 : decode cX10_trace 62 = .ok (.iadd, 1) := dk_96 (by decide +kernel)
theorem dX10_trace_63 : decode cX10_trace 63 = .ok (.iload_n 2, 1) := dk_28 (by decide +kernel)
theorem dX10_trace_64 : decode cX10_trace 64 = .ok (.iadd, 1) := dk_96 (by decide +kernel)
theorem dX10_trace_65 : decode cX10_trace 65 = .ok (.iaload, 1) := dk_46 (by decide +kernel)
theorem dX10_trace_66 : decode cX10_trace 66 = .ok (.goto 5, 3) := dk_167 (x := 0) (y := 5) (by decide +kernel) rfl
theorem dX10_trace_69 : decode cX10_trace 69 = .ok (.bipush (-2), 2) := dk_16 (x := 254) (by decide +kernel) rfl
theorem dX10_trace_71 : decode cX10_trace 71 = .ok (.ireturn, 1) := dk_172 (by decide +kernel)
def f_X10_trace (o : Nat) (a1 : Int32) (a2 : Int32) (M : Mem) : Option Int32 :=
  if a1 = (-1 : Int32) then (
    chk (isO M 10 o) <|
    bnd (mR M o 0) fun o25 =>
    chk (isO M 100 o25) <|
    chk (inB (9858 : Int32) (mLn M o25)) <|
    some (mI M o25 ((9858 : Int32)).toNatClampNeg)
    ) else (
    chk (isO M 10 o) <|
    bnd (mR M o 0) fun o4 =>
    chk (isO M 100 o4) <|
    chk (inB (9858 : Int32) (mLn M o4)) <|
    obd (f_X10_isIn a1 (0 : Int32) ((mI M o4 ((9858 : Int32)).toNatClampNeg) - (1 : Int32)) M) fun r9 =>
    if r9 = 0 then (
      some (-2 : Int32)
      ) else (
      obd (f_X10_isIn a2 (0 : Int32) (3 : Int32) M) fun r13 =>
      if r13 = 0 then (
        some (-2 : Int32)
        ) else (
        bnd (mR M o 0) fun o16 =>
        chk (isO M 100 o16) <|
        bnd (mR M o 0) fun o19 =>
        chk (isO M 100 o19) <|
        chk (inB (9858 : Int32) (mLn M o19)) <|
        chk (inB (((10033 : Int32) + ((4 : Int32) * (((mI M o19 ((9858 : Int32)).toNatClampNeg) - (1 : Int32)) - a1))) + a2) (mLn M o16)) <|
        some (mI M o16 ((((10033 : Int32) + ((4 : Int32) * (((mI M o19 ((9858 : Int32)).toNatClampNeg) - (1 : Int32)) - a1))) + a2)).toNatClampNeg)
        )
      )
    )
theorem cd_X10_trace : (yX10_trace.cls ≠ "java/lang/invoke/MethodHandle" ∧ yX10_trace.cls ≠ "java/lang/invoke/VarHandle") ∧ (parseMethodDescriptor yX10_trace.desc).map (fun d => d.parameters.length) = some 2 := ⟨⟨by decide +kernel, by decide +kernel⟩, by decide +kernel⟩
theorem k_X10_trace (G : Gam) {o : Nat} {a1 : Int32} {a2 : Int32} {M : Mem} {rv : Int32} (hf : f_X10_trace o a1 a2 M = some rv) : Kt yX10_trace cX10_trace 3 (some .int) 1 22 G [.ref (gB G + o), .int a1, .int a2] M M (some (.int rv)) := by
  refine Kt.of (by decide) (Nat.le_of_ble_eq_true rfl) ?_
  intro p l e R s m args below meth c X hr hlk hnm
  refine s_drop [0, 1, 2] (vs' := [(0, .ref (gB G + o)), (1, .int a1), (2, .int a2)]) rfl ?_
  rw [f_X10_trace] at hf
  refine s_iload_n X 1 dX10_trace_0 rfl rfl ?_
  refine s_iconst X (v := (-1 : Int32)) dX10_trace_1 rfl ?_
  have hs1 := pk_ite hf
  clear hf
  refine s_icmp_ne X (tgt := 14) dX10_trace_2 rfl (fun c2 => ?_) (fun c2 => ?_)
  · have hf := hs1.2 c2
    refine s_iload_n X 1 dX10_trace_14 rfl rfl ?_
    refine s_iconst X (v := (0 : Int32)) dX10_trace_15 rfl ?_
    refine s_aload_n X 0 dX10_trace_16 rfl rfl ?_
    obtain ⟨h3, hf⟩ := pk_chk hf
    obtain ⟨o4, e5, hf⟩ := pk_bnd hf
    obtain ⟨h6, hf⟩ := pk_chk hf
    refine s_getR X (ci := 10) (k := 0) rfl (Nat.le_of_ble_eq_true rfl) h3 wd1440 (fun _ _ _ => rfl) (e5 ▸ h6) dX10_trace_17 (e5 ▸ ?_)
    refine s_sipush X (v := (9858 : Int32)) dX10_trace_20 rfl ?_
    obtain ⟨h7, hf⟩ := pk_chk hf
    refine s_iald X h6 h7 dX10_trace_23 ?_
    refine s_iconst X (v := (1 : Int32)) dX10_trace_24 rfl ?_
    refine s_isub X dX10_trace_25 ?_
    obtain ⟨r9, hc8, hf⟩ := pk_obd hf
    refine s_callS X (k_X10_isIn G hc8) wd1520 wd1521 wd1522 wd138 cd_X10_isIn ⟨Nat.le_of_ble_eq_true rfl, Nat.le_of_ble_eq_true rfl⟩ (Nat.le_of_ble_eq_true rfl) dX10_trace_26 ?_
    have hs10 := pk_ite hf
    clear hf
    refine s_if_eq X (tgt := 69) dX10_trace_29 rfl (fun c11 => ?_) (fun c11 => ?_)
    · have hf := hs10.1 c11
      refine s_bipush X (v := (-2 : Int32)) dX10_trace_69 rfl ?_
      cases hf
      exact s_iret X hr hlk dX10_trace_71
    · have hf := hs10.2 c11
      refine s_iload_n X 2 dX10_trace_32 rfl rfl ?_
      refine s_iconst X (v := (0 : Int32)) dX10_trace_33 rfl ?_
      refine s_iconst X (v := (3 : Int32)) dX10_trace_34 rfl ?_
      obtain ⟨r13, hc12, hf⟩ := pk_obd hf
      refine s_callS X (k_X10_isIn G hc12) wd1520 wd1521 wd1522 wd138 cd_X10_isIn ⟨Nat.le_of_ble_eq_true rfl, Nat.le_of_ble_eq_true rfl⟩ (Nat.le_of_ble_eq_true rfl) dX10_trace_35 ?_
      have hs14 := pk_ite hf
      clear hf
      refine s_if_eq X (tgt := 69) dX10_trace_38 rfl (fun c15 => ?_) (fun c15 => ?_)
      · have hf := hs14.1 c15
        refine s_bipush X (v := (-2 : Int32)) dX10_trace_69 rfl ?_
        cases hf
        exact s_iret X hr hlk dX10_trace_71
      · have hf := hs14.2 c15
        refine s_aload_n X 0 dX10_trace_41 rfl rfl ?_
        obtain ⟨o16, e17, hf⟩ := pk_bnd hf
        obtain ⟨h18, hf⟩ := pk_chk hf
        refine s_getR X (ci := 10) (k := 0) rfl (Nat.le_of_ble_eq_true rfl) h3 wd1440 (fun _ _ _ => rfl) (e17 ▸ h18) dX10_trace_42 (e17 ▸ ?_)
        refine s_sipush X (v := (10033 : Int32)) dX10_trace_45 rfl ?_
        refine s_iconst X (v := (4 : Int32)) dX10_trace_48 rfl ?_
        refine s_aload_n X 0 dX10_trace_49 rfl rfl ?_
        obtain ⟨o19, e20, hf⟩ := pk_bnd hf
        obtain ⟨h21, hf⟩ := pk_chk hf
        refine s_getR X (ci := 10) (k := 0) rfl (Nat.le_of_ble_eq_true rfl) h3 wd1440 (fun _ _ _ => rfl) (e20 ▸ h21) dX10_trace_50 (e20 ▸ ?_)
        refine s_sipush X (v := (9858 : Int32)) dX10_trace_53 rfl ?_
        obtain ⟨h22, hf⟩ := pk_chk hf
        refine s_iald X h21 h22 dX10_trace_56 ?_
        refine s_iconst X (v := (1 : Int32)) dX10_trace_57 rfl ?_
        refine s_isub X dX10_trace_58 ?_
        refine s_iload_n X 1 dX10_trace_59 rfl rfl ?_
        refine s_isub X dX10_trace_60 ?_
        refine s_imul X dX10_trace_61 ?_
        refine s_iadd X dX10_trace_62 ?_
        refine s_iload_n X 2 dX10_trace_63 rfl rfl ?_
        refine s_iadd X dX10_trace_64 ?_
        obtain ⟨h23, hf⟩ := pk_chk hf
        refine s_iald X h18 h23 dX10_trace_65 ?_
        refine s_goto X (tgt := 71) dX10_trace_66 rfl ?_
        cases hf
        exact s_iret X hr hlk dX10_trace_71
  · have hf := hs1.1 c2
    refine s_aload_n X 0 dX10_trace_5 rfl rfl ?_
    obtain ⟨h24, hf⟩ := pk_chk hf
    obtain ⟨o25, e26, hf⟩ := pk_bnd hf
    obtain ⟨h27, hf⟩ := pk_chk hf
    refine s_getR X (ci := 10) (k := 0) rfl (Nat.le_of_ble_eq_true rfl) h24 wd1440 (fun _ _ _ => rfl) (e26 ▸ h27) dX10_trace_6 (e26 ▸ ?_)
    refine s_sipush X (v := (9858 : Int32)) dX10_trace_9 rfl ?_
    obtain ⟨h28, hf⟩ := pk_chk hf
    refine s_iald X h27 h28 dX10_trace_12 ?_
    cases hf
    exact s_iret X hr hlk dX10_trace_13
theorem dX9_memberAt_0 : decode cX9_memberAt 0 = .ok (.iload_n 1, 1) := dk_27 (by decide +kernel)
theorem dX9_memberAt_1 : decode cX9_memberAt 1 = .ok (.istore_n 2, 1) := dk_61 (by decide +kernel)
theorem dX9_memberAt_2 : decode cX9_memberAt 2 = .ok (.iconst 0, 1) := dk_3 (by decide +kernel)
theorem dX9_memberAt_3 : decode cX9_memberAt 3 = .ok (.istore_n 3, 1) := dk_62 (by decide +kernel)
theorem dX9_memberAt_4 : decode cX9_memberAt 4 = .ok (.iload_n 3, 1) := dk_29 (by decide +kernel)
theorem dX9_memberAt_5 : decode cX9_memberAt 5 = .ok (.bipush 16, 2) := dk_16 (x := 16) (by decide +kernel) rfl
theorem dX9_memberAt_7 : decode cX9_memberAt 7 = .ok (.if_icmp .ge 26, 3) := dk_162 (x := 0) (y := 26) (by decide +kernel) rfl
theorem dX9_memberAt_10 : decode cX9_memberAt 10 = .ok (.iload_n 0, 1) := dk_26 (by decide +kernel)
theorem dX9_memberAt_11 : decode cX9_memberAt 11 = .ok (.iload_n 3, 1) := dk_29 (by decide +kernel)
theorem dX9_memberAt_12 : decode cX9_memberAt 12 = .ok (.invokestatic 180, 3) := dk_184 (x := 0) (y := 180) (by decide +kernel) rfl
theorem dX9_memberAt_15 : decode cX9_memberAt 15 = .ok (.ifCond .eq 12, 3) := dk_153 (x := 0) (y := 12) (by decide +kernel) rfl
theorem dX9_memberAt_18 : decode cX9_memberAt 18 = .ok (.iload_n 2, 1) := dk_28 (by decide +kernel)
theorem dX9_memberAt_19 : decode cX9_memberAt 19 = .ok (.ifCond .ne 5, 3) := dk_154 (x := 0) (y := 5) (by decide +kernel) rfl
theorem dX9_memberAt_22 : decode cX9_memberAt 22 = .ok (.iload_n 3, 1) := dk_29 (by decide +kernel)
theorem dX9_memberAt_23 : decode cX9_memberAt 23 = .ok (.ireturn, 1) := dk_172 (by decide +kernel)
theorem dX9_memberAt_24 : decode cX9_memberAt 24 = .ok (.iinc 2 (-1), 3) := dk_132 (x := 2) (y := 255) (by decide +kernel) rfl
theorem dX9_memberAt_27 : decode cX9_memberAt 27 = .ok (.iinc 3 1, 3) := dk_132 (x := 3) (y := 1) (by decide +kernel) rfl
theorem dX9_memberAt_30 : decode cX9_memberAt 30 = .ok (.goto (-26), 3) := dk_167 (x := 255) (y := 230) (by decide +kernel) rfl
theorem dX9_memberAt_33 : decode cX9_memberAt 33 = .ok (.iconst (-1), 1) := dk_2 (by decide +kernel)
theorem dX9_memberAt_34 : decode cX9_memberAt 34 = .ok (.ireturn, 1) := dk_172 (by decide +kernel)
def f_X9_memberAt_4 (M : Mem) : Nat → Int32 → Int32 → Int32 → Option Int32
  | 0, _, _, _ => none
  | n + 1, v0, v2, v3 =>
    if (16 : Int32) ≤ v3 then (
      some (-1 : Int32)
      ) else (
      obd (f_X9_has v0 v3 M) fun r4 =>
      if r4 = 0 then (
        bnd (v3 + (1 : Int32)) fun x7 =>
        f_X9_memberAt_4 M n v0 v2 x7
        ) else (
        if v2 = 0 then (
          some v3
          ) else (
          bnd (v2 + (-1 : Int32)) fun x11 =>
          bnd (v3 + (1 : Int32)) fun x13 =>
          f_X9_memberAt_4 M n v0 x11 x13
          )
        )
      )
def f_X9_memberAt (n : Nat) (a1 : Int32) (a2 : Int32) (M : Mem) : Option Int32 :=
  f_X9_memberAt_4 M n a1 a2 (0 : Int32)
theorem cd_X9_memberAt : (yX9_memberAt.cls ≠ "java/lang/invoke/MethodHandle" ∧ yX9_memberAt.cls ≠ "java/lang/invoke/VarHandle") ∧ (parseMethodDescriptor yX9_memberAt.desc).map (fun d => d.parameters.length) = some 2 := ⟨⟨by decide +kernel, by decide +kernel⟩, by decide +kernel⟩
section
variable {p : Program} {l : Launch} {e : Env} {R : Room} {s : State} {m : MethodId} {args : Array Value} {below : List Frame} {meth : Method} {c : Code} {G : Gam} {M0 : Mem}
theorem l_X9_memberAt_4 {M : Mem} {rv : Int32} (X : Cx p R s m args c G M0 cX9_memberAt yX9_memberAt.cls 4 1 21) (hr : meth.sig.returnType = (some .int)) (hlk : meth.locks = false) (hnm : meth.name = "memberAt") : ∀ {n : Nat} (v0 : Int32) (v2 : Int32) (v3 : Int32), f_X9_memberAt_4 M n v0 v2 v3 = some rv → Sg p l e R s m args below meth c (Qm below G args s (some (.int rv)) M0 M) G M0 4 4 [(0, .int v0), (2, .int v2), (3, .int v3)] [] M := by
  intro n
  induction n with
  | zero => intro v0 v2 v3 hf; exact (pk_none hf).elim
  | succ n ih =>
    intro v0 v2 v3 hf
    rw [f_X9_memberAt_4] at hf
    refine s_iload_n X 2 dX9_memberAt_4 rfl rfl ?_
    refine s_bipush X (v := (16 : Int32)) dX9_memberAt_5 rfl ?_
    have hs1 := pk_ite hf
    clear hf
    refine s_icmp_ge X (tgt := 33) dX9_memberAt_7 rfl (fun c2 => ?_) (fun c2 => ?_)
    · have hf := hs1.1 c2
      refine s_iconst X (v := (-1 : Int32)) dX9_memberAt_33 rfl ?_
      cases hf
      exact s_iret X hr hlk dX9_memberAt_34
    · have hf := hs1.2 c2
      refine s_iload_n X 0 dX9_memberAt_10 rfl rfl ?_
      refine s_iload_n X 2 dX9_memberAt_11 rfl rfl ?_
      obtain ⟨r4, hc3, hf⟩ := pk_obd hf
      refine s_callS X (k_X9_has G hc3) wd966 wd712 wd713 wd126 cd_X9_has ⟨Nat.le_of_ble_eq_true rfl, Nat.le_of_ble_eq_true rfl⟩ (Nat.le_of_ble_eq_true rfl) dX9_memberAt_12 ?_
      have hs5 := pk_ite hf
      clear hf
      refine s_if_eq X (tgt := 27) dX9_memberAt_15 rfl (fun c6 => ?_) (fun c6 => ?_)
      · have hf := hs5.1 c6
        obtain ⟨x7, e8, hf⟩ := pk_bnd hf
        refine s_iinc X (vs' := [(0, .int v0), (2, .int v2), (3, .int x7)]) 2 dX9_memberAt_27 rfl (v := x7) e8.symm (Nat.le_of_ble_eq_true rfl) [1, 2, 0] rfl ?_
        refine s_goto X (tgt := 4) dX9_memberAt_30 rfl ?_
        exact ih _ _ _ hf
      · have hf := hs5.2 c6
        refine s_iload_n X 1 dX9_memberAt_18 rfl rfl ?_
        have hs9 := pk_ite hf
        clear hf
        refine s_if_ne X (tgt := 24) dX9_memberAt_19 rfl (fun c10 => ?_) (fun c10 => ?_)
        · have hf := hs9.2 c10
          obtain ⟨x11, e12, hf⟩ := pk_bnd hf
          refine s_iinc X (vs' := [(0, .int v0), (2, .int x11), (3, .int v3)]) 1 dX9_memberAt_24 rfl (v := x11) e12.symm (Nat.le_of_ble_eq_true rfl) [1, 0, 2] rfl ?_
          obtain ⟨x13, e14, hf⟩ := pk_bnd hf
          refine s_iinc X (vs' := [(0, .int v0), (2, .int x11), (3, .int x13)]) 2 dX9_memberAt_27 rfl (v := x13) e14.symm (Nat.le_of_ble_eq_true rfl) [1, 2, 0] rfl ?_
          refine s_goto X (tgt := 4) dX9_memberAt_30 rfl ?_
          exact ih _ _ _ hf
        · have hf := hs9.1 c10
          refine s_iload_n X 2 dX9_memberAt_22 rfl rfl ?_
          cases hf
          exact s_iret X hr hlk dX9_memberAt_23
end
theorem k_X9_memberAt (G : Gam) {n : Nat} {a1 : Int32} {a2 : Int32} {M : Mem} {rv : Int32} (hf : f_X9_memberAt n a1 a2 M = some rv) : Kt yX9_memberAt cX9_memberAt 4 (some .int) 1 21 G [.int a1, .int a2] M M (some (.int rv)) := by
  refine Kt.of (by decide) (Nat.le_of_ble_eq_true rfl) ?_
  intro p l e R s m args below meth c X hr hlk hnm
  refine s_drop [0, 1] (vs' := [(0, .int a1), (1, .int a2)]) rfl ?_
  rw [f_X9_memberAt] at hf
  refine s_iload_n X 1 dX9_memberAt_0 rfl rfl ?_
  refine s_istore_n X (vs' := [(0, .int a1), (1, .int a2), (2, .int a2)]) dX9_memberAt_1 rfl (Nat.le_of_ble_eq_true rfl) [1, 2, 0] rfl ?_
  refine s_iconst X (v := (0 : Int32)) dX9_memberAt_2 rfl ?_
  refine s_istore_n X (vs' := [(0, .int a1), (1, .int a2), (2, .int a2), (3, .int (0 : Int32))]) dX9_memberAt_3 rfl (Nat.le_of_ble_eq_true rfl) [1, 2, 3, 0] rfl ?_
  refine s_drop [0, 2, 3] (vs' := [(0, .int a1), (2, .int a2), (3, .int (0 : Int32))]) rfl ?_
  exact l_X9_memberAt_4 X hr hlk hnm _ _ _ hf
theorem dX2_makeMove_0 : decode cX2_makeMove 0 = .ok (.iload_n 1, 1) := dk_27 (by decide +kernel)
theorem dX2_makeMove_1 : decode cX2_makeMove 1 = .ok (.istore_n 2, 1) := dk_61 (by decide +kernel)
theorem dX2_makeMove_2 : decode cX2_makeMove 2 = .ok (.iconst 0, 1) := dk_3 (by decide +kernel)
theorem dX2_makeMove_3 : decode cX2_makeMove 3 = .ok (.istore_n 3, 1) := dk_62 (by decide +kernel)
theorem dX2_makeMove_4 : decode cX2_makeMove 4 = .ok (.iload_n 3, 1) := dk_29 (by decide +kernel)
theorem dX2_makeMove_5 : decode cX2_makeMove 5 = .ok (.aload_n 0, 1) := dk_42 (by decide +kernel)
theorem dX2_makeMove_6 : decode cX2_makeMove 6 = .ok (.getfield 43, 3) := dk_180 (x := 0) (y := 43) (by decide +kernel) rfl
theorem dX2_makeMove_9 : decode cX2_makeMove 9 = .ok (.getfield 94, 3) := dk_180 (x := 0) (y := 94) (by decide +kernel) rfl
theorem dX2_makeMove_12 : decode cX2_makeMove 12 = .ok (.if_icmp .ge 54, 3) := dk_162 (x := 0) (y := 54) (by decide +kernel) rfl
theorem dX2_makeMove_15 : decode cX2_makeMove 15 = .ok (.aload_n 0, 1) := dk_42 (by decide +kernel)
theorem dX2_makeMove_16 : decode cX2_makeMove 16 = .ok (.getfield 12, 3) := dk_180 (x := 0) (y := 12) (by decide +kernel) rfl
theorem dX2_makeMove_19 : decode cX2_makeMove 19 = .ok (.getfield 287, 3) := dk_180 (x := 1) (y := 31) (by decide +kernel) rfl
theorem dX2_makeMove_22 : decode cX2_makeMove 22 = .ok (.iload_n 3, 1) := dk_29 (by decide +kernel)
theorem dX2_makeMove_23 : decode cX2_makeMove 23 = .ok (.iaload, 1) := dk_46 (by decide +kernel)
theorem dX2_makeMove_24 : decode cX2_makeMove 24 = .ok (.invokestatic 272, 3) := dk_184 (x := 1) (y := 16) (by decide +kernel) rfl
theorem dX2_makeMove_27 : decode cX2_makeMove 27 = .ok (.istore 4, 2) := dk_54 (x := 4) (by decide +kernel)
theorem dX2_makeMove_29 : decode cX2_makeMove 29 = .ok (.iload_n 2, 1) := dk_28 (by decide +kernel)
theorem dX2_makeMove_30 : decode cX2_makeMove 30 = .ok (.iload 4, 2) := dk_21 (x := 4) (by decide +kernel)
theorem dX2_makeMove_32 : decode cX2_makeMove 32 = .ok (.if_icmp .ge 23, 3) := dk_162 (x := 0) (y := 23) (by decide +kernel) rfl
theorem dX2_makeMove_35 : decode cX2_makeMove 35 = .ok (.aload_n 0, 1) := dk_42 (by decide +kernel)
theorem dX2_makeMove_36 : decode cX2_makeMove 36 = .ok (.iload_n 3, 1) := dk_29 (by decide +kernel)
theorem dX2_makeMove_37 : decode cX2_makeMove 37 = .ok (.aload_n 0, 1) := dk_42 (by decide +kernel)
theorem dX2_makeMove_38 : decode cX2_makeMove 38 = .ok (.getfield 12, 3) := dk_180 (x := 0) (y := 12) (by decide +kernel) rfl
theorem dX2_makeMove_41 : decode cX2_makeMove 41 = .ok (.getfield 287, 3) := dk_180 (x := 1) (y := 31) (by decide +kernel) rfl
theorem dX2_makeMove_44 : decode cX2_makeMove 44 = .ok (.iload_n 3, 1) := dk_29 (by decide +kernel)
theorem dX2_makeMove_45 : decode cX2_makeMove 45 = .ok (.iaload, 1) := dk_46 (by decide +kernel)
theorem dX2_makeMove_46 : decode cX2_makeMove 46 = .ok (.iload_n 2, 1) := dk_28 (by decide +kernel)
theorem dX2_makeMove_47 : decode cX2_makeMove 47 = .ok (.invokestatic 290, 3) := dk_184 (x := 1) (y := 34) (by decide +kernel) rfl
theorem dX2_makeMove_50 : decode cX2_makeMove 50 = .ok (.invokevirtual 293, 3) := dk_182 (x := 1) (y := 37) (by decide +kernel) rfl
theorem dX2_makeMove_53 : decode cX2_makeMove 53 = .ok (.pop, 1) := dk_87 (by decide +kernel)
theorem dX2_makeMove_54 : decode cX2_makeMove 54 = .ok (.return_, 1) := dk_177 (by decide +kernel)
theorem dX2_makeMove_55 : decode cX2_makeMove 55 = .ok (.iload_n 2, 1) := dk_28 (by decide +kernel)
theorem dX2_makeMove_56 : decode cX2_makeMove 56 = .ok (.iload 4, 2) := dk_21 (x := 4) (by decide +kernel)
theorem dX2_makeMove_58 : decode cX2_makeMove 58 = .ok (.isub, 1) := dk_100 (by decide +kernel)
theorem dX2_makeMove_59 : decode cX2_makeMove 59 = .ok (.istore_n 2, 1) := dk_61 (by decide +kernel)
theorem dX2_makeMove_60 : decode cX2_makeMove 60 = .ok (.iinc 3 1, 3) := dk_132 (x := 3) (y := 1) (by decide +kernel) rfl
theorem dX2_makeMove_63 : decode cX2_makeMove 63 = .ok (.goto (-59), 3) := dk_167 (x := 255) (y := 197) (by decide +kernel) rfl
theorem dX2_makeMove_66 : decode cX2_makeMove 66 = .ok (.iload_n 2, 1) := dk_28 (by decide +kernel)
theorem dX2_makeMove_67 : decode cX2_makeMove 67 = .ok (.aload_n 0, 1) := dk_42 (by decide +kernel)
theorem dX2_makeMove_68 : decode cX2_makeMove 68 = .ok (.getfield 55, 3) := dk_180 (x := 0) (y := 55) (by decide +kernel) rfl
theorem dX2_makeMove_71 : decode cX2_makeMove 71 = .ok (.invokestatic 272, 3) := dk_184 (x := 1) (y := 16) (by decide +kernel) rfl
theorem dX2_makeMove_74 : decode cX2_makeMove 74 = .ok (.if_icmp .ge 15, 3) := dk_162 (x := 0) (y := 15) (by decide +kernel) rfl
theorem dX2_makeMove_77 : decode cX2_makeMove 77 = .ok (.aload_n 0, 1) := dk_42 (by decide +kernel)
theorem dX2_makeMove_78 : decode cX2_makeMove 78 = .ok (.aload_n 0, 1) := dk_42 (by decide +kernel)
theorem dX2_makeMove_79 : decode cX2_makeMove 79 = .ok (.getfield 55, 3) := dk_180 (x := 0) (y := 55) (by decide +kernel) rfl
theorem dX2_makeMove_82 : decode cX2_makeMove 82 = .ok (.iload_n 2, 1) := dk_28 (by decide +kernel)
theorem dX2_makeMove_83 : decode cX2_makeMove 83 = .ok (.invokestatic 290, 3) := dk_184 (x := 1) (y := 34) (by decide +kernel) rfl
theorem dX2_makeMove_86 : decode cX2_makeMove 86 = .ok (.invokevirtual 296, 3) := dk_182 (x := 1) (y := 40) (by decide +kernel) rfl
theorem dX2_makeMove_89 : decode cX2_makeMove 89 = .ok (.return_, 1) := dk_177 (by decide +kernel)
def f_X2_makeMove_4 : Nat → Nat → Int32 → Int32 → Mem → Option Mem
  | 0, _, _, _, _ => none
  | n + 1, v0, v2, v3, M =>
    chk (isO M 2 v0) <|
    bnd (mR M v0 0) fun o2 =>
    chk (isO M 7 o2) <|
    if (mI M o2 3) ≤ v3 then (
      obd (f_J6_bitCount_0f7a4 (mI M v0 7) M) fun r8 =>
      if r8 ≤ v2 then (
        some M
        ) else (
        obd (f_X9_memberAt n (mI M v0 7) v2 M) fun r12 =>
        obd (f_X2_finish n v0 r12 M) fun M14 =>
        some M14
        )
      ) else (
      bnd (mR M v0 1) fun o15 =>
      chk (isO M 5 o15) <|
      bnd (mR M o15 3) fun o18 =>
      chk (isO M 100 o18) <|
      chk (inB v3 (mLn M o18)) <|
      obd (f_J6_bitCount_0f7a4 (mI M o18 (v3).toNatClampNeg) M) fun r23 =>
      if r23 ≤ v2 then (
        bnd (v2 - r23) fun x26 =>
        bnd (v3 + (1 : Int32)) fun x28 =>
        f_X2_makeMove_4 n v0 x26 x28 M
        ) else (
        bnd (mR M v0 1) fun o30 =>
        chk (isO M 5 o30) <|
        bnd (mR M o30 3) fun o33 =>
        chk (isO M 100 o33) <|
        chk (inB v3 (mLn M o33)) <|
        obd (f_X9_memberAt n (mI M o33 (v3).toNatClampNeg) v2 M) fun r38 =>
        obd2 (f_X2_bringFirst n v0 v3 r38 M) fun r40 M41 =>
        some M41
        )
      )
def f_X2_makeMove (n : Nat) (o : Nat) (a1 : Int32) (M : Mem) : Option Mem :=
  f_X2_makeMove_4 n o a1 (0 : Int32) M
theorem cd_X2_makeMove : (yX2_makeMove.cls ≠ "java/lang/invoke/MethodHandle" ∧ yX2_makeMove.cls ≠ "java/lang/invoke/VarHandle") ∧ (parseMethodDescriptor yX2_makeMove.desc).map (fun d => d.parameters.length) = some 1 := ⟨⟨by decide +kernel, by decide +kernel⟩, by decide +kernel⟩
section
variable {p : Program} {l : Launch} {e : Env} {R : Room} {s : State} {m : MethodId} {args : Array Value} {below : List Frame} {meth : Method} {c : Code} {G : Gam} {M0 : Mem}
theorem l_X2_makeMove_4 {rv : Mem} (X : Cx p R s m args c G M0 cX2_makeMove yX2_makeMove.cls 5 6 149) (hr : meth.sig.returnType = none) (hlk : meth.locks = false) (hnm : meth.name = "makeMove") : ∀ {n : Nat} (v0 : Nat) (v2 : Int32) (v3 : Int32) (M : Mem), f_X2_makeMove_4 n v0 v2 v3 M = some rv → Sg p l e R s m args below meth c (Qm below G args s none M0 rv) G M0 5 4 [(0, .ref (gB G + v0)), (2, .int v2), (3, .int v3)] [] M := by
  intro n
  induction n with
  | zero => intro v0 v2 v3 M hf; exact (pk_none hf).elim
  | succ n ih =>
    intro v0 v2 v3 M hf
    rw [f_X2_makeMove_4] at hf
    refine s_iload_n X 2 dX2_makeMove_4 rfl rfl ?_
    refine s_aload_n X 0 dX2_makeMove_5 rfl rfl ?_
    obtain ⟨h1, hf⟩ := pk_chk hf
    obtain ⟨o2, e3, hf⟩ := pk_bnd hf
    obtain ⟨h4, hf⟩ := pk_chk hf
    refine s_getR X (ci := 2) (k := 0) rfl (Nat.le_of_ble_eq_true rfl) h1 wd416 (fun _ _ _ => rfl) (e3 ▸ h4) dX2_makeMove_6 (e3 ▸ ?_)
    refine s_getI X (ci := 7) (k := 3) rfl (Nat.le_of_ble_eq_true rfl) h4 wd166 (fun _ _ _ => rfl) dX2_makeMove_9 ?_
    have hs5 := pk_ite hf
    clear hf
    refine s_icmp_ge X (tgt := 66) dX2_makeMove_12 rfl (fun c6 => ?_) (fun c6 => ?_)
    · have hf := hs5.1 c6
      refine s_iload_n X 1 dX2_makeMove_66 rfl rfl ?_
      refine s_aload_n X 0 dX2_makeMove_67 rfl rfl ?_
      refine s_getI X (ci := 2) (k := 7) rfl (Nat.le_of_ble_eq_true rfl) h1 wd434 (fun _ _ _ => rfl) dX2_makeMove_68 ?_
      obtain ⟨r8, hc7, hf⟩ := pk_obd hf
      refine s_callS X (k_J6_bitCount_0f7a4 G hc7) wd1039 wd831 wd832 wd141 cd_J6_bitCount_0f7a4 ⟨Nat.le_of_ble_eq_true rfl, Nat.le_of_ble_eq_true rfl⟩ (Nat.le_of_ble_eq_true rfl) dX2_makeMove_71 ?_
      have hs9 := pk_ite hf
      clear hf
      refine s_icmp_ge X (tgt := 89) dX2_makeMove_74 rfl (fun c10 => ?_) (fun c10 => ?_)
      · have hf := hs9.1 c10
        cases hf
        exact s_vret X hr hlk dX2_makeMove_89
      · have hf := hs9.2 c10
        refine s_aload_n X 0 dX2_makeMove_77 rfl rfl ?_
        refine s_aload_n X 0 dX2_makeMove_78 rfl rfl ?_
        refine s_getI X (ci := 2) (k := 7) rfl (Nat.le_of_ble_eq_true rfl) h1 wd434 (fun _ _ _ => rfl) dX2_makeMove_79 ?_
        refine s_iload_n X 1 dX2_makeMove_82 rfl rfl ?_
        obtain ⟨r12, hc11, hf⟩ := pk_obd hf
        refine s_callSN X (k_X9_memberAt G hc11) (host := "QuorumGate") ns_12 wd1227 wd1228 wd126 cd_X9_memberAt ⟨Nat.le_of_ble_eq_true rfl, Nat.le_of_ble_eq_true rfl⟩ (Nat.le_of_ble_eq_true rfl) dX2_makeMove_83 ?_
        obtain ⟨M14, hc13, hf⟩ := pk_obd hf
        refine s_callV X (ci := 2) (k_X2_finish G hc13) rfl h1 wd1230 wd968 wd969 wd970 wd130 cd_X2_finish ⟨Nat.le_of_ble_eq_true rfl, Nat.le_of_ble_eq_true rfl⟩ (Nat.le_of_ble_eq_true rfl) dX2_makeMove_86 ?_
        cases hf
        exact s_vret X hr hlk dX2_makeMove_89
    · have hf := hs5.2 c6
      refine s_aload_n X 0 dX2_makeMove_15 rfl rfl ?_
      obtain ⟨o15, e16, hf⟩ := pk_bnd hf
      obtain ⟨h17, hf⟩ := pk_chk hf
      refine s_getR X (ci := 2) (k := 1) rfl (Nat.le_of_ble_eq_true rfl) h1 wd419 (fun _ _ _ => rfl) (e16 ▸ h17) dX2_makeMove_16 (e16 ▸ ?_)
      obtain ⟨o18, e19, hf⟩ := pk_bnd hf
      obtain ⟨h20, hf⟩ := pk_chk hf
      refine s_getR X (ci := 5) (k := 3) rfl (Nat.le_of_ble_eq_true rfl) h17 wd256 (fun _ _ _ => rfl) (e19 ▸ h20) dX2_makeMove_19 (e19 ▸ ?_)
      refine s_iload_n X 2 dX2_makeMove_22 rfl rfl ?_
      obtain ⟨h21, hf⟩ := pk_chk hf
      refine s_iald X h20 h21 dX2_makeMove_23 ?_
      obtain ⟨r23, hc22, hf⟩ := pk_obd hf
      refine s_callS X (k_J6_bitCount_0f7a4 G hc22) wd1039 wd831 wd832 wd141 cd_J6_bitCount_0f7a4 ⟨Nat.le_of_ble_eq_true rfl, Nat.le_of_ble_eq_true rfl⟩ (Nat.le_of_ble_eq_true rfl) dX2_makeMove_24 ?_
      refine s_istore X (vs' := [(0, .ref (gB G + v0)), (2, .int v2), (3, .int v3), (4, .int r23)]) dX2_makeMove_27 (Nat.le_of_ble_eq_true rfl) [1, 2, 3, 0] rfl ?_
      refine s_iload_n X 1 dX2_makeMove_29 rfl rfl ?_
      refine s_iload X 3 dX2_makeMove_30 rfl ?_
      have hs24 := pk_ite hf
      clear hf
      refine s_icmp_ge X (tgt := 55) dX2_makeMove_32 rfl (fun c25 => ?_) (fun c25 => ?_)
      · have hf := hs24.1 c25
        refine s_iload_n X 1 dX2_makeMove_55 rfl rfl ?_
        refine s_iload X 3 dX2_makeMove_56 rfl ?_
        refine s_isub X dX2_makeMove_58 ?_
        obtain ⟨x26, e27, hf⟩ := pk_bnd hf
        refine s_nmI e27 ?_
        refine s_istore_n X (vs' := [(0, .ref (gB G + v0)), (2, .int x26), (3, .int v3), (4, .int r23)]) dX2_makeMove_59 rfl (Nat.le_of_ble_eq_true rfl) [1, 0, 2, 3] rfl ?_
        obtain ⟨x28, e29, hf⟩ := pk_bnd hf
        refine s_iinc X (vs' := [(0, .ref (gB G + v0)), (2, .int x26), (3, .int x28), (4, .int r23)]) 2 dX2_makeMove_60 rfl (v := x28) e29.symm (Nat.le_of_ble_eq_true rfl) [1, 2, 0, 3] rfl ?_
        refine s_goto X (tgt := 4) dX2_makeMove_63 rfl ?_
        refine s_drop [0, 1, 2] (vs' := [(0, .ref (gB G + v0)), (2, .int x26), (3, .int x28)]) rfl ?_
        exact ih _ _ _ _ hf
      · have hf := hs24.2 c25
        refine s_aload_n X 0 dX2_makeMove_35 rfl rfl ?_
        refine s_iload_n X 2 dX2_makeMove_36 rfl rfl ?_
        refine s_aload_n X 0 dX2_makeMove_37 rfl rfl ?_
        obtain ⟨o30, e31, hf⟩ := pk_bnd hf
        obtain ⟨h32, hf⟩ := pk_chk hf
        refine s_getR X (ci := 2) (k := 1) rfl (Nat.le_of_ble_eq_true rfl) h1 wd419 (fun _ _ _ => rfl) (e31 ▸ h32) dX2_makeMove_38 (e31 ▸ ?_)
        obtain ⟨o33, e34, hf⟩ := pk_bnd hf
        obtain ⟨h35, hf⟩ := pk_chk hf
        refine s_getR X (ci := 5) (k := 3) rfl (Nat.le_of_ble_eq_true rfl) h32 wd256 (fun _ _ _ => rfl) (e34 ▸ h35) dX2_makeMove_41 (e34 ▸ ?_)
        refine s_iload_n X 2 dX2_makeMove_44 rfl rfl ?_
        obtain ⟨h36, hf⟩ := pk_chk hf
        refine s_iald X h35 h36 dX2_makeMove_45 ?_
        refine s_iload_n X 1 dX2_makeMove_46 rfl rfl ?_
        obtain ⟨r38, hc37, hf⟩ := pk_obd hf
        refine s_callSN X (k_X9_memberAt G hc37) (host := "QuorumGate") ns_12 wd1227 wd1228 wd126 cd_X9_memberAt ⟨Nat.le_of_ble_eq_true rfl, Nat.le_of_ble_eq_true rfl⟩ (Nat.le_of_ble_eq_true rfl) dX2_makeMove_47 ?_
        obtain ⟨r40, M41, hc39, hf⟩ := pk_obd2 hf
        refine s_callV X (ci := 2) (k_X2_bringFirst G hc39) rfl h1 wd1229 wd980 wd981 wd982 wd130 cd_X2_bringFirst ⟨Nat.le_of_ble_eq_true rfl, Nat.le_of_ble_eq_true rfl⟩ (Nat.le_of_ble_eq_true rfl) dX2_makeMove_50 ?_
        refine s_pop X dX2_makeMove_53 rfl ?_
        cases hf
        exact s_vret X hr hlk dX2_makeMove_54
end
theorem k_X2_makeMove (G : Gam) {n : Nat} {o : Nat} {a1 : Int32} {M : Mem} {rv : Mem} (hf : f_X2_makeMove n o a1 M = some rv) : Kt yX2_makeMove cX2_makeMove 5 none 6 149 G [.ref (gB G + o), .int a1] M rv none := by
  refine Kt.of (by decide) (Nat.le_of_ble_eq_true rfl) ?_
  intro p l e R s m args below meth c X hr hlk hnm
  refine s_drop [0, 1] (vs' := [(0, .ref (gB G + o)), (1, .int a1)]) rfl ?_
  rw [f_X2_makeMove] at hf
  refine s_iload_n X 1 dX2_makeMove_0 rfl rfl ?_
  refine s_istore_n X (vs' := [(0, .ref (gB G + o)), (1, .int a1), (2, .int a1)]) dX2_makeMove_1 rfl (Nat.le_of_ble_eq_true rfl) [1, 2, 0] rfl ?_
  refine s_iconst X (v := (0 : Int32)) dX2_makeMove_2 rfl ?_
  refine s_istore_n X (vs' := [(0, .ref (gB G + o)), (1, .int a1), (2, .int a1), (3, .int (0 : Int32))]) dX2_makeMove_3 rfl (Nat.le_of_ble_eq_true rfl) [1, 2, 3, 0] rfl ?_
  refine s_drop [0, 2, 3] (vs' := [(0, .ref (gB G + o)), (2, .int a1), (3, .int (0 : Int32))]) rfl ?_
  exact l_X2_makeMove_4 X hr hlk hnm _ _ _ _ hf
theorem dX2_moveByDraw_0 : decode cX2_moveByDraw 0 = .ok (.aload_n 0, 1) := dk_42 (by decide +kernel)
theorem dX2_moveByDraw_1 : decode cX2_moveByDraw 1 = .ok (.invokevirtual 299, 3) := dk_182 (x := 1) (y := 43) (by decide +kernel) rfl
theorem dX2_moveByDraw_4 : decode cX2_moveByDraw 4 = .ok (.istore_n 1, 1) := dk_60 (by decide +kernel)
theorem dX2_moveByDraw_5 : decode cX2_moveByDraw 5 = .ok (.iload_n 1, 1) := dk_27 (by decide +kernel)
theorem dX2_moveByDraw_6 : decode cX2_moveByDraw 6 = .ok (.iconst 1, 1) := dk_4 (by decide +kernel)
theorem dX2_moveByDraw_7 : decode cX2_moveByDraw 7 = .ok (.if_icmp .ge 5, 3) := dk_162 (x := 0) (y := 5) (by decide +kernel) rfl
theorem dX2_moveByDraw_10 : decode cX2_moveByDraw 10 = .ok (.iconst 0, 1) := dk_3 (by decide +kernel)
theorem dX2_moveByDraw_11 : decode cX2_moveByDraw 11 = .ok (.ireturn, 1) := dk_172 (by decide +kernel)
theorem dX2_moveByDraw_12 : decode cX2_moveByDraw 12 = .ok (.aload_n 0, 1) := dk_42 (by decide +kernel)
theorem dX2_moveByDraw_13 : decode cX2_moveByDraw 13 = .ok (.aload_n 0, 1) := dk_42 (by decide +kernel)
theorem dX2_moveByDraw_14 : decode cX2_moveByDraw 14 = .ok (.getfield 302, 3) := dk_180 (x := 1) (y := 46) (by decide +kernel) rfl
theorem dX2_moveByDraw_17 : decode cX2_moveByDraw 17 = .ok (.ldc2_w 306, 3) := dk_20 (x := 1) (y := 50) (by decide +kernel) rfl
theorem dX2_moveByDraw_20 : decode cX2_moveByDraw 20 = .ok (.lmul, 1) := dk_105 (by decide +kernel)
theorem dX2_moveByDraw_21 : decode cX2_moveByDraw 21 = .ok (.ldc2_w 308, 3) := dk_20 (x := 1) (y := 52) (by decide +kernel) rfl
theorem dX2_moveByDraw_24 : decode cX2_moveByDraw 24 = .ok (.ladd, 1) := dk_97 (by decide +kernel)
theorem dX2_moveByDraw_25 : decode cX2_moveByDraw 25 = .ok (.ldc2_w 310, 3) := dk_20 (x := 1) (y := 54) (by decide +kernel) rfl
theorem dX2_moveByDraw_28 : decode cX2_moveByDraw 28 = .ok (.lrem, 1) := dk_113 (by decide +kernel)
theorem dX2_moveByDraw_29 : decode cX2_moveByDraw 29 = .ok (.putfield 302, 3) := dk_181 (x := 1) (y := 46) (by decide +kernel) rfl
theorem dX2_moveByDraw_32 : decode cX2_moveByDraw 32 = .ok (.aload_n 0, 1) := dk_42 (by decide +kernel)
theorem dX2_moveByDraw_33 : decode cX2_moveByDraw 33 = .ok (.aload_n 0, 1) := dk_42 (by decide +kernel)
theorem dX2_moveByDraw_34 : decode cX2_moveByDraw 34 = .ok (.getfield 302, 3) := dk_180 (x := 1) (y := 46) (by decide +kernel) rfl
theorem dX2_moveByDraw_37 : decode cX2_moveByDraw 37 = .ok (.ldc2_w 312, 3) := dk_20 (x := 1) (y := 56) (by decide +kernel) rfl
theorem dX2_moveByDraw_40 : decode cX2_moveByDraw 40 = .ok (.ldiv, 1) := dk_109 (by decide +kernel)
theorem dX2_moveByDraw_41 : decode cX2_moveByDraw 41 = .ok (.iload_n 1, 1) := dk_27 (by decide +kernel)
theorem dX2_moveByDraw_42 : decode cX2_moveByDraw 42 = .ok (.i2l, 1) := dk_133 (by decide +kernel)
theorem dX2_moveByDraw_43 : decode cX2_moveByDraw 43 = .ok (.lrem, 1) := dk_113 (by decide +kernel)
theorem dX2_moveByDraw_44 : decode cX2_moveByDraw 44 = .ok (.l2i, 1) := dk_136 (by decide +kernel)
theorem dX2_moveByDraw_45 : decode cX2_moveByDraw 45 = .ok (.invokevirtual 314, 3) := dk_182 (x := 1) (y := 58) (by decide +kernel) rfl
theorem dX2_moveByDraw_48 : decode cX2_moveByDraw 48 = .ok (.iconst 1, 1) := dk_4 (by decide +kernel)
theorem dX2_moveByDraw_49 : decode cX2_moveByDraw 49 = .ok (.ireturn, 1) := dk_172 (by decide +kernel)
def f_X2_moveByDraw (n : Nat) (o : Nat) (M : Mem) : Option (Int32 × Mem) :=
  chk (isO M 2 o) <|
  obd (f_X2_countMoves n o M) fun r3 =>
  if (1 : Int32) ≤ r3 then (
    chk (¬ (2147483648 : Int64) = 0) <|
    bnd (sL M o 16 ((((mL M o 16) * (1103515245 : Int64)) + (12345 : Int64)) - (((mL M o 16) * (1103515245 : Int64)) + (12345 : Int64)) / (2147483648 : Int64) * (2147483648 : Int64))) fun M7 =>
    chk (¬ (65536 : Int64) = 0) <|
    chk (¬ ((r3).toInt64) = 0) <|
    obd (f_X2_makeMove n o (((((mL M7 o 16) / (65536 : Int64)) - ((mL M7 o 16) / (65536 : Int64)) / ((r3).toInt64) * ((r3).toInt64))).toInt32) M7) fun M13 =>
    some ((1 : Int32), M13)
    ) else (
    some ((0 : Int32), M)
    )
theorem cd_X2_moveByDraw : (yX2_moveByDraw.cls ≠ "java/lang/invoke/MethodHandle" ∧ yX2_moveByDraw.cls ≠ "java/lang/invoke/VarHandle") ∧ (parseMethodDescriptor yX2_moveByDraw.desc).map (fun d => d.parameters.length) = some 0 := ⟨⟨by decide +kernel, by decide +kernel⟩, by decide +kernel⟩
theorem k_X2_moveByDraw (G : Gam) {n : Nat} {o : Nat} {M : Mem} {rv : (Int32 × Mem)} (hf : f_X2_moveByDraw n o M = some rv) : Kt yX2_moveByDraw cX2_moveByDraw 2 (some .boolean) 7 173 G [.ref (gB G + o)] M rv.2 (some (.int rv.1)) := by
  refine Kt.of (by decide) (Nat.le_of_ble_eq_true rfl) ?_
  intro p l e R s m args below meth c X hr hlk hnm
  refine s_drop [0] (vs' := [(0, .ref (gB G + o))]) rfl ?_
  rw [f_X2_moveByDraw] at hf
  refine s_aload_n X 0 dX2_moveByDraw_0 rfl rfl ?_
  obtain ⟨h1, hf⟩ := pk_chk hf
  obtain ⟨r3, hc2, hf⟩ := pk_obd hf
  refine s_callV X (ci := 2) (k_X2_countMoves G hc2) rfl h1 wd1217 wd1161 wd1162 wd1163 wd130 cd_X2_countMoves ⟨Nat.le_of_ble_eq_true rfl, Nat.le_of_ble_eq_true rfl⟩ (Nat.le_of_ble_eq_true rfl) dX2_moveByDraw_1 ?_
  refine s_istore_n X (vs' := [(0, .ref (gB G + o)), (1, .int r3)]) dX2_moveByDraw_4 rfl (Nat.le_of_ble_eq_true rfl) [1, 0] rfl ?_
  refine s_iload_n X 1 dX2_moveByDraw_5 rfl rfl ?_
  refine s_iconst X (v := (1 : Int32)) dX2_moveByDraw_6 rfl ?_
  have hs4 := pk_ite hf
  clear hf
  refine s_icmp_ge X (tgt := 12) dX2_moveByDraw_7 rfl (fun c5 => ?_) (fun c5 => ?_)
  · have hf := hs4.1 c5
    refine s_aload_n X 0 dX2_moveByDraw_12 rfl rfl ?_
    refine s_aload_n X 0 dX2_moveByDraw_13 rfl rfl ?_
    refine s_getL X (ci := 2) (k := 16) rfl (Nat.le_of_ble_eq_true rfl) h1 wd456 (fun _ _ _ => rfl) dX2_moveByDraw_14 ?_
    refine s_ldc2 X (v := (1103515245 : Int64)) dX2_moveByDraw_17 wd1218 ?_
    refine s_lmul X dX2_moveByDraw_20 ?_
    refine s_ldc2 X (v := (12345 : Int64)) dX2_moveByDraw_21 wd1219 ?_
    refine s_ladd X dX2_moveByDraw_24 ?_
    refine s_ldc2 X (v := (2147483648 : Int64)) dX2_moveByDraw_25 wd1220 ?_
    obtain ⟨h6, hf⟩ := pk_chk hf
    refine s_lrem X dX2_moveByDraw_28 h6 ?_
    obtain ⟨M7, e8, hf⟩ := pk_bnd hf
    refine s_putL X (ci := 2) (k := 16) rfl (Nat.le_of_ble_eq_true rfl) h1 wd456 (fun _ _ _ => rfl) rfl rfl e8 dX2_moveByDraw_29 ?_
    have h9 := io_sL e8 h1
    refine s_aload_n X 0 dX2_moveByDraw_32 rfl rfl ?_
    refine s_aload_n X 0 dX2_moveByDraw_33 rfl rfl ?_
    refine s_getL X (ci := 2) (k := 16) rfl (Nat.le_of_ble_eq_true rfl) h9 wd456 (fun _ _ _ => rfl) dX2_moveByDraw_34 ?_
    refine s_ldc2 X (v := (65536 : Int64)) dX2_moveByDraw_37 wd1221 ?_
    obtain ⟨h10, hf⟩ := pk_chk hf
    refine s_ldiv X dX2_moveByDraw_40 h10 ?_
    refine s_iload_n X 1 dX2_moveByDraw_41 rfl rfl ?_
    refine s_i2l X dX2_moveByDraw_42 ?_
    obtain ⟨h11, hf⟩ := pk_chk hf
    refine s_lrem X dX2_moveByDraw_43 h11 ?_
    refine s_l2i X dX2_moveByDraw_44 ?_
    obtain ⟨M13, hc12, hf⟩ := pk_obd hf
    refine s_callV X (ci := 2) (k_X2_makeMove G hc12) rfl h9 wd1222 wd1223 wd1224 wd1225 wd130 cd_X2_makeMove ⟨Nat.le_of_ble_eq_true rfl, Nat.le_of_ble_eq_true rfl⟩ (Nat.le_of_ble_eq_true rfl) dX2_moveByDraw_45 ?_
    refine s_iconst X (v := (1 : Int32)) dX2_moveByDraw_48 rfl ?_
    cases hf
    exact s_zret X hr (bz_n (Or.inr rfl)) hlk dX2_moveByDraw_49
  · have hf := hs4.2 c5
    refine s_iconst X (v := (0 : Int32)) dX2_moveByDraw_10 rfl ?_
    cases hf
    exact s_zret X hr (bz_n (Or.inl rfl)) hlk dX2_moveByDraw_11
theorem dX9_goOn_0 : decode cX9_goOn 0 = .ok (.iload_n 1, 1) := dk_27 (by decide +kernel)
theorem dX9_goOn_1 : decode cX9_goOn 1 = .ok (.ifCond .lt 14, 3) := dk_155 (x := 0) (y := 14) (by decide +kernel) rfl
theorem dX9_goOn_4 : decode cX9_goOn 4 = .ok (.iload_n 2, 1) := dk_28 (by decide +kernel)
theorem dX9_goOn_5 : decode cX9_goOn 5 = .ok (.ifCond .lt 10, 3) := dk_155 (x := 0) (y := 10) (by decide +kernel) rfl
theorem dX9_goOn_8 : decode cX9_goOn 8 = .ok (.iload_n 2, 1) := dk_28 (by decide +kernel)
theorem dX9_goOn_9 : decode cX9_goOn 9 = .ok (.sipush 500, 3) := dk_17 (x := 1) (y := 244) (by decide +kernel) rfl
theorem dX9_goOn_12 : decode cX9_goOn 12 = .ok (.if_icmp .le 5, 3) := dk_164 (x := 0) (y := 5) (by decide +kernel) rfl
theorem dX9_goOn_15 : decode cX9_goOn 15 = .ok (.iconst (-1), 1) := dk_2 (by decide +kernel)
theorem dX9_goOn_16 : decode cX9_goOn 16 = .ok (.ireturn, 1) := dk_172 (by decide +kernel)
theorem dX9_goOn_17 : decode cX9_goOn 17 = .ok (.aload_n 0, 1) := dk_42 (by decide +kernel)
theorem dX9_goOn_18 : decode cX9_goOn 18 = .ok (.getfield 28, 3) := dk_180 (x := 0) (y := 28) (by decide +kernel) rfl
theorem dX9_goOn_21 : decode cX9_goOn 21 = .ok (.iload_n 1, 1) := dk_27 (by decide +kernel)
theorem dX9_goOn_22 : decode cX9_goOn 22 = .ok (.i2l, 1) := dk_133 (by decide +kernel)
theorem dX9_goOn_23 : decode cX9_goOn 23 = .ok (.putfield 304, 3) := dk_181 (x := 1) (y := 48) (by decide +kernel) rfl
theorem dX9_goOn_26 : decode cX9_goOn 26 = .ok (.iconst 0, 1) := dk_3 (by decide +kernel)
theorem dX9_goOn_27 : decode cX9_goOn 27 = .ok (.istore_n 3, 1) := dk_62 (by decide +kernel)
theorem dX9_goOn_28 : decode cX9_goOn 28 = .ok (.iload_n 3, 1) := dk_29 (by decide +kernel)
theorem dX9_goOn_29 : decode cX9_goOn 29 = .ok (.iload_n 2, 1) := dk_28 (by decide +kernel)
theorem dX9_goOn_30 : decode cX9_goOn 30 = .ok (.if_icmp .ge 19, 3) := dk_162 (x := 0) (y := 19) (by decide +kernel) rfl
theorem dX9_goOn_33 : decode cX9_goOn 33 = .ok (.aload_n 0, 1) := dk_42 (by decide +kernel)
theorem dX9_goOn_34 : decode cX9_goOn 34 = .ok (.getfield 28, 3) := dk_180 (x := 0) (y := 28) (by decide +kernel) rfl
theorem dX9_goOn_37 : decode cX9_goOn 37 = .ok (.invokevirtual 308, 3) := dk_182 (x := 1) (y := 52) (by decide +kernel) rfl
theorem dX9_goOn_40 : decode cX9_goOn 40 = .ok (.ifCond .eq 9, 3) := dk_153 (x := 0) (y := 9) (by decide +kernel) rfl
theorem dX9_goOn_43 : decode cX9_goOn 43 = .ok (.iinc 3 1, 3) := dk_132 (x := 3) (y := 1) (by decide +kernel) rfl
theorem dX9_goOn_46 : decode cX9_goOn 46 = .ok (.goto (-18), 3) := dk_167 (x := 255) (y := 238) (by decide +kernel) rfl
theorem dX9_goOn_49 : decode cX9_goOn 49 = .ok (.iload_n 3, 1) := dk_29 (by decide +kernel)
theorem dX9_goOn_50 : decode cX9_goOn 50 = .ok (.ireturn, 1) := dk_172 (by decide +kernel)
def f_X9_goOn_28 : Nat → Nat → Int32 → Int32 → Mem → Option (Int32 × Mem)
  | 0, _, _, _, _ => none
  | n + 1, v0, v2, v3, M =>
    if v2 ≤ v3 then (
      some (v3, M)
      ) else (
      chk (isO M 9 v0) <|
      bnd (mR M v0 2) fun o4 =>
      chk (isO M 2 o4) <|
      obd2 (f_X2_moveByDraw n o4 M) fun r8 M9 =>
      if r8 = 0 then (
        some (v3, M9)
        ) else (
        bnd (v3 + (1 : Int32)) fun x12 =>
        f_X9_goOn_28 n v0 v2 x12 M9
        )
      )
def f_X9_goOn (n : Nat) (o : Nat) (a1 : Int32) (a2 : Int32) (M : Mem) : Option (Int32 × Mem) :=
  if a1 < 0 then (
    some ((-1 : Int32), M)
    ) else (
    if a2 < 0 then (
      some ((-1 : Int32), M)
      ) else (
      if a2 ≤ (500 : Int32) then (
        chk (isO M 9 o) <|
        bnd (mR M o 2) fun o8 =>
        chk (isO M 2 o8) <|
        bnd (sL M o8 16 ((a1).toInt64)) fun M11 =>
        f_X9_goOn_28 n o a2 (0 : Int32) M11
        ) else (
        some ((-1 : Int32), M)
        )
      )
    )
theorem cd_X9_goOn : (yX9_goOn.cls ≠ "java/lang/invoke/MethodHandle" ∧ yX9_goOn.cls ≠ "java/lang/invoke/VarHandle") ∧ (parseMethodDescriptor yX9_goOn.desc).map (fun d => d.parameters.length) = some 2 := ⟨⟨by decide +kernel, by decide +kernel⟩, by decide +kernel⟩
section
variable {p : Program} {l : Launch} {e : Env} {R : Room} {s : State} {m : MethodId} {args : Array Value} {below : List Frame} {meth : Method} {c : Code} {G : Gam} {M0 : Mem}
theorem l_X9_goOn_28 {rv : (Int32 × Mem)} (X : Cx p R s m args c G M0 cX9_goOn yX9_goOn.cls 4 8 194) (hr : meth.sig.returnType = (some .int)) (hlk : meth.locks = false) (hnm : meth.name = "goOn") : ∀ {n : Nat} (v0 : Nat) (v2 : Int32) (v3 : Int32) (M : Mem), f_X9_goOn_28 n v0 v2 v3 M = some rv → Sg p l e R s m args below meth c (Qm below G args s (some (.int rv.1)) M0 rv.2) G M0 4 28 [(0, .ref (gB G + v0)), (2, .int v2), (3, .int v3)] [] M := by
  intro n
  induction n with
  | zero => intro v0 v2 v3 M hf; exact (pk_none hf).elim
  | succ n ih =>
    intro v0 v2 v3 M hf
    rw [f_X9_goOn_28] at hf
    refine s_iload_n X 2 dX9_goOn_28 rfl rfl ?_
    refine s_iload_n X 1 dX9_goOn_29 rfl rfl ?_
    have hs1 := pk_ite hf
    clear hf
    refine s_icmp_ge X (tgt := 49) dX9_goOn_30 rfl (fun c2 => ?_) (fun c2 => ?_)
    · have hf := hs1.1 c2
      refine s_iload_n X 2 dX9_goOn_49 rfl rfl ?_
      cases hf
      exact s_iret X hr hlk dX9_goOn_50
    · have hf := hs1.2 c2
      refine s_aload_n X 0 dX9_goOn_33 rfl rfl ?_
      obtain ⟨h3, hf⟩ := pk_chk hf
      obtain ⟨o4, e5, hf⟩ := pk_bnd hf
      obtain ⟨h6, hf⟩ := pk_chk hf
      refine s_getR X (ci := 9) (k := 2) rfl (Nat.le_of_ble_eq_true rfl) h3 wd629 (fun _ _ _ => rfl) (e5 ▸ h6) dX9_goOn_34 (e5 ▸ ?_)
      obtain ⟨r8, M9, hc7, hf⟩ := pk_obd2 hf
      refine s_callV X (ci := 2) (k_X2_moveByDraw G hc7) rfl h6 wd1213 wd1214 wd1215 wd1216 wd130 cd_X2_moveByDraw ⟨Nat.le_of_ble_eq_true rfl, Nat.le_of_ble_eq_true rfl⟩ (Nat.le_of_ble_eq_true rfl) dX9_goOn_37 ?_
      have hs10 := pk_ite hf
      clear hf
      refine s_if_eq X (tgt := 49) dX9_goOn_40 rfl (fun c11 => ?_) (fun c11 => ?_)
      · have hf := hs10.1 c11
        refine s_iload_n X 2 dX9_goOn_49 rfl rfl ?_
        cases hf
        exact s_iret X hr hlk dX9_goOn_50
      · have hf := hs10.2 c11
        obtain ⟨x12, e13, hf⟩ := pk_bnd hf
        refine s_iinc X (vs' := [(0, .ref (gB G + v0)), (2, .int v2), (3, .int x12)]) 2 dX9_goOn_43 rfl (v := x12) e13.symm (Nat.le_of_ble_eq_true rfl) [1, 2, 0] rfl ?_
        refine s_goto X (tgt := 28) dX9_goOn_46 rfl ?_
        exact ih _ _ _ _ hf
end
theorem k_X9_goOn (G : Gam) {n : Nat} {o : Nat} {a1 : Int32} {a2 : Int32} {M : Mem} {rv : (Int32 × Mem)} (hf : f_X9_goOn n o a1 a2 M = some rv) : Kt yX9_goOn cX9_goOn 4 (some .int) 8 194 G [.ref (gB G + o), .int a1, .int a2] M rv.2 (some (.int rv.1)) := by
  refine Kt.of (by decide) (Nat.le_of_ble_eq_true rfl) ?_
  intro p l e R s m args below meth c X hr hlk hnm
  refine s_drop [0, 1, 2] (vs' := [(0, .ref (gB G + o)), (1, .int a1), (2, .int a2)]) rfl ?_
  rw [f_X9_goOn] at hf
  refine s_iload_n X 1 dX9_goOn_0 rfl rfl ?_
  have hs1 := pk_ite hf
  clear hf
  refine s_if_lt X (tgt := 15) dX9_goOn_1 rfl (fun c2 => ?_) (fun c2 => ?_)
  · have hf := hs1.1 c2
    refine s_iconst X (v := (-1 : Int32)) dX9_goOn_15 rfl ?_
    cases hf
    exact s_iret X hr hlk dX9_goOn_16
  · have hf := hs1.2 c2
    refine s_iload_n X 2 dX9_goOn_4 rfl rfl ?_
    have hs3 := pk_ite hf
    clear hf
    refine s_if_lt X (tgt := 15) dX9_goOn_5 rfl (fun c4 => ?_) (fun c4 => ?_)
    · have hf := hs3.1 c4
      refine s_iconst X (v := (-1 : Int32)) dX9_goOn_15 rfl ?_
      cases hf
      exact s_iret X hr hlk dX9_goOn_16
    · have hf := hs3.2 c4
      refine s_iload_n X 2 dX9_goOn_8 rfl rfl ?_
      refine s_sipush X (v := (500 : Int32)) dX9_goOn_9 rfl ?_
      have hs5 := pk_ite hf
      clear hf
      refine s_icmp_le X (tgt := 17) dX9_goOn_12 rfl (fun c6 => ?_) (fun c6 => ?_)
      · have hf := hs5.1 c6
        refine s_aload_n X 0 dX9_goOn_17 rfl rfl ?_
        obtain ⟨h7, hf⟩ := pk_chk hf
        obtain ⟨o8, e9, hf⟩ := pk_bnd hf
        obtain ⟨h10, hf⟩ := pk_chk hf
        refine s_getR X (ci := 9) (k := 2) rfl (Nat.le_of_ble_eq_true rfl) h7 wd629 (fun _ _ _ => rfl) (e9 ▸ h10) dX9_goOn_18 (e9 ▸ ?_)
        refine s_iload_n X 1 dX9_goOn_21 rfl rfl ?_
        refine s_i2l X dX9_goOn_22 ?_
        obtain ⟨M11, e12, hf⟩ := pk_bnd hf
        refine s_putL X (ci := 2) (k := 16) rfl (Nat.le_of_ble_eq_true rfl) h10 wd457 (fun _ _ _ => rfl) rfl rfl e12 dX9_goOn_23 ?_
        have h13 := io_sL e12 h7
        have h14 := io_sL e12 h10
        refine s_iconst X (v := (0 : Int32)) dX9_goOn_26 rfl ?_
        refine s_istore_n X (vs' := [(0, .ref (gB G + o)), (1, .int a1), (2, .int a2), (3, .int (0 : Int32))]) dX9_goOn_27 rfl (Nat.le_of_ble_eq_true rfl) [1, 2, 3, 0] rfl ?_
        refine s_drop [0, 2, 3] (vs' := [(0, .ref (gB G + o)), (2, .int a2), (3, .int (0 : Int32))]) rfl ?_
        exact l_X9_goOn_28 X hr hlk hnm _ _ _ _ hf
      · have hf := hs5.2 c6
        refine s_iconst X (v := (-1 : Int32)) dX9_goOn_15 rfl ?_
        cases hf
        exact s_iret X hr hlk dX9_goOn_16
theorem dX10_draw_0 : decode cX10_draw 0 = .ok (.aload_n 0, 1) := dk_42 (by decide +kernel)
theorem dX10_draw_1 : decode cX10_draw 1 = .ok (.aload_n 0, 1) := dk_42 (by decide +kernel)
theorem dX10_draw_2 : decode cX10_draw 2 = .ok (.getfield 298, 3) := dk_180 (x := 1) (y := 42) (by decide +kernel) rfl
theorem dX10_draw_5 : decode cX10_draw 5 = .ok (.ldc2_w 302, 3) := dk_20 (x := 1) (y := 46) (by decide +kernel) rfl
theorem dX10_draw_8 : decode cX10_draw 8 = .ok (.lmul, 1) := dk_105 (by decide +kernel)
theorem dX10_draw_9 : decode cX10_draw 9 = .ok (.ldc2_w 304, 3) := dk_20 (x := 1) (y := 48) (by decide +kernel) rfl
theorem dX10_draw_12 : decode cX10_draw 12 = .ok (.ladd, 1) := dk_97 (by decide +kernel)
theorem dX10_draw_13 : decode cX10_draw 13 = .ok (.ldc2_w 306, 3) := dk_20 (x := 1) (y := 50) (by decide +kernel) rfl
theorem dX10_draw_16 : decode cX10_draw 16 = .ok (.lrem, 1) := dk_113 (by decide +kernel)
theorem dX10_draw_17 : decode cX10_draw 17 = .ok (.putfield 298, 3) := dk_181 (x := 1) (y := 42) (by decide +kernel) rfl
theorem dX10_draw_20 : decode cX10_draw 20 = .ok (.aload_n 0, 1) := dk_42 (by decide +kernel)
theorem dX10_draw_21 : decode cX10_draw 21 = .ok (.getfield 298, 3) := dk_180 (x := 1) (y := 42) (by decide +kernel) rfl
theorem dX10_draw_24 : decode cX10_draw 24 = .ok (.ldc2_w 308, 3) := dk_20 (x := 1) (y := 52) (by decide +kernel) rfl
theorem dX10_draw_27 : decode cX10_draw 27 = .ok (.ldiv, 1) := dk_109 (by decide +kernel)
theorem dX10_draw_28 : decode cX10_draw 28 = .ok (.iload_n 1, 1) := dk_27 (by decide +kernel)
theorem dX10_draw_29 : decode cX10_draw 29 = .ok (.i2l, 1) := dk_133 (by decide +kernel)
theorem dX10_draw_30 : decode cX10_draw 30 = .ok (.lrem, 1) := dk_113 (by decide +kernel)
theorem dX10_draw_31 : decode cX10_draw 31 = .ok (.l2i, 1) := dk_136 (by decide +kernel)
theorem dX10_draw_32 : decode cX10_draw 32 = .ok (.ireturn, 1) := dk_172 (by decide +kernel)
def f_X10_draw (o : Nat) (a1 : Int32) (M : Mem) : Option (Int32 × Mem) :=
  chk (isO M 10 o) <|
  chk (¬ (2147483648 : Int64) = 0) <|
  bnd (sL M o 8 ((((mL M o 8) * (1103515245 : Int64)) + (12345 : Int64)) - (((mL M o 8) * (1103515245 : Int64)) + (12345 : Int64)) / (2147483648 : Int64) * (2147483648 : Int64))) fun M3 =>
  chk (¬ (65536 : Int64) = 0) <|
  chk (¬ ((a1).toInt64) = 0) <|
  some ((((((mL M3 o 8) / (65536 : Int64)) - ((mL M3 o 8) / (65536 : Int64)) / ((a1).toInt64) * ((a1).toInt64))).toInt32), M3)
theorem cd_X10_draw : (yX10_draw.cls ≠ "java/lang/invoke/MethodHandle" ∧ yX10_draw.cls ≠ "java/lang/invoke/VarHandle") ∧ (parseMethodDescriptor yX10_draw.desc).map (fun d => d.parameters.length) = some 1 := ⟨⟨by decide +kernel, by decide +kernel⟩, by decide +kernel⟩
theorem k_X10_draw (G : Gam) {o : Nat} {a1 : Int32} {M : Mem} {rv : (Int32 × Mem)} (hf : f_X10_draw o a1 M = some rv) : Kt yX10_draw cX10_draw 2 (some .int) 0 0 G [.ref (gB G + o), .int a1] M rv.2 (some (.int rv.1)) := by
  refine Kt.of (by decide) (Nat.le_of_ble_eq_true rfl) ?_
  intro p l e R s m args below meth c X hr hlk hnm
  refine s_drop [0, 1] (vs' := [(0, .ref (gB G + o)), (1, .int a1)]) rfl ?_
  rw [f_X10_draw] at hf
  refine s_aload_n X 0 dX10_draw_0 rfl rfl ?_
  refine s_aload_n X 0 dX10_draw_1 rfl rfl ?_
  obtain ⟨h1, hf⟩ := pk_chk hf
  refine s_getL X (ci := 10) (k := 8) rfl (Nat.le_of_ble_eq_true rfl) h1 wd1448 (fun _ _ _ => rfl) dX10_draw_2 ?_
  refine s_ldc2 X (v := (1103515245 : Int64)) dX10_draw_5 wd1946 ?_
  refine s_lmul X dX10_draw_8 ?_
  refine s_ldc2 X (v := (12345 : Int64)) dX10_draw_9 wd1947 ?_
  refine s_ladd X dX10_draw_12 ?_
  refine s_ldc2 X (v := (2147483648 : Int64)) dX10_draw_13 wd1948 ?_
  obtain ⟨h2, hf⟩ := pk_chk hf
  refine s_lrem X dX10_draw_16 h2 ?_
  obtain ⟨M3, e4, hf⟩ := pk_bnd hf
  refine s_putL X (ci := 10) (k := 8) rfl (Nat.le_of_ble_eq_true rfl) h1 wd1448 (fun _ _ _ => rfl) rfl rfl e4 dX10_draw_17 ?_
  have h5 := io_sL e4 h1
  refine s_aload_n X 0 dX10_draw_20 rfl rfl ?_
  refine s_getL X (ci := 10) (k := 8) rfl (Nat.le_of_ble_eq_true rfl) h5 wd1448 (fun _ _ _ => rfl) dX10_draw_21 ?_
  refine s_ldc2 X (v := (65536 : Int64)) dX10_draw_24 wd1949 ?_
  obtain ⟨h6, hf⟩ := pk_chk hf
  refine s_ldiv X dX10_draw_27 h6 ?_
  refine s_iload_n X 1 dX10_draw_28 rfl rfl ?_
  refine s_i2l X dX10_draw_29 ?_
  obtain ⟨h7, hf⟩ := pk_chk hf
  refine s_lrem X dX10_draw_30 h7 ?_
  refine s_l2i X dX10_draw_31 ?_
  cases hf
  exact s_iret X hr hlk dX10_draw_32
theorem dX10_takeFirst_0 : decode cX10_takeFirst 0 = .ok (.aload_n 0, 1) := dk_42 (by decide +kernel)
theorem dX10_takeFirst_1 : decode cX10_takeFirst 1 = .ok (.aload_n 0, 1) := dk_42 (by decide +kernel)
theorem dX10_takeFirst_2 : decode cX10_takeFirst 2 = .ok (.iload_n 1, 1) := dk_27 (by decide +kernel)
theorem dX10_takeFirst_3 : decode cX10_takeFirst 3 = .ok (.bipush 16, 2) := dk_16 (x := 16) (by decide +kernel) rfl
theorem dX10_takeFirst_5 : decode cX10_takeFirst 5 = .ok (.idiv, 1) := dk_108 (by decide +kernel)
theorem dX10_takeFirst_6 : decode cX10_takeFirst 6 = .ok (.iload_n 1, 1) := dk_27 (by decide +kernel)
theorem dX10_takeFirst_7 : decode cX10_takeFirst 7 = .ok (.bipush 16, 2) := dk_16 (x := 16) (by decide +kernel) rfl
theorem dX10_takeFirst_9 : decode cX10_takeFirst 9 = .ok (.irem, 1) := dk_112 (by decide +kernel)
theorem dX10_takeFirst_10 : decode cX10_takeFirst 10 = .ok (.invokevirtual 253, 3) := dk_182 (x := 0) (y := 253) (by decide +kernel) rfl
theorem dX10_takeFirst_13 : decode cX10_takeFirst 13 = .ok (.invokevirtual 256, 3) := dk_182 (x := 1) (y := 0) (by decide +kernel) rfl
theorem dX10_takeFirst_16 : decode cX10_takeFirst 16 = .ok (.istore_n 2, 1) := dk_61 (by decide +kernel)
theorem dX10_takeFirst_17 : decode cX10_takeFirst 17 = .ok (.return_, 1) := dk_177 (by decide +kernel)
def f_X10_takeFirst (n : Nat) (o : Nat) (a1 : Int32) (M : Mem) : Option Mem :=
  chk (¬ (16 : Int32) = 0) <|
  chk (¬ (16 : Int32) = 0) <|
  chk (isO M 10 o) <|
  obd (f_X10_letterAt n o (a1 / (16 : Int32)) (a1 - a1 / (16 : Int32) * (16 : Int32)) M) fun r5 =>
  obd2 (f_X10_bringNow n o r5 M) fun r7 M8 =>
  some M8
theorem cd_X10_takeFirst : (yX10_takeFirst.cls ≠ "java/lang/invoke/MethodHandle" ∧ yX10_takeFirst.cls ≠ "java/lang/invoke/VarHandle") ∧ (parseMethodDescriptor yX10_takeFirst.desc).map (fun d => d.parameters.length) = some 1 := ⟨⟨by decide +kernel, by decide +kernel⟩, by decide +kernel⟩
theorem k_X10_takeFirst (G : Gam) {n : Nat} {o : Nat} {a1 : Int32} {M : Mem} {rv : Mem} (hf : f_X10_takeFirst n o a1 M = some rv) : Kt yX10_takeFirst cX10_takeFirst 3 none 6 144 G [.ref (gB G + o), .int a1] M rv none := by
  refine Kt.of (by decide) (Nat.le_of_ble_eq_true rfl) ?_
  intro p l e R s m args below meth c X hr hlk hnm
  refine s_drop [0, 1] (vs' := [(0, .ref (gB G + o)), (1, .int a1)]) rfl ?_
  rw [f_X10_takeFirst] at hf
  refine s_aload_n X 0 dX10_takeFirst_0 rfl rfl ?_
  refine s_aload_n X 0 dX10_takeFirst_1 rfl rfl ?_
  refine s_iload_n X 1 dX10_takeFirst_2 rfl rfl ?_
  refine s_bipush X (v := (16 : Int32)) dX10_takeFirst_3 rfl ?_
  obtain ⟨h1, hf⟩ := pk_chk hf
  refine s_idiv X dX10_takeFirst_5 h1 ?_
  refine s_iload_n X 1 dX10_takeFirst_6 rfl rfl ?_
  refine s_bipush X (v := (16 : Int32)) dX10_takeFirst_7 rfl ?_
  obtain ⟨h2, hf⟩ := pk_chk hf
  refine s_irem X dX10_takeFirst_9 h2 ?_
  obtain ⟨h3, hf⟩ := pk_chk hf
  obtain ⟨r5, hc4, hf⟩ := pk_obd hf
  refine s_callV X (ci := 10) (k_X10_letterAt G hc4) rfl h3 wd1731 wd1733 wd73 wd1734 wd138 cd_X10_letterAt ⟨Nat.le_of_ble_eq_true rfl, Nat.le_of_ble_eq_true rfl⟩ (Nat.le_of_ble_eq_true rfl) dX10_takeFirst_10 ?_
  obtain ⟨r7, M8, hc6, hf⟩ := pk_obd2 hf
  refine s_callV X (ci := 10) (k_X10_bringNow G hc6) rfl h3 wd1735 wd1737 wd74 wd1738 wd138 cd_X10_bringNow ⟨Nat.le_of_ble_eq_true rfl, Nat.le_of_ble_eq_true rfl⟩ (Nat.le_of_ble_eq_true rfl) dX10_takeFirst_13 ?_
  refine s_istore_n X (vs' := [(0, .ref (gB G + o)), (1, .int a1), (2, .int r7)]) dX10_takeFirst_16 rfl (Nat.le_of_ble_eq_true rfl) [1, 2, 0] rfl ?_
  cases hf
  exact s_vret X hr hlk dX10_takeFirst_17
theorem dX10_doMove_0 : decode cX10_doMove 0 = .ok (.aload_n 0, 1) := dk_42 (by decide +kernel)
theorem dX10_doMove_1 : decode cX10_doMove 1 = .ok (.getfield 19, 3) := dk_180 (x := 0) (y := 19) (by decide +kernel) rfl
theorem dX10_doMove_4 : decode cX10_doMove 4 = .ok (.iload_n 1, 1) := dk_27 (by decide +kernel)
theorem dX10_doMove_5 : decode cX10_doMove 5 = .ok (.iaload, 1) := dk_46 (by decide +kernel)
theorem dX10_doMove_6 : decode cX10_doMove 6 = .ok (.ifCond .ge 18, 3) := dk_156 (x := 0) (y := 18) (by decide +kernel) rfl
theorem dX10_doMove_9 : decode cX10_doMove 9 = .ok (.aload_n 0, 1) := dk_42 (by decide +kernel)
theorem dX10_doMove_10 : decode cX10_doMove 10 = .ok (.iconst (-1), 1) := dk_2 (by decide +kernel)
theorem dX10_doMove_11 : decode cX10_doMove 11 = .ok (.aload_n 0, 1) := dk_42 (by decide +kernel)
theorem dX10_doMove_12 : decode cX10_doMove 12 = .ok (.getfield 19, 3) := dk_180 (x := 0) (y := 19) (by decide +kernel) rfl
theorem dX10_doMove_15 : decode cX10_doMove 15 = .ok (.iload_n 1, 1) := dk_27 (by decide +kernel)
theorem dX10_doMove_16 : decode cX10_doMove 16 = .ok (.iaload, 1) := dk_46 (by decide +kernel)
theorem dX10_doMove_17 : decode cX10_doMove 17 = .ok (.isub, 1) := dk_100 (by decide +kernel)
theorem dX10_doMove_18 : decode cX10_doMove 18 = .ok (.invokevirtual 217, 3) := dk_182 (x := 0) (y := 217) (by decide +kernel) rfl
theorem dX10_doMove_21 : decode cX10_doMove 21 = .ok (.goto 42, 3) := dk_167 (x := 0) (y := 42) (by decide +kernel) rfl
theorem dX10_doMove_24 : decode cX10_doMove 24 = .ok (.aload_n 0, 1) := dk_42 (by decide +kernel)
theorem dX10_doMove_25 : decode cX10_doMove 25 = .ok (.getfield 19, 3) := dk_180 (x := 0) (y := 19) (by decide +kernel) rfl
theorem dX10_doMove_28 : decode cX10_doMove 28 = .ok (.iload_n 1, 1) := dk_27 (by decide +kernel)
theorem dX10_doMove_29 : decode cX10_doMove 29 = .ok (.iaload, 1) := dk_46 (by decide +kernel)
theorem dX10_doMove_30 : decode cX10_doMove 30 = .ok (.sipush 256, 3) := dk_17 (x := 1) (y := 0) (by decide +kernel) rfl
theorem dX10_doMove_33 : decode cX10_doMove 33 = .ok (.if_icmp .lt 20, 3) := dk_161 (x := 0) (y := 20) (by decide +kernel) rfl
theorem dX10_doMove_36 : decode cX10_doMove 36 = .ok (.aload_n 0, 1) := dk_42 (by decide +kernel)
theorem dX10_doMove_37 : decode cX10_doMove 37 = .ok (.aload_n 0, 1) := dk_42 (by decide +kernel)
theorem dX10_doMove_38 : decode cX10_doMove 38 = .ok (.getfield 19, 3) := dk_180 (x := 0) (y := 19) (by decide +kernel) rfl
theorem dX10_doMove_41 : decode cX10_doMove 41 = .ok (.iload_n 1, 1) := dk_27 (by decide +kernel)
theorem dX10_doMove_42 : decode cX10_doMove 42 = .ok (.iaload, 1) := dk_46 (by decide +kernel)
theorem dX10_doMove_43 : decode cX10_doMove 43 = .ok (.sipush 256, 3) := dk_17 (x := 1) (y := 0) (by decide +kernel) rfl
theorem dX10_doMove_46 : decode cX10_doMove 46 = .ok (.isub, 1) := dk_100 (by decide +kernel)
theorem dX10_doMove_47 : decode cX10_doMove 47 = .ok (.invokevirtual 211, 3) := dk_182 (x := 0) (y := 211) (by decide +kernel) rfl
theorem dX10_doMove_50 : decode cX10_doMove 50 = .ok (.goto 13, 3) := dk_167 (x := 0) (y := 13) (by decide +kernel) rfl
theorem dX10_doMove_53 : decode cX10_doMove 53 = .ok (.aload_n 0, 1) := dk_42 (by decide +kernel)
theorem dX10_doMove_54 : decode cX10_doMove 54 = .ok (.aload_n 0, 1) := dk_42 (by decide +kernel)
theorem dX10_doMove_55 : decode cX10_doMove 55 = .ok (.getfield 19, 3) := dk_180 (x := 0) (y := 19) (by decide +kernel) rfl
theorem dX10_doMove_58 : decode cX10_doMove 58 = .ok (.iload_n 1, 1) := dk_27 (by decide +kernel)
theorem dX10_doMove_59 : decode cX10_doMove 59 = .ok (.iaload, 1) := dk_46 (by decide +kernel)
theorem dX10_doMove_60 : decode cX10_doMove 60 = .ok (.invokevirtual 277, 3) := dk_182 (x := 1) (y := 21) (by decide +kernel) rfl
theorem dX10_doMove_63 : decode cX10_doMove 63 = .ok (.return_, 1) := dk_177 (by decide +kernel)
def f_X10_doMove (n : Nat) (o : Nat) (a1 : Int32) (M : Mem) : Option Mem :=
  chk (isO M 10 o) <|
  bnd (mR M o 4) fun o2 =>
  chk (isO M 100 o2) <|
  chk (inB a1 (mLn M o2)) <|
  if 0 ≤ (mI M o2 (a1).toNatClampNeg) then (
    bnd (mR M o 4) fun o8 =>
    chk (isO M 100 o8) <|
    chk (inB a1 (mLn M o8)) <|
    if (mI M o8 (a1).toNatClampNeg) < (256 : Int32) then (
      bnd (mR M o 4) fun o14 =>
      chk (isO M 100 o14) <|
      chk (inB a1 (mLn M o14)) <|
      obd (f_X10_takeFirst n o (mI M o14 (a1).toNatClampNeg) M) fun M19 =>
      some M19
      ) else (
      bnd (mR M o 4) fun o20 =>
      chk (isO M 100 o20) <|
      chk (inB a1 (mLn M o20)) <|
      obd (f_X10_askNow n o ((mI M o20 (a1).toNatClampNeg) - (256 : Int32)) M) fun M25 =>
      some M25
      )
    ) else (
    bnd (mR M o 4) fun o26 =>
    chk (isO M 100 o26) <|
    chk (inB a1 (mLn M o26)) <|
    obd (f_X10_leaveNow n o ((-1 : Int32) - (mI M o26 (a1).toNatClampNeg)) M) fun M31 =>
    some M31
    )
theorem cd_X10_doMove : (yX10_doMove.cls ≠ "java/lang/invoke/MethodHandle" ∧ yX10_doMove.cls ≠ "java/lang/invoke/VarHandle") ∧ (parseMethodDescriptor yX10_doMove.desc).map (fun d => d.parameters.length) = some 1 := ⟨⟨by decide +kernel, by decide +kernel⟩, by decide +kernel⟩
theorem k_X10_doMove (G : Gam) {n : Nat} {o : Nat} {a1 : Int32} {M : Mem} {rv : Mem} (hf : f_X10_doMove n o a1 M = some rv) : Kt yX10_doMove cX10_doMove 2 none 7 166 G [.ref (gB G + o), .int a1] M rv none := by
  refine Kt.of (by decide) (Nat.le_of_ble_eq_true rfl) ?_
  intro p l e R s m args below meth c X hr hlk hnm
  refine s_drop [0, 1] (vs' := [(0, .ref (gB G + o)), (1, .int a1)]) rfl ?_
  rw [f_X10_doMove] at hf
  refine s_aload_n X 0 dX10_doMove_0 rfl rfl ?_
  obtain ⟨h1, hf⟩ := pk_chk hf
  obtain ⟨o2, e3, hf⟩ := pk_bnd hf
  obtain ⟨h4, hf⟩ := pk_chk hf
  refine s_getR X (ci := 10) (k := 4) rfl (Nat.le_of_ble_eq_true rfl) h1 wd1444 (fun _ _ _ => rfl) (e3 ▸ h4) dX10_doMove_1 (e3 ▸ ?_)
  refine s_iload_n X 1 dX10_doMove_4 rfl rfl ?_
  obtain ⟨h5, hf⟩ := pk_chk hf
  refine s_iald X h4 h5 dX10_doMove_5 ?_
  have hs6 := pk_ite hf
  clear hf
  refine s_if_ge X (tgt := 24) dX10_doMove_6 rfl (fun c7 => ?_) (fun c7 => ?_)
  · have hf := hs6.1 c7
    refine s_aload_n X 0 dX10_doMove_24 rfl rfl ?_
    obtain ⟨o8, e9, hf⟩ := pk_bnd hf
    obtain ⟨h10, hf⟩ := pk_chk hf
    refine s_getR X (ci := 10) (k := 4) rfl (Nat.le_of_ble_eq_true rfl) h1 wd1444 (fun _ _ _ => rfl) (e9 ▸ h10) dX10_doMove_25 (e9 ▸ ?_)
    refine s_iload_n X 1 dX10_doMove_28 rfl rfl ?_
    obtain ⟨h11, hf⟩ := pk_chk hf
    refine s_iald X h10 h11 dX10_doMove_29 ?_
    refine s_sipush X (v := (256 : Int32)) dX10_doMove_30 rfl ?_
    have hs12 := pk_ite hf
    clear hf
    refine s_icmp_lt X (tgt := 53) dX10_doMove_33 rfl (fun c13 => ?_) (fun c13 => ?_)
    · have hf := hs12.1 c13
      refine s_aload_n X 0 dX10_doMove_53 rfl rfl ?_
      refine s_aload_n X 0 dX10_doMove_54 rfl rfl ?_
      obtain ⟨o14, e15, hf⟩ := pk_bnd hf
      obtain ⟨h16, hf⟩ := pk_chk hf
      refine s_getR X (ci := 10) (k := 4) rfl (Nat.le_of_ble_eq_true rfl) h1 wd1444 (fun _ _ _ => rfl) (e15 ▸ h16) dX10_doMove_55 (e15 ▸ ?_)
      refine s_iload_n X 1 dX10_doMove_58 rfl rfl ?_
      obtain ⟨h17, hf⟩ := pk_chk hf
      refine s_iald X h16 h17 dX10_doMove_59 ?_
      obtain ⟨M19, hc18, hf⟩ := pk_obd hf
      refine s_callV X (ci := 10) (k_X10_takeFirst G hc18) rfl h1 wd1954 wd1956 wd110 wd1957 wd138 cd_X10_takeFirst ⟨Nat.le_of_ble_eq_true rfl, Nat.le_of_ble_eq_true rfl⟩ (Nat.le_of_ble_eq_true rfl) dX10_doMove_60 ?_
      cases hf
      exact s_vret X hr hlk dX10_doMove_63
    · have hf := hs12.2 c13
      refine s_aload_n X 0 dX10_doMove_36 rfl rfl ?_
      refine s_aload_n X 0 dX10_doMove_37 rfl rfl ?_
      obtain ⟨o20, e21, hf⟩ := pk_bnd hf
      obtain ⟨h22, hf⟩ := pk_chk hf
      refine s_getR X (ci := 10) (k := 4) rfl (Nat.le_of_ble_eq_true rfl) h1 wd1444 (fun _ _ _ => rfl) (e21 ▸ h22) dX10_doMove_38 (e21 ▸ ?_)
      refine s_iload_n X 1 dX10_doMove_41 rfl rfl ?_
      obtain ⟨h23, hf⟩ := pk_chk hf
      refine s_iald X h22 h23 dX10_doMove_42 ?_
      refine s_sipush X (v := (256 : Int32)) dX10_doMove_43 rfl ?_
      refine s_isub X dX10_doMove_46 ?_
      obtain ⟨M25, hc24, hf⟩ := pk_obd hf
      refine s_callV X (ci := 10) (k_X10_askNow G hc24) rfl h1 wd1688 wd1690 wd67 wd1691 wd138 cd_X10_askNow ⟨Nat.le_of_ble_eq_true rfl, Nat.le_of_ble_eq_true rfl⟩ (Nat.le_of_ble_eq_true rfl) dX10_doMove_47 ?_
      refine s_goto X (tgt := 63) dX10_doMove_50 rfl ?_
      cases hf
      exact s_vret X hr hlk dX10_doMove_63
  · have hf := hs6.2 c7
    refine s_aload_n X 0 dX10_doMove_9 rfl rfl ?_
    refine s_iconst X (v := (-1 : Int32)) dX10_doMove_10 rfl ?_
    refine s_aload_n X 0 dX10_doMove_11 rfl rfl ?_
    obtain ⟨o26, e27, hf⟩ := pk_bnd hf
    obtain ⟨h28, hf⟩ := pk_chk hf
    refine s_getR X (ci := 10) (k := 4) rfl (Nat.le_of_ble_eq_true rfl) h1 wd1444 (fun _ _ _ => rfl) (e27 ▸ h28) dX10_doMove_12 (e27 ▸ ?_)
    refine s_iload_n X 1 dX10_doMove_15 rfl rfl ?_
    obtain ⟨h29, hf⟩ := pk_chk hf
    refine s_iald X h28 h29 dX10_doMove_16 ?_
    refine s_isub X dX10_doMove_17 ?_
    obtain ⟨M31, hc30, hf⟩ := pk_obd hf
    refine s_callV X (ci := 10) (k_X10_leaveNow G hc30) rfl h1 wd1711 wd1713 wd71 wd1714 wd138 cd_X10_leaveNow ⟨Nat.le_of_ble_eq_true rfl, Nat.le_of_ble_eq_true rfl⟩ (Nat.le_of_ble_eq_true rfl) dX10_doMove_18 ?_
    refine s_goto X (tgt := 63) dX10_doMove_21 rfl ?_
    cases hf
    exact s_vret X hr hlk dX10_doMove_63
theorem dX10_goOnce_0 : decode cX10_goOnce 0 = .ok (.aload_n 0, 1) := dk_42 (by decide +kernel)
theorem dX10_goOnce_1 : decode cX10_goOnce 1 = .ok (.invokevirtual 280, 3) := dk_182 (x := 1) (y := 24) (by decide +kernel) rfl
theorem dX10_goOnce_4 : decode cX10_goOnce 4 = .ok (.aload_n 0, 1) := dk_42 (by decide +kernel)
theorem dX10_goOnce_5 : decode cX10_goOnce 5 = .ok (.getfield 271, 3) := dk_180 (x := 1) (y := 15) (by decide +kernel) rfl
theorem dX10_goOnce_8 : decode cX10_goOnce 8 = .ok (.ifCond .ne 5, 3) := dk_154 (x := 0) (y := 5) (by decide +kernel) rfl
theorem dX10_goOnce_11 : decode cX10_goOnce 11 = .ok (.iconst 0, 1) := dk_3 (by decide +kernel)
theorem dX10_goOnce_12 : decode cX10_goOnce 12 = .ok (.ireturn, 1) := dk_172 (by decide +kernel)
theorem dX10_goOnce_13 : decode cX10_goOnce 13 = .ok (.aload_n 0, 1) := dk_42 (by decide +kernel)
theorem dX10_goOnce_14 : decode cX10_goOnce 14 = .ok (.aload_n 0, 1) := dk_42 (by decide +kernel)
theorem dX10_goOnce_15 : decode cX10_goOnce 15 = .ok (.aload_n 0, 1) := dk_42 (by decide +kernel)
theorem dX10_goOnce_16 : decode cX10_goOnce 16 = .ok (.getfield 271, 3) := dk_180 (x := 1) (y := 15) (by decide +kernel) rfl
theorem dX10_goOnce_19 : decode cX10_goOnce 19 = .ok (.invokevirtual 310, 3) := dk_182 (x := 1) (y := 54) (by decide +kernel) rfl
theorem dX10_goOnce_22 : decode cX10_goOnce 22 = .ok (.invokevirtual 313, 3) := dk_182 (x := 1) (y := 57) (by decide +kernel) rfl
theorem dX10_goOnce_25 : decode cX10_goOnce 25 = .ok (.iconst 1, 1) := dk_4 (by decide +kernel)
theorem dX10_goOnce_26 : decode cX10_goOnce 26 = .ok (.ireturn, 1) := dk_172 (by decide +kernel)
def f_X10_goOnce (n : Nat) (o : Nat) (M : Mem) : Option (Int32 × Mem) :=
  chk (isO M 10 o) <|
  obd (f_X10_layMoves n o M) fun M3 =>
  chk (isO M3 10 o) <|
  if (mI M3 o 6) = 0 then (
    some ((0 : Int32), M3)
    ) else (
    obd2 (f_X10_draw o (mI M3 o 6) M3) fun r8 M9 =>
    chk (isO M9 10 o) <|
    obd (f_X10_doMove n o r8 M9) fun M12 =>
    some ((1 : Int32), M12)
    )
theorem cd_X10_goOnce : (yX10_goOnce.cls ≠ "java/lang/invoke/MethodHandle" ∧ yX10_goOnce.cls ≠ "java/lang/invoke/VarHandle") ∧ (parseMethodDescriptor yX10_goOnce.desc).map (fun d => d.parameters.length) = some 0 := ⟨⟨by decide +kernel, by decide +kernel⟩, by decide +kernel⟩
theorem k_X10_goOnce (G : Gam) {n : Nat} {o : Nat} {M : Mem} {rv : (Int32 × Mem)} (hf : f_X10_goOnce n o M = some rv) : Kt yX10_goOnce cX10_goOnce 1 (some .boolean) 8 187 G [.ref (gB G + o)] M rv.2 (some (.int rv.1)) := by
  refine Kt.of (by decide) (Nat.le_of_ble_eq_true rfl) ?_
  intro p l e R s m args below meth c X hr hlk hnm
  refine s_drop [0] (vs' := [(0, .ref (gB G + o))]) rfl ?_
  rw [f_X10_goOnce] at hf
  refine s_aload_n X 0 dX10_goOnce_0 rfl rfl ?_
  obtain ⟨h1, hf⟩ := pk_chk hf
  obtain ⟨M3, hc2, hf⟩ := pk_obd hf
  refine s_callV X (ci := 10) (k_X10_layMoves G hc2) rfl h1 wd1906 wd1908 wd103 wd1909 wd138 cd_X10_layMoves ⟨Nat.le_of_ble_eq_true rfl, Nat.le_of_ble_eq_true rfl⟩ (Nat.le_of_ble_eq_true rfl) dX10_goOnce_1 ?_
  refine s_aload_n X 0 dX10_goOnce_4 rfl rfl ?_
  obtain ⟨h4, hf⟩ := pk_chk hf
  refine s_getI X (ci := 10) (k := 6) rfl (Nat.le_of_ble_eq_true rfl) h4 wd1446 (fun _ _ _ => rfl) dX10_goOnce_5 ?_
  have hs5 := pk_ite hf
  clear hf
  refine s_if_ne X (tgt := 13) dX10_goOnce_8 rfl (fun c6 => ?_) (fun c6 => ?_)
  · have hf := hs5.2 c6
    refine s_aload_n X 0 dX10_goOnce_13 rfl rfl ?_
    refine s_aload_n X 0 dX10_goOnce_14 rfl rfl ?_
    refine s_aload_n X 0 dX10_goOnce_15 rfl rfl ?_
    refine s_getI X (ci := 10) (k := 6) rfl (Nat.le_of_ble_eq_true rfl) h4 wd1446 (fun _ _ _ => rfl) dX10_goOnce_16 ?_
    obtain ⟨r8, M9, hc7, hf⟩ := pk_obd2 hf
    refine s_callV X (ci := 10) (k_X10_draw G hc7) rfl h4 wd1942 wd1944 wd108 wd1945 wd138 cd_X10_draw ⟨Nat.le_of_ble_eq_true rfl, Nat.le_of_ble_eq_true rfl⟩ (Nat.le_of_ble_eq_true rfl) dX10_goOnce_19 ?_
    obtain ⟨h10, hf⟩ := pk_chk hf
    obtain ⟨M12, hc11, hf⟩ := pk_obd hf
    refine s_callV X (ci := 10) (k_X10_doMove G hc11) rfl h10 wd1950 wd1952 wd109 wd1953 wd138 cd_X10_doMove ⟨Nat.le_of_ble_eq_true rfl, Nat.le_of_ble_eq_true rfl⟩ (Nat.le_of_ble_eq_true rfl) dX10_goOnce_22 ?_
    refine s_iconst X (v := (1 : Int32)) dX10_goOnce_25 rfl ?_
    cases hf
    exact s_zret X hr (bz_n (Or.inr rfl)) hlk dX10_goOnce_26
  · have hf := hs5.1 c6
    refine s_iconst X (v := (0 : Int32)) dX10_goOnce_11 rfl ?_
    cases hf
    exact s_zret X hr (bz_n (Or.inl rfl)) hlk dX10_goOnce_12
theorem dX10_goOn_0 : decode cX10_goOn 0 = .ok (.iload_n 1, 1) := dk_27 (by decide +kernel)
theorem dX10_goOn_1 : decode cX10_goOn 1 = .ok (.ifCond .lt 14, 3) := dk_155 (x := 0) (y := 14) (by decide +kernel) rfl
theorem dX10_goOn_4 : decode cX10_goOn 4 = .ok (.iload_n 2, 1) := dk_28 (by decide +kernel)
theorem dX10_goOn_5 : decode cX10_goOn 5 = .ok (.iconst 0, 1) := dk_3 (by decide +kernel)
theorem dX10_goOn_6 : decode cX10_goOn 6 = .ok (.sipush 500, 3) := dk_17 (x := 1) (y := 244) (by decide +kernel) rfl
theorem dX10_goOn_9 : decode cX10_goOn 9 = .ok (.invokestatic 49, 3) := dk_184 (x := 0) (y := 49) (by decide +kernel) rfl
theorem dX10_goOn_12 : decode cX10_goOn 12 = .ok (.ifCond .ne 5, 3) := dk_154 (x := 0) (y := 5) (by decide +kernel) rfl
theorem dX10_goOn_15 : decode cX10_goOn 15 = .ok (.iconst (-1), 1) := dk_2 (by decide +kernel)
theorem dX10_goOn_16 : decode cX10_goOn 16 = .ok (.ireturn, 1) := dk_172 (by decide +kernel)
theorem dX10_goOn_17 : decode cX10_goOn 17 = .ok (.aload_n 0, 1) := dk_42 (by decide +kernel)
theorem dX10_goOn_18 : decode cX10_goOn 18 = .ok (.iload_n 1, 1) := dk_27 (by decide +kernel)
theorem dX10_goOn_19 : decode cX10_goOn 19 = .ok (.i2l, 1) := dk_133 (by decide +kernel)
theorem dX10_goOn_20 : decode cX10_goOn 20 = .ok (.putfield 298, 3) := dk_181 (x := 1) (y := 42) (by decide +kernel) rfl
theorem dX10_goOn_23 : decode cX10_goOn 23 = .ok (.iconst 0, 1) := dk_3 (by decide +kernel)
theorem dX10_goOn_24 : decode cX10_goOn 24 = .ok (.istore_n 3, 1) := dk_62 (by decide +kernel)
theorem dX10_goOn_25 : decode cX10_goOn 25 = .ok (.iload_n 3, 1) := dk_29 (by decide +kernel)
theorem dX10_goOn_26 : decode cX10_goOn 26 = .ok (.iload_n 2, 1) := dk_28 (by decide +kernel)
theorem dX10_goOn_27 : decode cX10_goOn 27 = .ok (.if_icmp .ge 16, 3) := dk_162 (x := 0) (y := 16) (by decide +kernel) rfl
theorem dX10_goOn_30 : decode cX10_goOn 30 = .ok (.aload_n 0, 1) := dk_42 (by decide +kernel)
theorem dX10_goOn_31 : decode cX10_goOn 31 = .ok (.invokevirtual 316, 3) := dk_182 (x := 1) (y := 60) (by decide +kernel) rfl
theorem dX10_goOn_34 : decode cX10_goOn 34 = .ok (.ifCond .eq 9, 3) := dk_153 (x := 0) (y := 9) (by decide +kernel) rfl
theorem dX10_goOn_37 : decode cX10_goOn 37 = .ok (.iinc 3 1, 3) := dk_132 (x := 3) (y := 1) (by decide +kernel) rfl
theorem dX10_goOn_40 : decode cX10_goOn 40 = .ok (.goto (-15), 3) := dk_167 (x := 255) (y := 241) (by decide +kernel) rfl
theorem dX10_goOn_43 : decode cX10_goOn 43 = .ok (.iload_n 3, 1) := dk_29 (by decide +kernel)
theorem dX10_goOn_44 : decode cX10_goOn 44 = .ok (.ireturn, 1) := dk_172 (by decide +kernel)
def f_X10_goOn_25 : Nat → Nat → Int32 → Int32 → Mem → Option (Int32 × Mem)
  | 0, _, _, _, _ => none
  | n + 1, v0, v2, v3, M =>
    if v2 ≤ v3 then (
      some (v3, M)
      ) else (
      chk (isO M 10 v0) <|
      obd2 (f_X10_goOnce n v0 M) fun r5 M6 =>
      if r5 = 0 then (
        some (v3, M6)
        ) else (
        bnd (v3 + (1 : Int32)) fun x9 =>
        f_X10_goOn_25 n v0 v2 x9 M6
        )
      )
def f_X10_goOn (n : Nat) (o : Nat) (a1 : Int32) (a2 : Int32) (M : Mem) : Option (Int32 × Mem) :=
  if a1 < 0 then (
    some ((-1 : Int32), M)
    ) else (
    obd (f_X10_isIn a2 (0 : Int32) (500 : Int32) M) fun r4 =>
    if r4 = 0 then (
      some ((-1 : Int32), M)
      ) else (
      chk (isO M 10 o) <|
      bnd (sL M o 8 ((a1).toInt64)) fun M8 =>
      f_X10_goOn_25 n o a2 (0 : Int32) M8
      )
    )
theorem cd_X10_goOn : (yX10_goOn.cls ≠ "java/lang/invoke/MethodHandle" ∧ yX10_goOn.cls ≠ "java/lang/invoke/VarHandle") ∧ (parseMethodDescriptor yX10_goOn.desc).map (fun d => d.parameters.length) = some 2 := ⟨⟨by decide +kernel, by decide +kernel⟩, by decide +kernel⟩
section
variable {p : Program} {l : Launch} {e : Env} {R : Room} {s : State} {m : MethodId} {args : Array Value} {below : List Frame} {meth : Method} {c : Code} {G : Gam} {M0 : Mem}
theorem l_X10_goOn_25 {rv : (Int32 × Mem)} (X : Cx p R s m args c G M0 cX10_goOn yX10_goOn.cls 4 9 207) (hr : meth.sig.returnType = (some .int)) (hlk : meth.locks = false) (hnm : meth.name = "goOn") : ∀ {n : Nat} (v0 : Nat) (v2 : Int32) (v3 : Int32) (M : Mem), f_X10_goOn_25 n v0 v2 v3 M = some rv → Sg p l e R s m args below meth c (Qm below G args s (some (.int rv.1)) M0 rv.2) G M0 4 25 [(0, .ref (gB G + v0)), (2, .int v2), (3, .int v3)] [] M := by
  intro n
  induction n with
  | zero => intro v0 v2 v3 M hf; exact (pk_none hf).elim
  | succ n ih =>
    intro v0 v2 v3 M hf
    rw [f_X10_goOn_25] at hf
    refine s_iload_n X 2 dX10_goOn_25 rfl rfl ?_
    refine s_iload_n X 1 dX10_goOn_26 rfl rfl ?_
    have hs1 := pk_ite hf
    clear hf
    refine s_icmp_ge X (tgt := 43) dX10_goOn_27 rfl (fun c2 => ?_) (fun c2 => ?_)
    · have hf := hs1.1 c2
      refine s_iload_n X 2 dX10_goOn_43 rfl rfl ?_
      cases hf
      exact s_iret X hr hlk dX10_goOn_44
    · have hf := hs1.2 c2
      refine s_aload_n X 0 dX10_goOn_30 rfl rfl ?_
      obtain ⟨h3, hf⟩ := pk_chk hf
      obtain ⟨r5, M6, hc4, hf⟩ := pk_obd2 hf
      refine s_callV X (ci := 10) (k_X10_goOnce G hc4) rfl h3 wd1938 wd1940 wd107 wd1941 wd138 cd_X10_goOnce ⟨Nat.le_of_ble_eq_true rfl, Nat.le_of_ble_eq_true rfl⟩ (Nat.le_of_ble_eq_true rfl) dX10_goOn_31 ?_
      have hs7 := pk_ite hf
      clear hf
      refine s_if_eq X (tgt := 43) dX10_goOn_34 rfl (fun c8 => ?_) (fun c8 => ?_)
      · have hf := hs7.1 c8
        refine s_iload_n X 2 dX10_goOn_43 rfl rfl ?_
        cases hf
        exact s_iret X hr hlk dX10_goOn_44
      · have hf := hs7.2 c8
        obtain ⟨x9, e10, hf⟩ := pk_bnd hf
        refine s_iinc X (vs' := [(0, .ref (gB G + v0)), (2, .int v2), (3, .int x9)]) 2 dX10_goOn_37 rfl (v := x9) e10.symm (Nat.le_of_ble_eq_true rfl) [1, 2, 0] rfl ?_
        refine s_goto X (tgt := 25) dX10_goOn_40 rfl ?_
        exact ih _ _ _ _ hf
end
theorem k_X10_goOn (G : Gam) {n : Nat} {o : Nat} {a1 : Int32} {a2 : Int32} {M : Mem} {rv : (Int32 × Mem)} (hf : f_X10_goOn n o a1 a2 M = some rv) : Kt yX10_goOn cX10_goOn 4 (some .int) 9 207 G [.ref (gB G + o), .int a1, .int a2] M rv.2 (some (.int rv.1)) := by
  refine Kt.of (by decide) (Nat.le_of_ble_eq_true rfl) ?_
  intro p l e R s m args below meth c X hr hlk hnm
  refine s_drop [0, 1, 2] (vs' := [(0, .ref (gB G + o)), (1, .int a1), (2, .int a2)]) rfl ?_
  rw [f_X10_goOn] at hf
  refine s_iload_n X 1 dX10_goOn_0 rfl rfl ?_
  have hs1 := pk_ite hf
  clear hf
  refine s_if_lt X (tgt := 15) dX10_goOn_1 rfl (fun c2 => ?_) (fun c2 => ?_)
  · have hf := hs1.1 c2
    refine s_iconst X (v := (-1 : Int32)) dX10_goOn_15 rfl ?_
    cases hf
    exact s_iret X hr hlk dX10_goOn_16
  · have hf := hs1.2 c2
    refine s_iload_n X 2 dX10_goOn_4 rfl rfl ?_
    refine s_iconst X (v := (0 : Int32)) dX10_goOn_5 rfl ?_
    refine s_sipush X (v := (500 : Int32)) dX10_goOn_6 rfl ?_
    obtain ⟨r4, hc3, hf⟩ := pk_obd hf
    refine s_callS X (k_X10_isIn G hc3) wd1520 wd1521 wd1522 wd138 cd_X10_isIn ⟨Nat.le_of_ble_eq_true rfl, Nat.le_of_ble_eq_true rfl⟩ (Nat.le_of_ble_eq_true rfl) dX10_goOn_9 ?_
    have hs5 := pk_ite hf
    clear hf
    refine s_if_ne X (tgt := 17) dX10_goOn_12 rfl (fun c6 => ?_) (fun c6 => ?_)
    · have hf := hs5.2 c6
      refine s_aload_n X 0 dX10_goOn_17 rfl rfl ?_
      refine s_iload_n X 1 dX10_goOn_18 rfl rfl ?_
      refine s_i2l X dX10_goOn_19 ?_
      obtain ⟨h7, hf⟩ := pk_chk hf
      obtain ⟨M8, e9, hf⟩ := pk_bnd hf
      refine s_putL X (ci := 10) (k := 8) rfl (Nat.le_of_ble_eq_true rfl) h7 wd1448 (fun _ _ _ => rfl) rfl rfl e9 dX10_goOn_20 ?_
      have h10 := io_sL e9 h7
      refine s_iconst X (v := (0 : Int32)) dX10_goOn_23 rfl ?_
      refine s_istore_n X (vs' := [(0, .ref (gB G + o)), (1, .int a1), (2, .int a2), (3, .int (0 : Int32))]) dX10_goOn_24 rfl (Nat.le_of_ble_eq_true rfl) [1, 2, 3, 0] rfl ?_
      refine s_drop [0, 2, 3] (vs' := [(0, .ref (gB G + o)), (2, .int a2), (3, .int (0 : Int32))]) rfl ?_
      exact l_X10_goOn_25 X hr hlk hnm _ _ _ _ hf
    · have hf := hs5.1 c6
      refine s_iconst X (v := (-1 : Int32)) dX10_goOn_15 rfl ?_
      cases hf
      exact s_iret X hr hlk dX10_goOn_16
theorem dX5_copyFrom_0 : decode cX5_copyFrom 0 = .ok (.aload_n 0, 1) := dk_42 (by decide +kernel)
theorem dX5_copyFrom_1 : decode cX5_copyFrom 1 = .ok (.getfield 27, 3) := dk_180 (x := 0) (y := 27) (by decide +kernel) rfl
theorem dX5_copyFrom_4 : decode cX5_copyFrom 4 = .ok (.arraylength, 1) := dk_190 (by decide +kernel)
theorem dX5_copyFrom_5 : decode cX5_copyFrom 5 = .ok (.aload_n 1, 1) := dk_43 (by decide +kernel)
theorem dX5_copyFrom_6 : decode cX5_copyFrom 6 = .ok (.getfield 44, 3) := dk_180 (x := 0) (y := 44) (by decide +kernel) rfl
theorem dX5_copyFrom_9 : decode cX5_copyFrom 9 = .ok (.if_icmp .ge 36, 3) := dk_162 (x := 0) (y := 36) (by decide +kernel) rfl
theorem dX5_copyFrom_12 : decode cX5_copyFrom 12 = .ok (.aload_n 0, 1) := dk_42 (by decide +kernel)
theorem dX5_copyFrom_13 : decode cX5_copyFrom 13 = .ok (.aload_n 1, 1) := dk_43 (by decide +kernel)
theorem dX5_copyFrom_14 : decode cX5_copyFrom 14 = .ok (.getfield 27, 3) := dk_180 (x := 0) (y := 27) (by decide +kernel) rfl
theorem dX5_copyFrom_17 : decode cX5_copyFrom 17 = .ok (.arraylength, 1) := dk_190 (by decide +kernel)
theorem dX5_copyFrom_18 : decode cX5_copyFrom 18 = .ok (.newarray .int, 2) := dk_na_10 (by decide +kernel)
theorem dX5_copyFrom_20 : decode cX5_copyFrom 20 = .ok (.putfield 27, 3) := dk_181 (x := 0) (y := 27) (by decide +kernel) rfl
theorem dX5_copyFrom_23 : decode cX5_copyFrom 23 = .ok (.aload_n 0, 1) := dk_42 (by decide +kernel)
theorem dX5_copyFrom_24 : decode cX5_copyFrom 24 = .ok (.aload_n 1, 1) := dk_43 (by decide +kernel)
theorem dX5_copyFrom_25 : decode cX5_copyFrom 25 = .ok (.getfield 27, 3) := dk_180 (x := 0) (y := 27) (by decide +kernel) rfl
theorem dX5_copyFrom_28 : decode cX5_copyFrom 28 = .ok (.arraylength, 1) := dk_190 (by decide +kernel)
theorem dX5_copyFrom_29 : decode cX5_copyFrom 29 = .ok (.newarray .int, 2) := dk_na_10 (by decide +kernel)
theorem dX5_copyFrom_31 : decode cX5_copyFrom 31 = .ok (.putfield 30, 3) := dk_181 (x := 0) (y := 30) (by decide +kernel) rfl
theorem dX5_copyFrom_34 : decode cX5_copyFrom 34 = .ok (.aload_n 0, 1) := dk_42 (by decide +kernel)
theorem dX5_copyFrom_35 : decode cX5_copyFrom 35 = .ok (.aload_n 1, 1) := dk_43 (by decide +kernel)
theorem dX5_copyFrom_36 : decode cX5_copyFrom 36 = .ok (.getfield 27, 3) := dk_180 (x := 0) (y := 27) (by decide +kernel) rfl
theorem dX5_copyFrom_39 : decode cX5_copyFrom 39 = .ok (.arraylength, 1) := dk_190 (by decide +kernel)
theorem dX5_copyFrom_40 : decode cX5_copyFrom 40 = .ok (.newarray .int, 2) := dk_na_10 (by decide +kernel)
theorem dX5_copyFrom_42 : decode cX5_copyFrom 42 = .ok (.putfield 33, 3) := dk_181 (x := 0) (y := 33) (by decide +kernel) rfl
theorem dX5_copyFrom_45 : decode cX5_copyFrom 45 = .ok (.aload_n 1, 1) := dk_43 (by decide +kernel)
theorem dX5_copyFrom_46 : decode cX5_copyFrom 46 = .ok (.getfield 27, 3) := dk_180 (x := 0) (y := 27) (by decide +kernel) rfl
theorem dX5_copyFrom_49 : decode cX5_copyFrom 49 = .ok (.iconst 0, 1) := dk_3 (by decide +kernel)
theorem dX5_copyFrom_50 : decode cX5_copyFrom 50 = .ok (.aload_n 0, 1) := dk_42 (by decide +kernel)
theorem dX5_copyFrom_51 : decode cX5_copyFrom 51 = .ok (.getfield 27, 3) := dk_180 (x := 0) (y := 27) (by decide +kernel) rfl
theorem dX5_copyFrom_54 : decode cX5_copyFrom 54 = .ok (.iconst 0, 1) := dk_3 (by decide +kernel)
theorem dX5_copyFrom_55 : decode cX5_copyFrom 55 = .ok (.aload_n 1, 1) := dk_43 (by decide +kernel)
theorem dX5_copyFrom_56 : decode cX5_copyFrom 56 = .ok (.getfield 44, 3) := dk_180 (x := 0) (y := 44) (by decide +kernel) rfl
theorem dX5_copyFrom_59 : decode cX5_copyFrom 59 = .ok (.invokestatic 74, 3) := dk_184 (x := 0) (y := 74) (by decide +kernel) rfl
theorem dX5_copyFrom_62 : decode cX5_copyFrom 62 = .ok (.aload_n 1, 1) := dk_43 (by decide +kernel)
theorem dX5_copyFrom_63 : decode cX5_copyFrom 63 = .ok (.getfield 30, 3) := dk_180 (x := 0) (y := 30) (by decide +kernel) rfl
theorem dX5_copyFrom_66 : decode cX5_copyFrom 66 = .ok (.iconst 0, 1) := dk_3 (by decide +kernel)
theorem dX5_copyFrom_67 : decode cX5_copyFrom 67 = .ok (.aload_n 0, 1) := dk_42 (by decide +kernel)
theorem dX5_copyFrom_68 : decode cX5_copyFrom 68 = .ok (.getfield 30, 3) := dk_180 (x := 0) (y := 30) (by decide +kernel) rfl
theorem dX5_copyFrom_71 : decode cX5_copyFrom 71 = .ok (.iconst 0, 1) := dk_3 (by decide +kernel)
theorem dX5_copyFrom_72 : decode cX5_copyFrom 72 = .ok (.aload_n 1, 1) := dk_43 (by decide +kernel)
theorem dX5_copyFrom_73 : decode cX5_copyFrom 73 = .ok (.getfield 44, 3) := dk_180 (x := 0) (y := 44) (by decide +kernel) rfl
theorem dX5_copyFrom_76 : decode cX5_copyFrom 76 = .ok (.invokestatic 74, 3) := dk_184 (x := 0) (y := 74) (by decide +kernel) rfl
theorem dX5_copyFrom_79 : decode cX5_copyFrom 79 = .ok (.aload_n 1, 1) := dk_43 (by decide +kernel)
theorem dX5_copyFrom_80 : decode cX5_copyFrom 80 = .ok (.getfield 33, 3) := dk_180 (x := 0) (y := 33) (by decide +kernel) rfl
theorem dX5_copyFrom_83 : decode cX5_copyFrom 83 = .ok (.iconst 0, 1) := dk_3 (by decide +kernel)
theorem dX5_copyFrom_84 : decode cX5_copyFrom 84 = .ok (.aload_n 0, 1) := dk_42 (by decide +kernel)
theorem dX5_copyFrom_85 : decode cX5_copyFrom 85 = .ok (.getfield 33, 3) := dk_180 (x := 0) (y := 33) (by decide +kernel) rfl
theorem dX5_copyFrom_88 : decode cX5_copyFrom 88 = .ok (.iconst 0, 1) := dk_3 (by decide +kernel)
theorem dX5_copyFrom_89 : decode cX5_copyFrom 89 = .ok (.aload_n 1, 1) := dk_43 (by decide +kernel)
theorem dX5_copyFrom_90 : decode cX5_copyFrom 90 = .ok (.getfield 44, 3) := dk_180 (x := 0) (y := 44) (by decide +kernel) rfl
theorem dX5_copyFrom_93 : decode cX5_copyFrom 93 = .ok (.invokestatic 74, 3) := dk_184 (x := 0) (y := 74) (by decide +kernel) rfl
theorem dX5_copyFrom_96 : decode cX5_copyFrom 96 = .ok (.aload_n 1, 1) := dk_43 (by decide +kernel)
theorem dX5_copyFrom_97 : decode cX5_copyFrom 97 = .ok (.getfield 9, 3) := dk_180 (x := 0) (y := 9) (by decide +kernel) rfl
theorem dX5_copyFrom_100 : decode cX5_copyFrom 100 = .ok (.iconst 0, 1) := dk_3 (by decide +kernel)
theorem dX5_copyFrom_101 : decode cX5_copyFrom 101 = .ok (.aload_n 0, 1) := dk_42 (by decide +kernel)
theorem dX5_copyFrom_102 : decode cX5_copyFrom 102 = .ok (.getfield 9, 3) := dk_180 (x := 0) (y := 9) (by decide +kernel) rfl
theorem dX5_copyFrom_105 : decode cX5_copyFrom 105 = .ok (.iconst 0, 1) := dk_3 (by decide +kernel)
theorem dX5_copyFrom_106 : decode cX5_copyFrom 106 = .ok (.aload_n 0, 1) := dk_42 (by decide +kernel)
theorem dX5_copyFrom_107 : decode cX5_copyFrom 107 = .ok (.getfield 9, 3) := dk_180 (x := 0) (y := 9) (by decide +kernel) rfl
theorem dX5_copyFrom_110 : decode cX5_copyFrom 110 = .ok (.arraylength, 1) := dk_190 (by decide +kernel)
theorem dX5_copyFrom_111 : decode cX5_copyFrom 111 = .ok (.invokestatic 74, 3) := dk_184 (x := 0) (y := 74) (by decide +kernel) rfl
theorem dX5_copyFrom_114 : decode cX5_copyFrom 114 = .ok (.aload_n 1, 1) := dk_43 (by decide +kernel)
theorem dX5_copyFrom_115 : decode cX5_copyFrom 115 = .ok (.getfield 15, 3) := dk_180 (x := 0) (y := 15) (by decide +kernel) rfl
theorem dX5_copyFrom_118 : decode cX5_copyFrom 118 = .ok (.iconst 0, 1) := dk_3 (by decide +kernel)
theorem dX5_copyFrom_119 : decode cX5_copyFrom 119 = .ok (.aload_n 0, 1) := dk_42 (by decide +kernel)
theorem dX5_copyFrom_120 : decode cX5_copyFrom 120 = .ok (.getfield 15, 3) := dk_180 (x := 0) (y := 15) (by decide +kernel) rfl
theorem dX5_copyFrom_123 : decode cX5_copyFrom 123 = .ok (.iconst 0, 1) := dk_3 (by decide +kernel)
theorem dX5_copyFrom_124 : decode cX5_copyFrom 124 = .ok (.aload_n 0, 1) := dk_42 (by decide +kernel)
theorem dX5_copyFrom_125 : decode cX5_copyFrom 125 = .ok (.getfield 15, 3) := dk_180 (x := 0) (y := 15) (by decide +kernel) rfl
theorem dX5_copyFrom_128 : decode cX5_copyFrom 128 = .ok (.arraylength, 1) := dk_190 (by decide +kernel)
theorem dX5_copyFrom_129 : decode cX5_copyFrom 129 = .ok (.invokestatic 74, 3) := dk_184 (x := 0) (y := 74) (by decide +kernel) rfl
theorem dX5_copyFrom_132 : decode cX5_copyFrom 132 = .ok (.aload_n 1, 1) := dk_43 (by decide +kernel)
theorem dX5_copyFrom_133 : decode cX5_copyFrom 133 = .ok (.getfield 18, 3) := dk_180 (x := 0) (y := 18) (by decide +kernel) rfl
theorem dX5_copyFrom_136 : decode cX5_copyFrom 136 = .ok (.iconst 0, 1) := dk_3 (by decide +kernel)
theorem dX5_copyFrom_137 : decode cX5_copyFrom 137 = .ok (.aload_n 0, 1) := dk_42 (by decide +kernel)
theorem dX5_copyFrom_138 : decode cX5_copyFrom 138 = .ok (.getfield 18, 3) := dk_180 (x := 0) (y := 18) (by decide +kernel) rfl
theorem dX5_copyFrom_141 : decode cX5_copyFrom 141 = .ok (.iconst 0, 1) := dk_3 (by decide +kernel)
theorem dX5_copyFrom_142 : decode cX5_copyFrom 142 = .ok (.aload_n 0, 1) := dk_42 (by decide +kernel)
theorem dX5_copyFrom_143 : decode cX5_copyFrom 143 = .ok (.getfield 18, 3) := dk_180 (x := 0) (y := 18) (by decide +kernel) rfl
theorem dX5_copyFrom_146 : decode cX5_copyFrom 146 = .ok (.arraylength, 1) := dk_190 (by decide +kernel)
theorem dX5_copyFrom_147 : decode cX5_copyFrom 147 = .ok (.invokestatic 74, 3) := dk_184 (x := 0) (y := 74) (by decide +kernel) rfl
theorem dX5_copyFrom_150 : decode cX5_copyFrom 150 = .ok (.aload_n 1, 1) := dk_43 (by decide +kernel)
theorem dX5_copyFrom_151 : decode cX5_copyFrom 151 = .ok (.getfield 21, 3) := dk_180 (x := 0) (y := 21) (by decide +kernel) rfl
theorem dX5_copyFrom_154 : decode cX5_copyFrom 154 = .ok (.iconst 0, 1) := dk_3 (by decide +kernel)
theorem dX5_copyFrom_155 : decode cX5_copyFrom 155 = .ok (.aload_n 0, 1) := dk_42 (by decide +kernel)
theorem dX5_copyFrom_156 : decode cX5_copyFrom 156 = .ok (.getfield 21, 3) := dk_180 (x := 0) (y := 21) (by decide +kernel) rfl
theorem dX5_copyFrom_159 : decode cX5_copyFrom 159 = .ok (.iconst 0, 1) := dk_3 (by decide +kernel)
theorem dX5_copyFrom_160 : decode cX5_copyFrom 160 = .ok (.aload_n 0, 1) := dk_42 (by decide +kernel)
theorem dX5_copyFrom_161 : decode cX5_copyFrom 161 = .ok (.getfield 21, 3) := dk_180 (x := 0) (y := 21) (by decide +kernel) rfl
theorem dX5_copyFrom_164 : decode cX5_copyFrom 164 = .ok (.arraylength, 1) := dk_190 (by decide +kernel)
theorem dX5_copyFrom_165 : decode cX5_copyFrom 165 = .ok (.invokestatic 74, 3) := dk_184 (x := 0) (y := 74) (by decide +kernel) rfl
theorem dX5_copyFrom_168 : decode cX5_copyFrom 168 = .ok (.aload_n 1, 1) := dk_43 (by decide +kernel)
theorem dX5_copyFrom_169 : decode cX5_copyFrom 169 = .ok (.getfield 24, 3) := dk_180 (x := 0) (y := 24) (by decide +kernel) rfl
theorem dX5_copyFrom_172 : decode cX5_copyFrom 172 = .ok (.iconst 0, 1) := dk_3 (by decide +kernel)
theorem dX5_copyFrom_173 : decode cX5_copyFrom 173 = .ok (.aload_n 0, 1) := dk_42 (by decide +kernel)
theorem dX5_copyFrom_174 : decode cX5_copyFrom 174 = .ok (.getfield 24, 3) := dk_180 (x := 0) (y := 24) (by decide +kernel) rfl
theorem dX5_copyFrom_177 : decode cX5_copyFrom 177 = .ok (.iconst 0, 1) := dk_3 (by decide +kernel)
theorem dX5_copyFrom_178 : decode cX5_copyFrom 178 = .ok (.aload_n 0, 1) := dk_42 (by decide +kernel)
theorem dX5_copyFrom_179 : decode cX5_copyFrom 179 = .ok (.getfield 24, 3) := dk_180 (x := 0) (y := 24) (by decide +kernel) rfl
theorem dX5_copyFrom_182 : decode cX5_copyFrom 182 = .ok (.arraylength, 1) := dk_190 (by decide +kernel)
theorem dX5_copyFrom_183 : decode cX5_copyFrom 183 = .ok (.invokestatic 74, 3) := dk_184 (x := 0) (y := 74) (by decide +kernel) rfl
theorem dX5_copyFrom_186 : decode cX5_copyFrom 186 = .ok (.aload_n 0, 1) := dk_42 (by decide +kernel)
theorem dX5_copyFrom_187 : decode cX5_copyFrom 187 = .ok (.aload_n 1, 1) := dk_43 (by decide +kernel)
theorem dX5_copyFrom_188 : decode cX5_copyFrom 188 = .ok (.getfield 44, 3) := dk_180 (x := 0) (y := 44) (by decide +kernel) rfl
theorem dX5_copyFrom_191 : decode cX5_copyFrom 191 = .ok (.putfield 44, 3) := dk_181 (x := 0) (y := 44) (by decide +kernel) rfl
theorem dX5_copyFrom_194 : decode cX5_copyFrom 194 = .ok (.aload_n 0, 1) := dk_42 (by decide +kernel)
theorem dX5_copyFrom_195 : decode cX5_copyFrom 195 = .ok (.aload_n 1, 1) := dk_43 (by decide +kernel)
theorem dX5_copyFrom_196 : decode cX5_copyFrom 196 = .ok (.getfield 36, 3) := dk_180 (x := 0) (y := 36) (by decide +kernel) rfl
theorem dX5_copyFrom_199 : decode cX5_copyFrom 199 = .ok (.putfield 36, 3) := dk_181 (x := 0) (y := 36) (by decide +kernel) rfl
theorem dX5_copyFrom_202 : decode cX5_copyFrom 202 = .ok (.aload_n 0, 1) := dk_42 (by decide +kernel)
theorem dX5_copyFrom_203 : decode cX5_copyFrom 203 = .ok (.aload_n 1, 1) := dk_43 (by decide +kernel)
theorem dX5_copyFrom_204 : decode cX5_copyFrom 204 = .ok (.getfield 40, 3) := dk_180 (x := 0) (y := 40) (by decide +kernel) rfl
theorem dX5_copyFrom_207 : decode cX5_copyFrom 207 = .ok (.putfield 40, 3) := dk_181 (x := 0) (y := 40) (by decide +kernel) rfl
theorem dX5_copyFrom_210 : decode cX5_copyFrom 210 = .ok (.aload_n 0, 1) := dk_42 (by decide +kernel)
theorem dX5_copyFrom_211 : decode cX5_copyFrom 211 = .ok (.aload_n 1, 1) := dk_43 (by decide +kernel)
theorem dX5_copyFrom_212 : decode cX5_copyFrom 212 = .ok (.getfield 53, 3) := dk_180 (x := 0) (y := 53) (by decide +kernel) rfl
theorem dX5_copyFrom_215 : decode cX5_copyFrom 215 = .ok (.putfield 53, 3) := dk_181 (x := 0) (y := 53) (by decide +kernel) rfl
theorem dX5_copyFrom_218 : decode cX5_copyFrom 218 = .ok (.return_, 1) := dk_177 (by decide +kernel)
def f_X5_copyFrom_45 (v0 : Nat) (v1 : Nat) (M : Mem) : Option Mem :=
    chk (isO M 5 v1) <|
    bnd (mR M v1 5) fun o2 =>
    chk (isO M 100 o2) <|
    chk (isO M 5 v0) <|
    bnd (mR M v0 5) fun o6 =>
    chk (isO M 100 o6) <|
    chk (cp_ok (0 : Int32) (0 : Int32) (mI M v1 8) 0 (mLn M o2) (mLn M o6)) <|
    bnd (cpI M o2 ((0 : Int32)).toNatClampNeg o6 ((0 : Int32)).toNatClampNeg ((mI M v1 8)).toNatClampNeg) fun M10 =>
    bnd (mR M10 v1 6) fun o16 =>
    chk (isO M10 100 o16) <|
    bnd (mR M10 v0 6) fun o19 =>
    chk (isO M10 100 o19) <|
    chk (cp_ok (0 : Int32) (0 : Int32) (mI M10 v1 8) 0 (mLn M10 o16) (mLn M10 o19)) <|
    bnd (cpI M10 o16 ((0 : Int32)).toNatClampNeg o19 ((0 : Int32)).toNatClampNeg ((mI M10 v1 8)).toNatClampNeg) fun M23 =>
    bnd (mR M23 v1 7) fun o31 =>
    chk (isO M23 100 o31) <|
    bnd (mR M23 v0 7) fun o34 =>
    chk (isO M23 100 o34) <|
    chk (cp_ok (0 : Int32) (0 : Int32) (mI M23 v1 8) 0 (mLn M23 o31) (mLn M23 o34)) <|
    bnd (cpI M23 o31 ((0 : Int32)).toNatClampNeg o34 ((0 : Int32)).toNatClampNeg ((mI M23 v1 8)).toNatClampNeg) fun M38 =>
    bnd (mR M38 v1 0) fun o48 =>
    chk (isO M38 100 o48) <|
    bnd (mR M38 v0 0) fun o51 =>
    chk (isO M38 100 o51) <|
    bnd (mR M38 v0 0) fun o54 =>
    chk (isO M38 100 o54) <|
    chk (cp_ok (0 : Int32) (0 : Int32) (Int32.ofNat (mLn M38 o54)) 0 (mLn M38 o48) (mLn M38 o51)) <|
    bnd (cpI M38 o48 ((0 : Int32)).toNatClampNeg o51 ((0 : Int32)).toNatClampNeg ((Int32.ofNat (mLn M38 o54))).toNatClampNeg) fun M58 =>
    bnd (mR M58 v1 1) fun o71 =>
    chk (isO M58 100 o71) <|
    bnd (mR M58 v0 1) fun o74 =>
    chk (isO M58 100 o74) <|
    bnd (mR M58 v0 1) fun o77 =>
    chk (isO M58 100 o77) <|
    chk (cp_ok (0 : Int32) (0 : Int32) (Int32.ofNat (mLn M58 o77)) 0 (mLn M58 o71) (mLn M58 o74)) <|
    bnd (cpI M58 o71 ((0 : Int32)).toNatClampNeg o74 ((0 : Int32)).toNatClampNeg ((Int32.ofNat (mLn M58 o77))).toNatClampNeg) fun M81 =>
    bnd (mR M81 v1 2) fun o97 =>
    chk (isO M81 100 o97) <|
    bnd (mR M81 v0 2) fun o100 =>
    chk (isO M81 100 o100) <|
    bnd (mR M81 v0 2) fun o103 =>
    chk (isO M81 100 o103) <|
    chk (cp_ok (0 : Int32) (0 : Int32) (Int32.ofNat (mLn M81 o103)) 0 (mLn M81 o97) (mLn M81 o100)) <|
    bnd (cpI M81 o97 ((0 : Int32)).toNatClampNeg o100 ((0 : Int32)).toNatClampNeg ((Int32.ofNat (mLn M81 o103))).toNatClampNeg) fun M107 =>
    bnd (mR M107 v1 3) fun o126 =>
    chk (isO M107 100 o126) <|
    bnd (mR M107 v0 3) fun o129 =>
    chk (isO M107 100 o129) <|
    bnd (mR M107 v0 3) fun o132 =>
    chk (isO M107 100 o132) <|
    chk (cp_ok (0 : Int32) (0 : Int32) (Int32.ofNat (mLn M107 o132)) 0 (mLn M107 o126) (mLn M107 o129)) <|
    bnd (cpI M107 o126 ((0 : Int32)).toNatClampNeg o129 ((0 : Int32)).toNatClampNeg ((Int32.ofNat (mLn M107 o132))).toNatClampNeg) fun M136 =>
    bnd (mR M136 v1 4) fun o158 =>
    chk (isO M136 100 o158) <|
    bnd (mR M136 v0 4) fun o161 =>
    chk (isO M136 100 o161) <|
    bnd (mR M136 v0 4) fun o164 =>
    chk (isO M136 100 o164) <|
    chk (cp_ok (0 : Int32) (0 : Int32) (Int32.ofNat (mLn M136 o164)) 0 (mLn M136 o158) (mLn M136 o161)) <|
    bnd (cpI M136 o158 ((0 : Int32)).toNatClampNeg o161 ((0 : Int32)).toNatClampNeg ((Int32.ofNat (mLn M136 o164))).toNatClampNeg) fun M168 =>
    bnd (sI M168 v0 8 (mI M168 v1 8)) fun M193 =>
    bnd (sI M193 v0 9 (mI M193 v1 9)) fun M218 =>
    bnd (sI M218 v0 10 (mI M218 v1 10)) fun M243 =>
    bnd (sI M243 v0 11 (mI M243 v1 11)) fun M268 =>
    some M268
def f_X5_copyFrom (o : Nat) (a1 : Nat) (M : Mem) : Option Mem :=
  chk (isO M 5 o) <|
  bnd (mR M o 5) fun o2 =>
  chk (isO M 100 o2) <|
  chk (isO M 5 a1) <|
  if (mI M a1 8) ≤ (Int32.ofNat (mLn M o2)) then (
    f_X5_copyFrom_45 o a1 M
    ) else (
    bnd (mR M a1 5) fun o8 =>
    chk (isO M 100 o8) <|
    chk (¬ (Int32.ofNat (mLn M o8)) < 0) <|
    chk (mN M + 1 ≤ CAP ∧ mU M + ((Int32.ofNat (mLn M o8))).toNatClampNeg ≤ CAPU) <|
    bnd (mN M) fun o15 =>
    bnd (nw M 100 ((Int32.ofNat (mLn M o8))).toNatClampNeg ((Int32.ofNat (mLn M o8))).toNatClampNeg) fun M13 =>
    bnd (sR M13 o 5 o15) fun M22 =>
    bnd (mR M22 a1 5) fun o29 =>
    chk (isO M22 100 o29) <|
    chk (¬ (Int32.ofNat (mLn M22 o29)) < 0) <|
    chk (mN M22 + 1 ≤ CAP ∧ mU M22 + ((Int32.ofNat (mLn M22 o29))).toNatClampNeg ≤ CAPU) <|
    bnd (mN M22) fun o36 =>
    bnd (nw M22 100 ((Int32.ofNat (mLn M22 o29))).toNatClampNeg ((Int32.ofNat (mLn M22 o29))).toNatClampNeg) fun M34 =>
    bnd (sR M34 o 6 o36) fun M45 =>
    bnd (mR M45 a1 5) fun o54 =>
    chk (isO M45 100 o54) <|
    chk (¬ (Int32.ofNat (mLn M45 o54)) < 0) <|
    chk (mN M45 + 1 ≤ CAP ∧ mU M45 + ((Int32.ofNat (mLn M45 o54))).toNatClampNeg ≤ CAPU) <|
    bnd (mN M45) fun o61 =>
    bnd (nw M45 100 ((Int32.ofNat (mLn M45 o54))).toNatClampNeg ((Int32.ofNat (mLn M45 o54))).toNatClampNeg) fun M59 =>
    bnd (sR M59 o 7 o61) fun M72 =>
    f_X5_copyFrom_45 o a1 M72
    )
theorem cd_X5_copyFrom : (yX5_copyFrom.cls ≠ "java/lang/invoke/MethodHandle" ∧ yX5_copyFrom.cls ≠ "java/lang/invoke/VarHandle") ∧ (parseMethodDescriptor yX5_copyFrom.desc).map (fun d => d.parameters.length) = some 1 := ⟨⟨by decide +kernel, by decide +kernel⟩, by decide +kernel⟩
section
variable {p : Program} {l : Launch} {e : Env} {R : Room} {s : State} {m : MethodId} {args : Array Value} {below : List Frame} {meth : Method} {c : Code} {G : Gam} {M0 : Mem}
theorem l_X5_copyFrom_45 {rv : Mem} {v0 : Nat} {v1 : Nat} {M : Mem} (X : Cx p R s m args c G M0 cX5_copyFrom yX5_copyFrom.cls 2 1 28) (hr : meth.sig.returnType = none) (hlk : meth.locks = false) (hnm : meth.name = "copyFrom") (hf : f_X5_copyFrom_45 v0 v1 M = some rv) : Sg p l e R s m args below meth c (Qm below G args s none M0 rv) G M0 2 45 [(0, .ref (gB G + v0)), (1, .ref (gB G + v1))] [] M := by
  rw [f_X5_copyFrom_45] at hf
  refine s_aload_n X 1 dX5_copyFrom_45 rfl rfl ?_
  obtain ⟨h1, hf⟩ := pk_chk hf
  obtain ⟨o2, e3, hf⟩ := pk_bnd hf
  obtain ⟨h4, hf⟩ := pk_chk hf
  refine s_getR X (ci := 5) (k := 5) rfl (Nat.le_of_ble_eq_true rfl) h1 wd259 (fun _ _ _ => rfl) (e3 ▸ h4) dX5_copyFrom_46 (e3 ▸ ?_)
  refine s_iconst X (v := (0 : Int32)) dX5_copyFrom_49 rfl ?_
  refine s_aload_n X 0 dX5_copyFrom_50 rfl rfl ?_
  obtain ⟨h5, hf⟩ := pk_chk hf
  obtain ⟨o6, e7, hf⟩ := pk_bnd hf
  obtain ⟨h8, hf⟩ := pk_chk hf
  refine s_getR X (ci := 5) (k := 5) rfl (Nat.le_of_ble_eq_true rfl) h5 wd259 (fun _ _ _ => rfl) (e7 ▸ h8) dX5_copyFrom_51 (e7 ▸ ?_)
  refine s_iconst X (v := (0 : Int32)) dX5_copyFrom_54 rfl ?_
  refine s_aload_n X 1 dX5_copyFrom_55 rfl rfl ?_
  refine s_getI X (ci := 5) (k := 8) rfl (Nat.le_of_ble_eq_true rfl) h1 wd264 (fun _ _ _ => rfl) dX5_copyFrom_56 ?_
  obtain ⟨h9, hf⟩ := pk_chk hf
  obtain ⟨M10, e11, hf⟩ := pk_bnd hf
  refine s_copy X wd1243 wd621 wd620 wd137 h4 h8 h9.1 h9.2.1 h9.2.2.1 h9.2.2.2.1 h9.2.2.2.2 ⟨Nat.le_of_ble_eq_true rfl, Nat.le_of_ble_eq_true rfl⟩ e11 dX5_copyFrom_59 ?_
  have h12 := io_cp e11 h1
  have h13 := io_cp e11 h4
  have h14 := io_cp e11 h5
  have h15 := io_cp e11 h8
  refine s_aload_n X 1 dX5_copyFrom_62 rfl rfl ?_
  obtain ⟨o16, e17, hf⟩ := pk_bnd hf
  obtain ⟨h18, hf⟩ := pk_chk hf
  refine s_getR X (ci := 5) (k := 6) rfl (Nat.le_of_ble_eq_true rfl) h12 wd261 (fun _ _ _ => rfl) (e17 ▸ h18) dX5_copyFrom_63 (e17 ▸ ?_)
  refine s_iconst X (v := (0 : Int32)) dX5_copyFrom_66 rfl ?_
  refine s_aload_n X 0 dX5_copyFrom_67 rfl rfl ?_
  obtain ⟨o19, e20, hf⟩ := pk_bnd hf
  obtain ⟨h21, hf⟩ := pk_chk hf
  refine s_getR X (ci := 5) (k := 6) rfl (Nat.le_of_ble_eq_true rfl) h14 wd261 (fun _ _ _ => rfl) (e20 ▸ h21) dX5_copyFrom_68 (e20 ▸ ?_)
  refine s_iconst X (v := (0 : Int32)) dX5_copyFrom_71 rfl ?_
  refine s_aload_n X 1 dX5_copyFrom_72 rfl rfl ?_
  refine s_getI X (ci := 5) (k := 8) rfl (Nat.le_of_ble_eq_true rfl) h12 wd264 (fun _ _ _ => rfl) dX5_copyFrom_73 ?_
  obtain ⟨h22, hf⟩ := pk_chk hf
  obtain ⟨M23, e24, hf⟩ := pk_bnd hf
  refine s_copy X wd1243 wd621 wd620 wd137 h18 h21 h22.1 h22.2.1 h22.2.2.1 h22.2.2.2.1 h22.2.2.2.2 ⟨Nat.le_of_ble_eq_true rfl, Nat.le_of_ble_eq_true rfl⟩ e24 dX5_copyFrom_76 ?_
  have h25 := io_cp e24 h12
  have h26 := io_cp e24 h13
  have h27 := io_cp e24 h14
  have h28 := io_cp e24 h15
  have h29 := io_cp e24 h18
  have h30 := io_cp e24 h21
  refine s_aload_n X 1 dX5_copyFrom_79 rfl rfl ?_
  obtain ⟨o31, e32, hf⟩ := pk_bnd hf
  obtain ⟨h33, hf⟩ := pk_chk hf
  refine s_getR X (ci := 5) (k := 7) rfl (Nat.le_of_ble_eq_true rfl) h25 wd262 (fun _ _ _ => rfl) (e32 ▸ h33) dX5_copyFrom_80 (e32 ▸ ?_)
  refine s_iconst X (v := (0 : Int32)) dX5_copyFrom_83 rfl ?_
  refine s_aload_n X 0 dX5_copyFrom_84 rfl rfl ?_
  obtain ⟨o34, e35, hf⟩ := pk_bnd hf
  obtain ⟨h36, hf⟩ := pk_chk hf
  refine s_getR X (ci := 5) (k := 7) rfl (Nat.le_of_ble_eq_true rfl) h27 wd262 (fun _ _ _ => rfl) (e35 ▸ h36) dX5_copyFrom_85 (e35 ▸ ?_)
  refine s_iconst X (v := (0 : Int32)) dX5_copyFrom_88 rfl ?_
  refine s_aload_n X 1 dX5_copyFrom_89 rfl rfl ?_
  refine s_getI X (ci := 5) (k := 8) rfl (Nat.le_of_ble_eq_true rfl) h25 wd264 (fun _ _ _ => rfl) dX5_copyFrom_90 ?_
  obtain ⟨h37, hf⟩ := pk_chk hf
  obtain ⟨M38, e39, hf⟩ := pk_bnd hf
  refine s_copy X wd1243 wd621 wd620 wd137 h33 h36 h37.1 h37.2.1 h37.2.2.1 h37.2.2.2.1 h37.2.2.2.2 ⟨Nat.le_of_ble_eq_true rfl, Nat.le_of_ble_eq_true rfl⟩ e39 dX5_copyFrom_93 ?_
  have h40 := io_cp e39 h25
  have h41 := io_cp e39 h26
  have h42 := io_cp e39 h27
  have h43 := io_cp e39 h28
  have h44 := io_cp e39 h29
  have h45 := io_cp e39 h30
  have h46 := io_cp e39 h33
  have h47 := io_cp e39 h36
  refine s_aload_n X 1 dX5_copyFrom_96 rfl rfl ?_
  obtain ⟨o48, e49, hf⟩ := pk_bnd hf
  obtain ⟨h50, hf⟩ := pk_chk hf
  refine s_getR X (ci := 5) (k := 0) rfl (Nat.le_of_ble_eq_true rfl) h40 wd248 (fun _ _ _ => rfl) (e49 ▸ h50) dX5_copyFrom_97 (e49 ▸ ?_)
  refine s_iconst X (v := (0 : Int32)) dX5_copyFrom_100 rfl ?_
  refine s_aload_n X 0 dX5_copyFrom_101 rfl rfl ?_
  obtain ⟨o51, e52, hf⟩ := pk_bnd hf
  obtain ⟨h53, hf⟩ := pk_chk hf
  refine s_getR X (ci := 5) (k := 0) rfl (Nat.le_of_ble_eq_true rfl) h42 wd248 (fun _ _ _ => rfl) (e52 ▸ h53) dX5_copyFrom_102 (e52 ▸ ?_)
  refine s_iconst X (v := (0 : Int32)) dX5_copyFrom_105 rfl ?_
  refine s_aload_n X 0 dX5_copyFrom_106 rfl rfl ?_
  obtain ⟨o54, e55, hf⟩ := pk_bnd hf
  obtain ⟨h56, hf⟩ := pk_chk hf
  refine s_getR X (ci := 5) (k := 0) rfl (Nat.le_of_ble_eq_true rfl) h42 wd248 (fun _ _ _ => rfl) (e55 ▸ h56) dX5_copyFrom_107 (e55 ▸ ?_)
  refine s_alen X h56 rfl dX5_copyFrom_110 ?_
  obtain ⟨h57, hf⟩ := pk_chk hf
  obtain ⟨M58, e59, hf⟩ := pk_bnd hf
  refine s_copy X wd1243 wd621 wd620 wd137 h50 h53 h57.1 h57.2.1 h57.2.2.1 h57.2.2.2.1 h57.2.2.2.2 ⟨Nat.le_of_ble_eq_true rfl, Nat.le_of_ble_eq_true rfl⟩ e59 dX5_copyFrom_111 ?_
  have h60 := io_cp e59 h40
  have h61 := io_cp e59 h41
  have h62 := io_cp e59 h42
  have h63 := io_cp e59 h43
  have h64 := io_cp e59 h44
  have h65 := io_cp e59 h45
  have h66 := io_cp e59 h46
  have h67 := io_cp e59 h47
  have h68 := io_cp e59 h50
  have h69 := io_cp e59 h53
  have h70 := io_cp e59 h56
  refine s_aload_n X 1 dX5_copyFrom_114 rfl rfl ?_
  obtain ⟨o71, e72, hf⟩ := pk_bnd hf
  obtain ⟨h73, hf⟩ := pk_chk hf
  refine s_getR X (ci := 5) (k := 1) rfl (Nat.le_of_ble_eq_true rfl) h60 wd250 (fun _ _ _ => rfl) (e72 ▸ h73) dX5_copyFrom_115 (e72 ▸ ?_)
  refine s_iconst X (v := (0 : Int32)) dX5_copyFrom_118 rfl ?_
  refine s_aload_n X 0 dX5_copyFrom_119 rfl rfl ?_
  obtain ⟨o74, e75, hf⟩ := pk_bnd hf
  obtain ⟨h76, hf⟩ := pk_chk hf
  refine s_getR X (ci := 5) (k := 1) rfl (Nat.le_of_ble_eq_true rfl) h62 wd250 (fun _ _ _ => rfl) (e75 ▸ h76) dX5_copyFrom_120 (e75 ▸ ?_)
  refine s_iconst X (v := (0 : Int32)) dX5_copyFrom_123 rfl ?_
  refine s_aload_n X 0 dX5_copyFrom_124 rfl rfl ?_
  obtain ⟨o77, e78, hf⟩ := pk_bnd hf
  obtain ⟨h79, hf⟩ := pk_chk hf
  refine s_getR X (ci := 5) (k := 1) rfl (Nat.le_of_ble_eq_true rfl) h62 wd250 (fun _ _ _ => rfl) (e78 ▸ h79) dX5_copyFrom_125 (e78 ▸ ?_)
  refine s_alen X h79 rfl dX5_copyFrom_128 ?_
  obtain ⟨h80, hf⟩ := pk_chk hf
  obtain ⟨M81, e82, hf⟩ := pk_bnd hf
  refine s_copy X wd1243 wd621 wd620 wd137 h73 h76 h80.1 h80.2.1 h80.2.2.1 h80.2.2.2.1 h80.2.2.2.2 ⟨Nat.le_of_ble_eq_true rfl, Nat.le_of_ble_eq_true rfl⟩ e82 dX5_copyFrom_129 ?_
  have h83 := io_cp e82 h60
  have h84 := io_cp e82 h61
  have h85 := io_cp e82 h62
  have h86 := io_cp e82 h63
  have h87 := io_cp e82 h64
  have h88 := io_cp e82 h65
  have h89 := io_cp e82 h66
  have h90 := io_cp e82 h67
  have h91 := io_cp e82 h68
  have h92 := io_cp e82 h69
  have h93 := io_cp e82 h70
  have h94 := io_cp e82 h73
  have h95 := io_cp e82 h76
  have h96 := io_cp e82 h79
  refine s_aload_n X 1 dX5_copyFrom_132 rfl rfl ?_
  obtain ⟨o97, e98, hf⟩ := pk_bnd hf
  obtain ⟨h99, hf⟩ := pk_chk hf
  refine s_getR X (ci := 5) (k := 2) rfl (Nat.le_of_ble_eq_true rfl) h83 wd251 (fun _ _ _ => rfl) (e98 ▸ h99) dX5_copyFrom_133 (e98 ▸ ?_)
  refine s_iconst X (v := (0 : Int32)) dX5_copyFrom_136 rfl ?_
  refine s_aload_n X 0 dX5_copyFrom_137 rfl rfl ?_
  obtain ⟨o100, e101, hf⟩ := pk_bnd hf
  obtain ⟨h102, hf⟩ := pk_chk hf
  refine s_getR X (ci := 5) (k := 2) rfl (Nat.le_of_ble_eq_true rfl) h85 wd251 (fun _ _ _ => rfl) (e101 ▸ h102) dX5_copyFrom_138 (e101 ▸ ?_)
  refine s_iconst X (v := (0 : Int32)) dX5_copyFrom_141 rfl ?_
  refine s_aload_n X 0 dX5_copyFrom_142 rfl rfl ?_
  obtain ⟨o103, e104, hf⟩ := pk_bnd hf
  obtain ⟨h105, hf⟩ := pk_chk hf
  refine s_getR X (ci := 5) (k := 2) rfl (Nat.le_of_ble_eq_true rfl) h85 wd251 (fun _ _ _ => rfl) (e104 ▸ h105) dX5_copyFrom_143 (e104 ▸ ?_)
  refine s_alen X h105 rfl dX5_copyFrom_146 ?_
  obtain ⟨h106, hf⟩ := pk_chk hf
  obtain ⟨M107, e108, hf⟩ := pk_bnd hf
  refine s_copy X wd1243 wd621 wd620 wd137 h99 h102 h106.1 h106.2.1 h106.2.2.1 h106.2.2.2.1 h106.2.2.2.2 ⟨Nat.le_of_ble_eq_true rfl, Nat.le_of_ble_eq_true rfl⟩ e108 dX5_copyFrom_147 ?_
  have h109 := io_cp e108 h83
  have h110 := io_cp e108 h84
  have h111 := io_cp e108 h85
  have h112 := io_cp e108 h86
  have h113 := io_cp e108 h87
  have h114 := io_cp e108 h88
  have h115 := io_cp e108 h89
  have h116 := io_cp e108 h90
  have h117 := io_cp e108 h91
  have h118 := io_cp e108 h92
  have h119 := io_cp e108 h93
  have h120 := io_cp e108 h94
  have h121 := io_cp e108 h95
  have h122 := io_cp e108 h96
  have h123 := io_cp e108 h99
  have h124 := io_cp e108 h102
  have h125 := io_cp e108 h105
  refine s_aload_n X 1 dX5_copyFrom_150 rfl rfl ?_
  obtain ⟨o126, e127, hf⟩ := pk_bnd hf
  obtain ⟨h128, hf⟩ := pk_chk hf
  refine s_getR X (ci := 5) (k := 3) rfl (Nat.le_of_ble_eq_true rfl) h109 wd253 (fun _ _ _ => rfl) (e127 ▸ h128) dX5_copyFrom_151 (e127 ▸ ?_)
  refine s_iconst X (v := (0 : Int32)) dX5_copyFrom_154 rfl ?_
  refine s_aload_n X 0 dX5_copyFrom_155 rfl rfl ?_
  obtain ⟨o129, e130, hf⟩ := pk_bnd hf
  obtain ⟨h131, hf⟩ := pk_chk hf
  refine s_getR X (ci := 5) (k := 3) rfl (Nat.le_of_ble_eq_true rfl) h111 wd253 (fun _ _ _ => rfl) (e130 ▸ h131) dX5_copyFrom_156 (e130 ▸ ?_)
  refine s_iconst X (v := (0 : Int32)) dX5_copyFrom_159 rfl ?_
  refine s_aload_n X 0 dX5_copyFrom_160 rfl rfl ?_
  obtain ⟨o132, e133, hf⟩ := pk_bnd hf
  obtain ⟨h134, hf⟩ := pk_chk hf
  refine s_getR X (ci := 5) (k := 3) rfl (Nat.le_of_ble_eq_true rfl) h111 wd253 (fun _ _ _ => rfl) (e133 ▸ h134) dX5_copyFrom_161 (e133 ▸ ?_)
  refine s_alen X h134 rfl dX5_copyFrom_164 ?_
  obtain ⟨h135, hf⟩ := pk_chk hf
  obtain ⟨M136, e137, hf⟩ := pk_bnd hf
  refine s_copy X wd1243 wd621 wd620 wd137 h128 h131 h135.1 h135.2.1 h135.2.2.1 h135.2.2.2.1 h135.2.2.2.2 ⟨Nat.le_of_ble_eq_true rfl, Nat.le_of_ble_eq_true rfl⟩ e137 dX5_copyFrom_165 ?_
  have h138 := io_cp e137 h109
  have h139 := io_cp e137 h110
  have h140 := io_cp e137 h111
  have h141 := io_cp e137 h112
  have h142 := io_cp e137 h113
  have h143 := io_cp e137 h114
  have h144 := io_cp e137 h115
  have h145 := io_cp e137 h116
  have h146 := io_cp e137 h117
  have h147 := io_cp e137 h118
  have h148 := io_cp e137 h119
  have h149 := io_cp e137 h120
  have h150 := io_cp e137 h121
  have h151 := io_cp e137 h122
  have h152 := io_cp e137 h123
  have h153 := io_cp e137 h124
  have h154 := io_cp e137 h125
  have h155 := io_cp e137 h128
  have h156 := io_cp e137 h131
  have h157 := io_cp e137 h134
  refine s_aload_n X 1 dX5_copyFrom_168 rfl rfl ?_
  obtain ⟨o158, e159, hf⟩ := pk_bnd hf
  obtain ⟨h160, hf⟩ := pk_chk hf
  refine s_getR X (ci := 5) (k := 4) rfl (Nat.le_of_ble_eq_true rfl) h138 wd257 (fun _ _ _ => rfl) (e159 ▸ h160) dX5_copyFrom_169 (e159 ▸ ?_)
  refine s_iconst X (v := (0 : Int32)) dX5_copyFrom_172 rfl ?_
  refine s_aload_n X 0 dX5_copyFrom_173 rfl rfl ?_
  obtain ⟨o161, e162, hf⟩ := pk_bnd hf
  obtain ⟨h163, hf⟩ := pk_chk hf
  refine s_getR X (ci := 5) (k := 4) rfl (Nat.le_of_ble_eq_true rfl) h140 wd257 (fun _ _ _ => rfl) (e162 ▸ h163) dX5_copyFrom_174 (e162 ▸ ?_)
  refine s_iconst X (v := (0 : Int32)) dX5_copyFrom_177 rfl ?_
  refine s_aload_n X 0 dX5_copyFrom_178 rfl rfl ?_
  obtain ⟨o164, e165, hf⟩ := pk_bnd hf
  obtain ⟨h166, hf⟩ := pk_chk hf
  refine s_getR X (ci := 5) (k := 4) rfl (Nat.le_of_ble_eq_true rfl) h140 wd257 (fun _ _ _ => rfl) (e165 ▸ h166) dX5_copyFrom_179 (e165 ▸ ?_)
  refine s_alen X h166 rfl dX5_copyFrom_182 ?_
  obtain ⟨h167, hf⟩ := pk_chk hf
  obtain ⟨M168, e169, hf⟩ := pk_bnd hf
  refine s_copy X wd1243 wd621 wd620 wd137 h160 h163 h167.1 h167.2.1 h167.2.2.1 h167.2.2.2.1 h167.2.2.2.2 ⟨Nat.le_of_ble_eq_true rfl, Nat.le_of_ble_eq_true rfl⟩ e169 dX5_copyFrom_183 ?_
  have h170 := io_cp e169 h138
  have h171 := io_cp e169 h139
  have h172 := io_cp e169 h140
  have h173 := io_cp e169 h141
  have h174 := io_cp e169 h142
  have h175 := io_cp e169 h143
  have h176 := io_cp e169 h144
  have h177 := io_cp e169 h145
  have h178 := io_cp e169 h146
  have h179 := io_cp e169 h147
  have h180 := io_cp e169 h148
  have h181 := io_cp e169 h149
  have h182 := io_cp e169 h150
  have h183 := io_cp e169 h151
  have h184 := io_cp e169 h152
  have h185 := io_cp e169 h153
  have h186 := io_cp e169 h154
  have h187 := io_cp e169 h155
  have h188 := io_cp e169 h156
  have h189 := io_cp e169 h157
  have h190 := io_cp e169 h160
  have h191 := io_cp e169 h163
  have h192 := io_cp e169 h166
  refine s_aload_n X 0 dX5_copyFrom_186 rfl rfl ?_
  refine s_aload_n X 1 dX5_copyFrom_187 rfl rfl ?_
  refine s_getI X (ci := 5) (k := 8) rfl (Nat.le_of_ble_eq_true rfl) h170 wd264 (fun _ _ _ => rfl) dX5_copyFrom_188 ?_
  obtain ⟨M193, e194, hf⟩ := pk_bnd hf
  refine s_putI X (ci := 5) (k := 8) rfl (Nat.le_of_ble_eq_true rfl) h172 wd264 (fun _ _ _ => rfl) rfl rfl e194 dX5_copyFrom_191 ?_
  have h195 := io_sI e194 h170
  have h196 := io_sI e194 h171
  have h197 := io_sI e194 h172
  have h198 := io_sI e194 h173
  have h199 := io_sI e194 h174
  have h200 := io_sI e194 h175
  have h201 := io_sI e194 h176
  have h202 := io_sI e194 h177
  have h203 := io_sI e194 h178
  have h204 := io_sI e194 h179
  have h205 := io_sI e194 h180
  have h206 := io_sI e194 h181
  have h207 := io_sI e194 h182
  have h208 := io_sI e194 h183
  have h209 := io_sI e194 h184
  have h210 := io_sI e194 h185
  have h211 := io_sI e194 h186
  have h212 := io_sI e194 h187
  have h213 := io_sI e194 h188
  have h214 := io_sI e194 h189
  have h215 := io_sI e194 h190
  have h216 := io_sI e194 h191
  have h217 := io_sI e194 h192
  refine s_aload_n X 0 dX5_copyFrom_194 rfl rfl ?_
  refine s_aload_n X 1 dX5_copyFrom_195 rfl rfl ?_
  refine s_getI X (ci := 5) (k := 9) rfl (Nat.le_of_ble_eq_true rfl) h195 wd265 (fun _ _ _ => rfl) dX5_copyFrom_196 ?_
  obtain ⟨M218, e219, hf⟩ := pk_bnd hf
  refine s_putI X (ci := 5) (k := 9) rfl (Nat.le_of_ble_eq_true rfl) h197 wd265 (fun _ _ _ => rfl) rfl rfl e219 dX5_copyFrom_199 ?_
  have h220 := io_sI e219 h195
  have h221 := io_sI e219 h196
  have h222 := io_sI e219 h197
  have h223 := io_sI e219 h198
  have h224 := io_sI e219 h199
  have h225 := io_sI e219 h200
  have h226 := io_sI e219 h201
  have h227 := io_sI e219 h202
  have h228 := io_sI e219 h203
  have h229 := io_sI e219 h204
  have h230 := io_sI e219 h205
  have h231 := io_sI e219 h206
  have h232 := io_sI e219 h207
  have h233 := io_sI e219 h208
  have h234 := io_sI e219 h209
  have h235 := io_sI e219 h210
  have h236 := io_sI e219 h211
  have h237 := io_sI e219 h212
  have h238 := io_sI e219 h213
  have h239 := io_sI e219 h214
  have h240 := io_sI e219 h215
  have h241 := io_sI e219 h216
  have h242 := io_sI e219 h217
  refine s_aload_n X 0 dX5_copyFrom_202 rfl rfl ?_
  refine s_aload_n X 1 dX5_copyFrom_203 rfl rfl ?_
  refine s_getI X (ci := 5) (k := 10) rfl (Nat.le_of_ble_eq_true rfl) h220 wd267 (fun _ _ _ => rfl) dX5_copyFrom_204 ?_
  obtain ⟨M243, e244, hf⟩ := pk_bnd hf
  refine s_putI X (ci := 5) (k := 10) rfl (Nat.le_of_ble_eq_true rfl) h222 wd267 (fun _ _ _ => rfl) rfl rfl e244 dX5_copyFrom_207 ?_
  have h245 := io_sI e244 h220
  have h246 := io_sI e244 h221
  have h247 := io_sI e244 h222
  have h248 := io_sI e244 h223
  have h249 := io_sI e244 h224
  have h250 := io_sI e244 h225
  have h251 := io_sI e244 h226
  have h252 := io_sI e244 h227
  have h253 := io_sI e244 h228
  have h254 := io_sI e244 h229
  have h255 := io_sI e244 h230
  have h256 := io_sI e244 h231
  have h257 := io_sI e244 h232
  have h258 := io_sI e244 h233
  have h259 := io_sI e244 h234
  have h260 := io_sI e244 h235
  have h261 := io_sI e244 h236
  have h262 := io_sI e244 h237
  have h263 := io_sI e244 h238
  have h264 := io_sI e244 h239
  have h265 := io_sI e244 h240
  have h266 := io_sI e244 h241
  have h267 := io_sI e244 h242
  refine s_aload_n X 0 dX5_copyFrom_210 rfl rfl ?_
  refine s_aload_n X 1 dX5_copyFrom_211 rfl rfl ?_
  refine s_getI X (ci := 5) (k := 11) rfl (Nat.le_of_ble_eq_true rfl) h245 wd272 (fun _ _ _ => rfl) dX5_copyFrom_212 ?_
  obtain ⟨M268, e269, hf⟩ := pk_bnd hf
  refine s_putI X (ci := 5) (k := 11) rfl (Nat.le_of_ble_eq_true rfl) h247 wd272 (fun _ _ _ => rfl) rfl rfl e269 dX5_copyFrom_215 ?_
  have h270 := io_sI e269 h245
  have h271 := io_sI e269 h246
  have h272 := io_sI e269 h247
  have h273 := io_sI e269 h248
  have h274 := io_sI e269 h249
  have h275 := io_sI e269 h250
  have h276 := io_sI e269 h251
  have h277 := io_sI e269 h252
  have h278 := io_sI e269 h253
  have h279 := io_sI e269 h254
  have h280 := io_sI e269 h255
  have h281 := io_sI e269 h256
  have h282 := io_sI e269 h257
  have h283 := io_sI e269 h258
  have h284 := io_sI e269 h259
  have h285 := io_sI e269 h260
  have h286 := io_sI e269 h261
  have h287 := io_sI e269 h262
  have h288 := io_sI e269 h263
  have h289 := io_sI e269 h264
  have h290 := io_sI e269 h265
  have h291 := io_sI e269 h266
  have h292 := io_sI e269 h267
  cases hf
  exact s_vret X hr hlk dX5_copyFrom_218
end
theorem k_X5_copyFrom (G : Gam) {o : Nat} {a1 : Nat} {M : Mem} {rv : Mem} (hf : f_X5_copyFrom o a1 M = some rv) : Kt yX5_copyFrom cX5_copyFrom 2 none 1 28 G [.ref (gB G + o), .ref (gB G + a1)] M rv none := by
  refine Kt.of (by decide) (Nat.le_of_ble_eq_true rfl) ?_
  intro p l e R s m args below meth c X hr hlk hnm
  refine s_drop [0, 1] (vs' := [(0, .ref (gB G + o)), (1, .ref (gB G + a1))]) rfl ?_
  rw [f_X5_copyFrom] at hf
  refine s_aload_n X 0 dX5_copyFrom_0 rfl rfl ?_
  obtain ⟨h1, hf⟩ := pk_chk hf
  obtain ⟨o2, e3, hf⟩ := pk_bnd hf
  obtain ⟨h4, hf⟩ := pk_chk hf
  refine s_getR X (ci := 5) (k := 5) rfl (Nat.le_of_ble_eq_true rfl) h1 wd259 (fun _ _ _ => rfl) (e3 ▸ h4) dX5_copyFrom_1 (e3 ▸ ?_)
  refine s_alen X h4 rfl dX5_copyFrom_4 ?_
  refine s_aload_n X 1 dX5_copyFrom_5 rfl rfl ?_
  obtain ⟨h5, hf⟩ := pk_chk hf
  refine s_getI X (ci := 5) (k := 8) rfl (Nat.le_of_ble_eq_true rfl) h5 wd264 (fun _ _ _ => rfl) dX5_copyFrom_6 ?_
  have hs6 := pk_ite hf
  clear hf
  refine s_icmp_ge X (tgt := 45) dX5_copyFrom_9 rfl (fun c7 => ?_) (fun c7 => ?_)
  · have hf := hs6.1 c7
    exact l_X5_copyFrom_45 X hr hlk hnm hf
  · have hf := hs6.2 c7
    refine s_aload_n X 0 dX5_copyFrom_12 rfl rfl ?_
    refine s_aload_n X 1 dX5_copyFrom_13 rfl rfl ?_
    obtain ⟨o8, e9, hf⟩ := pk_bnd hf
    obtain ⟨h10, hf⟩ := pk_chk hf
    refine s_getR X (ci := 5) (k := 5) rfl (Nat.le_of_ble_eq_true rfl) h5 wd259 (fun _ _ _ => rfl) (e9 ▸ h10) dX5_copyFrom_14 (e9 ▸ ?_)
    refine s_alen X h10 rfl dX5_copyFrom_17 ?_
    obtain ⟨h11, hf⟩ := pk_chk hf
    obtain ⟨h12, hf⟩ := pk_chk hf
    obtain ⟨o15, e16, hf⟩ := pk_bnd hf
    obtain ⟨M13, e14, hf⟩ := pk_bnd hf
    refine s_newI X wd184 h11 h12 e14 dX5_copyFrom_18 (e16 ▸ ?_)
    have h17 := io_nw e14 h1
    have h18 := io_nw e14 h4
    have h19 := io_nw e14 h5
    have h20 := io_nw e14 h10
    have h21 := io_nwn e14 e16
    obtain ⟨M22, e23, hf⟩ := pk_bnd hf
    refine s_putR X (ci := 5) (k := 5) rfl (Nat.le_of_ble_eq_true rfl) h17 wd259 (fun _ _ _ => rfl) h21 (fun _ => ⟨rfl, rfl⟩) rfl e23 dX5_copyFrom_20 ?_
    have h24 := io_sR e23 h17
    have h25 := io_sR e23 h18
    have h26 := io_sR e23 h19
    have h27 := io_sR e23 h20
    have h28 := io_sR e23 h21
    refine s_aload_n X 0 dX5_copyFrom_23 rfl rfl ?_
    refine s_aload_n X 1 dX5_copyFrom_24 rfl rfl ?_
    obtain ⟨o29, e30, hf⟩ := pk_bnd hf
    obtain ⟨h31, hf⟩ := pk_chk hf
    refine s_getR X (ci := 5) (k := 5) rfl (Nat.le_of_ble_eq_true rfl) h26 wd259 (fun _ _ _ => rfl) (e30 ▸ h31) dX5_copyFrom_25 (e30 ▸ ?_)
    refine s_alen X h31 rfl dX5_copyFrom_28 ?_
    obtain ⟨h32, hf⟩ := pk_chk hf
    obtain ⟨h33, hf⟩ := pk_chk hf
    obtain ⟨o36, e37, hf⟩ := pk_bnd hf
    obtain ⟨M34, e35, hf⟩ := pk_bnd hf
    refine s_newI X wd184 h32 h33 e35 dX5_copyFrom_29 (e37 ▸ ?_)
    have h38 := io_nw e35 h24
    have h39 := io_nw e35 h25
    have h40 := io_nw e35 h26
    have h41 := io_nw e35 h27
    have h42 := io_nw e35 h28
    have h43 := io_nw e35 h31
    have h44 := io_nwn e35 e37
    obtain ⟨M45, e46, hf⟩ := pk_bnd hf
    refine s_putR X (ci := 5) (k := 6) rfl (Nat.le_of_ble_eq_true rfl) h38 wd261 (fun _ _ _ => rfl) h44 (fun _ => ⟨rfl, rfl⟩) rfl e46 dX5_copyFrom_31 ?_
    have h47 := io_sR e46 h38
    have h48 := io_sR e46 h39
    have h49 := io_sR e46 h40
    have h50 := io_sR e46 h41
    have h51 := io_sR e46 h42
    have h52 := io_sR e46 h43
    have h53 := io_sR e46 h44
    refine s_aload_n X 0 dX5_copyFrom_34 rfl rfl ?_
    refine s_aload_n X 1 dX5_copyFrom_35 rfl rfl ?_
    obtain ⟨o54, e55, hf⟩ := pk_bnd hf
    obtain ⟨h56, hf⟩ := pk_chk hf
    refine s_getR X (ci := 5) (k := 5) rfl (Nat.le_of_ble_eq_true rfl) h49 wd259 (fun _ _ _ => rfl) (e55 ▸ h56) dX5_copyFrom_36 (e55 ▸ ?_)
    refine s_alen X h56 rfl dX5_copyFrom_39 ?_
    obtain ⟨h57, hf⟩ := pk_chk hf
    obtain ⟨h58, hf⟩ := pk_chk hf
    obtain ⟨o61, e62, hf⟩ := pk_bnd hf
    obtain ⟨M59, e60, hf⟩ := pk_bnd hf
    refine s_newI X wd184 h57 h58 e60 dX5_copyFrom_40 (e62 ▸ ?_)
    have h63 := io_nw e60 h47
    have h64 := io_nw e60 h48
    have h65 := io_nw e60 h49
    have h66 := io_nw e60 h50
    have h67 := io_nw e60 h51
    have h68 := io_nw e60 h52
    have h69 := io_nw e60 h53
    have h70 := io_nw e60 h56
    have h71 := io_nwn e60 e62
    obtain ⟨M72, e73, hf⟩ := pk_bnd hf
    refine s_putR X (ci := 5) (k := 7) rfl (Nat.le_of_ble_eq_true rfl) h63 wd262 (fun _ _ _ => rfl) h71 (fun _ => ⟨rfl, rfl⟩) rfl e73 dX5_copyFrom_42 ?_
    have h74 := io_sR e73 h63
    have h75 := io_sR e73 h64
    have h76 := io_sR e73 h65
    have h77 := io_sR e73 h66
    have h78 := io_sR e73 h67
    have h79 := io_sR e73 h68
    have h80 := io_sR e73 h69
    have h81 := io_sR e73 h70
    have h82 := io_sR e73 h71
    exact l_X5_copyFrom_45 X hr hlk hnm hf
theorem dX4_copyFrom_0 : decode cX4_copyFrom 0 = .ok (.aload_n 0, 1) := dk_42 (by decide +kernel)
theorem dX4_copyFrom_1 : decode cX4_copyFrom 1 = .ok (.aload_n 1, 1) := dk_43 (by decide +kernel)
theorem dX4_copyFrom_2 : decode cX4_copyFrom 2 = .ok (.getfield 22, 3) := dk_180 (x := 0) (y := 22) (by decide +kernel) rfl
theorem dX4_copyFrom_5 : decode cX4_copyFrom 5 = .ok (.putfield 22, 3) := dk_181 (x := 0) (y := 22) (by decide +kernel) rfl
theorem dX4_copyFrom_8 : decode cX4_copyFrom 8 = .ok (.aload_n 0, 1) := dk_42 (by decide +kernel)
theorem dX4_copyFrom_9 : decode cX4_copyFrom 9 = .ok (.aload_n 1, 1) := dk_43 (by decide +kernel)
theorem dX4_copyFrom_10 : decode cX4_copyFrom 10 = .ok (.getfield 25, 3) := dk_180 (x := 0) (y := 25) (by decide +kernel) rfl
theorem dX4_copyFrom_13 : decode cX4_copyFrom 13 = .ok (.putfield 25, 3) := dk_181 (x := 0) (y := 25) (by decide +kernel) rfl
theorem dX4_copyFrom_16 : decode cX4_copyFrom 16 = .ok (.aload_n 0, 1) := dk_42 (by decide +kernel)
theorem dX4_copyFrom_17 : decode cX4_copyFrom 17 = .ok (.aload_n 1, 1) := dk_43 (by decide +kernel)
theorem dX4_copyFrom_18 : decode cX4_copyFrom 18 = .ok (.getfield 49, 3) := dk_180 (x := 0) (y := 49) (by decide +kernel) rfl
theorem dX4_copyFrom_21 : decode cX4_copyFrom 21 = .ok (.putfield 49, 3) := dk_181 (x := 0) (y := 49) (by decide +kernel) rfl
theorem dX4_copyFrom_24 : decode cX4_copyFrom 24 = .ok (.aload_n 0, 1) := dk_42 (by decide +kernel)
theorem dX4_copyFrom_25 : decode cX4_copyFrom 25 = .ok (.aload_n 1, 1) := dk_43 (by decide +kernel)
theorem dX4_copyFrom_26 : decode cX4_copyFrom 26 = .ok (.getfield 52, 3) := dk_180 (x := 0) (y := 52) (by decide +kernel) rfl
theorem dX4_copyFrom_29 : decode cX4_copyFrom 29 = .ok (.putfield 52, 3) := dk_181 (x := 0) (y := 52) (by decide +kernel) rfl
theorem dX4_copyFrom_32 : decode cX4_copyFrom 32 = .ok (.aload_n 0, 1) := dk_42 (by decide +kernel)
theorem dX4_copyFrom_33 : decode cX4_copyFrom 33 = .ok (.aload_n 1, 1) := dk_43 (by decide +kernel)
theorem dX4_copyFrom_34 : decode cX4_copyFrom 34 = .ok (.getfield 55, 3) := dk_180 (x := 0) (y := 55) (by decide +kernel) rfl
theorem dX4_copyFrom_37 : decode cX4_copyFrom 37 = .ok (.putfield 55, 3) := dk_181 (x := 0) (y := 55) (by decide +kernel) rfl
theorem dX4_copyFrom_40 : decode cX4_copyFrom 40 = .ok (.aload_n 0, 1) := dk_42 (by decide +kernel)
theorem dX4_copyFrom_41 : decode cX4_copyFrom 41 = .ok (.aload_n 1, 1) := dk_43 (by decide +kernel)
theorem dX4_copyFrom_42 : decode cX4_copyFrom 42 = .ok (.getfield 58, 3) := dk_180 (x := 0) (y := 58) (by decide +kernel) rfl
theorem dX4_copyFrom_45 : decode cX4_copyFrom 45 = .ok (.putfield 58, 3) := dk_181 (x := 0) (y := 58) (by decide +kernel) rfl
theorem dX4_copyFrom_48 : decode cX4_copyFrom 48 = .ok (.aload_n 0, 1) := dk_42 (by decide +kernel)
theorem dX4_copyFrom_49 : decode cX4_copyFrom 49 = .ok (.aload_n 1, 1) := dk_43 (by decide +kernel)
theorem dX4_copyFrom_50 : decode cX4_copyFrom 50 = .ok (.getfield 9, 3) := dk_180 (x := 0) (y := 9) (by decide +kernel) rfl
theorem dX4_copyFrom_53 : decode cX4_copyFrom 53 = .ok (.putfield 9, 3) := dk_181 (x := 0) (y := 9) (by decide +kernel) rfl
theorem dX4_copyFrom_56 : decode cX4_copyFrom 56 = .ok (.aload_n 0, 1) := dk_42 (by decide +kernel)
theorem dX4_copyFrom_57 : decode cX4_copyFrom 57 = .ok (.aload_n 1, 1) := dk_43 (by decide +kernel)
theorem dX4_copyFrom_58 : decode cX4_copyFrom 58 = .ok (.getfield 15, 3) := dk_180 (x := 0) (y := 15) (by decide +kernel) rfl
theorem dX4_copyFrom_61 : decode cX4_copyFrom 61 = .ok (.putfield 15, 3) := dk_181 (x := 0) (y := 15) (by decide +kernel) rfl
theorem dX4_copyFrom_64 : decode cX4_copyFrom 64 = .ok (.aload_n 0, 1) := dk_42 (by decide +kernel)
theorem dX4_copyFrom_65 : decode cX4_copyFrom 65 = .ok (.aload_n 1, 1) := dk_43 (by decide +kernel)
theorem dX4_copyFrom_66 : decode cX4_copyFrom 66 = .ok (.getfield 67, 3) := dk_180 (x := 0) (y := 67) (by decide +kernel) rfl
theorem dX4_copyFrom_69 : decode cX4_copyFrom 69 = .ok (.putfield 67, 3) := dk_181 (x := 0) (y := 67) (by decide +kernel) rfl
theorem dX4_copyFrom_72 : decode cX4_copyFrom 72 = .ok (.aload_n 0, 1) := dk_42 (by decide +kernel)
theorem dX4_copyFrom_73 : decode cX4_copyFrom 73 = .ok (.aload_n 1, 1) := dk_43 (by decide +kernel)
theorem dX4_copyFrom_74 : decode cX4_copyFrom 74 = .ok (.getfield 64, 3) := dk_180 (x := 0) (y := 64) (by decide +kernel) rfl
theorem dX4_copyFrom_77 : decode cX4_copyFrom 77 = .ok (.putfield 64, 3) := dk_181 (x := 0) (y := 64) (by decide +kernel) rfl
theorem dX4_copyFrom_80 : decode cX4_copyFrom 80 = .ok (.aload_n 1, 1) := dk_43 (by decide +kernel)
theorem dX4_copyFrom_81 : decode cX4_copyFrom 81 = .ok (.getfield 18, 3) := dk_180 (x := 0) (y := 18) (by decide +kernel) rfl
theorem dX4_copyFrom_84 : decode cX4_copyFrom 84 = .ok (.iconst 0, 1) := dk_3 (by decide +kernel)
theorem dX4_copyFrom_85 : decode cX4_copyFrom 85 = .ok (.aload_n 0, 1) := dk_42 (by decide +kernel)
theorem dX4_copyFrom_86 : decode cX4_copyFrom 86 = .ok (.getfield 18, 3) := dk_180 (x := 0) (y := 18) (by decide +kernel) rfl
theorem dX4_copyFrom_89 : decode cX4_copyFrom 89 = .ok (.iconst 0, 1) := dk_3 (by decide +kernel)
theorem dX4_copyFrom_90 : decode cX4_copyFrom 90 = .ok (.bipush 16, 2) := dk_16 (x := 16) (by decide +kernel) rfl
theorem dX4_copyFrom_92 : decode cX4_copyFrom 92 = .ok (.invokestatic 71, 3) := dk_184 (x := 0) (y := 71) (by decide +kernel) rfl
theorem dX4_copyFrom_95 : decode cX4_copyFrom 95 = .ok (.aload_n 0, 1) := dk_42 (by decide +kernel)
theorem dX4_copyFrom_96 : decode cX4_copyFrom 96 = .ok (.aload_n 1, 1) := dk_43 (by decide +kernel)
theorem dX4_copyFrom_97 : decode cX4_copyFrom 97 = .ok (.getfield 34, 3) := dk_180 (x := 0) (y := 34) (by decide +kernel) rfl
theorem dX4_copyFrom_100 : decode cX4_copyFrom 100 = .ok (.putfield 34, 3) := dk_181 (x := 0) (y := 34) (by decide +kernel) rfl
theorem dX4_copyFrom_103 : decode cX4_copyFrom 103 = .ok (.aload_n 0, 1) := dk_42 (by decide +kernel)
theorem dX4_copyFrom_104 : decode cX4_copyFrom 104 = .ok (.aload_n 1, 1) := dk_43 (by decide +kernel)
theorem dX4_copyFrom_105 : decode cX4_copyFrom 105 = .ok (.getfield 37, 3) := dk_180 (x := 0) (y := 37) (by decide +kernel) rfl
theorem dX4_copyFrom_108 : decode cX4_copyFrom 108 = .ok (.putfield 37, 3) := dk_181 (x := 0) (y := 37) (by decide +kernel) rfl
theorem dX4_copyFrom_111 : decode cX4_copyFrom 111 = .ok (.aload_n 0, 1) := dk_42 (by decide +kernel)
theorem dX4_copyFrom_112 : decode cX4_copyFrom 112 = .ok (.aload_n 1, 1) := dk_43 (by decide +kernel)
theorem dX4_copyFrom_113 : decode cX4_copyFrom 113 = .ok (.getfield 40, 3) := dk_180 (x := 0) (y := 40) (by decide +kernel) rfl
theorem dX4_copyFrom_116 : decode cX4_copyFrom 116 = .ok (.putfield 40, 3) := dk_181 (x := 0) (y := 40) (by decide +kernel) rfl
theorem dX4_copyFrom_119 : decode cX4_copyFrom 119 = .ok (.aload_n 0, 1) := dk_42 (by decide +kernel)
theorem dX4_copyFrom_120 : decode cX4_copyFrom 120 = .ok (.aload_n 1, 1) := dk_43 (by decide +kernel)
theorem dX4_copyFrom_121 : decode cX4_copyFrom 121 = .ok (.getfield 43, 3) := dk_180 (x := 0) (y := 43) (by decide +kernel) rfl
theorem dX4_copyFrom_124 : decode cX4_copyFrom 124 = .ok (.putfield 43, 3) := dk_181 (x := 0) (y := 43) (by decide +kernel) rfl
theorem dX4_copyFrom_127 : decode cX4_copyFrom 127 = .ok (.aload_n 0, 1) := dk_42 (by decide +kernel)
theorem dX4_copyFrom_128 : decode cX4_copyFrom 128 = .ok (.aload_n 1, 1) := dk_43 (by decide +kernel)
theorem dX4_copyFrom_129 : decode cX4_copyFrom 129 = .ok (.getfield 46, 3) := dk_180 (x := 0) (y := 46) (by decide +kernel) rfl
theorem dX4_copyFrom_132 : decode cX4_copyFrom 132 = .ok (.putfield 46, 3) := dk_181 (x := 0) (y := 46) (by decide +kernel) rfl
theorem dX4_copyFrom_135 : decode cX4_copyFrom 135 = .ok (.return_, 1) := dk_177 (by decide +kernel)
def f_X4_copyFrom (o : Nat) (a1 : Nat) (M : Mem) : Option Mem :=
  chk (isO M 4 a1) <|
  chk (isO M 4 o) <|
  bnd (sI M o 0 (mI M a1 0)) fun M3 =>
  bnd (sI M3 o 1 (mI M3 a1 1)) fun M7 =>
  bnd (sI M7 o 2 (mI M7 a1 2)) fun M11 =>
  bnd (sI M11 o 3 (mI M11 a1 3)) fun M15 =>
  bnd (sI M15 o 4 (mI M15 a1 4)) fun M19 =>
  bnd (sI M19 o 5 (mI M19 a1 5)) fun M23 =>
  bnd (sI M23 o 6 (mI M23 a1 6)) fun M27 =>
  bnd (sI M27 o 7 (mI M27 a1 7)) fun M31 =>
  chk (bz (mI M31 a1 8)) <|
  bnd (sI M31 o 8 (mI M31 a1 8)) fun M35 =>
  bnd (sI M35 o 9 (mI M35 a1 9)) fun M40 =>
  bnd (mR M40 a1 10) fun o44 =>
  chk (isO M40 100 o44) <|
  bnd (mR M40 o 10) fun o47 =>
  chk (isO M40 100 o47) <|
  chk (cp_ok (0 : Int32) (0 : Int32) (16 : Int32) 0 (mLn M40 o44) (mLn M40 o47)) <|
  bnd (cpI M40 o44 ((0 : Int32)).toNatClampNeg o47 ((0 : Int32)).toNatClampNeg ((16 : Int32)).toNatClampNeg) fun M51 =>
  bnd (sI M51 o 11 (mI M51 a1 11)) fun M57 =>
  bnd (sI M57 o 12 (mI M57 a1 12)) fun M63 =>
  bnd (sI M63 o 13 (mI M63 a1 13)) fun M69 =>
  bnd (sI M69 o 14 (mI M69 a1 14)) fun M75 =>
  bnd (sI M75 o 15 (mI M75 a1 15)) fun M81 =>
  some M81
theorem cd_X4_copyFrom : (yX4_copyFrom.cls ≠ "java/lang/invoke/MethodHandle" ∧ yX4_copyFrom.cls ≠ "java/lang/invoke/VarHandle") ∧ (parseMethodDescriptor yX4_copyFrom.desc).map (fun d => d.parameters.length) = some 1 := ⟨⟨by decide +kernel, by decide +kernel⟩, by decide +kernel⟩
theorem k_X4_copyFrom (G : Gam) {o : Nat} {a1 : Nat} {M : Mem} {rv : Mem} (hf : f_X4_copyFrom o a1 M = some rv) : Kt yX4_copyFrom cX4_copyFrom 2 none 1 28 G [.ref (gB G + o), .ref (gB G + a1)] M rv none := by
  refine Kt.of (by decide) (Nat.le_of_ble_eq_true rfl) ?_
  intro p l e R s m args below meth c X hr hlk hnm
  refine s_drop [0, 1] (vs' := [(0, .ref (gB G + o)), (1, .ref (gB G + a1))]) rfl ?_
  rw [f_X4_copyFrom] at hf
  refine s_aload_n X 0 dX4_copyFrom_0 rfl rfl ?_
  refine s_aload_n X 1 dX4_copyFrom_1 rfl rfl ?_
  obtain ⟨h1, hf⟩ := pk_chk hf
  refine s_getI X (ci := 4) (k := 0) rfl (Nat.le_of_ble_eq_true rfl) h1 wd325 (fun _ _ _ => rfl) dX4_copyFrom_2 ?_
  obtain ⟨h2, hf⟩ := pk_chk hf
  obtain ⟨M3, e4, hf⟩ := pk_bnd hf
  refine s_putI X (ci := 4) (k := 0) rfl (Nat.le_of_ble_eq_true rfl) h2 wd325 (fun _ _ _ => rfl) rfl rfl e4 dX4_copyFrom_5 ?_
  have h5 := io_sI e4 h1
  have h6 := io_sI e4 h2
  refine s_aload_n X 0 dX4_copyFrom_8 rfl rfl ?_
  refine s_aload_n X 1 dX4_copyFrom_9 rfl rfl ?_
  refine s_getI X (ci := 4) (k := 1) rfl (Nat.le_of_ble_eq_true rfl) h5 wd329 (fun _ _ _ => rfl) dX4_copyFrom_10 ?_
  obtain ⟨M7, e8, hf⟩ := pk_bnd hf
  refine s_putI X (ci := 4) (k := 1) rfl (Nat.le_of_ble_eq_true rfl) h6 wd329 (fun _ _ _ => rfl) rfl rfl e8 dX4_copyFrom_13 ?_
  have h9 := io_sI e8 h5
  have h10 := io_sI e8 h6
  refine s_aload_n X 0 dX4_copyFrom_16 rfl rfl ?_
  refine s_aload_n X 1 dX4_copyFrom_17 rfl rfl ?_
  refine s_getI X (ci := 4) (k := 2) rfl (Nat.le_of_ble_eq_true rfl) h9 wd333 (fun _ _ _ => rfl) dX4_copyFrom_18 ?_
  obtain ⟨M11, e12, hf⟩ := pk_bnd hf
  refine s_putI X (ci := 4) (k := 2) rfl (Nat.le_of_ble_eq_true rfl) h10 wd333 (fun _ _ _ => rfl) rfl rfl e12 dX4_copyFrom_21 ?_
  have h13 := io_sI e12 h9
  have h14 := io_sI e12 h10
  refine s_aload_n X 0 dX4_copyFrom_24 rfl rfl ?_
  refine s_aload_n X 1 dX4_copyFrom_25 rfl rfl ?_
  refine s_getI X (ci := 4) (k := 3) rfl (Nat.le_of_ble_eq_true rfl) h13 wd337 (fun _ _ _ => rfl) dX4_copyFrom_26 ?_
  obtain ⟨M15, e16, hf⟩ := pk_bnd hf
  refine s_putI X (ci := 4) (k := 3) rfl (Nat.le_of_ble_eq_true rfl) h14 wd337 (fun _ _ _ => rfl) rfl rfl e16 dX4_copyFrom_29 ?_
  have h17 := io_sI e16 h13
  have h18 := io_sI e16 h14
  refine s_aload_n X 0 dX4_copyFrom_32 rfl rfl ?_
  refine s_aload_n X 1 dX4_copyFrom_33 rfl rfl ?_
  refine s_getI X (ci := 4) (k := 4) rfl (Nat.le_of_ble_eq_true rfl) h17 wd341 (fun _ _ _ => rfl) dX4_copyFrom_34 ?_
  obtain ⟨M19, e20, hf⟩ := pk_bnd hf
  refine s_putI X (ci := 4) (k := 4) rfl (Nat.le_of_ble_eq_true rfl) h18 wd341 (fun _ _ _ => rfl) rfl rfl e20 dX4_copyFrom_37 ?_
  have h21 := io_sI e20 h17
  have h22 := io_sI e20 h18
  refine s_aload_n X 0 dX4_copyFrom_40 rfl rfl ?_
  refine s_aload_n X 1 dX4_copyFrom_41 rfl rfl ?_
  refine s_getI X (ci := 4) (k := 5) rfl (Nat.le_of_ble_eq_true rfl) h21 wd345 (fun _ _ _ => rfl) dX4_copyFrom_42 ?_
  obtain ⟨M23, e24, hf⟩ := pk_bnd hf
  refine s_putI X (ci := 4) (k := 5) rfl (Nat.le_of_ble_eq_true rfl) h22 wd345 (fun _ _ _ => rfl) rfl rfl e24 dX4_copyFrom_45 ?_
  have h25 := io_sI e24 h21
  have h26 := io_sI e24 h22
  refine s_aload_n X 0 dX4_copyFrom_48 rfl rfl ?_
  refine s_aload_n X 1 dX4_copyFrom_49 rfl rfl ?_
  refine s_getI X (ci := 4) (k := 6) rfl (Nat.le_of_ble_eq_true rfl) h25 wd349 (fun _ _ _ => rfl) dX4_copyFrom_50 ?_
  obtain ⟨M27, e28, hf⟩ := pk_bnd hf
  refine s_putI X (ci := 4) (k := 6) rfl (Nat.le_of_ble_eq_true rfl) h26 wd349 (fun _ _ _ => rfl) rfl rfl e28 dX4_copyFrom_53 ?_
  have h29 := io_sI e28 h25
  have h30 := io_sI e28 h26
  refine s_aload_n X 0 dX4_copyFrom_56 rfl rfl ?_
  refine s_aload_n X 1 dX4_copyFrom_57 rfl rfl ?_
  refine s_getI X (ci := 4) (k := 7) rfl (Nat.le_of_ble_eq_true rfl) h29 wd353 (fun _ _ _ => rfl) dX4_copyFrom_58 ?_
  obtain ⟨M31, e32, hf⟩ := pk_bnd hf
  refine s_putI X (ci := 4) (k := 7) rfl (Nat.le_of_ble_eq_true rfl) h30 wd353 (fun _ _ _ => rfl) rfl rfl e32 dX4_copyFrom_61 ?_
  have h33 := io_sI e32 h29
  have h34 := io_sI e32 h30
  refine s_aload_n X 0 dX4_copyFrom_64 rfl rfl ?_
  refine s_aload_n X 1 dX4_copyFrom_65 rfl rfl ?_
  refine s_getI X (ci := 4) (k := 8) rfl (Nat.le_of_ble_eq_true rfl) h33 wd357 (fun _ _ _ => rfl) dX4_copyFrom_66 ?_
  obtain ⟨h37, hf⟩ := pk_chk hf
  obtain ⟨M35, e36, hf⟩ := pk_bnd hf
  refine s_putZ X (ci := 4) (k := 8) rfl (Nat.le_of_ble_eq_true rfl) h34 wd357 (fun _ _ _ => rfl) rfl (bz_n h37) (bz_f h37) rfl e36 dX4_copyFrom_69 ?_
  have h38 := io_sI e36 h33
  have h39 := io_sI e36 h34
  refine s_aload_n X 0 dX4_copyFrom_72 rfl rfl ?_
  refine s_aload_n X 1 dX4_copyFrom_73 rfl rfl ?_
  refine s_getI X (ci := 4) (k := 9) rfl (Nat.le_of_ble_eq_true rfl) h38 wd361 (fun _ _ _ => rfl) dX4_copyFrom_74 ?_
  obtain ⟨M40, e41, hf⟩ := pk_bnd hf
  refine s_putI X (ci := 4) (k := 9) rfl (Nat.le_of_ble_eq_true rfl) h39 wd361 (fun _ _ _ => rfl) rfl rfl e41 dX4_copyFrom_77 ?_
  have h42 := io_sI e41 h38
  have h43 := io_sI e41 h39
  refine s_aload_n X 1 dX4_copyFrom_80 rfl rfl ?_
  obtain ⟨o44, e45, hf⟩ := pk_bnd hf
  obtain ⟨h46, hf⟩ := pk_chk hf
  refine s_getR X (ci := 4) (k := 10) rfl (Nat.le_of_ble_eq_true rfl) h42 wd365 (fun _ _ _ => rfl) (e45 ▸ h46) dX4_copyFrom_81 (e45 ▸ ?_)
  refine s_iconst X (v := (0 : Int32)) dX4_copyFrom_84 rfl ?_
  refine s_aload_n X 0 dX4_copyFrom_85 rfl rfl ?_
  obtain ⟨o47, e48, hf⟩ := pk_bnd hf
  obtain ⟨h49, hf⟩ := pk_chk hf
  refine s_getR X (ci := 4) (k := 10) rfl (Nat.le_of_ble_eq_true rfl) h43 wd365 (fun _ _ _ => rfl) (e48 ▸ h49) dX4_copyFrom_86 (e48 ▸ ?_)
  refine s_iconst X (v := (0 : Int32)) dX4_copyFrom_89 rfl ?_
  refine s_bipush X (v := (16 : Int32)) dX4_copyFrom_90 rfl ?_
  obtain ⟨h50, hf⟩ := pk_chk hf
  obtain ⟨M51, e52, hf⟩ := pk_bnd hf
  refine s_copy X wd1248 wd621 wd620 wd137 h46 h49 h50.1 h50.2.1 h50.2.2.1 h50.2.2.2.1 h50.2.2.2.2 ⟨Nat.le_of_ble_eq_true rfl, Nat.le_of_ble_eq_true rfl⟩ e52 dX4_copyFrom_92 ?_
  have h53 := io_cp e52 h42
  have h54 := io_cp e52 h43
  have h55 := io_cp e52 h46
  have h56 := io_cp e52 h49
  refine s_aload_n X 0 dX4_copyFrom_95 rfl rfl ?_
  refine s_aload_n X 1 dX4_copyFrom_96 rfl rfl ?_
  refine s_getI X (ci := 4) (k := 11) rfl (Nat.le_of_ble_eq_true rfl) h53 wd369 (fun _ _ _ => rfl) dX4_copyFrom_97 ?_
  obtain ⟨M57, e58, hf⟩ := pk_bnd hf
  refine s_putI X (ci := 4) (k := 11) rfl (Nat.le_of_ble_eq_true rfl) h54 wd369 (fun _ _ _ => rfl) rfl rfl e58 dX4_copyFrom_100 ?_
  have h59 := io_sI e58 h53
  have h60 := io_sI e58 h54
  have h61 := io_sI e58 h55
  have h62 := io_sI e58 h56
  refine s_aload_n X 0 dX4_copyFrom_103 rfl rfl ?_
  refine s_aload_n X 1 dX4_copyFrom_104 rfl rfl ?_
  refine s_getI X (ci := 4) (k := 12) rfl (Nat.le_of_ble_eq_true rfl) h59 wd372 (fun _ _ _ => rfl) dX4_copyFrom_105 ?_
  obtain ⟨M63, e64, hf⟩ := pk_bnd hf
  refine s_putI X (ci := 4) (k := 12) rfl (Nat.le_of_ble_eq_true rfl) h60 wd372 (fun _ _ _ => rfl) rfl rfl e64 dX4_copyFrom_108 ?_
  have h65 := io_sI e64 h59
  have h66 := io_sI e64 h60
  have h67 := io_sI e64 h61
  have h68 := io_sI e64 h62
  refine s_aload_n X 0 dX4_copyFrom_111 rfl rfl ?_
  refine s_aload_n X 1 dX4_copyFrom_112 rfl rfl ?_
  refine s_getI X (ci := 4) (k := 13) rfl (Nat.le_of_ble_eq_true rfl) h65 wd375 (fun _ _ _ => rfl) dX4_copyFrom_113 ?_
  obtain ⟨M69, e70, hf⟩ := pk_bnd hf
  refine s_putI X (ci := 4) (k := 13) rfl (Nat.le_of_ble_eq_true rfl) h66 wd375 (fun _ _ _ => rfl) rfl rfl e70 dX4_copyFrom_116 ?_
  have h71 := io_sI e70 h65
  have h72 := io_sI e70 h66
  have h73 := io_sI e70 h67
  have h74 := io_sI e70 h68
  refine s_aload_n X 0 dX4_copyFrom_119 rfl rfl ?_
  refine s_aload_n X 1 dX4_copyFrom_120 rfl rfl ?_
  refine s_getI X (ci := 4) (k := 14) rfl (Nat.le_of_ble_eq_true rfl) h71 wd377 (fun _ _ _ => rfl) dX4_copyFrom_121 ?_
  obtain ⟨M75, e76, hf⟩ := pk_bnd hf
  refine s_putI X (ci := 4) (k := 14) rfl (Nat.le_of_ble_eq_true rfl) h72 wd377 (fun _ _ _ => rfl) rfl rfl e76 dX4_copyFrom_124 ?_
  have h77 := io_sI e76 h71
  have h78 := io_sI e76 h72
  have h79 := io_sI e76 h73
  have h80 := io_sI e76 h74
  refine s_aload_n X 0 dX4_copyFrom_127 rfl rfl ?_
  refine s_aload_n X 1 dX4_copyFrom_128 rfl rfl ?_
  refine s_getI X (ci := 4) (k := 15) rfl (Nat.le_of_ble_eq_true rfl) h77 wd379 (fun _ _ _ => rfl) dX4_copyFrom_129 ?_
  obtain ⟨M81, e82, hf⟩ := pk_bnd hf
  refine s_putI X (ci := 4) (k := 15) rfl (Nat.le_of_ble_eq_true rfl) h78 wd379 (fun _ _ _ => rfl) rfl rfl e82 dX4_copyFrom_132 ?_
  have h83 := io_sI e82 h77
  have h84 := io_sI e82 h78
  have h85 := io_sI e82 h79
  have h86 := io_sI e82 h80
  cases hf
  exact s_vret X hr hlk dX4_copyFrom_135
theorem dX2_copyFrom_0 : decode cX2_copyFrom 0 = .ok (.aload_n 0, 1) := dk_42 (by decide +kernel)
theorem dX2_copyFrom_1 : decode cX2_copyFrom 1 = .ok (.getfield 12, 3) := dk_180 (x := 0) (y := 12) (by decide +kernel) rfl
theorem dX2_copyFrom_4 : decode cX2_copyFrom 4 = .ok (.aload_n 1, 1) := dk_43 (by decide +kernel)
theorem dX2_copyFrom_5 : decode cX2_copyFrom 5 = .ok (.getfield 12, 3) := dk_180 (x := 0) (y := 12) (by decide +kernel) rfl
theorem dX2_copyFrom_8 : decode cX2_copyFrom 8 = .ok (.invokevirtual 101, 3) := dk_182 (x := 0) (y := 101) (by decide +kernel) rfl
theorem dX2_copyFrom_11 : decode cX2_copyFrom 11 = .ok (.iconst 0, 1) := dk_3 (by decide +kernel)
theorem dX2_copyFrom_12 : decode cX2_copyFrom 12 = .ok (.istore_n 2, 1) := dk_61 (by decide +kernel)
theorem dX2_copyFrom_13 : decode cX2_copyFrom 13 = .ok (.iload_n 2, 1) := dk_28 (by decide +kernel)
theorem dX2_copyFrom_14 : decode cX2_copyFrom 14 = .ok (.bipush 16, 2) := dk_16 (x := 16) (by decide +kernel) rfl
theorem dX2_copyFrom_16 : decode cX2_copyFrom 16 = .ok (.if_icmp .ge 36, 3) := dk_162 (x := 0) (y := 36) (by decide +kernel) rfl
theorem dX2_copyFrom_19 : decode cX2_copyFrom 19 = .ok (.aload_n 0, 1) := dk_42 (by decide +kernel)
theorem dX2_copyFrom_20 : decode cX2_copyFrom 20 = .ok (.getfield 20, 3) := dk_180 (x := 0) (y := 20) (by decide +kernel) rfl
theorem dX2_copyFrom_23 : decode cX2_copyFrom 23 = .ok (.iload_n 2, 1) := dk_28 (by decide +kernel)
theorem dX2_copyFrom_24 : decode cX2_copyFrom 24 = .ok (.aaload, 1) := dk_50 (by decide +kernel)
theorem dX2_copyFrom_25 : decode cX2_copyFrom 25 = .ok (.aload_n 1, 1) := dk_43 (by decide +kernel)
theorem dX2_copyFrom_26 : decode cX2_copyFrom 26 = .ok (.getfield 20, 3) := dk_180 (x := 0) (y := 20) (by decide +kernel) rfl
theorem dX2_copyFrom_29 : decode cX2_copyFrom 29 = .ok (.iload_n 2, 1) := dk_28 (by decide +kernel)
theorem dX2_copyFrom_30 : decode cX2_copyFrom 30 = .ok (.aaload, 1) := dk_50 (by decide +kernel)
theorem dX2_copyFrom_31 : decode cX2_copyFrom 31 = .ok (.invokevirtual 105, 3) := dk_182 (x := 0) (y := 105) (by decide +kernel) rfl
theorem dX2_copyFrom_34 : decode cX2_copyFrom 34 = .ok (.aload_n 0, 1) := dk_42 (by decide +kernel)
theorem dX2_copyFrom_35 : decode cX2_copyFrom 35 = .ok (.getfield 36, 3) := dk_180 (x := 0) (y := 36) (by decide +kernel) rfl
theorem dX2_copyFrom_38 : decode cX2_copyFrom 38 = .ok (.iload_n 2, 1) := dk_28 (by decide +kernel)
theorem dX2_copyFrom_39 : decode cX2_copyFrom 39 = .ok (.aload_n 1, 1) := dk_43 (by decide +kernel)
theorem dX2_copyFrom_40 : decode cX2_copyFrom 40 = .ok (.getfield 36, 3) := dk_180 (x := 0) (y := 36) (by decide +kernel) rfl
theorem dX2_copyFrom_43 : decode cX2_copyFrom 43 = .ok (.iload_n 2, 1) := dk_28 (by decide +kernel)
theorem dX2_copyFrom_44 : decode cX2_copyFrom 44 = .ok (.iaload, 1) := dk_46 (by decide +kernel)
theorem dX2_copyFrom_45 : decode cX2_copyFrom 45 = .ok (.iastore, 1) := dk_79 (by decide +kernel)
theorem dX2_copyFrom_46 : decode cX2_copyFrom 46 = .ok (.iinc 2 1, 3) := dk_132 (x := 2) (y := 1) (by decide +kernel) rfl
theorem dX2_copyFrom_49 : decode cX2_copyFrom 49 = .ok (.goto (-36), 3) := dk_167 (x := 255) (y := 220) (by decide +kernel) rfl
theorem dX2_copyFrom_52 : decode cX2_copyFrom 52 = .ok (.aload_n 0, 1) := dk_42 (by decide +kernel)
theorem dX2_copyFrom_53 : decode cX2_copyFrom 53 = .ok (.aload_n 1, 1) := dk_43 (by decide +kernel)
theorem dX2_copyFrom_54 : decode cX2_copyFrom 54 = .ok (.getfield 55, 3) := dk_180 (x := 0) (y := 55) (by decide +kernel) rfl
theorem dX2_copyFrom_57 : decode cX2_copyFrom 57 = .ok (.putfield 55, 3) := dk_181 (x := 0) (y := 55) (by decide +kernel) rfl
theorem dX2_copyFrom_60 : decode cX2_copyFrom 60 = .ok (.aload_n 0, 1) := dk_42 (by decide +kernel)
theorem dX2_copyFrom_61 : decode cX2_copyFrom 61 = .ok (.aload_n 1, 1) := dk_43 (by decide +kernel)
theorem dX2_copyFrom_62 : decode cX2_copyFrom 62 = .ok (.getfield 59, 3) := dk_180 (x := 0) (y := 59) (by decide +kernel) rfl
theorem dX2_copyFrom_65 : decode cX2_copyFrom 65 = .ok (.putfield 59, 3) := dk_181 (x := 0) (y := 59) (by decide +kernel) rfl
theorem dX2_copyFrom_68 : decode cX2_copyFrom 68 = .ok (.aload_n 0, 1) := dk_42 (by decide +kernel)
theorem dX2_copyFrom_69 : decode cX2_copyFrom 69 = .ok (.aload_n 1, 1) := dk_43 (by decide +kernel)
theorem dX2_copyFrom_70 : decode cX2_copyFrom 70 = .ok (.getfield 62, 3) := dk_180 (x := 0) (y := 62) (by decide +kernel) rfl
theorem dX2_copyFrom_73 : decode cX2_copyFrom 73 = .ok (.putfield 62, 3) := dk_181 (x := 0) (y := 62) (by decide +kernel) rfl
theorem dX2_copyFrom_76 : decode cX2_copyFrom 76 = .ok (.aload_n 0, 1) := dk_42 (by decide +kernel)
theorem dX2_copyFrom_77 : decode cX2_copyFrom 77 = .ok (.aload_n 1, 1) := dk_43 (by decide +kernel)
theorem dX2_copyFrom_78 : decode cX2_copyFrom 78 = .ok (.getfield 65, 3) := dk_180 (x := 0) (y := 65) (by decide +kernel) rfl
theorem dX2_copyFrom_81 : decode cX2_copyFrom 81 = .ok (.putfield 65, 3) := dk_181 (x := 0) (y := 65) (by decide +kernel) rfl
theorem dX2_copyFrom_84 : decode cX2_copyFrom 84 = .ok (.aload_n 0, 1) := dk_42 (by decide +kernel)
theorem dX2_copyFrom_85 : decode cX2_copyFrom 85 = .ok (.aload_n 1, 1) := dk_43 (by decide +kernel)
theorem dX2_copyFrom_86 : decode cX2_copyFrom 86 = .ok (.getfield 68, 3) := dk_180 (x := 0) (y := 68) (by decide +kernel) rfl
theorem dX2_copyFrom_89 : decode cX2_copyFrom 89 = .ok (.putfield 68, 3) := dk_181 (x := 0) (y := 68) (by decide +kernel) rfl
theorem dX2_copyFrom_92 : decode cX2_copyFrom 92 = .ok (.aload_n 0, 1) := dk_42 (by decide +kernel)
theorem dX2_copyFrom_93 : decode cX2_copyFrom 93 = .ok (.aload_n 1, 1) := dk_43 (by decide +kernel)
theorem dX2_copyFrom_94 : decode cX2_copyFrom 94 = .ok (.getfield 71, 3) := dk_180 (x := 0) (y := 71) (by decide +kernel) rfl
theorem dX2_copyFrom_97 : decode cX2_copyFrom 97 = .ok (.putfield 71, 3) := dk_181 (x := 0) (y := 71) (by decide +kernel) rfl
theorem dX2_copyFrom_100 : decode cX2_copyFrom 100 = .ok (.aload_n 0, 1) := dk_42 (by decide +kernel)
theorem dX2_copyFrom_101 : decode cX2_copyFrom 101 = .ok (.aload_n 1, 1) := dk_43 (by decide +kernel)
theorem dX2_copyFrom_102 : decode cX2_copyFrom 102 = .ok (.getfield 74, 3) := dk_180 (x := 0) (y := 74) (by decide +kernel) rfl
theorem dX2_copyFrom_105 : decode cX2_copyFrom 105 = .ok (.putfield 74, 3) := dk_181 (x := 0) (y := 74) (by decide +kernel) rfl
theorem dX2_copyFrom_108 : decode cX2_copyFrom 108 = .ok (.aload_n 0, 1) := dk_42 (by decide +kernel)
theorem dX2_copyFrom_109 : decode cX2_copyFrom 109 = .ok (.aload_n 1, 1) := dk_43 (by decide +kernel)
theorem dX2_copyFrom_110 : decode cX2_copyFrom 110 = .ok (.getfield 77, 3) := dk_180 (x := 0) (y := 77) (by decide +kernel) rfl
theorem dX2_copyFrom_113 : decode cX2_copyFrom 113 = .ok (.putfield 77, 3) := dk_181 (x := 0) (y := 77) (by decide +kernel) rfl
theorem dX2_copyFrom_116 : decode cX2_copyFrom 116 = .ok (.aload_n 0, 1) := dk_42 (by decide +kernel)
theorem dX2_copyFrom_117 : decode cX2_copyFrom 117 = .ok (.aload_n 1, 1) := dk_43 (by decide +kernel)
theorem dX2_copyFrom_118 : decode cX2_copyFrom 118 = .ok (.getfield 80, 3) := dk_180 (x := 0) (y := 80) (by decide +kernel) rfl
theorem dX2_copyFrom_121 : decode cX2_copyFrom 121 = .ok (.putfield 80, 3) := dk_181 (x := 0) (y := 80) (by decide +kernel) rfl
theorem dX2_copyFrom_124 : decode cX2_copyFrom 124 = .ok (.return_, 1) := dk_177 (by decide +kernel)
def f_X2_copyFrom_13 : Nat → Nat → Nat → Int32 → Mem → Option Mem
  | 0, _, _, _, _ => none
  | n + 1, v0, v1, v2, M =>
    if (16 : Int32) ≤ v2 then (
      chk (isO M 2 v1) <|
      chk (isO M 2 v0) <|
      bnd (sI M v0 7 (mI M v1 7)) fun M5 =>
      bnd (sI M5 v0 8 (mI M5 v1 8)) fun M9 =>
      bnd (sI M9 v0 9 (mI M9 v1 9)) fun M13 =>
      bnd (sI M13 v0 10 (mI M13 v1 10)) fun M17 =>
      bnd (sI M17 v0 11 (mI M17 v1 11)) fun M21 =>
      bnd (sI M21 v0 12 (mI M21 v1 12)) fun M25 =>
      bnd (sI M25 v0 13 (mI M25 v1 13)) fun M29 =>
      bnd (sI M29 v0 14 (mI M29 v1 14)) fun M33 =>
      bnd (sI M33 v0 15 (mI M33 v1 15)) fun M37 =>
      some M37
      ) else (
      chk (isO M 2 v0) <|
      bnd (mR M v0 2) fun o42 =>
      chk (isO M 102 o42) <|
      chk (inB v2 (mLn M o42)) <|
      bnd (mR M o42 (v2).toNatClampNeg) fun o46 =>
      chk (isO M 4 o46) <|
      chk (isO M 2 v1) <|
      bnd (mR M v1 2) fun o50 =>
      chk (isO M 102 o50) <|
      chk (inB v2 (mLn M o50)) <|
      bnd (mR M o50 (v2).toNatClampNeg) fun o54 =>
      chk (isO M 4 o54) <|
      obd (f_X4_copyFrom o46 o54 M) fun M58 =>
      chk (isO M58 2 v0) <|
      bnd (mR M58 v0 5) fun o60 =>
      chk (isO M58 100 o60) <|
      chk (isO M58 2 v1) <|
      bnd (mR M58 v1 5) fun o64 =>
      chk (isO M58 100 o64) <|
      chk (inB v2 (mLn M58 o64)) <|
      chk (inB v2 (mLn M58 o60)) <|
      bnd (sI M58 o60 (v2).toNatClampNeg (mI M58 o64 (v2).toNatClampNeg)) fun M69 =>
      bnd (v2 + (1 : Int32)) fun x75 =>
      f_X2_copyFrom_13 n v0 v1 x75 M69
      )
def f_X2_copyFrom (n : Nat) (o : Nat) (a1 : Nat) (M : Mem) : Option Mem :=
  chk (isO M 2 o) <|
  bnd (mR M o 1) fun o2 =>
  chk (isO M 5 o2) <|
  chk (isO M 2 a1) <|
  bnd (mR M a1 1) fun o6 =>
  chk (isO M 5 o6) <|
  obd (f_X5_copyFrom o2 o6 M) fun M10 =>
  f_X2_copyFrom_13 n o a1 (0 : Int32) M10
theorem cd_X2_copyFrom : (yX2_copyFrom.cls ≠ "java/lang/invoke/MethodHandle" ∧ yX2_copyFrom.cls ≠ "java/lang/invoke/VarHandle") ∧ (parseMethodDescriptor yX2_copyFrom.desc).map (fun d => d.parameters.length) = some 1 := ⟨⟨by decide +kernel, by decide +kernel⟩, by decide +kernel⟩
section
variable {p : Program} {l : Launch} {e : Env} {R : Room} {s : State} {m : MethodId} {args : Array Value} {below : List Frame} {meth : Method} {c : Code} {G : Gam} {M0 : Mem}
theorem l_X2_copyFrom_13 {rv : Mem} (X : Cx p R s m args c G M0 cX2_copyFrom yX2_copyFrom.cls 3 2 49) (hr : meth.sig.returnType = none) (hlk : meth.locks = false) (hnm : meth.name = "copyFrom") : ∀ {n : Nat} (v0 : Nat) (v1 : Nat) (v2 : Int32) (M : Mem), f_X2_copyFrom_13 n v0 v1 v2 M = some rv → Sg p l e R s m args below meth c (Qm below G args s none M0 rv) G M0 3 13 [(0, .ref (gB G + v0)), (1, .ref (gB G + v1)), (2, .int v2)] [] M := by
  intro n
  induction n with
  | zero => intro v0 v1 v2 M hf; exact (pk_none hf).elim
  | succ n ih =>
    intro v0 v1 v2 M hf
    rw [f_X2_copyFrom_13] at hf
    refine s_iload_n X 2 dX2_copyFrom_13 rfl rfl ?_
    refine s_bipush X (v := (16 : Int32)) dX2_copyFrom_14 rfl ?_
    have hs1 := pk_ite hf
    clear hf
    refine s_icmp_ge X (tgt := 52) dX2_copyFrom_16 rfl (fun c2 => ?_) (fun c2 => ?_)
    · have hf := hs1.1 c2
      refine s_aload_n X 0 dX2_copyFrom_52 rfl rfl ?_
      refine s_aload_n X 1 dX2_copyFrom_53 rfl rfl ?_
      obtain ⟨h3, hf⟩ := pk_chk hf
      refine s_getI X (ci := 2) (k := 7) rfl (Nat.le_of_ble_eq_true rfl) h3 wd434 (fun _ _ _ => rfl) dX2_copyFrom_54 ?_
      obtain ⟨h4, hf⟩ := pk_chk hf
      obtain ⟨M5, e6, hf⟩ := pk_bnd hf
      refine s_putI X (ci := 2) (k := 7) rfl (Nat.le_of_ble_eq_true rfl) h4 wd434 (fun _ _ _ => rfl) rfl rfl e6 dX2_copyFrom_57 ?_
      have h7 := io_sI e6 h3
      have h8 := io_sI e6 h4
      refine s_aload_n X 0 dX2_copyFrom_60 rfl rfl ?_
      refine s_aload_n X 1 dX2_copyFrom_61 rfl rfl ?_
      refine s_getI X (ci := 2) (k := 8) rfl (Nat.le_of_ble_eq_true rfl) h7 wd438 (fun _ _ _ => rfl) dX2_copyFrom_62 ?_
      obtain ⟨M9, e10, hf⟩ := pk_bnd hf
      refine s_putI X (ci := 2) (k := 8) rfl (Nat.le_of_ble_eq_true rfl) h8 wd438 (fun _ _ _ => rfl) rfl rfl e10 dX2_copyFrom_65 ?_
      have h11 := io_sI e10 h7
      have h12 := io_sI e10 h8
      refine s_aload_n X 0 dX2_copyFrom_68 rfl rfl ?_
      refine s_aload_n X 1 dX2_copyFrom_69 rfl rfl ?_
      refine s_getI X (ci := 2) (k := 9) rfl (Nat.le_of_ble_eq_true rfl) h11 wd441 (fun _ _ _ => rfl) dX2_copyFrom_70 ?_
      obtain ⟨M13, e14, hf⟩ := pk_bnd hf
      refine s_putI X (ci := 2) (k := 9) rfl (Nat.le_of_ble_eq_true rfl) h12 wd441 (fun _ _ _ => rfl) rfl rfl e14 dX2_copyFrom_73 ?_
      have h15 := io_sI e14 h11
      have h16 := io_sI e14 h12
      refine s_aload_n X 0 dX2_copyFrom_76 rfl rfl ?_
      refine s_aload_n X 1 dX2_copyFrom_77 rfl rfl ?_
      refine s_getI X (ci := 2) (k := 10) rfl (Nat.le_of_ble_eq_true rfl) h15 wd443 (fun _ _ _ => rfl) dX2_copyFrom_78 ?_
      obtain ⟨M17, e18, hf⟩ := pk_bnd hf
      refine s_putI X (ci := 2) (k := 10) rfl (Nat.le_of_ble_eq_true rfl) h16 wd443 (fun _ _ _ => rfl) rfl rfl e18 dX2_copyFrom_81 ?_
      have h19 := io_sI e18 h15
      have h20 := io_sI e18 h16
      refine s_aload_n X 0 dX2_copyFrom_84 rfl rfl ?_
      refine s_aload_n X 1 dX2_copyFrom_85 rfl rfl ?_
      refine s_getI X (ci := 2) (k := 11) rfl (Nat.le_of_ble_eq_true rfl) h19 wd445 (fun _ _ _ => rfl) dX2_copyFrom_86 ?_
      obtain ⟨M21, e22, hf⟩ := pk_bnd hf
      refine s_putI X (ci := 2) (k := 11) rfl (Nat.le_of_ble_eq_true rfl) h20 wd445 (fun _ _ _ => rfl) rfl rfl e22 dX2_copyFrom_89 ?_
      have h23 := io_sI e22 h19
      have h24 := io_sI e22 h20
      refine s_aload_n X 0 dX2_copyFrom_92 rfl rfl ?_
      refine s_aload_n X 1 dX2_copyFrom_93 rfl rfl ?_
      refine s_getI X (ci := 2) (k := 12) rfl (Nat.le_of_ble_eq_true rfl) h23 wd448 (fun _ _ _ => rfl) dX2_copyFrom_94 ?_
      obtain ⟨M25, e26, hf⟩ := pk_bnd hf
      refine s_putI X (ci := 2) (k := 12) rfl (Nat.le_of_ble_eq_true rfl) h24 wd448 (fun _ _ _ => rfl) rfl rfl e26 dX2_copyFrom_97 ?_
      have h27 := io_sI e26 h23
      have h28 := io_sI e26 h24
      refine s_aload_n X 0 dX2_copyFrom_100 rfl rfl ?_
      refine s_aload_n X 1 dX2_copyFrom_101 rfl rfl ?_
      refine s_getI X (ci := 2) (k := 13) rfl (Nat.le_of_ble_eq_true rfl) h27 wd450 (fun _ _ _ => rfl) dX2_copyFrom_102 ?_
      obtain ⟨M29, e30, hf⟩ := pk_bnd hf
      refine s_putI X (ci := 2) (k := 13) rfl (Nat.le_of_ble_eq_true rfl) h28 wd450 (fun _ _ _ => rfl) rfl rfl e30 dX2_copyFrom_105 ?_
      have h31 := io_sI e30 h27
      have h32 := io_sI e30 h28
      refine s_aload_n X 0 dX2_copyFrom_108 rfl rfl ?_
      refine s_aload_n X 1 dX2_copyFrom_109 rfl rfl ?_
      refine s_getI X (ci := 2) (k := 14) rfl (Nat.le_of_ble_eq_true rfl) h31 wd452 (fun _ _ _ => rfl) dX2_copyFrom_110 ?_
      obtain ⟨M33, e34, hf⟩ := pk_bnd hf
      refine s_putI X (ci := 2) (k := 14) rfl (Nat.le_of_ble_eq_true rfl) h32 wd452 (fun _ _ _ => rfl) rfl rfl e34 dX2_copyFrom_113 ?_
      have h35 := io_sI e34 h31
      have h36 := io_sI e34 h32
      refine s_aload_n X 0 dX2_copyFrom_116 rfl rfl ?_
      refine s_aload_n X 1 dX2_copyFrom_117 rfl rfl ?_
      refine s_getI X (ci := 2) (k := 15) rfl (Nat.le_of_ble_eq_true rfl) h35 wd454 (fun _ _ _ => rfl) dX2_copyFrom_118 ?_
      obtain ⟨M37, e38, hf⟩ := pk_bnd hf
      refine s_putI X (ci := 2) (k := 15) rfl (Nat.le_of_ble_eq_true rfl) h36 wd454 (fun _ _ _ => rfl) rfl rfl e38 dX2_copyFrom_121 ?_
      have h39 := io_sI e38 h35
      have h40 := io_sI e38 h36
      cases hf
      exact s_vret X hr hlk dX2_copyFrom_124
    · have hf := hs1.2 c2
      refine s_aload_n X 0 dX2_copyFrom_19 rfl rfl ?_
      obtain ⟨h41, hf⟩ := pk_chk hf
      obtain ⟨o42, e43, hf⟩ := pk_bnd hf
      obtain ⟨h44, hf⟩ := pk_chk hf
      refine s_getR X (ci := 2) (k := 2) rfl (Nat.le_of_ble_eq_true rfl) h41 wd423 (fun _ _ _ => rfl) (e43 ▸ h44) dX2_copyFrom_20 (e43 ▸ ?_)
      refine s_iload_n X 2 dX2_copyFrom_23 rfl rfl ?_
      obtain ⟨h45, hf⟩ := pk_chk hf
      obtain ⟨o46, e47, hf⟩ := pk_bnd hf
      obtain ⟨h48, hf⟩ := pk_chk hf
      refine s_aald X h44 h45 (e47 ▸ h48) dX2_copyFrom_24 (e47 ▸ ?_)
      refine s_aload_n X 1 dX2_copyFrom_25 rfl rfl ?_
      obtain ⟨h49, hf⟩ := pk_chk hf
      obtain ⟨o50, e51, hf⟩ := pk_bnd hf
      obtain ⟨h52, hf⟩ := pk_chk hf
      refine s_getR X (ci := 2) (k := 2) rfl (Nat.le_of_ble_eq_true rfl) h49 wd423 (fun _ _ _ => rfl) (e51 ▸ h52) dX2_copyFrom_26 (e51 ▸ ?_)
      refine s_iload_n X 2 dX2_copyFrom_29 rfl rfl ?_
      obtain ⟨h53, hf⟩ := pk_chk hf
      obtain ⟨o54, e55, hf⟩ := pk_bnd hf
      obtain ⟨h56, hf⟩ := pk_chk hf
      refine s_aald X h52 h53 (e55 ▸ h56) dX2_copyFrom_30 (e55 ▸ ?_)
      obtain ⟨M58, hc57, hf⟩ := pk_obd hf
      refine s_callV X (ci := 4) (k_X4_copyFrom G hc57) rfl h48 wd1244 wd1245 wd1246 wd1247 wd133 cd_X4_copyFrom ⟨Nat.le_of_ble_eq_true rfl, Nat.le_of_ble_eq_true rfl⟩ (Nat.le_of_ble_eq_true rfl) dX2_copyFrom_31 ?_
      refine s_aload_n X 0 dX2_copyFrom_34 rfl rfl ?_
      obtain ⟨h59, hf⟩ := pk_chk hf
      obtain ⟨o60, e61, hf⟩ := pk_bnd hf
      obtain ⟨h62, hf⟩ := pk_chk hf
      refine s_getR X (ci := 2) (k := 5) rfl (Nat.le_of_ble_eq_true rfl) h59 wd431 (fun _ _ _ => rfl) (e61 ▸ h62) dX2_copyFrom_35 (e61 ▸ ?_)
      refine s_iload_n X 2 dX2_copyFrom_38 rfl rfl ?_
      refine s_aload_n X 1 dX2_copyFrom_39 rfl rfl ?_
      obtain ⟨h63, hf⟩ := pk_chk hf
      obtain ⟨o64, e65, hf⟩ := pk_bnd hf
      obtain ⟨h66, hf⟩ := pk_chk hf
      refine s_getR X (ci := 2) (k := 5) rfl (Nat.le_of_ble_eq_true rfl) h63 wd431 (fun _ _ _ => rfl) (e65 ▸ h66) dX2_copyFrom_40 (e65 ▸ ?_)
      refine s_iload_n X 2 dX2_copyFrom_43 rfl rfl ?_
      obtain ⟨h67, hf⟩ := pk_chk hf
      refine s_iald X h66 h67 dX2_copyFrom_44 ?_
      obtain ⟨h68, hf⟩ := pk_chk hf
      obtain ⟨M69, e70, hf⟩ := pk_bnd hf
      refine s_iast X h62 h68 e70 dX2_copyFrom_45 ?_
      have h71 := io_sI e70 h59
      have h72 := io_sI e70 h62
      have h73 := io_sI e70 h63
      have h74 := io_sI e70 h66
      obtain ⟨x75, e76, hf⟩ := pk_bnd hf
      refine s_iinc X (vs' := [(0, .ref (gB G + v0)), (1, .ref (gB G + v1)), (2, .int x75)]) 2 dX2_copyFrom_46 rfl (v := x75) e76.symm (Nat.le_of_ble_eq_true rfl) [1, 2, 0] rfl ?_
      refine s_goto X (tgt := 13) dX2_copyFrom_49 rfl ?_
      exact ih _ _ _ _ hf
end
theorem k_X2_copyFrom (G : Gam) {n : Nat} {o : Nat} {a1 : Nat} {M : Mem} {rv : Mem} (hf : f_X2_copyFrom n o a1 M = some rv) : Kt yX2_copyFrom cX2_copyFrom 3 none 2 49 G [.ref (gB G + o), .ref (gB G + a1)] M rv none := by
  refine Kt.of (by decide) (Nat.le_of_ble_eq_true rfl) ?_
  intro p l e R s m args below meth c X hr hlk hnm
  refine s_drop [0, 1] (vs' := [(0, .ref (gB G + o)), (1, .ref (gB G + a1))]) rfl ?_
  rw [f_X2_copyFrom] at hf
  refine s_aload_n X 0 dX2_copyFrom_0 rfl rfl ?_
  obtain ⟨h1, hf⟩ := pk_chk hf
  obtain ⟨o2, e3, hf⟩ := pk_bnd hf
  obtain ⟨h4, hf⟩ := pk_chk hf
  refine s_getR X (ci := 2) (k := 1) rfl (Nat.le_of_ble_eq_true rfl) h1 wd419 (fun _ _ _ => rfl) (e3 ▸ h4) dX2_copyFrom_1 (e3 ▸ ?_)
  refine s_aload_n X 1 dX2_copyFrom_4 rfl rfl ?_
  obtain ⟨h5, hf⟩ := pk_chk hf
  obtain ⟨o6, e7, hf⟩ := pk_bnd hf
  obtain ⟨h8, hf⟩ := pk_chk hf
  refine s_getR X (ci := 2) (k := 1) rfl (Nat.le_of_ble_eq_true rfl) h5 wd419 (fun _ _ _ => rfl) (e7 ▸ h8) dX2_copyFrom_5 (e7 ▸ ?_)
  obtain ⟨M10, hc9, hf⟩ := pk_obd hf
  refine s_callV X (ci := 5) (k_X5_copyFrom G hc9) rfl h4 wd1239 wd1240 wd1241 wd1242 wd131 cd_X5_copyFrom ⟨Nat.le_of_ble_eq_true rfl, Nat.le_of_ble_eq_true rfl⟩ (Nat.le_of_ble_eq_true rfl) dX2_copyFrom_8 ?_
  refine s_iconst X (v := (0 : Int32)) dX2_copyFrom_11 rfl ?_
  refine s_istore_n X (vs' := [(0, .ref (gB G + o)), (1, .ref (gB G + a1)), (2, .int (0 : Int32))]) dX2_copyFrom_12 rfl (Nat.le_of_ble_eq_true rfl) [1, 2, 0] rfl ?_
  exact l_X2_copyFrom_13 X hr hlk hnm _ _ _ _ hf
theorem dX9_entersBy_0 : decode cX9_entersBy 0 = .ok (.aload_n 0, 1) := dk_42 (by decide +kernel)
theorem dX9_entersBy_1 : decode cX9_entersBy 1 = .ok (.getfield 10, 3) := dk_180 (x := 0) (y := 10) (by decide +kernel) rfl
theorem dX9_entersBy_4 : decode cX9_entersBy 4 = .ok (.iload_n 1, 1) := dk_27 (by decide +kernel)
theorem dX9_entersBy_5 : decode cX9_entersBy 5 = .ok (.invokevirtual 71, 3) := dk_182 (x := 0) (y := 71) (by decide +kernel) rfl
theorem dX9_entersBy_8 : decode cX9_entersBy 8 = .ok (.ifCond .eq 7, 3) := dk_153 (x := 0) (y := 7) (by decide +kernel) rfl
theorem dX9_entersBy_11 : decode cX9_entersBy 11 = .ok (.iload_n 2, 1) := dk_28 (by decide +kernel)
theorem dX9_entersBy_12 : decode cX9_entersBy 12 = .ok (.ifCond .ge 5, 3) := dk_156 (x := 0) (y := 5) (by decide +kernel) rfl
theorem dX9_entersBy_15 : decode cX9_entersBy 15 = .ok (.iconst (-1), 1) := dk_2 (by decide +kernel)
theorem dX9_entersBy_16 : decode cX9_entersBy 16 = .ok (.ireturn, 1) := dk_172 (by decide +kernel)
theorem dX9_entersBy_17 : decode cX9_entersBy 17 = .ok (.aload_n 0, 1) := dk_42 (by decide +kernel)
theorem dX9_entersBy_18 : decode cX9_entersBy 18 = .ok (.getfield 32, 3) := dk_180 (x := 0) (y := 32) (by decide +kernel) rfl
theorem dX9_entersBy_21 : decode cX9_entersBy 21 = .ok (.aload_n 0, 1) := dk_42 (by decide +kernel)
theorem dX9_entersBy_22 : decode cX9_entersBy 22 = .ok (.getfield 28, 3) := dk_180 (x := 0) (y := 28) (by decide +kernel) rfl
theorem dX9_entersBy_25 : decode cX9_entersBy 25 = .ok (.invokevirtual 311, 3) := dk_182 (x := 1) (y := 55) (by decide +kernel) rfl
theorem dX9_entersBy_28 : decode cX9_entersBy 28 = .ok (.aload_n 0, 1) := dk_42 (by decide +kernel)
theorem dX9_entersBy_29 : decode cX9_entersBy 29 = .ok (.getfield 32, 3) := dk_180 (x := 0) (y := 32) (by decide +kernel) rfl
theorem dX9_entersBy_32 : decode cX9_entersBy 32 = .ok (.iload_n 2, 1) := dk_28 (by decide +kernel)
theorem dX9_entersBy_33 : decode cX9_entersBy 33 = .ok (.i2l, 1) := dk_133 (by decide +kernel)
theorem dX9_entersBy_34 : decode cX9_entersBy 34 = .ok (.putfield 304, 3) := dk_181 (x := 1) (y := 48) (by decide +kernel) rfl
theorem dX9_entersBy_37 : decode cX9_entersBy 37 = .ok (.iconst 0, 1) := dk_3 (by decide +kernel)
theorem dX9_entersBy_38 : decode cX9_entersBy 38 = .ok (.istore_n 3, 1) := dk_62 (by decide +kernel)
theorem dX9_entersBy_39 : decode cX9_entersBy 39 = .ok (.aload_n 0, 1) := dk_42 (by decide +kernel)
theorem dX9_entersBy_40 : decode cX9_entersBy 40 = .ok (.getfield 32, 3) := dk_180 (x := 0) (y := 32) (by decide +kernel) rfl
theorem dX9_entersBy_43 : decode cX9_entersBy 43 = .ok (.getfield 177, 3) := dk_180 (x := 0) (y := 177) (by decide +kernel) rfl
theorem dX9_entersBy_46 : decode cX9_entersBy 46 = .ok (.iload_n 1, 1) := dk_27 (by decide +kernel)
theorem dX9_entersBy_47 : decode cX9_entersBy 47 = .ok (.invokestatic 180, 3) := dk_184 (x := 0) (y := 180) (by decide +kernel) rfl
theorem dX9_entersBy_50 : decode cX9_entersBy 50 = .ok (.ifCond .ne 28, 3) := dk_154 (x := 0) (y := 28) (by decide +kernel) rfl
theorem dX9_entersBy_53 : decode cX9_entersBy 53 = .ok (.iload_n 3, 1) := dk_29 (by decide +kernel)
theorem dX9_entersBy_54 : decode cX9_entersBy 54 = .ok (.sipush 500, 3) := dk_17 (x := 1) (y := 244) (by decide +kernel) rfl
theorem dX9_entersBy_57 : decode cX9_entersBy 57 = .ok (.if_icmp .ge 13, 3) := dk_162 (x := 0) (y := 13) (by decide +kernel) rfl
theorem dX9_entersBy_60 : decode cX9_entersBy 60 = .ok (.aload_n 0, 1) := dk_42 (by decide +kernel)
theorem dX9_entersBy_61 : decode cX9_entersBy 61 = .ok (.getfield 32, 3) := dk_180 (x := 0) (y := 32) (by decide +kernel) rfl
theorem dX9_entersBy_64 : decode cX9_entersBy 64 = .ok (.invokevirtual 308, 3) := dk_182 (x := 1) (y := 52) (by decide +kernel) rfl
theorem dX9_entersBy_67 : decode cX9_entersBy 67 = .ok (.ifCond .ne 5, 3) := dk_154 (x := 0) (y := 5) (by decide +kernel) rfl
theorem dX9_entersBy_70 : decode cX9_entersBy 70 = .ok (.iconst (-1), 1) := dk_2 (by decide +kernel)
theorem dX9_entersBy_71 : decode cX9_entersBy 71 = .ok (.ireturn, 1) := dk_172 (by decide +kernel)
theorem dX9_entersBy_72 : decode cX9_entersBy 72 = .ok (.iinc 3 1, 3) := dk_132 (x := 3) (y := 1) (by decide +kernel) rfl
theorem dX9_entersBy_75 : decode cX9_entersBy 75 = .ok (.goto (-36), 3) := dk_167 (x := 255) (y := 220) (by decide +kernel) rfl
theorem dX9_entersBy_78 : decode cX9_entersBy 78 = .ok (.iload_n 3, 1) := dk_29 (by decide +kernel)
theorem dX9_entersBy_79 : decode cX9_entersBy 79 = .ok (.ireturn, 1) := dk_172 (by decide +kernel)
def f_X9_entersBy_39 : Nat → Nat → Int32 → Int32 → Mem → Option (Int32 × Mem)
  | 0, _, _, _, _ => none
  | n + 1, v0, v1, v3, M =>
    chk (isO M 9 v0) <|
    bnd (mR M v0 3) fun o2 =>
    chk (isO M 2 o2) <|
    obd (f_X9_has (mI M o2 7) v1 M) fun r6 =>
    if r6 = 0 then (
      if (500 : Int32) ≤ v3 then (
        some ((-1 : Int32), M)
        ) else (
        bnd (mR M v0 3) fun o11 =>
        chk (isO M 2 o11) <|
        obd2 (f_X2_moveByDraw n o11 M) fun r15 M16 =>
        if r15 = 0 then (
          some ((-1 : Int32), M16)
          ) else (
          bnd (v3 + (1 : Int32)) fun x19 =>
          f_X9_entersBy_39 n v0 v1 x19 M16
          )
        )
      ) else (
      some (v3, M)
      )
def f_X9_entersBy (n : Nat) (o : Nat) (a1 : Int32) (a2 : Int32) (M : Mem) : Option (Int32 × Mem) :=
  chk (isO M 9 o) <|
  bnd (mR M o 0) fun o2 =>
  chk (isO M 7 o2) <|
  obd (f_X7_isNode o2 a1 M) fun r6 =>
  if r6 = 0 then (
    some ((-1 : Int32), M)
    ) else (
    if 0 ≤ a2 then (
      bnd (mR M o 3) fun o11 =>
      chk (isO M 2 o11) <|
      bnd (mR M o 2) fun o14 =>
      chk (isO M 2 o14) <|
      obd (f_X2_copyFrom n o11 o14 M) fun M18 =>
      chk (isO M18 9 o) <|
      bnd (mR M18 o 3) fun o20 =>
      chk (isO M18 2 o20) <|
      bnd (sL M18 o20 16 ((a2).toInt64)) fun M23 =>
      f_X9_entersBy_39 n o a1 (0 : Int32) M23
      ) else (
      some ((-1 : Int32), M)
      )
    )
theorem cd_X9_entersBy : (yX9_entersBy.cls ≠ "java/lang/invoke/MethodHandle" ∧ yX9_entersBy.cls ≠ "java/lang/invoke/VarHandle") ∧ (parseMethodDescriptor yX9_entersBy.desc).map (fun d => d.parameters.length) = some 2 := ⟨⟨by decide +kernel, by decide +kernel⟩, by decide +kernel⟩
section
variable {p : Program} {l : Launch} {e : Env} {R : Room} {s : State} {m : MethodId} {args : Array Value} {below : List Frame} {meth : Method} {c : Code} {G : Gam} {M0 : Mem}
theorem l_X9_entersBy_39 {rv : (Int32 × Mem)} (X : Cx p R s m args c G M0 cX9_entersBy yX9_entersBy.cls 4 8 194) (hr : meth.sig.returnType = (some .int)) (hlk : meth.locks = false) (hnm : meth.name = "entersBy") : ∀ {n : Nat} (v0 : Nat) (v1 : Int32) (v3 : Int32) (M : Mem), f_X9_entersBy_39 n v0 v1 v3 M = some rv → Sg p l e R s m args below meth c (Qm below G args s (some (.int rv.1)) M0 rv.2) G M0 4 39 [(0, .ref (gB G + v0)), (1, .int v1), (3, .int v3)] [] M := by
  intro n
  induction n with
  | zero => intro v0 v1 v3 M hf; exact (pk_none hf).elim
  | succ n ih =>
    intro v0 v1 v3 M hf
    rw [f_X9_entersBy_39] at hf
    refine s_aload_n X 0 dX9_entersBy_39 rfl rfl ?_
    obtain ⟨h1, hf⟩ := pk_chk hf
    obtain ⟨o2, e3, hf⟩ := pk_bnd hf
    obtain ⟨h4, hf⟩ := pk_chk hf
    refine s_getR X (ci := 9) (k := 3) rfl (Nat.le_of_ble_eq_true rfl) h1 wd630 (fun _ _ _ => rfl) (e3 ▸ h4) dX9_entersBy_40 (e3 ▸ ?_)
    refine s_getI X (ci := 2) (k := 7) rfl (Nat.le_of_ble_eq_true rfl) h4 wd437 (fun _ _ _ => rfl) dX9_entersBy_43 ?_
    refine s_iload_n X 1 dX9_entersBy_46 rfl rfl ?_
    obtain ⟨r6, hc5, hf⟩ := pk_obd hf
    refine s_callS X (k_X9_has G hc5) wd966 wd712 wd713 wd126 cd_X9_has ⟨Nat.le_of_ble_eq_true rfl, Nat.le_of_ble_eq_true rfl⟩ (Nat.le_of_ble_eq_true rfl) dX9_entersBy_47 ?_
    have hs7 := pk_ite hf
    clear hf
    refine s_if_ne X (tgt := 78) dX9_entersBy_50 rfl (fun c8 => ?_) (fun c8 => ?_)
    · have hf := hs7.2 c8
      refine s_iload_n X 2 dX9_entersBy_78 rfl rfl ?_
      cases hf
      exact s_iret X hr hlk dX9_entersBy_79
    · have hf := hs7.1 c8
      refine s_iload_n X 2 dX9_entersBy_53 rfl rfl ?_
      refine s_sipush X (v := (500 : Int32)) dX9_entersBy_54 rfl ?_
      have hs9 := pk_ite hf
      clear hf
      refine s_icmp_ge X (tgt := 70) dX9_entersBy_57 rfl (fun c10 => ?_) (fun c10 => ?_)
      · have hf := hs9.1 c10
        refine s_iconst X (v := (-1 : Int32)) dX9_entersBy_70 rfl ?_
        cases hf
        exact s_iret X hr hlk dX9_entersBy_71
      · have hf := hs9.2 c10
        refine s_aload_n X 0 dX9_entersBy_60 rfl rfl ?_
        obtain ⟨o11, e12, hf⟩ := pk_bnd hf
        obtain ⟨h13, hf⟩ := pk_chk hf
        refine s_getR X (ci := 9) (k := 3) rfl (Nat.le_of_ble_eq_true rfl) h1 wd630 (fun _ _ _ => rfl) (e12 ▸ h13) dX9_entersBy_61 (e12 ▸ ?_)
        obtain ⟨r15, M16, hc14, hf⟩ := pk_obd2 hf
        refine s_callV X (ci := 2) (k_X2_moveByDraw G hc14) rfl h13 wd1213 wd1214 wd1215 wd1216 wd130 cd_X2_moveByDraw ⟨Nat.le_of_ble_eq_true rfl, Nat.le_of_ble_eq_true rfl⟩ (Nat.le_of_ble_eq_true rfl) dX9_entersBy_64 ?_
        have hs17 := pk_ite hf
        clear hf
        refine s_if_ne X (tgt := 72) dX9_entersBy_67 rfl (fun c18 => ?_) (fun c18 => ?_)
        · have hf := hs17.2 c18
          obtain ⟨x19, e20, hf⟩ := pk_bnd hf
          refine s_iinc X (vs' := [(0, .ref (gB G + v0)), (1, .int v1), (3, .int x19)]) 2 dX9_entersBy_72 rfl (v := x19) e20.symm (Nat.le_of_ble_eq_true rfl) [1, 2, 0] rfl ?_
          refine s_goto X (tgt := 39) dX9_entersBy_75 rfl ?_
          exact ih _ _ _ _ hf
        · have hf := hs17.1 c18
          refine s_iconst X (v := (-1 : Int32)) dX9_entersBy_70 rfl ?_
          cases hf
          exact s_iret X hr hlk dX9_entersBy_71
end
theorem k_X9_entersBy (G : Gam) {n : Nat} {o : Nat} {a1 : Int32} {a2 : Int32} {M : Mem} {rv : (Int32 × Mem)} (hf : f_X9_entersBy n o a1 a2 M = some rv) : Kt yX9_entersBy cX9_entersBy 4 (some .int) 8 194 G [.ref (gB G + o), .int a1, .int a2] M rv.2 (some (.int rv.1)) := by
  refine Kt.of (by decide) (Nat.le_of_ble_eq_true rfl) ?_
  intro p l e R s m args below meth c X hr hlk hnm
  refine s_drop [0, 1, 2] (vs' := [(0, .ref (gB G + o)), (1, .int a1), (2, .int a2)]) rfl ?_
  rw [f_X9_entersBy] at hf
  refine s_aload_n X 0 dX9_entersBy_0 rfl rfl ?_
  obtain ⟨h1, hf⟩ := pk_chk hf
  obtain ⟨o2, e3, hf⟩ := pk_bnd hf
  obtain ⟨h4, hf⟩ := pk_chk hf
  refine s_getR X (ci := 9) (k := 0) rfl (Nat.le_of_ble_eq_true rfl) h1 wd627 (fun _ _ _ => rfl) (e3 ▸ h4) dX9_entersBy_1 (e3 ▸ ?_)
  refine s_iload_n X 1 dX9_entersBy_4 rfl rfl ?_
  obtain ⟨r6, hc5, hf⟩ := pk_obd hf
  refine s_callV X (ci := 7) (k_X7_isNode G hc5) rfl h4 wd699 wd700 wd701 wd702 wd127 cd_X7_isNode ⟨Nat.le_of_ble_eq_true rfl, Nat.le_of_ble_eq_true rfl⟩ (Nat.le_of_ble_eq_true rfl) dX9_entersBy_5 ?_
  have hs7 := pk_ite hf
  clear hf
  refine s_if_eq X (tgt := 15) dX9_entersBy_8 rfl (fun c8 => ?_) (fun c8 => ?_)
  · have hf := hs7.1 c8
    refine s_iconst X (v := (-1 : Int32)) dX9_entersBy_15 rfl ?_
    cases hf
    exact s_iret X hr hlk dX9_entersBy_16
  · have hf := hs7.2 c8
    refine s_iload_n X 2 dX9_entersBy_11 rfl rfl ?_
    have hs9 := pk_ite hf
    clear hf
    refine s_if_ge X (tgt := 17) dX9_entersBy_12 rfl (fun c10 => ?_) (fun c10 => ?_)
    · have hf := hs9.1 c10
      refine s_aload_n X 0 dX9_entersBy_17 rfl rfl ?_
      obtain ⟨o11, e12, hf⟩ := pk_bnd hf
      obtain ⟨h13, hf⟩ := pk_chk hf
      refine s_getR X (ci := 9) (k := 3) rfl (Nat.le_of_ble_eq_true rfl) h1 wd630 (fun _ _ _ => rfl) (e12 ▸ h13) dX9_entersBy_18 (e12 ▸ ?_)
      refine s_aload_n X 0 dX9_entersBy_21 rfl rfl ?_
      obtain ⟨o14, e15, hf⟩ := pk_bnd hf
      obtain ⟨h16, hf⟩ := pk_chk hf
      refine s_getR X (ci := 9) (k := 2) rfl (Nat.le_of_ble_eq_true rfl) h1 wd629 (fun _ _ _ => rfl) (e15 ▸ h16) dX9_entersBy_22 (e15 ▸ ?_)
      obtain ⟨M18, hc17, hf⟩ := pk_obd hf
      refine s_callV X (ci := 2) (k_X2_copyFrom G hc17) rfl h13 wd1235 wd1236 wd1237 wd1238 wd130 cd_X2_copyFrom ⟨Nat.le_of_ble_eq_true rfl, Nat.le_of_ble_eq_true rfl⟩ (Nat.le_of_ble_eq_true rfl) dX9_entersBy_25 ?_
      refine s_aload_n X 0 dX9_entersBy_28 rfl rfl ?_
      obtain ⟨h19, hf⟩ := pk_chk hf
      obtain ⟨o20, e21, hf⟩ := pk_bnd hf
      obtain ⟨h22, hf⟩ := pk_chk hf
      refine s_getR X (ci := 9) (k := 3) rfl (Nat.le_of_ble_eq_true rfl) h19 wd630 (fun _ _ _ => rfl) (e21 ▸ h22) dX9_entersBy_29 (e21 ▸ ?_)
      refine s_iload_n X 2 dX9_entersBy_32 rfl rfl ?_
      refine s_i2l X dX9_entersBy_33 ?_
      obtain ⟨M23, e24, hf⟩ := pk_bnd hf
      refine s_putL X (ci := 2) (k := 16) rfl (Nat.le_of_ble_eq_true rfl) h22 wd457 (fun _ _ _ => rfl) rfl rfl e24 dX9_entersBy_34 ?_
      have h25 := io_sL e24 h19
      have h26 := io_sL e24 h22
      refine s_iconst X (v := (0 : Int32)) dX9_entersBy_37 rfl ?_
      refine s_istore_n X (vs' := [(0, .ref (gB G + o)), (1, .int a1), (2, .int a2), (3, .int (0 : Int32))]) dX9_entersBy_38 rfl (Nat.le_of_ble_eq_true rfl) [1, 2, 3, 0] rfl ?_
      refine s_drop [0, 1, 3] (vs' := [(0, .ref (gB G + o)), (1, .int a1), (3, .int (0 : Int32))]) rfl ?_
      exact l_X9_entersBy_39 X hr hlk hnm _ _ _ _ hf
    · have hf := hs9.2 c10
      refine s_iconst X (v := (-1 : Int32)) dX9_entersBy_15 rfl ?_
      cases hf
      exact s_iret X hr hlk dX9_entersBy_16
theorem dX10_putAside_0 : decode cX10_putAside 0 = .ok (.iconst 0, 1) := dk_3 (by decide +kernel)
theorem dX10_putAside_1 : decode cX10_putAside 1 = .ok (.istore_n 1, 1) := dk_60 (by decide +kernel)
theorem dX10_putAside_2 : decode cX10_putAside 2 = .ok (.iload_n 1, 1) := dk_27 (by decide +kernel)
theorem dX10_putAside_3 : decode cX10_putAside 3 = .ok (.sipush 10465, 3) := dk_17 (x := 40) (y := 225) (by decide +kernel) rfl
theorem dX10_putAside_6 : decode cX10_putAside 6 = .ok (.if_icmp .ge 21, 3) := dk_162 (x := 0) (y := 21) (by decide +kernel) rfl
theorem dX10_putAside_9 : decode cX10_putAside 9 = .ok (.aload_n 0, 1) := dk_42 (by decide +kernel)
theorem dX10_putAside_10 : decode cX10_putAside 10 = .ok (.getfield 25, 3) := dk_180 (x := 0) (y := 25) (by decide +kernel) rfl
theorem dX10_putAside_13 : decode cX10_putAside 13 = .ok (.iload_n 1, 1) := dk_27 (by decide +kernel)
theorem dX10_putAside_14 : decode cX10_putAside 14 = .ok (.aload_n 0, 1) := dk_42 (by decide +kernel)
theorem dX10_putAside_15 : decode cX10_putAside 15 = .ok (.getfield 7, 3) := dk_180 (x := 0) (y := 7) (by decide +kernel) rfl
theorem dX10_putAside_18 : decode cX10_putAside 18 = .ok (.iload_n 1, 1) := dk_27 (by decide +kernel)
theorem dX10_putAside_19 : decode cX10_putAside 19 = .ok (.iaload, 1) := dk_46 (by decide +kernel)
theorem dX10_putAside_20 : decode cX10_putAside 20 = .ok (.iastore, 1) := dk_79 (by decide +kernel)
theorem dX10_putAside_21 : decode cX10_putAside 21 = .ok (.iinc 1 1, 3) := dk_132 (x := 1) (y := 1) (by decide +kernel) rfl
theorem dX10_putAside_24 : decode cX10_putAside 24 = .ok (.goto (-22), 3) := dk_167 (x := 255) (y := 234) (by decide +kernel) rfl
theorem dX10_putAside_27 : decode cX10_putAside 27 = .ok (.return_, 1) := dk_177 (by decide +kernel)
def f_X10_putAside_2 : Nat → Nat → Int32 → Mem → Option Mem
  | 0, _, _, _ => none
  | n + 1, v0, v1, M =>
    if (10465 : Int32) ≤ v1 then (
      some M
      ) else (
      chk (isO M 10 v0) <|
      bnd (mR M v0 9) fun o4 =>
      chk (isO M 100 o4) <|
      bnd (mR M v0 0) fun o7 =>
      chk (isO M 100 o7) <|
      chk (inB v1 (mLn M o7)) <|
      chk (inB v1 (mLn M o4)) <|
      bnd (sI M o4 (v1).toNatClampNeg (mI M o7 (v1).toNatClampNeg)) fun M12 =>
      bnd (v1 + (1 : Int32)) fun x17 =>
      f_X10_putAside_2 n v0 x17 M12
      )
def f_X10_putAside (n : Nat) (o : Nat) (M : Mem) : Option Mem :=
  f_X10_putAside_2 n o (0 : Int32) M
theorem cd_X10_putAside : (yX10_putAside.cls ≠ "java/lang/invoke/MethodHandle" ∧ yX10_putAside.cls ≠ "java/lang/invoke/VarHandle") ∧ (parseMethodDescriptor yX10_putAside.desc).map (fun d => d.parameters.length) = some 0 := ⟨⟨by decide +kernel, by decide +kernel⟩, by decide +kernel⟩
section
variable {p : Program} {l : Launch} {e : Env} {R : Room} {s : State} {m : MethodId} {args : Array Value} {below : List Frame} {meth : Method} {c : Code} {G : Gam} {M0 : Mem}
theorem l_X10_putAside_2 {rv : Mem} (X : Cx p R s m args c G M0 cX10_putAside yX10_putAside.cls 2 0 0) (hr : meth.sig.returnType = none) (hlk : meth.locks = false) (hnm : meth.name = "putAside") : ∀ {n : Nat} (v0 : Nat) (v1 : Int32) (M : Mem), f_X10_putAside_2 n v0 v1 M = some rv → Sg p l e R s m args below meth c (Qm below G args s none M0 rv) G M0 2 2 [(0, .ref (gB G + v0)), (1, .int v1)] [] M := by
  intro n
  induction n with
  | zero => intro v0 v1 M hf; exact (pk_none hf).elim
  | succ n ih =>
    intro v0 v1 M hf
    rw [f_X10_putAside_2] at hf
    refine s_iload_n X 1 dX10_putAside_2 rfl rfl ?_
    refine s_sipush X (v := (10465 : Int32)) dX10_putAside_3 rfl ?_
    have hs1 := pk_ite hf
    clear hf
    refine s_icmp_ge X (tgt := 27) dX10_putAside_6 rfl (fun c2 => ?_) (fun c2 => ?_)
    · have hf := hs1.1 c2
      cases hf
      exact s_vret X hr hlk dX10_putAside_27
    · have hf := hs1.2 c2
      refine s_aload_n X 0 dX10_putAside_9 rfl rfl ?_
      obtain ⟨h3, hf⟩ := pk_chk hf
      obtain ⟨o4, e5, hf⟩ := pk_bnd hf
      obtain ⟨h6, hf⟩ := pk_chk hf
      refine s_getR X (ci := 10) (k := 9) rfl (Nat.le_of_ble_eq_true rfl) h3 wd1449 (fun _ _ _ => rfl) (e5 ▸ h6) dX10_putAside_10 (e5 ▸ ?_)
      refine s_iload_n X 1 dX10_putAside_13 rfl rfl ?_
      refine s_aload_n X 0 dX10_putAside_14 rfl rfl ?_
      obtain ⟨o7, e8, hf⟩ := pk_bnd hf
      obtain ⟨h9, hf⟩ := pk_chk hf
      refine s_getR X (ci := 10) (k := 0) rfl (Nat.le_of_ble_eq_true rfl) h3 wd1440 (fun _ _ _ => rfl) (e8 ▸ h9) dX10_putAside_15 (e8 ▸ ?_)
      refine s_iload_n X 1 dX10_putAside_18 rfl rfl ?_
      obtain ⟨h10, hf⟩ := pk_chk hf
      refine s_iald X h9 h10 dX10_putAside_19 ?_
      obtain ⟨h11, hf⟩ := pk_chk hf
      obtain ⟨M12, e13, hf⟩ := pk_bnd hf
      refine s_iast X h6 h11 e13 dX10_putAside_20 ?_
      have h14 := io_sI e13 h3
      have h15 := io_sI e13 h6
      have h16 := io_sI e13 h9
      obtain ⟨x17, e18, hf⟩ := pk_bnd hf
      refine s_iinc X (vs' := [(0, .ref (gB G + v0)), (1, .int x17)]) 1 dX10_putAside_21 rfl (v := x17) e18.symm (Nat.le_of_ble_eq_true rfl) [1, 0] rfl ?_
      refine s_goto X (tgt := 2) dX10_putAside_24 rfl ?_
      exact ih _ _ _ hf
end
theorem k_X10_putAside (G : Gam) {n : Nat} {o : Nat} {M : Mem} {rv : Mem} (hf : f_X10_putAside n o M = some rv) : Kt yX10_putAside cX10_putAside 2 none 0 0 G [.ref (gB G + o)] M rv none := by
  refine Kt.of (by decide) (Nat.le_of_ble_eq_true rfl) ?_
  intro p l e R s m args below meth c X hr hlk hnm
  refine s_drop [0] (vs' := [(0, .ref (gB G + o))]) rfl ?_
  rw [f_X10_putAside] at hf
  refine s_iconst X (v := (0 : Int32)) dX10_putAside_0 rfl ?_
  refine s_istore_n X (vs' := [(0, .ref (gB G + o)), (1, .int (0 : Int32))]) dX10_putAside_1 rfl (Nat.le_of_ble_eq_true rfl) [1, 0] rfl ?_
  exact l_X10_putAside_2 X hr hlk hnm _ _ _ hf
theorem dX10_bringBack_0 : decode cX10_bringBack 0 = .ok (.iconst 0, 1) := dk_3 (by decide +kernel)
theorem dX10_bringBack_1 : decode cX10_bringBack 1 = .ok (.istore_n 1, 1) := dk_60 (by decide +kernel)
theorem dX10_bringBack_2 : decode cX10_bringBack 2 = .ok (.iload_n 1, 1) := dk_27 (by decide +kernel)
theorem dX10_bringBack_3 : decode cX10_bringBack 3 = .ok (.sipush 10465, 3) := dk_17 (x := 40) (y := 225) (by decide +kernel) rfl
theorem dX10_bringBack_6 : decode cX10_bringBack 6 = .ok (.if_icmp .ge 21, 3) := dk_162 (x := 0) (y := 21) (by decide +kernel) rfl
theorem dX10_bringBack_9 : decode cX10_bringBack 9 = .ok (.aload_n 0, 1) := dk_42 (by decide +kernel)
theorem dX10_bringBack_10 : decode cX10_bringBack 10 = .ok (.getfield 7, 3) := dk_180 (x := 0) (y := 7) (by decide +kernel) rfl
theorem dX10_bringBack_13 : decode cX10_bringBack 13 = .ok (.iload_n 1, 1) := dk_27 (by decide +kernel)
theorem dX10_bringBack_14 : decode cX10_bringBack 14 = .ok (.aload_n 0, 1) := dk_42 (by decide +kernel)
theorem dX10_bringBack_15 : decode cX10_bringBack 15 = .ok (.getfield 25, 3) := dk_180 (x := 0) (y := 25) (by decide +kernel) rfl
theorem dX10_bringBack_18 : decode cX10_bringBack 18 = .ok (.iload_n 1, 1) := dk_27 (by decide +kernel)
theorem dX10_bringBack_19 : decode cX10_bringBack 19 = .ok (.iaload, 1) := dk_46 (by decide +kernel)
theorem dX10_bringBack_20 : decode cX10_bringBack 20 = .ok (.iastore, 1) := dk_79 (by decide +kernel)
theorem dX10_bringBack_21 : decode cX10_bringBack 21 = .ok (.iinc 1 1, 3) := dk_132 (x := 1) (y := 1) (by decide +kernel) rfl
theorem dX10_bringBack_24 : decode cX10_bringBack 24 = .ok (.goto (-22), 3) := dk_167 (x := 255) (y := 234) (by decide +kernel) rfl
theorem dX10_bringBack_27 : decode cX10_bringBack 27 = .ok (.return_, 1) := dk_177 (by decide +kernel)
def f_X10_bringBack_2 : Nat → Nat → Int32 → Mem → Option Mem
  | 0, _, _, _ => none
  | n + 1, v0, v1, M =>
    if (10465 : Int32) ≤ v1 then (
      some M
      ) else (
      chk (isO M 10 v0) <|
      bnd (mR M v0 0) fun o4 =>
      chk (isO M 100 o4) <|
      bnd (mR M v0 9) fun o7 =>
      chk (isO M 100 o7) <|
      chk (inB v1 (mLn M o7)) <|
      chk (inB v1 (mLn M o4)) <|
      bnd (sI M o4 (v1).toNatClampNeg (mI M o7 (v1).toNatClampNeg)) fun M12 =>
      bnd (v1 + (1 : Int32)) fun x17 =>
      f_X10_bringBack_2 n v0 x17 M12
      )
def f_X10_bringBack (n : Nat) (o : Nat) (M : Mem) : Option Mem :=
  f_X10_bringBack_2 n o (0 : Int32) M
theorem cd_X10_bringBack : (yX10_bringBack.cls ≠ "java/lang/invoke/MethodHandle" ∧ yX10_bringBack.cls ≠ "java/lang/invoke/VarHandle") ∧ (parseMethodDescriptor yX10_bringBack.desc).map (fun d => d.parameters.length) = some 0 := ⟨⟨by decide +kernel, by decide +kernel⟩, by decide +kernel⟩
section
variable {p : Program} {l : Launch} {e : Env} {R : Room} {s : State} {m : MethodId} {args : Array Value} {below : List Frame} {meth : Method} {c : Code} {G : Gam} {M0 : Mem}
theorem l_X10_bringBack_2 {rv : Mem} (X : Cx p R s m args c G M0 cX10_bringBack yX10_bringBack.cls 2 0 0) (hr : meth.sig.returnType = none) (hlk : meth.locks = false) (hnm : meth.name = "bringBack") : ∀ {n : Nat} (v0 : Nat) (v1 : Int32) (M : Mem), f_X10_bringBack_2 n v0 v1 M = some rv → Sg p l e R s m args below meth c (Qm below G args s none M0 rv) G M0 2 2 [(0, .ref (gB G + v0)), (1, .int v1)] [] M := by
  intro n
  induction n with
  | zero => intro v0 v1 M hf; exact (pk_none hf).elim
  | succ n ih =>
    intro v0 v1 M hf
    rw [f_X10_bringBack_2] at hf
    refine s_iload_n X 1 dX10_bringBack_2 rfl rfl ?_
    refine s_sipush X (v := (10465 : Int32)) dX10_bringBack_3 rfl ?_
    have hs1 := pk_ite hf
    clear hf
    refine s_icmp_ge X (tgt := 27) dX10_bringBack_6 rfl (fun c2 => ?_) (fun c2 => ?_)
    · have hf := hs1.1 c2
      cases hf
      exact s_vret X hr hlk dX10_bringBack_27
    · have hf := hs1.2 c2
      refine s_aload_n X 0 dX10_bringBack_9 rfl rfl ?_
      obtain ⟨h3, hf⟩ := pk_chk hf
      obtain ⟨o4, e5, hf⟩ := pk_bnd hf
      obtain ⟨h6, hf⟩ := pk_chk hf
      refine s_getR X (ci := 10) (k := 0) rfl (Nat.le_of_ble_eq_true rfl) h3 wd1440 (fun _ _ _ => rfl) (e5 ▸ h6) dX10_bringBack_10 (e5 ▸ ?_)
      refine s_iload_n X 1 dX10_bringBack_13 rfl rfl ?_
      refine s_aload_n X 0 dX10_bringBack_14 rfl rfl ?_
      obtain ⟨o7, e8, hf⟩ := pk_bnd hf
      obtain ⟨h9, hf⟩ := pk_chk hf
      refine s_getR X (ci := 10) (k := 9) rfl (Nat.le_of_ble_eq_true rfl) h3 wd1449 (fun _ _ _ => rfl) (e8 ▸ h9) dX10_bringBack_15 (e8 ▸ ?_)
      refine s_iload_n X 1 dX10_bringBack_18 rfl rfl ?_
      obtain ⟨h10, hf⟩ := pk_chk hf
      refine s_iald X h9 h10 dX10_bringBack_19 ?_
      obtain ⟨h11, hf⟩ := pk_chk hf
      obtain ⟨M12, e13, hf⟩ := pk_bnd hf
      refine s_iast X h6 h11 e13 dX10_bringBack_20 ?_
      have h14 := io_sI e13 h3
      have h15 := io_sI e13 h6
      have h16 := io_sI e13 h9
      obtain ⟨x17, e18, hf⟩ := pk_bnd hf
      refine s_iinc X (vs' := [(0, .ref (gB G + v0)), (1, .int x17)]) 1 dX10_bringBack_21 rfl (v := x17) e18.symm (Nat.le_of_ble_eq_true rfl) [1, 0] rfl ?_
      refine s_goto X (tgt := 2) dX10_bringBack_24 rfl ?_
      exact ih _ _ _ hf
end
theorem k_X10_bringBack (G : Gam) {n : Nat} {o : Nat} {M : Mem} {rv : Mem} (hf : f_X10_bringBack n o M = some rv) : Kt yX10_bringBack cX10_bringBack 2 none 0 0 G [.ref (gB G + o)] M rv none := by
  refine Kt.of (by decide) (Nat.le_of_ble_eq_true rfl) ?_
  intro p l e R s m args below meth c X hr hlk hnm
  refine s_drop [0] (vs' := [(0, .ref (gB G + o))]) rfl ?_
  rw [f_X10_bringBack] at hf
  refine s_iconst X (v := (0 : Int32)) dX10_bringBack_0 rfl ?_
  refine s_istore_n X (vs' := [(0, .ref (gB G + o)), (1, .int (0 : Int32))]) dX10_bringBack_1 rfl (Nat.le_of_ble_eq_true rfl) [1, 0] rfl ?_
  exact l_X10_bringBack_2 X hr hlk hnm _ _ _ hf
theorem dX10_entersBy_0 : decode cX10_entersBy 0 = .ok (.aload_n 0, 1) := dk_42 (by decide +kernel)
theorem dX10_entersBy_1 : decode cX10_entersBy 1 = .ok (.iload_n 1, 1) := dk_27 (by decide +kernel)
theorem dX10_entersBy_2 : decode cX10_entersBy 2 = .ok (.invokevirtual 76, 3) := dk_182 (x := 0) (y := 76) (by decide +kernel) rfl
theorem dX10_entersBy_5 : decode cX10_entersBy 5 = .ok (.ifCond .eq 7, 3) := dk_153 (x := 0) (y := 7) (by decide +kernel) rfl
theorem dX10_entersBy_8 : decode cX10_entersBy 8 = .ok (.iload_n 2, 1) := dk_28 (by decide +kernel)
theorem dX10_entersBy_9 : decode cX10_entersBy 9 = .ok (.ifCond .ge 5, 3) := dk_156 (x := 0) (y := 5) (by decide +kernel) rfl
theorem dX10_entersBy_12 : decode cX10_entersBy 12 = .ok (.iconst (-1), 1) := dk_2 (by decide +kernel)
theorem dX10_entersBy_13 : decode cX10_entersBy 13 = .ok (.ireturn, 1) := dk_172 (by decide +kernel)
theorem dX10_entersBy_14 : decode cX10_entersBy 14 = .ok (.aload_n 0, 1) := dk_42 (by decide +kernel)
theorem dX10_entersBy_15 : decode cX10_entersBy 15 = .ok (.invokevirtual 320, 3) := dk_182 (x := 1) (y := 64) (by decide +kernel) rfl
theorem dX10_entersBy_18 : decode cX10_entersBy 18 = .ok (.aload_n 0, 1) := dk_42 (by decide +kernel)
theorem dX10_entersBy_19 : decode cX10_entersBy 19 = .ok (.iload_n 2, 1) := dk_28 (by decide +kernel)
theorem dX10_entersBy_20 : decode cX10_entersBy 20 = .ok (.i2l, 1) := dk_133 (by decide +kernel)
theorem dX10_entersBy_21 : decode cX10_entersBy 21 = .ok (.putfield 298, 3) := dk_181 (x := 1) (y := 42) (by decide +kernel) rfl
theorem dX10_entersBy_24 : decode cX10_entersBy 24 = .ok (.iconst 0, 1) := dk_3 (by decide +kernel)
theorem dX10_entersBy_25 : decode cX10_entersBy 25 = .ok (.istore_n 3, 1) := dk_62 (by decide +kernel)
theorem dX10_entersBy_26 : decode cX10_entersBy 26 = .ok (.iload_n 3, 1) := dk_29 (by decide +kernel)
theorem dX10_entersBy_27 : decode cX10_entersBy 27 = .ok (.sipush 500, 3) := dk_17 (x := 1) (y := 244) (by decide +kernel) rfl
theorem dX10_entersBy_30 : decode cX10_entersBy 30 = .ok (.if_icmp .ge 26, 3) := dk_162 (x := 0) (y := 26) (by decide +kernel) rfl
theorem dX10_entersBy_33 : decode cX10_entersBy 33 = .ok (.aload_n 0, 1) := dk_42 (by decide +kernel)
theorem dX10_entersBy_34 : decode cX10_entersBy 34 = .ok (.iload_n 1, 1) := dk_27 (by decide +kernel)
theorem dX10_entersBy_35 : decode cX10_entersBy 35 = .ok (.iconst 0, 1) := dk_3 (by decide +kernel)
theorem dX10_entersBy_36 : decode cX10_entersBy 36 = .ok (.invokevirtual 93, 3) := dk_182 (x := 0) (y := 93) (by decide +kernel) rfl
theorem dX10_entersBy_39 : decode cX10_entersBy 39 = .ok (.iconst 2, 1) := dk_5 (by decide +kernel)
theorem dX10_entersBy_40 : decode cX10_entersBy 40 = .ok (.if_icmp .eq 16, 3) := dk_159 (x := 0) (y := 16) (by decide +kernel) rfl
theorem dX10_entersBy_43 : decode cX10_entersBy 43 = .ok (.aload_n 0, 1) := dk_42 (by decide +kernel)
theorem dX10_entersBy_44 : decode cX10_entersBy 44 = .ok (.invokevirtual 316, 3) := dk_182 (x := 1) (y := 60) (by decide +kernel) rfl
theorem dX10_entersBy_47 : decode cX10_entersBy 47 = .ok (.ifCond .eq 9, 3) := dk_153 (x := 0) (y := 9) (by decide +kernel) rfl
theorem dX10_entersBy_50 : decode cX10_entersBy 50 = .ok (.iinc 3 1, 3) := dk_132 (x := 3) (y := 1) (by decide +kernel) rfl
theorem dX10_entersBy_53 : decode cX10_entersBy 53 = .ok (.goto (-27), 3) := dk_167 (x := 255) (y := 229) (by decide +kernel) rfl
theorem dX10_entersBy_56 : decode cX10_entersBy 56 = .ok (.aload_n 0, 1) := dk_42 (by decide +kernel)
theorem dX10_entersBy_57 : decode cX10_entersBy 57 = .ok (.iload_n 1, 1) := dk_27 (by decide +kernel)
theorem dX10_entersBy_58 : decode cX10_entersBy 58 = .ok (.iconst 0, 1) := dk_3 (by decide +kernel)
theorem dX10_entersBy_59 : decode cX10_entersBy 59 = .ok (.invokevirtual 93, 3) := dk_182 (x := 0) (y := 93) (by decide +kernel) rfl
theorem dX10_entersBy_62 : decode cX10_entersBy 62 = .ok (.iconst 2, 1) := dk_5 (by decide +kernel)
theorem dX10_entersBy_63 : decode cX10_entersBy 63 = .ok (.if_icmp .ne 7, 3) := dk_160 (x := 0) (y := 7) (by decide +kernel) rfl
theorem dX10_entersBy_66 : decode cX10_entersBy 66 = .ok (.iconst 1, 1) := dk_4 (by decide +kernel)
theorem dX10_entersBy_67 : decode cX10_entersBy 67 = .ok (.goto 4, 3) := dk_167 (x := 0) (y := 4) (by decide +kernel) rfl
theorem dX10_entersBy_70 : decode cX10_entersBy 70 = .ok (.iconst 0, 1) := dk_3 (by decide +kernel)
theorem dX10_entersBy_71 : decode cX10_entersBy 71 = .ok (.istore 4, 2) := dk_54 (x := 4) (by decide +kernel)
theorem dX10_entersBy_73 : decode cX10_entersBy 73 = .ok (.aload_n 0, 1) := dk_42 (by decide +kernel)
theorem dX10_entersBy_74 : decode cX10_entersBy 74 = .ok (.invokevirtual 323, 3) := dk_182 (x := 1) (y := 67) (by decide +kernel) rfl
theorem dX10_entersBy_77 : decode cX10_entersBy 77 = .ok (.iload 4, 2) := dk_21 (x := 4) (by decide +kernel)
theorem dX10_entersBy_79 : decode cX10_entersBy 79 = .ok (.ifCond .eq 7, 3) := dk_153 (x := 0) (y := 7) (by decide +kernel) rfl
theorem dX10_entersBy_82 : decode cX10_entersBy 82 = .ok (.iload_n 3, 1) := dk_29 (by decide +kernel)
theorem dX10_entersBy_83 : decode cX10_entersBy 83 = .ok (.goto 4, 3) := dk_167 (x := 0) (y := 4) (by decide +kernel) rfl
theorem dX10_entersBy_86 : decode cX10_entersBy 86 = .ok (.iconst (-1), 1) := dk_2 (by decide +kernel)
theorem dX10_entersBy_87 : decode cX10_entersBy 87 = .ok (.ireturn, 1) := dk_172 (by decide +kernel)
def f_X10_entersBy_71 (n : Nat) (v0 : Nat) (v3 : Int32) (u0 : Int32) (M : Mem) : Option (Int32 × Mem) :=
    chk (isO M 10 v0) <|
    obd (f_X10_bringBack n v0 M) fun M3 =>
    if u0 = 0 then (
      some ((-1 : Int32), M3)
      ) else (
      some (v3, M3)
      )
def f_X10_entersBy_56 (n : Nat) (v0 : Nat) (v1 : Int32) (v3 : Int32) (M : Mem) : Option (Int32 × Mem) :=
    chk (isO M 10 v0) <|
    obd (f_X10_get v0 v1 (0 : Int32) M) fun r3 =>
    if r3 = (2 : Int32) then (
      f_X10_entersBy_71 n v0 v3 (1 : Int32) M
      ) else (
      f_X10_entersBy_71 n v0 v3 (0 : Int32) M
      )
def f_X10_entersBy_26 : Nat → Nat → Int32 → Int32 → Mem → Option (Int32 × Mem)
  | 0, _, _, _, _ => none
  | n + 1, v0, v1, v3, M =>
    if (500 : Int32) ≤ v3 then (
      f_X10_entersBy_56 n v0 v1 v3 M
      ) else (
      chk (isO M 10 v0) <|
      obd (f_X10_get v0 v1 (0 : Int32) M) fun r5 =>
      if r5 = (2 : Int32) then (
        f_X10_entersBy_56 n v0 v1 v3 M
        ) else (
        obd2 (f_X10_goOnce n v0 M) fun r9 M10 =>
        if r9 = 0 then (
          f_X10_entersBy_56 n v0 v1 v3 M10
          ) else (
          bnd (v3 + (1 : Int32)) fun x13 =>
          f_X10_entersBy_26 n v0 v1 x13 M10
          )
        )
      )
def f_X10_entersBy (n : Nat) (o : Nat) (a1 : Int32) (a2 : Int32) (M : Mem) : Option (Int32 × Mem) :=
  chk (isO M 10 o) <|
  obd (f_X10_isNode o a1 M) fun r3 =>
  if r3 = 0 then (
    some ((-1 : Int32), M)
    ) else (
    if 0 ≤ a2 then (
      obd (f_X10_putAside n o M) fun M9 =>
      chk (isO M9 10 o) <|
      bnd (sL M9 o 8 ((a2).toInt64)) fun M11 =>
      f_X10_entersBy_26 n o a1 (0 : Int32) M11
      ) else (
      some ((-1 : Int32), M)
      )
    )
theorem cd_X10_entersBy : (yX10_entersBy.cls ≠ "java/lang/invoke/MethodHandle" ∧ yX10_entersBy.cls ≠ "java/lang/invoke/VarHandle") ∧ (parseMethodDescriptor yX10_entersBy.desc).map (fun d => d.parameters.length) = some 2 := ⟨⟨by decide +kernel, by decide +kernel⟩, by decide +kernel⟩
section
variable {p : Program} {l : Launch} {e : Env} {R : Room} {s : State} {m : MethodId} {args : Array Value} {below : List Frame} {meth : Method} {c : Code} {G : Gam} {M0 : Mem}
theorem l_X10_entersBy_71 {rv : (Int32 × Mem)} {n : Nat} {v0 : Nat} {v3 : Int32} {u0 : Int32} {M : Mem} (X : Cx p R s m args c G M0 cX10_entersBy yX10_entersBy.cls 5 9 207) (hr : meth.sig.returnType = (some .int)) (hlk : meth.locks = false) (hnm : meth.name = "entersBy") (hf : f_X10_entersBy_71 n v0 v3 u0 M = some rv) : Sg p l e R s m args below meth c (Qm below G args s (some (.int rv.1)) M0 rv.2) G M0 5 71 [(0, .ref (gB G + v0)), (3, .int v3)] [.int u0] M := by
  rw [f_X10_entersBy_71] at hf
  refine s_istore X (vs' := [(0, .ref (gB G + v0)), (3, .int v3), (4, .int u0)]) dX10_entersBy_71 (Nat.le_of_ble_eq_true rfl) [1, 2, 0] rfl ?_
  refine s_aload_n X 0 dX10_entersBy_73 rfl rfl ?_
  obtain ⟨h1, hf⟩ := pk_chk hf
  obtain ⟨M3, hc2, hf⟩ := pk_obd hf
  refine s_callV X (ci := 10) (k_X10_bringBack G hc2) rfl h1 wd1966 wd1968 wd112 wd1969 wd138 cd_X10_bringBack ⟨Nat.le_of_ble_eq_true rfl, Nat.le_of_ble_eq_true rfl⟩ (Nat.le_of_ble_eq_true rfl) dX10_entersBy_74 ?_
  refine s_iload X 2 dX10_entersBy_77 rfl ?_
  have hs4 := pk_ite hf
  clear hf
  refine s_if_eq X (tgt := 86) dX10_entersBy_79 rfl (fun c5 => ?_) (fun c5 => ?_)
  · have hf := hs4.1 c5
    refine s_iconst X (v := (-1 : Int32)) dX10_entersBy_86 rfl ?_
    cases hf
    exact s_iret X hr hlk dX10_entersBy_87
  · have hf := hs4.2 c5
    refine s_iload_n X 1 dX10_entersBy_82 rfl rfl ?_
    refine s_goto X (tgt := 87) dX10_entersBy_83 rfl ?_
    cases hf
    exact s_iret X hr hlk dX10_entersBy_87
theorem l_X10_entersBy_56 {rv : (Int32 × Mem)} {n : Nat} {v0 : Nat} {v1 : Int32} {v3 : Int32} {M : Mem} (X : Cx p R s m args c G M0 cX10_entersBy yX10_entersBy.cls 5 9 207) (hr : meth.sig.returnType = (some .int)) (hlk : meth.locks = false) (hnm : meth.name = "entersBy") (hf : f_X10_entersBy_56 n v0 v1 v3 M = some rv) : Sg p l e R s m args below meth c (Qm below G args s (some (.int rv.1)) M0 rv.2) G M0 5 56 [(0, .ref (gB G + v0)), (1, .int v1), (3, .int v3)] [] M := by
  rw [f_X10_entersBy_56] at hf
  refine s_aload_n X 0 dX10_entersBy_56 rfl rfl ?_
  refine s_iload_n X 1 dX10_entersBy_57 rfl rfl ?_
  refine s_iconst X (v := (0 : Int32)) dX10_entersBy_58 rfl ?_
  obtain ⟨h1, hf⟩ := pk_chk hf
  obtain ⟨r3, hc2, hf⟩ := pk_obd hf
  refine s_callV X (ci := 10) (k_X10_get G hc2) rfl h1 wd1588 wd1590 wd57 wd1591 wd138 cd_X10_get ⟨Nat.le_of_ble_eq_true rfl, Nat.le_of_ble_eq_true rfl⟩ (Nat.le_of_ble_eq_true rfl) dX10_entersBy_59 ?_
  refine s_iconst X (v := (2 : Int32)) dX10_entersBy_62 rfl ?_
  have hs4 := pk_ite hf
  clear hf
  refine s_icmp_ne X (tgt := 70) dX10_entersBy_63 rfl (fun c5 => ?_) (fun c5 => ?_)
  · have hf := hs4.2 c5
    refine s_iconst X (v := (0 : Int32)) dX10_entersBy_70 rfl ?_
    refine s_drop [0, 2] (vs' := [(0, .ref (gB G + v0)), (3, .int v3)]) rfl ?_
    exact l_X10_entersBy_71 X hr hlk hnm hf
  · have hf := hs4.1 c5
    refine s_iconst X (v := (1 : Int32)) dX10_entersBy_66 rfl ?_
    refine s_goto X (tgt := 71) dX10_entersBy_67 rfl ?_
    refine s_drop [0, 2] (vs' := [(0, .ref (gB G + v0)), (3, .int v3)]) rfl ?_
    exact l_X10_entersBy_71 X hr hlk hnm hf
theorem l_X10_entersBy_26 {rv : (Int32 × Mem)} (X : Cx p R s m args c G M0 cX10_entersBy yX10_entersBy.cls 5 9 207) (hr : meth.sig.returnType = (some .int)) (hlk : meth.locks = false) (hnm : meth.name = "entersBy") : ∀ {n : Nat} (v0 : Nat) (v1 : Int32) (v3 : Int32) (M : Mem), f_X10_entersBy_26 n v0 v1 v3 M = some rv → Sg p l e R s m args below meth c (Qm below G args s (some (.int rv.1)) M0 rv.2) G M0 5 26 [(0, .ref (gB G + v0)), (1, .int v1), (3, .int v3)] [] M := by
  intro n
  induction n with
  | zero => intro v0 v1 v3 M hf; exact (pk_none hf).elim
  | succ n ih =>
    intro v0 v1 v3 M hf
    rw [f_X10_entersBy_26] at hf
    refine s_iload_n X 2 dX10_entersBy_26 rfl rfl ?_
    refine s_sipush X (v := (500 : Int32)) dX10_entersBy_27 rfl ?_
    have hs1 := pk_ite hf
    clear hf
    refine s_icmp_ge X (tgt := 56) dX10_entersBy_30 rfl (fun c2 => ?_) (fun c2 => ?_)
    · have hf := hs1.1 c2
      exact l_X10_entersBy_56 X hr hlk hnm hf
    · have hf := hs1.2 c2
      refine s_aload_n X 0 dX10_entersBy_33 rfl rfl ?_
      refine s_iload_n X 1 dX10_entersBy_34 rfl rfl ?_
      refine s_iconst X (v := (0 : Int32)) dX10_entersBy_35 rfl ?_
      obtain ⟨h3, hf⟩ := pk_chk hf
      obtain ⟨r5, hc4, hf⟩ := pk_obd hf
      refine s_callV X (ci := 10) (k_X10_get G hc4) rfl h3 wd1588 wd1590 wd57 wd1591 wd138 cd_X10_get ⟨Nat.le_of_ble_eq_true rfl, Nat.le_of_ble_eq_true rfl⟩ (Nat.le_of_ble_eq_true rfl) dX10_entersBy_36 ?_
      refine s_iconst X (v := (2 : Int32)) dX10_entersBy_39 rfl ?_
      have hs6 := pk_ite hf
      clear hf
      refine s_icmp_eq X (tgt := 56) dX10_entersBy_40 rfl (fun c7 => ?_) (fun c7 => ?_)
      · have hf := hs6.1 c7
        exact l_X10_entersBy_56 X hr hlk hnm hf
      · have hf := hs6.2 c7
        refine s_aload_n X 0 dX10_entersBy_43 rfl rfl ?_
        obtain ⟨r9, M10, hc8, hf⟩ := pk_obd2 hf
        refine s_callV X (ci := 10) (k_X10_goOnce G hc8) rfl h3 wd1938 wd1940 wd107 wd1941 wd138 cd_X10_goOnce ⟨Nat.le_of_ble_eq_true rfl, Nat.le_of_ble_eq_true rfl⟩ (Nat.le_of_ble_eq_true rfl) dX10_entersBy_44 ?_
        have hs11 := pk_ite hf
        clear hf
        refine s_if_eq X (tgt := 56) dX10_entersBy_47 rfl (fun c12 => ?_) (fun c12 => ?_)
        · have hf := hs11.1 c12
          exact l_X10_entersBy_56 X hr hlk hnm hf
        · have hf := hs11.2 c12
          obtain ⟨x13, e14, hf⟩ := pk_bnd hf
          refine s_iinc X (vs' := [(0, .ref (gB G + v0)), (1, .int v1), (3, .int x13)]) 2 dX10_entersBy_50 rfl (v := x13) e14.symm (Nat.le_of_ble_eq_true rfl) [1, 2, 0] rfl ?_
          refine s_goto X (tgt := 26) dX10_entersBy_53 rfl ?_
          exact ih _ _ _ _ hf
end
theorem k_X10_entersBy (G : Gam) {n : Nat} {o : Nat} {a1 : Int32} {a2 : Int32} {M : Mem} {rv : (Int32 × Mem)} (hf : f_X10_entersBy n o a1 a2 M = some rv) : Kt yX10_entersBy cX10_entersBy 5 (some .int) 9 207 G [.ref (gB G + o), .int a1, .int a2] M rv.2 (some (.int rv.1)) := by
  refine Kt.of (by decide) (Nat.le_of_ble_eq_true rfl) ?_
  intro p l e R s m args below meth c X hr hlk hnm
  refine s_drop [0, 1, 2] (vs' := [(0, .ref (gB G + o)), (1, .int a1), (2, .int a2)]) rfl ?_
  rw [f_X10_entersBy] at hf
  refine s_aload_n X 0 dX10_entersBy_0 rfl rfl ?_
  refine s_iload_n X 1 dX10_entersBy_1 rfl rfl ?_
  obtain ⟨h1, hf⟩ := pk_chk hf
  obtain ⟨r3, hc2, hf⟩ := pk_obd hf
  refine s_callV X (ci := 10) (k_X10_isNode G hc2) rfl h1 wd1554 wd1556 wd53 wd1557 wd138 cd_X10_isNode ⟨Nat.le_of_ble_eq_true rfl, Nat.le_of_ble_eq_true rfl⟩ (Nat.le_of_ble_eq_true rfl) dX10_entersBy_2 ?_
  have hs4 := pk_ite hf
  clear hf
  refine s_if_eq X (tgt := 12) dX10_entersBy_5 rfl (fun c5 => ?_) (fun c5 => ?_)
  · have hf := hs4.1 c5
    refine s_iconst X (v := (-1 : Int32)) dX10_entersBy_12 rfl ?_
    cases hf
    exact s_iret X hr hlk dX10_entersBy_13
  · have hf := hs4.2 c5
    refine s_iload_n X 2 dX10_entersBy_8 rfl rfl ?_
    have hs6 := pk_ite hf
    clear hf
    refine s_if_ge X (tgt := 14) dX10_entersBy_9 rfl (fun c7 => ?_) (fun c7 => ?_)
    · have hf := hs6.1 c7
      refine s_aload_n X 0 dX10_entersBy_14 rfl rfl ?_
      obtain ⟨M9, hc8, hf⟩ := pk_obd hf
      refine s_callV X (ci := 10) (k_X10_putAside G hc8) rfl h1 wd1962 wd1964 wd111 wd1965 wd138 cd_X10_putAside ⟨Nat.le_of_ble_eq_true rfl, Nat.le_of_ble_eq_true rfl⟩ (Nat.le_of_ble_eq_true rfl) dX10_entersBy_15 ?_
      refine s_aload_n X 0 dX10_entersBy_18 rfl rfl ?_
      refine s_iload_n X 2 dX10_entersBy_19 rfl rfl ?_
      refine s_i2l X dX10_entersBy_20 ?_
      obtain ⟨h10, hf⟩ := pk_chk hf
      obtain ⟨M11, e12, hf⟩ := pk_bnd hf
      refine s_putL X (ci := 10) (k := 8) rfl (Nat.le_of_ble_eq_true rfl) h10 wd1448 (fun _ _ _ => rfl) rfl rfl e12 dX10_entersBy_21 ?_
      have h13 := io_sL e12 h10
      refine s_iconst X (v := (0 : Int32)) dX10_entersBy_24 rfl ?_
      refine s_istore_n X (vs' := [(0, .ref (gB G + o)), (1, .int a1), (2, .int a2), (3, .int (0 : Int32))]) dX10_entersBy_25 rfl (Nat.le_of_ble_eq_true rfl) [1, 2, 3, 0] rfl ?_
      refine s_drop [0, 1, 3] (vs' := [(0, .ref (gB G + o)), (1, .int a1), (3, .int (0 : Int32))]) rfl ?_
      exact l_X10_entersBy_26 X hr hlk hnm _ _ _ _ hf
    · have hf := hs6.2 c7
      refine s_iconst X (v := (-1 : Int32)) dX10_entersBy_12 rfl ?_
      cases hf
      exact s_iret X hr hlk dX10_entersBy_13
theorem dX6_begin_0 : decode cX6_begin 0 = .ok (.aload_n 0, 1) := dk_42 (by decide +kernel)
theorem dX6_begin_1 : decode cX6_begin 1 = .ok (.getfield 27, 3) := dk_180 (x := 0) (y := 27) (by decide +kernel) rfl
theorem dX6_begin_4 : decode cX6_begin 4 = .ok (.aload_n 1, 1) := dk_43 (by decide +kernel)
theorem dX6_begin_5 : decode cX6_begin 5 = .ok (.invokevirtual 75, 3) := dk_182 (x := 0) (y := 75) (by decide +kernel) rfl
theorem dX6_begin_8 : decode cX6_begin 8 = .ok (.iconst 0, 1) := dk_3 (by decide +kernel)
theorem dX6_begin_9 : decode cX6_begin 9 = .ok (.istore 4, 2) := dk_54 (x := 4) (by decide +kernel)
theorem dX6_begin_11 : decode cX6_begin 11 = .ok (.iload 4, 2) := dk_21 (x := 4) (by decide +kernel)
theorem dX6_begin_13 : decode cX6_begin 13 = .ok (.bipush 16, 2) := dk_16 (x := 16) (by decide +kernel) rfl
theorem dX6_begin_15 : decode cX6_begin 15 = .ok (.if_icmp .ge 26, 3) := dk_162 (x := 0) (y := 26) (by decide +kernel) rfl
theorem dX6_begin_18 : decode cX6_begin 18 = .ok (.aload_n 0, 1) := dk_42 (by decide +kernel)
theorem dX6_begin_19 : decode cX6_begin 19 = .ok (.getfield 21, 3) := dk_180 (x := 0) (y := 21) (by decide +kernel) rfl
theorem dX6_begin_22 : decode cX6_begin 22 = .ok (.iload 4, 2) := dk_21 (x := 4) (by decide +kernel)
theorem dX6_begin_24 : decode cX6_begin 24 = .ok (.aload_n 1, 1) := dk_43 (by decide +kernel)
theorem dX6_begin_25 : decode cX6_begin 25 = .ok (.getfield 79, 3) := dk_180 (x := 0) (y := 79) (by decide +kernel) rfl
theorem dX6_begin_28 : decode cX6_begin 28 = .ok (.iload 4, 2) := dk_21 (x := 4) (by decide +kernel)
theorem dX6_begin_30 : decode cX6_begin 30 = .ok (.aaload, 1) := dk_50 (by decide +kernel)
theorem dX6_begin_31 : decode cX6_begin 31 = .ok (.getfield 83, 3) := dk_180 (x := 0) (y := 83) (by decide +kernel) rfl
theorem dX6_begin_34 : decode cX6_begin 34 = .ok (.iastore, 1) := dk_79 (by decide +kernel)
theorem dX6_begin_35 : decode cX6_begin 35 = .ok (.iinc 4 1, 3) := dk_132 (x := 4) (y := 1) (by decide +kernel) rfl
theorem dX6_begin_38 : decode cX6_begin 38 = .ok (.goto (-27), 3) := dk_167 (x := 255) (y := 229) (by decide +kernel) rfl
theorem dX6_begin_41 : decode cX6_begin 41 = .ok (.aload_n 0, 1) := dk_42 (by decide +kernel)
theorem dX6_begin_42 : decode cX6_begin 42 = .ok (.iload_n 2, 1) := dk_28 (by decide +kernel)
theorem dX6_begin_43 : decode cX6_begin 43 = .ok (.putfield 88, 3) := dk_181 (x := 0) (y := 88) (by decide +kernel) rfl
theorem dX6_begin_46 : decode cX6_begin 46 = .ok (.aload_n 0, 1) := dk_42 (by decide +kernel)
theorem dX6_begin_47 : decode cX6_begin 47 = .ok (.iload_n 3, 1) := dk_29 (by decide +kernel)
theorem dX6_begin_48 : decode cX6_begin 48 = .ok (.bipush 40, 2) := dk_16 (x := 40) (by decide +kernel) rfl
theorem dX6_begin_50 : decode cX6_begin 50 = .ok (.invokestatic 91, 3) := dk_184 (x := 0) (y := 91) (by decide +kernel) rfl
theorem dX6_begin_53 : decode cX6_begin 53 = .ok (.putfield 96, 3) := dk_181 (x := 0) (y := 96) (by decide +kernel) rfl
theorem dX6_begin_56 : decode cX6_begin 56 = .ok (.aload_n 0, 1) := dk_42 (by decide +kernel)
theorem dX6_begin_57 : decode cX6_begin 57 = .ok (.iconst 0, 1) := dk_3 (by decide +kernel)
theorem dX6_begin_58 : decode cX6_begin 58 = .ok (.putfield 39, 3) := dk_181 (x := 0) (y := 39) (by decide +kernel) rfl
theorem dX6_begin_61 : decode cX6_begin 61 = .ok (.aload_n 0, 1) := dk_42 (by decide +kernel)
theorem dX6_begin_62 : decode cX6_begin 62 = .ok (.iconst 0, 1) := dk_3 (by decide +kernel)
theorem dX6_begin_63 : decode cX6_begin 63 = .ok (.putfield 99, 3) := dk_181 (x := 0) (y := 99) (by decide +kernel) rfl
theorem dX6_begin_66 : decode cX6_begin 66 = .ok (.aload_n 0, 1) := dk_42 (by decide +kernel)
theorem dX6_begin_67 : decode cX6_begin 67 = .ok (.iconst 0, 1) := dk_3 (by decide +kernel)
theorem dX6_begin_68 : decode cX6_begin 68 = .ok (.putfield 102, 3) := dk_181 (x := 0) (y := 102) (by decide +kernel) rfl
theorem dX6_begin_71 : decode cX6_begin 71 = .ok (.aload_n 0, 1) := dk_42 (by decide +kernel)
theorem dX6_begin_72 : decode cX6_begin 72 = .ok (.iconst 0, 1) := dk_3 (by decide +kernel)
theorem dX6_begin_73 : decode cX6_begin 73 = .ok (.putfield 105, 3) := dk_181 (x := 0) (y := 105) (by decide +kernel) rfl
theorem dX6_begin_76 : decode cX6_begin 76 = .ok (.aload_n 0, 1) := dk_42 (by decide +kernel)
theorem dX6_begin_77 : decode cX6_begin 77 = .ok (.iconst 0, 1) := dk_3 (by decide +kernel)
theorem dX6_begin_78 : decode cX6_begin 78 = .ok (.putfield 108, 3) := dk_181 (x := 0) (y := 108) (by decide +kernel) rfl
theorem dX6_begin_81 : decode cX6_begin 81 = .ok (.aload_n 0, 1) := dk_42 (by decide +kernel)
theorem dX6_begin_82 : decode cX6_begin 82 = .ok (.iconst 0, 1) := dk_3 (by decide +kernel)
theorem dX6_begin_83 : decode cX6_begin 83 = .ok (.putfield 43, 3) := dk_181 (x := 0) (y := 43) (by decide +kernel) rfl
theorem dX6_begin_86 : decode cX6_begin 86 = .ok (.return_, 1) := dk_177 (by decide +kernel)
def f_X6_begin_11 : Nat → Nat → Nat → Int32 → Int32 → Int32 → Mem → Option Mem
  | 0, _, _, _, _, _, _ => none
  | n + 1, v0, v1, v2, v3, v4, M =>
    if (16 : Int32) ≤ v4 then (
      chk (isO M 6 v0) <|
      bnd (sI M v0 9 v2) fun M4 =>
      bnd (sI M4 v0 8 (if (40 : Int32) < v3 then (40 : Int32) else v3)) fun M7 =>
      bnd (sI M7 v0 10 (0 : Int32)) fun M10 =>
      bnd (sI M10 v0 11 (0 : Int32)) fun M13 =>
      bnd (sI M13 v0 12 (0 : Int32)) fun M16 =>
      bnd (sI M16 v0 13 (0 : Int32)) fun M19 =>
      bnd (sI M19 v0 14 (0 : Int32)) fun M22 =>
      chk (bz (0 : Int32)) <|
      bnd (sI M22 v0 15 (0 : Int32)) fun M25 =>
      some M25
      ) else (
      chk (isO M 6 v0) <|
      bnd (mR M v0 4) fun o30 =>
      chk (isO M 100 o30) <|
      chk (isO M 2 v1) <|
      bnd (mR M v1 2) fun o34 =>
      chk (isO M 102 o34) <|
      chk (inB v4 (mLn M o34)) <|
      bnd (mR M o34 (v4).toNatClampNeg) fun o38 =>
      chk (isO M 4 o38) <|
      chk (inB v4 (mLn M o30)) <|
      bnd (sI M o30 (v4).toNatClampNeg (mI M o38 1)) fun M42 =>
      bnd (v4 + (1 : Int32)) fun x49 =>
      f_X6_begin_11 n v0 v1 v2 v3 x49 M42
      )
def f_X6_begin (n : Nat) (o : Nat) (a1 : Nat) (a2 : Int32) (a3 : Int32) (M : Mem) : Option Mem :=
  chk (isO M 6 o) <|
  bnd (mR M o 0) fun o2 =>
  chk (isO M 2 o2) <|
  obd (f_X2_copyFrom n o2 a1 M) fun M6 =>
  f_X6_begin_11 n o a1 a2 a3 (0 : Int32) M6
theorem cd_X6_begin : (yX6_begin.cls ≠ "java/lang/invoke/MethodHandle" ∧ yX6_begin.cls ≠ "java/lang/invoke/VarHandle") ∧ (parseMethodDescriptor yX6_begin.desc).map (fun d => d.parameters.length) = some 3 := ⟨⟨by decide +kernel, by decide +kernel⟩, by decide +kernel⟩
section
variable {p : Program} {l : Launch} {e : Env} {R : Room} {s : State} {m : MethodId} {args : Array Value} {below : List Frame} {meth : Method} {c : Code} {G : Gam} {M0 : Mem}
theorem l_X6_begin_11 {rv : Mem} (X : Cx p R s m args c G M0 cX6_begin yX6_begin.cls 5 3 71) (hr : meth.sig.returnType = none) (hlk : meth.locks = false) (hnm : meth.name = "begin") : ∀ {n : Nat} (v0 : Nat) (v1 : Nat) (v2 : Int32) (v3 : Int32) (v4 : Int32) (M : Mem), f_X6_begin_11 n v0 v1 v2 v3 v4 M = some rv → Sg p l e R s m args below meth c (Qm below G args s none M0 rv) G M0 5 11 [(0, .ref (gB G + v0)), (1, .ref (gB G + v1)), (2, .int v2), (3, .int v3), (4, .int v4)] [] M := by
  intro n
  induction n with
  | zero => intro v0 v1 v2 v3 v4 M hf; exact (pk_none hf).elim
  | succ n ih =>
    intro v0 v1 v2 v3 v4 M hf
    rw [f_X6_begin_11] at hf
    refine s_iload X 4 dX6_begin_11 rfl ?_
    refine s_bipush X (v := (16 : Int32)) dX6_begin_13 rfl ?_
    have hs1 := pk_ite hf
    clear hf
    refine s_icmp_ge X (tgt := 41) dX6_begin_15 rfl (fun c2 => ?_) (fun c2 => ?_)
    · have hf := hs1.1 c2
      refine s_aload_n X 0 dX6_begin_41 rfl rfl ?_
      refine s_iload_n X 2 dX6_begin_42 rfl rfl ?_
      obtain ⟨h3, hf⟩ := pk_chk hf
      obtain ⟨M4, e5, hf⟩ := pk_bnd hf
      refine s_putI X (ci := 6) (k := 9) rfl (Nat.le_of_ble_eq_true rfl) h3 wd531 (fun _ _ _ => rfl) rfl rfl e5 dX6_begin_43 ?_
      have h6 := io_sI e5 h3
      refine s_aload_n X 0 dX6_begin_46 rfl rfl ?_
      refine s_iload_n X 3 dX6_begin_47 rfl rfl ?_
      refine s_bipush X (v := (40 : Int32)) dX6_begin_48 rfl ?_
      refine s_mmin X wd1262 wd889 wd142 wd890 ⟨Nat.le_of_ble_eq_true rfl, Nat.le_of_ble_eq_true rfl⟩ dX6_begin_50 ?_
      obtain ⟨M7, e8, hf⟩ := pk_bnd hf
      refine s_putI X (ci := 6) (k := 8) rfl (Nat.le_of_ble_eq_true rfl) h6 wd530 (fun _ _ _ => rfl) rfl rfl e8 dX6_begin_53 ?_
      have h9 := io_sI e8 h6
      refine s_aload_n X 0 dX6_begin_56 rfl rfl ?_
      refine s_iconst X (v := (0 : Int32)) dX6_begin_57 rfl ?_
      obtain ⟨M10, e11, hf⟩ := pk_bnd hf
      refine s_putI X (ci := 6) (k := 10) rfl (Nat.le_of_ble_eq_true rfl) h9 wd532 (fun _ _ _ => rfl) rfl rfl e11 dX6_begin_58 ?_
      have h12 := io_sI e11 h9
      refine s_aload_n X 0 dX6_begin_61 rfl rfl ?_
      refine s_iconst X (v := (0 : Int32)) dX6_begin_62 rfl ?_
      obtain ⟨M13, e14, hf⟩ := pk_bnd hf
      refine s_putI X (ci := 6) (k := 11) rfl (Nat.le_of_ble_eq_true rfl) h12 wd533 (fun _ _ _ => rfl) rfl rfl e14 dX6_begin_63 ?_
      have h15 := io_sI e14 h12
      refine s_aload_n X 0 dX6_begin_66 rfl rfl ?_
      refine s_iconst X (v := (0 : Int32)) dX6_begin_67 rfl ?_
      obtain ⟨M16, e17, hf⟩ := pk_bnd hf
      refine s_putI X (ci := 6) (k := 12) rfl (Nat.le_of_ble_eq_true rfl) h15 wd534 (fun _ _ _ => rfl) rfl rfl e17 dX6_begin_68 ?_
      have h18 := io_sI e17 h15
      refine s_aload_n X 0 dX6_begin_71 rfl rfl ?_
      refine s_iconst X (v := (0 : Int32)) dX6_begin_72 rfl ?_
      obtain ⟨M19, e20, hf⟩ := pk_bnd hf
      refine s_putI X (ci := 6) (k := 13) rfl (Nat.le_of_ble_eq_true rfl) h18 wd535 (fun _ _ _ => rfl) rfl rfl e20 dX6_begin_73 ?_
      have h21 := io_sI e20 h18
      refine s_aload_n X 0 dX6_begin_76 rfl rfl ?_
      refine s_iconst X (v := (0 : Int32)) dX6_begin_77 rfl ?_
      obtain ⟨M22, e23, hf⟩ := pk_bnd hf
      refine s_putI X (ci := 6) (k := 14) rfl (Nat.le_of_ble_eq_true rfl) h21 wd536 (fun _ _ _ => rfl) rfl rfl e23 dX6_begin_78 ?_
      have h24 := io_sI e23 h21
      refine s_aload_n X 0 dX6_begin_81 rfl rfl ?_
      refine s_iconst X (v := (0 : Int32)) dX6_begin_82 rfl ?_
      obtain ⟨h27, hf⟩ := pk_chk hf
      obtain ⟨M25, e26, hf⟩ := pk_bnd hf
      refine s_putZ X (ci := 6) (k := 15) rfl (Nat.le_of_ble_eq_true rfl) h24 wd537 (fun _ _ _ => rfl) rfl (bz_n h27) (bz_f h27) rfl e26 dX6_begin_83 ?_
      have h28 := io_sI e26 h24
      cases hf
      exact s_vret X hr hlk dX6_begin_86
    · have hf := hs1.2 c2
      refine s_aload_n X 0 dX6_begin_18 rfl rfl ?_
      obtain ⟨h29, hf⟩ := pk_chk hf
      obtain ⟨o30, e31, hf⟩ := pk_bnd hf
      obtain ⟨h32, hf⟩ := pk_chk hf
      refine s_getR X (ci := 6) (k := 4) rfl (Nat.le_of_ble_eq_true rfl) h29 wd526 (fun _ _ _ => rfl) (e31 ▸ h32) dX6_begin_19 (e31 ▸ ?_)
      refine s_iload X 4 dX6_begin_22 rfl ?_
      refine s_aload_n X 1 dX6_begin_24 rfl rfl ?_
      obtain ⟨h33, hf⟩ := pk_chk hf
      obtain ⟨o34, e35, hf⟩ := pk_bnd hf
      obtain ⟨h36, hf⟩ := pk_chk hf
      refine s_getR X (ci := 2) (k := 2) rfl (Nat.le_of_ble_eq_true rfl) h33 wd424 (fun _ _ _ => rfl) (e35 ▸ h36) dX6_begin_25 (e35 ▸ ?_)
      refine s_iload X 4 dX6_begin_28 rfl ?_
      obtain ⟨h37, hf⟩ := pk_chk hf
      obtain ⟨o38, e39, hf⟩ := pk_bnd hf
      obtain ⟨h40, hf⟩ := pk_chk hf
      refine s_aald X h36 h37 (e39 ▸ h40) dX6_begin_30 (e39 ▸ ?_)
      refine s_getI X (ci := 4) (k := 1) rfl (Nat.le_of_ble_eq_true rfl) h40 wd330 (fun _ _ _ => rfl) dX6_begin_31 ?_
      obtain ⟨h41, hf⟩ := pk_chk hf
      obtain ⟨M42, e43, hf⟩ := pk_bnd hf
      refine s_iast X h32 h41 e43 dX6_begin_34 ?_
      have h44 := io_sI e43 h29
      have h45 := io_sI e43 h32
      have h46 := io_sI e43 h33
      have h47 := io_sI e43 h36
      have h48 := io_sI e43 h40
      obtain ⟨x49, e50, hf⟩ := pk_bnd hf
      refine s_iinc X (vs' := [(0, .ref (gB G + v0)), (1, .ref (gB G + v1)), (2, .int v2), (3, .int v3), (4, .int x49)]) 4 dX6_begin_35 rfl (v := x49) e50.symm (Nat.le_of_ble_eq_true rfl) [1, 2, 3, 4, 0] rfl ?_
      refine s_goto X (tgt := 11) dX6_begin_38 rfl ?_
      exact ih _ _ _ _ _ _ hf
end
theorem k_X6_begin (G : Gam) {n : Nat} {o : Nat} {a1 : Nat} {a2 : Int32} {a3 : Int32} {M : Mem} {rv : Mem} (hf : f_X6_begin n o a1 a2 a3 M = some rv) : Kt yX6_begin cX6_begin 5 none 3 71 G [.ref (gB G + o), .ref (gB G + a1), .int a2, .int a3] M rv none := by
  refine Kt.of (by decide) (Nat.le_of_ble_eq_true rfl) ?_
  intro p l e R s m args below meth c X hr hlk hnm
  refine s_drop [0, 1, 2, 3] (vs' := [(0, .ref (gB G + o)), (1, .ref (gB G + a1)), (2, .int a2), (3, .int a3)]) rfl ?_
  rw [f_X6_begin] at hf
  refine s_aload_n X 0 dX6_begin_0 rfl rfl ?_
  obtain ⟨h1, hf⟩ := pk_chk hf
  obtain ⟨o2, e3, hf⟩ := pk_bnd hf
  obtain ⟨h4, hf⟩ := pk_chk hf
  refine s_getR X (ci := 6) (k := 0) rfl (Nat.le_of_ble_eq_true rfl) h1 wd522 (fun _ _ _ => rfl) (e3 ▸ h4) dX6_begin_1 (e3 ▸ ?_)
  refine s_aload_n X 1 dX6_begin_4 rfl rfl ?_
  obtain ⟨M6, hc5, hf⟩ := pk_obd hf
  refine s_callV X (ci := 2) (k_X2_copyFrom G hc5) rfl h4 wd1261 wd1236 wd1237 wd1238 wd130 cd_X2_copyFrom ⟨Nat.le_of_ble_eq_true rfl, Nat.le_of_ble_eq_true rfl⟩ (Nat.le_of_ble_eq_true rfl) dX6_begin_5 ?_
  refine s_iconst X (v := (0 : Int32)) dX6_begin_8 rfl ?_
  refine s_istore X (vs' := [(0, .ref (gB G + o)), (1, .ref (gB G + a1)), (2, .int a2), (3, .int a3), (4, .int (0 : Int32))]) dX6_begin_9 (Nat.le_of_ble_eq_true rfl) [1, 2, 3, 4, 0] rfl ?_
  exact l_X6_begin_11 X hr hlk hnm _ _ _ _ _ _ hf
theorem dX6_push_0 : decode cX6_push 0 = .ok (.aload_n 0, 1) := dk_42 (by decide +kernel)
theorem dX6_push_1 : decode cX6_push 1 = .ok (.getfield 153, 3) := dk_180 (x := 0) (y := 153) (by decide +kernel) rfl
theorem dX6_push_4 : decode cX6_push 4 = .ok (.aload_n 0, 1) := dk_42 (by decide +kernel)
theorem dX6_push_5 : decode cX6_push 5 = .ok (.getfield 24, 3) := dk_180 (x := 0) (y := 24) (by decide +kernel) rfl
theorem dX6_push_8 : decode cX6_push 8 = .ok (.arraylength, 1) := dk_190 (by decide +kernel)
theorem dX6_push_9 : decode cX6_push 9 = .ok (.if_icmp .ne 20, 3) := dk_160 (x := 0) (y := 20) (by decide +kernel) rfl
theorem dX6_push_12 : decode cX6_push 12 = .ok (.aload_n 0, 1) := dk_42 (by decide +kernel)
theorem dX6_push_13 : decode cX6_push 13 = .ok (.aload_n 0, 1) := dk_42 (by decide +kernel)
theorem dX6_push_14 : decode cX6_push 14 = .ok (.getfield 24, 3) := dk_180 (x := 0) (y := 24) (by decide +kernel) rfl
theorem dX6_push_17 : decode cX6_push 17 = .ok (.aload_n 0, 1) := dk_42 (by decide +kernel)
theorem dX6_push_18 : decode cX6_push 18 = .ok (.getfield 153, 3) := dk_180 (x := 0) (y := 153) (by decide +kernel) rfl
theorem dX6_push_21 : decode cX6_push 21 = .ok (.iconst 2, 1) := dk_5 (by decide +kernel)
theorem dX6_push_22 : decode cX6_push 22 = .ok (.imul, 1) := dk_104 (by decide +kernel)
theorem dX6_push_23 : decode cX6_push 23 = .ok (.invokestatic 215, 3) := dk_184 (x := 0) (y := 215) (by decide +kernel) rfl
theorem dX6_push_26 : decode cX6_push 26 = .ok (.putfield 24, 3) := dk_181 (x := 0) (y := 24) (by decide +kernel) rfl
theorem dX6_push_29 : decode cX6_push 29 = .ok (.aload_n 0, 1) := dk_42 (by decide +kernel)
theorem dX6_push_30 : decode cX6_push 30 = .ok (.getfield 24, 3) := dk_180 (x := 0) (y := 24) (by decide +kernel) rfl
theorem dX6_push_33 : decode cX6_push 33 = .ok (.aload_n 0, 1) := dk_42 (by decide +kernel)
theorem dX6_push_34 : decode cX6_push 34 = .ok (.getfield 153, 3) := dk_180 (x := 0) (y := 153) (by decide +kernel) rfl
theorem dX6_push_37 : decode cX6_push 37 = .ok (.iload_n 1, 1) := dk_27 (by decide +kernel)
theorem dX6_push_38 : decode cX6_push 38 = .ok (.iastore, 1) := dk_79 (by decide +kernel)
theorem dX6_push_39 : decode cX6_push 39 = .ok (.aload_n 0, 1) := dk_42 (by decide +kernel)
theorem dX6_push_40 : decode cX6_push 40 = .ok (.dup, 1) := dk_89 (by decide +kernel)
theorem dX6_push_41 : decode cX6_push 41 = .ok (.getfield 153, 3) := dk_180 (x := 0) (y := 153) (by decide +kernel) rfl
theorem dX6_push_44 : decode cX6_push 44 = .ok (.iconst 1, 1) := dk_4 (by decide +kernel)
theorem dX6_push_45 : decode cX6_push 45 = .ok (.iadd, 1) := dk_96 (by decide +kernel)
theorem dX6_push_46 : decode cX6_push 46 = .ok (.putfield 153, 3) := dk_181 (x := 0) (y := 153) (by decide +kernel) rfl
theorem dX6_push_49 : decode cX6_push 49 = .ok (.return_, 1) := dk_177 (by decide +kernel)
def f_X6_push (o : Nat) (a1 : Int32) (M : Mem) : Option Mem :=
  chk (isO M 6 o) <|
  bnd (mR M o 5) fun o2 =>
  chk (isO M 100 o2) <|
  if (mI M o 6) = (Int32.ofNat (mLn M o2)) then (
    bnd (mR M o 5) fun o21 =>
    chk (isO M 100 o21) <|
    obd2 (f_J7_copyOf_59c91 o21 ((mI M o 6) * (2 : Int32)) M) fun r25 M26 =>
    chk (isO M26 6 o) <|
    chk (isO M26 100 r25) <|
    bnd (sR M26 o 5 r25) fun M28 =>
    bnd (mR M28 o 5) fun o33 =>
    chk (isO M28 100 o33) <|
    chk (inB (mI M28 o 6) (mLn M28 o33)) <|
    bnd (sI M28 o33 ((mI M28 o 6)).toNatClampNeg a1) fun M37 =>
    bnd (sI M37 o 6 ((mI M37 o 6) + (1 : Int32))) fun M42 =>
    some M42
    ) else (
    bnd (mR M o 5) fun o7 =>
    chk (isO M 100 o7) <|
    chk (inB (mI M o 6) (mLn M o7)) <|
    bnd (sI M o7 ((mI M o 6)).toNatClampNeg a1) fun M11 =>
    bnd (sI M11 o 6 ((mI M11 o 6) + (1 : Int32))) fun M16 =>
    some M16
    )
theorem cd_X6_push : (yX6_push.cls ≠ "java/lang/invoke/MethodHandle" ∧ yX6_push.cls ≠ "java/lang/invoke/VarHandle") ∧ (parseMethodDescriptor yX6_push.desc).map (fun d => d.parameters.length) = some 1 := ⟨⟨by decide +kernel, by decide +kernel⟩, by decide +kernel⟩
theorem k_X6_push (G : Gam) {o : Nat} {a1 : Int32} {M : Mem} {rv : Mem} (hf : f_X6_push o a1 M = some rv) : Kt yX6_push cX6_push 2 none 2 50 G [.ref (gB G + o), .int a1] M rv none := by
  refine Kt.of (by decide) (Nat.le_of_ble_eq_true rfl) ?_
  intro p l e R s m args below meth c X hr hlk hnm
  refine s_drop [0, 1] (vs' := [(0, .ref (gB G + o)), (1, .int a1)]) rfl ?_
  rw [f_X6_push] at hf
  refine s_aload_n X 0 dX6_push_0 rfl rfl ?_
  obtain ⟨h1, hf⟩ := pk_chk hf
  refine s_getI X (ci := 6) (k := 6) rfl (Nat.le_of_ble_eq_true rfl) h1 wd528 (fun _ _ _ => rfl) dX6_push_1 ?_
  refine s_aload_n X 0 dX6_push_4 rfl rfl ?_
  obtain ⟨o2, e3, hf⟩ := pk_bnd hf
  obtain ⟨h4, hf⟩ := pk_chk hf
  refine s_getR X (ci := 6) (k := 5) rfl (Nat.le_of_ble_eq_true rfl) h1 wd527 (fun _ _ _ => rfl) (e3 ▸ h4) dX6_push_5 (e3 ▸ ?_)
  refine s_alen X h4 rfl dX6_push_8 ?_
  have hs5 := pk_ite hf
  clear hf
  refine s_icmp_ne X (tgt := 29) dX6_push_9 rfl (fun c6 => ?_) (fun c6 => ?_)
  · have hf := hs5.2 c6
    refine s_aload_n X 0 dX6_push_29 rfl rfl ?_
    obtain ⟨o7, e8, hf⟩ := pk_bnd hf
    obtain ⟨h9, hf⟩ := pk_chk hf
    refine s_getR X (ci := 6) (k := 5) rfl (Nat.le_of_ble_eq_true rfl) h1 wd527 (fun _ _ _ => rfl) (e8 ▸ h9) dX6_push_30 (e8 ▸ ?_)
    refine s_aload_n X 0 dX6_push_33 rfl rfl ?_
    refine s_getI X (ci := 6) (k := 6) rfl (Nat.le_of_ble_eq_true rfl) h1 wd528 (fun _ _ _ => rfl) dX6_push_34 ?_
    refine s_iload_n X 1 dX6_push_37 rfl rfl ?_
    obtain ⟨h10, hf⟩ := pk_chk hf
    obtain ⟨M11, e12, hf⟩ := pk_bnd hf
    refine s_iast X h9 h10 e12 dX6_push_38 ?_
    have h13 := io_sI e12 h1
    have h14 := io_sI e12 h4
    have h15 := io_sI e12 h9
    refine s_aload_n X 0 dX6_push_39 rfl rfl ?_
    refine s_dup X dX6_push_40 rfl ?_
    refine s_getI X (ci := 6) (k := 6) rfl (Nat.le_of_ble_eq_true rfl) h13 wd528 (fun _ _ _ => rfl) dX6_push_41 ?_
    refine s_iconst X (v := (1 : Int32)) dX6_push_44 rfl ?_
    refine s_iadd X dX6_push_45 ?_
    obtain ⟨M16, e17, hf⟩ := pk_bnd hf
    refine s_putI X (ci := 6) (k := 6) rfl (Nat.le_of_ble_eq_true rfl) h13 wd528 (fun _ _ _ => rfl) rfl rfl e17 dX6_push_46 ?_
    have h18 := io_sI e17 h13
    have h19 := io_sI e17 h14
    have h20 := io_sI e17 h15
    cases hf
    exact s_vret X hr hlk dX6_push_49
  · have hf := hs5.1 c6
    refine s_aload_n X 0 dX6_push_12 rfl rfl ?_
    refine s_aload_n X 0 dX6_push_13 rfl rfl ?_
    obtain ⟨o21, e22, hf⟩ := pk_bnd hf
    obtain ⟨h23, hf⟩ := pk_chk hf
    refine s_getR X (ci := 6) (k := 5) rfl (Nat.le_of_ble_eq_true rfl) h1 wd527 (fun _ _ _ => rfl) (e22 ▸ h23) dX6_push_14 (e22 ▸ ?_)
    refine s_aload_n X 0 dX6_push_17 rfl rfl ?_
    refine s_getI X (ci := 6) (k := 6) rfl (Nat.le_of_ble_eq_true rfl) h1 wd528 (fun _ _ _ => rfl) dX6_push_18 ?_
    refine s_iconst X (v := (2 : Int32)) dX6_push_21 rfl ?_
    refine s_imul X dX6_push_22 ?_
    obtain ⟨r25, M26, hc24, hf⟩ := pk_obd2 hf
    refine s_callS X (k_J7_copyOf_59c91 G hc24) wd1275 wd951 wd952 wd136 cd_J7_copyOf_59c91 ⟨Nat.le_of_ble_eq_true rfl, Nat.le_of_ble_eq_true rfl⟩ (Nat.le_of_ble_eq_true rfl) dX6_push_23 ?_
    obtain ⟨h27, hf⟩ := pk_chk hf
    obtain ⟨h30, hf⟩ := pk_chk hf
    obtain ⟨M28, e29, hf⟩ := pk_bnd hf
    refine s_putR X (ci := 6) (k := 5) rfl (Nat.le_of_ble_eq_true rfl) h27 wd527 (fun _ _ _ => rfl) h30 (fun _ => ⟨rfl, rfl⟩) rfl e29 dX6_push_26 ?_
    have h31 := io_sR e29 h27
    have h32 := io_sR e29 h30
    refine s_aload_n X 0 dX6_push_29 rfl rfl ?_
    obtain ⟨o33, e34, hf⟩ := pk_bnd hf
    obtain ⟨h35, hf⟩ := pk_chk hf
    refine s_getR X (ci := 6) (k := 5) rfl (Nat.le_of_ble_eq_true rfl) h31 wd527 (fun _ _ _ => rfl) (e34 ▸ h35) dX6_push_30 (e34 ▸ ?_)
    refine s_aload_n X 0 dX6_push_33 rfl rfl ?_
    refine s_getI X (ci := 6) (k := 6) rfl (Nat.le_of_ble_eq_true rfl) h31 wd528 (fun _ _ _ => rfl) dX6_push_34 ?_
    refine s_iload_n X 1 dX6_push_37 rfl rfl ?_
    obtain ⟨h36, hf⟩ := pk_chk hf
    obtain ⟨M37, e38, hf⟩ := pk_bnd hf
    refine s_iast X h35 h36 e38 dX6_push_38 ?_
    have h39 := io_sI e38 h31
    have h40 := io_sI e38 h32
    have h41 := io_sI e38 h35
    refine s_aload_n X 0 dX6_push_39 rfl rfl ?_
    refine s_dup X dX6_push_40 rfl ?_
    refine s_getI X (ci := 6) (k := 6) rfl (Nat.le_of_ble_eq_true rfl) h39 wd528 (fun _ _ _ => rfl) dX6_push_41 ?_
    refine s_iconst X (v := (1 : Int32)) dX6_push_44 rfl ?_
    refine s_iadd X dX6_push_45 ?_
    obtain ⟨M42, e43, hf⟩ := pk_bnd hf
    refine s_putI X (ci := 6) (k := 6) rfl (Nat.le_of_ble_eq_true rfl) h39 wd528 (fun _ _ _ => rfl) rfl rfl e43 dX6_push_46 ?_
    have h44 := io_sI e43 h39
    have h45 := io_sI e43 h40
    have h46 := io_sI e43 h41
    cases hf
    exact s_vret X hr hlk dX6_push_49
theorem dX6_savePlace_0 : decode cX6_savePlace 0 = .ok (.aload_n 0, 1) := dk_42 (by decide +kernel)
theorem dX6_savePlace_1 : decode cX6_savePlace 1 = .ok (.aload_n 1, 1) := dk_43 (by decide +kernel)
theorem dX6_savePlace_2 : decode cX6_savePlace 2 = .ok (.getfield 173, 3) := dk_180 (x := 0) (y := 173) (by decide +kernel) rfl
theorem dX6_savePlace_5 : decode cX6_savePlace 5 = .ok (.invokevirtual 159, 3) := dk_182 (x := 0) (y := 159) (by decide +kernel) rfl
theorem dX6_savePlace_8 : decode cX6_savePlace 8 = .ok (.aload_n 0, 1) := dk_42 (by decide +kernel)
theorem dX6_savePlace_9 : decode cX6_savePlace 9 = .ok (.aload_n 1, 1) := dk_43 (by decide +kernel)
theorem dX6_savePlace_10 : decode cX6_savePlace 10 = .ok (.getfield 83, 3) := dk_180 (x := 0) (y := 83) (by decide +kernel) rfl
theorem dX6_savePlace_13 : decode cX6_savePlace 13 = .ok (.invokevirtual 159, 3) := dk_182 (x := 0) (y := 159) (by decide +kernel) rfl
theorem dX6_savePlace_16 : decode cX6_savePlace 16 = .ok (.aload_n 0, 1) := dk_42 (by decide +kernel)
theorem dX6_savePlace_17 : decode cX6_savePlace 17 = .ok (.aload_n 1, 1) := dk_43 (by decide +kernel)
theorem dX6_savePlace_18 : decode cX6_savePlace 18 = .ok (.getfield 176, 3) := dk_180 (x := 0) (y := 176) (by decide +kernel) rfl
theorem dX6_savePlace_21 : decode cX6_savePlace 21 = .ok (.invokevirtual 159, 3) := dk_182 (x := 0) (y := 159) (by decide +kernel) rfl
theorem dX6_savePlace_24 : decode cX6_savePlace 24 = .ok (.aload_n 0, 1) := dk_42 (by decide +kernel)
theorem dX6_savePlace_25 : decode cX6_savePlace 25 = .ok (.aload_n 1, 1) := dk_43 (by decide +kernel)
theorem dX6_savePlace_26 : decode cX6_savePlace 26 = .ok (.getfield 179, 3) := dk_180 (x := 0) (y := 179) (by decide +kernel) rfl
theorem dX6_savePlace_29 : decode cX6_savePlace 29 = .ok (.invokevirtual 159, 3) := dk_182 (x := 0) (y := 159) (by decide +kernel) rfl
theorem dX6_savePlace_32 : decode cX6_savePlace 32 = .ok (.aload_n 0, 1) := dk_42 (by decide +kernel)
theorem dX6_savePlace_33 : decode cX6_savePlace 33 = .ok (.aload_n 1, 1) := dk_43 (by decide +kernel)
theorem dX6_savePlace_34 : decode cX6_savePlace 34 = .ok (.getfield 182, 3) := dk_180 (x := 0) (y := 182) (by decide +kernel) rfl
theorem dX6_savePlace_37 : decode cX6_savePlace 37 = .ok (.invokevirtual 159, 3) := dk_182 (x := 0) (y := 159) (by decide +kernel) rfl
theorem dX6_savePlace_40 : decode cX6_savePlace 40 = .ok (.aload_n 0, 1) := dk_42 (by decide +kernel)
theorem dX6_savePlace_41 : decode cX6_savePlace 41 = .ok (.aload_n 1, 1) := dk_43 (by decide +kernel)
theorem dX6_savePlace_42 : decode cX6_savePlace 42 = .ok (.getfield 185, 3) := dk_180 (x := 0) (y := 185) (by decide +kernel) rfl
theorem dX6_savePlace_45 : decode cX6_savePlace 45 = .ok (.invokevirtual 159, 3) := dk_182 (x := 0) (y := 159) (by decide +kernel) rfl
theorem dX6_savePlace_48 : decode cX6_savePlace 48 = .ok (.aload_n 0, 1) := dk_42 (by decide +kernel)
theorem dX6_savePlace_49 : decode cX6_savePlace 49 = .ok (.aload_n 1, 1) := dk_43 (by decide +kernel)
theorem dX6_savePlace_50 : decode cX6_savePlace 50 = .ok (.getfield 188, 3) := dk_180 (x := 0) (y := 188) (by decide +kernel) rfl
theorem dX6_savePlace_53 : decode cX6_savePlace 53 = .ok (.invokevirtual 159, 3) := dk_182 (x := 0) (y := 159) (by decide +kernel) rfl
theorem dX6_savePlace_56 : decode cX6_savePlace 56 = .ok (.aload_n 0, 1) := dk_42 (by decide +kernel)
theorem dX6_savePlace_57 : decode cX6_savePlace 57 = .ok (.aload_n 1, 1) := dk_43 (by decide +kernel)
theorem dX6_savePlace_58 : decode cX6_savePlace 58 = .ok (.getfield 191, 3) := dk_180 (x := 0) (y := 191) (by decide +kernel) rfl
theorem dX6_savePlace_61 : decode cX6_savePlace 61 = .ok (.invokevirtual 159, 3) := dk_182 (x := 0) (y := 159) (by decide +kernel) rfl
theorem dX6_savePlace_64 : decode cX6_savePlace 64 = .ok (.aload_n 0, 1) := dk_42 (by decide +kernel)
theorem dX6_savePlace_65 : decode cX6_savePlace 65 = .ok (.aload_n 1, 1) := dk_43 (by decide +kernel)
theorem dX6_savePlace_66 : decode cX6_savePlace 66 = .ok (.getfield 194, 3) := dk_180 (x := 0) (y := 194) (by decide +kernel) rfl
theorem dX6_savePlace_69 : decode cX6_savePlace 69 = .ok (.ifCond .eq 7, 3) := dk_153 (x := 0) (y := 7) (by decide +kernel) rfl
theorem dX6_savePlace_72 : decode cX6_savePlace 72 = .ok (.iconst 1, 1) := dk_4 (by decide +kernel)
theorem dX6_savePlace_73 : decode cX6_savePlace 73 = .ok (.goto 4, 3) := dk_167 (x := 0) (y := 4) (by decide +kernel) rfl
theorem dX6_savePlace_76 : decode cX6_savePlace 76 = .ok (.iconst 0, 1) := dk_3 (by decide +kernel)
theorem dX6_savePlace_77 : decode cX6_savePlace 77 = .ok (.invokevirtual 159, 3) := dk_182 (x := 0) (y := 159) (by decide +kernel) rfl
theorem dX6_savePlace_80 : decode cX6_savePlace 80 = .ok (.aload_n 0, 1) := dk_42 (by decide +kernel)
theorem dX6_savePlace_81 : decode cX6_savePlace 81 = .ok (.aload_n 1, 1) := dk_43 (by decide +kernel)
theorem dX6_savePlace_82 : decode cX6_savePlace 82 = .ok (.getfield 197, 3) := dk_180 (x := 0) (y := 197) (by decide +kernel) rfl
theorem dX6_savePlace_85 : decode cX6_savePlace 85 = .ok (.invokevirtual 159, 3) := dk_182 (x := 0) (y := 159) (by decide +kernel) rfl
theorem dX6_savePlace_88 : decode cX6_savePlace 88 = .ok (.iconst 0, 1) := dk_3 (by decide +kernel)
theorem dX6_savePlace_89 : decode cX6_savePlace 89 = .ok (.istore_n 2, 1) := dk_61 (by decide +kernel)
theorem dX6_savePlace_90 : decode cX6_savePlace 90 = .ok (.iload_n 2, 1) := dk_28 (by decide +kernel)
theorem dX6_savePlace_91 : decode cX6_savePlace 91 = .ok (.bipush 16, 2) := dk_16 (x := 16) (by decide +kernel) rfl
theorem dX6_savePlace_93 : decode cX6_savePlace 93 = .ok (.if_icmp .ge 30, 3) := dk_162 (x := 0) (y := 30) (by decide +kernel) rfl
theorem dX6_savePlace_96 : decode cX6_savePlace 96 = .ok (.aload_n 1, 1) := dk_43 (by decide +kernel)
theorem dX6_savePlace_97 : decode cX6_savePlace 97 = .ok (.getfield 197, 3) := dk_180 (x := 0) (y := 197) (by decide +kernel) rfl
theorem dX6_savePlace_100 : decode cX6_savePlace 100 = .ok (.iload_n 2, 1) := dk_28 (by decide +kernel)
theorem dX6_savePlace_101 : decode cX6_savePlace 101 = .ok (.invokestatic 120, 3) := dk_184 (x := 0) (y := 120) (by decide +kernel) rfl
theorem dX6_savePlace_104 : decode cX6_savePlace 104 = .ok (.ifCond .eq 13, 3) := dk_153 (x := 0) (y := 13) (by decide +kernel) rfl
theorem dX6_savePlace_107 : decode cX6_savePlace 107 = .ok (.aload_n 0, 1) := dk_42 (by decide +kernel)
theorem dX6_savePlace_108 : decode cX6_savePlace 108 = .ok (.aload_n 1, 1) := dk_43 (by decide +kernel)
theorem dX6_savePlace_109 : decode cX6_savePlace 109 = .ok (.getfield 200, 3) := dk_180 (x := 0) (y := 200) (by decide +kernel) rfl
theorem dX6_savePlace_112 : decode cX6_savePlace 112 = .ok (.iload_n 2, 1) := dk_28 (by decide +kernel)
theorem dX6_savePlace_113 : decode cX6_savePlace 113 = .ok (.iaload, 1) := dk_46 (by decide +kernel)
theorem dX6_savePlace_114 : decode cX6_savePlace 114 = .ok (.invokevirtual 159, 3) := dk_182 (x := 0) (y := 159) (by decide +kernel) rfl
theorem dX6_savePlace_117 : decode cX6_savePlace 117 = .ok (.iinc 2 1, 3) := dk_132 (x := 2) (y := 1) (by decide +kernel) rfl
theorem dX6_savePlace_120 : decode cX6_savePlace 120 = .ok (.goto (-30), 3) := dk_167 (x := 255) (y := 226) (by decide +kernel) rfl
theorem dX6_savePlace_123 : decode cX6_savePlace 123 = .ok (.return_, 1) := dk_177 (by decide +kernel)
def f_X6_savePlace_90 : Nat → Nat → Nat → Int32 → Mem → Option Mem
  | 0, _, _, _, _ => none
  | n + 1, v0, v1, v2, M =>
    if (16 : Int32) ≤ v2 then (
      some M
      ) else (
      chk (isO M 4 v1) <|
      obd (f_X9_has (mI M v1 9) v2 M) fun r5 =>
      if r5 = 0 then (
        bnd (v2 + (1 : Int32)) fun x8 =>
        f_X6_savePlace_90 n v0 v1 x8 M
        ) else (
        bnd (mR M v1 10) fun o10 =>
        chk (isO M 100 o10) <|
        chk (inB v2 (mLn M o10)) <|
        chk (isO M 6 v0) <|
        obd (f_X6_push v0 (mI M o10 (v2).toNatClampNeg) M) fun M16 =>
        bnd (v2 + (1 : Int32)) fun x17 =>
        f_X6_savePlace_90 n v0 v1 x17 M16
        )
      )
def f_X6_savePlace_77 (n : Nat) (v0 : Nat) (v1 : Nat) (u0 : Int32) (u1 : Nat) (M : Mem) : Option Mem :=
    chk (isO M 6 u1) <|
    obd (f_X6_push u1 u0 M) fun M3 =>
    chk (isO M3 4 v1) <|
    chk (isO M3 6 v0) <|
    obd (f_X6_push v0 (mI M3 v1 9) M3) fun M7 =>
    f_X6_savePlace_90 n v0 v1 (0 : Int32) M7
def f_X6_savePlace (n : Nat) (o : Nat) (a1 : Nat) (M : Mem) : Option Mem :=
  chk (isO M 4 a1) <|
  chk (isO M 6 o) <|
  obd (f_X6_push o (mI M a1 0) M) fun M4 =>
  chk (isO M4 4 a1) <|
  chk (isO M4 6 o) <|
  obd (f_X6_push o (mI M4 a1 1) M4) fun M8 =>
  chk (isO M8 4 a1) <|
  chk (isO M8 6 o) <|
  obd (f_X6_push o (mI M8 a1 2) M8) fun M12 =>
  chk (isO M12 4 a1) <|
  chk (isO M12 6 o) <|
  obd (f_X6_push o (mI M12 a1 3) M12) fun M16 =>
  chk (isO M16 4 a1) <|
  chk (isO M16 6 o) <|
  obd (f_X6_push o (mI M16 a1 4) M16) fun M20 =>
  chk (isO M20 4 a1) <|
  chk (isO M20 6 o) <|
  obd (f_X6_push o (mI M20 a1 5) M20) fun M24 =>
  chk (isO M24 4 a1) <|
  chk (isO M24 6 o) <|
  obd (f_X6_push o (mI M24 a1 6) M24) fun M28 =>
  chk (isO M28 4 a1) <|
  chk (isO M28 6 o) <|
  obd (f_X6_push o (mI M28 a1 7) M28) fun M32 =>
  chk (isO M32 4 a1) <|
  if (mI M32 a1 8) = 0 then (
    f_X6_savePlace_77 n o a1 (0 : Int32) o M32
    ) else (
    f_X6_savePlace_77 n o a1 (1 : Int32) o M32
    )
theorem cd_X6_savePlace : (yX6_savePlace.cls ≠ "java/lang/invoke/MethodHandle" ∧ yX6_savePlace.cls ≠ "java/lang/invoke/VarHandle") ∧ (parseMethodDescriptor yX6_savePlace.desc).map (fun d => d.parameters.length) = some 1 := ⟨⟨by decide +kernel, by decide +kernel⟩, by decide +kernel⟩
section
variable {p : Program} {l : Launch} {e : Env} {R : Room} {s : State} {m : MethodId} {args : Array Value} {below : List Frame} {meth : Method} {c : Code} {G : Gam} {M0 : Mem}
theorem l_X6_savePlace_90 {rv : Mem} (X : Cx p R s m args c G M0 cX6_savePlace yX6_savePlace.cls 3 3 71) (hr : meth.sig.returnType = none) (hlk : meth.locks = false) (hnm : meth.name = "savePlace") : ∀ {n : Nat} (v0 : Nat) (v1 : Nat) (v2 : Int32) (M : Mem), f_X6_savePlace_90 n v0 v1 v2 M = some rv → Sg p l e R s m args below meth c (Qm below G args s none M0 rv) G M0 3 90 [(0, .ref (gB G + v0)), (1, .ref (gB G + v1)), (2, .int v2)] [] M := by
  intro n
  induction n with
  | zero => intro v0 v1 v2 M hf; exact (pk_none hf).elim
  | succ n ih =>
    intro v0 v1 v2 M hf
    rw [f_X6_savePlace_90] at hf
    refine s_iload_n X 2 dX6_savePlace_90 rfl rfl ?_
    refine s_bipush X (v := (16 : Int32)) dX6_savePlace_91 rfl ?_
    have hs1 := pk_ite hf
    clear hf
    refine s_icmp_ge X (tgt := 123) dX6_savePlace_93 rfl (fun c2 => ?_) (fun c2 => ?_)
    · have hf := hs1.1 c2
      cases hf
      exact s_vret X hr hlk dX6_savePlace_123
    · have hf := hs1.2 c2
      refine s_aload_n X 1 dX6_savePlace_96 rfl rfl ?_
      obtain ⟨h3, hf⟩ := pk_chk hf
      refine s_getI X (ci := 4) (k := 9) rfl (Nat.le_of_ble_eq_true rfl) h3 wd362 (fun _ _ _ => rfl) dX6_savePlace_97 ?_
      refine s_iload_n X 2 dX6_savePlace_100 rfl rfl ?_
      obtain ⟨r5, hc4, hf⟩ := pk_obd hf
      refine s_callSN X (k_X9_has G hc4) (host := "QuorumGate") ns_13 wd712 wd713 wd126 cd_X9_has ⟨Nat.le_of_ble_eq_true rfl, Nat.le_of_ble_eq_true rfl⟩ (Nat.le_of_ble_eq_true rfl) dX6_savePlace_101 ?_
      have hs6 := pk_ite hf
      clear hf
      refine s_if_eq X (tgt := 117) dX6_savePlace_104 rfl (fun c7 => ?_) (fun c7 => ?_)
      · have hf := hs6.1 c7
        obtain ⟨x8, e9, hf⟩ := pk_bnd hf
        refine s_iinc X (vs' := [(0, .ref (gB G + v0)), (1, .ref (gB G + v1)), (2, .int x8)]) 2 dX6_savePlace_117 rfl (v := x8) e9.symm (Nat.le_of_ble_eq_true rfl) [1, 2, 0] rfl ?_
        refine s_goto X (tgt := 90) dX6_savePlace_120 rfl ?_
        exact ih _ _ _ _ hf
      · have hf := hs6.2 c7
        refine s_aload_n X 0 dX6_savePlace_107 rfl rfl ?_
        refine s_aload_n X 1 dX6_savePlace_108 rfl rfl ?_
        obtain ⟨o10, e11, hf⟩ := pk_bnd hf
        obtain ⟨h12, hf⟩ := pk_chk hf
        refine s_getR X (ci := 4) (k := 10) rfl (Nat.le_of_ble_eq_true rfl) h3 wd366 (fun _ _ _ => rfl) (e11 ▸ h12) dX6_savePlace_109 (e11 ▸ ?_)
        refine s_iload_n X 2 dX6_savePlace_112 rfl rfl ?_
        obtain ⟨h13, hf⟩ := pk_chk hf
        refine s_iald X h12 h13 dX6_savePlace_113 ?_
        obtain ⟨h14, hf⟩ := pk_chk hf
        obtain ⟨M16, hc15, hf⟩ := pk_obd hf
        refine s_callV X (ci := 6) (k_X6_push G hc15) rfl h14 wd1271 wd1273 wd32 wd1274 wd135 cd_X6_push ⟨Nat.le_of_ble_eq_true rfl, Nat.le_of_ble_eq_true rfl⟩ (Nat.le_of_ble_eq_true rfl) dX6_savePlace_114 ?_
        obtain ⟨x17, e18, hf⟩ := pk_bnd hf
        refine s_iinc X (vs' := [(0, .ref (gB G + v0)), (1, .ref (gB G + v1)), (2, .int x17)]) 2 dX6_savePlace_117 rfl (v := x17) e18.symm (Nat.le_of_ble_eq_true rfl) [1, 2, 0] rfl ?_
        refine s_goto X (tgt := 90) dX6_savePlace_120 rfl ?_
        exact ih _ _ _ _ hf
theorem l_X6_savePlace_77 {rv : Mem} {n : Nat} {v0 : Nat} {v1 : Nat} {u0 : Int32} {u1 : Nat} {M : Mem} (X : Cx p R s m args c G M0 cX6_savePlace yX6_savePlace.cls 3 3 71) (hr : meth.sig.returnType = none) (hlk : meth.locks = false) (hnm : meth.name = "savePlace") (hf : f_X6_savePlace_77 n v0 v1 u0 u1 M = some rv) : Sg p l e R s m args below meth c (Qm below G args s none M0 rv) G M0 3 77 [(0, .ref (gB G + v0)), (1, .ref (gB G + v1))] [.int u0, .ref (gB G + u1)] M := by
  rw [f_X6_savePlace_77] at hf
  obtain ⟨h1, hf⟩ := pk_chk hf
  obtain ⟨M3, hc2, hf⟩ := pk_obd hf
  refine s_callV X (ci := 6) (k_X6_push G hc2) rfl h1 wd1271 wd1273 wd32 wd1274 wd135 cd_X6_push ⟨Nat.le_of_ble_eq_true rfl, Nat.le_of_ble_eq_true rfl⟩ (Nat.le_of_ble_eq_true rfl) dX6_savePlace_77 ?_
  refine s_aload_n X 0 dX6_savePlace_80 rfl rfl ?_
  refine s_aload_n X 1 dX6_savePlace_81 rfl rfl ?_
  obtain ⟨h4, hf⟩ := pk_chk hf
  refine s_getI X (ci := 4) (k := 9) rfl (Nat.le_of_ble_eq_true rfl) h4 wd362 (fun _ _ _ => rfl) dX6_savePlace_82 ?_
  obtain ⟨h5, hf⟩ := pk_chk hf
  obtain ⟨M7, hc6, hf⟩ := pk_obd hf
  refine s_callV X (ci := 6) (k_X6_push G hc6) rfl h5 wd1271 wd1273 wd32 wd1274 wd135 cd_X6_push ⟨Nat.le_of_ble_eq_true rfl, Nat.le_of_ble_eq_true rfl⟩ (Nat.le_of_ble_eq_true rfl) dX6_savePlace_85 ?_
  refine s_iconst X (v := (0 : Int32)) dX6_savePlace_88 rfl ?_
  refine s_istore_n X (vs' := [(0, .ref (gB G + v0)), (1, .ref (gB G + v1)), (2, .int (0 : Int32))]) dX6_savePlace_89 rfl (Nat.le_of_ble_eq_true rfl) [1, 2, 0] rfl ?_
  exact l_X6_savePlace_90 X hr hlk hnm _ _ _ _ hf
end
theorem k_X6_savePlace (G : Gam) {n : Nat} {o : Nat} {a1 : Nat} {M : Mem} {rv : Mem} (hf : f_X6_savePlace n o a1 M = some rv) : Kt yX6_savePlace cX6_savePlace 3 none 3 71 G [.ref (gB G + o), .ref (gB G + a1)] M rv none := by
  refine Kt.of (by decide) (Nat.le_of_ble_eq_true rfl) ?_
  intro p l e R s m args below meth c X hr hlk hnm
  refine s_drop [0, 1] (vs' := [(0, .ref (gB G + o)), (1, .ref (gB G + a1))]) rfl ?_
  rw [f_X6_savePlace] at hf
  refine s_aload_n X 0 dX6_savePlace_0 rfl rfl ?_
  refine s_aload_n X 1 dX6_savePlace_1 rfl rfl ?_
  obtain ⟨h1, hf⟩ := pk_chk hf
  refine s_getI X (ci := 4) (k := 0) rfl (Nat.le_of_ble_eq_true rfl) h1 wd327 (fun _ _ _ => rfl) dX6_savePlace_2 ?_
  obtain ⟨h2, hf⟩ := pk_chk hf
  obtain ⟨M4, hc3, hf⟩ := pk_obd hf
  refine s_callV X (ci := 6) (k_X6_push G hc3) rfl h2 wd1271 wd1273 wd32 wd1274 wd135 cd_X6_push ⟨Nat.le_of_ble_eq_true rfl, Nat.le_of_ble_eq_true rfl⟩ (Nat.le_of_ble_eq_true rfl) dX6_savePlace_5 ?_
  refine s_aload_n X 0 dX6_savePlace_8 rfl rfl ?_
  refine s_aload_n X 1 dX6_savePlace_9 rfl rfl ?_
  obtain ⟨h5, hf⟩ := pk_chk hf
  refine s_getI X (ci := 4) (k := 1) rfl (Nat.le_of_ble_eq_true rfl) h5 wd330 (fun _ _ _ => rfl) dX6_savePlace_10 ?_
  obtain ⟨h6, hf⟩ := pk_chk hf
  obtain ⟨M8, hc7, hf⟩ := pk_obd hf
  refine s_callV X (ci := 6) (k_X6_push G hc7) rfl h6 wd1271 wd1273 wd32 wd1274 wd135 cd_X6_push ⟨Nat.le_of_ble_eq_true rfl, Nat.le_of_ble_eq_true rfl⟩ (Nat.le_of_ble_eq_true rfl) dX6_savePlace_13 ?_
  refine s_aload_n X 0 dX6_savePlace_16 rfl rfl ?_
  refine s_aload_n X 1 dX6_savePlace_17 rfl rfl ?_
  obtain ⟨h9, hf⟩ := pk_chk hf
  refine s_getI X (ci := 4) (k := 2) rfl (Nat.le_of_ble_eq_true rfl) h9 wd336 (fun _ _ _ => rfl) dX6_savePlace_18 ?_
  obtain ⟨h10, hf⟩ := pk_chk hf
  obtain ⟨M12, hc11, hf⟩ := pk_obd hf
  refine s_callV X (ci := 6) (k_X6_push G hc11) rfl h10 wd1271 wd1273 wd32 wd1274 wd135 cd_X6_push ⟨Nat.le_of_ble_eq_true rfl, Nat.le_of_ble_eq_true rfl⟩ (Nat.le_of_ble_eq_true rfl) dX6_savePlace_21 ?_
  refine s_aload_n X 0 dX6_savePlace_24 rfl rfl ?_
  refine s_aload_n X 1 dX6_savePlace_25 rfl rfl ?_
  obtain ⟨h13, hf⟩ := pk_chk hf
  refine s_getI X (ci := 4) (k := 3) rfl (Nat.le_of_ble_eq_true rfl) h13 wd338 (fun _ _ _ => rfl) dX6_savePlace_26 ?_
  obtain ⟨h14, hf⟩ := pk_chk hf
  obtain ⟨M16, hc15, hf⟩ := pk_obd hf
  refine s_callV X (ci := 6) (k_X6_push G hc15) rfl h14 wd1271 wd1273 wd32 wd1274 wd135 cd_X6_push ⟨Nat.le_of_ble_eq_true rfl, Nat.le_of_ble_eq_true rfl⟩ (Nat.le_of_ble_eq_true rfl) dX6_savePlace_29 ?_
  refine s_aload_n X 0 dX6_savePlace_32 rfl rfl ?_
  refine s_aload_n X 1 dX6_savePlace_33 rfl rfl ?_
  obtain ⟨h17, hf⟩ := pk_chk hf
  refine s_getI X (ci := 4) (k := 4) rfl (Nat.le_of_ble_eq_true rfl) h17 wd342 (fun _ _ _ => rfl) dX6_savePlace_34 ?_
  obtain ⟨h18, hf⟩ := pk_chk hf
  obtain ⟨M20, hc19, hf⟩ := pk_obd hf
  refine s_callV X (ci := 6) (k_X6_push G hc19) rfl h18 wd1271 wd1273 wd32 wd1274 wd135 cd_X6_push ⟨Nat.le_of_ble_eq_true rfl, Nat.le_of_ble_eq_true rfl⟩ (Nat.le_of_ble_eq_true rfl) dX6_savePlace_37 ?_
  refine s_aload_n X 0 dX6_savePlace_40 rfl rfl ?_
  refine s_aload_n X 1 dX6_savePlace_41 rfl rfl ?_
  obtain ⟨h21, hf⟩ := pk_chk hf
  refine s_getI X (ci := 4) (k := 5) rfl (Nat.le_of_ble_eq_true rfl) h21 wd346 (fun _ _ _ => rfl) dX6_savePlace_42 ?_
  obtain ⟨h22, hf⟩ := pk_chk hf
  obtain ⟨M24, hc23, hf⟩ := pk_obd hf
  refine s_callV X (ci := 6) (k_X6_push G hc23) rfl h22 wd1271 wd1273 wd32 wd1274 wd135 cd_X6_push ⟨Nat.le_of_ble_eq_true rfl, Nat.le_of_ble_eq_true rfl⟩ (Nat.le_of_ble_eq_true rfl) dX6_savePlace_45 ?_
  refine s_aload_n X 0 dX6_savePlace_48 rfl rfl ?_
  refine s_aload_n X 1 dX6_savePlace_49 rfl rfl ?_
  obtain ⟨h25, hf⟩ := pk_chk hf
  refine s_getI X (ci := 4) (k := 6) rfl (Nat.le_of_ble_eq_true rfl) h25 wd350 (fun _ _ _ => rfl) dX6_savePlace_50 ?_
  obtain ⟨h26, hf⟩ := pk_chk hf
  obtain ⟨M28, hc27, hf⟩ := pk_obd hf
  refine s_callV X (ci := 6) (k_X6_push G hc27) rfl h26 wd1271 wd1273 wd32 wd1274 wd135 cd_X6_push ⟨Nat.le_of_ble_eq_true rfl, Nat.le_of_ble_eq_true rfl⟩ (Nat.le_of_ble_eq_true rfl) dX6_savePlace_53 ?_
  refine s_aload_n X 0 dX6_savePlace_56 rfl rfl ?_
  refine s_aload_n X 1 dX6_savePlace_57 rfl rfl ?_
  obtain ⟨h29, hf⟩ := pk_chk hf
  refine s_getI X (ci := 4) (k := 7) rfl (Nat.le_of_ble_eq_true rfl) h29 wd354 (fun _ _ _ => rfl) dX6_savePlace_58 ?_
  obtain ⟨h30, hf⟩ := pk_chk hf
  obtain ⟨M32, hc31, hf⟩ := pk_obd hf
  refine s_callV X (ci := 6) (k_X6_push G hc31) rfl h30 wd1271 wd1273 wd32 wd1274 wd135 cd_X6_push ⟨Nat.le_of_ble_eq_true rfl, Nat.le_of_ble_eq_true rfl⟩ (Nat.le_of_ble_eq_true rfl) dX6_savePlace_61 ?_
  refine s_aload_n X 0 dX6_savePlace_64 rfl rfl ?_
  refine s_aload_n X 1 dX6_savePlace_65 rfl rfl ?_
  obtain ⟨h33, hf⟩ := pk_chk hf
  refine s_getI X (ci := 4) (k := 8) rfl (Nat.le_of_ble_eq_true rfl) h33 wd358 (fun _ _ _ => rfl) dX6_savePlace_66 ?_
  have hs34 := pk_ite hf
  clear hf
  refine s_if_eq X (tgt := 76) dX6_savePlace_69 rfl (fun c35 => ?_) (fun c35 => ?_)
  · have hf := hs34.1 c35
    refine s_iconst X (v := (0 : Int32)) dX6_savePlace_76 rfl ?_
    exact l_X6_savePlace_77 X hr hlk hnm hf
  · have hf := hs34.2 c35
    refine s_iconst X (v := (1 : Int32)) dX6_savePlace_72 rfl ?_
    refine s_goto X (tgt := 77) dX6_savePlace_73 rfl ?_
    exact l_X6_savePlace_77 X hr hlk hnm hf
theorem dX6_saveLane_0 : decode cX6_saveLane 0 = .ok (.aload_n 0, 1) := dk_42 (by decide +kernel)
theorem dX6_saveLane_1 : decode cX6_saveLane 1 = .ok (.aload_n 1, 1) := dk_43 (by decide +kernel)
theorem dX6_saveLane_2 : decode cX6_saveLane 2 = .ok (.getfield 203, 3) := dk_180 (x := 0) (y := 203) (by decide +kernel) rfl
theorem dX6_saveLane_5 : decode cX6_saveLane 5 = .ok (.iload_n 2, 1) := dk_28 (by decide +kernel)
theorem dX6_saveLane_6 : decode cX6_saveLane 6 = .ok (.iaload, 1) := dk_46 (by decide +kernel)
theorem dX6_saveLane_7 : decode cX6_saveLane 7 = .ok (.invokevirtual 159, 3) := dk_182 (x := 0) (y := 159) (by decide +kernel) rfl
theorem dX6_saveLane_10 : decode cX6_saveLane 10 = .ok (.aload_n 1, 1) := dk_43 (by decide +kernel)
theorem dX6_saveLane_11 : decode cX6_saveLane 11 = .ok (.getfield 206, 3) := dk_180 (x := 0) (y := 206) (by decide +kernel) rfl
theorem dX6_saveLane_14 : decode cX6_saveLane 14 = .ok (.iload_n 2, 1) := dk_28 (by decide +kernel)
theorem dX6_saveLane_15 : decode cX6_saveLane 15 = .ok (.iaload, 1) := dk_46 (by decide +kernel)
theorem dX6_saveLane_16 : decode cX6_saveLane 16 = .ok (.istore_n 3, 1) := dk_62 (by decide +kernel)
theorem dX6_saveLane_17 : decode cX6_saveLane 17 = .ok (.iconst 0, 1) := dk_3 (by decide +kernel)
theorem dX6_saveLane_18 : decode cX6_saveLane 18 = .ok (.istore 4, 2) := dk_54 (x := 4) (by decide +kernel)
theorem dX6_saveLane_20 : decode cX6_saveLane 20 = .ok (.iload 4, 2) := dk_21 (x := 4) (by decide +kernel)
theorem dX6_saveLane_22 : decode cX6_saveLane 22 = .ok (.aload_n 1, 1) := dk_43 (by decide +kernel)
theorem dX6_saveLane_23 : decode cX6_saveLane 23 = .ok (.getfield 203, 3) := dk_180 (x := 0) (y := 203) (by decide +kernel) rfl
theorem dX6_saveLane_26 : decode cX6_saveLane 26 = .ok (.iload_n 2, 1) := dk_28 (by decide +kernel)
theorem dX6_saveLane_27 : decode cX6_saveLane 27 = .ok (.iaload, 1) := dk_46 (by decide +kernel)
theorem dX6_saveLane_28 : decode cX6_saveLane 28 = .ok (.if_icmp .ge 26, 3) := dk_162 (x := 0) (y := 26) (by decide +kernel) rfl
theorem dX6_saveLane_31 : decode cX6_saveLane 31 = .ok (.aload_n 0, 1) := dk_42 (by decide +kernel)
theorem dX6_saveLane_32 : decode cX6_saveLane 32 = .ok (.aload_n 1, 1) := dk_43 (by decide +kernel)
theorem dX6_saveLane_33 : decode cX6_saveLane 33 = .ok (.getfield 209, 3) := dk_180 (x := 0) (y := 209) (by decide +kernel) rfl
theorem dX6_saveLane_36 : decode cX6_saveLane 36 = .ok (.iload_n 3, 1) := dk_29 (by decide +kernel)
theorem dX6_saveLane_37 : decode cX6_saveLane 37 = .ok (.iaload, 1) := dk_46 (by decide +kernel)
theorem dX6_saveLane_38 : decode cX6_saveLane 38 = .ok (.invokevirtual 159, 3) := dk_182 (x := 0) (y := 159) (by decide +kernel) rfl
theorem dX6_saveLane_41 : decode cX6_saveLane 41 = .ok (.aload_n 1, 1) := dk_43 (by decide +kernel)
theorem dX6_saveLane_42 : decode cX6_saveLane 42 = .ok (.getfield 212, 3) := dk_180 (x := 0) (y := 212) (by decide +kernel) rfl
theorem dX6_saveLane_45 : decode cX6_saveLane 45 = .ok (.iload_n 3, 1) := dk_29 (by decide +kernel)
theorem dX6_saveLane_46 : decode cX6_saveLane 46 = .ok (.iaload, 1) := dk_46 (by decide +kernel)
theorem dX6_saveLane_47 : decode cX6_saveLane 47 = .ok (.istore_n 3, 1) := dk_62 (by decide +kernel)
theorem dX6_saveLane_48 : decode cX6_saveLane 48 = .ok (.iinc 4 1, 3) := dk_132 (x := 4) (y := 1) (by decide +kernel) rfl
theorem dX6_saveLane_51 : decode cX6_saveLane 51 = .ok (.goto (-31), 3) := dk_167 (x := 255) (y := 225) (by decide +kernel) rfl
theorem dX6_saveLane_54 : decode cX6_saveLane 54 = .ok (.return_, 1) := dk_177 (by decide +kernel)
def f_X6_saveLane_20 : Nat → Nat → Nat → Int32 → Int32 → Int32 → Mem → Option Mem
  | 0, _, _, _, _, _, _ => none
  | n + 1, v0, v1, v2, v3, v4, M =>
    chk (isO M 5 v1) <|
    bnd (mR M v1 2) fun o2 =>
    chk (isO M 100 o2) <|
    chk (inB v2 (mLn M o2)) <|
    if (mI M o2 (v2).toNatClampNeg) ≤ v4 then (
      some M
      ) else (
      bnd (mR M v1 5) fun o8 =>
      chk (isO M 100 o8) <|
      chk (inB v3 (mLn M o8)) <|
      chk (isO M 6 v0) <|
      obd (f_X6_push v0 (mI M o8 (v3).toNatClampNeg) M) fun M14 =>
      chk (isO M14 5 v1) <|
      bnd (mR M14 v1 7) fun o16 =>
      chk (isO M14 100 o16) <|
      chk (inB v3 (mLn M14 o16)) <|
      bnd (mI M14 o16 (v3).toNatClampNeg) fun x20 =>
      bnd (v4 + (1 : Int32)) fun x22 =>
      f_X6_saveLane_20 n v0 v1 v2 x20 x22 M14
      )
def f_X6_saveLane (n : Nat) (o : Nat) (a1 : Nat) (a2 : Int32) (M : Mem) : Option Mem :=
  chk (isO M 5 a1) <|
  bnd (mR M a1 2) fun o2 =>
  chk (isO M 100 o2) <|
  chk (inB a2 (mLn M o2)) <|
  chk (isO M 6 o) <|
  obd (f_X6_push o (mI M o2 (a2).toNatClampNeg) M) fun M8 =>
  chk (isO M8 5 a1) <|
  bnd (mR M8 a1 0) fun o10 =>
  chk (isO M8 100 o10) <|
  chk (inB a2 (mLn M8 o10)) <|
  bnd (mI M8 o10 (a2).toNatClampNeg) fun x14 =>
  f_X6_saveLane_20 n o a1 a2 x14 (0 : Int32) M8
theorem cd_X6_saveLane : (yX6_saveLane.cls ≠ "java/lang/invoke/MethodHandle" ∧ yX6_saveLane.cls ≠ "java/lang/invoke/VarHandle") ∧ (parseMethodDescriptor yX6_saveLane.desc).map (fun d => d.parameters.length) = some 2 := ⟨⟨by decide +kernel, by decide +kernel⟩, by decide +kernel⟩
section
variable {p : Program} {l : Launch} {e : Env} {R : Room} {s : State} {m : MethodId} {args : Array Value} {below : List Frame} {meth : Method} {c : Code} {G : Gam} {M0 : Mem}
theorem l_X6_saveLane_20 {rv : Mem} (X : Cx p R s m args c G M0 cX6_saveLane yX6_saveLane.cls 5 3 71) (hr : meth.sig.returnType = none) (hlk : meth.locks = false) (hnm : meth.name = "saveLane") : ∀ {n : Nat} (v0 : Nat) (v1 : Nat) (v2 : Int32) (v3 : Int32) (v4 : Int32) (M : Mem), f_X6_saveLane_20 n v0 v1 v2 v3 v4 M = some rv → Sg p l e R s m args below meth c (Qm below G args s none M0 rv) G M0 5 20 [(0, .ref (gB G + v0)), (1, .ref (gB G + v1)), (2, .int v2), (3, .int v3), (4, .int v4)] [] M := by
  intro n
  induction n with
  | zero => intro v0 v1 v2 v3 v4 M hf; exact (pk_none hf).elim
  | succ n ih =>
    intro v0 v1 v2 v3 v4 M hf
    rw [f_X6_saveLane_20] at hf
    refine s_iload X 4 dX6_saveLane_20 rfl ?_
    refine s_aload_n X 1 dX6_saveLane_22 rfl rfl ?_
    obtain ⟨h1, hf⟩ := pk_chk hf
    obtain ⟨o2, e3, hf⟩ := pk_bnd hf
    obtain ⟨h4, hf⟩ := pk_chk hf
    refine s_getR X (ci := 5) (k := 2) rfl (Nat.le_of_ble_eq_true rfl) h1 wd252 (fun _ _ _ => rfl) (e3 ▸ h4) dX6_saveLane_23 (e3 ▸ ?_)
    refine s_iload_n X 2 dX6_saveLane_26 rfl rfl ?_
    obtain ⟨h5, hf⟩ := pk_chk hf
    refine s_iald X h4 h5 dX6_saveLane_27 ?_
    have hs6 := pk_ite hf
    clear hf
    refine s_icmp_ge X (tgt := 54) dX6_saveLane_28 rfl (fun c7 => ?_) (fun c7 => ?_)
    · have hf := hs6.1 c7
      cases hf
      exact s_vret X hr hlk dX6_saveLane_54
    · have hf := hs6.2 c7
      refine s_aload_n X 0 dX6_saveLane_31 rfl rfl ?_
      refine s_aload_n X 1 dX6_saveLane_32 rfl rfl ?_
      obtain ⟨o8, e9, hf⟩ := pk_bnd hf
      obtain ⟨h10, hf⟩ := pk_chk hf
      refine s_getR X (ci := 5) (k := 5) rfl (Nat.le_of_ble_eq_true rfl) h1 wd260 (fun _ _ _ => rfl) (e9 ▸ h10) dX6_saveLane_33 (e9 ▸ ?_)
      refine s_iload_n X 3 dX6_saveLane_36 rfl rfl ?_
      obtain ⟨h11, hf⟩ := pk_chk hf
      refine s_iald X h10 h11 dX6_saveLane_37 ?_
      obtain ⟨h12, hf⟩ := pk_chk hf
      obtain ⟨M14, hc13, hf⟩ := pk_obd hf
      refine s_callV X (ci := 6) (k_X6_push G hc13) rfl h12 wd1271 wd1273 wd32 wd1274 wd135 cd_X6_push ⟨Nat.le_of_ble_eq_true rfl, Nat.le_of_ble_eq_true rfl⟩ (Nat.le_of_ble_eq_true rfl) dX6_saveLane_38 ?_
      refine s_aload_n X 1 dX6_saveLane_41 rfl rfl ?_
      obtain ⟨h15, hf⟩ := pk_chk hf
      obtain ⟨o16, e17, hf⟩ := pk_bnd hf
      obtain ⟨h18, hf⟩ := pk_chk hf
      refine s_getR X (ci := 5) (k := 7) rfl (Nat.le_of_ble_eq_true rfl) h15 wd263 (fun _ _ _ => rfl) (e17 ▸ h18) dX6_saveLane_42 (e17 ▸ ?_)
      refine s_iload_n X 3 dX6_saveLane_45 rfl rfl ?_
      obtain ⟨h19, hf⟩ := pk_chk hf
      refine s_iald X h18 h19 dX6_saveLane_46 ?_
      obtain ⟨x20, e21, hf⟩ := pk_bnd hf
      refine s_nmI e21 ?_
      refine s_istore_n X (vs' := [(0, .ref (gB G + v0)), (1, .ref (gB G + v1)), (2, .int v2), (3, .int x20), (4, .int v4)]) dX6_saveLane_47 rfl (Nat.le_of_ble_eq_true rfl) [1, 2, 3, 0, 4] rfl ?_
      obtain ⟨x22, e23, hf⟩ := pk_bnd hf
      refine s_iinc X (vs' := [(0, .ref (gB G + v0)), (1, .ref (gB G + v1)), (2, .int v2), (3, .int x20), (4, .int x22)]) 4 dX6_saveLane_48 rfl (v := x22) e23.symm (Nat.le_of_ble_eq_true rfl) [1, 2, 3, 4, 0] rfl ?_
      refine s_goto X (tgt := 20) dX6_saveLane_51 rfl ?_
      exact ih _ _ _ _ _ _ hf
end
theorem k_X6_saveLane (G : Gam) {n : Nat} {o : Nat} {a1 : Nat} {a2 : Int32} {M : Mem} {rv : Mem} (hf : f_X6_saveLane n o a1 a2 M = some rv) : Kt yX6_saveLane cX6_saveLane 5 none 3 71 G [.ref (gB G + o), .ref (gB G + a1), .int a2] M rv none := by
  refine Kt.of (by decide) (Nat.le_of_ble_eq_true rfl) ?_
  intro p l e R s m args below meth c X hr hlk hnm
  refine s_drop [0, 1, 2] (vs' := [(0, .ref (gB G + o)), (1, .ref (gB G + a1)), (2, .int a2)]) rfl ?_
  rw [f_X6_saveLane] at hf
  refine s_aload_n X 0 dX6_saveLane_0 rfl rfl ?_
  refine s_aload_n X 1 dX6_saveLane_1 rfl rfl ?_
  obtain ⟨h1, hf⟩ := pk_chk hf
  obtain ⟨o2, e3, hf⟩ := pk_bnd hf
  obtain ⟨h4, hf⟩ := pk_chk hf
  refine s_getR X (ci := 5) (k := 2) rfl (Nat.le_of_ble_eq_true rfl) h1 wd252 (fun _ _ _ => rfl) (e3 ▸ h4) dX6_saveLane_2 (e3 ▸ ?_)
  refine s_iload_n X 2 dX6_saveLane_5 rfl rfl ?_
  obtain ⟨h5, hf⟩ := pk_chk hf
  refine s_iald X h4 h5 dX6_saveLane_6 ?_
  obtain ⟨h6, hf⟩ := pk_chk hf
  obtain ⟨M8, hc7, hf⟩ := pk_obd hf
  refine s_callV X (ci := 6) (k_X6_push G hc7) rfl h6 wd1271 wd1273 wd32 wd1274 wd135 cd_X6_push ⟨Nat.le_of_ble_eq_true rfl, Nat.le_of_ble_eq_true rfl⟩ (Nat.le_of_ble_eq_true rfl) dX6_saveLane_7 ?_
  refine s_aload_n X 1 dX6_saveLane_10 rfl rfl ?_
  obtain ⟨h9, hf⟩ := pk_chk hf
  obtain ⟨o10, e11, hf⟩ := pk_bnd hf
  obtain ⟨h12, hf⟩ := pk_chk hf
  refine s_getR X (ci := 5) (k := 0) rfl (Nat.le_of_ble_eq_true rfl) h9 wd249 (fun _ _ _ => rfl) (e11 ▸ h12) dX6_saveLane_11 (e11 ▸ ?_)
  refine s_iload_n X 2 dX6_saveLane_14 rfl rfl ?_
  obtain ⟨h13, hf⟩ := pk_chk hf
  refine s_iald X h12 h13 dX6_saveLane_15 ?_
  obtain ⟨x14, e15, hf⟩ := pk_bnd hf
  refine s_nmI e15 ?_
  refine s_istore_n X (vs' := [(0, .ref (gB G + o)), (1, .ref (gB G + a1)), (2, .int a2), (3, .int x14)]) dX6_saveLane_16 rfl (Nat.le_of_ble_eq_true rfl) [1, 2, 3, 0] rfl ?_
  refine s_iconst X (v := (0 : Int32)) dX6_saveLane_17 rfl ?_
  refine s_istore X (vs' := [(0, .ref (gB G + o)), (1, .ref (gB G + a1)), (2, .int a2), (3, .int x14), (4, .int (0 : Int32))]) dX6_saveLane_18 (Nat.le_of_ble_eq_true rfl) [1, 2, 3, 4, 0] rfl ?_
  exact l_X6_saveLane_20 X hr hlk hnm _ _ _ _ _ _ hf
