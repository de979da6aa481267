theorem dX10_isAhead_0 : decode cX10_isAhead 0 = .ok (.iload_n 0, 1) := dk_26 (by decide +kernel)
theorem dX10_isAhead_1 : decode cX10_isAhead 1 = .ok (.iload_n 2, 1) := dk_28 (by decide +kernel)
theorem dX10_isAhead_2 : decode cX10_isAhead 2 = .ok (.if_icmp .eq 16, 3) := dk_159 (x := 0) (y := 16) (by decide +kernel) rfl
theorem dX10_isAhead_5 : decode cX10_isAhead 5 = .ok (.iload_n 0, 1) := dk_26 (by decide +kernel)
theorem dX10_isAhead_6 : decode cX10_isAhead 6 = .ok (.iload_n 2, 1) := dk_28 (by decide +kernel)
theorem dX10_isAhead_7 : decode cX10_isAhead 7 = .ok (.if_icmp .ge 7, 3) := dk_162 (x := 0) (y := 7) (by decide +kernel) rfl
theorem dX10_isAhead_10 : decode cX10_isAhead 10 = .ok (.iconst 1, 1) := dk_4 (by decide +kernel)
theorem dX10_isAhead_11 : decode cX10_isAhead 11 = .ok (.goto 17, 3) := dk_167 (x := 0) (y := 17) (by decide +kernel) rfl
theorem dX10_isAhead_14 : decode cX10_isAhead 14 = .ok (.iconst 0, 1) := dk_3 (by decide +kernel)
theorem dX10_isAhead_15 : decode cX10_isAhead 15 = .ok (.goto 13, 3) := dk_167 (x := 0) (y := 13) (by decide +kernel) rfl
theorem dX10_isAhead_18 : decode cX10_isAhead 18 = .ok (.iload_n 1, 1) := dk_27 (by decide +kernel)
theorem dX10_isAhead_19 : decode cX10_isAhead 19 = .ok (.iload_n 3, 1) := dk_29 (by decide +kernel)
theorem dX10_isAhead_20 : decode cX10_isAhead 20 = .ok (.if_icmp .ge 7, 3) := dk_162 (x := 0) (y := 7) (by decide +kernel) rfl
theorem dX10_isAhead_23 : decode cX10_isAhead 23 = .ok (.iconst 1, 1) := dk_4 (by decide +kernel)
theorem dX10_isAhead_24 : decode cX10_isAhead 24 = .ok (.goto 4, 3) := dk_167 (x := 0) (y := 4) (by decide +kernel) rfl
theorem dX10_isAhead_27 : decode cX10_isAhead 27 = .ok (.iconst 0, 1) := dk_3 (by decide +kernel)
theorem dX10_isAhead_28 : decode cX10_isAhead 28 = .ok (.ireturn, 1) := dk_172 (by decide +kernel)
def f_X10_isAhead (a1 : Int32) (a2 : Int32) (a3 : Int32) (a4 : Int32) (M : Mem) : Option Int32 :=
  if a1 = a3 then (
    if a4 ≤ a2 then (
      some (0 : Int32)
      ) else (
      some (1 : Int32)
      )
    ) else (
    if a3 ≤ a1 then (
      some (0 : Int32)
      ) else (
      some (1 : Int32)
      )
    )
theorem cd_X10_isAhead : (yX10_isAhead.cls ≠ "java/lang/invoke/MethodHandle" ∧ yX10_isAhead.cls ≠ "java/lang/invoke/VarHandle") ∧ (parseMethodDescriptor yX10_isAhead.desc).map (fun d => d.parameters.length) = some 4 := ⟨⟨by decide +kernel, by decide +kernel⟩, by decide +kernel⟩
theorem k_X10_isAhead (G : Gam) {a1 : Int32} {a2 : Int32} {a3 : Int32} {a4 : Int32} {M : Mem} {rv : Int32} (hf : f_X10_isAhead a1 a2 a3 a4 M = some rv) : Kt yX10_isAhead cX10_isAhead 4 (some .boolean) 0 0 G [.int a1, .int a2, .int a3, .int a4] M M (some (.int rv)) := by
  refine Kt.of (by decide) (Nat.le_of_ble_eq_true rfl) ?_
  intro p l e R s m args below meth c X hr hlk hnm
  refine s_drop [0, 1, 2, 3] (vs' := [(0, .int a1), (1, .int a2), (2, .int a3), (3, .int a4)]) rfl ?_
  rw [f_X10_isAhead] at hf
  refine s_iload_n X 0 dX10_isAhead_0 rfl rfl ?_
  refine s_iload_n X 2 dX10_isAhead_1 rfl rfl ?_
  have hs1 := pk_ite hf
  clear hf
  refine s_icmp_eq X (tgt := 18) dX10_isAhead_2 rfl (fun c2 => ?_) (fun c2 => ?_)
  · have hf := hs1.1 c2
    refine s_iload_n X 1 dX10_isAhead_18 rfl rfl ?_
    refine s_iload_n X 3 dX10_isAhead_19 rfl rfl ?_
    have hs3 := pk_ite hf
    clear hf
    refine s_icmp_ge X (tgt := 27) dX10_isAhead_20 rfl (fun c4 => ?_) (fun c4 => ?_)
    · have hf := hs3.1 c4
      refine s_iconst X (v := (0 : Int32)) dX10_isAhead_27 rfl ?_
      cases hf
      exact s_zret X hr (bz_n (Or.inl rfl)) hlk dX10_isAhead_28
    · have hf := hs3.2 c4
      refine s_iconst X (v := (1 : Int32)) dX10_isAhead_23 rfl ?_
      refine s_goto X (tgt := 28) dX10_isAhead_24 rfl ?_
      cases hf
      exact s_zret X hr (bz_n (Or.inr rfl)) hlk dX10_isAhead_28
  · have hf := hs1.2 c2
    refine s_iload_n X 0 dX10_isAhead_5 rfl rfl ?_
    refine s_iload_n X 2 dX10_isAhead_6 rfl rfl ?_
    have hs5 := pk_ite hf
    clear hf
    refine s_icmp_ge X (tgt := 14) dX10_isAhead_7 rfl (fun c6 => ?_) (fun c6 => ?_)
    · have hf := hs5.1 c6
      refine s_iconst X (v := (0 : Int32)) dX10_isAhead_14 rfl ?_
      refine s_goto X (tgt := 28) dX10_isAhead_15 rfl ?_
      cases hf
      exact s_zret X hr (bz_n (Or.inl rfl)) hlk dX10_isAhead_28
    · have hf := hs5.2 c6
      refine s_iconst X (v := (1 : Int32)) dX10_isAhead_10 rfl ?_
      refine s_goto X (tgt := 28) dX10_isAhead_11 rfl ?_
      cases hf
      exact s_zret X hr (bz_n (Or.inr rfl)) hlk dX10_isAhead_28
theorem dX10_comeWaiting_0 : decode cX10_comeWaiting 0 = .ok (.aload_n 0, 1) := dk_42 (by decide +kernel)
theorem dX10_comeWaiting_1 : decode cX10_comeWaiting 1 = .ok (.iload_n 1, 1) := dk_27 (by decide +kernel)
theorem dX10_comeWaiting_2 : decode cX10_comeWaiting 2 = .ok (.iconst 3, 1) := dk_6 (by decide +kernel)
theorem dX10_comeWaiting_3 : decode cX10_comeWaiting 3 = .ok (.invokevirtual 151, 3) := dk_182 (x := 0) (y := 151) (by decide +kernel) rfl
theorem dX10_comeWaiting_6 : decode cX10_comeWaiting 6 = .ok (.istore 4, 2) := dk_54 (x := 4) (by decide +kernel)
theorem dX10_comeWaiting_8 : decode cX10_comeWaiting 8 = .ok (.iload 4, 2) := dk_21 (x := 4) (by decide +kernel)
theorem dX10_comeWaiting_10 : decode cX10_comeWaiting 10 = .ok (.ifCond .le 77, 3) := dk_158 (x := 0) (y := 77) (by decide +kernel) rfl
theorem dX10_comeWaiting_13 : decode cX10_comeWaiting 13 = .ok (.iload_n 3, 1) := dk_29 (by decide +kernel)
theorem dX10_comeWaiting_14 : decode cX10_comeWaiting 14 = .ok (.iload_n 2, 1) := dk_28 (by decide +kernel)
theorem dX10_comeWaiting_15 : decode cX10_comeWaiting 15 = .ok (.aload_n 0, 1) := dk_42 (by decide +kernel)
theorem dX10_comeWaiting_16 : decode cX10_comeWaiting 16 = .ok (.iload_n 1, 1) := dk_27 (by decide +kernel)
theorem dX10_comeWaiting_17 : decode cX10_comeWaiting 17 = .ok (.iload 4, 2) := dk_21 (x := 4) (by decide +kernel)
theorem dX10_comeWaiting_19 : decode cX10_comeWaiting 19 = .ok (.iconst 1, 1) := dk_4 (by decide +kernel)
theorem dX10_comeWaiting_20 : decode cX10_comeWaiting 20 = .ok (.isub, 1) := dk_100 (by decide +kernel)
theorem dX10_comeWaiting_21 : decode cX10_comeWaiting 21 = .ok (.invokevirtual 158, 3) := dk_182 (x := 0) (y := 158) (by decide +kernel) rfl
theorem dX10_comeWaiting_24 : decode cX10_comeWaiting 24 = .ok (.aload_n 0, 1) := dk_42 (by decide +kernel)
theorem dX10_comeWaiting_25 : decode cX10_comeWaiting 25 = .ok (.iload_n 1, 1) := dk_27 (by decide +kernel)
theorem dX10_comeWaiting_26 : decode cX10_comeWaiting 26 = .ok (.iload 4, 2) := dk_21 (x := 4) (by decide +kernel)
theorem dX10_comeWaiting_28 : decode cX10_comeWaiting 28 = .ok (.iconst 1, 1) := dk_4 (by decide +kernel)
theorem dX10_comeWaiting_29 : decode cX10_comeWaiting 29 = .ok (.isub, 1) := dk_100 (by decide +kernel)
theorem dX10_comeWaiting_30 : decode cX10_comeWaiting 30 = .ok (.invokevirtual 161, 3) := dk_182 (x := 0) (y := 161) (by decide +kernel) rfl
theorem dX10_comeWaiting_33 : decode cX10_comeWaiting 33 = .ok (.invokestatic 154, 3) := dk_184 (x := 0) (y := 154) (by decide +kernel) rfl
theorem dX10_comeWaiting_36 : decode cX10_comeWaiting 36 = .ok (.ifCond .eq 51, 3) := dk_153 (x := 0) (y := 51) (by decide +kernel) rfl
theorem dX10_comeWaiting_39 : decode cX10_comeWaiting 39 = .ok (.aload_n 0, 1) := dk_42 (by decide +kernel)
theorem dX10_comeWaiting_40 : decode cX10_comeWaiting 40 = .ok (.iload_n 1, 1) := dk_27 (by decide +kernel)
theorem dX10_comeWaiting_41 : decode cX10_comeWaiting 41 = .ok (.iconst 4, 1) := dk_7 (by decide +kernel)
theorem dX10_comeWaiting_42 : decode cX10_comeWaiting 42 = .ok (.iconst 2, 1) := dk_5 (by decide +kernel)
theorem dX10_comeWaiting_43 : decode cX10_comeWaiting 43 = .ok (.iload 4, 2) := dk_21 (x := 4) (by decide +kernel)
theorem dX10_comeWaiting_45 : decode cX10_comeWaiting 45 = .ok (.imul, 1) := dk_104 (by decide +kernel)
theorem dX10_comeWaiting_46 : decode cX10_comeWaiting 46 = .ok (.iadd, 1) := dk_96 (by decide +kernel)
theorem dX10_comeWaiting_47 : decode cX10_comeWaiting 47 = .ok (.aload_n 0, 1) := dk_42 (by decide +kernel)
theorem dX10_comeWaiting_48 : decode cX10_comeWaiting 48 = .ok (.iload_n 1, 1) := dk_27 (by decide +kernel)
theorem dX10_comeWaiting_49 : decode cX10_comeWaiting 49 = .ok (.iload 4, 2) := dk_21 (x := 4) (by decide +kernel)
theorem dX10_comeWaiting_51 : decode cX10_comeWaiting 51 = .ok (.iconst 1, 1) := dk_4 (by decide +kernel)
theorem dX10_comeWaiting_52 : decode cX10_comeWaiting 52 = .ok (.isub, 1) := dk_100 (by decide +kernel)
theorem dX10_comeWaiting_53 : decode cX10_comeWaiting 53 = .ok (.invokevirtual 161, 3) := dk_182 (x := 0) (y := 161) (by decide +kernel) rfl
theorem dX10_comeWaiting_56 : decode cX10_comeWaiting 56 = .ok (.invokevirtual 53, 3) := dk_182 (x := 0) (y := 53) (by decide +kernel) rfl
theorem dX10_comeWaiting_59 : decode cX10_comeWaiting 59 = .ok (.aload_n 0, 1) := dk_42 (by decide +kernel)
theorem dX10_comeWaiting_60 : decode cX10_comeWaiting 60 = .ok (.iload_n 1, 1) := dk_27 (by decide +kernel)
theorem dX10_comeWaiting_61 : decode cX10_comeWaiting 61 = .ok (.iconst 4, 1) := dk_7 (by decide +kernel)
theorem dX10_comeWaiting_62 : decode cX10_comeWaiting 62 = .ok (.iconst 2, 1) := dk_5 (by decide +kernel)
theorem dX10_comeWaiting_63 : decode cX10_comeWaiting 63 = .ok (.iload 4, 2) := dk_21 (x := 4) (by decide +kernel)
theorem dX10_comeWaiting_65 : decode cX10_comeWaiting 65 = .ok (.imul, 1) := dk_104 (by decide +kernel)
theorem dX10_comeWaiting_66 : decode cX10_comeWaiting 66 = .ok (.iadd, 1) := dk_96 (by decide +kernel)
theorem dX10_comeWaiting_67 : decode cX10_comeWaiting 67 = .ok (.iconst 1, 1) := dk_4 (by decide +kernel)
theorem dX10_comeWaiting_68 : decode cX10_comeWaiting 68 = .ok (.iadd, 1) := dk_96 (by decide +kernel)
theorem dX10_comeWaiting_69 : decode cX10_comeWaiting 69 = .ok (.aload_n 0, 1) := dk_42 (by decide +kernel)
theorem dX10_comeWaiting_70 : decode cX10_comeWaiting 70 = .ok (.iload_n 1, 1) := dk_27 (by decide +kernel)
theorem dX10_comeWaiting_71 : decode cX10_comeWaiting 71 = .ok (.iload 4, 2) := dk_21 (x := 4) (by decide +kernel)
theorem dX10_comeWaiting_73 : decode cX10_comeWaiting 73 = .ok (.iconst 1, 1) := dk_4 (by decide +kernel)
theorem dX10_comeWaiting_74 : decode cX10_comeWaiting 74 = .ok (.isub, 1) := dk_100 (by decide +kernel)
theorem dX10_comeWaiting_75 : decode cX10_comeWaiting 75 = .ok (.invokevirtual 158, 3) := dk_182 (x := 0) (y := 158) (by decide +kernel) rfl
theorem dX10_comeWaiting_78 : decode cX10_comeWaiting 78 = .ok (.invokevirtual 53, 3) := dk_182 (x := 0) (y := 53) (by decide +kernel) rfl
theorem dX10_comeWaiting_81 : decode cX10_comeWaiting 81 = .ok (.iinc 4 (-1), 3) := dk_132 (x := 4) (y := 255) (by decide +kernel) rfl
theorem dX10_comeWaiting_84 : decode cX10_comeWaiting 84 = .ok (.goto (-76), 3) := dk_167 (x := 255) (y := 180) (by decide +kernel) rfl
theorem dX10_comeWaiting_87 : decode cX10_comeWaiting 87 = .ok (.aload_n 0, 1) := dk_42 (by decide +kernel)
theorem dX10_comeWaiting_88 : decode cX10_comeWaiting 88 = .ok (.iload_n 1, 1) := dk_27 (by decide +kernel)
theorem dX10_comeWaiting_89 : decode cX10_comeWaiting 89 = .ok (.iconst 4, 1) := dk_7 (by decide +kernel)
theorem dX10_comeWaiting_90 : decode cX10_comeWaiting 90 = .ok (.iconst 2, 1) := dk_5 (by decide +kernel)
theorem dX10_comeWaiting_91 : decode cX10_comeWaiting 91 = .ok (.iload 4, 2) := dk_21 (x := 4) (by decide +kernel)
theorem dX10_comeWaiting_93 : decode cX10_comeWaiting 93 = .ok (.imul, 1) := dk_104 (by decide +kernel)
theorem dX10_comeWaiting_94 : decode cX10_comeWaiting 94 = .ok (.iadd, 1) := dk_96 (by decide +kernel)
theorem dX10_comeWaiting_95 : decode cX10_comeWaiting 95 = .ok (.iload_n 2, 1) := dk_28 (by decide +kernel)
theorem dX10_comeWaiting_96 : decode cX10_comeWaiting 96 = .ok (.invokevirtual 53, 3) := dk_182 (x := 0) (y := 53) (by decide +kernel) rfl
theorem dX10_comeWaiting_99 : decode cX10_comeWaiting 99 = .ok (.aload_n 0, 1) := dk_42 (by decide +kernel)
theorem dX10_comeWaiting_100 : decode cX10_comeWaiting 100 = .ok (.iload_n 1, 1) := dk_27 (by decide +kernel)
theorem dX10_comeWaiting_101 : decode cX10_comeWaiting 101 = .ok (.iconst 4, 1) := dk_7 (by decide +kernel)
theorem dX10_comeWaiting_102 : decode cX10_comeWaiting 102 = .ok (.iconst 2, 1) := dk_5 (by decide +kernel)
theorem dX10_comeWaiting_103 : decode cX10_comeWaiting 103 = .ok (.iload 4, 2) := dk_21 (x := 4) (by decide +kernel)
theorem dX10_comeWaiting_105 : decode cX10_comeWaiting 105 = .ok (.imul, 1) := dk_104 (by decide +kernel)
theorem dX10_comeWaiting_106 : decode cX10_comeWaiting 106 = .ok (.iadd, 1) := dk_96 (by decide +kernel)
theorem dX10_comeWaiting_107 : decode cX10_comeWaiting 107 = .ok (.iconst 1, 1) := dk_4 (by decide +kernel)
theorem dX10_comeWaiting_108 : decode cX10_comeWaiting 108 = .ok (.iadd, 1) := dk_96 (by decide +kernel)
theorem dX10_comeWaiting_109 : decode cX10_comeWaiting 109 = .ok (.iload_n 3, 1) := dk_29 (by decide +kernel)
theorem dX10_comeWaiting_110 : decode cX10_comeWaiting 110 = .ok (.invokevirtual 53, 3) := dk_182 (x := 0) (y := 53) (by decide +kernel) rfl
theorem dX10_comeWaiting_113 : decode cX10_comeWaiting 113 = .ok (.aload_n 0, 1) := dk_42 (by decide +kernel)
theorem dX10_comeWaiting_114 : decode cX10_comeWaiting 114 = .ok (.iload_n 1, 1) := dk_27 (by decide +kernel)
theorem dX10_comeWaiting_115 : decode cX10_comeWaiting 115 = .ok (.iconst 3, 1) := dk_6 (by decide +kernel)
theorem dX10_comeWaiting_116 : decode cX10_comeWaiting 116 = .ok (.aload_n 0, 1) := dk_42 (by decide +kernel)
theorem dX10_comeWaiting_117 : decode cX10_comeWaiting 117 = .ok (.iload_n 1, 1) := dk_27 (by decide +kernel)
theorem dX10_comeWaiting_118 : decode cX10_comeWaiting 118 = .ok (.iconst 3, 1) := dk_6 (by decide +kernel)
theorem dX10_comeWaiting_119 : decode cX10_comeWaiting 119 = .ok (.invokevirtual 151, 3) := dk_182 (x := 0) (y := 151) (by decide +kernel) rfl
theorem dX10_comeWaiting_122 : decode cX10_comeWaiting 122 = .ok (.iconst 1, 1) := dk_4 (by decide +kernel)
theorem dX10_comeWaiting_123 : decode cX10_comeWaiting 123 = .ok (.iadd, 1) := dk_96 (by decide +kernel)
theorem dX10_comeWaiting_124 : decode cX10_comeWaiting 124 = .ok (.invokevirtual 53, 3) := dk_182 (x := 0) (y := 53) (by decide +kernel) rfl
theorem dX10_comeWaiting_127 : decode cX10_comeWaiting 127 = .ok (.return_, 1) := dk_177 (by decide +kernel)
def f_X10_comeWaiting_87 (n : Nat) (v0 : Nat) (v1 : Int32) (v2 : Int32) (v3 : Int32) (v4 : Int32) (M : Mem) : Option Mem :=
    chk (isO M 10 v0) <|
    obd (f_X10_put v0 v1 ((4 : Int32) + ((2 : Int32) * v4)) v2 M) fun M3 =>
    chk (isO M3 10 v0) <|
    obd (f_X10_put v0 v1 (((4 : Int32) + ((2 : Int32) * v4)) + (1 : Int32)) v3 M3) fun M6 =>
    chk (isO M6 10 v0) <|
    obd (f_X10_of v0 v1 (3 : Int32) M6) fun r9 =>
    obd (f_X10_put v0 v1 (3 : Int32) (r9 + (1 : Int32)) M6) fun M11 =>
    some M11
def f_X10_comeWaiting_8 : Nat → Nat → Int32 → Int32 → Int32 → Int32 → Mem → Option Mem
  | 0, _, _, _, _, _, _ => none
  | n + 1, v0, v1, v2, v3, v4, M =>
    if v4 ≤ 0 then (
      f_X10_comeWaiting_87 n v0 v1 v2 v3 v4 M
      ) else (
      chk (isO M 10 v0) <|
      obd (f_X10_waitStamp v0 v1 (v4 - (1 : Int32)) M) fun r5 =>
      obd (f_X10_waitNode v0 v1 (v4 - (1 : Int32)) M) fun r7 =>
      obd (f_X10_isAhead v3 v2 r5 r7 M) fun r9 =>
      if r9 = 0 then (
        f_X10_comeWaiting_87 n v0 v1 v2 v3 v4 M
        ) else (
        obd (f_X10_waitNode v0 v1 (v4 - (1 : Int32)) M) fun r13 =>
        obd (f_X10_put v0 v1 ((4 : Int32) + ((2 : Int32) * v4)) r13 M) fun M15 =>
        chk (isO M15 10 v0) <|
        obd (f_X10_waitStamp v0 v1 (v4 - (1 : Int32)) M15) fun r18 =>
        obd (f_X10_put v0 v1 (((4 : Int32) + ((2 : Int32) * v4)) + (1 : Int32)) r18 M15) fun M20 =>
        bnd (v4 + (-1 : Int32)) fun x21 =>
        f_X10_comeWaiting_8 n v0 v1 v2 v3 x21 M20
        )
      )
def f_X10_comeWaiting (n : Nat) (o : Nat) (a1 : Int32) (a2 : Int32) (a3 : Int32) (M : Mem) : Option Mem :=
  chk (isO M 10 o) <|
  obd (f_X10_of o a1 (3 : Int32) M) fun r3 =>
  f_X10_comeWaiting_8 n o a1 a2 a3 r3 M
theorem cd_X10_comeWaiting : (yX10_comeWaiting.cls ≠ "java/lang/invoke/MethodHandle" ∧ yX10_comeWaiting.cls ≠ "java/lang/invoke/VarHandle") ∧ (parseMethodDescriptor yX10_comeWaiting.desc).map (fun d => d.parameters.length) = some 3 := ⟨⟨by decide +kernel, by decide +kernel⟩, by decide +kernel⟩
section
variable {p : Program} {l : Launch} {e : Env} {R : Room} {s : State} {m : MethodId} {args : Array Value} {below : List Frame} {meth : Method} {c : Code} {G : Gam} {M0 : Mem}
theorem l_X10_comeWaiting_87 {rv : Mem} {n : Nat} {v0 : Nat} {v1 : Int32} {v2 : Int32} {v3 : Int32} {v4 : Int32} {M : Mem} (X : Cx p R s m args c G M0 cX10_comeWaiting yX10_comeWaiting.cls 5 2 44) (hr : meth.sig.returnType = none) (hlk : meth.locks = false) (hnm : meth.name = "comeWaiting") (hf : f_X10_comeWaiting_87 n v0 v1 v2 v3 v4 M = some rv) : Sg p l e R s m args below meth c (Qm below G args s none M0 rv) G M0 5 87 [(0, .ref (gB G + v0)), (1, .int v1), (2, .int v2), (3, .int v3), (4, .int v4)] [] M := by
  rw [f_X10_comeWaiting_87] at hf
  refine s_aload_n X 0 dX10_comeWaiting_87 rfl rfl ?_
  refine s_iload_n X 1 dX10_comeWaiting_88 rfl rfl ?_
  refine s_iconst X (v := (4 : Int32)) dX10_comeWaiting_89 rfl ?_
  refine s_iconst X (v := (2 : Int32)) dX10_comeWaiting_90 rfl ?_
  refine s_iload X 4 dX10_comeWaiting_91 rfl ?_
  refine s_imul X dX10_comeWaiting_93 ?_
  refine s_iadd X dX10_comeWaiting_94 ?_
  refine s_iload_n X 2 dX10_comeWaiting_95 rfl rfl ?_
  obtain ⟨h1, hf⟩ := pk_chk hf
  obtain ⟨M3, hc2, hf⟩ := pk_obd hf
  refine s_callV X (ci := 10) (k_X10_put G hc2) rfl h1 wd1433 wd1435 wd51 wd1436 wd138 cd_X10_put ⟨Nat.le_of_ble_eq_true rfl, Nat.le_of_ble_eq_true rfl⟩ (Nat.le_of_ble_eq_true rfl) dX10_comeWaiting_96 ?_
  refine s_aload_n X 0 dX10_comeWaiting_99 rfl rfl ?_
  refine s_iload_n X 1 dX10_comeWaiting_100 rfl rfl ?_
  refine s_iconst X (v := (4 : Int32)) dX10_comeWaiting_101 rfl ?_
  refine s_iconst X (v := (2 : Int32)) dX10_comeWaiting_102 rfl ?_
  refine s_iload X 4 dX10_comeWaiting_103 rfl ?_
  refine s_imul X dX10_comeWaiting_105 ?_
  refine s_iadd X dX10_comeWaiting_106 ?_
  refine s_iconst X (v := (1 : Int32)) dX10_comeWaiting_107 rfl ?_
  refine s_iadd X dX10_comeWaiting_108 ?_
  refine s_iload_n X 3 dX10_comeWaiting_109 rfl rfl ?_
  obtain ⟨h4, hf⟩ := pk_chk hf
  obtain ⟨M6, hc5, hf⟩ := pk_obd hf
  refine s_callV X (ci := 10) (k_X10_put G hc5) rfl h4 wd1433 wd1435 wd51 wd1436 wd138 cd_X10_put ⟨Nat.le_of_ble_eq_true rfl, Nat.le_of_ble_eq_true rfl⟩ (Nat.le_of_ble_eq_true rfl) dX10_comeWaiting_110 ?_
  refine s_aload_n X 0 dX10_comeWaiting_113 rfl rfl ?_
  refine s_iload_n X 1 dX10_comeWaiting_114 rfl rfl ?_
  refine s_iconst X (v := (3 : Int32)) dX10_comeWaiting_115 rfl ?_
  refine s_aload_n X 0 dX10_comeWaiting_116 rfl rfl ?_
  refine s_iload_n X 1 dX10_comeWaiting_117 rfl rfl ?_
  refine s_iconst X (v := (3 : Int32)) dX10_comeWaiting_118 rfl ?_
  obtain ⟨h7, hf⟩ := pk_chk hf
  obtain ⟨r9, hc8, hf⟩ := pk_obd hf
  refine s_callV X (ci := 10) (k_X10_of G hc8) rfl h7 wd1761 wd1763 wd79 wd1764 wd138 cd_X10_of ⟨Nat.le_of_ble_eq_true rfl, Nat.le_of_ble_eq_true rfl⟩ (Nat.le_of_ble_eq_true rfl) dX10_comeWaiting_119 ?_
  refine s_iconst X (v := (1 : Int32)) dX10_comeWaiting_122 rfl ?_
  refine s_iadd X dX10_comeWaiting_123 ?_
  obtain ⟨M11, hc10, hf⟩ := pk_obd hf
  refine s_callV X (ci := 10) (k_X10_put G hc10) rfl h7 wd1433 wd1435 wd51 wd1436 wd138 cd_X10_put ⟨Nat.le_of_ble_eq_true rfl, Nat.le_of_ble_eq_true rfl⟩ (Nat.le_of_ble_eq_true rfl) dX10_comeWaiting_124 ?_
  cases hf
  exact s_vret X hr hlk dX10_comeWaiting_127
theorem l_X10_comeWaiting_8 {rv : Mem} (X : Cx p R s m args c G M0 cX10_comeWaiting yX10_comeWaiting.cls 5 2 44) (hr : meth.sig.returnType = none) (hlk : meth.locks = false) (hnm : meth.name = "comeWaiting") : ∀ {n : Nat} (v0 : Nat) (v1 : Int32) (v2 : Int32) (v3 : Int32) (v4 : Int32) (M : Mem), f_X10_comeWaiting_8 n v0 v1 v2 v3 v4 M = some rv → Sg p l e R s m args below meth c (Qm below G args s none M0 rv) G M0 5 8 [(0, .ref (gB G + v0)), (1, .int v1), (2, .int v2), (3, .int v3), (4, .int v4)] [] M := by
  intro n
  induction n with
  | zero => intro v0 v1 v2 v3 v4 M hf; exact (pk_none hf).elim
  | succ n ih =>
    intro v0 v1 v2 v3 v4 M hf
    rw [f_X10_comeWaiting_8] at hf
    refine s_iload X 4 dX10_comeWaiting_8 rfl ?_
    have hs1 := pk_ite hf
    clear hf
    refine s_if_le X (tgt := 87) dX10_comeWaiting_10 rfl (fun c2 => ?_) (fun c2 => ?_)
    · have hf := hs1.1 c2
      exact l_X10_comeWaiting_87 X hr hlk hnm hf
    · have hf := hs1.2 c2
      refine s_iload_n X 3 dX10_comeWaiting_13 rfl rfl ?_
      refine s_iload_n X 2 dX10_comeWaiting_14 rfl rfl ?_
      refine s_aload_n X 0 dX10_comeWaiting_15 rfl rfl ?_
      refine s_iload_n X 1 dX10_comeWaiting_16 rfl rfl ?_
      refine s_iload X 4 dX10_comeWaiting_17 rfl ?_
      refine s_iconst X (v := (1 : Int32)) dX10_comeWaiting_19 rfl ?_
      refine s_isub X dX10_comeWaiting_20 ?_
      obtain ⟨h3, hf⟩ := pk_chk hf
      obtain ⟨r5, hc4, hf⟩ := pk_obd hf
      refine s_callV X (ci := 10) (k_X10_waitStamp G hc4) rfl h3 wd1769 wd1771 wd81 wd1772 wd138 cd_X10_waitStamp ⟨Nat.le_of_ble_eq_true rfl, Nat.le_of_ble_eq_true rfl⟩ (Nat.le_of_ble_eq_true rfl) dX10_comeWaiting_21 ?_
      refine s_aload_n X 0 dX10_comeWaiting_24 rfl rfl ?_
      refine s_iload_n X 1 dX10_comeWaiting_25 rfl rfl ?_
      refine s_iload X 4 dX10_comeWaiting_26 rfl ?_
      refine s_iconst X (v := (1 : Int32)) dX10_comeWaiting_28 rfl ?_
      refine s_isub X dX10_comeWaiting_29 ?_
      obtain ⟨r7, hc6, hf⟩ := pk_obd hf
      refine s_callV X (ci := 10) (k_X10_waitNode G hc6) rfl h3 wd1765 wd1767 wd80 wd1768 wd138 cd_X10_waitNode ⟨Nat.le_of_ble_eq_true rfl, Nat.le_of_ble_eq_true rfl⟩ (Nat.le_of_ble_eq_true rfl) dX10_comeWaiting_30 ?_
      obtain ⟨r9, hc8, hf⟩ := pk_obd hf
      refine s_callS X (k_X10_isAhead G hc8) wd1777 wd1778 wd1779 wd138 cd_X10_isAhead ⟨Nat.le_of_ble_eq_true rfl, Nat.le_of_ble_eq_true rfl⟩ (Nat.le_of_ble_eq_true rfl) dX10_comeWaiting_33 ?_
      have hs10 := pk_ite hf
      clear hf
      refine s_if_eq X (tgt := 87) dX10_comeWaiting_36 rfl (fun c11 => ?_) (fun c11 => ?_)
      · have hf := hs10.1 c11
        exact l_X10_comeWaiting_87 X hr hlk hnm hf
      · have hf := hs10.2 c11
        refine s_aload_n X 0 dX10_comeWaiting_39 rfl rfl ?_
        refine s_iload_n X 1 dX10_comeWaiting_40 rfl rfl ?_
        refine s_iconst X (v := (4 : Int32)) dX10_comeWaiting_41 rfl ?_
        refine s_iconst X (v := (2 : Int32)) dX10_comeWaiting_42 rfl ?_
        refine s_iload X 4 dX10_comeWaiting_43 rfl ?_
        refine s_imul X dX10_comeWaiting_45 ?_
        refine s_iadd X dX10_comeWaiting_46 ?_
        refine s_aload_n X 0 dX10_comeWaiting_47 rfl rfl ?_
        refine s_iload_n X 1 dX10_comeWaiting_48 rfl rfl ?_
        refine s_iload X 4 dX10_comeWaiting_49 rfl ?_
        refine s_iconst X (v := (1 : Int32)) dX10_comeWaiting_51 rfl ?_
        refine s_isub X dX10_comeWaiting_52 ?_
        obtain ⟨r13, hc12, hf⟩ := pk_obd hf
        refine s_callV X (ci := 10) (k_X10_waitNode G hc12) rfl h3 wd1765 wd1767 wd80 wd1768 wd138 cd_X10_waitNode ⟨Nat.le_of_ble_eq_true rfl, Nat.le_of_ble_eq_true rfl⟩ (Nat.le_of_ble_eq_true rfl) dX10_comeWaiting_53 ?_
        obtain ⟨M15, hc14, hf⟩ := pk_obd hf
        refine s_callV X (ci := 10) (k_X10_put G hc14) rfl h3 wd1433 wd1435 wd51 wd1436 wd138 cd_X10_put ⟨Nat.le_of_ble_eq_true rfl, Nat.le_of_ble_eq_true rfl⟩ (Nat.le_of_ble_eq_true rfl) dX10_comeWaiting_56 ?_
        refine s_aload_n X 0 dX10_comeWaiting_59 rfl rfl ?_
        refine s_iload_n X 1 dX10_comeWaiting_60 rfl rfl ?_
        refine s_iconst X (v := (4 : Int32)) dX10_comeWaiting_61 rfl ?_
        refine s_iconst X (v := (2 : Int32)) dX10_comeWaiting_62 rfl ?_
        refine s_iload X 4 dX10_comeWaiting_63 rfl ?_
        refine s_imul X dX10_comeWaiting_65 ?_
        refine s_iadd X dX10_comeWaiting_66 ?_
        refine s_iconst X (v := (1 : Int32)) dX10_comeWaiting_67 rfl ?_
        refine s_iadd X dX10_comeWaiting_68 ?_
        refine s_aload_n X 0 dX10_comeWaiting_69 rfl rfl ?_
        refine s_iload_n X 1 dX10_comeWaiting_70 rfl rfl ?_
        refine s_iload X 4 dX10_comeWaiting_71 rfl ?_
        refine s_iconst X (v := (1 : Int32)) dX10_comeWaiting_73 rfl ?_
        refine s_isub X dX10_comeWaiting_74 ?_
        obtain ⟨h16, hf⟩ := pk_chk hf
        obtain ⟨r18, hc17, hf⟩ := pk_obd hf
        refine s_callV X (ci := 10) (k_X10_waitStamp G hc17) rfl h16 wd1769 wd1771 wd81 wd1772 wd138 cd_X10_waitStamp ⟨Nat.le_of_ble_eq_true rfl, Nat.le_of_ble_eq_true rfl⟩ (Nat.le_of_ble_eq_true rfl) dX10_comeWaiting_75 ?_
        obtain ⟨M20, hc19, hf⟩ := pk_obd hf
        refine s_callV X (ci := 10) (k_X10_put G hc19) rfl h16 wd1433 wd1435 wd51 wd1436 wd138 cd_X10_put ⟨Nat.le_of_ble_eq_true rfl, Nat.le_of_ble_eq_true rfl⟩ (Nat.le_of_ble_eq_true rfl) dX10_comeWaiting_78 ?_
        obtain ⟨x21, e22, hf⟩ := pk_bnd hf
        refine s_iinc X (vs' := [(0, .ref (gB G + v0)), (1, .int v1), (2, .int v2), (3, .int v3), (4, .int x21)]) 4 dX10_comeWaiting_81 rfl (v := x21) e22.symm (Nat.le_of_ble_eq_true rfl) [1, 2, 3, 4, 0] rfl ?_
        refine s_goto X (tgt := 8) dX10_comeWaiting_84 rfl ?_
        exact ih _ _ _ _ _ _ hf
end
theorem k_X10_comeWaiting (G : Gam) {n : Nat} {o : Nat} {a1 : Int32} {a2 : Int32} {a3 : Int32} {M : Mem} {rv : Mem} (hf : f_X10_comeWaiting n o a1 a2 a3 M = some rv) : Kt yX10_comeWaiting cX10_comeWaiting 5 none 2 44 G [.ref (gB G + o), .int a1, .int a2, .int a3] M rv none := by
  refine Kt.of (by decide) (Nat.le_of_ble_eq_true rfl) ?_
  intro p l e R s m args below meth c X hr hlk hnm
  refine s_drop [0, 1, 2, 3] (vs' := [(0, .ref (gB G + o)), (1, .int a1), (2, .int a2), (3, .int a3)]) rfl ?_
  rw [f_X10_comeWaiting] at hf
  refine s_aload_n X 0 dX10_comeWaiting_0 rfl rfl ?_
  refine s_iload_n X 1 dX10_comeWaiting_1 rfl rfl ?_
  refine s_iconst X (v := (3 : Int32)) dX10_comeWaiting_2 rfl ?_
  obtain ⟨h1, hf⟩ := pk_chk hf
  obtain ⟨r3, hc2, hf⟩ := pk_obd hf
  refine s_callV X (ci := 10) (k_X10_of G hc2) rfl h1 wd1761 wd1763 wd79 wd1764 wd138 cd_X10_of ⟨Nat.le_of_ble_eq_true rfl, Nat.le_of_ble_eq_true rfl⟩ (Nat.le_of_ble_eq_true rfl) dX10_comeWaiting_3 ?_
  refine s_istore X (vs' := [(0, .ref (gB G + o)), (1, .int a1), (2, .int a2), (3, .int a3), (4, .int r3)]) dX10_comeWaiting_6 (Nat.le_of_ble_eq_true rfl) [1, 2, 3, 4, 0] rfl ?_
  exact l_X10_comeWaiting_8 X hr hlk hnm _ _ _ _ _ _ hf
theorem dX10_nobody_0 : decode cX10_nobody 0 = .ok (.aload_n 0, 1) := dk_42 (by decide +kernel)
theorem dX10_nobody_1 : decode cX10_nobody 1 = .ok (.iload_n 1, 1) := dk_27 (by decide +kernel)
theorem dX10_nobody_2 : decode cX10_nobody 2 = .ok (.iconst 0, 1) := dk_3 (by decide +kernel)
theorem dX10_nobody_3 : decode cX10_nobody 3 = .ok (.iconst (-1), 1) := dk_2 (by decide +kernel)
theorem dX10_nobody_4 : decode cX10_nobody 4 = .ok (.invokevirtual 53, 3) := dk_182 (x := 0) (y := 53) (by decide +kernel) rfl
theorem dX10_nobody_7 : decode cX10_nobody 7 = .ok (.aload_n 0, 1) := dk_42 (by decide +kernel)
theorem dX10_nobody_8 : decode cX10_nobody 8 = .ok (.iload_n 1, 1) := dk_27 (by decide +kernel)
theorem dX10_nobody_9 : decode cX10_nobody 9 = .ok (.iconst 1, 1) := dk_4 (by decide +kernel)
theorem dX10_nobody_10 : decode cX10_nobody 10 = .ok (.iconst 0, 1) := dk_3 (by decide +kernel)
theorem dX10_nobody_11 : decode cX10_nobody 11 = .ok (.invokevirtual 53, 3) := dk_182 (x := 0) (y := 53) (by decide +kernel) rfl
theorem dX10_nobody_14 : decode cX10_nobody 14 = .ok (.aload_n 0, 1) := dk_42 (by decide +kernel)
theorem dX10_nobody_15 : decode cX10_nobody 15 = .ok (.iload_n 1, 1) := dk_27 (by decide +kernel)
theorem dX10_nobody_16 : decode cX10_nobody 16 = .ok (.iconst 2, 1) := dk_5 (by decide +kernel)
theorem dX10_nobody_17 : decode cX10_nobody 17 = .ok (.iconst 0, 1) := dk_3 (by decide +kernel)
theorem dX10_nobody_18 : decode cX10_nobody 18 = .ok (.invokevirtual 53, 3) := dk_182 (x := 0) (y := 53) (by decide +kernel) rfl
theorem dX10_nobody_21 : decode cX10_nobody 21 = .ok (.return_, 1) := dk_177 (by decide +kernel)
def f_X10_nobody (o : Nat) (a1 : Int32) (M : Mem) : Option Mem :=
  chk (isO M 10 o) <|
  obd (f_X10_put o a1 (0 : Int32) (-1 : Int32) M) fun M3 =>
  chk (isO M3 10 o) <|
  obd (f_X10_put o a1 (1 : Int32) (0 : Int32) M3) fun M6 =>
  chk (isO M6 10 o) <|
  obd (f_X10_put o a1 (2 : Int32) (0 : Int32) M6) fun M9 =>
  some M9
theorem cd_X10_nobody : (yX10_nobody.cls ≠ "java/lang/invoke/MethodHandle" ∧ yX10_nobody.cls ≠ "java/lang/invoke/VarHandle") ∧ (parseMethodDescriptor yX10_nobody.desc).map (fun d => d.parameters.length) = some 1 := ⟨⟨by decide +kernel, by decide +kernel⟩, by decide +kernel⟩
theorem k_X10_nobody (G : Gam) {o : Nat} {a1 : Int32} {M : Mem} {rv : Mem} (hf : f_X10_nobody o a1 M = some rv) : Kt yX10_nobody cX10_nobody 2 none 1 23 G [.ref (gB G + o), .int a1] M rv none := by
  refine Kt.of (by decide) (Nat.le_of_ble_eq_true rfl) ?_
  intro p l e R s m args below meth c X hr hlk hnm
  refine s_drop [0, 1] (vs' := [(0, .ref (gB G + o)), (1, .int a1)]) rfl ?_
  rw [f_X10_nobody] at hf
  refine s_aload_n X 0 dX10_nobody_0 rfl rfl ?_
  refine s_iload_n X 1 dX10_nobody_1 rfl rfl ?_
  refine s_iconst X (v := (0 : Int32)) dX10_nobody_2 rfl ?_
  refine s_iconst X (v := (-1 : Int32)) dX10_nobody_3 rfl ?_
  obtain ⟨h1, hf⟩ := pk_chk hf
  obtain ⟨M3, hc2, hf⟩ := pk_obd hf
  refine s_callV X (ci := 10) (k_X10_put G hc2) rfl h1 wd1433 wd1435 wd51 wd1436 wd138 cd_X10_put ⟨Nat.le_of_ble_eq_true rfl, Nat.le_of_ble_eq_true rfl⟩ (Nat.le_of_ble_eq_true rfl) dX10_nobody_4 ?_
  refine s_aload_n X 0 dX10_nobody_7 rfl rfl ?_
  refine s_iload_n X 1 dX10_nobody_8 rfl rfl ?_
  refine s_iconst X (v := (1 : Int32)) dX10_nobody_9 rfl ?_
  refine s_iconst X (v := (0 : Int32)) dX10_nobody_10 rfl ?_
  obtain ⟨h4, hf⟩ := pk_chk hf
  obtain ⟨M6, hc5, hf⟩ := pk_obd hf
  refine s_callV X (ci := 10) (k_X10_put G hc5) rfl h4 wd1433 wd1435 wd51 wd1436 wd138 cd_X10_put ⟨Nat.le_of_ble_eq_true rfl, Nat.le_of_ble_eq_true rfl⟩ (Nat.le_of_ble_eq_true rfl) dX10_nobody_11 ?_
  refine s_aload_n X 0 dX10_nobody_14 rfl rfl ?_
  refine s_iload_n X 1 dX10_nobody_15 rfl rfl ?_
  refine s_iconst X (v := (2 : Int32)) dX10_nobody_16 rfl ?_
  refine s_iconst X (v := (0 : Int32)) dX10_nobody_17 rfl ?_
  obtain ⟨h7, hf⟩ := pk_chk hf
  obtain ⟨M9, hc8, hf⟩ := pk_obd hf
  refine s_callV X (ci := 10) (k_X10_put G hc8) rfl h7 wd1433 wd1435 wd51 wd1436 wd138 cd_X10_put ⟨Nat.le_of_ble_eq_true rfl, Nat.le_of_ble_eq_true rfl⟩ (Nat.le_of_ble_eq_true rfl) dX10_nobody_18 ?_
  cases hf
  exact s_vret X hr hlk dX10_nobody_21
theorem dX10_goWaiting_0 : decode cX10_goWaiting 0 = .ok (.aload_n 0, 1) := dk_42 (by decide +kernel)
theorem dX10_goWaiting_1 : decode cX10_goWaiting 1 = .ok (.iload_n 1, 1) := dk_27 (by decide +kernel)
theorem dX10_goWaiting_2 : decode cX10_goWaiting 2 = .ok (.iconst 3, 1) := dk_6 (by decide +kernel)
theorem dX10_goWaiting_3 : decode cX10_goWaiting 3 = .ok (.invokevirtual 151, 3) := dk_182 (x := 0) (y := 151) (by decide +kernel) rfl
theorem dX10_goWaiting_6 : decode cX10_goWaiting 6 = .ok (.iconst 1, 1) := dk_4 (by decide +kernel)
theorem dX10_goWaiting_7 : decode cX10_goWaiting 7 = .ok (.isub, 1) := dk_100 (by decide +kernel)
theorem dX10_goWaiting_8 : decode cX10_goWaiting 8 = .ok (.istore_n 3, 1) := dk_62 (by decide +kernel)
theorem dX10_goWaiting_9 : decode cX10_goWaiting 9 = .ok (.iconst 2, 1) := dk_5 (by decide +kernel)
theorem dX10_goWaiting_10 : decode cX10_goWaiting 10 = .ok (.iload_n 2, 1) := dk_28 (by decide +kernel)
theorem dX10_goWaiting_11 : decode cX10_goWaiting 11 = .ok (.imul, 1) := dk_104 (by decide +kernel)
theorem dX10_goWaiting_12 : decode cX10_goWaiting 12 = .ok (.istore 4, 2) := dk_54 (x := 4) (by decide +kernel)
theorem dX10_goWaiting_14 : decode cX10_goWaiting 14 = .ok (.iload 4, 2) := dk_21 (x := 4) (by decide +kernel)
theorem dX10_goWaiting_16 : decode cX10_goWaiting 16 = .ok (.iconst 2, 1) := dk_5 (by decide +kernel)
theorem dX10_goWaiting_17 : decode cX10_goWaiting 17 = .ok (.iload_n 3, 1) := dk_29 (by decide +kernel)
theorem dX10_goWaiting_18 : decode cX10_goWaiting 18 = .ok (.imul, 1) := dk_104 (by decide +kernel)
theorem dX10_goWaiting_19 : decode cX10_goWaiting 19 = .ok (.if_icmp .ge 29, 3) := dk_162 (x := 0) (y := 29) (by decide +kernel) rfl
theorem dX10_goWaiting_22 : decode cX10_goWaiting 22 = .ok (.aload_n 0, 1) := dk_42 (by decide +kernel)
theorem dX10_goWaiting_23 : decode cX10_goWaiting 23 = .ok (.iload_n 1, 1) := dk_27 (by decide +kernel)
theorem dX10_goWaiting_24 : decode cX10_goWaiting 24 = .ok (.iconst 4, 1) := dk_7 (by decide +kernel)
theorem dX10_goWaiting_25 : decode cX10_goWaiting 25 = .ok (.iload 4, 2) := dk_21 (x := 4) (by decide +kernel)
theorem dX10_goWaiting_27 : decode cX10_goWaiting 27 = .ok (.iadd, 1) := dk_96 (by decide +kernel)
theorem dX10_goWaiting_28 : decode cX10_goWaiting 28 = .ok (.aload_n 0, 1) := dk_42 (by decide +kernel)
theorem dX10_goWaiting_29 : decode cX10_goWaiting 29 = .ok (.iload_n 1, 1) := dk_27 (by decide +kernel)
theorem dX10_goWaiting_30 : decode cX10_goWaiting 30 = .ok (.iconst 4, 1) := dk_7 (by decide +kernel)
theorem dX10_goWaiting_31 : decode cX10_goWaiting 31 = .ok (.iload 4, 2) := dk_21 (x := 4) (by decide +kernel)
theorem dX10_goWaiting_33 : decode cX10_goWaiting 33 = .ok (.iadd, 1) := dk_96 (by decide +kernel)
theorem dX10_goWaiting_34 : decode cX10_goWaiting 34 = .ok (.iconst 2, 1) := dk_5 (by decide +kernel)
theorem dX10_goWaiting_35 : decode cX10_goWaiting 35 = .ok (.iadd, 1) := dk_96 (by decide +kernel)
theorem dX10_goWaiting_36 : decode cX10_goWaiting 36 = .ok (.invokevirtual 151, 3) := dk_182 (x := 0) (y := 151) (by decide +kernel) rfl
theorem dX10_goWaiting_39 : decode cX10_goWaiting 39 = .ok (.invokevirtual 53, 3) := dk_182 (x := 0) (y := 53) (by decide +kernel) rfl
theorem dX10_goWaiting_42 : decode cX10_goWaiting 42 = .ok (.iinc 4 1, 3) := dk_132 (x := 4) (y := 1) (by decide +kernel) rfl
theorem dX10_goWaiting_45 : decode cX10_goWaiting 45 = .ok (.goto (-31), 3) := dk_167 (x := 255) (y := 225) (by decide +kernel) rfl
theorem dX10_goWaiting_48 : decode cX10_goWaiting 48 = .ok (.aload_n 0, 1) := dk_42 (by decide +kernel)
theorem dX10_goWaiting_49 : decode cX10_goWaiting 49 = .ok (.iload_n 1, 1) := dk_27 (by decide +kernel)
theorem dX10_goWaiting_50 : decode cX10_goWaiting 50 = .ok (.iconst 4, 1) := dk_7 (by decide +kernel)
theorem dX10_goWaiting_51 : decode cX10_goWaiting 51 = .ok (.iconst 2, 1) := dk_5 (by decide +kernel)
theorem dX10_goWaiting_52 : decode cX10_goWaiting 52 = .ok (.iload_n 3, 1) := dk_29 (by decide +kernel)
theorem dX10_goWaiting_53 : decode cX10_goWaiting 53 = .ok (.imul, 1) := dk_104 (by decide +kernel)
theorem dX10_goWaiting_54 : decode cX10_goWaiting 54 = .ok (.iadd, 1) := dk_96 (by decide +kernel)
theorem dX10_goWaiting_55 : decode cX10_goWaiting 55 = .ok (.iconst 0, 1) := dk_3 (by decide +kernel)
theorem dX10_goWaiting_56 : decode cX10_goWaiting 56 = .ok (.invokevirtual 53, 3) := dk_182 (x := 0) (y := 53) (by decide +kernel) rfl
theorem dX10_goWaiting_59 : decode cX10_goWaiting 59 = .ok (.aload_n 0, 1) := dk_42 (by decide +kernel)
theorem dX10_goWaiting_60 : decode cX10_goWaiting 60 = .ok (.iload_n 1, 1) := dk_27 (by decide +kernel)
theorem dX10_goWaiting_61 : decode cX10_goWaiting 61 = .ok (.iconst 4, 1) := dk_7 (by decide +kernel)
theorem dX10_goWaiting_62 : decode cX10_goWaiting 62 = .ok (.iconst 2, 1) := dk_5 (by decide +kernel)
theorem dX10_goWaiting_63 : decode cX10_goWaiting 63 = .ok (.iload_n 3, 1) := dk_29 (by decide +kernel)
theorem dX10_goWaiting_64 : decode cX10_goWaiting 64 = .ok (.imul, 1) := dk_104 (by decide +kernel)
theorem dX10_goWaiting_65 : decode cX10_goWaiting 65 = .ok (.iadd, 1) := dk_96 (by decide +kernel)
theorem dX10_goWaiting_66 : decode cX10_goWaiting 66 = .ok (.iconst 1, 1) := dk_4 (by decide +kernel)
theorem dX10_goWaiting_67 : decode cX10_goWaiting 67 = .ok (.iadd, 1) := dk_96 (by decide +kernel)
theorem dX10_goWaiting_68 : decode cX10_goWaiting 68 = .ok (.iconst 0, 1) := dk_3 (by decide +kernel)
theorem dX10_goWaiting_69 : decode cX10_goWaiting 69 = .ok (.invokevirtual 53, 3) := dk_182 (x := 0) (y := 53) (by decide +kernel) rfl
theorem dX10_goWaiting_72 : decode cX10_goWaiting 72 = .ok (.aload_n 0, 1) := dk_42 (by decide +kernel)
theorem dX10_goWaiting_73 : decode cX10_goWaiting 73 = .ok (.iload_n 1, 1) := dk_27 (by decide +kernel)
theorem dX10_goWaiting_74 : decode cX10_goWaiting 74 = .ok (.iconst 3, 1) := dk_6 (by decide +kernel)
theorem dX10_goWaiting_75 : decode cX10_goWaiting 75 = .ok (.iload_n 3, 1) := dk_29 (by decide +kernel)
theorem dX10_goWaiting_76 : decode cX10_goWaiting 76 = .ok (.invokevirtual 53, 3) := dk_182 (x := 0) (y := 53) (by decide +kernel) rfl
theorem dX10_goWaiting_79 : decode cX10_goWaiting 79 = .ok (.return_, 1) := dk_177 (by decide +kernel)
def f_X10_goWaiting_14 : Nat → Nat → Int32 → Int32 → Int32 → Mem → Option Mem
  | 0, _, _, _, _, _ => none
  | n + 1, v0, v1, v3, v4, M =>
    if ((2 : Int32) * v3) ≤ v4 then (
      chk (isO M 10 v0) <|
      obd (f_X10_put v0 v1 ((4 : Int32) + ((2 : Int32) * v3)) (0 : Int32) M) fun M5 =>
      chk (isO M5 10 v0) <|
      obd (f_X10_put v0 v1 (((4 : Int32) + ((2 : Int32) * v3)) + (1 : Int32)) (0 : Int32) M5) fun M8 =>
      chk (isO M8 10 v0) <|
      obd (f_X10_put v0 v1 (3 : Int32) v3 M8) fun M11 =>
      some M11
      ) else (
      chk (isO M 10 v0) <|
      obd (f_X10_of v0 v1 (((4 : Int32) + v4) + (2 : Int32)) M) fun r14 =>
      obd (f_X10_put v0 v1 ((4 : Int32) + v4) r14 M) fun M16 =>
      bnd (v4 + (1 : Int32)) fun x17 =>
      f_X10_goWaiting_14 n v0 v1 v3 x17 M16
      )
def f_X10_goWaiting (n : Nat) (o : Nat) (a1 : Int32) (a2 : Int32) (M : Mem) : Option Mem :=
  chk (isO M 10 o) <|
  obd (f_X10_of o a1 (3 : Int32) M) fun r3 =>
  bnd (r3 - (1 : Int32)) fun x4 =>
  bnd ((2 : Int32) * a2) fun x6 =>
  f_X10_goWaiting_14 n o a1 x4 x6 M
theorem cd_X10_goWaiting : (yX10_goWaiting.cls ≠ "java/lang/invoke/MethodHandle" ∧ yX10_goWaiting.cls ≠ "java/lang/invoke/VarHandle") ∧ (parseMethodDescriptor yX10_goWaiting.desc).map (fun d => d.parameters.length) = some 2 := ⟨⟨by decide +kernel, by decide +kernel⟩, by decide +kernel⟩
section
variable {p : Program} {l : Launch} {e : Env} {R : Room} {s : State} {m : MethodId} {args : Array Value} {below : List Frame} {meth : Method} {c : Code} {G : Gam} {M0 : Mem}
theorem l_X10_goWaiting_14 {rv : Mem} (X : Cx p R s m args c G M0 cX10_goWaiting yX10_goWaiting.cls 5 1 23) (hr : meth.sig.returnType = none) (hlk : meth.locks = false) (hnm : meth.name = "goWaiting") : ∀ {n : Nat} (v0 : Nat) (v1 : Int32) (v3 : Int32) (v4 : Int32) (M : Mem), f_X10_goWaiting_14 n v0 v1 v3 v4 M = some rv → Sg p l e R s m args below meth c (Qm below G args s none M0 rv) G M0 5 14 [(0, .ref (gB G + v0)), (1, .int v1), (3, .int v3), (4, .int v4)] [] M := by
  intro n
  induction n with
  | zero => intro v0 v1 v3 v4 M hf; exact (pk_none hf).elim
  | succ n ih =>
    intro v0 v1 v3 v4 M hf
    rw [f_X10_goWaiting_14] at hf
    refine s_iload X 3 dX10_goWaiting_14 rfl ?_
    refine s_iconst X (v := (2 : Int32)) dX10_goWaiting_16 rfl ?_
    refine s_iload_n X 2 dX10_goWaiting_17 rfl rfl ?_
    refine s_imul X dX10_goWaiting_18 ?_
    have hs1 := pk_ite hf
    clear hf
    refine s_icmp_ge X (tgt := 48) dX10_goWaiting_19 rfl (fun c2 => ?_) (fun c2 => ?_)
    · have hf := hs1.1 c2
      refine s_aload_n X 0 dX10_goWaiting_48 rfl rfl ?_
      refine s_iload_n X 1 dX10_goWaiting_49 rfl rfl ?_
      refine s_iconst X (v := (4 : Int32)) dX10_goWaiting_50 rfl ?_
      refine s_iconst X (v := (2 : Int32)) dX10_goWaiting_51 rfl ?_
      refine s_iload_n X 2 dX10_goWaiting_52 rfl rfl ?_
      refine s_imul X dX10_goWaiting_53 ?_
      refine s_iadd X dX10_goWaiting_54 ?_
      refine s_iconst X (v := (0 : Int32)) dX10_goWaiting_55 rfl ?_
      obtain ⟨h3, hf⟩ := pk_chk hf
      obtain ⟨M5, hc4, hf⟩ := pk_obd hf
      refine s_callV X (ci := 10) (k_X10_put G hc4) rfl h3 wd1433 wd1435 wd51 wd1436 wd138 cd_X10_put ⟨Nat.le_of_ble_eq_true rfl, Nat.le_of_ble_eq_true rfl⟩ (Nat.le_of_ble_eq_true rfl) dX10_goWaiting_56 ?_
      refine s_aload_n X 0 dX10_goWaiting_59 rfl rfl ?_
      refine s_iload_n X 1 dX10_goWaiting_60 rfl rfl ?_
      refine s_iconst X (v := (4 : Int32)) dX10_goWaiting_61 rfl ?_
      refine s_iconst X (v := (2 : Int32)) dX10_goWaiting_62 rfl ?_
      refine s_iload_n X 2 dX10_goWaiting_63 rfl rfl ?_
      refine s_imul X dX10_goWaiting_64 ?_
      refine s_iadd X dX10_goWaiting_65 ?_
      refine s_iconst X (v := (1 : Int32)) dX10_goWaiting_66 rfl ?_
      refine s_iadd X dX10_goWaiting_67 ?_
      refine s_iconst X (v := (0 : Int32)) dX10_goWaiting_68 rfl ?_
      obtain ⟨h6, hf⟩ := pk_chk hf
      obtain ⟨M8, hc7, hf⟩ := pk_obd hf
      refine s_callV X (ci := 10) (k_X10_put G hc7) rfl h6 wd1433 wd1435 wd51 wd1436 wd138 cd_X10_put ⟨Nat.le_of_ble_eq_true rfl, Nat.le_of_ble_eq_true rfl⟩ (Nat.le_of_ble_eq_true rfl) dX10_goWaiting_69 ?_
      refine s_aload_n X 0 dX10_goWaiting_72 rfl rfl ?_
      refine s_iload_n X 1 dX10_goWaiting_73 rfl rfl ?_
      refine s_iconst X (v := (3 : Int32)) dX10_goWaiting_74 rfl ?_
      refine s_iload_n X 2 dX10_goWaiting_75 rfl rfl ?_
      obtain ⟨h9, hf⟩ := pk_chk hf
      obtain ⟨M11, hc10, hf⟩ := pk_obd hf
      refine s_callV X (ci := 10) (k_X10_put G hc10) rfl h9 wd1433 wd1435 wd51 wd1436 wd138 cd_X10_put ⟨Nat.le_of_ble_eq_true rfl, Nat.le_of_ble_eq_true rfl⟩ (Nat.le_of_ble_eq_true rfl) dX10_goWaiting_76 ?_
      cases hf
      exact s_vret X hr hlk dX10_goWaiting_79
    · have hf := hs1.2 c2
      refine s_aload_n X 0 dX10_goWaiting_22 rfl rfl ?_
      refine s_iload_n X 1 dX10_goWaiting_23 rfl rfl ?_
      refine s_iconst X (v := (4 : Int32)) dX10_goWaiting_24 rfl ?_
      refine s_iload X 3 dX10_goWaiting_25 rfl ?_
      refine s_iadd X dX10_goWaiting_27 ?_
      refine s_aload_n X 0 dX10_goWaiting_28 rfl rfl ?_
      refine s_iload_n X 1 dX10_goWaiting_29 rfl rfl ?_
      refine s_iconst X (v := (4 : Int32)) dX10_goWaiting_30 rfl ?_
      refine s_iload X 3 dX10_goWaiting_31 rfl ?_
      refine s_iadd X dX10_goWaiting_33 ?_
      refine s_iconst X (v := (2 : Int32)) dX10_goWaiting_34 rfl ?_
      refine s_iadd X dX10_goWaiting_35 ?_
      obtain ⟨h12, hf⟩ := pk_chk hf
      obtain ⟨r14, hc13, hf⟩ := pk_obd hf
      refine s_callV X (ci := 10) (k_X10_of G hc13) rfl h12 wd1761 wd1763 wd79 wd1764 wd138 cd_X10_of ⟨Nat.le_of_ble_eq_true rfl, Nat.le_of_ble_eq_true rfl⟩ (Nat.le_of_ble_eq_true rfl) dX10_goWaiting_36 ?_
      obtain ⟨M16, hc15, hf⟩ := pk_obd hf
      refine s_callV X (ci := 10) (k_X10_put G hc15) rfl h12 wd1433 wd1435 wd51 wd1436 wd138 cd_X10_put ⟨Nat.le_of_ble_eq_true rfl, Nat.le_of_ble_eq_true rfl⟩ (Nat.le_of_ble_eq_true rfl) dX10_goWaiting_39 ?_
      obtain ⟨x17, e18, hf⟩ := pk_bnd hf
      refine s_iinc X (vs' := [(0, .ref (gB G + v0)), (1, .int v1), (3, .int v3), (4, .int x17)]) 3 dX10_goWaiting_42 rfl (v := x17) e18.symm (Nat.le_of_ble_eq_true rfl) [1, 2, 3, 0] rfl ?_
      refine s_goto X (tgt := 14) dX10_goWaiting_45 rfl ?_
      exact ih _ _ _ _ _ hf
end
theorem k_X10_goWaiting (G : Gam) {n : Nat} {o : Nat} {a1 : Int32} {a2 : Int32} {M : Mem} {rv : Mem} (hf : f_X10_goWaiting n o a1 a2 M = some rv) : Kt yX10_goWaiting cX10_goWaiting 5 none 1 23 G [.ref (gB G + o), .int a1, .int a2] M rv none := by
  refine Kt.of (by decide) (Nat.le_of_ble_eq_true rfl) ?_
  intro p l e R s m args below meth c X hr hlk hnm
  refine s_drop [0, 1, 2] (vs' := [(0, .ref (gB G + o)), (1, .int a1), (2, .int a2)]) rfl ?_
  rw [f_X10_goWaiting] at hf
  refine s_aload_n X 0 dX10_goWaiting_0 rfl rfl ?_
  refine s_iload_n X 1 dX10_goWaiting_1 rfl rfl ?_
  refine s_iconst X (v := (3 : Int32)) dX10_goWaiting_2 rfl ?_
  obtain ⟨h1, hf⟩ := pk_chk hf
  obtain ⟨r3, hc2, hf⟩ := pk_obd hf
  refine s_callV X (ci := 10) (k_X10_of G hc2) rfl h1 wd1761 wd1763 wd79 wd1764 wd138 cd_X10_of ⟨Nat.le_of_ble_eq_true rfl, Nat.le_of_ble_eq_true rfl⟩ (Nat.le_of_ble_eq_true rfl) dX10_goWaiting_3 ?_
  refine s_iconst X (v := (1 : Int32)) dX10_goWaiting_6 rfl ?_
  refine s_isub X dX10_goWaiting_7 ?_
  obtain ⟨x4, e5, hf⟩ := pk_bnd hf
  refine s_nmI e5 ?_
  refine s_istore_n X (vs' := [(0, .ref (gB G + o)), (1, .int a1), (2, .int a2), (3, .int x4)]) dX10_goWaiting_8 rfl (Nat.le_of_ble_eq_true rfl) [1, 2, 3, 0] rfl ?_
  refine s_iconst X (v := (2 : Int32)) dX10_goWaiting_9 rfl ?_
  refine s_iload_n X 2 dX10_goWaiting_10 rfl rfl ?_
  refine s_imul X dX10_goWaiting_11 ?_
  obtain ⟨x6, e7, hf⟩ := pk_bnd hf
  refine s_nmI e7 ?_
  refine s_istore X (vs' := [(0, .ref (gB G + o)), (1, .int a1), (2, .int a2), (3, .int x4), (4, .int x6)]) dX10_goWaiting_12 (Nat.le_of_ble_eq_true rfl) [1, 2, 3, 4, 0] rfl ?_
  refine s_drop [0, 1, 3, 4] (vs' := [(0, .ref (gB G + o)), (1, .int a1), (3, .int x4), (4, .int x6)]) rfl ?_
  exact l_X10_goWaiting_14 X hr hlk hnm _ _ _ _ _ hf
theorem dX10_grantFirst_0 : decode cX10_grantFirst 0 = .ok (.aload_n 0, 1) := dk_42 (by decide +kernel)
theorem dX10_grantFirst_1 : decode cX10_grantFirst 1 = .ok (.iload_n 1, 1) := dk_27 (by decide +kernel)
theorem dX10_grantFirst_2 : decode cX10_grantFirst 2 = .ok (.invokevirtual 164, 3) := dk_182 (x := 0) (y := 164) (by decide +kernel) rfl
theorem dX10_grantFirst_5 : decode cX10_grantFirst 5 = .ok (.aload_n 0, 1) := dk_42 (by decide +kernel)
theorem dX10_grantFirst_6 : decode cX10_grantFirst 6 = .ok (.iload_n 1, 1) := dk_27 (by decide +kernel)
theorem dX10_grantFirst_7 : decode cX10_grantFirst 7 = .ok (.iconst 3, 1) := dk_6 (by decide +kernel)
theorem dX10_grantFirst_8 : decode cX10_grantFirst 8 = .ok (.invokevirtual 151, 3) := dk_182 (x := 0) (y := 151) (by decide +kernel) rfl
theorem dX10_grantFirst_11 : decode cX10_grantFirst 11 = .ok (.ifCond .ne 4, 3) := dk_154 (x := 0) (y := 4) (by decide +kernel) rfl
theorem dX10_grantFirst_14 : decode cX10_grantFirst 14 = .ok (.return_, 1) := dk_177 (by decide +kernel)
theorem dX10_grantFirst_15 : decode cX10_grantFirst 15 = .ok (.aload_n 0, 1) := dk_42 (by decide +kernel)
theorem dX10_grantFirst_16 : decode cX10_grantFirst 16 = .ok (.iload_n 1, 1) := dk_27 (by decide +kernel)
theorem dX10_grantFirst_17 : decode cX10_grantFirst 17 = .ok (.iconst 0, 1) := dk_3 (by decide +kernel)
theorem dX10_grantFirst_18 : decode cX10_grantFirst 18 = .ok (.aload_n 0, 1) := dk_42 (by decide +kernel)
theorem dX10_grantFirst_19 : decode cX10_grantFirst 19 = .ok (.iload_n 1, 1) := dk_27 (by decide +kernel)
theorem dX10_grantFirst_20 : decode cX10_grantFirst 20 = .ok (.iconst 0, 1) := dk_3 (by decide +kernel)
theorem dX10_grantFirst_21 : decode cX10_grantFirst 21 = .ok (.invokevirtual 161, 3) := dk_182 (x := 0) (y := 161) (by decide +kernel) rfl
theorem dX10_grantFirst_24 : decode cX10_grantFirst 24 = .ok (.invokevirtual 53, 3) := dk_182 (x := 0) (y := 53) (by decide +kernel) rfl
theorem dX10_grantFirst_27 : decode cX10_grantFirst 27 = .ok (.aload_n 0, 1) := dk_42 (by decide +kernel)
theorem dX10_grantFirst_28 : decode cX10_grantFirst 28 = .ok (.iload_n 1, 1) := dk_27 (by decide +kernel)
theorem dX10_grantFirst_29 : decode cX10_grantFirst 29 = .ok (.iconst 1, 1) := dk_4 (by decide +kernel)
theorem dX10_grantFirst_30 : decode cX10_grantFirst 30 = .ok (.aload_n 0, 1) := dk_42 (by decide +kernel)
theorem dX10_grantFirst_31 : decode cX10_grantFirst 31 = .ok (.iload_n 1, 1) := dk_27 (by decide +kernel)
theorem dX10_grantFirst_32 : decode cX10_grantFirst 32 = .ok (.iconst 0, 1) := dk_3 (by decide +kernel)
theorem dX10_grantFirst_33 : decode cX10_grantFirst 33 = .ok (.invokevirtual 158, 3) := dk_182 (x := 0) (y := 158) (by decide +kernel) rfl
theorem dX10_grantFirst_36 : decode cX10_grantFirst 36 = .ok (.invokevirtual 53, 3) := dk_182 (x := 0) (y := 53) (by decide +kernel) rfl
theorem dX10_grantFirst_39 : decode cX10_grantFirst 39 = .ok (.aload_n 0, 1) := dk_42 (by decide +kernel)
theorem dX10_grantFirst_40 : decode cX10_grantFirst 40 = .ok (.iload_n 1, 1) := dk_27 (by decide +kernel)
theorem dX10_grantFirst_41 : decode cX10_grantFirst 41 = .ok (.iconst 0, 1) := dk_3 (by decide +kernel)
theorem dX10_grantFirst_42 : decode cX10_grantFirst 42 = .ok (.invokevirtual 168, 3) := dk_182 (x := 0) (y := 168) (by decide +kernel) rfl
theorem dX10_grantFirst_45 : decode cX10_grantFirst 45 = .ok (.aload_n 0, 1) := dk_42 (by decide +kernel)
theorem dX10_grantFirst_46 : decode cX10_grantFirst 46 = .ok (.iconst 1, 1) := dk_4 (by decide +kernel)
theorem dX10_grantFirst_47 : decode cX10_grantFirst 47 = .ok (.iload_n 1, 1) := dk_27 (by decide +kernel)
theorem dX10_grantFirst_48 : decode cX10_grantFirst 48 = .ok (.aload_n 0, 1) := dk_42 (by decide +kernel)
theorem dX10_grantFirst_49 : decode cX10_grantFirst 49 = .ok (.iload_n 1, 1) := dk_27 (by decide +kernel)
theorem dX10_grantFirst_50 : decode cX10_grantFirst 50 = .ok (.iconst 0, 1) := dk_3 (by decide +kernel)
theorem dX10_grantFirst_51 : decode cX10_grantFirst 51 = .ok (.invokevirtual 151, 3) := dk_182 (x := 0) (y := 151) (by decide +kernel) rfl
theorem dX10_grantFirst_54 : decode cX10_grantFirst 54 = .ok (.aload_n 0, 1) := dk_42 (by decide +kernel)
theorem dX10_grantFirst_55 : decode cX10_grantFirst 55 = .ok (.iload_n 1, 1) := dk_27 (by decide +kernel)
theorem dX10_grantFirst_56 : decode cX10_grantFirst 56 = .ok (.iconst 1, 1) := dk_4 (by decide +kernel)
theorem dX10_grantFirst_57 : decode cX10_grantFirst 57 = .ok (.invokevirtual 151, 3) := dk_182 (x := 0) (y := 151) (by decide +kernel) rfl
theorem dX10_grantFirst_60 : decode cX10_grantFirst 60 = .ok (.invokevirtual 147, 3) := dk_182 (x := 0) (y := 147) (by decide +kernel) rfl
theorem dX10_grantFirst_63 : decode cX10_grantFirst 63 = .ok (.return_, 1) := dk_177 (by decide +kernel)
def f_X10_grantFirst (n : Nat) (o : Nat) (a1 : Int32) (M : Mem) : Option Mem :=
  chk (isO M 10 o) <|
  obd (f_X10_nobody o a1 M) fun M3 =>
  chk (isO M3 10 o) <|
  obd (f_X10_of o a1 (3 : Int32) M3) fun r6 =>
  if r6 = 0 then (
    some M3
    ) else (
    obd (f_X10_waitNode o a1 (0 : Int32) M3) fun r10 =>
    obd (f_X10_put o a1 (0 : Int32) r10 M3) fun M12 =>
    chk (isO M12 10 o) <|
    obd (f_X10_waitStamp o a1 (0 : Int32) M12) fun r15 =>
    obd (f_X10_put o a1 (1 : Int32) r15 M12) fun M17 =>
    chk (isO M17 10 o) <|
    obd (f_X10_goWaiting n o a1 (0 : Int32) M17) fun M20 =>
    chk (isO M20 10 o) <|
    obd (f_X10_of o a1 (0 : Int32) M20) fun r23 =>
    obd (f_X10_of o a1 (1 : Int32) M20) fun r25 =>
    obd (f_X10_send n o (1 : Int32) a1 r23 r25 M20) fun M27 =>
    some M27
    )
theorem cd_X10_grantFirst : (yX10_grantFirst.cls ≠ "java/lang/invoke/MethodHandle" ∧ yX10_grantFirst.cls ≠ "java/lang/invoke/VarHandle") ∧ (parseMethodDescriptor yX10_grantFirst.desc).map (fun d => d.parameters.length) = some 1 := ⟨⟨by decide +kernel, by decide +kernel⟩, by decide +kernel⟩
theorem k_X10_grantFirst (G : Gam) {n : Nat} {o : Nat} {a1 : Int32} {M : Mem} {rv : Mem} (hf : f_X10_grantFirst n o a1 M = some rv) : Kt yX10_grantFirst cX10_grantFirst 2 none 2 47 G [.ref (gB G + o), .int a1] M rv none := by
  refine Kt.of (by decide) (Nat.le_of_ble_eq_true rfl) ?_
  intro p l e R s m args below meth c X hr hlk hnm
  refine s_drop [0, 1] (vs' := [(0, .ref (gB G + o)), (1, .int a1)]) rfl ?_
  rw [f_X10_grantFirst] at hf
  refine s_aload_n X 0 dX10_grantFirst_0 rfl rfl ?_
  refine s_iload_n X 1 dX10_grantFirst_1 rfl rfl ?_
  obtain ⟨h1, hf⟩ := pk_chk hf
  obtain ⟨M3, hc2, hf⟩ := pk_obd hf
  refine s_callV X (ci := 10) (k_X10_nobody G hc2) rfl h1 wd1784 wd1786 wd84 wd1787 wd138 cd_X10_nobody ⟨Nat.le_of_ble_eq_true rfl, Nat.le_of_ble_eq_true rfl⟩ (Nat.le_of_ble_eq_true rfl) dX10_grantFirst_2 ?_
  refine s_aload_n X 0 dX10_grantFirst_5 rfl rfl ?_
  refine s_iload_n X 1 dX10_grantFirst_6 rfl rfl ?_
  refine s_iconst X (v := (3 : Int32)) dX10_grantFirst_7 rfl ?_
  obtain ⟨h4, hf⟩ := pk_chk hf
  obtain ⟨r6, hc5, hf⟩ := pk_obd hf
  refine s_callV X (ci := 10) (k_X10_of G hc5) rfl h4 wd1761 wd1763 wd79 wd1764 wd138 cd_X10_of ⟨Nat.le_of_ble_eq_true rfl, Nat.le_of_ble_eq_true rfl⟩ (Nat.le_of_ble_eq_true rfl) dX10_grantFirst_8 ?_
  have hs7 := pk_ite hf
  clear hf
  refine s_if_ne X (tgt := 15) dX10_grantFirst_11 rfl (fun c8 => ?_) (fun c8 => ?_)
  · have hf := hs7.2 c8
    refine s_aload_n X 0 dX10_grantFirst_15 rfl rfl ?_
    refine s_iload_n X 1 dX10_grantFirst_16 rfl rfl ?_
    refine s_iconst X (v := (0 : Int32)) dX10_grantFirst_17 rfl ?_
    refine s_aload_n X 0 dX10_grantFirst_18 rfl rfl ?_
    refine s_iload_n X 1 dX10_grantFirst_19 rfl rfl ?_
    refine s_iconst X (v := (0 : Int32)) dX10_grantFirst_20 rfl ?_
    obtain ⟨r10, hc9, hf⟩ := pk_obd hf
    refine s_callV X (ci := 10) (k_X10_waitNode G hc9) rfl h4 wd1765 wd1767 wd80 wd1768 wd138 cd_X10_waitNode ⟨Nat.le_of_ble_eq_true rfl, Nat.le_of_ble_eq_true rfl⟩ (Nat.le_of_ble_eq_true rfl) dX10_grantFirst_21 ?_
    obtain ⟨M12, hc11, hf⟩ := pk_obd hf
    refine s_callV X (ci := 10) (k_X10_put G hc11) rfl h4 wd1433 wd1435 wd51 wd1436 wd138 cd_X10_put ⟨Nat.le_of_ble_eq_true rfl, Nat.le_of_ble_eq_true rfl⟩ (Nat.le_of_ble_eq_true rfl) dX10_grantFirst_24 ?_
    refine s_aload_n X 0 dX10_grantFirst_27 rfl rfl ?_
    refine s_iload_n X 1 dX10_grantFirst_28 rfl rfl ?_
    refine s_iconst X (v := (1 : Int32)) dX10_grantFirst_29 rfl ?_
    refine s_aload_n X 0 dX10_grantFirst_30 rfl rfl ?_
    refine s_iload_n X 1 dX10_grantFirst_31 rfl rfl ?_
    refine s_iconst X (v := (0 : Int32)) dX10_grantFirst_32 rfl ?_
    obtain ⟨h13, hf⟩ := pk_chk hf
    obtain ⟨r15, hc14, hf⟩ := pk_obd hf
    refine s_callV X (ci := 10) (k_X10_waitStamp G hc14) rfl h13 wd1769 wd1771 wd81 wd1772 wd138 cd_X10_waitStamp ⟨Nat.le_of_ble_eq_true rfl, Nat.le_of_ble_eq_true rfl⟩ (Nat.le_of_ble_eq_true rfl) dX10_grantFirst_33 ?_
    obtain ⟨M17, hc16, hf⟩ := pk_obd hf
    refine s_callV X (ci := 10) (k_X10_put G hc16) rfl h13 wd1433 wd1435 wd51 wd1436 wd138 cd_X10_put ⟨Nat.le_of_ble_eq_true rfl, Nat.le_of_ble_eq_true rfl⟩ (Nat.le_of_ble_eq_true rfl) dX10_grantFirst_36 ?_
    refine s_aload_n X 0 dX10_grantFirst_39 rfl rfl ?_
    refine s_iload_n X 1 dX10_grantFirst_40 rfl rfl ?_
    refine s_iconst X (v := (0 : Int32)) dX10_grantFirst_41 rfl ?_
    obtain ⟨h18, hf⟩ := pk_chk hf
    obtain ⟨M20, hc19, hf⟩ := pk_obd hf
    refine s_callV X (ci := 10) (k_X10_goWaiting G hc19) rfl h18 wd1788 wd1790 wd85 wd1791 wd138 cd_X10_goWaiting ⟨Nat.le_of_ble_eq_true rfl, Nat.le_of_ble_eq_true rfl⟩ (Nat.le_of_ble_eq_true rfl) dX10_grantFirst_42 ?_
    refine s_aload_n X 0 dX10_grantFirst_45 rfl rfl ?_
    refine s_iconst X (v := (1 : Int32)) dX10_grantFirst_46 rfl ?_
    refine s_iload_n X 1 dX10_grantFirst_47 rfl rfl ?_
    refine s_aload_n X 0 dX10_grantFirst_48 rfl rfl ?_
    refine s_iload_n X 1 dX10_grantFirst_49 rfl rfl ?_
    refine s_iconst X (v := (0 : Int32)) dX10_grantFirst_50 rfl ?_
    obtain ⟨h21, hf⟩ := pk_chk hf
    obtain ⟨r23, hc22, hf⟩ := pk_obd hf
    refine s_callV X (ci := 10) (k_X10_of G hc22) rfl h21 wd1761 wd1763 wd79 wd1764 wd138 cd_X10_of ⟨Nat.le_of_ble_eq_true rfl, Nat.le_of_ble_eq_true rfl⟩ (Nat.le_of_ble_eq_true rfl) dX10_grantFirst_51 ?_
    refine s_aload_n X 0 dX10_grantFirst_54 rfl rfl ?_
    refine s_iload_n X 1 dX10_grantFirst_55 rfl rfl ?_
    refine s_iconst X (v := (1 : Int32)) dX10_grantFirst_56 rfl ?_
    obtain ⟨r25, hc24, hf⟩ := pk_obd hf
    refine s_callV X (ci := 10) (k_X10_of G hc24) rfl h21 wd1761 wd1763 wd79 wd1764 wd138 cd_X10_of ⟨Nat.le_of_ble_eq_true rfl, Nat.le_of_ble_eq_true rfl⟩ (Nat.le_of_ble_eq_true rfl) dX10_grantFirst_57 ?_
    obtain ⟨M27, hc26, hf⟩ := pk_obd hf
    refine s_callV X (ci := 10) (k_X10_send G hc26) rfl h21 wd1700 wd1702 wd70 wd1703 wd138 cd_X10_send ⟨Nat.le_of_ble_eq_true rfl, Nat.le_of_ble_eq_true rfl⟩ (Nat.le_of_ble_eq_true rfl) dX10_grantFirst_60 ?_
    cases hf
    exact s_vret X hr hlk dX10_grantFirst_63
  · have hf := hs7.1 c8
    cases hf
    exact s_vret X hr hlk dX10_grantFirst_14
theorem dX10_isAheadOfGranted_0 : decode cX10_isAheadOfGranted 0 = .ok (.iload_n 3, 1) := dk_29 (by decide +kernel)
theorem dX10_isAheadOfGranted_1 : decode cX10_isAheadOfGranted 1 = .ok (.iload_n 2, 1) := dk_28 (by decide +kernel)
theorem dX10_isAheadOfGranted_2 : decode cX10_isAheadOfGranted 2 = .ok (.aload_n 0, 1) := dk_42 (by decide +kernel)
theorem dX10_isAheadOfGranted_3 : decode cX10_isAheadOfGranted 3 = .ok (.iload_n 1, 1) := dk_27 (by decide +kernel)
theorem dX10_isAheadOfGranted_4 : decode cX10_isAheadOfGranted 4 = .ok (.iconst 1, 1) := dk_4 (by decide +kernel)
theorem dX10_isAheadOfGranted_5 : decode cX10_isAheadOfGranted 5 = .ok (.invokevirtual 151, 3) := dk_182 (x := 0) (y := 151) (by decide +kernel) rfl
theorem dX10_isAheadOfGranted_8 : decode cX10_isAheadOfGranted 8 = .ok (.aload_n 0, 1) := dk_42 (by decide +kernel)
theorem dX10_isAheadOfGranted_9 : decode cX10_isAheadOfGranted 9 = .ok (.iload_n 1, 1) := dk_27 (by decide +kernel)
theorem dX10_isAheadOfGranted_10 : decode cX10_isAheadOfGranted 10 = .ok (.iconst 0, 1) := dk_3 (by decide +kernel)
theorem dX10_isAheadOfGranted_11 : decode cX10_isAheadOfGranted 11 = .ok (.invokevirtual 151, 3) := dk_182 (x := 0) (y := 151) (by decide +kernel) rfl
theorem dX10_isAheadOfGranted_14 : decode cX10_isAheadOfGranted 14 = .ok (.invokestatic 154, 3) := dk_184 (x := 0) (y := 154) (by decide +kernel) rfl
theorem dX10_isAheadOfGranted_17 : decode cX10_isAheadOfGranted 17 = .ok (.ireturn, 1) := dk_172 (by decide +kernel)
def f_X10_isAheadOfGranted (o : Nat) (a1 : Int32) (a2 : Int32) (a3 : Int32) (M : Mem) : Option Int32 :=
  chk (isO M 10 o) <|
  obd (f_X10_of o a1 (1 : Int32) M) fun r3 =>
  obd (f_X10_of o a1 (0 : Int32) M) fun r5 =>
  obd (f_X10_isAhead a3 a2 r3 r5 M) fun r7 =>
  chk (bz r7) <|
  some r7
theorem cd_X10_isAheadOfGranted : (yX10_isAheadOfGranted.cls ≠ "java/lang/invoke/MethodHandle" ∧ yX10_isAheadOfGranted.cls ≠ "java/lang/invoke/VarHandle") ∧ (parseMethodDescriptor yX10_isAheadOfGranted.desc).map (fun d => d.parameters.length) = some 3 := ⟨⟨by decide +kernel, by decide +kernel⟩, by decide +kernel⟩
theorem k_X10_isAheadOfGranted (G : Gam) {o : Nat} {a1 : Int32} {a2 : Int32} {a3 : Int32} {M : Mem} {rv : Int32} (hf : f_X10_isAheadOfGranted o a1 a2 a3 M = some rv) : Kt yX10_isAheadOfGranted cX10_isAheadOfGranted 4 (some .boolean) 1 23 G [.ref (gB G + o), .int a1, .int a2, .int a3] M M (some (.int rv)) := by
  refine Kt.of (by decide) (Nat.le_of_ble_eq_true rfl) ?_
  intro p l e R s m args below meth c X hr hlk hnm
  refine s_drop [0, 1, 2, 3] (vs' := [(0, .ref (gB G + o)), (1, .int a1), (2, .int a2), (3, .int a3)]) rfl ?_
  rw [f_X10_isAheadOfGranted] at hf
  refine s_iload_n X 3 dX10_isAheadOfGranted_0 rfl rfl ?_
  refine s_iload_n X 2 dX10_isAheadOfGranted_1 rfl rfl ?_
  refine s_aload_n X 0 dX10_isAheadOfGranted_2 rfl rfl ?_
  refine s_iload_n X 1 dX10_isAheadOfGranted_3 rfl rfl ?_
  refine s_iconst X (v := (1 : Int32)) dX10_isAheadOfGranted_4 rfl ?_
  obtain ⟨h1, hf⟩ := pk_chk hf
  obtain ⟨r3, hc2, hf⟩ := pk_obd hf
  refine s_callV X (ci := 10) (k_X10_of G hc2) rfl h1 wd1761 wd1763 wd79 wd1764 wd138 cd_X10_of ⟨Nat.le_of_ble_eq_true rfl, Nat.le_of_ble_eq_true rfl⟩ (Nat.le_of_ble_eq_true rfl) dX10_isAheadOfGranted_5 ?_
  refine s_aload_n X 0 dX10_isAheadOfGranted_8 rfl rfl ?_
  refine s_iload_n X 1 dX10_isAheadOfGranted_9 rfl rfl ?_
  refine s_iconst X (v := (0 : Int32)) dX10_isAheadOfGranted_10 rfl ?_
  obtain ⟨r5, hc4, hf⟩ := pk_obd hf
  refine s_callV X (ci := 10) (k_X10_of G hc4) rfl h1 wd1761 wd1763 wd79 wd1764 wd138 cd_X10_of ⟨Nat.le_of_ble_eq_true rfl, Nat.le_of_ble_eq_true rfl⟩ (Nat.le_of_ble_eq_true rfl) dX10_isAheadOfGranted_11 ?_
  obtain ⟨r7, hc6, hf⟩ := pk_obd hf
  refine s_callS X (k_X10_isAhead G hc6) wd1777 wd1778 wd1779 wd138 cd_X10_isAhead ⟨Nat.le_of_ble_eq_true rfl, Nat.le_of_ble_eq_true rfl⟩ (Nat.le_of_ble_eq_true rfl) dX10_isAheadOfGranted_14 ?_
  obtain ⟨h8, hf⟩ := pk_chk hf
  cases hf
  exact s_zret X hr (bz_n h8) hlk dX10_isAheadOfGranted_17
theorem dX10_requested_0 : decode cX10_requested 0 = .ok (.aload_n 0, 1) := dk_42 (by decide +kernel)
theorem dX10_requested_1 : decode cX10_requested 1 = .ok (.iload_n 1, 1) := dk_27 (by decide +kernel)
theorem dX10_requested_2 : decode cX10_requested 2 = .ok (.iconst 3, 1) := dk_6 (by decide +kernel)
theorem dX10_requested_3 : decode cX10_requested 3 = .ok (.invokevirtual 151, 3) := dk_182 (x := 0) (y := 151) (by decide +kernel) rfl
theorem dX10_requested_6 : decode cX10_requested 6 = .ok (.ifCond .le 7, 3) := dk_158 (x := 0) (y := 7) (by decide +kernel) rfl
theorem dX10_requested_9 : decode cX10_requested 9 = .ok (.iconst 1, 1) := dk_4 (by decide +kernel)
theorem dX10_requested_10 : decode cX10_requested 10 = .ok (.goto 4, 3) := dk_167 (x := 0) (y := 4) (by decide +kernel) rfl
theorem dX10_requested_13 : decode cX10_requested 13 = .ok (.iconst 0, 1) := dk_3 (by decide +kernel)
theorem dX10_requested_14 : decode cX10_requested 14 = .ok (.istore 4, 2) := dk_54 (x := 4) (by decide +kernel)
theorem dX10_requested_16 : decode cX10_requested 16 = .ok (.aload_n 0, 1) := dk_42 (by decide +kernel)
theorem dX10_requested_17 : decode cX10_requested 17 = .ok (.iload_n 1, 1) := dk_27 (by decide +kernel)
theorem dX10_requested_18 : decode cX10_requested 18 = .ok (.iconst 0, 1) := dk_3 (by decide +kernel)
theorem dX10_requested_19 : decode cX10_requested 19 = .ok (.invokevirtual 161, 3) := dk_182 (x := 0) (y := 161) (by decide +kernel) rfl
theorem dX10_requested_22 : decode cX10_requested 22 = .ok (.istore 5, 2) := dk_54 (x := 5) (by decide +kernel)
theorem dX10_requested_24 : decode cX10_requested 24 = .ok (.aload_n 0, 1) := dk_42 (by decide +kernel)
theorem dX10_requested_25 : decode cX10_requested 25 = .ok (.iload_n 1, 1) := dk_27 (by decide +kernel)
theorem dX10_requested_26 : decode cX10_requested 26 = .ok (.iconst 0, 1) := dk_3 (by decide +kernel)
theorem dX10_requested_27 : decode cX10_requested 27 = .ok (.invokevirtual 158, 3) := dk_182 (x := 0) (y := 158) (by decide +kernel) rfl
theorem dX10_requested_30 : decode cX10_requested 30 = .ok (.istore 6, 2) := dk_54 (x := 6) (by decide +kernel)
theorem dX10_requested_32 : decode cX10_requested 32 = .ok (.aload_n 0, 1) := dk_42 (by decide +kernel)
theorem dX10_requested_33 : decode cX10_requested 33 = .ok (.iload_n 1, 1) := dk_27 (by decide +kernel)
theorem dX10_requested_34 : decode cX10_requested 34 = .ok (.iload_n 2, 1) := dk_28 (by decide +kernel)
theorem dX10_requested_35 : decode cX10_requested 35 = .ok (.iload_n 3, 1) := dk_29 (by decide +kernel)
theorem dX10_requested_36 : decode cX10_requested 36 = .ok (.invokevirtual 172, 3) := dk_182 (x := 0) (y := 172) (by decide +kernel) rfl
theorem dX10_requested_39 : decode cX10_requested 39 = .ok (.aload_n 0, 1) := dk_42 (by decide +kernel)
theorem dX10_requested_40 : decode cX10_requested 40 = .ok (.iload_n 1, 1) := dk_27 (by decide +kernel)
theorem dX10_requested_41 : decode cX10_requested 41 = .ok (.iconst 0, 1) := dk_3 (by decide +kernel)
theorem dX10_requested_42 : decode cX10_requested 42 = .ok (.invokevirtual 151, 3) := dk_182 (x := 0) (y := 151) (by decide +kernel) rfl
theorem dX10_requested_45 : decode cX10_requested 45 = .ok (.iconst (-1), 1) := dk_2 (by decide +kernel)
theorem dX10_requested_46 : decode cX10_requested 46 = .ok (.if_icmp .ne 9, 3) := dk_160 (x := 0) (y := 9) (by decide +kernel) rfl
theorem dX10_requested_49 : decode cX10_requested 49 = .ok (.aload_n 0, 1) := dk_42 (by decide +kernel)
theorem dX10_requested_50 : decode cX10_requested 50 = .ok (.iload_n 1, 1) := dk_27 (by decide +kernel)
theorem dX10_requested_51 : decode cX10_requested 51 = .ok (.invokevirtual 175, 3) := dk_182 (x := 0) (y := 175) (by decide +kernel) rfl
theorem dX10_requested_54 : decode cX10_requested 54 = .ok (.return_, 1) := dk_177 (by decide +kernel)
theorem dX10_requested_55 : decode cX10_requested 55 = .ok (.aload_n 0, 1) := dk_42 (by decide +kernel)
theorem dX10_requested_56 : decode cX10_requested 56 = .ok (.iload_n 1, 1) := dk_27 (by decide +kernel)
theorem dX10_requested_57 : decode cX10_requested 57 = .ok (.iconst 0, 1) := dk_3 (by decide +kernel)
theorem dX10_requested_58 : decode cX10_requested 58 = .ok (.invokevirtual 161, 3) := dk_182 (x := 0) (y := 161) (by decide +kernel) rfl
theorem dX10_requested_61 : decode cX10_requested 61 = .ok (.iload_n 2, 1) := dk_28 (by decide +kernel)
theorem dX10_requested_62 : decode cX10_requested 62 = .ok (.if_icmp .ne 17, 3) := dk_160 (x := 0) (y := 17) (by decide +kernel) rfl
theorem dX10_requested_65 : decode cX10_requested 65 = .ok (.aload_n 0, 1) := dk_42 (by decide +kernel)
theorem dX10_requested_66 : decode cX10_requested 66 = .ok (.iload_n 1, 1) := dk_27 (by decide +kernel)
theorem dX10_requested_67 : decode cX10_requested 67 = .ok (.iconst 0, 1) := dk_3 (by decide +kernel)
theorem dX10_requested_68 : decode cX10_requested 68 = .ok (.invokevirtual 158, 3) := dk_182 (x := 0) (y := 158) (by decide +kernel) rfl
theorem dX10_requested_71 : decode cX10_requested 71 = .ok (.iload_n 3, 1) := dk_29 (by decide +kernel)
theorem dX10_requested_72 : decode cX10_requested 72 = .ok (.if_icmp .ne 7, 3) := dk_160 (x := 0) (y := 7) (by decide +kernel) rfl
theorem dX10_requested_75 : decode cX10_requested 75 = .ok (.iconst 1, 1) := dk_4 (by decide +kernel)
theorem dX10_requested_76 : decode cX10_requested 76 = .ok (.goto 4, 3) := dk_167 (x := 0) (y := 4) (by decide +kernel) rfl
theorem dX10_requested_79 : decode cX10_requested 79 = .ok (.iconst 0, 1) := dk_3 (by decide +kernel)
theorem dX10_requested_80 : decode cX10_requested 80 = .ok (.istore 7, 2) := dk_54 (x := 7) (by decide +kernel)
theorem dX10_requested_82 : decode cX10_requested 82 = .ok (.iload 7, 2) := dk_21 (x := 7) (by decide +kernel)
theorem dX10_requested_84 : decode cX10_requested 84 = .ok (.ifCond .eq 13, 3) := dk_153 (x := 0) (y := 13) (by decide +kernel) rfl
theorem dX10_requested_87 : decode cX10_requested 87 = .ok (.aload_n 0, 1) := dk_42 (by decide +kernel)
theorem dX10_requested_88 : decode cX10_requested 88 = .ok (.iload_n 1, 1) := dk_27 (by decide +kernel)
theorem dX10_requested_89 : decode cX10_requested 89 = .ok (.iload_n 2, 1) := dk_28 (by decide +kernel)
theorem dX10_requested_90 : decode cX10_requested 90 = .ok (.iload_n 3, 1) := dk_29 (by decide +kernel)
theorem dX10_requested_91 : decode cX10_requested 91 = .ok (.invokevirtual 178, 3) := dk_182 (x := 0) (y := 178) (by decide +kernel) rfl
theorem dX10_requested_94 : decode cX10_requested 94 = .ok (.ifCond .ne 12, 3) := dk_154 (x := 0) (y := 12) (by decide +kernel) rfl
theorem dX10_requested_97 : decode cX10_requested 97 = .ok (.aload_n 0, 1) := dk_42 (by decide +kernel)
theorem dX10_requested_98 : decode cX10_requested 98 = .ok (.iconst 2, 1) := dk_5 (by decide +kernel)
theorem dX10_requested_99 : decode cX10_requested 99 = .ok (.iload_n 1, 1) := dk_27 (by decide +kernel)
theorem dX10_requested_100 : decode cX10_requested 100 = .ok (.iload_n 2, 1) := dk_28 (by decide +kernel)
theorem dX10_requested_101 : decode cX10_requested 101 = .ok (.iload_n 3, 1) := dk_29 (by decide +kernel)
theorem dX10_requested_102 : decode cX10_requested 102 = .ok (.invokevirtual 147, 3) := dk_182 (x := 0) (y := 147) (by decide +kernel) rfl
theorem dX10_requested_105 : decode cX10_requested 105 = .ok (.return_, 1) := dk_177 (by decide +kernel)
theorem dX10_requested_106 : decode cX10_requested 106 = .ok (.iload 4, 2) := dk_21 (x := 4) (by decide +kernel)
theorem dX10_requested_108 : decode cX10_requested 108 = .ok (.ifCond .eq 25, 3) := dk_153 (x := 0) (y := 25) (by decide +kernel) rfl
theorem dX10_requested_111 : decode cX10_requested 111 = .ok (.aload_n 0, 1) := dk_42 (by decide +kernel)
theorem dX10_requested_112 : decode cX10_requested 112 = .ok (.iload_n 1, 1) := dk_27 (by decide +kernel)
theorem dX10_requested_113 : decode cX10_requested 113 = .ok (.iload 5, 2) := dk_21 (x := 5) (by decide +kernel)
theorem dX10_requested_115 : decode cX10_requested 115 = .ok (.iload 6, 2) := dk_21 (x := 6) (by decide +kernel)
theorem dX10_requested_117 : decode cX10_requested 117 = .ok (.invokevirtual 178, 3) := dk_182 (x := 0) (y := 178) (by decide +kernel) rfl
theorem dX10_requested_120 : decode cX10_requested 120 = .ok (.ifCond .eq 13, 3) := dk_153 (x := 0) (y := 13) (by decide +kernel) rfl
theorem dX10_requested_123 : decode cX10_requested 123 = .ok (.aload_n 0, 1) := dk_42 (by decide +kernel)
theorem dX10_requested_124 : decode cX10_requested 124 = .ok (.iconst 2, 1) := dk_5 (by decide +kernel)
theorem dX10_requested_125 : decode cX10_requested 125 = .ok (.iload_n 1, 1) := dk_27 (by decide +kernel)
theorem dX10_requested_126 : decode cX10_requested 126 = .ok (.iload 5, 2) := dk_21 (x := 5) (by decide +kernel)
theorem dX10_requested_128 : decode cX10_requested 128 = .ok (.iload 6, 2) := dk_21 (x := 6) (by decide +kernel)
theorem dX10_requested_130 : decode cX10_requested 130 = .ok (.invokevirtual 147, 3) := dk_182 (x := 0) (y := 147) (by decide +kernel) rfl
theorem dX10_requested_133 : decode cX10_requested 133 = .ok (.aload_n 0, 1) := dk_42 (by decide +kernel)
theorem dX10_requested_134 : decode cX10_requested 134 = .ok (.iload_n 1, 1) := dk_27 (by decide +kernel)
theorem dX10_requested_135 : decode cX10_requested 135 = .ok (.iconst 2, 1) := dk_5 (by decide +kernel)
theorem dX10_requested_136 : decode cX10_requested 136 = .ok (.invokevirtual 151, 3) := dk_182 (x := 0) (y := 151) (by decide +kernel) rfl
theorem dX10_requested_139 : decode cX10_requested 139 = .ok (.iconst 1, 1) := dk_4 (by decide +kernel)
theorem dX10_requested_140 : decode cX10_requested 140 = .ok (.if_icmp .ne 4, 3) := dk_160 (x := 0) (y := 4) (by decide +kernel) rfl
theorem dX10_requested_143 : decode cX10_requested 143 = .ok (.return_, 1) := dk_177 (by decide +kernel)
theorem dX10_requested_144 : decode cX10_requested 144 = .ok (.aload_n 0, 1) := dk_42 (by decide +kernel)
theorem dX10_requested_145 : decode cX10_requested 145 = .ok (.iload_n 1, 1) := dk_27 (by decide +kernel)
theorem dX10_requested_146 : decode cX10_requested 146 = .ok (.iconst 2, 1) := dk_5 (by decide +kernel)
theorem dX10_requested_147 : decode cX10_requested 147 = .ok (.iconst 1, 1) := dk_4 (by decide +kernel)
theorem dX10_requested_148 : decode cX10_requested 148 = .ok (.invokevirtual 53, 3) := dk_182 (x := 0) (y := 53) (by decide +kernel) rfl
theorem dX10_requested_151 : decode cX10_requested 151 = .ok (.aload_n 0, 1) := dk_42 (by decide +kernel)
theorem dX10_requested_152 : decode cX10_requested 152 = .ok (.iconst 3, 1) := dk_6 (by decide +kernel)
theorem dX10_requested_153 : decode cX10_requested 153 = .ok (.iload_n 1, 1) := dk_27 (by decide +kernel)
theorem dX10_requested_154 : decode cX10_requested 154 = .ok (.aload_n 0, 1) := dk_42 (by decide +kernel)
theorem dX10_requested_155 : decode cX10_requested 155 = .ok (.iload_n 1, 1) := dk_27 (by decide +kernel)
theorem dX10_requested_156 : decode cX10_requested 156 = .ok (.iconst 0, 1) := dk_3 (by decide +kernel)
theorem dX10_requested_157 : decode cX10_requested 157 = .ok (.invokevirtual 151, 3) := dk_182 (x := 0) (y := 151) (by decide +kernel) rfl
theorem dX10_requested_160 : decode cX10_requested 160 = .ok (.aload_n 0, 1) := dk_42 (by decide +kernel)
theorem dX10_requested_161 : decode cX10_requested 161 = .ok (.iload_n 1, 1) := dk_27 (by decide +kernel)
theorem dX10_requested_162 : decode cX10_requested 162 = .ok (.iconst 1, 1) := dk_4 (by decide +kernel)
theorem dX10_requested_163 : decode cX10_requested 163 = .ok (.invokevirtual 151, 3) := dk_182 (x := 0) (y := 151) (by decide +kernel) rfl
theorem dX10_requested_166 : decode cX10_requested 166 = .ok (.invokevirtual 147, 3) := dk_182 (x := 0) (y := 147) (by decide +kernel) rfl
theorem dX10_requested_169 : decode cX10_requested 169 = .ok (.return_, 1) := dk_177 (by decide +kernel)
def f_X10_requested_97 (n : Nat) (v0 : Nat) (v1 : Int32) (v2 : Int32) (v3 : Int32) (M : Mem) : Option Mem :=
    chk (isO M 10 v0) <|
    obd (f_X10_send n v0 (2 : Int32) v1 v2 v3 M) fun M3 =>
    some M3
def f_X10_requested_133 (n : Nat) (v0 : Nat) (v1 : Int32) (M : Mem) : Option Mem :=
    chk (isO M 10 v0) <|
    obd (f_X10_of v0 v1 (2 : Int32) M) fun r3 =>
    if r3 = (1 : Int32) then (
      some M
      ) else (
      obd (f_X10_put v0 v1 (2 : Int32) (1 : Int32) M) fun M7 =>
      chk (isO M7 10 v0) <|
      obd (f_X10_of v0 v1 (0 : Int32) M7) fun r10 =>
      obd (f_X10_of v0 v1 (1 : Int32) M7) fun r12 =>
      obd (f_X10_send n v0 (3 : Int32) v1 r10 r12 M7) fun M14 =>
      some M14
      )
def f_X10_requested_80 (n : Nat) (v0 : Nat) (v1 : Int32) (v2 : Int32) (v3 : Int32) (v4 : Int32) (v5 : Int32) (v6 : Int32) (u0 : Int32) (M : Mem) : Option Mem :=
    if u0 = 0 then (
      f_X10_requested_97 n v0 v1 v2 v3 M
      ) else (
      chk (isO M 10 v0) <|
      obd (f_X10_isAheadOfGranted v0 v1 v2 v3 M) fun r5 =>
      if r5 = 0 then (
        f_X10_requested_97 n v0 v1 v2 v3 M
        ) else (
        if v4 = 0 then (
          f_X10_requested_133 n v0 v1 M
          ) else (
          obd (f_X10_isAheadOfGranted v0 v1 v5 v6 M) fun r11 =>
          if r11 = 0 then (
            f_X10_requested_133 n v0 v1 M
            ) else (
            obd (f_X10_send n v0 (2 : Int32) v1 v5 v6 M) fun M15 =>
            f_X10_requested_133 n v0 v1 M15
            )
          )
        )
      )
def f_X10_requested_14 (n : Nat) (v0 : Nat) (v1 : Int32) (v2 : Int32) (v3 : Int32) (u0 : Int32) (M : Mem) : Option Mem :=
    chk (isO M 10 v0) <|
    obd (f_X10_waitNode v0 v1 (0 : Int32) M) fun r3 =>
    obd (f_X10_waitStamp v0 v1 (0 : Int32) M) fun r5 =>
    obd (f_X10_comeWaiting n v0 v1 v2 v3 M) fun M7 =>
    chk (isO M7 10 v0) <|
    obd (f_X10_of v0 v1 (0 : Int32) M7) fun r10 =>
    if r10 = (-1 : Int32) then (
      obd (f_X10_grantFirst n v0 v1 M7) fun M22 =>
      some M22
      ) else (
      obd (f_X10_waitNode v0 v1 (0 : Int32) M7) fun r14 =>
      if r14 = v2 then (
        obd (f_X10_waitStamp v0 v1 (0 : Int32) M7) fun r18 =>
        if r18 = v3 then (
          f_X10_requested_80 n v0 v1 v2 v3 u0 r3 r5 (1 : Int32) M7
          ) else (
          f_X10_requested_80 n v0 v1 v2 v3 u0 r3 r5 (0 : Int32) M7
          )
        ) else (
        f_X10_requested_80 n v0 v1 v2 v3 u0 r3 r5 (0 : Int32) M7
        )
      )
def f_X10_requested (n : Nat) (o : Nat) (a1 : Int32) (a2 : Int32) (a3 : Int32) (M : Mem) : Option Mem :=
  chk (isO M 10 o) <|
  obd (f_X10_of o a1 (3 : Int32) M) fun r3 =>
  if r3 ≤ 0 then (
    f_X10_requested_14 n o a1 a2 a3 (0 : Int32) M
    ) else (
    f_X10_requested_14 n o a1 a2 a3 (1 : Int32) M
    )
theorem cd_X10_requested : (yX10_requested.cls ≠ "java/lang/invoke/MethodHandle" ∧ yX10_requested.cls ≠ "java/lang/invoke/VarHandle") ∧ (parseMethodDescriptor yX10_requested.desc).map (fun d => d.parameters.length) = some 3 := ⟨⟨by decide +kernel, by decide +kernel⟩, by decide +kernel⟩
section
variable {p : Program} {l : Launch} {e : Env} {R : Room} {s : State} {m : MethodId} {args : Array Value} {below : List Frame} {meth : Method} {c : Code} {G : Gam} {M0 : Mem}
theorem l_X10_requested_97 {rv : Mem} {n : Nat} {v0 : Nat} {v1 : Int32} {v2 : Int32} {v3 : Int32} {M : Mem} (X : Cx p R s m args c G M0 cX10_requested yX10_requested.cls 8 3 68) (hr : meth.sig.returnType = none) (hlk : meth.locks = false) (hnm : meth.name = "requested") (hf : f_X10_requested_97 n v0 v1 v2 v3 M = some rv) : Sg p l e R s m args below meth c (Qm below G args s none M0 rv) G M0 8 97 [(0, .ref (gB G + v0)), (1, .int v1), (2, .int v2), (3, .int v3)] [] M := by
  rw [f_X10_requested_97] at hf
  refine s_aload_n X 0 dX10_requested_97 rfl rfl ?_
  refine s_iconst X (v := (2 : Int32)) dX10_requested_98 rfl ?_
  refine s_iload_n X 1 dX10_requested_99 rfl rfl ?_
  refine s_iload_n X 2 dX10_requested_100 rfl rfl ?_
  refine s_iload_n X 3 dX10_requested_101 rfl rfl ?_
  obtain ⟨h1, hf⟩ := pk_chk hf
  obtain ⟨M3, hc2, hf⟩ := pk_obd hf
  refine s_callV X (ci := 10) (k_X10_send G hc2) rfl h1 wd1700 wd1702 wd70 wd1703 wd138 cd_X10_send ⟨Nat.le_of_ble_eq_true rfl, Nat.le_of_ble_eq_true rfl⟩ (Nat.le_of_ble_eq_true rfl) dX10_requested_102 ?_
  cases hf
  exact s_vret X hr hlk dX10_requested_105
theorem l_X10_requested_133 {rv : Mem} {n : Nat} {v0 : Nat} {v1 : Int32} {M : Mem} (X : Cx p R s m args c G M0 cX10_requested yX10_requested.cls 8 3 68) (hr : meth.sig.returnType = none) (hlk : meth.locks = false) (hnm : meth.name = "requested") (hf : f_X10_requested_133 n v0 v1 M = some rv) : Sg p l e R s m args below meth c (Qm below G args s none M0 rv) G M0 8 133 [(0, .ref (gB G + v0)), (1, .int v1)] [] M := by
  rw [f_X10_requested_133] at hf
  refine s_aload_n X 0 dX10_requested_133 rfl rfl ?_
  refine s_iload_n X 1 dX10_requested_134 rfl rfl ?_
  refine s_iconst X (v := (2 : Int32)) dX10_requested_135 rfl ?_
  obtain ⟨h1, hf⟩ := pk_chk hf
  obtain ⟨r3, hc2, hf⟩ := pk_obd hf
  refine s_callV X (ci := 10) (k_X10_of G hc2) rfl h1 wd1761 wd1763 wd79 wd1764 wd138 cd_X10_of ⟨Nat.le_of_ble_eq_true rfl, Nat.le_of_ble_eq_true rfl⟩ (Nat.le_of_ble_eq_true rfl) dX10_requested_136 ?_
  refine s_iconst X (v := (1 : Int32)) dX10_requested_139 rfl ?_
  have hs4 := pk_ite hf
  clear hf
  refine s_icmp_ne X (tgt := 144) dX10_requested_140 rfl (fun c5 => ?_) (fun c5 => ?_)
  · have hf := hs4.2 c5
    refine s_aload_n X 0 dX10_requested_144 rfl rfl ?_
    refine s_iload_n X 1 dX10_requested_145 rfl rfl ?_
    refine s_iconst X (v := (2 : Int32)) dX10_requested_146 rfl ?_
    refine s_iconst X (v := (1 : Int32)) dX10_requested_147 rfl ?_
    obtain ⟨M7, hc6, hf⟩ := pk_obd hf
    refine s_callV X (ci := 10) (k_X10_put G hc6) rfl h1 wd1433 wd1435 wd51 wd1436 wd138 cd_X10_put ⟨Nat.le_of_ble_eq_true rfl, Nat.le_of_ble_eq_true rfl⟩ (Nat.le_of_ble_eq_true rfl) dX10_requested_148 ?_
    refine s_aload_n X 0 dX10_requested_151 rfl rfl ?_
    refine s_iconst X (v := (3 : Int32)) dX10_requested_152 rfl ?_
    refine s_iload_n X 1 dX10_requested_153 rfl rfl ?_
    refine s_aload_n X 0 dX10_requested_154 rfl rfl ?_
    refine s_iload_n X 1 dX10_requested_155 rfl rfl ?_
    refine s_iconst X (v := (0 : Int32)) dX10_requested_156 rfl ?_
    obtain ⟨h8, hf⟩ := pk_chk hf
    obtain ⟨r10, hc9, hf⟩ := pk_obd hf
    refine s_callV X (ci := 10) (k_X10_of G hc9) rfl h8 wd1761 wd1763 wd79 wd1764 wd138 cd_X10_of ⟨Nat.le_of_ble_eq_true rfl, Nat.le_of_ble_eq_true rfl⟩ (Nat.le_of_ble_eq_true rfl) dX10_requested_157 ?_
    refine s_aload_n X 0 dX10_requested_160 rfl rfl ?_
    refine s_iload_n X 1 dX10_requested_161 rfl rfl ?_
    refine s_iconst X (v := (1 : Int32)) dX10_requested_162 rfl ?_
    obtain ⟨r12, hc11, hf⟩ := pk_obd hf
    refine s_callV X (ci := 10) (k_X10_of G hc11) rfl h8 wd1761 wd1763 wd79 wd1764 wd138 cd_X10_of ⟨Nat.le_of_ble_eq_true rfl, Nat.le_of_ble_eq_true rfl⟩ (Nat.le_of_ble_eq_true rfl) dX10_requested_163 ?_
    obtain ⟨M14, hc13, hf⟩ := pk_obd hf
    refine s_callV X (ci := 10) (k_X10_send G hc13) rfl h8 wd1700 wd1702 wd70 wd1703 wd138 cd_X10_send ⟨Nat.le_of_ble_eq_true rfl, Nat.le_of_ble_eq_true rfl⟩ (Nat.le_of_ble_eq_true rfl) dX10_requested_166 ?_
    cases hf
    exact s_vret X hr hlk dX10_requested_169
  · have hf := hs4.1 c5
    cases hf
    exact s_vret X hr hlk dX10_requested_143
theorem l_X10_requested_80 {rv : Mem} {n : Nat} {v0 : Nat} {v1 : Int32} {v2 : Int32} {v3 : Int32} {v4 : Int32} {v5 : Int32} {v6 : Int32} {u0 : Int32} {M : Mem} (X : Cx p R s m args c G M0 cX10_requested yX10_requested.cls 8 3 68) (hr : meth.sig.returnType = none) (hlk : meth.locks = false) (hnm : meth.name = "requested") (hf : f_X10_requested_80 n v0 v1 v2 v3 v4 v5 v6 u0 M = some rv) : Sg p l e R s m args below meth c (Qm below G args s none M0 rv) G M0 8 80 [(0, .ref (gB G + v0)), (1, .int v1), (2, .int v2), (3, .int v3), (4, .int v4), (5, .int v5), (6, .int v6)] [.int u0] M := by
  rw [f_X10_requested_80] at hf
  refine s_istore X (vs' := [(0, .ref (gB G + v0)), (1, .int v1), (2, .int v2), (3, .int v3), (4, .int v4), (5, .int v5), (6, .int v6), (7, .int u0)]) dX10_requested_80 (Nat.le_of_ble_eq_true rfl) [1, 2, 3, 4, 5, 6, 7, 0] rfl ?_
  refine s_iload X 7 dX10_requested_82 rfl ?_
  have hs1 := pk_ite hf
  clear hf
  refine s_if_eq X (tgt := 97) dX10_requested_84 rfl (fun c2 => ?_) (fun c2 => ?_)
  · have hf := hs1.1 c2
    refine s_drop [0, 1, 2, 3] (vs' := [(0, .ref (gB G + v0)), (1, .int v1), (2, .int v2), (3, .int v3)]) rfl ?_
    exact l_X10_requested_97 X hr hlk hnm hf
  · have hf := hs1.2 c2
    refine s_aload_n X 0 dX10_requested_87 rfl rfl ?_
    refine s_iload_n X 1 dX10_requested_88 rfl rfl ?_
    refine s_iload_n X 2 dX10_requested_89 rfl rfl ?_
    refine s_iload_n X 3 dX10_requested_90 rfl rfl ?_
    obtain ⟨h3, hf⟩ := pk_chk hf
    obtain ⟨r5, hc4, hf⟩ := pk_obd hf
    refine s_callV X (ci := 10) (k_X10_isAheadOfGranted G hc4) rfl h3 wd1792 wd1794 wd86 wd1795 wd138 cd_X10_isAheadOfGranted ⟨Nat.le_of_ble_eq_true rfl, Nat.le_of_ble_eq_true rfl⟩ (Nat.le_of_ble_eq_true rfl) dX10_requested_91 ?_
    have hs6 := pk_ite hf
    clear hf
    refine s_if_ne X (tgt := 106) dX10_requested_94 rfl (fun c7 => ?_) (fun c7 => ?_)
    · have hf := hs6.2 c7
      refine s_iload X 4 dX10_requested_106 rfl ?_
      have hs8 := pk_ite hf
      clear hf
      refine s_if_eq X (tgt := 133) dX10_requested_108 rfl (fun c9 => ?_) (fun c9 => ?_)
      · have hf := hs8.1 c9
        refine s_drop [0, 1] (vs' := [(0, .ref (gB G + v0)), (1, .int v1)]) rfl ?_
        exact l_X10_requested_133 X hr hlk hnm hf
      · have hf := hs8.2 c9
        refine s_aload_n X 0 dX10_requested_111 rfl rfl ?_
        refine s_iload_n X 1 dX10_requested_112 rfl rfl ?_
        refine s_iload X 5 dX10_requested_113 rfl ?_
        refine s_iload X 6 dX10_requested_115 rfl ?_
        obtain ⟨r11, hc10, hf⟩ := pk_obd hf
        refine s_callV X (ci := 10) (k_X10_isAheadOfGranted G hc10) rfl h3 wd1792 wd1794 wd86 wd1795 wd138 cd_X10_isAheadOfGranted ⟨Nat.le_of_ble_eq_true rfl, Nat.le_of_ble_eq_true rfl⟩ (Nat.le_of_ble_eq_true rfl) dX10_requested_117 ?_
        have hs12 := pk_ite hf
        clear hf
        refine s_if_eq X (tgt := 133) dX10_requested_120 rfl (fun c13 => ?_) (fun c13 => ?_)
        · have hf := hs12.1 c13
          refine s_drop [0, 1] (vs' := [(0, .ref (gB G + v0)), (1, .int v1)]) rfl ?_
          exact l_X10_requested_133 X hr hlk hnm hf
        · have hf := hs12.2 c13
          refine s_aload_n X 0 dX10_requested_123 rfl rfl ?_
          refine s_iconst X (v := (2 : Int32)) dX10_requested_124 rfl ?_
          refine s_iload_n X 1 dX10_requested_125 rfl rfl ?_
          refine s_iload X 5 dX10_requested_126 rfl ?_
          refine s_iload X 6 dX10_requested_128 rfl ?_
          obtain ⟨M15, hc14, hf⟩ := pk_obd hf
          refine s_callV X (ci := 10) (k_X10_send G hc14) rfl h3 wd1700 wd1702 wd70 wd1703 wd138 cd_X10_send ⟨Nat.le_of_ble_eq_true rfl, Nat.le_of_ble_eq_true rfl⟩ (Nat.le_of_ble_eq_true rfl) dX10_requested_130 ?_
          refine s_drop [0, 1] (vs' := [(0, .ref (gB G + v0)), (1, .int v1)]) rfl ?_
          exact l_X10_requested_133 X hr hlk hnm hf
    · have hf := hs6.1 c7
      refine s_drop [0, 1, 2, 3] (vs' := [(0, .ref (gB G + v0)), (1, .int v1), (2, .int v2), (3, .int v3)]) rfl ?_
      exact l_X10_requested_97 X hr hlk hnm hf
theorem l_X10_requested_14 {rv : Mem} {n : Nat} {v0 : Nat} {v1 : Int32} {v2 : Int32} {v3 : Int32} {u0 : Int32} {M : Mem} (X : Cx p R s m args c G M0 cX10_requested yX10_requested.cls 8 3 68) (hr : meth.sig.returnType = none) (hlk : meth.locks = false) (hnm : meth.name = "requested") (hf : f_X10_requested_14 n v0 v1 v2 v3 u0 M = some rv) : Sg p l e R s m args below meth c (Qm below G args s none M0 rv) G M0 8 14 [(0, .ref (gB G + v0)), (1, .int v1), (2, .int v2), (3, .int v3)] [.int u0] M := by
  rw [f_X10_requested_14] at hf
  refine s_istore X (vs' := [(0, .ref (gB G + v0)), (1, .int v1), (2, .int v2), (3, .int v3), (4, .int u0)]) dX10_requested_14 (Nat.le_of_ble_eq_true rfl) [1, 2, 3, 4, 0] rfl ?_
  refine s_aload_n X 0 dX10_requested_16 rfl rfl ?_
  refine s_iload_n X 1 dX10_requested_17 rfl rfl ?_
  refine s_iconst X (v := (0 : Int32)) dX10_requested_18 rfl ?_
  obtain ⟨h1, hf⟩ := pk_chk hf
  obtain ⟨r3, hc2, hf⟩ := pk_obd hf
  refine s_callV X (ci := 10) (k_X10_waitNode G hc2) rfl h1 wd1765 wd1767 wd80 wd1768 wd138 cd_X10_waitNode ⟨Nat.le_of_ble_eq_true rfl, Nat.le_of_ble_eq_true rfl⟩ (Nat.le_of_ble_eq_true rfl) dX10_requested_19 ?_
  refine s_istore X (vs' := [(0, .ref (gB G + v0)), (1, .int v1), (2, .int v2), (3, .int v3), (4, .int u0), (5, .int r3)]) dX10_requested_22 (Nat.le_of_ble_eq_true rfl) [1, 2, 3, 4, 5, 0] rfl ?_
  refine s_aload_n X 0 dX10_requested_24 rfl rfl ?_
  refine s_iload_n X 1 dX10_requested_25 rfl rfl ?_
  refine s_iconst X (v := (0 : Int32)) dX10_requested_26 rfl ?_
  obtain ⟨r5, hc4, hf⟩ := pk_obd hf
  refine s_callV X (ci := 10) (k_X10_waitStamp G hc4) rfl h1 wd1769 wd1771 wd81 wd1772 wd138 cd_X10_waitStamp ⟨Nat.le_of_ble_eq_true rfl, Nat.le_of_ble_eq_true rfl⟩ (Nat.le_of_ble_eq_true rfl) dX10_requested_27 ?_
  refine s_istore X (vs' := [(0, .ref (gB G + v0)), (1, .int v1), (2, .int v2), (3, .int v3), (4, .int u0), (5, .int r3), (6, .int r5)]) dX10_requested_30 (Nat.le_of_ble_eq_true rfl) [1, 2, 3, 4, 5, 6, 0] rfl ?_
  refine s_aload_n X 0 dX10_requested_32 rfl rfl ?_
  refine s_iload_n X 1 dX10_requested_33 rfl rfl ?_
  refine s_iload_n X 2 dX10_requested_34 rfl rfl ?_
  refine s_iload_n X 3 dX10_requested_35 rfl rfl ?_
  obtain ⟨M7, hc6, hf⟩ := pk_obd hf
  refine s_callV X (ci := 10) (k_X10_comeWaiting G hc6) rfl h1 wd1773 wd1775 wd82 wd1776 wd138 cd_X10_comeWaiting ⟨Nat.le_of_ble_eq_true rfl, Nat.le_of_ble_eq_true rfl⟩ (Nat.le_of_ble_eq_true rfl) dX10_requested_36 ?_
  refine s_aload_n X 0 dX10_requested_39 rfl rfl ?_
  refine s_iload_n X 1 dX10_requested_40 rfl rfl ?_
  refine s_iconst X (v := (0 : Int32)) dX10_requested_41 rfl ?_
  obtain ⟨h8, hf⟩ := pk_chk hf
  obtain ⟨r10, hc9, hf⟩ := pk_obd hf
  refine s_callV X (ci := 10) (k_X10_of G hc9) rfl h8 wd1761 wd1763 wd79 wd1764 wd138 cd_X10_of ⟨Nat.le_of_ble_eq_true rfl, Nat.le_of_ble_eq_true rfl⟩ (Nat.le_of_ble_eq_true rfl) dX10_requested_42 ?_
  refine s_iconst X (v := (-1 : Int32)) dX10_requested_45 rfl ?_
  have hs11 := pk_ite hf
  clear hf
  refine s_icmp_ne X (tgt := 55) dX10_requested_46 rfl (fun c12 => ?_) (fun c12 => ?_)
  · have hf := hs11.2 c12
    refine s_aload_n X 0 dX10_requested_55 rfl rfl ?_
    refine s_iload_n X 1 dX10_requested_56 rfl rfl ?_
    refine s_iconst X (v := (0 : Int32)) dX10_requested_57 rfl ?_
    obtain ⟨r14, hc13, hf⟩ := pk_obd hf
    refine s_callV X (ci := 10) (k_X10_waitNode G hc13) rfl h8 wd1765 wd1767 wd80 wd1768 wd138 cd_X10_waitNode ⟨Nat.le_of_ble_eq_true rfl, Nat.le_of_ble_eq_true rfl⟩ (Nat.le_of_ble_eq_true rfl) dX10_requested_58 ?_
    refine s_iload_n X 2 dX10_requested_61 rfl rfl ?_
    have hs15 := pk_ite hf
    clear hf
    refine s_icmp_ne X (tgt := 79) dX10_requested_62 rfl (fun c16 => ?_) (fun c16 => ?_)
    · have hf := hs15.2 c16
      refine s_iconst X (v := (0 : Int32)) dX10_requested_79 rfl ?_
      exact l_X10_requested_80 X hr hlk hnm hf
    · have hf := hs15.1 c16
      refine s_aload_n X 0 dX10_requested_65 rfl rfl ?_
      refine s_iload_n X 1 dX10_requested_66 rfl rfl ?_
      refine s_iconst X (v := (0 : Int32)) dX10_requested_67 rfl ?_
      obtain ⟨r18, hc17, hf⟩ := pk_obd hf
      refine s_callV X (ci := 10) (k_X10_waitStamp G hc17) rfl h8 wd1769 wd1771 wd81 wd1772 wd138 cd_X10_waitStamp ⟨Nat.le_of_ble_eq_true rfl, Nat.le_of_ble_eq_true rfl⟩ (Nat.le_of_ble_eq_true rfl) dX10_requested_68 ?_
      refine s_iload_n X 3 dX10_requested_71 rfl rfl ?_
      have hs19 := pk_ite hf
      clear hf
      refine s_icmp_ne X (tgt := 79) dX10_requested_72 rfl (fun c20 => ?_) (fun c20 => ?_)
      · have hf := hs19.2 c20
        refine s_iconst X (v := (0 : Int32)) dX10_requested_79 rfl ?_
        exact l_X10_requested_80 X hr hlk hnm hf
      · have hf := hs19.1 c20
        refine s_iconst X (v := (1 : Int32)) dX10_requested_75 rfl ?_
        refine s_goto X (tgt := 80) dX10_requested_76 rfl ?_
        exact l_X10_requested_80 X hr hlk hnm hf
  · have hf := hs11.1 c12
    refine s_aload_n X 0 dX10_requested_49 rfl rfl ?_
    refine s_iload_n X 1 dX10_requested_50 rfl rfl ?_
    obtain ⟨M22, hc21, hf⟩ := pk_obd hf
    refine s_callV X (ci := 10) (k_X10_grantFirst G hc21) rfl h8 wd1780 wd1782 wd83 wd1783 wd138 cd_X10_grantFirst ⟨Nat.le_of_ble_eq_true rfl, Nat.le_of_ble_eq_true rfl⟩ (Nat.le_of_ble_eq_true rfl) dX10_requested_51 ?_
    cases hf
    exact s_vret X hr hlk dX10_requested_54
end
theorem k_X10_requested (G : Gam) {n : Nat} {o : Nat} {a1 : Int32} {a2 : Int32} {a3 : Int32} {M : Mem} {rv : Mem} (hf : f_X10_requested n o a1 a2 a3 M = some rv) : Kt yX10_requested cX10_requested 8 none 3 68 G [.ref (gB G + o), .int a1, .int a2, .int a3] M rv none := by
  refine Kt.of (by decide) (Nat.le_of_ble_eq_true rfl) ?_
  intro p l e R s m args below meth c X hr hlk hnm
  refine s_drop [0, 1, 2, 3] (vs' := [(0, .ref (gB G + o)), (1, .int a1), (2, .int a2), (3, .int a3)]) rfl ?_
  rw [f_X10_requested] at hf
  refine s_aload_n X 0 dX10_requested_0 rfl rfl ?_
  refine s_iload_n X 1 dX10_requested_1 rfl rfl ?_
  refine s_iconst X (v := (3 : Int32)) dX10_requested_2 rfl ?_
  obtain ⟨h1, hf⟩ := pk_chk hf
  obtain ⟨r3, hc2, hf⟩ := pk_obd hf
  refine s_callV X (ci := 10) (k_X10_of G hc2) rfl h1 wd1761 wd1763 wd79 wd1764 wd138 cd_X10_of ⟨Nat.le_of_ble_eq_true rfl, Nat.le_of_ble_eq_true rfl⟩ (Nat.le_of_ble_eq_true rfl) dX10_requested_3 ?_
  have hs4 := pk_ite hf
  clear hf
  refine s_if_le X (tgt := 13) dX10_requested_6 rfl (fun c5 => ?_) (fun c5 => ?_)
  · have hf := hs4.1 c5
    refine s_iconst X (v := (0 : Int32)) dX10_requested_13 rfl ?_
    exact l_X10_requested_14 X hr hlk hnm hf
  · have hf := hs4.2 c5
    refine s_iconst X (v := (1 : Int32)) dX10_requested_9 rfl ?_
    refine s_goto X (tgt := 14) dX10_requested_10 rfl ?_
    exact l_X10_requested_14 X hr hlk hnm hf
theorem dX10_isGranted_0 : decode cX10_isGranted 0 = .ok (.aload_n 0, 1) := dk_42 (by decide +kernel)
theorem dX10_isGranted_1 : decode cX10_isGranted 1 = .ok (.iload_n 1, 1) := dk_27 (by decide +kernel)
theorem dX10_isGranted_2 : decode cX10_isGranted 2 = .ok (.iconst 0, 1) := dk_3 (by decide +kernel)
theorem dX10_isGranted_3 : decode cX10_isGranted 3 = .ok (.invokevirtual 151, 3) := dk_182 (x := 0) (y := 151) (by decide +kernel) rfl
theorem dX10_isGranted_6 : decode cX10_isGranted 6 = .ok (.iload_n 2, 1) := dk_28 (by decide +kernel)
theorem dX10_isGranted_7 : decode cX10_isGranted 7 = .ok (.if_icmp .ne 17, 3) := dk_160 (x := 0) (y := 17) (by decide +kernel) rfl
theorem dX10_isGranted_10 : decode cX10_isGranted 10 = .ok (.aload_n 0, 1) := dk_42 (by decide +kernel)
theorem dX10_isGranted_11 : decode cX10_isGranted 11 = .ok (.iload_n 1, 1) := dk_27 (by decide +kernel)
theorem dX10_isGranted_12 : decode cX10_isGranted 12 = .ok (.iconst 1, 1) := dk_4 (by decide +kernel)
theorem dX10_isGranted_13 : decode cX10_isGranted 13 = .ok (.invokevirtual 151, 3) := dk_182 (x := 0) (y := 151) (by decide +kernel) rfl
theorem dX10_isGranted_16 : decode cX10_isGranted 16 = .ok (.iload_n 3, 1) := dk_29 (by decide +kernel)
theorem dX10_isGranted_17 : decode cX10_isGranted 17 = .ok (.if_icmp .ne 7, 3) := dk_160 (x := 0) (y := 7) (by decide +kernel) rfl
theorem dX10_isGranted_20 : decode cX10_isGranted 20 = .ok (.iconst 1, 1) := dk_4 (by decide +kernel)
theorem dX10_isGranted_21 : decode cX10_isGranted 21 = .ok (.goto 4, 3) := dk_167 (x := 0) (y := 4) (by decide +kernel) rfl
theorem dX10_isGranted_24 : decode cX10_isGranted 24 = .ok (.iconst 0, 1) := dk_3 (by decide +kernel)
theorem dX10_isGranted_25 : decode cX10_isGranted 25 = .ok (.ireturn, 1) := dk_172 (by decide +kernel)
def f_X10_isGranted (o : Nat) (a1 : Int32) (a2 : Int32) (a3 : Int32) (M : Mem) : Option Int32 :=
  chk (isO M 10 o) <|
  obd (f_X10_of o a1 (0 : Int32) M) fun r3 =>
  if r3 = a2 then (
    obd (f_X10_of o a1 (1 : Int32) M) fun r7 =>
    if r7 = a3 then (
      some (1 : Int32)
      ) else (
      some (0 : Int32)
      )
    ) else (
    some (0 : Int32)
    )
theorem cd_X10_isGranted : (yX10_isGranted.cls ≠ "java/lang/invoke/MethodHandle" ∧ yX10_isGranted.cls ≠ "java/lang/invoke/VarHandle") ∧ (parseMethodDescriptor yX10_isGranted.desc).map (fun d => d.parameters.length) = some 3 := ⟨⟨by decide +kernel, by decide +kernel⟩, by decide +kernel⟩
theorem k_X10_isGranted (G : Gam) {o : Nat} {a1 : Int32} {a2 : Int32} {a3 : Int32} {M : Mem} {rv : Int32} (hf : f_X10_isGranted o a1 a2 a3 M = some rv) : Kt yX10_isGranted cX10_isGranted 4 (some .boolean) 1 22 G [.ref (gB G + o), .int a1, .int a2, .int a3] M M (some (.int rv)) := by
  refine Kt.of (by decide) (Nat.le_of_ble_eq_true rfl) ?_
  intro p l e R s m args below meth c X hr hlk hnm
  refine s_drop [0, 1, 2, 3] (vs' := [(0, .ref (gB G + o)), (1, .int a1), (2, .int a2), (3, .int a3)]) rfl ?_
  rw [f_X10_isGranted] at hf
  refine s_aload_n X 0 dX10_isGranted_0 rfl rfl ?_
  refine s_iload_n X 1 dX10_isGranted_1 rfl rfl ?_
  refine s_iconst X (v := (0 : Int32)) dX10_isGranted_2 rfl ?_
  obtain ⟨h1, hf⟩ := pk_chk hf
  obtain ⟨r3, hc2, hf⟩ := pk_obd hf
  refine s_callV X (ci := 10) (k_X10_of G hc2) rfl h1 wd1761 wd1763 wd79 wd1764 wd138 cd_X10_of ⟨Nat.le_of_ble_eq_true rfl, Nat.le_of_ble_eq_true rfl⟩ (Nat.le_of_ble_eq_true rfl) dX10_isGranted_3 ?_
  refine s_iload_n X 2 dX10_isGranted_6 rfl rfl ?_
  have hs4 := pk_ite hf
  clear hf
  refine s_icmp_ne X (tgt := 24) dX10_isGranted_7 rfl (fun c5 => ?_) (fun c5 => ?_)
  · have hf := hs4.2 c5
    refine s_iconst X (v := (0 : Int32)) dX10_isGranted_24 rfl ?_
    cases hf
    exact s_zret X hr (bz_n (Or.inl rfl)) hlk dX10_isGranted_25
  · have hf := hs4.1 c5
    refine s_aload_n X 0 dX10_isGranted_10 rfl rfl ?_
    refine s_iload_n X 1 dX10_isGranted_11 rfl rfl ?_
    refine s_iconst X (v := (1 : Int32)) dX10_isGranted_12 rfl ?_
    obtain ⟨r7, hc6, hf⟩ := pk_obd hf
    refine s_callV X (ci := 10) (k_X10_of G hc6) rfl h1 wd1761 wd1763 wd79 wd1764 wd138 cd_X10_of ⟨Nat.le_of_ble_eq_true rfl, Nat.le_of_ble_eq_true rfl⟩ (Nat.le_of_ble_eq_true rfl) dX10_isGranted_13 ?_
    refine s_iload_n X 3 dX10_isGranted_16 rfl rfl ?_
    have hs8 := pk_ite hf
    clear hf
    refine s_icmp_ne X (tgt := 24) dX10_isGranted_17 rfl (fun c9 => ?_) (fun c9 => ?_)
    · have hf := hs8.2 c9
      refine s_iconst X (v := (0 : Int32)) dX10_isGranted_24 rfl ?_
      cases hf
      exact s_zret X hr (bz_n (Or.inl rfl)) hlk dX10_isGranted_25
    · have hf := hs8.1 c9
      refine s_iconst X (v := (1 : Int32)) dX10_isGranted_20 rfl ?_
      refine s_goto X (tgt := 25) dX10_isGranted_21 rfl ?_
      cases hf
      exact s_zret X hr (bz_n (Or.inr rfl)) hlk dX10_isGranted_25
theorem dX10_yielded_0 : decode cX10_yielded 0 = .ok (.aload_n 0, 1) := dk_42 (by decide +kernel)
theorem dX10_yielded_1 : decode cX10_yielded 1 = .ok (.iload_n 1, 1) := dk_27 (by decide +kernel)
theorem dX10_yielded_2 : decode cX10_yielded 2 = .ok (.iload_n 2, 1) := dk_28 (by decide +kernel)
theorem dX10_yielded_3 : decode cX10_yielded 3 = .ok (.iload_n 3, 1) := dk_29 (by decide +kernel)
theorem dX10_yielded_4 : decode cX10_yielded 4 = .ok (.invokevirtual 181, 3) := dk_182 (x := 0) (y := 181) (by decide +kernel) rfl
theorem dX10_yielded_7 : decode cX10_yielded 7 = .ok (.ifCond .ne 4, 3) := dk_154 (x := 0) (y := 4) (by decide +kernel) rfl
theorem dX10_yielded_10 : decode cX10_yielded 10 = .ok (.return_, 1) := dk_177 (by decide +kernel)
theorem dX10_yielded_11 : decode cX10_yielded 11 = .ok (.aload_n 0, 1) := dk_42 (by decide +kernel)
theorem dX10_yielded_12 : decode cX10_yielded 12 = .ok (.iload_n 1, 1) := dk_27 (by decide +kernel)
theorem dX10_yielded_13 : decode cX10_yielded 13 = .ok (.iload_n 2, 1) := dk_28 (by decide +kernel)
theorem dX10_yielded_14 : decode cX10_yielded 14 = .ok (.iload_n 3, 1) := dk_29 (by decide +kernel)
theorem dX10_yielded_15 : decode cX10_yielded 15 = .ok (.invokevirtual 172, 3) := dk_182 (x := 0) (y := 172) (by decide +kernel) rfl
theorem dX10_yielded_18 : decode cX10_yielded 18 = .ok (.aload_n 0, 1) := dk_42 (by decide +kernel)
theorem dX10_yielded_19 : decode cX10_yielded 19 = .ok (.iload_n 1, 1) := dk_27 (by decide +kernel)
theorem dX10_yielded_20 : decode cX10_yielded 20 = .ok (.invokevirtual 175, 3) := dk_182 (x := 0) (y := 175) (by decide +kernel) rfl
theorem dX10_yielded_23 : decode cX10_yielded 23 = .ok (.return_, 1) := dk_177 (by decide +kernel)
def f_X10_yielded (n : Nat) (o : Nat) (a1 : Int32) (a2 : Int32) (a3 : Int32) (M : Mem) : Option Mem :=
  chk (isO M 10 o) <|
  obd (f_X10_isGranted o a1 a2 a3 M) fun r3 =>
  if r3 = 0 then (
    some M
    ) else (
    obd (f_X10_comeWaiting n o a1 a2 a3 M) fun M7 =>
    chk (isO M7 10 o) <|
    obd (f_X10_grantFirst n o a1 M7) fun M10 =>
    some M10
    )
theorem cd_X10_yielded : (yX10_yielded.cls ≠ "java/lang/invoke/MethodHandle" ∧ yX10_yielded.cls ≠ "java/lang/invoke/VarHandle") ∧ (parseMethodDescriptor yX10_yielded.desc).map (fun d => d.parameters.length) = some 3 := ⟨⟨by decide +kernel, by decide +kernel⟩, by decide +kernel⟩
theorem k_X10_yielded (G : Gam) {n : Nat} {o : Nat} {a1 : Int32} {a2 : Int32} {a3 : Int32} {M : Mem} {rv : Mem} (hf : f_X10_yielded n o a1 a2 a3 M = some rv) : Kt yX10_yielded cX10_yielded 4 none 3 68 G [.ref (gB G + o), .int a1, .int a2, .int a3] M rv none := by
  refine Kt.of (by decide) (Nat.le_of_ble_eq_true rfl) ?_
  intro p l e R s m args below meth c X hr hlk hnm
  refine s_drop [0, 1, 2, 3] (vs' := [(0, .ref (gB G + o)), (1, .int a1), (2, .int a2), (3, .int a3)]) rfl ?_
  rw [f_X10_yielded] at hf
  refine s_aload_n X 0 dX10_yielded_0 rfl rfl ?_
  refine s_iload_n X 1 dX10_yielded_1 rfl rfl ?_
  refine s_iload_n X 2 dX10_yielded_2 rfl rfl ?_
  refine s_iload_n X 3 dX10_yielded_3 rfl rfl ?_
  obtain ⟨h1, hf⟩ := pk_chk hf
  obtain ⟨r3, hc2, hf⟩ := pk_obd hf
  refine s_callV X (ci := 10) (k_X10_isGranted G hc2) rfl h1 wd1800 wd1802 wd88 wd1803 wd138 cd_X10_isGranted ⟨Nat.le_of_ble_eq_true rfl, Nat.le_of_ble_eq_true rfl⟩ (Nat.le_of_ble_eq_true rfl) dX10_yielded_4 ?_
  have hs4 := pk_ite hf
  clear hf
  refine s_if_ne X (tgt := 11) dX10_yielded_7 rfl (fun c5 => ?_) (fun c5 => ?_)
  · have hf := hs4.2 c5
    refine s_aload_n X 0 dX10_yielded_11 rfl rfl ?_
    refine s_iload_n X 1 dX10_yielded_12 rfl rfl ?_
    refine s_iload_n X 2 dX10_yielded_13 rfl rfl ?_
    refine s_iload_n X 3 dX10_yielded_14 rfl rfl ?_
    obtain ⟨M7, hc6, hf⟩ := pk_obd hf
    refine s_callV X (ci := 10) (k_X10_comeWaiting G hc6) rfl h1 wd1773 wd1775 wd82 wd1776 wd138 cd_X10_comeWaiting ⟨Nat.le_of_ble_eq_true rfl, Nat.le_of_ble_eq_true rfl⟩ (Nat.le_of_ble_eq_true rfl) dX10_yielded_15 ?_
    refine s_aload_n X 0 dX10_yielded_18 rfl rfl ?_
    refine s_iload_n X 1 dX10_yielded_19 rfl rfl ?_
    obtain ⟨h8, hf⟩ := pk_chk hf
    obtain ⟨M10, hc9, hf⟩ := pk_obd hf
    refine s_callV X (ci := 10) (k_X10_grantFirst G hc9) rfl h8 wd1780 wd1782 wd83 wd1783 wd138 cd_X10_grantFirst ⟨Nat.le_of_ble_eq_true rfl, Nat.le_of_ble_eq_true rfl⟩ (Nat.le_of_ble_eq_true rfl) dX10_yielded_20 ?_
    cases hf
    exact s_vret X hr hlk dX10_yielded_23
  · have hf := hs4.1 c5
    cases hf
    exact s_vret X hr hlk dX10_yielded_10
theorem dX10_released_0 : decode cX10_released 0 = .ok (.aload_n 0, 1) := dk_42 (by decide +kernel)
theorem dX10_released_1 : decode cX10_released 1 = .ok (.iload_n 1, 1) := dk_27 (by decide +kernel)
theorem dX10_released_2 : decode cX10_released 2 = .ok (.iload_n 2, 1) := dk_28 (by decide +kernel)
theorem dX10_released_3 : decode cX10_released 3 = .ok (.iload_n 3, 1) := dk_29 (by decide +kernel)
theorem dX10_released_4 : decode cX10_released 4 = .ok (.invokevirtual 181, 3) := dk_182 (x := 0) (y := 181) (by decide +kernel) rfl
theorem dX10_released_7 : decode cX10_released 7 = .ok (.ifCond .eq 9, 3) := dk_153 (x := 0) (y := 9) (by decide +kernel) rfl
theorem dX10_released_10 : decode cX10_released 10 = .ok (.aload_n 0, 1) := dk_42 (by decide +kernel)
theorem dX10_released_11 : decode cX10_released 11 = .ok (.iload_n 1, 1) := dk_27 (by decide +kernel)
theorem dX10_released_12 : decode cX10_released 12 = .ok (.invokevirtual 175, 3) := dk_182 (x := 0) (y := 175) (by decide +kernel) rfl
theorem dX10_released_15 : decode cX10_released 15 = .ok (.return_, 1) := dk_177 (by decide +kernel)
theorem dX10_released_16 : decode cX10_released 16 = .ok (.iconst 0, 1) := dk_3 (by decide +kernel)
theorem dX10_released_17 : decode cX10_released 17 = .ok (.istore 4, 2) := dk_54 (x := 4) (by decide +kernel)
theorem dX10_released_19 : decode cX10_released 19 = .ok (.iload 4, 2) := dk_21 (x := 4) (by decide +kernel)
theorem dX10_released_21 : decode cX10_released 21 = .ok (.aload_n 0, 1) := dk_42 (by decide +kernel)
theorem dX10_released_22 : decode cX10_released 22 = .ok (.iload_n 1, 1) := dk_27 (by decide +kernel)
theorem dX10_released_23 : decode cX10_released 23 = .ok (.iconst 3, 1) := dk_6 (by decide +kernel)
theorem dX10_released_24 : decode cX10_released 24 = .ok (.invokevirtual 151, 3) := dk_182 (x := 0) (y := 151) (by decide +kernel) rfl
theorem dX10_released_27 : decode cX10_released 27 = .ok (.if_icmp .ge 42, 3) := dk_162 (x := 0) (y := 42) (by decide +kernel) rfl
theorem dX10_released_30 : decode cX10_released 30 = .ok (.aload_n 0, 1) := dk_42 (by decide +kernel)
theorem dX10_released_31 : decode cX10_released 31 = .ok (.iload_n 1, 1) := dk_27 (by decide +kernel)
theorem dX10_released_32 : decode cX10_released 32 = .ok (.iload 4, 2) := dk_21 (x := 4) (by decide +kernel)
theorem dX10_released_34 : decode cX10_released 34 = .ok (.invokevirtual 161, 3) := dk_182 (x := 0) (y := 161) (by decide +kernel) rfl
theorem dX10_released_37 : decode cX10_released 37 = .ok (.iload_n 2, 1) := dk_28 (by decide +kernel)
theorem dX10_released_38 : decode cX10_released 38 = .ok (.if_icmp .ne 25, 3) := dk_160 (x := 0) (y := 25) (by decide +kernel) rfl
theorem dX10_released_41 : decode cX10_released 41 = .ok (.aload_n 0, 1) := dk_42 (by decide +kernel)
theorem dX10_released_42 : decode cX10_released 42 = .ok (.iload_n 1, 1) := dk_27 (by decide +kernel)
theorem dX10_released_43 : decode cX10_released 43 = .ok (.iload 4, 2) := dk_21 (x := 4) (by decide +kernel)
theorem dX10_released_45 : decode cX10_released 45 = .ok (.invokevirtual 158, 3) := dk_182 (x := 0) (y := 158) (by decide +kernel) rfl
theorem dX10_released_48 : decode cX10_released 48 = .ok (.iload_n 3, 1) := dk_29 (by decide +kernel)
theorem dX10_released_49 : decode cX10_released 49 = .ok (.if_icmp .eq 6, 3) := dk_159 (x := 0) (y := 6) (by decide +kernel) rfl
theorem dX10_released_52 : decode cX10_released 52 = .ok (.goto 11, 3) := dk_167 (x := 0) (y := 11) (by decide +kernel) rfl
theorem dX10_released_55 : decode cX10_released 55 = .ok (.aload_n 0, 1) := dk_42 (by decide +kernel)
theorem dX10_released_56 : decode cX10_released 56 = .ok (.iload_n 1, 1) := dk_27 (by decide +kernel)
theorem dX10_released_57 : decode cX10_released 57 = .ok (.iload 4, 2) := dk_21 (x := 4) (by decide +kernel)
theorem dX10_released_59 : decode cX10_released 59 = .ok (.invokevirtual 168, 3) := dk_182 (x := 0) (y := 168) (by decide +kernel) rfl
theorem dX10_released_62 : decode cX10_released 62 = .ok (.return_, 1) := dk_177 (by decide +kernel)
theorem dX10_released_63 : decode cX10_released 63 = .ok (.iinc 4 1, 3) := dk_132 (x := 4) (y := 1) (by decide +kernel) rfl
theorem dX10_released_66 : decode cX10_released 66 = .ok (.goto (-47), 3) := dk_167 (x := 255) (y := 209) (by decide +kernel) rfl
theorem dX10_released_69 : decode cX10_released 69 = .ok (.return_, 1) := dk_177 (by decide +kernel)
def f_X10_released_19 : Nat → Nat → Int32 → Int32 → Int32 → Int32 → Mem → Option Mem
  | 0, _, _, _, _, _, _ => none
  | n + 1, v0, v1, v2, v3, v4, M =>
    chk (isO M 10 v0) <|
    obd (f_X10_of v0 v1 (3 : Int32) M) fun r3 =>
    if r3 ≤ v4 then (
      some M
      ) else (
      obd (f_X10_waitNode v0 v1 v4 M) fun r7 =>
      if r7 = v2 then (
        obd (f_X10_waitStamp v0 v1 v4 M) fun r13 =>
        if r13 = v3 then (
          obd (f_X10_goWaiting n v0 v1 v4 M) fun M17 =>
          some M17
          ) else (
          bnd (v4 + (1 : Int32)) fun x18 =>
          f_X10_released_19 n v0 v1 v2 v3 x18 M
          )
        ) else (
        bnd (v4 + (1 : Int32)) fun x10 =>
        f_X10_released_19 n v0 v1 v2 v3 x10 M
        )
      )
def f_X10_released (n : Nat) (o : Nat) (a1 : Int32) (a2 : Int32) (a3 : Int32) (M : Mem) : Option Mem :=
  chk (isO M 10 o) <|
  obd (f_X10_isGranted o a1 a2 a3 M) fun r3 =>
  if r3 = 0 then (
    f_X10_released_19 n o a1 a2 a3 (0 : Int32) M
    ) else (
    obd (f_X10_grantFirst n o a1 M) fun M7 =>
    some M7
    )
theorem cd_X10_released : (yX10_released.cls ≠ "java/lang/invoke/MethodHandle" ∧ yX10_released.cls ≠ "java/lang/invoke/VarHandle") ∧ (parseMethodDescriptor yX10_released.desc).map (fun d => d.parameters.length) = some 3 := ⟨⟨by decide +kernel, by decide +kernel⟩, by decide +kernel⟩
section
variable {p : Program} {l : Launch} {e : Env} {R : Room} {s : State} {m : MethodId} {args : Array Value} {below : List Frame} {meth : Method} {c : Code} {G : Gam} {M0 : Mem}
theorem l_X10_released_19 {rv : Mem} (X : Cx p R s m args c G M0 cX10_released yX10_released.cls 5 3 68) (hr : meth.sig.returnType = none) (hlk : meth.locks = false) (hnm : meth.name = "released") : ∀ {n : Nat} (v0 : Nat) (v1 : Int32) (v2 : Int32) (v3 : Int32) (v4 : Int32) (M : Mem), f_X10_released_19 n v0 v1 v2 v3 v4 M = some rv → Sg p l e R s m args below meth c (Qm below G args s none M0 rv) G M0 5 19 [(0, .ref (gB G + v0)), (1, .int v1), (2, .int v2), (3, .int v3), (4, .int v4)] [] M := by
  intro n
  induction n with
  | zero => intro v0 v1 v2 v3 v4 M hf; exact (pk_none hf).elim
  | succ n ih =>
    intro v0 v1 v2 v3 v4 M hf
    rw [f_X10_released_19] at hf
    refine s_iload X 4 dX10_released_19 rfl ?_
    refine s_aload_n X 0 dX10_released_21 rfl rfl ?_
    refine s_iload_n X 1 dX10_released_22 rfl rfl ?_
    refine s_iconst X (v := (3 : Int32)) dX10_released_23 rfl ?_
    obtain ⟨h1, hf⟩ := pk_chk hf
    obtain ⟨r3, hc2, hf⟩ := pk_obd hf
    refine s_callV X (ci := 10) (k_X10_of G hc2) rfl h1 wd1761 wd1763 wd79 wd1764 wd138 cd_X10_of ⟨Nat.le_of_ble_eq_true rfl, Nat.le_of_ble_eq_true rfl⟩ (Nat.le_of_ble_eq_true rfl) dX10_released_24 ?_
    have hs4 := pk_ite hf
    clear hf
    refine s_icmp_ge X (tgt := 69) dX10_released_27 rfl (fun c5 => ?_) (fun c5 => ?_)
    · have hf := hs4.1 c5
      cases hf
      exact s_vret X hr hlk dX10_released_69
    · have hf := hs4.2 c5
      refine s_aload_n X 0 dX10_released_30 rfl rfl ?_
      refine s_iload_n X 1 dX10_released_31 rfl rfl ?_
      refine s_iload X 4 dX10_released_32 rfl ?_
      obtain ⟨r7, hc6, hf⟩ := pk_obd hf
      refine s_callV X (ci := 10) (k_X10_waitNode G hc6) rfl h1 wd1765 wd1767 wd80 wd1768 wd138 cd_X10_waitNode ⟨Nat.le_of_ble_eq_true rfl, Nat.le_of_ble_eq_true rfl⟩ (Nat.le_of_ble_eq_true rfl) dX10_released_34 ?_
      refine s_iload_n X 2 dX10_released_37 rfl rfl ?_
      have hs8 := pk_ite hf
      clear hf
      refine s_icmp_ne X (tgt := 63) dX10_released_38 rfl (fun c9 => ?_) (fun c9 => ?_)
      · have hf := hs8.2 c9
        obtain ⟨x10, e11, hf⟩ := pk_bnd hf
        refine s_iinc X (vs' := [(0, .ref (gB G + v0)), (1, .int v1), (2, .int v2), (3, .int v3), (4, .int x10)]) 4 dX10_released_63 rfl (v := x10) e11.symm (Nat.le_of_ble_eq_true rfl) [1, 2, 3, 4, 0] rfl ?_
        refine s_goto X (tgt := 19) dX10_released_66 rfl ?_
        exact ih _ _ _ _ _ _ hf
      · have hf := hs8.1 c9
        refine s_aload_n X 0 dX10_released_41 rfl rfl ?_
        refine s_iload_n X 1 dX10_released_42 rfl rfl ?_
        refine s_iload X 4 dX10_released_43 rfl ?_
        obtain ⟨r13, hc12, hf⟩ := pk_obd hf
        refine s_callV X (ci := 10) (k_X10_waitStamp G hc12) rfl h1 wd1769 wd1771 wd81 wd1772 wd138 cd_X10_waitStamp ⟨Nat.le_of_ble_eq_true rfl, Nat.le_of_ble_eq_true rfl⟩ (Nat.le_of_ble_eq_true rfl) dX10_released_45 ?_
        refine s_iload_n X 3 dX10_released_48 rfl rfl ?_
        have hs14 := pk_ite hf
        clear hf
        refine s_icmp_eq X (tgt := 55) dX10_released_49 rfl (fun c15 => ?_) (fun c15 => ?_)
        · have hf := hs14.1 c15
          refine s_aload_n X 0 dX10_released_55 rfl rfl ?_
          refine s_iload_n X 1 dX10_released_56 rfl rfl ?_
          refine s_iload X 4 dX10_released_57 rfl ?_
          obtain ⟨M17, hc16, hf⟩ := pk_obd hf
          refine s_callV X (ci := 10) (k_X10_goWaiting G hc16) rfl h1 wd1788 wd1790 wd85 wd1791 wd138 cd_X10_goWaiting ⟨Nat.le_of_ble_eq_true rfl, Nat.le_of_ble_eq_true rfl⟩ (Nat.le_of_ble_eq_true rfl) dX10_released_59 ?_
          cases hf
          exact s_vret X hr hlk dX10_released_62
        · have hf := hs14.2 c15
          refine s_goto X (tgt := 63) dX10_released_52 rfl ?_
          obtain ⟨x18, e19, hf⟩ := pk_bnd hf
          refine s_iinc X (vs' := [(0, .ref (gB G + v0)), (1, .int v1), (2, .int v2), (3, .int v3), (4, .int x18)]) 4 dX10_released_63 rfl (v := x18) e19.symm (Nat.le_of_ble_eq_true rfl) [1, 2, 3, 4, 0] rfl ?_
          refine s_goto X (tgt := 19) dX10_released_66 rfl ?_
          exact ih _ _ _ _ _ _ hf
end
theorem k_X10_released (G : Gam) {n : Nat} {o : Nat} {a1 : Int32} {a2 : Int32} {a3 : Int32} {M : Mem} {rv : Mem} (hf : f_X10_released n o a1 a2 a3 M = some rv) : Kt yX10_released cX10_released 5 none 3 68 G [.ref (gB G + o), .int a1, .int a2, .int a3] M rv none := by
  refine Kt.of (by decide) (Nat.le_of_ble_eq_true rfl) ?_
  intro p l e R s m args below meth c X hr hlk hnm
  refine s_drop [0, 1, 2, 3] (vs' := [(0, .ref (gB G + o)), (1, .int a1), (2, .int a2), (3, .int a3)]) rfl ?_
  rw [f_X10_released] at hf
  refine s_aload_n X 0 dX10_released_0 rfl rfl ?_
  refine s_iload_n X 1 dX10_released_1 rfl rfl ?_
  refine s_iload_n X 2 dX10_released_2 rfl rfl ?_
  refine s_iload_n X 3 dX10_released_3 rfl rfl ?_
  obtain ⟨h1, hf⟩ := pk_chk hf
  obtain ⟨r3, hc2, hf⟩ := pk_obd hf
  refine s_callV X (ci := 10) (k_X10_isGranted G hc2) rfl h1 wd1800 wd1802 wd88 wd1803 wd138 cd_X10_isGranted ⟨Nat.le_of_ble_eq_true rfl, Nat.le_of_ble_eq_true rfl⟩ (Nat.le_of_ble_eq_true rfl) dX10_released_4 ?_
  have hs4 := pk_ite hf
  clear hf
  refine s_if_eq X (tgt := 16) dX10_released_7 rfl (fun c5 => ?_) (fun c5 => ?_)
  · have hf := hs4.1 c5
    refine s_iconst X (v := (0 : Int32)) dX10_released_16 rfl ?_
    refine s_istore X (vs' := [(0, .ref (gB G + o)), (1, .int a1), (2, .int a2), (3, .int a3), (4, .int (0 : Int32))]) dX10_released_17 (Nat.le_of_ble_eq_true rfl) [1, 2, 3, 4, 0] rfl ?_
    exact l_X10_released_19 X hr hlk hnm _ _ _ _ _ _ hf
  · have hf := hs4.2 c5
    refine s_aload_n X 0 dX10_released_10 rfl rfl ?_
    refine s_iload_n X 1 dX10_released_11 rfl rfl ?_
    obtain ⟨M7, hc6, hf⟩ := pk_obd hf
    refine s_callV X (ci := 10) (k_X10_grantFirst G hc6) rfl h1 wd1780 wd1782 wd83 wd1783 wd138 cd_X10_grantFirst ⟨Nat.le_of_ble_eq_true rfl, Nat.le_of_ble_eq_true rfl⟩ (Nat.le_of_ble_eq_true rfl) dX10_released_12 ?_
    cases hf
    exact s_vret X hr hlk dX10_released_15
theorem dX10_with_0 : decode cX10_with 0 = .ok (.iload_n 0, 1) := dk_26 (by decide +kernel)
theorem dX10_with_1 : decode cX10_with 1 = .ok (.iconst 1, 1) := dk_4 (by decide +kernel)
theorem dX10_with_2 : decode cX10_with 2 = .ok (.iload_n 1, 1) := dk_27 (by decide +kernel)
theorem dX10_with_3 : decode cX10_with 3 = .ok (.ishl, 1) := dk_120 (by decide +kernel)
theorem dX10_with_4 : decode cX10_with 4 = .ok (.ior, 1) := dk_128 (by decide +kernel)
theorem dX10_with_5 : decode cX10_with 5 = .ok (.ireturn, 1) := dk_172 (by decide +kernel)
def f_X10_with (a1 : Int32) (a2 : Int32) (M : Mem) : Option Int32 :=
  some (a1 ||| ((1 : Int32) <<< (a2 &&& 31)))
theorem cd_X10_with : (yX10_with.cls ≠ "java/lang/invoke/MethodHandle" ∧ yX10_with.cls ≠ "java/lang/invoke/VarHandle") ∧ (parseMethodDescriptor yX10_with.desc).map (fun d => d.parameters.length) = some 2 := ⟨⟨by decide +kernel, by decide +kernel⟩, by decide +kernel⟩
theorem k_X10_with (G : Gam) {a1 : Int32} {a2 : Int32} {M : Mem} {rv : Int32} (hf : f_X10_with a1 a2 M = some rv) : Kt yX10_with cX10_with 2 (some .int) 0 0 G [.int a1, .int a2] M M (some (.int rv)) := by
  refine Kt.of (by decide) (Nat.le_of_ble_eq_true rfl) ?_
  intro p l e R s m args below meth c X hr hlk hnm
  refine s_drop [0, 1] (vs' := [(0, .int a1), (1, .int a2)]) rfl ?_
  rw [f_X10_with] at hf
  refine s_iload_n X 0 dX10_with_0 rfl rfl ?_
  refine s_iconst X (v := (1 : Int32)) dX10_with_1 rfl ?_
  refine s_iload_n X 1 dX10_with_2 rfl rfl ?_
  refine s_ishl X dX10_with_3 ?_
  refine s_ior X dX10_with_4 ?_
  cases hf
  exact s_iret X hr hlk dX10_with_5
theorem dX10_without0_0 : decode cX10_without0 0 = .ok (.iload_n 0, 1) := dk_26 (by decide +kernel)
theorem dX10_without0_1 : decode cX10_without0 1 = .ok (.iconst 1, 1) := dk_4 (by decide +kernel)
theorem dX10_without0_2 : decode cX10_without0 2 = .ok (.iload_n 1, 1) := dk_27 (by decide +kernel)
theorem dX10_without0_3 : decode cX10_without0 3 = .ok (.ishl, 1) := dk_120 (by decide +kernel)
theorem dX10_without0_4 : decode cX10_without0 4 = .ok (.iconst (-1), 1) := dk_2 (by decide +kernel)
theorem dX10_without0_5 : decode cX10_without0 5 = .ok (.ixor, 1) := dk_130 (by decide +kernel)
theorem dX10_without0_6 : decode cX10_without0 6 = .ok (.iand, 1) := dk_126 (by decide +kernel)
theorem dX10_without0_7 : decode cX10_without0 7 = .ok (.ireturn, 1) := dk_172 (by decide +kernel)
def f_X10_without0 (a1 : Int32) (a2 : Int32) (M : Mem) : Option Int32 :=
  some (a1 &&& (((1 : Int32) <<< (a2 &&& 31)) ^^^ (-1 : Int32)))
theorem cd_X10_without0 : (yX10_without0.cls ≠ "java/lang/invoke/MethodHandle" ∧ yX10_without0.cls ≠ "java/lang/invoke/VarHandle") ∧ (parseMethodDescriptor yX10_without0.desc).map (fun d => d.parameters.length) = some 2 := ⟨⟨by decide +kernel, by decide +kernel⟩, by decide +kernel⟩
theorem k_X10_without0 (G : Gam) {a1 : Int32} {a2 : Int32} {M : Mem} {rv : Int32} (hf : f_X10_without0 a1 a2 M = some rv) : Kt yX10_without0 cX10_without0 2 (some .int) 0 0 G [.int a1, .int a2] M M (some (.int rv)) := by
  refine Kt.of (by decide) (Nat.le_of_ble_eq_true rfl) ?_
  intro p l e R s m args below meth c X hr hlk hnm
  refine s_drop [0, 1] (vs' := [(0, .int a1), (1, .int a2)]) rfl ?_
  rw [f_X10_without0] at hf
  refine s_iload_n X 0 dX10_without0_0 rfl rfl ?_
  refine s_iconst X (v := (1 : Int32)) dX10_without0_1 rfl ?_
  refine s_iload_n X 1 dX10_without0_2 rfl rfl ?_
  refine s_ishl X dX10_without0_3 ?_
  refine s_iconst X (v := (-1 : Int32)) dX10_without0_4 rfl ?_
  refine s_ixor X dX10_without0_5 ?_
  refine s_iand X dX10_without0_6 ?_
  cases hf
  exact s_iret X hr hlk dX10_without0_7
theorem dX10_countOf_0 : decode cX10_countOf 0 = .ok (.aload_n 0, 1) := dk_42 (by decide +kernel)
theorem dX10_countOf_1 : decode cX10_countOf 1 = .ok (.getfield 7, 3) := dk_180 (x := 0) (y := 7) (by decide +kernel) rfl
theorem dX10_countOf_4 : decode cX10_countOf 4 = .ok (.sipush 9865, 3) := dk_17 (x := 38) (y := 137) (by decide +kernel) rfl
theorem dX10_countOf_7 : decode cX10_countOf 7 = .ok (.iconst 3, 1) := dk_6 (by decide +kernel)
theorem dX10_countOf_8 : decode cX10_countOf 8 = .ok (.iload_n 1, 1) := dk_27 (by decide +kernel)
theorem dX10_countOf_9 : decode cX10_countOf 9 = .ok (.imul, 1) := dk_104 (by decide +kernel)
theorem dX10_countOf_10 : decode cX10_countOf 10 = .ok (.iadd, 1) := dk_96 (by decide +kernel)
theorem dX10_countOf_11 : decode cX10_countOf 11 = .ok (.iload_n 2, 1) := dk_28 (by decide +kernel)
theorem dX10_countOf_12 : decode cX10_countOf 12 = .ok (.iadd, 1) := dk_96 (by decide +kernel)
theorem dX10_countOf_13 : decode cX10_countOf 13 = .ok (.iaload, 1) := dk_46 (by decide +kernel)
theorem dX10_countOf_14 : decode cX10_countOf 14 = .ok (.ireturn, 1) := dk_172 (by decide +kernel)
def f_X10_countOf (o : Nat) (a1 : Int32) (a2 : Int32) (M : Mem) : Option Int32 :=
  chk (isO M 10 o) <|
  bnd (mR M o 0) fun o2 =>
  chk (isO M 100 o2) <|
  chk (inB (((9865 : Int32) + ((3 : Int32) * a1)) + a2) (mLn M o2)) <|
  some (mI M o2 ((((9865 : Int32) + ((3 : Int32) * a1)) + a2)).toNatClampNeg)
theorem cd_X10_countOf : (yX10_countOf.cls ≠ "java/lang/invoke/MethodHandle" ∧ yX10_countOf.cls ≠ "java/lang/invoke/VarHandle") ∧ (parseMethodDescriptor yX10_countOf.desc).map (fun d => d.parameters.length) = some 2 := ⟨⟨by decide +kernel, by decide +kernel⟩, by decide +kernel⟩
theorem k_X10_countOf (G : Gam) {o : Nat} {a1 : Int32} {a2 : Int32} {M : Mem} {rv : Int32} (hf : f_X10_countOf o a1 a2 M = some rv) : Kt yX10_countOf cX10_countOf 3 (some .int) 0 0 G [.ref (gB G + o), .int a1, .int a2] M M (some (.int rv)) := by
  refine Kt.of (by decide) (Nat.le_of_ble_eq_true rfl) ?_
  intro p l e R s m args below meth c X hr hlk hnm
  refine s_drop [0, 1, 2] (vs' := [(0, .ref (gB G + o)), (1, .int a1), (2, .int a2)]) rfl ?_
  rw [f_X10_countOf] at hf
  refine s_aload_n X 0 dX10_countOf_0 rfl rfl ?_
  obtain ⟨h1, hf⟩ := pk_chk hf
  obtain ⟨o2, e3, hf⟩ := pk_bnd hf
  obtain ⟨h4, hf⟩ := pk_chk hf
  refine s_getR X (ci := 10) (k := 0) rfl (Nat.le_of_ble_eq_true rfl) h1 wd1440 (fun _ _ _ => rfl) (e3 ▸ h4) dX10_countOf_1 (e3 ▸ ?_)
  refine s_sipush X (v := (9865 : Int32)) dX10_countOf_4 rfl ?_
  refine s_iconst X (v := (3 : Int32)) dX10_countOf_7 rfl ?_
  refine s_iload_n X 1 dX10_countOf_8 rfl rfl ?_
  refine s_imul X dX10_countOf_9 ?_
  refine s_iadd X dX10_countOf_10 ?_
  refine s_iload_n X 2 dX10_countOf_11 rfl rfl ?_
  refine s_iadd X dX10_countOf_12 ?_
  obtain ⟨h5, hf⟩ := pk_chk hf
  refine s_iald X h4 h5 dX10_countOf_13 ?_
  cases hf
  exact s_iret X hr hlk dX10_countOf_14
theorem dX10_insides_0 : decode cX10_insides 0 = .ok (.iconst 0, 1) := dk_3 (by decide +kernel)
theorem dX10_insides_1 : decode cX10_insides 1 = .ok (.istore_n 1, 1) := dk_60 (by decide +kernel)
theorem dX10_insides_2 : decode cX10_insides 2 = .ok (.iconst 0, 1) := dk_3 (by decide +kernel)
theorem dX10_insides_3 : decode cX10_insides 3 = .ok (.istore_n 2, 1) := dk_61 (by decide +kernel)
theorem dX10_insides_4 : decode cX10_insides 4 = .ok (.iload_n 2, 1) := dk_28 (by decide +kernel)
theorem dX10_insides_5 : decode cX10_insides 5 = .ok (.aload_n 0, 1) := dk_42 (by decide +kernel)
theorem dX10_insides_6 : decode cX10_insides 6 = .ok (.getfield 7, 3) := dk_180 (x := 0) (y := 7) (by decide +kernel) rfl
theorem dX10_insides_9 : decode cX10_insides 9 = .ok (.iconst 0, 1) := dk_3 (by decide +kernel)
theorem dX10_insides_10 : decode cX10_insides 10 = .ok (.iaload, 1) := dk_46 (by decide +kernel)
theorem dX10_insides_11 : decode cX10_insides 11 = .ok (.if_icmp .ge 29, 3) := dk_162 (x := 0) (y := 29) (by decide +kernel) rfl
theorem dX10_insides_14 : decode cX10_insides 14 = .ok (.iload_n 1, 1) := dk_27 (by decide +kernel)
theorem dX10_insides_15 : decode cX10_insides 15 = .ok (.aload_n 0, 1) := dk_42 (by decide +kernel)
theorem dX10_insides_16 : decode cX10_insides 16 = .ok (.iload_n 2, 1) := dk_28 (by decide +kernel)
theorem dX10_insides_17 : decode cX10_insides 17 = .ok (.iconst 0, 1) := dk_3 (by decide +kernel)
theorem dX10_insides_18 : decode cX10_insides 18 = .ok (.invokevirtual 93, 3) := dk_182 (x := 0) (y := 93) (by decide +kernel) rfl
theorem dX10_insides_21 : decode cX10_insides 21 = .ok (.iconst 2, 1) := dk_5 (by decide +kernel)
theorem dX10_insides_22 : decode cX10_insides 22 = .ok (.if_icmp .ne 9, 3) := dk_160 (x := 0) (y := 9) (by decide +kernel) rfl
theorem dX10_insides_25 : decode cX10_insides 25 = .ok (.iconst 1, 1) := dk_4 (by decide +kernel)
theorem dX10_insides_26 : decode cX10_insides 26 = .ok (.iload_n 2, 1) := dk_28 (by decide +kernel)
theorem dX10_insides_27 : decode cX10_insides 27 = .ok (.ishl, 1) := dk_120 (by decide +kernel)
theorem dX10_insides_28 : decode cX10_insides 28 = .ok (.goto 4, 3) := dk_167 (x := 0) (y := 4) (by decide +kernel) rfl
theorem dX10_insides_31 : decode cX10_insides 31 = .ok (.iconst 0, 1) := dk_3 (by decide +kernel)
theorem dX10_insides_32 : decode cX10_insides 32 = .ok (.ior, 1) := dk_128 (by decide +kernel)
theorem dX10_insides_33 : decode cX10_insides 33 = .ok (.istore_n 1, 1) := dk_60 (by decide +kernel)
theorem dX10_insides_34 : decode cX10_insides 34 = .ok (.iinc 2 1, 3) := dk_132 (x := 2) (y := 1) (by decide +kernel) rfl
theorem dX10_insides_37 : decode cX10_insides 37 = .ok (.goto (-33), 3) := dk_167 (x := 255) (y := 223) (by decide +kernel) rfl
theorem dX10_insides_40 : decode cX10_insides 40 = .ok (.iload_n 1, 1) := dk_27 (by decide +kernel)
theorem dX10_insides_41 : decode cX10_insides 41 = .ok (.ireturn, 1) := dk_172 (by decide +kernel)
def f_X10_insides_4 (M : Mem) : Nat → Nat → Int32 → Int32 → Option Int32
  | 0, _, _, _ => none
  | n + 1, v0, v1, v2 =>
    chk (isO M 10 v0) <|
    bnd (mR M v0 0) fun o2 =>
    chk (isO M 100 o2) <|
    chk (inB (0 : Int32) (mLn M o2)) <|
    if (mI M o2 ((0 : Int32)).toNatClampNeg) ≤ v2 then (
      some v1
      ) else (
      obd (f_X10_get v0 v2 (0 : Int32) M) fun r9 =>
      if r9 = (2 : Int32) then (
        bnd (v1 ||| ((1 : Int32) <<< (v2 &&& 31))) fun x16 =>
        bnd (v2 + (1 : Int32)) fun x18 =>
        f_X10_insides_4 M n v0 x16 x18
        ) else (
        bnd (v1 ||| (0 : Int32)) fun x12 =>
        bnd (v2 + (1 : Int32)) fun x14 =>
        f_X10_insides_4 M n v0 x12 x14
        )
      )
def f_X10_insides (n : Nat) (o : Nat) (M : Mem) : Option Int32 :=
  f_X10_insides_4 M n o (0 : Int32) (0 : Int32)
theorem cd_X10_insides : (yX10_insides.cls ≠ "java/lang/invoke/MethodHandle" ∧ yX10_insides.cls ≠ "java/lang/invoke/VarHandle") ∧ (parseMethodDescriptor yX10_insides.desc).map (fun d => d.parameters.length) = some 0 := ⟨⟨by decide +kernel, by decide +kernel⟩, by decide +kernel⟩
section
variable {p : Program} {l : Launch} {e : Env} {R : Room} {s : State} {m : MethodId} {args : Array Value} {below : List Frame} {meth : Method} {c : Code} {G : Gam} {M0 : Mem}
theorem l_X10_insides_4 {M : Mem} {rv : Int32} (X : Cx p R s m args c G M0 cX10_insides yX10_insides.cls 3 1 22) (hr : meth.sig.returnType = (some .int)) (hlk : meth.locks = false) (hnm : meth.name = "insides") : ∀ {n : Nat} (v0 : Nat) (v1 : Int32) (v2 : Int32), f_X10_insides_4 M n v0 v1 v2 = some rv → Sg p l e R s m args below meth c (Qm below G args s (some (.int rv)) M0 M) G M0 3 4 [(0, .ref (gB G + v0)), (1, .int v1), (2, .int v2)] [] M := by
  intro n
  induction n with
  | zero => intro v0 v1 v2 hf; exact (pk_none hf).elim
  | succ n ih =>
    intro v0 v1 v2 hf
    rw [f_X10_insides_4] at hf
    refine s_iload_n X 2 dX10_insides_4 rfl rfl ?_
    refine s_aload_n X 0 dX10_insides_5 rfl rfl ?_
    obtain ⟨h1, hf⟩ := pk_chk hf
    obtain ⟨o2, e3, hf⟩ := pk_bnd hf
    obtain ⟨h4, hf⟩ := pk_chk hf
    refine s_getR X (ci := 10) (k := 0) rfl (Nat.le_of_ble_eq_true rfl) h1 wd1440 (fun _ _ _ => rfl) (e3 ▸ h4) dX10_insides_6 (e3 ▸ ?_)
    refine s_iconst X (v := (0 : Int32)) dX10_insides_9 rfl ?_
    obtain ⟨h5, hf⟩ := pk_chk hf
    refine s_iald X h4 h5 dX10_insides_10 ?_
    have hs6 := pk_ite hf
    clear hf
    refine s_icmp_ge X (tgt := 40) dX10_insides_11 rfl (fun c7 => ?_) (fun c7 => ?_)
    · have hf := hs6.1 c7
      refine s_iload_n X 1 dX10_insides_40 rfl rfl ?_
      cases hf
      exact s_iret X hr hlk dX10_insides_41
    · have hf := hs6.2 c7
      refine s_iload_n X 1 dX10_insides_14 rfl rfl ?_
      refine s_aload_n X 0 dX10_insides_15 rfl rfl ?_
      refine s_iload_n X 2 dX10_insides_16 rfl rfl ?_
      refine s_iconst X (v := (0 : Int32)) dX10_insides_17 rfl ?_
      obtain ⟨r9, hc8, hf⟩ := pk_obd hf
      refine s_callV X (ci := 10) (k_X10_get G hc8) rfl h1 wd1588 wd1590 wd57 wd1591 wd138 cd_X10_get ⟨Nat.le_of_ble_eq_true rfl, Nat.le_of_ble_eq_true rfl⟩ (Nat.le_of_ble_eq_true rfl) dX10_insides_18 ?_
      refine s_iconst X (v := (2 : Int32)) dX10_insides_21 rfl ?_
      have hs10 := pk_ite hf
      clear hf
      refine s_icmp_ne X (tgt := 31) dX10_insides_22 rfl (fun c11 => ?_) (fun c11 => ?_)
      · have hf := hs10.2 c11
        refine s_iconst X (v := (0 : Int32)) dX10_insides_31 rfl ?_
        refine s_ior X dX10_insides_32 ?_
        obtain ⟨x12, e13, hf⟩ := pk_bnd hf
        refine s_nmI e13 ?_
        refine s_istore_n X (vs' := [(0, .ref (gB G + v0)), (1, .int x12), (2, .int v2)]) dX10_insides_33 rfl (Nat.le_of_ble_eq_true rfl) [1, 0, 2] rfl ?_
        obtain ⟨x14, e15, hf⟩ := pk_bnd hf
        refine s_iinc X (vs' := [(0, .ref (gB G + v0)), (1, .int x12), (2, .int x14)]) 2 dX10_insides_34 rfl (v := x14) e15.symm (Nat.le_of_ble_eq_true rfl) [1, 2, 0] rfl ?_
        refine s_goto X (tgt := 4) dX10_insides_37 rfl ?_
        exact ih _ _ _ hf
      · have hf := hs10.1 c11
        refine s_iconst X (v := (1 : Int32)) dX10_insides_25 rfl ?_
        refine s_iload_n X 2 dX10_insides_26 rfl rfl ?_
        refine s_ishl X dX10_insides_27 ?_
        refine s_goto X (tgt := 32) dX10_insides_28 rfl ?_
        refine s_ior X dX10_insides_32 ?_
        obtain ⟨x16, e17, hf⟩ := pk_bnd hf
        refine s_nmI e17 ?_
        refine s_istore_n X (vs' := [(0, .ref (gB G + v0)), (1, .int x16), (2, .int v2)]) dX10_insides_33 rfl (Nat.le_of_ble_eq_true rfl) [1, 0, 2] rfl ?_
        obtain ⟨x18, e19, hf⟩ := pk_bnd hf
        refine s_iinc X (vs' := [(0, .ref (gB G + v0)), (1, .int x16), (2, .int x18)]) 2 dX10_insides_34 rfl (v := x18) e19.symm (Nat.le_of_ble_eq_true rfl) [1, 2, 0] rfl ?_
        refine s_goto X (tgt := 4) dX10_insides_37 rfl ?_
        exact ih _ _ _ hf
end
theorem k_X10_insides (G : Gam) {n : Nat} {o : Nat} {M : Mem} {rv : Int32} (hf : f_X10_insides n o M = some rv) : Kt yX10_insides cX10_insides 3 (some .int) 1 22 G [.ref (gB G + o)] M M (some (.int rv)) := by
  refine Kt.of (by decide) (Nat.le_of_ble_eq_true rfl) ?_
  intro p l e R s m args below meth c X hr hlk hnm
  refine s_drop [0] (vs' := [(0, .ref (gB G + o))]) rfl ?_
  rw [f_X10_insides] at hf
  refine s_iconst X (v := (0 : Int32)) dX10_insides_0 rfl ?_
  refine s_istore_n X (vs' := [(0, .ref (gB G + o)), (1, .int (0 : Int32))]) dX10_insides_1 rfl (Nat.le_of_ble_eq_true rfl) [1, 0] rfl ?_
  refine s_iconst X (v := (0 : Int32)) dX10_insides_2 rfl ?_
  refine s_istore_n X (vs' := [(0, .ref (gB G + o)), (1, .int (0 : Int32)), (2, .int (0 : Int32))]) dX10_insides_3 rfl (Nat.le_of_ble_eq_true rfl) [1, 2, 0] rfl ?_
  exact l_X10_insides_4 X hr hlk hnm _ _ _ hf
theorem dX10_enter_0 : decode cX10_enter 0 = .ok (.aload_n 0, 1) := dk_42 (by decide +kernel)
theorem dX10_enter_1 : decode cX10_enter 1 = .ok (.iload_n 1, 1) := dk_27 (by decide +kernel)
theorem dX10_enter_2 : decode cX10_enter 2 = .ok (.iconst 0, 1) := dk_3 (by decide +kernel)
theorem dX10_enter_3 : decode cX10_enter 3 = .ok (.iconst 2, 1) := dk_5 (by decide +kernel)
theorem dX10_enter_4 : decode cX10_enter 4 = .ok (.invokevirtual 187, 3) := dk_182 (x := 0) (y := 187) (by decide +kernel) rfl
theorem dX10_enter_7 : decode cX10_enter 7 = .ok (.aload_n 0, 1) := dk_42 (by decide +kernel)
theorem dX10_enter_8 : decode cX10_enter 8 = .ok (.iload_n 1, 1) := dk_27 (by decide +kernel)
theorem dX10_enter_9 : decode cX10_enter 9 = .ok (.iconst 5, 1) := dk_8 (by decide +kernel)
theorem dX10_enter_10 : decode cX10_enter 10 = .ok (.iconst 0, 1) := dk_3 (by decide +kernel)
theorem dX10_enter_11 : decode cX10_enter 11 = .ok (.invokevirtual 187, 3) := dk_182 (x := 0) (y := 187) (by decide +kernel) rfl
theorem dX10_enter_14 : decode cX10_enter 14 = .ok (.aload_n 0, 1) := dk_42 (by decide +kernel)
theorem dX10_enter_15 : decode cX10_enter 15 = .ok (.getfield 7, 3) := dk_180 (x := 0) (y := 7) (by decide +kernel) rfl
theorem dX10_enter_18 : decode cX10_enter 18 = .ok (.sipush 9851, 3) := dk_17 (x := 38) (y := 123) (by decide +kernel) rfl
theorem dX10_enter_21 : decode cX10_enter 21 = .ok (.dup2, 1) := dk_92 (by decide +kernel)
theorem dX10_enter_22 : decode cX10_enter 22 = .ok (.iaload, 1) := dk_46 (by decide +kernel)
theorem dX10_enter_23 : decode cX10_enter 23 = .ok (.iconst 1, 1) := dk_4 (by decide +kernel)
theorem dX10_enter_24 : decode cX10_enter 24 = .ok (.iadd, 1) := dk_96 (by decide +kernel)
theorem dX10_enter_25 : decode cX10_enter 25 = .ok (.iastore, 1) := dk_79 (by decide +kernel)
theorem dX10_enter_26 : decode cX10_enter 26 = .ok (.aload_n 0, 1) := dk_42 (by decide +kernel)
theorem dX10_enter_27 : decode cX10_enter 27 = .ok (.getfield 7, 3) := dk_180 (x := 0) (y := 7) (by decide +kernel) rfl
theorem dX10_enter_30 : decode cX10_enter 30 = .ok (.sipush 9865, 3) := dk_17 (x := 38) (y := 137) (by decide +kernel) rfl
theorem dX10_enter_33 : decode cX10_enter 33 = .ok (.iconst 3, 1) := dk_6 (by decide +kernel)
theorem dX10_enter_34 : decode cX10_enter 34 = .ok (.iload_n 1, 1) := dk_27 (by decide +kernel)
theorem dX10_enter_35 : decode cX10_enter 35 = .ok (.imul, 1) := dk_104 (by decide +kernel)
theorem dX10_enter_36 : decode cX10_enter 36 = .ok (.iadd, 1) := dk_96 (by decide +kernel)
theorem dX10_enter_37 : decode cX10_enter 37 = .ok (.dup2, 1) := dk_92 (by decide +kernel)
theorem dX10_enter_38 : decode cX10_enter 38 = .ok (.iaload, 1) := dk_46 (by decide +kernel)
theorem dX10_enter_39 : decode cX10_enter 39 = .ok (.iconst 1, 1) := dk_4 (by decide +kernel)
theorem dX10_enter_40 : decode cX10_enter 40 = .ok (.iadd, 1) := dk_96 (by decide +kernel)
theorem dX10_enter_41 : decode cX10_enter 41 = .ok (.iastore, 1) := dk_79 (by decide +kernel)
theorem dX10_enter_42 : decode cX10_enter 42 = .ok (.aload_n 0, 1) := dk_42 (by decide +kernel)
theorem dX10_enter_43 : decode cX10_enter 43 = .ok (.getfield 7, 3) := dk_180 (x := 0) (y := 7) (by decide +kernel) rfl
theorem dX10_enter_46 : decode cX10_enter 46 = .ok (.sipush 9852, 3) := dk_17 (x := 38) (y := 124) (by decide +kernel) rfl
theorem dX10_enter_49 : decode cX10_enter 49 = .ok (.iaload, 1) := dk_46 (by decide +kernel)
theorem dX10_enter_50 : decode cX10_enter 50 = .ok (.aload_n 0, 1) := dk_42 (by decide +kernel)
theorem dX10_enter_51 : decode cX10_enter 51 = .ok (.iload_n 1, 1) := dk_27 (by decide +kernel)
theorem dX10_enter_52 : decode cX10_enter 52 = .ok (.iconst 1, 1) := dk_4 (by decide +kernel)
theorem dX10_enter_53 : decode cX10_enter 53 = .ok (.invokevirtual 193, 3) := dk_182 (x := 0) (y := 193) (by decide +kernel) rfl
theorem dX10_enter_56 : decode cX10_enter 56 = .ok (.isub, 1) := dk_100 (by decide +kernel)
theorem dX10_enter_57 : decode cX10_enter 57 = .ok (.istore_n 2, 1) := dk_61 (by decide +kernel)
theorem dX10_enter_58 : decode cX10_enter 58 = .ok (.aload_n 0, 1) := dk_42 (by decide +kernel)
theorem dX10_enter_59 : decode cX10_enter 59 = .ok (.iload_n 1, 1) := dk_27 (by decide +kernel)
theorem dX10_enter_60 : decode cX10_enter 60 = .ok (.iconst 2, 1) := dk_5 (by decide +kernel)
theorem dX10_enter_61 : decode cX10_enter 61 = .ok (.invokevirtual 193, 3) := dk_182 (x := 0) (y := 193) (by decide +kernel) rfl
theorem dX10_enter_64 : decode cX10_enter 64 = .ok (.istore_n 3, 1) := dk_62 (by decide +kernel)
theorem dX10_enter_65 : decode cX10_enter 65 = .ok (.iload_n 2, 1) := dk_28 (by decide +kernel)
theorem dX10_enter_66 : decode cX10_enter 66 = .ok (.aload_n 0, 1) := dk_42 (by decide +kernel)
theorem dX10_enter_67 : decode cX10_enter 67 = .ok (.getfield 7, 3) := dk_180 (x := 0) (y := 7) (by decide +kernel) rfl
theorem dX10_enter_70 : decode cX10_enter 70 = .ok (.sipush 9855, 3) := dk_17 (x := 38) (y := 127) (by decide +kernel) rfl
theorem dX10_enter_73 : decode cX10_enter 73 = .ok (.iaload, 1) := dk_46 (by decide +kernel)
theorem dX10_enter_74 : decode cX10_enter 74 = .ok (.if_icmp .le 12, 3) := dk_164 (x := 0) (y := 12) (by decide +kernel) rfl
theorem dX10_enter_77 : decode cX10_enter 77 = .ok (.aload_n 0, 1) := dk_42 (by decide +kernel)
theorem dX10_enter_78 : decode cX10_enter 78 = .ok (.getfield 7, 3) := dk_180 (x := 0) (y := 7) (by decide +kernel) rfl
theorem dX10_enter_81 : decode cX10_enter 81 = .ok (.sipush 9855, 3) := dk_17 (x := 38) (y := 127) (by decide +kernel) rfl
theorem dX10_enter_84 : decode cX10_enter 84 = .ok (.iload_n 2, 1) := dk_28 (by decide +kernel)
theorem dX10_enter_85 : decode cX10_enter 85 = .ok (.iastore, 1) := dk_79 (by decide +kernel)
theorem dX10_enter_86 : decode cX10_enter 86 = .ok (.iload_n 3, 1) := dk_29 (by decide +kernel)
theorem dX10_enter_87 : decode cX10_enter 87 = .ok (.aload_n 0, 1) := dk_42 (by decide +kernel)
theorem dX10_enter_88 : decode cX10_enter 88 = .ok (.getfield 7, 3) := dk_180 (x := 0) (y := 7) (by decide +kernel) rfl
theorem dX10_enter_91 : decode cX10_enter 91 = .ok (.sipush 9854, 3) := dk_17 (x := 38) (y := 126) (by decide +kernel) rfl
theorem dX10_enter_94 : decode cX10_enter 94 = .ok (.iaload, 1) := dk_46 (by decide +kernel)
theorem dX10_enter_95 : decode cX10_enter 95 = .ok (.if_icmp .le 12, 3) := dk_164 (x := 0) (y := 12) (by decide +kernel) rfl
theorem dX10_enter_98 : decode cX10_enter 98 = .ok (.aload_n 0, 1) := dk_42 (by decide +kernel)
theorem dX10_enter_99 : decode cX10_enter 99 = .ok (.getfield 7, 3) := dk_180 (x := 0) (y := 7) (by decide +kernel) rfl
theorem dX10_enter_102 : decode cX10_enter 102 = .ok (.sipush 9854, 3) := dk_17 (x := 38) (y := 126) (by decide +kernel) rfl
theorem dX10_enter_105 : decode cX10_enter 105 = .ok (.iload_n 3, 1) := dk_29 (by decide +kernel)
theorem dX10_enter_106 : decode cX10_enter 106 = .ok (.iastore, 1) := dk_79 (by decide +kernel)
theorem dX10_enter_107 : decode cX10_enter 107 = .ok (.aload_n 0, 1) := dk_42 (by decide +kernel)
theorem dX10_enter_108 : decode cX10_enter 108 = .ok (.invokevirtual 196, 3) := dk_182 (x := 0) (y := 196) (by decide +kernel) rfl
theorem dX10_enter_111 : decode cX10_enter 111 = .ok (.invokestatic 111, 3) := dk_184 (x := 0) (y := 111) (by decide +kernel) rfl
theorem dX10_enter_114 : decode cX10_enter 114 = .ok (.iconst 1, 1) := dk_4 (by decide +kernel)
theorem dX10_enter_115 : decode cX10_enter 115 = .ok (.if_icmp .le 15, 3) := dk_164 (x := 0) (y := 15) (by decide +kernel) rfl
theorem dX10_enter_118 : decode cX10_enter 118 = .ok (.aload_n 0, 1) := dk_42 (by decide +kernel)
theorem dX10_enter_119 : decode cX10_enter 119 = .ok (.getfield 7, 3) := dk_180 (x := 0) (y := 7) (by decide +kernel) rfl
theorem dX10_enter_122 : decode cX10_enter 122 = .ok (.sipush 9853, 3) := dk_17 (x := 38) (y := 125) (by decide +kernel) rfl
theorem dX10_enter_125 : decode cX10_enter 125 = .ok (.dup2, 1) := dk_92 (by decide +kernel)
theorem dX10_enter_126 : decode cX10_enter 126 = .ok (.iaload, 1) := dk_46 (by decide +kernel)
theorem dX10_enter_127 : decode cX10_enter 127 = .ok (.iconst 1, 1) := dk_4 (by decide +kernel)
theorem dX10_enter_128 : decode cX10_enter 128 = .ok (.iadd, 1) := dk_96 (by decide +kernel)
theorem dX10_enter_129 : decode cX10_enter 129 = .ok (.iastore, 1) := dk_79 (by decide +kernel)
theorem dX10_enter_130 : decode cX10_enter 130 = .ok (.iconst 0, 1) := dk_3 (by decide +kernel)
theorem dX10_enter_131 : decode cX10_enter 131 = .ok (.istore 4, 2) := dk_54 (x := 4) (by decide +kernel)
theorem dX10_enter_133 : decode cX10_enter 133 = .ok (.iconst 0, 1) := dk_3 (by decide +kernel)
theorem dX10_enter_134 : decode cX10_enter 134 = .ok (.istore 5, 2) := dk_54 (x := 5) (by decide +kernel)
theorem dX10_enter_136 : decode cX10_enter 136 = .ok (.iload 5, 2) := dk_21 (x := 5) (by decide +kernel)
theorem dX10_enter_138 : decode cX10_enter 138 = .ok (.aload_n 0, 1) := dk_42 (by decide +kernel)
theorem dX10_enter_139 : decode cX10_enter 139 = .ok (.getfield 7, 3) := dk_180 (x := 0) (y := 7) (by decide +kernel) rfl
theorem dX10_enter_142 : decode cX10_enter 142 = .ok (.iconst 0, 1) := dk_3 (by decide +kernel)
theorem dX10_enter_143 : decode cX10_enter 143 = .ok (.iaload, 1) := dk_46 (by decide +kernel)
theorem dX10_enter_144 : decode cX10_enter 144 = .ok (.if_icmp .ge 54, 3) := dk_162 (x := 0) (y := 54) (by decide +kernel) rfl
theorem dX10_enter_147 : decode cX10_enter 147 = .ok (.iload 4, 2) := dk_21 (x := 4) (by decide +kernel)
theorem dX10_enter_149 : decode cX10_enter 149 = .ok (.ifCond .ne 36, 3) := dk_154 (x := 0) (y := 36) (by decide +kernel) rfl
theorem dX10_enter_152 : decode cX10_enter 152 = .ok (.aload_n 0, 1) := dk_42 (by decide +kernel)
theorem dX10_enter_153 : decode cX10_enter 153 = .ok (.iload 5, 2) := dk_21 (x := 5) (by decide +kernel)
theorem dX10_enter_155 : decode cX10_enter 155 = .ok (.iconst 0, 1) := dk_3 (by decide +kernel)
theorem dX10_enter_156 : decode cX10_enter 156 = .ok (.invokevirtual 93, 3) := dk_182 (x := 0) (y := 93) (by decide +kernel) rfl
theorem dX10_enter_159 : decode cX10_enter 159 = .ok (.iconst 1, 1) := dk_4 (by decide +kernel)
theorem dX10_enter_160 : decode cX10_enter 160 = .ok (.if_icmp .ne 29, 3) := dk_160 (x := 0) (y := 29) (by decide +kernel) rfl
theorem dX10_enter_163 : decode cX10_enter 163 = .ok (.aload_n 0, 1) := dk_42 (by decide +kernel)
theorem dX10_enter_164 : decode cX10_enter 164 = .ok (.iload 5, 2) := dk_21 (x := 5) (by decide +kernel)
theorem dX10_enter_166 : decode cX10_enter 166 = .ok (.iconst 2, 1) := dk_5 (by decide +kernel)
theorem dX10_enter_167 : decode cX10_enter 167 = .ok (.invokevirtual 93, 3) := dk_182 (x := 0) (y := 93) (by decide +kernel) rfl
theorem dX10_enter_170 : decode cX10_enter 170 = .ok (.iload 5, 2) := dk_21 (x := 5) (by decide +kernel)
theorem dX10_enter_172 : decode cX10_enter 172 = .ok (.aload_n 0, 1) := dk_42 (by decide +kernel)
theorem dX10_enter_173 : decode cX10_enter 173 = .ok (.iload_n 1, 1) := dk_27 (by decide +kernel)
theorem dX10_enter_174 : decode cX10_enter 174 = .ok (.iconst 2, 1) := dk_5 (by decide +kernel)
theorem dX10_enter_175 : decode cX10_enter 175 = .ok (.invokevirtual 93, 3) := dk_182 (x := 0) (y := 93) (by decide +kernel) rfl
theorem dX10_enter_178 : decode cX10_enter 178 = .ok (.iload_n 1, 1) := dk_27 (by decide +kernel)
theorem dX10_enter_179 : decode cX10_enter 179 = .ok (.invokestatic 154, 3) := dk_184 (x := 0) (y := 154) (by decide +kernel) rfl
theorem dX10_enter_182 : decode cX10_enter 182 = .ok (.ifCond .eq 7, 3) := dk_153 (x := 0) (y := 7) (by decide +kernel) rfl
theorem dX10_enter_185 : decode cX10_enter 185 = .ok (.iconst 1, 1) := dk_4 (by decide +kernel)
theorem dX10_enter_186 : decode cX10_enter 186 = .ok (.goto 4, 3) := dk_167 (x := 0) (y := 4) (by decide +kernel) rfl
theorem dX10_enter_189 : decode cX10_enter 189 = .ok (.iconst 0, 1) := dk_3 (by decide +kernel)
theorem dX10_enter_190 : decode cX10_enter 190 = .ok (.istore 4, 2) := dk_54 (x := 4) (by decide +kernel)
theorem dX10_enter_192 : decode cX10_enter 192 = .ok (.iinc 5 1, 3) := dk_132 (x := 5) (y := 1) (by decide +kernel) rfl
theorem dX10_enter_195 : decode cX10_enter 195 = .ok (.goto (-59), 3) := dk_167 (x := 255) (y := 197) (by decide +kernel) rfl
theorem dX10_enter_198 : decode cX10_enter 198 = .ok (.aload_n 0, 1) := dk_42 (by decide +kernel)
theorem dX10_enter_199 : decode cX10_enter 199 = .ok (.getfield 7, 3) := dk_180 (x := 0) (y := 7) (by decide +kernel) rfl
theorem dX10_enter_202 : decode cX10_enter 202 = .ok (.sipush 9856, 3) := dk_17 (x := 38) (y := 128) (by decide +kernel) rfl
theorem dX10_enter_205 : decode cX10_enter 205 = .ok (.dup2, 1) := dk_92 (by decide +kernel)
theorem dX10_enter_206 : decode cX10_enter 206 = .ok (.iaload, 1) := dk_46 (by decide +kernel)
theorem dX10_enter_207 : decode cX10_enter 207 = .ok (.iload 4, 2) := dk_21 (x := 4) (by decide +kernel)
theorem dX10_enter_209 : decode cX10_enter 209 = .ok (.ifCond .eq 7, 3) := dk_153 (x := 0) (y := 7) (by decide +kernel) rfl
theorem dX10_enter_212 : decode cX10_enter 212 = .ok (.iconst 1, 1) := dk_4 (by decide +kernel)
theorem dX10_enter_213 : decode cX10_enter 213 = .ok (.goto 4, 3) := dk_167 (x := 0) (y := 4) (by decide +kernel) rfl
theorem dX10_enter_216 : decode cX10_enter 216 = .ok (.iconst 0, 1) := dk_3 (by decide +kernel)
theorem dX10_enter_217 : decode cX10_enter 217 = .ok (.iadd, 1) := dk_96 (by decide +kernel)
theorem dX10_enter_218 : decode cX10_enter 218 = .ok (.iastore, 1) := dk_79 (by decide +kernel)
theorem dX10_enter_219 : decode cX10_enter 219 = .ok (.aload_n 0, 1) := dk_42 (by decide +kernel)
theorem dX10_enter_220 : decode cX10_enter 220 = .ok (.getfield 7, 3) := dk_180 (x := 0) (y := 7) (by decide +kernel) rfl
theorem dX10_enter_223 : decode cX10_enter 223 = .ok (.sipush 9857, 3) := dk_17 (x := 38) (y := 129) (by decide +kernel) rfl
theorem dX10_enter_226 : decode cX10_enter 226 = .ok (.iaload, 1) := dk_46 (by decide +kernel)
theorem dX10_enter_227 : decode cX10_enter 227 = .ok (.bipush 30, 2) := dk_16 (x := 30) (by decide +kernel) rfl
theorem dX10_enter_229 : decode cX10_enter 229 = .ok (.if_icmp .ne 50, 3) := dk_160 (x := 0) (y := 50) (by decide +kernel) rfl
theorem dX10_enter_232 : decode cX10_enter 232 = .ok (.sipush 9913, 3) := dk_17 (x := 38) (y := 185) (by decide +kernel) rfl
theorem dX10_enter_235 : decode cX10_enter 235 = .ok (.istore 5, 2) := dk_54 (x := 5) (by decide +kernel)
theorem dX10_enter_237 : decode cX10_enter 237 = .ok (.iload 5, 2) := dk_21 (x := 5) (by decide +kernel)
theorem dX10_enter_239 : decode cX10_enter 239 = .ok (.sipush 10029, 3) := dk_17 (x := 39) (y := 45) (by decide +kernel) rfl
theorem dX10_enter_242 : decode cX10_enter 242 = .ok (.if_icmp .ge 25, 3) := dk_162 (x := 0) (y := 25) (by decide +kernel) rfl
theorem dX10_enter_245 : decode cX10_enter 245 = .ok (.aload_n 0, 1) := dk_42 (by decide +kernel)
theorem dX10_enter_246 : decode cX10_enter 246 = .ok (.getfield 7, 3) := dk_180 (x := 0) (y := 7) (by decide +kernel) rfl
theorem dX10_enter_249 : decode cX10_enter 249 = .ok (.iload 5, 2) := dk_21 (x := 5) (by decide +kernel)
theorem dX10_enter_251 : decode cX10_enter 251 = .ok (.aload_n 0, 1) := dk_42 (by decide +kernel)
theorem dX10_enter_252 : decode cX10_enter 252 = .ok (.getfield 7, 3) := dk_180 (x := 0) (y := 7) (by decide +kernel) rfl
theorem dX10_enter_255 : decode cX10_enter 255 = .ok (.iload 5, 2) := dk_21 (x := 5) (by decide +kernel)
theorem dX10_enter_257 : decode cX10_enter 257 = .ok (.iconst 4, 1) := dk_7 (by decide +kernel)
theorem dX10_enter_258 : decode cX10_enter 258 = .ok (.iadd, 1) := dk_96 (by decide +kernel)
theorem dX10_enter_259 : decode cX10_enter 259 = .ok (.iaload, 1) := dk_46 (by decide +kernel)
theorem dX10_enter_260 : decode cX10_enter 260 = .ok (.iastore, 1) := dk_79 (by decide +kernel)
theorem dX10_enter_261 : decode cX10_enter 261 = .ok (.iinc 5 1, 3) := dk_132 (x := 5) (y := 1) (by decide +kernel) rfl
theorem dX10_enter_264 : decode cX10_enter 264 = .ok (.goto (-27), 3) := dk_167 (x := 255) (y := 229) (by decide +kernel) rfl
theorem dX10_enter_267 : decode cX10_enter 267 = .ok (.aload_n 0, 1) := dk_42 (by decide +kernel)
theorem dX10_enter_268 : decode cX10_enter 268 = .ok (.getfield 7, 3) := dk_180 (x := 0) (y := 7) (by decide +kernel) rfl
theorem dX10_enter_271 : decode cX10_enter 271 = .ok (.sipush 9857, 3) := dk_17 (x := 38) (y := 129) (by decide +kernel) rfl
theorem dX10_enter_274 : decode cX10_enter 274 = .ok (.dup2, 1) := dk_92 (by decide +kernel)
theorem dX10_enter_275 : decode cX10_enter 275 = .ok (.iaload, 1) := dk_46 (by decide +kernel)
theorem dX10_enter_276 : decode cX10_enter 276 = .ok (.iconst 1, 1) := dk_4 (by decide +kernel)
theorem dX10_enter_277 : decode cX10_enter 277 = .ok (.isub, 1) := dk_100 (by decide +kernel)
theorem dX10_enter_278 : decode cX10_enter 278 = .ok (.iastore, 1) := dk_79 (by decide +kernel)
theorem dX10_enter_279 : decode cX10_enter 279 = .ok (.sipush 9913, 3) := dk_17 (x := 38) (y := 185) (by decide +kernel) rfl
theorem dX10_enter_282 : decode cX10_enter 282 = .ok (.iconst 4, 1) := dk_7 (by decide +kernel)
theorem dX10_enter_283 : decode cX10_enter 283 = .ok (.aload_n 0, 1) := dk_42 (by decide +kernel)
theorem dX10_enter_284 : decode cX10_enter 284 = .ok (.getfield 7, 3) := dk_180 (x := 0) (y := 7) (by decide +kernel) rfl
theorem dX10_enter_287 : decode cX10_enter 287 = .ok (.sipush 9857, 3) := dk_17 (x := 38) (y := 129) (by decide +kernel) rfl
theorem dX10_enter_290 : decode cX10_enter 290 = .ok (.iaload, 1) := dk_46 (by decide +kernel)
theorem dX10_enter_291 : decode cX10_enter 291 = .ok (.imul, 1) := dk_104 (by decide +kernel)
theorem dX10_enter_292 : decode cX10_enter 292 = .ok (.iadd, 1) := dk_96 (by decide +kernel)
theorem dX10_enter_293 : decode cX10_enter 293 = .ok (.istore 5, 2) := dk_54 (x := 5) (by decide +kernel)
theorem dX10_enter_295 : decode cX10_enter 295 = .ok (.aload_n 0, 1) := dk_42 (by decide +kernel)
theorem dX10_enter_296 : decode cX10_enter 296 = .ok (.getfield 7, 3) := dk_180 (x := 0) (y := 7) (by decide +kernel) rfl
theorem dX10_enter_299 : decode cX10_enter 299 = .ok (.iload 5, 2) := dk_21 (x := 5) (by decide +kernel)
theorem dX10_enter_301 : decode cX10_enter 301 = .ok (.iload_n 1, 1) := dk_27 (by decide +kernel)
theorem dX10_enter_302 : decode cX10_enter 302 = .ok (.iastore, 1) := dk_79 (by decide +kernel)
theorem dX10_enter_303 : decode cX10_enter 303 = .ok (.aload_n 0, 1) := dk_42 (by decide +kernel)
theorem dX10_enter_304 : decode cX10_enter 304 = .ok (.getfield 7, 3) := dk_180 (x := 0) (y := 7) (by decide +kernel) rfl
theorem dX10_enter_307 : decode cX10_enter 307 = .ok (.iload 5, 2) := dk_21 (x := 5) (by decide +kernel)
theorem dX10_enter_309 : decode cX10_enter 309 = .ok (.iconst 1, 1) := dk_4 (by decide +kernel)
theorem dX10_enter_310 : decode cX10_enter 310 = .ok (.iadd, 1) := dk_96 (by decide +kernel)
theorem dX10_enter_311 : decode cX10_enter 311 = .ok (.aload_n 0, 1) := dk_42 (by decide +kernel)
theorem dX10_enter_312 : decode cX10_enter 312 = .ok (.iload_n 1, 1) := dk_27 (by decide +kernel)
theorem dX10_enter_313 : decode cX10_enter 313 = .ok (.iconst 2, 1) := dk_5 (by decide +kernel)
theorem dX10_enter_314 : decode cX10_enter 314 = .ok (.invokevirtual 93, 3) := dk_182 (x := 0) (y := 93) (by decide +kernel) rfl
theorem dX10_enter_317 : decode cX10_enter 317 = .ok (.iastore, 1) := dk_79 (by decide +kernel)
theorem dX10_enter_318 : decode cX10_enter 318 = .ok (.aload_n 0, 1) := dk_42 (by decide +kernel)
theorem dX10_enter_319 : decode cX10_enter 319 = .ok (.getfield 7, 3) := dk_180 (x := 0) (y := 7) (by decide +kernel) rfl
theorem dX10_enter_322 : decode cX10_enter 322 = .ok (.iload 5, 2) := dk_21 (x := 5) (by decide +kernel)
theorem dX10_enter_324 : decode cX10_enter 324 = .ok (.iconst 2, 1) := dk_5 (by decide +kernel)
theorem dX10_enter_325 : decode cX10_enter 325 = .ok (.iadd, 1) := dk_96 (by decide +kernel)
theorem dX10_enter_326 : decode cX10_enter 326 = .ok (.iload_n 2, 1) := dk_28 (by decide +kernel)
theorem dX10_enter_327 : decode cX10_enter 327 = .ok (.iastore, 1) := dk_79 (by decide +kernel)
theorem dX10_enter_328 : decode cX10_enter 328 = .ok (.aload_n 0, 1) := dk_42 (by decide +kernel)
theorem dX10_enter_329 : decode cX10_enter 329 = .ok (.getfield 7, 3) := dk_180 (x := 0) (y := 7) (by decide +kernel) rfl
theorem dX10_enter_332 : decode cX10_enter 332 = .ok (.iload 5, 2) := dk_21 (x := 5) (by decide +kernel)
theorem dX10_enter_334 : decode cX10_enter 334 = .ok (.iconst 3, 1) := dk_6 (by decide +kernel)
theorem dX10_enter_335 : decode cX10_enter 335 = .ok (.iadd, 1) := dk_96 (by decide +kernel)
theorem dX10_enter_336 : decode cX10_enter 336 = .ok (.iload_n 3, 1) := dk_29 (by decide +kernel)
theorem dX10_enter_337 : decode cX10_enter 337 = .ok (.iastore, 1) := dk_79 (by decide +kernel)
theorem dX10_enter_338 : decode cX10_enter 338 = .ok (.aload_n 0, 1) := dk_42 (by decide +kernel)
theorem dX10_enter_339 : decode cX10_enter 339 = .ok (.getfield 7, 3) := dk_180 (x := 0) (y := 7) (by decide +kernel) rfl
theorem dX10_enter_342 : decode cX10_enter 342 = .ok (.sipush 9857, 3) := dk_17 (x := 38) (y := 129) (by decide +kernel) rfl
theorem dX10_enter_345 : decode cX10_enter 345 = .ok (.dup2, 1) := dk_92 (by decide +kernel)
theorem dX10_enter_346 : decode cX10_enter 346 = .ok (.iaload, 1) := dk_46 (by decide +kernel)
theorem dX10_enter_347 : decode cX10_enter 347 = .ok (.iconst 1, 1) := dk_4 (by decide +kernel)
theorem dX10_enter_348 : decode cX10_enter 348 = .ok (.iadd, 1) := dk_96 (by decide +kernel)
theorem dX10_enter_349 : decode cX10_enter 349 = .ok (.iastore, 1) := dk_79 (by decide +kernel)
theorem dX10_enter_350 : decode cX10_enter 350 = .ok (.return_, 1) := dk_177 (by decide +kernel)
def f_X10_enter_279 (n : Nat) (v0 : Nat) (v1 : Int32) (v2 : Int32) (v3 : Int32) (M : Mem) : Option Mem :=
    chk (isO M 10 v0) <|
    bnd (mR M v0 0) fun o2 =>
    chk (isO M 100 o2) <|
    chk (inB (9857 : Int32) (mLn M o2)) <|
    bnd ((9913 : Int32) + ((4 : Int32) * (mI M o2 ((9857 : Int32)).toNatClampNeg))) fun x6 =>
    bnd (mR M v0 0) fun o8 =>
    chk (isO M 100 o8) <|
    chk (inB x6 (mLn M o8)) <|
    bnd (sI M o8 (x6).toNatClampNeg v1) fun M12 =>
    bnd (mR M12 v0 0) fun o17 =>
    chk (isO M12 100 o17) <|
    obd (f_X10_get v0 v1 (2 : Int32) M12) fun r21 =>
    chk (inB (x6 + (1 : Int32)) (mLn M12 o17)) <|
    bnd (sI M12 o17 ((x6 + (1 : Int32))).toNatClampNeg r21) fun M23 =>
    bnd (mR M23 v0 0) fun o29 =>
    chk (isO M23 100 o29) <|
    chk (inB (x6 + (2 : Int32)) (mLn M23 o29)) <|
    bnd (sI M23 o29 ((x6 + (2 : Int32))).toNatClampNeg v2) fun M33 =>
    bnd (mR M33 v0 0) fun o40 =>
    chk (isO M33 100 o40) <|
    chk (inB (x6 + (3 : Int32)) (mLn M33 o40)) <|
    bnd (sI M33 o40 ((x6 + (3 : Int32))).toNatClampNeg v3) fun M44 =>
    bnd (mR M44 v0 0) fun o52 =>
    chk (isO M44 100 o52) <|
    chk (inB (9857 : Int32) (mLn M44 o52)) <|
    chk (inB (9857 : Int32) (mLn M44 o52)) <|
    bnd (sI M44 o52 ((9857 : Int32)).toNatClampNeg ((mI M44 o52 ((9857 : Int32)).toNatClampNeg) + (1 : Int32))) fun M57 =>
    some M57
def f_X10_enter_237 : Nat → Nat → Int32 → Int32 → Int32 → Int32 → Mem → Option Mem
  | 0, _, _, _, _, _, _ => none
  | n + 1, v0, v1, v2, v3, v5, M =>
    if (10029 : Int32) ≤ v5 then (
      chk (isO M 10 v0) <|
      bnd (mR M v0 0) fun o4 =>
      chk (isO M 100 o4) <|
      chk (inB (9857 : Int32) (mLn M o4)) <|
      chk (inB (9857 : Int32) (mLn M o4)) <|
      bnd (sI M o4 ((9857 : Int32)).toNatClampNeg ((mI M o4 ((9857 : Int32)).toNatClampNeg) - (1 : Int32))) fun M9 =>
      f_X10_enter_279 n v0 v1 v2 v3 M9
      ) else (
      chk (isO M 10 v0) <|
      bnd (mR M v0 0) fun o14 =>
      chk (isO M 100 o14) <|
      bnd (mR M v0 0) fun o17 =>
      chk (isO M 100 o17) <|
      chk (inB (v5 + (4 : Int32)) (mLn M o17)) <|
      chk (inB v5 (mLn M o14)) <|
      bnd (sI M o14 (v5).toNatClampNeg (mI M o17 ((v5 + (4 : Int32))).toNatClampNeg)) fun M22 =>
      bnd (v5 + (1 : Int32)) fun x27 =>
      f_X10_enter_237 n v0 v1 v2 v3 x27 M22
      )
def f_X10_enter_217 (n : Nat) (v0 : Nat) (v1 : Int32) (v2 : Int32) (v3 : Int32) (u0 : Int32) (u1 : Int32) (u2 : Int32) (u3 : Nat) (M : Mem) : Option Mem :=
    chk (isO M 100 u3) <|
    chk (inB u2 (mLn M u3)) <|
    bnd (sI M u3 (u2).toNatClampNeg (u1 + u0)) fun M3 =>
    chk (isO M3 10 v0) <|
    bnd (mR M3 v0 0) fun o7 =>
    chk (isO M3 100 o7) <|
    chk (inB (9857 : Int32) (mLn M3 o7)) <|
    if (mI M3 o7 ((9857 : Int32)).toNatClampNeg) = (30 : Int32) then (
      f_X10_enter_237 n v0 v1 v2 v3 (9913 : Int32) M3
      ) else (
      f_X10_enter_279 n v0 v1 v2 v3 M3
      )
def f_X10_enter_136 : Nat → Nat → Int32 → Int32 → Int32 → Int32 → Int32 → Mem → Option Mem
  | 0, _, _, _, _, _, _, _ => none
  | n + 1, v0, v1, v2, v3, v4, v5, M =>
    chk (isO M 10 v0) <|
    bnd (mR M v0 0) fun o2 =>
    chk (isO M 100 o2) <|
    chk (inB (0 : Int32) (mLn M o2)) <|
    if (mI M o2 ((0 : Int32)).toNatClampNeg) ≤ v5 then (
      bnd (mR M v0 0) fun o8 =>
      chk (isO M 100 o8) <|
      chk (inB (9856 : Int32) (mLn M o8)) <|
      if v4 = 0 then (
        f_X10_enter_217 n v0 v1 v2 v3 (0 : Int32) (mI M o8 ((9856 : Int32)).toNatClampNeg) (9856 : Int32) o8 M
        ) else (
        f_X10_enter_217 n v0 v1 v2 v3 (1 : Int32) (mI M o8 ((9856 : Int32)).toNatClampNeg) (9856 : Int32) o8 M
        )
      ) else (
      if v4 = 0 then (
        obd (f_X10_get v0 v5 (0 : Int32) M) fun r19 =>
        if r19 = (1 : Int32) then (
          obd (f_X10_get v0 v5 (2 : Int32) M) fun r25 =>
          obd (f_X10_get v0 v1 (2 : Int32) M) fun r27 =>
          obd (f_X10_isAhead r25 v5 r27 v1 M) fun r29 =>
          if r29 = 0 then (
            bnd (v5 + (1 : Int32)) fun x32 =>
            f_X10_enter_136 n v0 v1 v2 v3 (0 : Int32) x32 M
            ) else (
            bnd (v5 + (1 : Int32)) fun x34 =>
            f_X10_enter_136 n v0 v1 v2 v3 (1 : Int32) x34 M
            )
          ) else (
          bnd (v5 + (1 : Int32)) fun x22 =>
          f_X10_enter_136 n v0 v1 v2 v3 (0 : Int32) x22 M
          )
        ) else (
        bnd (v5 + (1 : Int32)) fun x16 =>
        f_X10_enter_136 n v0 v1 v2 v3 (1 : Int32) x16 M
        )
      )
def f_X10_enter_107 (n : Nat) (v0 : Nat) (v1 : Int32) (v2 : Int32) (v3 : Int32) (M : Mem) : Option Mem :=
    chk (isO M 10 v0) <|
    obd (f_X10_insides n v0 M) fun r3 =>
    obd (f_X10_many n r3 M) fun r5 =>
    if r5 ≤ (1 : Int32) then (
      f_X10_enter_136 n v0 v1 v2 v3 (0 : Int32) (0 : Int32) M
      ) else (
      bnd (mR M v0 0) fun o8 =>
      chk (isO M 100 o8) <|
      chk (inB (9853 : Int32) (mLn M o8)) <|
      chk (inB (9853 : Int32) (mLn M o8)) <|
      bnd (sI M o8 ((9853 : Int32)).toNatClampNeg ((mI M o8 ((9853 : Int32)).toNatClampNeg) + (1 : Int32))) fun M13 =>
      f_X10_enter_136 n v0 v1 v2 v3 (0 : Int32) (0 : Int32) M13
      )
def f_X10_enter_86 (n : Nat) (v0 : Nat) (v1 : Int32) (v2 : Int32) (v3 : Int32) (M : Mem) : Option Mem :=
    chk (isO M 10 v0) <|
    bnd (mR M v0 0) fun o2 =>
    chk (isO M 100 o2) <|
    chk (inB (9854 : Int32) (mLn M o2)) <|
    if v3 ≤ (mI M o2 ((9854 : Int32)).toNatClampNeg) then (
      f_X10_enter_107 n v0 v1 v2 v3 M
      ) else (
      bnd (mR M v0 0) fun o8 =>
      chk (isO M 100 o8) <|
      chk (inB (9854 : Int32) (mLn M o8)) <|
      bnd (sI M o8 ((9854 : Int32)).toNatClampNeg v3) fun M12 =>
      f_X10_enter_107 n v0 v1 v2 v3 M12
      )
def f_X10_enter (n : Nat) (o : Nat) (a1 : Int32) (M : Mem) : Option Mem :=
  chk (isO M 10 o) <|
  obd (f_X10_let o a1 (0 : Int32) (2 : Int32) M) fun M3 =>
  chk (isO M3 10 o) <|
  obd (f_X10_let o a1 (5 : Int32) (0 : Int32) M3) fun M6 =>
  chk (isO M6 10 o) <|
  bnd (mR M6 o 0) fun o8 =>
  chk (isO M6 100 o8) <|
  chk (inB (9851 : Int32) (mLn M6 o8)) <|
  chk (inB (9851 : Int32) (mLn M6 o8)) <|
  bnd (sI M6 o8 ((9851 : Int32)).toNatClampNeg ((mI M6 o8 ((9851 : Int32)).toNatClampNeg) + (1 : Int32))) fun M13 =>
  bnd (mR M13 o 0) fun o17 =>
  chk (isO M13 100 o17) <|
  bnd ((9865 : Int32) + ((3 : Int32) * a1)) fun x20 =>
  chk (inB x20 (mLn M13 o17)) <|
  chk (inB x20 (mLn M13 o17)) <|
  bnd (sI M13 o17 (x20).toNatClampNeg ((mI M13 o17 (x20).toNatClampNeg) + (1 : Int32))) fun M24 =>
  bnd (mR M24 o 0) fun o29 =>
  chk (isO M24 100 o29) <|
  chk (inB (9852 : Int32) (mLn M24 o29)) <|
  obd (f_X10_countOf o a1 (1 : Int32) M24) fun r34 =>
  bnd ((mI M24 o29 ((9852 : Int32)).toNatClampNeg) - r34) fun x35 =>
  obd (f_X10_countOf o a1 (2 : Int32) M24) fun r38 =>
  bnd (mR M24 o 0) fun o39 =>
  chk (isO M24 100 o39) <|
  chk (inB (9855 : Int32) (mLn M24 o39)) <|
  if x35 ≤ (mI M24 o39 ((9855 : Int32)).toNatClampNeg) then (
    f_X10_enter_86 n o a1 x35 r38 M24
    ) else (
    bnd (mR M24 o 0) fun o45 =>
    chk (isO M24 100 o45) <|
    chk (inB (9855 : Int32) (mLn M24 o45)) <|
    bnd (sI M24 o45 ((9855 : Int32)).toNatClampNeg x35) fun M49 =>
    f_X10_enter_86 n o a1 x35 r38 M49
    )
theorem cd_X10_enter : (yX10_enter.cls ≠ "java/lang/invoke/MethodHandle" ∧ yX10_enter.cls ≠ "java/lang/invoke/VarHandle") ∧ (parseMethodDescriptor yX10_enter.desc).map (fun d => d.parameters.length) = some 1 := ⟨⟨by decide +kernel, by decide +kernel⟩, by decide +kernel⟩
section
variable {p : Program} {l : Launch} {e : Env} {R : Room} {s : State} {m : MethodId} {args : Array Value} {below : List Frame} {meth : Method} {c : Code} {G : Gam} {M0 : Mem}
theorem l_X10_enter_279 {rv : Mem} {n : Nat} {v0 : Nat} {v1 : Int32} {v2 : Int32} {v3 : Int32} {M : Mem} (X : Cx p R s m args c G M0 cX10_enter yX10_enter.cls 6 2 44) (hr : meth.sig.returnType = none) (hlk : meth.locks = false) (hnm : meth.name = "enter") (hf : f_X10_enter_279 n v0 v1 v2 v3 M = some rv) : Sg p l e R s m args below meth c (Qm below G args s none M0 rv) G M0 6 279 [(0, .ref (gB G + v0)), (1, .int v1), (2, .int v2), (3, .int v3)] [] M := by
  rw [f_X10_enter_279] at hf
  refine s_sipush X (v := (9913 : Int32)) dX10_enter_279 rfl ?_
  refine s_iconst X (v := (4 : Int32)) dX10_enter_282 rfl ?_
  refine s_aload_n X 0 dX10_enter_283 rfl rfl ?_
  obtain ⟨h1, hf⟩ := pk_chk hf
  obtain ⟨o2, e3, hf⟩ := pk_bnd hf
  obtain ⟨h4, hf⟩ := pk_chk hf
  refine s_getR X (ci := 10) (k := 0) rfl (Nat.le_of_ble_eq_true rfl) h1 wd1440 (fun _ _ _ => rfl) (e3 ▸ h4) dX10_enter_284 (e3 ▸ ?_)
  refine s_sipush X (v := (9857 : Int32)) dX10_enter_287 rfl ?_
  obtain ⟨h5, hf⟩ := pk_chk hf
  refine s_iald X h4 h5 dX10_enter_290 ?_
  refine s_imul X dX10_enter_291 ?_
  refine s_iadd X dX10_enter_292 ?_
  obtain ⟨x6, e7, hf⟩ := pk_bnd hf
  refine s_nmI e7 ?_
  refine s_istore X (vs' := [(0, .ref (gB G + v0)), (1, .int v1), (2, .int v2), (3, .int v3), (5, .int x6)]) dX10_enter_293 (Nat.le_of_ble_eq_true rfl) [1, 2, 3, 4, 0] rfl ?_
  refine s_aload_n X 0 dX10_enter_295 rfl rfl ?_
  obtain ⟨o8, e9, hf⟩ := pk_bnd hf
  obtain ⟨h10, hf⟩ := pk_chk hf
  refine s_getR X (ci := 10) (k := 0) rfl (Nat.le_of_ble_eq_true rfl) h1 wd1440 (fun _ _ _ => rfl) (e9 ▸ h10) dX10_enter_296 (e9 ▸ ?_)
  refine s_iload X 4 dX10_enter_299 rfl ?_
  refine s_iload_n X 1 dX10_enter_301 rfl rfl ?_
  obtain ⟨h11, hf⟩ := pk_chk hf
  obtain ⟨M12, e13, hf⟩ := pk_bnd hf
  refine s_iast X h10 h11 e13 dX10_enter_302 ?_
  have h14 := io_sI e13 h1
  have h15 := io_sI e13 h4
  have h16 := io_sI e13 h10
  refine s_aload_n X 0 dX10_enter_303 rfl rfl ?_
  obtain ⟨o17, e18, hf⟩ := pk_bnd hf
  obtain ⟨h19, hf⟩ := pk_chk hf
  refine s_getR X (ci := 10) (k := 0) rfl (Nat.le_of_ble_eq_true rfl) h14 wd1440 (fun _ _ _ => rfl) (e18 ▸ h19) dX10_enter_304 (e18 ▸ ?_)
  refine s_iload X 4 dX10_enter_307 rfl ?_
  refine s_iconst X (v := (1 : Int32)) dX10_enter_309 rfl ?_
  refine s_iadd X dX10_enter_310 ?_
  refine s_aload_n X 0 dX10_enter_311 rfl rfl ?_
  refine s_iload_n X 1 dX10_enter_312 rfl rfl ?_
  refine s_iconst X (v := (2 : Int32)) dX10_enter_313 rfl ?_
  obtain ⟨r21, hc20, hf⟩ := pk_obd hf
  refine s_callV X (ci := 10) (k_X10_get G hc20) rfl h14 wd1588 wd1590 wd57 wd1591 wd138 cd_X10_get ⟨Nat.le_of_ble_eq_true rfl, Nat.le_of_ble_eq_true rfl⟩ (Nat.le_of_ble_eq_true rfl) dX10_enter_314 ?_
  obtain ⟨h22, hf⟩ := pk_chk hf
  obtain ⟨M23, e24, hf⟩ := pk_bnd hf
  refine s_iast X h19 h22 e24 dX10_enter_317 ?_
  have h25 := io_sI e24 h14
  have h26 := io_sI e24 h15
  have h27 := io_sI e24 h16
  have h28 := io_sI e24 h19
  refine s_aload_n X 0 dX10_enter_318 rfl rfl ?_
  obtain ⟨o29, e30, hf⟩ := pk_bnd hf
  obtain ⟨h31, hf⟩ := pk_chk hf
  refine s_getR X (ci := 10) (k := 0) rfl (Nat.le_of_ble_eq_true rfl) h25 wd1440 (fun _ _ _ => rfl) (e30 ▸ h31) dX10_enter_319 (e30 ▸ ?_)
  refine s_iload X 4 dX10_enter_322 rfl ?_
  refine s_iconst X (v := (2 : Int32)) dX10_enter_324 rfl ?_
  refine s_iadd X dX10_enter_325 ?_
  refine s_iload_n X 2 dX10_enter_326 rfl rfl ?_
  obtain ⟨h32, hf⟩ := pk_chk hf
  obtain ⟨M33, e34, hf⟩ := pk_bnd hf
  refine s_iast X h31 h32 e34 dX10_enter_327 ?_
  have h35 := io_sI e34 h25
  have h36 := io_sI e34 h26
  have h37 := io_sI e34 h27
  have h38 := io_sI e34 h28
  have h39 := io_sI e34 h31
  refine s_aload_n X 0 dX10_enter_328 rfl rfl ?_
  obtain ⟨o40, e41, hf⟩ := pk_bnd hf
  obtain ⟨h42, hf⟩ := pk_chk hf
  refine s_getR X (ci := 10) (k := 0) rfl (Nat.le_of_ble_eq_true rfl) h35 wd1440 (fun _ _ _ => rfl) (e41 ▸ h42) dX10_enter_329 (e41 ▸ ?_)
  refine s_iload X 4 dX10_enter_332 rfl ?_
  refine s_iconst X (v := (3 : Int32)) dX10_enter_334 rfl ?_
  refine s_iadd X dX10_enter_335 ?_
  refine s_iload_n X 3 dX10_enter_336 rfl rfl ?_
  obtain ⟨h43, hf⟩ := pk_chk hf
  obtain ⟨M44, e45, hf⟩ := pk_bnd hf
  refine s_iast X h42 h43 e45 dX10_enter_337 ?_
  have h46 := io_sI e45 h35
  have h47 := io_sI e45 h36
  have h48 := io_sI e45 h37
  have h49 := io_sI e45 h38
  have h50 := io_sI e45 h39
  have h51 := io_sI e45 h42
  refine s_aload_n X 0 dX10_enter_338 rfl rfl ?_
  obtain ⟨o52, e53, hf⟩ := pk_bnd hf
  obtain ⟨h54, hf⟩ := pk_chk hf
  refine s_getR X (ci := 10) (k := 0) rfl (Nat.le_of_ble_eq_true rfl) h46 wd1440 (fun _ _ _ => rfl) (e53 ▸ h54) dX10_enter_339 (e53 ▸ ?_)
  refine s_sipush X (v := (9857 : Int32)) dX10_enter_342 rfl ?_
  refine s_dup2 X dX10_enter_345 rfl rfl ?_
  obtain ⟨h55, hf⟩ := pk_chk hf
  refine s_iald X h54 h55 dX10_enter_346 ?_
  refine s_iconst X (v := (1 : Int32)) dX10_enter_347 rfl ?_
  refine s_iadd X dX10_enter_348 ?_
  obtain ⟨h56, hf⟩ := pk_chk hf
  obtain ⟨M57, e58, hf⟩ := pk_bnd hf
  refine s_iast X h54 h56 e58 dX10_enter_349 ?_
  have h59 := io_sI e58 h46
  have h60 := io_sI e58 h47
  have h61 := io_sI e58 h48
  have h62 := io_sI e58 h49
  have h63 := io_sI e58 h50
  have h64 := io_sI e58 h51
  have h65 := io_sI e58 h54
  cases hf
  exact s_vret X hr hlk dX10_enter_350
theorem l_X10_enter_237 {rv : Mem} (X : Cx p R s m args c G M0 cX10_enter yX10_enter.cls 6 2 44) (hr : meth.sig.returnType = none) (hlk : meth.locks = false) (hnm : meth.name = "enter") : ∀ {n : Nat} (v0 : Nat) (v1 : Int32) (v2 : Int32) (v3 : Int32) (v5 : Int32) (M : Mem), f_X10_enter_237 n v0 v1 v2 v3 v5 M = some rv → Sg p l e R s m args below meth c (Qm below G args s none M0 rv) G M0 6 237 [(0, .ref (gB G + v0)), (1, .int v1), (2, .int v2), (3, .int v3), (5, .int v5)] [] M := by
  intro n
  induction n with
  | zero => intro v0 v1 v2 v3 v5 M hf; exact (pk_none hf).elim
  | succ n ih =>
    intro v0 v1 v2 v3 v5 M hf
    rw [f_X10_enter_237] at hf
    refine s_iload X 4 dX10_enter_237 rfl ?_
    refine s_sipush X (v := (10029 : Int32)) dX10_enter_239 rfl ?_
    have hs1 := pk_ite hf
    clear hf
    refine s_icmp_ge X (tgt := 267) dX10_enter_242 rfl (fun c2 => ?_) (fun c2 => ?_)
    · have hf := hs1.1 c2
      refine s_aload_n X 0 dX10_enter_267 rfl rfl ?_
      obtain ⟨h3, hf⟩ := pk_chk hf
      obtain ⟨o4, e5, hf⟩ := pk_bnd hf
      obtain ⟨h6, hf⟩ := pk_chk hf
      refine s_getR X (ci := 10) (k := 0) rfl (Nat.le_of_ble_eq_true rfl) h3 wd1440 (fun _ _ _ => rfl) (e5 ▸ h6) dX10_enter_268 (e5 ▸ ?_)
      refine s_sipush X (v := (9857 : Int32)) dX10_enter_271 rfl ?_
      refine s_dup2 X dX10_enter_274 rfl rfl ?_
      obtain ⟨h7, hf⟩ := pk_chk hf
      refine s_iald X h6 h7 dX10_enter_275 ?_
      refine s_iconst X (v := (1 : Int32)) dX10_enter_276 rfl ?_
      refine s_isub X dX10_enter_277 ?_
      obtain ⟨h8, hf⟩ := pk_chk hf
      obtain ⟨M9, e10, hf⟩ := pk_bnd hf
      refine s_iast X h6 h8 e10 dX10_enter_278 ?_
      have h11 := io_sI e10 h3
      have h12 := io_sI e10 h6
      refine s_drop [0, 1, 2, 3] (vs' := [(0, .ref (gB G + v0)), (1, .int v1), (2, .int v2), (3, .int v3)]) rfl ?_
      exact l_X10_enter_279 X hr hlk hnm hf
    · have hf := hs1.2 c2
      refine s_aload_n X 0 dX10_enter_245 rfl rfl ?_
      obtain ⟨h13, hf⟩ := pk_chk hf
      obtain ⟨o14, e15, hf⟩ := pk_bnd hf
      obtain ⟨h16, hf⟩ := pk_chk hf
      refine s_getR X (ci := 10) (k := 0) rfl (Nat.le_of_ble_eq_true rfl) h13 wd1440 (fun _ _ _ => rfl) (e15 ▸ h16) dX10_enter_246 (e15 ▸ ?_)
      refine s_iload X 4 dX10_enter_249 rfl ?_
      refine s_aload_n X 0 dX10_enter_251 rfl rfl ?_
      obtain ⟨o17, e18, hf⟩ := pk_bnd hf
      obtain ⟨h19, hf⟩ := pk_chk hf
      refine s_getR X (ci := 10) (k := 0) rfl (Nat.le_of_ble_eq_true rfl) h13 wd1440 (fun _ _ _ => rfl) (e18 ▸ h19) dX10_enter_252 (e18 ▸ ?_)
      refine s_iload X 4 dX10_enter_255 rfl ?_
      refine s_iconst X (v := (4 : Int32)) dX10_enter_257 rfl ?_
      refine s_iadd X dX10_enter_258 ?_
      obtain ⟨h20, hf⟩ := pk_chk hf
      refine s_iald X h19 h20 dX10_enter_259 ?_
      obtain ⟨h21, hf⟩ := pk_chk hf
      obtain ⟨M22, e23, hf⟩ := pk_bnd hf
      refine s_iast X h16 h21 e23 dX10_enter_260 ?_
      have h24 := io_sI e23 h13
      have h25 := io_sI e23 h16
      have h26 := io_sI e23 h19
      obtain ⟨x27, e28, hf⟩ := pk_bnd hf
      refine s_iinc X (vs' := [(0, .ref (gB G + v0)), (1, .int v1), (2, .int v2), (3, .int v3), (5, .int x27)]) 4 dX10_enter_261 rfl (v := x27) e28.symm (Nat.le_of_ble_eq_true rfl) [1, 2, 3, 4, 0] rfl ?_
      refine s_goto X (tgt := 237) dX10_enter_264 rfl ?_
      exact ih _ _ _ _ _ _ hf
theorem l_X10_enter_217 {rv : Mem} {n : Nat} {v0 : Nat} {v1 : Int32} {v2 : Int32} {v3 : Int32} {u0 : Int32} {u1 : Int32} {u2 : Int32} {u3 : Nat} {M : Mem} (X : Cx p R s m args c G M0 cX10_enter yX10_enter.cls 6 2 44) (hr : meth.sig.returnType = none) (hlk : meth.locks = false) (hnm : meth.name = "enter") (hf : f_X10_enter_217 n v0 v1 v2 v3 u0 u1 u2 u3 M = some rv) : Sg p l e R s m args below meth c (Qm below G args s none M0 rv) G M0 6 217 [(0, .ref (gB G + v0)), (1, .int v1), (2, .int v2), (3, .int v3)] [.int u0, .int u1, .int u2, .ref (gB G + u3)] M := by
  rw [f_X10_enter_217] at hf
  refine s_iadd X dX10_enter_217 ?_
  obtain ⟨h1, hf⟩ := pk_chk hf
  obtain ⟨h2, hf⟩ := pk_chk hf
  obtain ⟨M3, e4, hf⟩ := pk_bnd hf
  refine s_iast X h1 h2 e4 dX10_enter_218 ?_
  have h5 := io_sI e4 h1
  refine s_aload_n X 0 dX10_enter_219 rfl rfl ?_
  obtain ⟨h6, hf⟩ := pk_chk hf
  obtain ⟨o7, e8, hf⟩ := pk_bnd hf
  obtain ⟨h9, hf⟩ := pk_chk hf
  refine s_getR X (ci := 10) (k := 0) rfl (Nat.le_of_ble_eq_true rfl) h6 wd1440 (fun _ _ _ => rfl) (e8 ▸ h9) dX10_enter_220 (e8 ▸ ?_)
  refine s_sipush X (v := (9857 : Int32)) dX10_enter_223 rfl ?_
  obtain ⟨h10, hf⟩ := pk_chk hf
  refine s_iald X h9 h10 dX10_enter_226 ?_
  refine s_bipush X (v := (30 : Int32)) dX10_enter_227 rfl ?_
  have hs11 := pk_ite hf
  clear hf
  refine s_icmp_ne X (tgt := 279) dX10_enter_229 rfl (fun c12 => ?_) (fun c12 => ?_)
  · have hf := hs11.2 c12
    exact l_X10_enter_279 X hr hlk hnm hf
  · have hf := hs11.1 c12
    refine s_sipush X (v := (9913 : Int32)) dX10_enter_232 rfl ?_
    refine s_istore X (vs' := [(0, .ref (gB G + v0)), (1, .int v1), (2, .int v2), (3, .int v3), (5, .int (9913 : Int32))]) dX10_enter_235 (Nat.le_of_ble_eq_true rfl) [1, 2, 3, 4, 0] rfl ?_
    exact l_X10_enter_237 X hr hlk hnm _ _ _ _ _ _ hf
theorem l_X10_enter_136 {rv : Mem} (X : Cx p R s m args c G M0 cX10_enter yX10_enter.cls 6 2 44) (hr : meth.sig.returnType = none) (hlk : meth.locks = false) (hnm : meth.name = "enter") : ∀ {n : Nat} (v0 : Nat) (v1 : Int32) (v2 : Int32) (v3 : Int32) (v4 : Int32) (v5 : Int32) (M : Mem), f_X10_enter_136 n v0 v1 v2 v3 v4 v5 M = some rv → Sg p l e R s m args below meth c (Qm below G args s none M0 rv) G M0 6 136 [(0, .ref (gB G + v0)), (1, .int v1), (2, .int v2), (3, .int v3), (4, .int v4), (5, .int v5)] [] M := by
  intro n
  induction n with
  | zero => intro v0 v1 v2 v3 v4 v5 M hf; exact (pk_none hf).elim
  | succ n ih =>
    intro v0 v1 v2 v3 v4 v5 M hf
    rw [f_X10_enter_136] at hf
    refine s_iload X 5 dX10_enter_136 rfl ?_
    refine s_aload_n X 0 dX10_enter_138 rfl rfl ?_
    obtain ⟨h1, hf⟩ := pk_chk hf
    obtain ⟨o2, e3, hf⟩ := pk_bnd hf
    obtain ⟨h4, hf⟩ := pk_chk hf
    refine s_getR X (ci := 10) (k := 0) rfl (Nat.le_of_ble_eq_true rfl) h1 wd1440 (fun _ _ _ => rfl) (e3 ▸ h4) dX10_enter_139 (e3 ▸ ?_)
    refine s_iconst X (v := (0 : Int32)) dX10_enter_142 rfl ?_
    obtain ⟨h5, hf⟩ := pk_chk hf
    refine s_iald X h4 h5 dX10_enter_143 ?_
    have hs6 := pk_ite hf
    clear hf
    refine s_icmp_ge X (tgt := 198) dX10_enter_144 rfl (fun c7 => ?_) (fun c7 => ?_)
    · have hf := hs6.1 c7
      refine s_aload_n X 0 dX10_enter_198 rfl rfl ?_
      obtain ⟨o8, e9, hf⟩ := pk_bnd hf
      obtain ⟨h10, hf⟩ := pk_chk hf
      refine s_getR X (ci := 10) (k := 0) rfl (Nat.le_of_ble_eq_true rfl) h1 wd1440 (fun _ _ _ => rfl) (e9 ▸ h10) dX10_enter_199 (e9 ▸ ?_)
      refine s_sipush X (v := (9856 : Int32)) dX10_enter_202 rfl ?_
      refine s_dup2 X dX10_enter_205 rfl rfl ?_
      obtain ⟨h11, hf⟩ := pk_chk hf
      refine s_iald X h10 h11 dX10_enter_206 ?_
      refine s_iload X 4 dX10_enter_207 rfl ?_
      have hs12 := pk_ite hf
      clear hf
      refine s_if_eq X (tgt := 216) dX10_enter_209 rfl (fun c13 => ?_) (fun c13 => ?_)
      · have hf := hs12.1 c13
        refine s_iconst X (v := (0 : Int32)) dX10_enter_216 rfl ?_
        refine s_drop [0, 1, 2, 3] (vs' := [(0, .ref (gB G + v0)), (1, .int v1), (2, .int v2), (3, .int v3)]) rfl ?_
        exact l_X10_enter_217 X hr hlk hnm hf
      · have hf := hs12.2 c13
        refine s_iconst X (v := (1 : Int32)) dX10_enter_212 rfl ?_
        refine s_goto X (tgt := 217) dX10_enter_213 rfl ?_
        refine s_drop [0, 1, 2, 3] (vs' := [(0, .ref (gB G + v0)), (1, .int v1), (2, .int v2), (3, .int v3)]) rfl ?_
        exact l_X10_enter_217 X hr hlk hnm hf
    · have hf := hs6.2 c7
      refine s_iload X 4 dX10_enter_147 rfl ?_
      have hs14 := pk_ite hf
      clear hf
      refine s_if_ne X (tgt := 185) dX10_enter_149 rfl (fun c15 => ?_) (fun c15 => ?_)
      · have hf := hs14.2 c15
        refine s_iconst X (v := (1 : Int32)) dX10_enter_185 rfl ?_
        refine s_goto X (tgt := 190) dX10_enter_186 rfl ?_
        refine s_istore X (vs' := [(0, .ref (gB G + v0)), (1, .int v1), (2, .int v2), (3, .int v3), (4, .int (1 : Int32)), (5, .int v5)]) dX10_enter_190 (Nat.le_of_ble_eq_true rfl) [1, 2, 3, 4, 0, 5] rfl ?_
        obtain ⟨x16, e17, hf⟩ := pk_bnd hf
        refine s_iinc X (vs' := [(0, .ref (gB G + v0)), (1, .int v1), (2, .int v2), (3, .int v3), (4, .int (1 : Int32)), (5, .int x16)]) 5 dX10_enter_192 rfl (v := x16) e17.symm (Nat.le_of_ble_eq_true rfl) [1, 2, 3, 4, 5, 0] rfl ?_
        refine s_goto X (tgt := 136) dX10_enter_195 rfl ?_
        exact ih _ _ _ _ _ _ _ hf
      · have hf := hs14.1 c15
        refine s_aload_n X 0 dX10_enter_152 rfl rfl ?_
        refine s_iload X 5 dX10_enter_153 rfl ?_
        refine s_iconst X (v := (0 : Int32)) dX10_enter_155 rfl ?_
        obtain ⟨r19, hc18, hf⟩ := pk_obd hf
        refine s_callV X (ci := 10) (k_X10_get G hc18) rfl h1 wd1588 wd1590 wd57 wd1591 wd138 cd_X10_get ⟨Nat.le_of_ble_eq_true rfl, Nat.le_of_ble_eq_true rfl⟩ (Nat.le_of_ble_eq_true rfl) dX10_enter_156 ?_
        refine s_iconst X (v := (1 : Int32)) dX10_enter_159 rfl ?_
        have hs20 := pk_ite hf
        clear hf
        refine s_icmp_ne X (tgt := 189) dX10_enter_160 rfl (fun c21 => ?_) (fun c21 => ?_)
        · have hf := hs20.2 c21
          refine s_iconst X (v := (0 : Int32)) dX10_enter_189 rfl ?_
          refine s_istore X (vs' := [(0, .ref (gB G + v0)), (1, .int v1), (2, .int v2), (3, .int v3), (4, .int (0 : Int32)), (5, .int v5)]) dX10_enter_190 (Nat.le_of_ble_eq_true rfl) [1, 2, 3, 4, 0, 5] rfl ?_
          obtain ⟨x22, e23, hf⟩ := pk_bnd hf
          refine s_iinc X (vs' := [(0, .ref (gB G + v0)), (1, .int v1), (2, .int v2), (3, .int v3), (4, .int (0 : Int32)), (5, .int x22)]) 5 dX10_enter_192 rfl (v := x22) e23.symm (Nat.le_of_ble_eq_true rfl) [1, 2, 3, 4, 5, 0] rfl ?_
          refine s_goto X (tgt := 136) dX10_enter_195 rfl ?_
          exact ih _ _ _ _ _ _ _ hf
        · have hf := hs20.1 c21
          refine s_aload_n X 0 dX10_enter_163 rfl rfl ?_
          refine s_iload X 5 dX10_enter_164 rfl ?_
          refine s_iconst X (v := (2 : Int32)) dX10_enter_166 rfl ?_
          obtain ⟨r25, hc24, hf⟩ := pk_obd hf
          refine s_callV X (ci := 10) (k_X10_get G hc24) rfl h1 wd1588 wd1590 wd57 wd1591 wd138 cd_X10_get ⟨Nat.le_of_ble_eq_true rfl, Nat.le_of_ble_eq_true rfl⟩ (Nat.le_of_ble_eq_true rfl) dX10_enter_167 ?_
          refine s_iload X 5 dX10_enter_170 rfl ?_
          refine s_aload_n X 0 dX10_enter_172 rfl rfl ?_
          refine s_iload_n X 1 dX10_enter_173 rfl rfl ?_
          refine s_iconst X (v := (2 : Int32)) dX10_enter_174 rfl ?_
          obtain ⟨r27, hc26, hf⟩ := pk_obd hf
          refine s_callV X (ci := 10) (k_X10_get G hc26) rfl h1 wd1588 wd1590 wd57 wd1591 wd138 cd_X10_get ⟨Nat.le_of_ble_eq_true rfl, Nat.le_of_ble_eq_true rfl⟩ (Nat.le_of_ble_eq_true rfl) dX10_enter_175 ?_
          refine s_iload_n X 1 dX10_enter_178 rfl rfl ?_
          obtain ⟨r29, hc28, hf⟩ := pk_obd hf
          refine s_callS X (k_X10_isAhead G hc28) wd1777 wd1778 wd1779 wd138 cd_X10_isAhead ⟨Nat.le_of_ble_eq_true rfl, Nat.le_of_ble_eq_true rfl⟩ (Nat.le_of_ble_eq_true rfl) dX10_enter_179 ?_
          have hs30 := pk_ite hf
          clear hf
          refine s_if_eq X (tgt := 189) dX10_enter_182 rfl (fun c31 => ?_) (fun c31 => ?_)
          · have hf := hs30.1 c31
            refine s_iconst X (v := (0 : Int32)) dX10_enter_189 rfl ?_
            refine s_istore X (vs' := [(0, .ref (gB G + v0)), (1, .int v1), (2, .int v2), (3, .int v3), (4, .int (0 : Int32)), (5, .int v5)]) dX10_enter_190 (Nat.le_of_ble_eq_true rfl) [1, 2, 3, 4, 0, 5] rfl ?_
            obtain ⟨x32, e33, hf⟩ := pk_bnd hf
            refine s_iinc X (vs' := [(0, .ref (gB G + v0)), (1, .int v1), (2, .int v2), (3, .int v3), (4, .int (0 : Int32)), (5, .int x32)]) 5 dX10_enter_192 rfl (v := x32) e33.symm (Nat.le_of_ble_eq_true rfl) [1, 2, 3, 4, 5, 0] rfl ?_
            refine s_goto X (tgt := 136) dX10_enter_195 rfl ?_
            exact ih _ _ _ _ _ _ _ hf
          · have hf := hs30.2 c31
            refine s_iconst X (v := (1 : Int32)) dX10_enter_185 rfl ?_
            refine s_goto X (tgt := 190) dX10_enter_186 rfl ?_
            refine s_istore X (vs' := [(0, .ref (gB G + v0)), (1, .int v1), (2, .int v2), (3, .int v3), (4, .int (1 : Int32)), (5, .int v5)]) dX10_enter_190 (Nat.le_of_ble_eq_true rfl) [1, 2, 3, 4, 0, 5] rfl ?_
            obtain ⟨x34, e35, hf⟩ := pk_bnd hf
            refine s_iinc X (vs' := [(0, .ref (gB G + v0)), (1, .int v1), (2, .int v2), (3, .int v3), (4, .int (1 : Int32)), (5, .int x34)]) 5 dX10_enter_192 rfl (v := x34) e35.symm (Nat.le_of_ble_eq_true rfl) [1, 2, 3, 4, 5, 0] rfl ?_
            refine s_goto X (tgt := 136) dX10_enter_195 rfl ?_
            exact ih _ _ _ _ _ _ _ hf
theorem l_X10_enter_107 {rv : Mem} {n : Nat} {v0 : Nat} {v1 : Int32} {v2 : Int32} {v3 : Int32} {M : Mem} (X : Cx p R s m args c G M0 cX10_enter yX10_enter.cls 6 2 44) (hr : meth.sig.returnType = none) (hlk : meth.locks = false) (hnm : meth.name = "enter") (hf : f_X10_enter_107 n v0 v1 v2 v3 M = some rv) : Sg p l e R s m args below meth c (Qm below G args s none M0 rv) G M0 6 107 [(0, .ref (gB G + v0)), (1, .int v1), (2, .int v2), (3, .int v3)] [] M := by
  rw [f_X10_enter_107] at hf
  refine s_aload_n X 0 dX10_enter_107 rfl rfl ?_
  obtain ⟨h1, hf⟩ := pk_chk hf
  obtain ⟨r3, hc2, hf⟩ := pk_obd hf
  refine s_callV X (ci := 10) (k_X10_insides G hc2) rfl h1 wd1826 wd1828 wd93 wd1829 wd138 cd_X10_insides ⟨Nat.le_of_ble_eq_true rfl, Nat.le_of_ble_eq_true rfl⟩ (Nat.le_of_ble_eq_true rfl) dX10_enter_108 ?_
  obtain ⟨r5, hc4, hf⟩ := pk_obd hf
  refine s_callS X (k_X10_many G hc4) wd1624 wd1625 wd1626 wd138 cd_X10_many ⟨Nat.le_of_ble_eq_true rfl, Nat.le_of_ble_eq_true rfl⟩ (Nat.le_of_ble_eq_true rfl) dX10_enter_111 ?_
  refine s_iconst X (v := (1 : Int32)) dX10_enter_114 rfl ?_
  have hs6 := pk_ite hf
  clear hf
  refine s_icmp_le X (tgt := 130) dX10_enter_115 rfl (fun c7 => ?_) (fun c7 => ?_)
  · have hf := hs6.1 c7
    refine s_iconst X (v := (0 : Int32)) dX10_enter_130 rfl ?_
    refine s_istore X (vs' := [(0, .ref (gB G + v0)), (1, .int v1), (2, .int v2), (3, .int v3), (4, .int (0 : Int32))]) dX10_enter_131 (Nat.le_of_ble_eq_true rfl) [1, 2, 3, 4, 0] rfl ?_
    refine s_iconst X (v := (0 : Int32)) dX10_enter_133 rfl ?_
    refine s_istore X (vs' := [(0, .ref (gB G + v0)), (1, .int v1), (2, .int v2), (3, .int v3), (4, .int (0 : Int32)), (5, .int (0 : Int32))]) dX10_enter_134 (Nat.le_of_ble_eq_true rfl) [1, 2, 3, 4, 5, 0] rfl ?_
    exact l_X10_enter_136 X hr hlk hnm _ _ _ _ _ _ _ hf
  · have hf := hs6.2 c7
    refine s_aload_n X 0 dX10_enter_118 rfl rfl ?_
    obtain ⟨o8, e9, hf⟩ := pk_bnd hf
    obtain ⟨h10, hf⟩ := pk_chk hf
    refine s_getR X (ci := 10) (k := 0) rfl (Nat.le_of_ble_eq_true rfl) h1 wd1440 (fun _ _ _ => rfl) (e9 ▸ h10) dX10_enter_119 (e9 ▸ ?_)
    refine s_sipush X (v := (9853 : Int32)) dX10_enter_122 rfl ?_
    refine s_dup2 X dX10_enter_125 rfl rfl ?_
    obtain ⟨h11, hf⟩ := pk_chk hf
    refine s_iald X h10 h11 dX10_enter_126 ?_
    refine s_iconst X (v := (1 : Int32)) dX10_enter_127 rfl ?_
    refine s_iadd X dX10_enter_128 ?_
    obtain ⟨h12, hf⟩ := pk_chk hf
    obtain ⟨M13, e14, hf⟩ := pk_bnd hf
    refine s_iast X h10 h12 e14 dX10_enter_129 ?_
    have h15 := io_sI e14 h1
    have h16 := io_sI e14 h10
    refine s_iconst X (v := (0 : Int32)) dX10_enter_130 rfl ?_
    refine s_istore X (vs' := [(0, .ref (gB G + v0)), (1, .int v1), (2, .int v2), (3, .int v3), (4, .int (0 : Int32))]) dX10_enter_131 (Nat.le_of_ble_eq_true rfl) [1, 2, 3, 4, 0] rfl ?_
    refine s_iconst X (v := (0 : Int32)) dX10_enter_133 rfl ?_
    refine s_istore X (vs' := [(0, .ref (gB G + v0)), (1, .int v1), (2, .int v2), (3, .int v3), (4, .int (0 : Int32)), (5, .int (0 : Int32))]) dX10_enter_134 (Nat.le_of_ble_eq_true rfl) [1, 2, 3, 4, 5, 0] rfl ?_
    exact l_X10_enter_136 X hr hlk hnm _ _ _ _ _ _ _ hf
theorem l_X10_enter_86 {rv : Mem} {n : Nat} {v0 : Nat} {v1 : Int32} {v2 : Int32} {v3 : Int32} {M : Mem} (X : Cx p R s m args c G M0 cX10_enter yX10_enter.cls 6 2 44) (hr : meth.sig.returnType = none) (hlk : meth.locks = false) (hnm : meth.name = "enter") (hf : f_X10_enter_86 n v0 v1 v2 v3 M = some rv) : Sg p l e R s m args below meth c (Qm below G args s none M0 rv) G M0 6 86 [(0, .ref (gB G + v0)), (1, .int v1), (2, .int v2), (3, .int v3)] [] M := by
  rw [f_X10_enter_86] at hf
  refine s_iload_n X 3 dX10_enter_86 rfl rfl ?_
  refine s_aload_n X 0 dX10_enter_87 rfl rfl ?_
  obtain ⟨h1, hf⟩ := pk_chk hf
  obtain ⟨o2, e3, hf⟩ := pk_bnd hf
  obtain ⟨h4, hf⟩ := pk_chk hf
  refine s_getR X (ci := 10) (k := 0) rfl (Nat.le_of_ble_eq_true rfl) h1 wd1440 (fun _ _ _ => rfl) (e3 ▸ h4) dX10_enter_88 (e3 ▸ ?_)
  refine s_sipush X (v := (9854 : Int32)) dX10_enter_91 rfl ?_
  obtain ⟨h5, hf⟩ := pk_chk hf
  refine s_iald X h4 h5 dX10_enter_94 ?_
  have hs6 := pk_ite hf
  clear hf
  refine s_icmp_le X (tgt := 107) dX10_enter_95 rfl (fun c7 => ?_) (fun c7 => ?_)
  · have hf := hs6.1 c7
    exact l_X10_enter_107 X hr hlk hnm hf
  · have hf := hs6.2 c7
    refine s_aload_n X 0 dX10_enter_98 rfl rfl ?_
    obtain ⟨o8, e9, hf⟩ := pk_bnd hf
    obtain ⟨h10, hf⟩ := pk_chk hf
    refine s_getR X (ci := 10) (k := 0) rfl (Nat.le_of_ble_eq_true rfl) h1 wd1440 (fun _ _ _ => rfl) (e9 ▸ h10) dX10_enter_99 (e9 ▸ ?_)
    refine s_sipush X (v := (9854 : Int32)) dX10_enter_102 rfl ?_
    refine s_iload_n X 3 dX10_enter_105 rfl rfl ?_
    obtain ⟨h11, hf⟩ := pk_chk hf
    obtain ⟨M12, e13, hf⟩ := pk_bnd hf
    refine s_iast X h10 h11 e13 dX10_enter_106 ?_
    have h14 := io_sI e13 h1
    have h15 := io_sI e13 h4
    have h16 := io_sI e13 h10
    exact l_X10_enter_107 X hr hlk hnm hf
end
theorem k_X10_enter (G : Gam) {n : Nat} {o : Nat} {a1 : Int32} {M : Mem} {rv : Mem} (hf : f_X10_enter n o a1 M = some rv) : Kt yX10_enter cX10_enter 6 none 2 44 G [.ref (gB G + o), .int a1] M rv none := by
  refine Kt.of (by decide) (Nat.le_of_ble_eq_true rfl) ?_
  intro p l e R s m args below meth c X hr hlk hnm
  refine s_drop [0, 1] (vs' := [(0, .ref (gB G + o)), (1, .int a1)]) rfl ?_
  rw [f_X10_enter] at hf
  refine s_aload_n X 0 dX10_enter_0 rfl rfl ?_
  refine s_iload_n X 1 dX10_enter_1 rfl rfl ?_
  refine s_iconst X (v := (0 : Int32)) dX10_enter_2 rfl ?_
  refine s_iconst X (v := (2 : Int32)) dX10_enter_3 rfl ?_
  obtain ⟨h1, hf⟩ := pk_chk hf
  obtain ⟨M3, hc2, hf⟩ := pk_obd hf
  refine s_callV X (ci := 10) (k_X10_let G hc2) rfl h1 wd1692 wd1694 wd68 wd1695 wd138 cd_X10_let ⟨Nat.le_of_ble_eq_true rfl, Nat.le_of_ble_eq_true rfl⟩ (Nat.le_of_ble_eq_true rfl) dX10_enter_4 ?_
  refine s_aload_n X 0 dX10_enter_7 rfl rfl ?_
  refine s_iload_n X 1 dX10_enter_8 rfl rfl ?_
  refine s_iconst X (v := (5 : Int32)) dX10_enter_9 rfl ?_
  refine s_iconst X (v := (0 : Int32)) dX10_enter_10 rfl ?_
  obtain ⟨h4, hf⟩ := pk_chk hf
  obtain ⟨M6, hc5, hf⟩ := pk_obd hf
  refine s_callV X (ci := 10) (k_X10_let G hc5) rfl h4 wd1692 wd1694 wd68 wd1695 wd138 cd_X10_let ⟨Nat.le_of_ble_eq_true rfl, Nat.le_of_ble_eq_true rfl⟩ (Nat.le_of_ble_eq_true rfl) dX10_enter_11 ?_
  refine s_aload_n X 0 dX10_enter_14 rfl rfl ?_
  obtain ⟨h7, hf⟩ := pk_chk hf
  obtain ⟨o8, e9, hf⟩ := pk_bnd hf
  obtain ⟨h10, hf⟩ := pk_chk hf
  refine s_getR X (ci := 10) (k := 0) rfl (Nat.le_of_ble_eq_true rfl) h7 wd1440 (fun _ _ _ => rfl) (e9 ▸ h10) dX10_enter_15 (e9 ▸ ?_)
  refine s_sipush X (v := (9851 : Int32)) dX10_enter_18 rfl ?_
  refine s_dup2 X dX10_enter_21 rfl rfl ?_
  obtain ⟨h11, hf⟩ := pk_chk hf
  refine s_iald X h10 h11 dX10_enter_22 ?_
  refine s_iconst X (v := (1 : Int32)) dX10_enter_23 rfl ?_
  refine s_iadd X dX10_enter_24 ?_
  obtain ⟨h12, hf⟩ := pk_chk hf
  obtain ⟨M13, e14, hf⟩ := pk_bnd hf
  refine s_iast X h10 h12 e14 dX10_enter_25 ?_
  have h15 := io_sI e14 h7
  have h16 := io_sI e14 h10
  refine s_aload_n X 0 dX10_enter_26 rfl rfl ?_
  obtain ⟨o17, e18, hf⟩ := pk_bnd hf
  obtain ⟨h19, hf⟩ := pk_chk hf
  refine s_getR X (ci := 10) (k := 0) rfl (Nat.le_of_ble_eq_true rfl) h15 wd1440 (fun _ _ _ => rfl) (e18 ▸ h19) dX10_enter_27 (e18 ▸ ?_)
  refine s_sipush X (v := (9865 : Int32)) dX10_enter_30 rfl ?_
  refine s_iconst X (v := (3 : Int32)) dX10_enter_33 rfl ?_
  refine s_iload_n X 1 dX10_enter_34 rfl rfl ?_
  refine s_imul X dX10_enter_35 ?_
  refine s_iadd X dX10_enter_36 ?_
  obtain ⟨x20, e21, hf⟩ := pk_bnd hf
  refine s_nmI e21 ?_
  refine s_dup2 X dX10_enter_37 rfl rfl ?_
  obtain ⟨h22, hf⟩ := pk_chk hf
  refine s_iald X h19 h22 dX10_enter_38 ?_
  refine s_iconst X (v := (1 : Int32)) dX10_enter_39 rfl ?_
  refine s_iadd X dX10_enter_40 ?_
  obtain ⟨h23, hf⟩ := pk_chk hf
  obtain ⟨M24, e25, hf⟩ := pk_bnd hf
  refine s_iast X h19 h23 e25 dX10_enter_41 ?_
  have h26 := io_sI e25 h15
  have h27 := io_sI e25 h16
  have h28 := io_sI e25 h19
  refine s_aload_n X 0 dX10_enter_42 rfl rfl ?_
  obtain ⟨o29, e30, hf⟩ := pk_bnd hf
  obtain ⟨h31, hf⟩ := pk_chk hf
  refine s_getR X (ci := 10) (k := 0) rfl (Nat.le_of_ble_eq_true rfl) h26 wd1440 (fun _ _ _ => rfl) (e30 ▸ h31) dX10_enter_43 (e30 ▸ ?_)
  refine s_sipush X (v := (9852 : Int32)) dX10_enter_46 rfl ?_
  obtain ⟨h32, hf⟩ := pk_chk hf
  refine s_iald X h31 h32 dX10_enter_49 ?_
  refine s_aload_n X 0 dX10_enter_50 rfl rfl ?_
  refine s_iload_n X 1 dX10_enter_51 rfl rfl ?_
  refine s_iconst X (v := (1 : Int32)) dX10_enter_52 rfl ?_
  obtain ⟨r34, hc33, hf⟩ := pk_obd hf
  refine s_callV X (ci := 10) (k_X10_countOf G hc33) rfl h26 wd1822 wd1824 wd92 wd1825 wd138 cd_X10_countOf ⟨Nat.le_of_ble_eq_true rfl, Nat.le_of_ble_eq_true rfl⟩ (Nat.le_of_ble_eq_true rfl) dX10_enter_53 ?_
  refine s_isub X dX10_enter_56 ?_
  obtain ⟨x35, e36, hf⟩ := pk_bnd hf
  refine s_nmI e36 ?_
  refine s_istore_n X (vs' := [(0, .ref (gB G + o)), (1, .int a1), (2, .int x35)]) dX10_enter_57 rfl (Nat.le_of_ble_eq_true rfl) [1, 2, 0] rfl ?_
  refine s_aload_n X 0 dX10_enter_58 rfl rfl ?_
  refine s_iload_n X 1 dX10_enter_59 rfl rfl ?_
  refine s_iconst X (v := (2 : Int32)) dX10_enter_60 rfl ?_
  obtain ⟨r38, hc37, hf⟩ := pk_obd hf
  refine s_callV X (ci := 10) (k_X10_countOf G hc37) rfl h26 wd1822 wd1824 wd92 wd1825 wd138 cd_X10_countOf ⟨Nat.le_of_ble_eq_true rfl, Nat.le_of_ble_eq_true rfl⟩ (Nat.le_of_ble_eq_true rfl) dX10_enter_61 ?_
  refine s_istore_n X (vs' := [(0, .ref (gB G + o)), (1, .int a1), (2, .int x35), (3, .int r38)]) dX10_enter_64 rfl (Nat.le_of_ble_eq_true rfl) [1, 2, 3, 0] rfl ?_
  refine s_iload_n X 2 dX10_enter_65 rfl rfl ?_
  refine s_aload_n X 0 dX10_enter_66 rfl rfl ?_
  obtain ⟨o39, e40, hf⟩ := pk_bnd hf
  obtain ⟨h41, hf⟩ := pk_chk hf
  refine s_getR X (ci := 10) (k := 0) rfl (Nat.le_of_ble_eq_true rfl) h26 wd1440 (fun _ _ _ => rfl) (e40 ▸ h41) dX10_enter_67 (e40 ▸ ?_)
  refine s_sipush X (v := (9855 : Int32)) dX10_enter_70 rfl ?_
  obtain ⟨h42, hf⟩ := pk_chk hf
  refine s_iald X h41 h42 dX10_enter_73 ?_
  have hs43 := pk_ite hf
  clear hf
  refine s_icmp_le X (tgt := 86) dX10_enter_74 rfl (fun c44 => ?_) (fun c44 => ?_)
  · have hf := hs43.1 c44
    exact l_X10_enter_86 X hr hlk hnm hf
  · have hf := hs43.2 c44
    refine s_aload_n X 0 dX10_enter_77 rfl rfl ?_
    obtain ⟨o45, e46, hf⟩ := pk_bnd hf
    obtain ⟨h47, hf⟩ := pk_chk hf
    refine s_getR X (ci := 10) (k := 0) rfl (Nat.le_of_ble_eq_true rfl) h26 wd1440 (fun _ _ _ => rfl) (e46 ▸ h47) dX10_enter_78 (e46 ▸ ?_)
    refine s_sipush X (v := (9855 : Int32)) dX10_enter_81 rfl ?_
    refine s_iload_n X 2 dX10_enter_84 rfl rfl ?_
    obtain ⟨h48, hf⟩ := pk_chk hf
    obtain ⟨M49, e50, hf⟩ := pk_bnd hf
    refine s_iast X h47 h48 e50 dX10_enter_85 ?_
    have h51 := io_sI e50 h26
    have h52 := io_sI e50 h27
    have h53 := io_sI e50 h28
    have h54 := io_sI e50 h31
    have h55 := io_sI e50 h41
    have h56 := io_sI e50 h47
    exact l_X10_enter_86 X hr hlk hnm hf
theorem dX10_granted_0 : decode cX10_granted 0 = .ok (.aload_n 0, 1) := dk_42 (by decide +kernel)
theorem dX10_granted_1 : decode cX10_granted 1 = .ok (.iload_n 1, 1) := dk_27 (by decide +kernel)
theorem dX10_granted_2 : decode cX10_granted 2 = .ok (.iconst 4, 1) := dk_7 (by decide +kernel)
theorem dX10_granted_3 : decode cX10_granted 3 = .ok (.aload_n 0, 1) := dk_42 (by decide +kernel)
theorem dX10_granted_4 : decode cX10_granted 4 = .ok (.iload_n 1, 1) := dk_27 (by decide +kernel)
theorem dX10_granted_5 : decode cX10_granted 5 = .ok (.iconst 4, 1) := dk_7 (by decide +kernel)
theorem dX10_granted_6 : decode cX10_granted 6 = .ok (.invokevirtual 93, 3) := dk_182 (x := 0) (y := 93) (by decide +kernel) rfl
theorem dX10_granted_9 : decode cX10_granted 9 = .ok (.iload_n 2, 1) := dk_28 (by decide +kernel)
theorem dX10_granted_10 : decode cX10_granted 10 = .ok (.invokestatic 190, 3) := dk_184 (x := 0) (y := 190) (by decide +kernel) rfl
theorem dX10_granted_13 : decode cX10_granted 13 = .ok (.invokevirtual 187, 3) := dk_182 (x := 0) (y := 187) (by decide +kernel) rfl
theorem dX10_granted_16 : decode cX10_granted 16 = .ok (.aload_n 0, 1) := dk_42 (by decide +kernel)
theorem dX10_granted_17 : decode cX10_granted 17 = .ok (.iload_n 1, 1) := dk_27 (by decide +kernel)
theorem dX10_granted_18 : decode cX10_granted 18 = .ok (.iconst 5, 1) := dk_8 (by decide +kernel)
theorem dX10_granted_19 : decode cX10_granted 19 = .ok (.aload_n 0, 1) := dk_42 (by decide +kernel)
theorem dX10_granted_20 : decode cX10_granted 20 = .ok (.iload_n 1, 1) := dk_27 (by decide +kernel)
theorem dX10_granted_21 : decode cX10_granted 21 = .ok (.iconst 5, 1) := dk_8 (by decide +kernel)
theorem dX10_granted_22 : decode cX10_granted 22 = .ok (.invokevirtual 93, 3) := dk_182 (x := 0) (y := 93) (by decide +kernel) rfl
theorem dX10_granted_25 : decode cX10_granted 25 = .ok (.iload_n 2, 1) := dk_28 (by decide +kernel)
theorem dX10_granted_26 : decode cX10_granted 26 = .ok (.invokestatic 184, 3) := dk_184 (x := 0) (y := 184) (by decide +kernel) rfl
theorem dX10_granted_29 : decode cX10_granted 29 = .ok (.invokevirtual 187, 3) := dk_182 (x := 0) (y := 187) (by decide +kernel) rfl
theorem dX10_granted_32 : decode cX10_granted 32 = .ok (.aload_n 0, 1) := dk_42 (by decide +kernel)
theorem dX10_granted_33 : decode cX10_granted 33 = .ok (.iload_n 1, 1) := dk_27 (by decide +kernel)
theorem dX10_granted_34 : decode cX10_granted 34 = .ok (.bipush 6, 2) := dk_16 (x := 6) (by decide +kernel) rfl
theorem dX10_granted_36 : decode cX10_granted 36 = .ok (.aload_n 0, 1) := dk_42 (by decide +kernel)
theorem dX10_granted_37 : decode cX10_granted 37 = .ok (.iload_n 1, 1) := dk_27 (by decide +kernel)
theorem dX10_granted_38 : decode cX10_granted 38 = .ok (.bipush 6, 2) := dk_16 (x := 6) (by decide +kernel) rfl
theorem dX10_granted_40 : decode cX10_granted 40 = .ok (.invokevirtual 93, 3) := dk_182 (x := 0) (y := 93) (by decide +kernel) rfl
theorem dX10_granted_43 : decode cX10_granted 43 = .ok (.iload_n 2, 1) := dk_28 (by decide +kernel)
theorem dX10_granted_44 : decode cX10_granted 44 = .ok (.invokestatic 184, 3) := dk_184 (x := 0) (y := 184) (by decide +kernel) rfl
theorem dX10_granted_47 : decode cX10_granted 47 = .ok (.invokevirtual 187, 3) := dk_182 (x := 0) (y := 187) (by decide +kernel) rfl
theorem dX10_granted_50 : decode cX10_granted 50 = .ok (.aload_n 0, 1) := dk_42 (by decide +kernel)
theorem dX10_granted_51 : decode cX10_granted 51 = .ok (.iload_n 1, 1) := dk_27 (by decide +kernel)
theorem dX10_granted_52 : decode cX10_granted 52 = .ok (.iconst 3, 1) := dk_6 (by decide +kernel)
theorem dX10_granted_53 : decode cX10_granted 53 = .ok (.invokevirtual 93, 3) := dk_182 (x := 0) (y := 93) (by decide +kernel) rfl
theorem dX10_granted_56 : decode cX10_granted 56 = .ok (.aload_n 0, 1) := dk_42 (by decide +kernel)
theorem dX10_granted_57 : decode cX10_granted 57 = .ok (.iload_n 1, 1) := dk_27 (by decide +kernel)
theorem dX10_granted_58 : decode cX10_granted 58 = .ok (.iconst 4, 1) := dk_7 (by decide +kernel)
theorem dX10_granted_59 : decode cX10_granted 59 = .ok (.invokevirtual 93, 3) := dk_182 (x := 0) (y := 93) (by decide +kernel) rfl
theorem dX10_granted_62 : decode cX10_granted 62 = .ok (.iconst (-1), 1) := dk_2 (by decide +kernel)
theorem dX10_granted_63 : decode cX10_granted 63 = .ok (.ixor, 1) := dk_130 (by decide +kernel)
theorem dX10_granted_64 : decode cX10_granted 64 = .ok (.iand, 1) := dk_126 (by decide +kernel)
theorem dX10_granted_65 : decode cX10_granted 65 = .ok (.ifCond .ne 8, 3) := dk_154 (x := 0) (y := 8) (by decide +kernel) rfl
theorem dX10_granted_68 : decode cX10_granted 68 = .ok (.aload_n 0, 1) := dk_42 (by decide +kernel)
theorem dX10_granted_69 : decode cX10_granted 69 = .ok (.iload_n 1, 1) := dk_27 (by decide +kernel)
theorem dX10_granted_70 : decode cX10_granted 70 = .ok (.invokevirtual 199, 3) := dk_182 (x := 0) (y := 199) (by decide +kernel) rfl
theorem dX10_granted_73 : decode cX10_granted 73 = .ok (.return_, 1) := dk_177 (by decide +kernel)
def f_X10_granted (n : Nat) (o : Nat) (a1 : Int32) (a2 : Int32) (M : Mem) : Option Mem :=
  chk (isO M 10 o) <|
  obd (f_X10_get o a1 (4 : Int32) M) fun r3 =>
  obd (f_X10_with r3 a2 M) fun r5 =>
  obd (f_X10_let o a1 (4 : Int32) r5 M) fun M7 =>
  chk (isO M7 10 o) <|
  obd (f_X10_get o a1 (5 : Int32) M7) fun r10 =>
  obd (f_X10_without0 r10 a2 M7) fun r12 =>
  obd (f_X10_let o a1 (5 : Int32) r12 M7) fun M14 =>
  chk (isO M14 10 o) <|
  obd (f_X10_get o a1 (6 : Int32) M14) fun r17 =>
  obd (f_X10_without0 r17 a2 M14) fun r19 =>
  obd (f_X10_let o a1 (6 : Int32) r19 M14) fun M21 =>
  chk (isO M21 10 o) <|
  obd (f_X10_get o a1 (3 : Int32) M21) fun r24 =>
  obd (f_X10_get o a1 (4 : Int32) M21) fun r26 =>
  if (r24 &&& (r26 ^^^ (-1 : Int32))) = 0 then (
    obd (f_X10_enter n o a1 M21) fun M30 =>
    some M30
    ) else (
    some M21
    )
theorem cd_X10_granted : (yX10_granted.cls ≠ "java/lang/invoke/MethodHandle" ∧ yX10_granted.cls ≠ "java/lang/invoke/VarHandle") ∧ (parseMethodDescriptor yX10_granted.desc).map (fun d => d.parameters.length) = some 2 := ⟨⟨by decide +kernel, by decide +kernel⟩, by decide +kernel⟩
theorem k_X10_granted (G : Gam) {n : Nat} {o : Nat} {a1 : Int32} {a2 : Int32} {M : Mem} {rv : Mem} (hf : f_X10_granted n o a1 a2 M = some rv) : Kt yX10_granted cX10_granted 3 none 3 69 G [.ref (gB G + o), .int a1, .int a2] M rv none := by
  refine Kt.of (by decide) (Nat.le_of_ble_eq_true rfl) ?_
  intro p l e R s m args below meth c X hr hlk hnm
  refine s_drop [0, 1, 2] (vs' := [(0, .ref (gB G + o)), (1, .int a1), (2, .int a2)]) rfl ?_
  rw [f_X10_granted] at hf
  refine s_aload_n X 0 dX10_granted_0 rfl rfl ?_
  refine s_iload_n X 1 dX10_granted_1 rfl rfl ?_
  refine s_iconst X (v := (4 : Int32)) dX10_granted_2 rfl ?_
  refine s_aload_n X 0 dX10_granted_3 rfl rfl ?_
  refine s_iload_n X 1 dX10_granted_4 rfl rfl ?_
  refine s_iconst X (v := (4 : Int32)) dX10_granted_5 rfl ?_
  obtain ⟨h1, hf⟩ := pk_chk hf
  obtain ⟨r3, hc2, hf⟩ := pk_obd hf
  refine s_callV X (ci := 10) (k_X10_get G hc2) rfl h1 wd1588 wd1590 wd57 wd1591 wd138 cd_X10_get ⟨Nat.le_of_ble_eq_true rfl, Nat.le_of_ble_eq_true rfl⟩ (Nat.le_of_ble_eq_true rfl) dX10_granted_6 ?_
  refine s_iload_n X 2 dX10_granted_9 rfl rfl ?_
  obtain ⟨r5, hc4, hf⟩ := pk_obd hf
  refine s_callS X (k_X10_with G hc4) wd1812 wd1813 wd1814 wd138 cd_X10_with ⟨Nat.le_of_ble_eq_true rfl, Nat.le_of_ble_eq_true rfl⟩ (Nat.le_of_ble_eq_true rfl) dX10_granted_10 ?_
  obtain ⟨M7, hc6, hf⟩ := pk_obd hf
  refine s_callV X (ci := 10) (k_X10_let G hc6) rfl h1 wd1692 wd1694 wd68 wd1695 wd138 cd_X10_let ⟨Nat.le_of_ble_eq_true rfl, Nat.le_of_ble_eq_true rfl⟩ (Nat.le_of_ble_eq_true rfl) dX10_granted_13 ?_
  refine s_aload_n X 0 dX10_granted_16 rfl rfl ?_
  refine s_iload_n X 1 dX10_granted_17 rfl rfl ?_
  refine s_iconst X (v := (5 : Int32)) dX10_granted_18 rfl ?_
  refine s_aload_n X 0 dX10_granted_19 rfl rfl ?_
  refine s_iload_n X 1 dX10_granted_20 rfl rfl ?_
  refine s_iconst X (v := (5 : Int32)) dX10_granted_21 rfl ?_
  obtain ⟨h8, hf⟩ := pk_chk hf
  obtain ⟨r10, hc9, hf⟩ := pk_obd hf
  refine s_callV X (ci := 10) (k_X10_get G hc9) rfl h8 wd1588 wd1590 wd57 wd1591 wd138 cd_X10_get ⟨Nat.le_of_ble_eq_true rfl, Nat.le_of_ble_eq_true rfl⟩ (Nat.le_of_ble_eq_true rfl) dX10_granted_22 ?_
  refine s_iload_n X 2 dX10_granted_25 rfl rfl ?_
  obtain ⟨r12, hc11, hf⟩ := pk_obd hf
  refine s_callS X (k_X10_without0 G hc11) wd1815 wd1816 wd1817 wd138 cd_X10_without0 ⟨Nat.le_of_ble_eq_true rfl, Nat.le_of_ble_eq_true rfl⟩ (Nat.le_of_ble_eq_true rfl) dX10_granted_26 ?_
  obtain ⟨M14, hc13, hf⟩ := pk_obd hf
  refine s_callV X (ci := 10) (k_X10_let G hc13) rfl h8 wd1692 wd1694 wd68 wd1695 wd138 cd_X10_let ⟨Nat.le_of_ble_eq_true rfl, Nat.le_of_ble_eq_true rfl⟩ (Nat.le_of_ble_eq_true rfl) dX10_granted_29 ?_
  refine s_aload_n X 0 dX10_granted_32 rfl rfl ?_
  refine s_iload_n X 1 dX10_granted_33 rfl rfl ?_
  refine s_bipush X (v := (6 : Int32)) dX10_granted_34 rfl ?_
  refine s_aload_n X 0 dX10_granted_36 rfl rfl ?_
  refine s_iload_n X 1 dX10_granted_37 rfl rfl ?_
  refine s_bipush X (v := (6 : Int32)) dX10_granted_38 rfl ?_
  obtain ⟨h15, hf⟩ := pk_chk hf
  obtain ⟨r17, hc16, hf⟩ := pk_obd hf
  refine s_callV X (ci := 10) (k_X10_get G hc16) rfl h15 wd1588 wd1590 wd57 wd1591 wd138 cd_X10_get ⟨Nat.le_of_ble_eq_true rfl, Nat.le_of_ble_eq_true rfl⟩ (Nat.le_of_ble_eq_true rfl) dX10_granted_40 ?_
  refine s_iload_n X 2 dX10_granted_43 rfl rfl ?_
  obtain ⟨r19, hc18, hf⟩ := pk_obd hf
  refine s_callS X (k_X10_without0 G hc18) wd1815 wd1816 wd1817 wd138 cd_X10_without0 ⟨Nat.le_of_ble_eq_true rfl, Nat.le_of_ble_eq_true rfl⟩ (Nat.le_of_ble_eq_true rfl) dX10_granted_44 ?_
  obtain ⟨M21, hc20, hf⟩ := pk_obd hf
  refine s_callV X (ci := 10) (k_X10_let G hc20) rfl h15 wd1692 wd1694 wd68 wd1695 wd138 cd_X10_let ⟨Nat.le_of_ble_eq_true rfl, Nat.le_of_ble_eq_true rfl⟩ (Nat.le_of_ble_eq_true rfl) dX10_granted_47 ?_
  refine s_aload_n X 0 dX10_granted_50 rfl rfl ?_
  refine s_iload_n X 1 dX10_granted_51 rfl rfl ?_
  refine s_iconst X (v := (3 : Int32)) dX10_granted_52 rfl ?_
  obtain ⟨h22, hf⟩ := pk_chk hf
  obtain ⟨r24, hc23, hf⟩ := pk_obd hf
  refine s_callV X (ci := 10) (k_X10_get G hc23) rfl h22 wd1588 wd1590 wd57 wd1591 wd138 cd_X10_get ⟨Nat.le_of_ble_eq_true rfl, Nat.le_of_ble_eq_true rfl⟩ (Nat.le_of_ble_eq_true rfl) dX10_granted_53 ?_
  refine s_aload_n X 0 dX10_granted_56 rfl rfl ?_
  refine s_iload_n X 1 dX10_granted_57 rfl rfl ?_
  refine s_iconst X (v := (4 : Int32)) dX10_granted_58 rfl ?_
  obtain ⟨r26, hc25, hf⟩ := pk_obd hf
  refine s_callV X (ci := 10) (k_X10_get G hc25) rfl h22 wd1588 wd1590 wd57 wd1591 wd138 cd_X10_get ⟨Nat.le_of_ble_eq_true rfl, Nat.le_of_ble_eq_true rfl⟩ (Nat.le_of_ble_eq_true rfl) dX10_granted_59 ?_
  refine s_iconst X (v := (-1 : Int32)) dX10_granted_62 rfl ?_
  refine s_ixor X dX10_granted_63 ?_
  refine s_iand X dX10_granted_64 ?_
  have hs27 := pk_ite hf
  clear hf
  refine s_if_ne X (tgt := 73) dX10_granted_65 rfl (fun c28 => ?_) (fun c28 => ?_)
  · have hf := hs27.2 c28
    cases hf
    exact s_vret X hr hlk dX10_granted_73
  · have hf := hs27.1 c28
    refine s_aload_n X 0 dX10_granted_68 rfl rfl ?_
    refine s_iload_n X 1 dX10_granted_69 rfl rfl ?_
    obtain ⟨M30, hc29, hf⟩ := pk_obd hf
    refine s_callV X (ci := 10) (k_X10_enter G hc29) rfl h22 wd1818 wd1820 wd91 wd1821 wd138 cd_X10_enter ⟨Nat.le_of_ble_eq_true rfl, Nat.le_of_ble_eq_true rfl⟩ (Nat.le_of_ble_eq_true rfl) dX10_granted_70 ?_
    cases hf
    exact s_vret X hr hlk dX10_granted_73
theorem dX10_yieldTo_0 : decode cX10_yieldTo 0 = .ok (.aload_n 0, 1) := dk_42 (by decide +kernel)
theorem dX10_yieldTo_1 : decode cX10_yieldTo 1 = .ok (.iconst 4, 1) := dk_7 (by decide +kernel)
theorem dX10_yieldTo_2 : decode cX10_yieldTo 2 = .ok (.iload_n 1, 1) := dk_27 (by decide +kernel)
theorem dX10_yieldTo_3 : decode cX10_yieldTo 3 = .ok (.iload_n 2, 1) := dk_28 (by decide +kernel)
theorem dX10_yieldTo_4 : decode cX10_yieldTo 4 = .ok (.aload_n 0, 1) := dk_42 (by decide +kernel)
theorem dX10_yieldTo_5 : decode cX10_yieldTo 5 = .ok (.iload_n 1, 1) := dk_27 (by decide +kernel)
theorem dX10_yieldTo_6 : decode cX10_yieldTo 6 = .ok (.iconst 2, 1) := dk_5 (by decide +kernel)
theorem dX10_yieldTo_7 : decode cX10_yieldTo 7 = .ok (.invokevirtual 93, 3) := dk_182 (x := 0) (y := 93) (by decide +kernel) rfl
theorem dX10_yieldTo_10 : decode cX10_yieldTo 10 = .ok (.invokevirtual 147, 3) := dk_182 (x := 0) (y := 147) (by decide +kernel) rfl
theorem dX10_yieldTo_13 : decode cX10_yieldTo 13 = .ok (.aload_n 0, 1) := dk_42 (by decide +kernel)
theorem dX10_yieldTo_14 : decode cX10_yieldTo 14 = .ok (.iload_n 1, 1) := dk_27 (by decide +kernel)
theorem dX10_yieldTo_15 : decode cX10_yieldTo 15 = .ok (.iconst 4, 1) := dk_7 (by decide +kernel)
theorem dX10_yieldTo_16 : decode cX10_yieldTo 16 = .ok (.aload_n 0, 1) := dk_42 (by decide +kernel)
theorem dX10_yieldTo_17 : decode cX10_yieldTo 17 = .ok (.iload_n 1, 1) := dk_27 (by decide +kernel)
theorem dX10_yieldTo_18 : decode cX10_yieldTo 18 = .ok (.iconst 4, 1) := dk_7 (by decide +kernel)
theorem dX10_yieldTo_19 : decode cX10_yieldTo 19 = .ok (.invokevirtual 93, 3) := dk_182 (x := 0) (y := 93) (by decide +kernel) rfl
theorem dX10_yieldTo_22 : decode cX10_yieldTo 22 = .ok (.iload_n 2, 1) := dk_28 (by decide +kernel)
theorem dX10_yieldTo_23 : decode cX10_yieldTo 23 = .ok (.invokestatic 184, 3) := dk_184 (x := 0) (y := 184) (by decide +kernel) rfl
theorem dX10_yieldTo_26 : decode cX10_yieldTo 26 = .ok (.invokevirtual 187, 3) := dk_182 (x := 0) (y := 187) (by decide +kernel) rfl
theorem dX10_yieldTo_29 : decode cX10_yieldTo 29 = .ok (.aload_n 0, 1) := dk_42 (by decide +kernel)
theorem dX10_yieldTo_30 : decode cX10_yieldTo 30 = .ok (.iload_n 1, 1) := dk_27 (by decide +kernel)
theorem dX10_yieldTo_31 : decode cX10_yieldTo 31 = .ok (.bipush 6, 2) := dk_16 (x := 6) (by decide +kernel) rfl
theorem dX10_yieldTo_33 : decode cX10_yieldTo 33 = .ok (.aload_n 0, 1) := dk_42 (by decide +kernel)
theorem dX10_yieldTo_34 : decode cX10_yieldTo 34 = .ok (.iload_n 1, 1) := dk_27 (by decide +kernel)
theorem dX10_yieldTo_35 : decode cX10_yieldTo 35 = .ok (.bipush 6, 2) := dk_16 (x := 6) (by decide +kernel) rfl
theorem dX10_yieldTo_37 : decode cX10_yieldTo 37 = .ok (.invokevirtual 93, 3) := dk_182 (x := 0) (y := 93) (by decide +kernel) rfl
theorem dX10_yieldTo_40 : decode cX10_yieldTo 40 = .ok (.iload_n 2, 1) := dk_28 (by decide +kernel)
theorem dX10_yieldTo_41 : decode cX10_yieldTo 41 = .ok (.invokestatic 190, 3) := dk_184 (x := 0) (y := 190) (by decide +kernel) rfl
theorem dX10_yieldTo_44 : decode cX10_yieldTo 44 = .ok (.invokevirtual 187, 3) := dk_182 (x := 0) (y := 187) (by decide +kernel) rfl
theorem dX10_yieldTo_47 : decode cX10_yieldTo 47 = .ok (.return_, 1) := dk_177 (by decide +kernel)
def f_X10_yieldTo (n : Nat) (o : Nat) (a1 : Int32) (a2 : Int32) (M : Mem) : Option Mem :=
  chk (isO M 10 o) <|
  obd (f_X10_get o a1 (2 : Int32) M) fun r3 =>
  obd (f_X10_send n o (4 : Int32) a1 a2 r3 M) fun M5 =>
  chk (isO M5 10 o) <|
  obd (f_X10_get o a1 (4 : Int32) M5) fun r8 =>
  obd (f_X10_without0 r8 a2 M5) fun r10 =>
  obd (f_X10_let o a1 (4 : Int32) r10 M5) fun M12 =>
  chk (isO M12 10 o) <|
  obd (f_X10_get o a1 (6 : Int32) M12) fun r15 =>
  obd (f_X10_with r15 a2 M12) fun r17 =>
  obd (f_X10_let o a1 (6 : Int32) r17 M12) fun M19 =>
  some M19
theorem cd_X10_yieldTo : (yX10_yieldTo.cls ≠ "java/lang/invoke/MethodHandle" ∧ yX10_yieldTo.cls ≠ "java/lang/invoke/VarHandle") ∧ (parseMethodDescriptor yX10_yieldTo.desc).map (fun d => d.parameters.length) = some 2 := ⟨⟨by decide +kernel, by decide +kernel⟩, by decide +kernel⟩
theorem k_X10_yieldTo (G : Gam) {n : Nat} {o : Nat} {a1 : Int32} {a2 : Int32} {M : Mem} {rv : Mem} (hf : f_X10_yieldTo n o a1 a2 M = some rv) : Kt yX10_yieldTo cX10_yieldTo 3 none 2 46 G [.ref (gB G + o), .int a1, .int a2] M rv none := by
  refine Kt.of (by decide) (Nat.le_of_ble_eq_true rfl) ?_
  intro p l e R s m args below meth c X hr hlk hnm
  refine s_drop [0, 1, 2] (vs' := [(0, .ref (gB G + o)), (1, .int a1), (2, .int a2)]) rfl ?_
  rw [f_X10_yieldTo] at hf
  refine s_aload_n X 0 dX10_yieldTo_0 rfl rfl ?_
  refine s_iconst X (v := (4 : Int32)) dX10_yieldTo_1 rfl ?_
  refine s_iload_n X 1 dX10_yieldTo_2 rfl rfl ?_
  refine s_iload_n X 2 dX10_yieldTo_3 rfl rfl ?_
  refine s_aload_n X 0 dX10_yieldTo_4 rfl rfl ?_
  refine s_iload_n X 1 dX10_yieldTo_5 rfl rfl ?_
  refine s_iconst X (v := (2 : Int32)) dX10_yieldTo_6 rfl ?_
  obtain ⟨h1, hf⟩ := pk_chk hf
  obtain ⟨r3, hc2, hf⟩ := pk_obd hf
  refine s_callV X (ci := 10) (k_X10_get G hc2) rfl h1 wd1588 wd1590 wd57 wd1591 wd138 cd_X10_get ⟨Nat.le_of_ble_eq_true rfl, Nat.le_of_ble_eq_true rfl⟩ (Nat.le_of_ble_eq_true rfl) dX10_yieldTo_7 ?_
  obtain ⟨M5, hc4, hf⟩ := pk_obd hf
  refine s_callV X (ci := 10) (k_X10_send G hc4) rfl h1 wd1700 wd1702 wd70 wd1703 wd138 cd_X10_send ⟨Nat.le_of_ble_eq_true rfl, Nat.le_of_ble_eq_true rfl⟩ (Nat.le_of_ble_eq_true rfl) dX10_yieldTo_10 ?_
  refine s_aload_n X 0 dX10_yieldTo_13 rfl rfl ?_
  refine s_iload_n X 1 dX10_yieldTo_14 rfl rfl ?_
  refine s_iconst X (v := (4 : Int32)) dX10_yieldTo_15 rfl ?_
  refine s_aload_n X 0 dX10_yieldTo_16 rfl rfl ?_
  refine s_iload_n X 1 dX10_yieldTo_17 rfl rfl ?_
  refine s_iconst X (v := (4 : Int32)) dX10_yieldTo_18 rfl ?_
  obtain ⟨h6, hf⟩ := pk_chk hf
  obtain ⟨r8, hc7, hf⟩ := pk_obd hf
  refine s_callV X (ci := 10) (k_X10_get G hc7) rfl h6 wd1588 wd1590 wd57 wd1591 wd138 cd_X10_get ⟨Nat.le_of_ble_eq_true rfl, Nat.le_of_ble_eq_true rfl⟩ (Nat.le_of_ble_eq_true rfl) dX10_yieldTo_19 ?_
  refine s_iload_n X 2 dX10_yieldTo_22 rfl rfl ?_
  obtain ⟨r10, hc9, hf⟩ := pk_obd hf
  refine s_callS X (k_X10_without0 G hc9) wd1815 wd1816 wd1817 wd138 cd_X10_without0 ⟨Nat.le_of_ble_eq_true rfl, Nat.le_of_ble_eq_true rfl⟩ (Nat.le_of_ble_eq_true rfl) dX10_yieldTo_23 ?_
  obtain ⟨M12, hc11, hf⟩ := pk_obd hf
  refine s_callV X (ci := 10) (k_X10_let G hc11) rfl h6 wd1692 wd1694 wd68 wd1695 wd138 cd_X10_let ⟨Nat.le_of_ble_eq_true rfl, Nat.le_of_ble_eq_true rfl⟩ (Nat.le_of_ble_eq_true rfl) dX10_yieldTo_26 ?_
  refine s_aload_n X 0 dX10_yieldTo_29 rfl rfl ?_
  refine s_iload_n X 1 dX10_yieldTo_30 rfl rfl ?_
  refine s_bipush X (v := (6 : Int32)) dX10_yieldTo_31 rfl ?_
  refine s_aload_n X 0 dX10_yieldTo_33 rfl rfl ?_
  refine s_iload_n X 1 dX10_yieldTo_34 rfl rfl ?_
  refine s_bipush X (v := (6 : Int32)) dX10_yieldTo_35 rfl ?_
  obtain ⟨h13, hf⟩ := pk_chk hf
  obtain ⟨r15, hc14, hf⟩ := pk_obd hf
  refine s_callV X (ci := 10) (k_X10_get G hc14) rfl h13 wd1588 wd1590 wd57 wd1591 wd138 cd_X10_get ⟨Nat.le_of_ble_eq_true rfl, Nat.le_of_ble_eq_true rfl⟩ (Nat.le_of_ble_eq_true rfl) dX10_yieldTo_37 ?_
  refine s_iload_n X 2 dX10_yieldTo_40 rfl rfl ?_
  obtain ⟨r17, hc16, hf⟩ := pk_obd hf
  refine s_callS X (k_X10_with G hc16) wd1812 wd1813 wd1814 wd138 cd_X10_with ⟨Nat.le_of_ble_eq_true rfl, Nat.le_of_ble_eq_true rfl⟩ (Nat.le_of_ble_eq_true rfl) dX10_yieldTo_41 ?_
  obtain ⟨M19, hc18, hf⟩ := pk_obd hf
  refine s_callV X (ci := 10) (k_X10_let G hc18) rfl h13 wd1692 wd1694 wd68 wd1695 wd138 cd_X10_let ⟨Nat.le_of_ble_eq_true rfl, Nat.le_of_ble_eq_true rfl⟩ (Nat.le_of_ble_eq_true rfl) dX10_yieldTo_44 ?_
  cases hf
  exact s_vret X hr hlk dX10_yieldTo_47
theorem dX10_failed_0 : decode cX10_failed 0 = .ok (.aload_n 0, 1) := dk_42 (by decide +kernel)
theorem dX10_failed_1 : decode cX10_failed 1 = .ok (.iload_n 1, 1) := dk_27 (by decide +kernel)
theorem dX10_failed_2 : decode cX10_failed 2 = .ok (.bipush 6, 2) := dk_16 (x := 6) (by decide +kernel) rfl
theorem dX10_failed_4 : decode cX10_failed 4 = .ok (.aload_n 0, 1) := dk_42 (by decide +kernel)
theorem dX10_failed_5 : decode cX10_failed 5 = .ok (.iload_n 1, 1) := dk_27 (by decide +kernel)
theorem dX10_failed_6 : decode cX10_failed 6 = .ok (.bipush 6, 2) := dk_16 (x := 6) (by decide +kernel) rfl
theorem dX10_failed_8 : decode cX10_failed 8 = .ok (.invokevirtual 93, 3) := dk_182 (x := 0) (y := 93) (by decide +kernel) rfl
theorem dX10_failed_11 : decode cX10_failed 11 = .ok (.iload_n 2, 1) := dk_28 (by decide +kernel)
theorem dX10_failed_12 : decode cX10_failed 12 = .ok (.invokestatic 190, 3) := dk_184 (x := 0) (y := 190) (by decide +kernel) rfl
theorem dX10_failed_15 : decode cX10_failed 15 = .ok (.invokevirtual 187, 3) := dk_182 (x := 0) (y := 187) (by decide +kernel) rfl
theorem dX10_failed_18 : decode cX10_failed 18 = .ok (.aload_n 0, 1) := dk_42 (by decide +kernel)
theorem dX10_failed_19 : decode cX10_failed 19 = .ok (.iload_n 1, 1) := dk_27 (by decide +kernel)
theorem dX10_failed_20 : decode cX10_failed 20 = .ok (.iconst 5, 1) := dk_8 (by decide +kernel)
theorem dX10_failed_21 : decode cX10_failed 21 = .ok (.invokevirtual 93, 3) := dk_182 (x := 0) (y := 93) (by decide +kernel) rfl
theorem dX10_failed_24 : decode cX10_failed 24 = .ok (.istore_n 3, 1) := dk_62 (by decide +kernel)
theorem dX10_failed_25 : decode cX10_failed 25 = .ok (.iconst 0, 1) := dk_3 (by decide +kernel)
theorem dX10_failed_26 : decode cX10_failed 26 = .ok (.istore 4, 2) := dk_54 (x := 4) (by decide +kernel)
theorem dX10_failed_28 : decode cX10_failed 28 = .ok (.iload 4, 2) := dk_21 (x := 4) (by decide +kernel)
theorem dX10_failed_30 : decode cX10_failed 30 = .ok (.aload_n 0, 1) := dk_42 (by decide +kernel)
theorem dX10_failed_31 : decode cX10_failed 31 = .ok (.getfield 7, 3) := dk_180 (x := 0) (y := 7) (by decide +kernel) rfl
theorem dX10_failed_34 : decode cX10_failed 34 = .ok (.iconst 0, 1) := dk_3 (by decide +kernel)
theorem dX10_failed_35 : decode cX10_failed 35 = .ok (.iaload, 1) := dk_46 (by decide +kernel)
theorem dX10_failed_36 : decode cX10_failed 36 = .ok (.if_icmp .ge 25, 3) := dk_162 (x := 0) (y := 25) (by decide +kernel) rfl
theorem dX10_failed_39 : decode cX10_failed 39 = .ok (.iload_n 3, 1) := dk_29 (by decide +kernel)
theorem dX10_failed_40 : decode cX10_failed 40 = .ok (.iload 4, 2) := dk_21 (x := 4) (by decide +kernel)
theorem dX10_failed_42 : decode cX10_failed 42 = .ok (.invokestatic 45, 3) := dk_184 (x := 0) (y := 45) (by decide +kernel) rfl
theorem dX10_failed_45 : decode cX10_failed 45 = .ok (.ifCond .eq 10, 3) := dk_153 (x := 0) (y := 10) (by decide +kernel) rfl
theorem dX10_failed_48 : decode cX10_failed 48 = .ok (.aload_n 0, 1) := dk_42 (by decide +kernel)
theorem dX10_failed_49 : decode cX10_failed 49 = .ok (.iload_n 1, 1) := dk_27 (by decide +kernel)
theorem dX10_failed_50 : decode cX10_failed 50 = .ok (.iload 4, 2) := dk_21 (x := 4) (by decide +kernel)
theorem dX10_failed_52 : decode cX10_failed 52 = .ok (.invokevirtual 202, 3) := dk_182 (x := 0) (y := 202) (by decide +kernel) rfl
theorem dX10_failed_55 : decode cX10_failed 55 = .ok (.iinc 4 1, 3) := dk_132 (x := 4) (y := 1) (by decide +kernel) rfl
theorem dX10_failed_58 : decode cX10_failed 58 = .ok (.goto (-30), 3) := dk_167 (x := 255) (y := 226) (by decide +kernel) rfl
theorem dX10_failed_61 : decode cX10_failed 61 = .ok (.aload_n 0, 1) := dk_42 (by decide +kernel)
theorem dX10_failed_62 : decode cX10_failed 62 = .ok (.iload_n 1, 1) := dk_27 (by decide +kernel)
theorem dX10_failed_63 : decode cX10_failed 63 = .ok (.iconst 5, 1) := dk_8 (by decide +kernel)
theorem dX10_failed_64 : decode cX10_failed 64 = .ok (.iconst 0, 1) := dk_3 (by decide +kernel)
theorem dX10_failed_65 : decode cX10_failed 65 = .ok (.invokevirtual 187, 3) := dk_182 (x := 0) (y := 187) (by decide +kernel) rfl
theorem dX10_failed_68 : decode cX10_failed 68 = .ok (.return_, 1) := dk_177 (by decide +kernel)
def f_X10_failed_28 : Nat → Nat → Int32 → Int32 → Int32 → Mem → Option Mem
  | 0, _, _, _, _, _ => none
  | n + 1, v0, v1, v3, v4, M =>
    chk (isO M 10 v0) <|
    bnd (mR M v0 0) fun o2 =>
    chk (isO M 100 o2) <|
    chk (inB (0 : Int32) (mLn M o2)) <|
    if (mI M o2 ((0 : Int32)).toNatClampNeg) ≤ v4 then (
      obd (f_X10_let v0 v1 (5 : Int32) (0 : Int32) M) fun M9 =>
      some M9
      ) else (
      obd (f_X10_has v3 v4 M) fun r11 =>
      if r11 = 0 then (
        bnd (v4 + (1 : Int32)) fun x14 =>
        f_X10_failed_28 n v0 v1 v3 x14 M
        ) else (
        obd (f_X10_yieldTo n v0 v1 v4 M) fun M17 =>
        bnd (v4 + (1 : Int32)) fun x18 =>
        f_X10_failed_28 n v0 v1 v3 x18 M17
        )
      )
def f_X10_failed (n : Nat) (o : Nat) (a1 : Int32) (a2 : Int32) (M : Mem) : Option Mem :=
  chk (isO M 10 o) <|
  obd (f_X10_get o a1 (6 : Int32) M) fun r3 =>
  obd (f_X10_with r3 a2 M) fun r5 =>
  obd (f_X10_let o a1 (6 : Int32) r5 M) fun M7 =>
  chk (isO M7 10 o) <|
  obd (f_X10_get o a1 (5 : Int32) M7) fun r10 =>
  f_X10_failed_28 n o a1 r10 (0 : Int32) M7
theorem cd_X10_failed : (yX10_failed.cls ≠ "java/lang/invoke/MethodHandle" ∧ yX10_failed.cls ≠ "java/lang/invoke/VarHandle") ∧ (parseMethodDescriptor yX10_failed.desc).map (fun d => d.parameters.length) = some 2 := ⟨⟨by decide +kernel, by decide +kernel⟩, by decide +kernel⟩
section
variable {p : Program} {l : Launch} {e : Env} {R : Room} {s : State} {m : MethodId} {args : Array Value} {below : List Frame} {meth : Method} {c : Code} {G : Gam} {M0 : Mem}
theorem l_X10_failed_28 {rv : Mem} (X : Cx p R s m args c G M0 cX10_failed yX10_failed.cls 5 3 68) (hr : meth.sig.returnType = none) (hlk : meth.locks = false) (hnm : meth.name = "failed") : ∀ {n : Nat} (v0 : Nat) (v1 : Int32) (v3 : Int32) (v4 : Int32) (M : Mem), f_X10_failed_28 n v0 v1 v3 v4 M = some rv → Sg p l e R s m args below meth c (Qm below G args s none M0 rv) G M0 5 28 [(0, .ref (gB G + v0)), (1, .int v1), (3, .int v3), (4, .int v4)] [] M := by
  intro n
  induction n with
  | zero => intro v0 v1 v3 v4 M hf; exact (pk_none hf).elim
  | succ n ih =>
    intro v0 v1 v3 v4 M hf
    rw [f_X10_failed_28] at hf
    refine s_iload X 3 dX10_failed_28 rfl ?_
    refine s_aload_n X 0 dX10_failed_30 rfl rfl ?_
    obtain ⟨h1, hf⟩ := pk_chk hf
    obtain ⟨o2, e3, hf⟩ := pk_bnd hf
    obtain ⟨h4, hf⟩ := pk_chk hf
    refine s_getR X (ci := 10) (k := 0) rfl (Nat.le_of_ble_eq_true rfl) h1 wd1440 (fun _ _ _ => rfl) (e3 ▸ h4) dX10_failed_31 (e3 ▸ ?_)
    refine s_iconst X (v := (0 : Int32)) dX10_failed_34 rfl ?_
    obtain ⟨h5, hf⟩ := pk_chk hf
    refine s_iald X h4 h5 dX10_failed_35 ?_
    have hs6 := pk_ite hf
    clear hf
    refine s_icmp_ge X (tgt := 61) dX10_failed_36 rfl (fun c7 => ?_) (fun c7 => ?_)
    · have hf := hs6.1 c7
      refine s_aload_n X 0 dX10_failed_61 rfl rfl ?_
      refine s_iload_n X 1 dX10_failed_62 rfl rfl ?_
      refine s_iconst X (v := (5 : Int32)) dX10_failed_63 rfl ?_
      refine s_iconst X (v := (0 : Int32)) dX10_failed_64 rfl ?_
      obtain ⟨M9, hc8, hf⟩ := pk_obd hf
      refine s_callV X (ci := 10) (k_X10_let G hc8) rfl h1 wd1692 wd1694 wd68 wd1695 wd138 cd_X10_let ⟨Nat.le_of_ble_eq_true rfl, Nat.le_of_ble_eq_true rfl⟩ (Nat.le_of_ble_eq_true rfl) dX10_failed_65 ?_
      cases hf
      exact s_vret X hr hlk dX10_failed_68
    · have hf := hs6.2 c7
      refine s_iload_n X 2 dX10_failed_39 rfl rfl ?_
      refine s_iload X 3 dX10_failed_40 rfl ?_
      obtain ⟨r11, hc10, hf⟩ := pk_obd hf
      refine s_callS X (k_X10_has G hc10) wd1565 wd1566 wd1567 wd138 cd_X10_has ⟨Nat.le_of_ble_eq_true rfl, Nat.le_of_ble_eq_true rfl⟩ (Nat.le_of_ble_eq_true rfl) dX10_failed_42 ?_
      have hs12 := pk_ite hf
      clear hf
      refine s_if_eq X (tgt := 55) dX10_failed_45 rfl (fun c13 => ?_) (fun c13 => ?_)
      · have hf := hs12.1 c13
        obtain ⟨x14, e15, hf⟩ := pk_bnd hf
        refine s_iinc X (vs' := [(0, .ref (gB G + v0)), (1, .int v1), (3, .int v3), (4, .int x14)]) 3 dX10_failed_55 rfl (v := x14) e15.symm (Nat.le_of_ble_eq_true rfl) [1, 2, 3, 0] rfl ?_
        refine s_goto X (tgt := 28) dX10_failed_58 rfl ?_
        exact ih _ _ _ _ _ hf
      · have hf := hs12.2 c13
        refine s_aload_n X 0 dX10_failed_48 rfl rfl ?_
        refine s_iload_n X 1 dX10_failed_49 rfl rfl ?_
        refine s_iload X 3 dX10_failed_50 rfl ?_
        obtain ⟨M17, hc16, hf⟩ := pk_obd hf
        refine s_callV X (ci := 10) (k_X10_yieldTo G hc16) rfl h1 wd1834 wd1836 wd95 wd1837 wd138 cd_X10_yieldTo ⟨Nat.le_of_ble_eq_true rfl, Nat.le_of_ble_eq_true rfl⟩ (Nat.le_of_ble_eq_true rfl) dX10_failed_52 ?_
        obtain ⟨x18, e19, hf⟩ := pk_bnd hf
        refine s_iinc X (vs' := [(0, .ref (gB G + v0)), (1, .int v1), (3, .int v3), (4, .int x18)]) 3 dX10_failed_55 rfl (v := x18) e19.symm (Nat.le_of_ble_eq_true rfl) [1, 2, 3, 0] rfl ?_
        refine s_goto X (tgt := 28) dX10_failed_58 rfl ?_
        exact ih _ _ _ _ _ hf
end
theorem k_X10_failed (G : Gam) {n : Nat} {o : Nat} {a1 : Int32} {a2 : Int32} {M : Mem} {rv : Mem} (hf : f_X10_failed n o a1 a2 M = some rv) : Kt yX10_failed cX10_failed 5 none 3 68 G [.ref (gB G + o), .int a1, .int a2] M rv none := by
  refine Kt.of (by decide) (Nat.le_of_ble_eq_true rfl) ?_
  intro p l e R s m args below meth c X hr hlk hnm
  refine s_drop [0, 1, 2] (vs' := [(0, .ref (gB G + o)), (1, .int a1), (2, .int a2)]) rfl ?_
  rw [f_X10_failed] at hf
  refine s_aload_n X 0 dX10_failed_0 rfl rfl ?_
  refine s_iload_n X 1 dX10_failed_1 rfl rfl ?_
  refine s_bipush X (v := (6 : Int32)) dX10_failed_2 rfl ?_
  refine s_aload_n X 0 dX10_failed_4 rfl rfl ?_
  refine s_iload_n X 1 dX10_failed_5 rfl rfl ?_
  refine s_bipush X (v := (6 : Int32)) dX10_failed_6 rfl ?_
  obtain ⟨h1, hf⟩ := pk_chk hf
  obtain ⟨r3, hc2, hf⟩ := pk_obd hf
  refine s_callV X (ci := 10) (k_X10_get G hc2) rfl h1 wd1588 wd1590 wd57 wd1591 wd138 cd_X10_get ⟨Nat.le_of_ble_eq_true rfl, Nat.le_of_ble_eq_true rfl⟩ (Nat.le_of_ble_eq_true rfl) dX10_failed_8 ?_
  refine s_iload_n X 2 dX10_failed_11 rfl rfl ?_
  obtain ⟨r5, hc4, hf⟩ := pk_obd hf
  refine s_callS X (k_X10_with G hc4) wd1812 wd1813 wd1814 wd138 cd_X10_with ⟨Nat.le_of_ble_eq_true rfl, Nat.le_of_ble_eq_true rfl⟩ (Nat.le_of_ble_eq_true rfl) dX10_failed_12 ?_
  obtain ⟨M7, hc6, hf⟩ := pk_obd hf
  refine s_callV X (ci := 10) (k_X10_let G hc6) rfl h1 wd1692 wd1694 wd68 wd1695 wd138 cd_X10_let ⟨Nat.le_of_ble_eq_true rfl, Nat.le_of_ble_eq_true rfl⟩ (Nat.le_of_ble_eq_true rfl) dX10_failed_15 ?_
  refine s_aload_n X 0 dX10_failed_18 rfl rfl ?_
  refine s_iload_n X 1 dX10_failed_19 rfl rfl ?_
  refine s_iconst X (v := (5 : Int32)) dX10_failed_20 rfl ?_
  obtain ⟨h8, hf⟩ := pk_chk hf
  obtain ⟨r10, hc9, hf⟩ := pk_obd hf
  refine s_callV X (ci := 10) (k_X10_get G hc9) rfl h8 wd1588 wd1590 wd57 wd1591 wd138 cd_X10_get ⟨Nat.le_of_ble_eq_true rfl, Nat.le_of_ble_eq_true rfl⟩ (Nat.le_of_ble_eq_true rfl) dX10_failed_21 ?_
  refine s_istore_n X (vs' := [(0, .ref (gB G + o)), (1, .int a1), (2, .int a2), (3, .int r10)]) dX10_failed_24 rfl (Nat.le_of_ble_eq_true rfl) [1, 2, 3, 0] rfl ?_
  refine s_iconst X (v := (0 : Int32)) dX10_failed_25 rfl ?_
  refine s_istore X (vs' := [(0, .ref (gB G + o)), (1, .int a1), (2, .int a2), (3, .int r10), (4, .int (0 : Int32))]) dX10_failed_26 (Nat.le_of_ble_eq_true rfl) [1, 2, 3, 4, 0] rfl ?_
  refine s_drop [0, 1, 3, 4] (vs' := [(0, .ref (gB G + o)), (1, .int a1), (3, .int r10), (4, .int (0 : Int32))]) rfl ?_
  exact l_X10_failed_28 X hr hlk hnm _ _ _ _ _ hf
theorem dX10_inquired_0 : decode cX10_inquired 0 = .ok (.aload_n 0, 1) := dk_42 (by decide +kernel)
theorem dX10_inquired_1 : decode cX10_inquired 1 = .ok (.iload_n 1, 1) := dk_27 (by decide +kernel)
theorem dX10_inquired_2 : decode cX10_inquired 2 = .ok (.iconst 4, 1) := dk_7 (by decide +kernel)
theorem dX10_inquired_3 : decode cX10_inquired 3 = .ok (.invokevirtual 93, 3) := dk_182 (x := 0) (y := 93) (by decide +kernel) rfl
theorem dX10_inquired_6 : decode cX10_inquired 6 = .ok (.iload_n 2, 1) := dk_28 (by decide +kernel)
theorem dX10_inquired_7 : decode cX10_inquired 7 = .ok (.invokestatic 45, 3) := dk_184 (x := 0) (y := 45) (by decide +kernel) rfl
theorem dX10_inquired_10 : decode cX10_inquired 10 = .ok (.ifCond .ne 4, 3) := dk_154 (x := 0) (y := 4) (by decide +kernel) rfl
theorem dX10_inquired_13 : decode cX10_inquired 13 = .ok (.return_, 1) := dk_177 (by decide +kernel)
theorem dX10_inquired_14 : decode cX10_inquired 14 = .ok (.aload_n 0, 1) := dk_42 (by decide +kernel)
theorem dX10_inquired_15 : decode cX10_inquired 15 = .ok (.iload_n 1, 1) := dk_27 (by decide +kernel)
theorem dX10_inquired_16 : decode cX10_inquired 16 = .ok (.bipush 6, 2) := dk_16 (x := 6) (by decide +kernel) rfl
theorem dX10_inquired_18 : decode cX10_inquired 18 = .ok (.invokevirtual 93, 3) := dk_182 (x := 0) (y := 93) (by decide +kernel) rfl
theorem dX10_inquired_21 : decode cX10_inquired 21 = .ok (.ifCond .eq 12, 3) := dk_153 (x := 0) (y := 12) (by decide +kernel) rfl
theorem dX10_inquired_24 : decode cX10_inquired 24 = .ok (.aload_n 0, 1) := dk_42 (by decide +kernel)
theorem dX10_inquired_25 : decode cX10_inquired 25 = .ok (.iload_n 1, 1) := dk_27 (by decide +kernel)
theorem dX10_inquired_26 : decode cX10_inquired 26 = .ok (.iload_n 2, 1) := dk_28 (by decide +kernel)
theorem dX10_inquired_27 : decode cX10_inquired 27 = .ok (.invokevirtual 202, 3) := dk_182 (x := 0) (y := 202) (by decide +kernel) rfl
theorem dX10_inquired_30 : decode cX10_inquired 30 = .ok (.goto 19, 3) := dk_167 (x := 0) (y := 19) (by decide +kernel) rfl
theorem dX10_inquired_33 : decode cX10_inquired 33 = .ok (.aload_n 0, 1) := dk_42 (by decide +kernel)
theorem dX10_inquired_34 : decode cX10_inquired 34 = .ok (.iload_n 1, 1) := dk_27 (by decide +kernel)
theorem dX10_inquired_35 : decode cX10_inquired 35 = .ok (.iconst 5, 1) := dk_8 (by decide +kernel)
theorem dX10_inquired_36 : decode cX10_inquired 36 = .ok (.aload_n 0, 1) := dk_42 (by decide +kernel)
theorem dX10_inquired_37 : decode cX10_inquired 37 = .ok (.iload_n 1, 1) := dk_27 (by decide +kernel)
theorem dX10_inquired_38 : decode cX10_inquired 38 = .ok (.iconst 5, 1) := dk_8 (by decide +kernel)
theorem dX10_inquired_39 : decode cX10_inquired 39 = .ok (.invokevirtual 93, 3) := dk_182 (x := 0) (y := 93) (by decide +kernel) rfl
theorem dX10_inquired_42 : decode cX10_inquired 42 = .ok (.iload_n 2, 1) := dk_28 (by decide +kernel)
theorem dX10_inquired_43 : decode cX10_inquired 43 = .ok (.invokestatic 190, 3) := dk_184 (x := 0) (y := 190) (by decide +kernel) rfl
theorem dX10_inquired_46 : decode cX10_inquired 46 = .ok (.invokevirtual 187, 3) := dk_182 (x := 0) (y := 187) (by decide +kernel) rfl
theorem dX10_inquired_49 : decode cX10_inquired 49 = .ok (.return_, 1) := dk_177 (by decide +kernel)
def f_X10_inquired (n : Nat) (o : Nat) (a1 : Int32) (a2 : Int32) (M : Mem) : Option Mem :=
  chk (isO M 10 o) <|
  obd (f_X10_get o a1 (4 : Int32) M) fun r3 =>
  obd (f_X10_has r3 a2 M) fun r5 =>
  if r5 = 0 then (
    some M
    ) else (
    obd (f_X10_get o a1 (6 : Int32) M) fun r9 =>
    if r9 = 0 then (
      obd (f_X10_get o a1 (5 : Int32) M) fun r13 =>
      obd (f_X10_with r13 a2 M) fun r15 =>
      obd (f_X10_let o a1 (5 : Int32) r15 M) fun M17 =>
      some M17
      ) else (
      obd (f_X10_yieldTo n o a1 a2 M) fun M19 =>
      some M19
      )
    )
theorem cd_X10_inquired : (yX10_inquired.cls ≠ "java/lang/invoke/MethodHandle" ∧ yX10_inquired.cls ≠ "java/lang/invoke/VarHandle") ∧ (parseMethodDescriptor yX10_inquired.desc).map (fun d => d.parameters.length) = some 2 := ⟨⟨by decide +kernel, by decide +kernel⟩, by decide +kernel⟩
theorem k_X10_inquired (G : Gam) {n : Nat} {o : Nat} {a1 : Int32} {a2 : Int32} {M : Mem} {rv : Mem} (hf : f_X10_inquired n o a1 a2 M = some rv) : Kt yX10_inquired cX10_inquired 3 none 3 68 G [.ref (gB G + o), .int a1, .int a2] M rv none := by
  refine Kt.of (by decide) (Nat.le_of_ble_eq_true rfl) ?_
  intro p l e R s m args below meth c X hr hlk hnm
  refine s_drop [0, 1, 2] (vs' := [(0, .ref (gB G + o)), (1, .int a1), (2, .int a2)]) rfl ?_
  rw [f_X10_inquired] at hf
  refine s_aload_n X 0 dX10_inquired_0 rfl rfl ?_
  refine s_iload_n X 1 dX10_inquired_1 rfl rfl ?_
  refine s_iconst X (v := (4 : Int32)) dX10_inquired_2 rfl ?_
  obtain ⟨h1, hf⟩ := pk_chk hf
  obtain ⟨r3, hc2, hf⟩ := pk_obd hf
  refine s_callV X (ci := 10) (k_X10_get G hc2) rfl h1 wd1588 wd1590 wd57 wd1591 wd138 cd_X10_get ⟨Nat.le_of_ble_eq_true rfl, Nat.le_of_ble_eq_true rfl⟩ (Nat.le_of_ble_eq_true rfl) dX10_inquired_3 ?_
  refine s_iload_n X 2 dX10_inquired_6 rfl rfl ?_
  obtain ⟨r5, hc4, hf⟩ := pk_obd hf
  refine s_callS X (k_X10_has G hc4) wd1565 wd1566 wd1567 wd138 cd_X10_has ⟨Nat.le_of_ble_eq_true rfl, Nat.le_of_ble_eq_true rfl⟩ (Nat.le_of_ble_eq_true rfl) dX10_inquired_7 ?_
  have hs6 := pk_ite hf
  clear hf
  refine s_if_ne X (tgt := 14) dX10_inquired_10 rfl (fun c7 => ?_) (fun c7 => ?_)
  · have hf := hs6.2 c7
    refine s_aload_n X 0 dX10_inquired_14 rfl rfl ?_
    refine s_iload_n X 1 dX10_inquired_15 rfl rfl ?_
    refine s_bipush X (v := (6 : Int32)) dX10_inquired_16 rfl ?_
    obtain ⟨r9, hc8, hf⟩ := pk_obd hf
    refine s_callV X (ci := 10) (k_X10_get G hc8) rfl h1 wd1588 wd1590 wd57 wd1591 wd138 cd_X10_get ⟨Nat.le_of_ble_eq_true rfl, Nat.le_of_ble_eq_true rfl⟩ (Nat.le_of_ble_eq_true rfl) dX10_inquired_18 ?_
    have hs10 := pk_ite hf
    clear hf
    refine s_if_eq X (tgt := 33) dX10_inquired_21 rfl (fun c11 => ?_) (fun c11 => ?_)
    · have hf := hs10.1 c11
      refine s_aload_n X 0 dX10_inquired_33 rfl rfl ?_
      refine s_iload_n X 1 dX10_inquired_34 rfl rfl ?_
      refine s_iconst X (v := (5 : Int32)) dX10_inquired_35 rfl ?_
      refine s_aload_n X 0 dX10_inquired_36 rfl rfl ?_
      refine s_iload_n X 1 dX10_inquired_37 rfl rfl ?_
      refine s_iconst X (v := (5 : Int32)) dX10_inquired_38 rfl ?_
      obtain ⟨r13, hc12, hf⟩ := pk_obd hf
      refine s_callV X (ci := 10) (k_X10_get G hc12) rfl h1 wd1588 wd1590 wd57 wd1591 wd138 cd_X10_get ⟨Nat.le_of_ble_eq_true rfl, Nat.le_of_ble_eq_true rfl⟩ (Nat.le_of_ble_eq_true rfl) dX10_inquired_39 ?_
      refine s_iload_n X 2 dX10_inquired_42 rfl rfl ?_
      obtain ⟨r15, hc14, hf⟩ := pk_obd hf
      refine s_callS X (k_X10_with G hc14) wd1812 wd1813 wd1814 wd138 cd_X10_with ⟨Nat.le_of_ble_eq_true rfl, Nat.le_of_ble_eq_true rfl⟩ (Nat.le_of_ble_eq_true rfl) dX10_inquired_43 ?_
      obtain ⟨M17, hc16, hf⟩ := pk_obd hf
      refine s_callV X (ci := 10) (k_X10_let G hc16) rfl h1 wd1692 wd1694 wd68 wd1695 wd138 cd_X10_let ⟨Nat.le_of_ble_eq_true rfl, Nat.le_of_ble_eq_true rfl⟩ (Nat.le_of_ble_eq_true rfl) dX10_inquired_46 ?_
      cases hf
      exact s_vret X hr hlk dX10_inquired_49
    · have hf := hs10.2 c11
      refine s_aload_n X 0 dX10_inquired_24 rfl rfl ?_
      refine s_iload_n X 1 dX10_inquired_25 rfl rfl ?_
      refine s_iload_n X 2 dX10_inquired_26 rfl rfl ?_
      obtain ⟨M19, hc18, hf⟩ := pk_obd hf
      refine s_callV X (ci := 10) (k_X10_yieldTo G hc18) rfl h1 wd1834 wd1836 wd95 wd1837 wd138 cd_X10_yieldTo ⟨Nat.le_of_ble_eq_true rfl, Nat.le_of_ble_eq_true rfl⟩ (Nat.le_of_ble_eq_true rfl) dX10_inquired_27 ?_
      refine s_goto X (tgt := 49) dX10_inquired_30 rfl ?_
      cases hf
      exact s_vret X hr hlk dX10_inquired_49
  · have hf := hs6.1 c7
    cases hf
    exact s_vret X hr hlk dX10_inquired_13
theorem dX10_read_0 : decode cX10_read 0 = .ok (.iload 4, 2) := dk_21 (x := 4) (by decide +kernel)
theorem dX10_read_2 : decode cX10_read 2 = .ok (.aload_n 0, 1) := dk_42 (by decide +kernel)
theorem dX10_read_3 : decode cX10_read 3 = .ok (.iload_n 3, 1) := dk_29 (by decide +kernel)
theorem dX10_read_4 : decode cX10_read 4 = .ok (.iconst 1, 1) := dk_4 (by decide +kernel)
theorem dX10_read_5 : decode cX10_read 5 = .ok (.invokevirtual 93, 3) := dk_182 (x := 0) (y := 93) (by decide +kernel) rfl
theorem dX10_read_8 : decode cX10_read 8 = .ok (.if_icmp .le 11, 3) := dk_164 (x := 0) (y := 11) (by decide +kernel) rfl
theorem dX10_read_11 : decode cX10_read 11 = .ok (.aload_n 0, 1) := dk_42 (by decide +kernel)
theorem dX10_read_12 : decode cX10_read 12 = .ok (.iload_n 3, 1) := dk_29 (by decide +kernel)
theorem dX10_read_13 : decode cX10_read 13 = .ok (.iconst 1, 1) := dk_4 (by decide +kernel)
theorem dX10_read_14 : decode cX10_read 14 = .ok (.iload 4, 2) := dk_21 (x := 4) (by decide +kernel)
theorem dX10_read_16 : decode cX10_read 16 = .ok (.invokevirtual 187, 3) := dk_182 (x := 0) (y := 187) (by decide +kernel) rfl
theorem dX10_read_19 : decode cX10_read 19 = .ok (.aload_n 0, 1) := dk_42 (by decide +kernel)
theorem dX10_read_20 : decode cX10_read 20 = .ok (.iload_n 3, 1) := dk_29 (by decide +kernel)
theorem dX10_read_21 : decode cX10_read 21 = .ok (.iconst 0, 1) := dk_3 (by decide +kernel)
theorem dX10_read_22 : decode cX10_read 22 = .ok (.invokevirtual 93, 3) := dk_182 (x := 0) (y := 93) (by decide +kernel) rfl
theorem dX10_read_25 : decode cX10_read 25 = .ok (.iconst 1, 1) := dk_4 (by decide +kernel)
theorem dX10_read_26 : decode cX10_read 26 = .ok (.if_icmp .ne 18, 3) := dk_160 (x := 0) (y := 18) (by decide +kernel) rfl
theorem dX10_read_29 : decode cX10_read 29 = .ok (.aload_n 0, 1) := dk_42 (by decide +kernel)
theorem dX10_read_30 : decode cX10_read 30 = .ok (.iload_n 3, 1) := dk_29 (by decide +kernel)
theorem dX10_read_31 : decode cX10_read 31 = .ok (.iconst 2, 1) := dk_5 (by decide +kernel)
theorem dX10_read_32 : decode cX10_read 32 = .ok (.invokevirtual 93, 3) := dk_182 (x := 0) (y := 93) (by decide +kernel) rfl
theorem dX10_read_35 : decode cX10_read 35 = .ok (.iload 4, 2) := dk_21 (x := 4) (by decide +kernel)
theorem dX10_read_37 : decode cX10_read 37 = .ok (.if_icmp .ne 7, 3) := dk_160 (x := 0) (y := 7) (by decide +kernel) rfl
theorem dX10_read_40 : decode cX10_read 40 = .ok (.iconst 1, 1) := dk_4 (by decide +kernel)
theorem dX10_read_41 : decode cX10_read 41 = .ok (.goto 4, 3) := dk_167 (x := 0) (y := 4) (by decide +kernel) rfl
theorem dX10_read_44 : decode cX10_read 44 = .ok (.iconst 0, 1) := dk_3 (by decide +kernel)
theorem dX10_read_45 : decode cX10_read 45 = .ok (.istore 5, 2) := dk_54 (x := 5) (by decide +kernel)
theorem dX10_read_47 : decode cX10_read 47 = .ok (.iload_n 1, 1) := dk_27 (by decide +kernel)
theorem dX10_read_48 : decode cX10_read 48 = .ok (.tableswitch 91 0 5 #[40, 67, 79, 91, 49, 58], 40) := by decide +kernel
theorem dX10_read_88 : decode cX10_read 88 = .ok (.aload_n 0, 1) := dk_42 (by decide +kernel)
theorem dX10_read_89 : decode cX10_read 89 = .ok (.iload_n 3, 1) := dk_29 (by decide +kernel)
theorem dX10_read_90 : decode cX10_read 90 = .ok (.iload_n 2, 1) := dk_28 (by decide +kernel)
theorem dX10_read_91 : decode cX10_read 91 = .ok (.iload 4, 2) := dk_21 (x := 4) (by decide +kernel)
theorem dX10_read_93 : decode cX10_read 93 = .ok (.invokevirtual 220, 3) := dk_182 (x := 0) (y := 220) (by decide +kernel) rfl
theorem dX10_read_96 : decode cX10_read 96 = .ok (.return_, 1) := dk_177 (by decide +kernel)
theorem dX10_read_97 : decode cX10_read 97 = .ok (.aload_n 0, 1) := dk_42 (by decide +kernel)
theorem dX10_read_98 : decode cX10_read 98 = .ok (.iload_n 3, 1) := dk_29 (by decide +kernel)
theorem dX10_read_99 : decode cX10_read 99 = .ok (.iload_n 2, 1) := dk_28 (by decide +kernel)
theorem dX10_read_100 : decode cX10_read 100 = .ok (.iload 4, 2) := dk_21 (x := 4) (by decide +kernel)
theorem dX10_read_102 : decode cX10_read 102 = .ok (.invokevirtual 223, 3) := dk_182 (x := 0) (y := 223) (by decide +kernel) rfl
theorem dX10_read_105 : decode cX10_read 105 = .ok (.return_, 1) := dk_177 (by decide +kernel)
theorem dX10_read_106 : decode cX10_read 106 = .ok (.aload_n 0, 1) := dk_42 (by decide +kernel)
theorem dX10_read_107 : decode cX10_read 107 = .ok (.iload_n 3, 1) := dk_29 (by decide +kernel)
theorem dX10_read_108 : decode cX10_read 108 = .ok (.iload_n 2, 1) := dk_28 (by decide +kernel)
theorem dX10_read_109 : decode cX10_read 109 = .ok (.iload 4, 2) := dk_21 (x := 4) (by decide +kernel)
theorem dX10_read_111 : decode cX10_read 111 = .ok (.invokevirtual 226, 3) := dk_182 (x := 0) (y := 226) (by decide +kernel) rfl
theorem dX10_read_114 : decode cX10_read 114 = .ok (.return_, 1) := dk_177 (by decide +kernel)
theorem dX10_read_115 : decode cX10_read 115 = .ok (.iload 5, 2) := dk_21 (x := 5) (by decide +kernel)
theorem dX10_read_117 : decode cX10_read 117 = .ok (.ifCond .eq 9, 3) := dk_153 (x := 0) (y := 9) (by decide +kernel) rfl
theorem dX10_read_120 : decode cX10_read 120 = .ok (.aload_n 0, 1) := dk_42 (by decide +kernel)
theorem dX10_read_121 : decode cX10_read 121 = .ok (.iload_n 3, 1) := dk_29 (by decide +kernel)
theorem dX10_read_122 : decode cX10_read 122 = .ok (.iload_n 2, 1) := dk_28 (by decide +kernel)
theorem dX10_read_123 : decode cX10_read 123 = .ok (.invokevirtual 229, 3) := dk_182 (x := 0) (y := 229) (by decide +kernel) rfl
theorem dX10_read_126 : decode cX10_read 126 = .ok (.return_, 1) := dk_177 (by decide +kernel)
theorem dX10_read_127 : decode cX10_read 127 = .ok (.iload 5, 2) := dk_21 (x := 5) (by decide +kernel)
theorem dX10_read_129 : decode cX10_read 129 = .ok (.ifCond .eq 9, 3) := dk_153 (x := 0) (y := 9) (by decide +kernel) rfl
theorem dX10_read_132 : decode cX10_read 132 = .ok (.aload_n 0, 1) := dk_42 (by decide +kernel)
theorem dX10_read_133 : decode cX10_read 133 = .ok (.iload_n 3, 1) := dk_29 (by decide +kernel)
theorem dX10_read_134 : decode cX10_read 134 = .ok (.iload_n 2, 1) := dk_28 (by decide +kernel)
theorem dX10_read_135 : decode cX10_read 135 = .ok (.invokevirtual 232, 3) := dk_182 (x := 0) (y := 232) (by decide +kernel) rfl
theorem dX10_read_138 : decode cX10_read 138 = .ok (.return_, 1) := dk_177 (by decide +kernel)
theorem dX10_read_139 : decode cX10_read 139 = .ok (.iload 5, 2) := dk_21 (x := 5) (by decide +kernel)
theorem dX10_read_141 : decode cX10_read 141 = .ok (.ifCond .eq 9, 3) := dk_153 (x := 0) (y := 9) (by decide +kernel) rfl
theorem dX10_read_144 : decode cX10_read 144 = .ok (.aload_n 0, 1) := dk_42 (by decide +kernel)
theorem dX10_read_145 : decode cX10_read 145 = .ok (.iload_n 3, 1) := dk_29 (by decide +kernel)
theorem dX10_read_146 : decode cX10_read 146 = .ok (.iload_n 2, 1) := dk_28 (by decide +kernel)
theorem dX10_read_147 : decode cX10_read 147 = .ok (.invokevirtual 235, 3) := dk_182 (x := 0) (y := 235) (by decide +kernel) rfl
theorem dX10_read_150 : decode cX10_read 150 = .ok (.return_, 1) := dk_177 (by decide +kernel)
def f_X10_read_45 (n : Nat) (v0 : Nat) (v1 : Int32) (v2 : Int32) (v3 : Int32) (v4 : Int32) (u0 : Int32) (M : Mem) : Option Mem :=
    if v1 = (0 : Int32) then (
      chk (isO M 10 v0) <|
      obd (f_X10_requested n v0 v3 v2 v4 M) fun M5 =>
      some M5
      ) else (
    if v1 = (1 : Int32) then (
      if u0 = 0 then (
        some M
        ) else (
        chk (isO M 10 v0) <|
        obd (f_X10_granted n v0 v3 v2 M) fun M12 =>
        some M12
        )
      ) else (
    if v1 = (2 : Int32) then (
      if u0 = 0 then (
        some M
        ) else (
        chk (isO M 10 v0) <|
        obd (f_X10_failed n v0 v3 v2 M) fun M19 =>
        some M19
        )
      ) else (
    if v1 = (3 : Int32) then (
      if u0 = 0 then (
        some M
        ) else (
        chk (isO M 10 v0) <|
        obd (f_X10_inquired n v0 v3 v2 M) fun M26 =>
        some M26
        )
      ) else (
    if v1 = (4 : Int32) then (
      chk (isO M 10 v0) <|
      obd (f_X10_yielded n v0 v3 v2 v4 M) fun M31 =>
      some M31
      ) else (
    if v1 = (5 : Int32) then (
      chk (isO M 10 v0) <|
      obd (f_X10_released n v0 v3 v2 v4 M) fun M36 =>
      some M36
      ) else (
    if u0 = 0 then (
      some M
      ) else (
      chk (isO M 10 v0) <|
      obd (f_X10_inquired n v0 v3 v2 M) fun M41 =>
      some M41
      )
    )
    )
    )
    )
    )
    )
def f_X10_read_19 (n : Nat) (v0 : Nat) (v1 : Int32) (v2 : Int32) (v3 : Int32) (v4 : Int32) (M : Mem) : Option Mem :=
    chk (isO M 10 v0) <|
    obd (f_X10_get v0 v3 (0 : Int32) M) fun r3 =>
    if r3 = (1 : Int32) then (
      obd (f_X10_get v0 v3 (2 : Int32) M) fun r7 =>
      if r7 = v4 then (
        f_X10_read_45 n v0 v1 v2 v3 v4 (1 : Int32) M
        ) else (
        f_X10_read_45 n v0 v1 v2 v3 v4 (0 : Int32) M
        )
      ) else (
      f_X10_read_45 n v0 v1 v2 v3 v4 (0 : Int32) M
      )
def f_X10_read (n : Nat) (o : Nat) (a1 : Int32) (a2 : Int32) (a3 : Int32) (a4 : Int32) (M : Mem) : Option Mem :=
  chk (isO M 10 o) <|
  obd (f_X10_get o a3 (1 : Int32) M) fun r3 =>
  if a4 ≤ r3 then (
    f_X10_read_19 n o a1 a2 a3 a4 M
    ) else (
    obd (f_X10_let o a3 (1 : Int32) a4 M) fun M7 =>
    f_X10_read_19 n o a1 a2 a3 a4 M7
    )
theorem cd_X10_read : (yX10_read.cls ≠ "java/lang/invoke/MethodHandle" ∧ yX10_read.cls ≠ "java/lang/invoke/VarHandle") ∧ (parseMethodDescriptor yX10_read.desc).map (fun d => d.parameters.length) = some 4 := ⟨⟨by decide +kernel, by decide +kernel⟩, by decide +kernel⟩
section
variable {p : Program} {l : Launch} {e : Env} {R : Room} {s : State} {m : MethodId} {args : Array Value} {below : List Frame} {meth : Method} {c : Code} {G : Gam} {M0 : Mem}
theorem l_X10_read_45 {rv : Mem} {n : Nat} {v0 : Nat} {v1 : Int32} {v2 : Int32} {v3 : Int32} {v4 : Int32} {u0 : Int32} {M : Mem} (X : Cx p R s m args c G M0 cX10_read yX10_read.cls 6 4 95) (hr : meth.sig.returnType = none) (hlk : meth.locks = false) (hnm : meth.name = "read") (hf : f_X10_read_45 n v0 v1 v2 v3 v4 u0 M = some rv) : Sg p l e R s m args below meth c (Qm below G args s none M0 rv) G M0 6 45 [(0, .ref (gB G + v0)), (1, .int v1), (2, .int v2), (3, .int v3), (4, .int v4)] [.int u0] M := by
  rw [f_X10_read_45] at hf
  refine s_istore X (vs' := [(0, .ref (gB G + v0)), (1, .int v1), (2, .int v2), (3, .int v3), (4, .int v4), (5, .int u0)]) dX10_read_45 (Nat.le_of_ble_eq_true rfl) [1, 2, 3, 4, 5, 0] rfl ?_
  refine s_iload_n X 1 dX10_read_47 rfl rfl ?_
  have hs1 := pk_ite hf
  clear hf
  by_cases c2 : v1 = (0 : Int32)
  · have hf := hs1.1 c2
    refine s_swC X (v := (0 : Int32)) (tgt := 88) dX10_read_48 c2 (by decide) (by decide) rfl rfl ?_
    refine s_aload_n X 0 dX10_read_88 rfl rfl ?_
    refine s_iload_n X 3 dX10_read_89 rfl rfl ?_
    refine s_iload_n X 2 dX10_read_90 rfl rfl ?_
    refine s_iload X 4 dX10_read_91 rfl ?_
    obtain ⟨h3, hf⟩ := pk_chk hf
    obtain ⟨M5, hc4, hf⟩ := pk_obd hf
    refine s_callV X (ci := 10) (k_X10_requested G hc4) rfl h3 wd1757 wd1759 wd78 wd1760 wd138 cd_X10_requested ⟨Nat.le_of_ble_eq_true rfl, Nat.le_of_ble_eq_true rfl⟩ (Nat.le_of_ble_eq_true rfl) dX10_read_93 ?_
    cases hf
    exact s_vret X hr hlk dX10_read_96
  have hf := hs1.2 c2
  have hs6 := pk_ite hf
  clear hf
  by_cases c7 : v1 = (1 : Int32)
  · have hf := hs6.1 c7
    refine s_swC X (v := (1 : Int32)) (tgt := 115) dX10_read_48 c7 (by decide) (by decide) rfl rfl ?_
    refine s_iload X 5 dX10_read_115 rfl ?_
    have hs8 := pk_ite hf
    clear hf
    refine s_if_eq X (tgt := 126) dX10_read_117 rfl (fun c9 => ?_) (fun c9 => ?_)
    · have hf := hs8.1 c9
      cases hf
      exact s_vret X hr hlk dX10_read_126
    · have hf := hs8.2 c9
      refine s_aload_n X 0 dX10_read_120 rfl rfl ?_
      refine s_iload_n X 3 dX10_read_121 rfl rfl ?_
      refine s_iload_n X 2 dX10_read_122 rfl rfl ?_
      obtain ⟨h10, hf⟩ := pk_chk hf
      obtain ⟨M12, hc11, hf⟩ := pk_obd hf
      refine s_callV X (ci := 10) (k_X10_granted G hc11) rfl h10 wd1808 wd1810 wd90 wd1811 wd138 cd_X10_granted ⟨Nat.le_of_ble_eq_true rfl, Nat.le_of_ble_eq_true rfl⟩ (Nat.le_of_ble_eq_true rfl) dX10_read_123 ?_
      cases hf
      exact s_vret X hr hlk dX10_read_126
  have hf := hs6.2 c7
  have hs13 := pk_ite hf
  clear hf
  by_cases c14 : v1 = (2 : Int32)
  · have hf := hs13.1 c14
    refine s_swC X (v := (2 : Int32)) (tgt := 127) dX10_read_48 c14 (by decide) (by decide) rfl rfl ?_
    refine s_iload X 5 dX10_read_127 rfl ?_
    have hs15 := pk_ite hf
    clear hf
    refine s_if_eq X (tgt := 138) dX10_read_129 rfl (fun c16 => ?_) (fun c16 => ?_)
    · have hf := hs15.1 c16
      cases hf
      exact s_vret X hr hlk dX10_read_138
    · have hf := hs15.2 c16
      refine s_aload_n X 0 dX10_read_132 rfl rfl ?_
      refine s_iload_n X 3 dX10_read_133 rfl rfl ?_
      refine s_iload_n X 2 dX10_read_134 rfl rfl ?_
      obtain ⟨h17, hf⟩ := pk_chk hf
      obtain ⟨M19, hc18, hf⟩ := pk_obd hf
      refine s_callV X (ci := 10) (k_X10_failed G hc18) rfl h17 wd1830 wd1832 wd94 wd1833 wd138 cd_X10_failed ⟨Nat.le_of_ble_eq_true rfl, Nat.le_of_ble_eq_true rfl⟩ (Nat.le_of_ble_eq_true rfl) dX10_read_135 ?_
      cases hf
      exact s_vret X hr hlk dX10_read_138
  have hf := hs13.2 c14
  have hs20 := pk_ite hf
  clear hf
  by_cases c21 : v1 = (3 : Int32)
  · have hf := hs20.1 c21
    refine s_swC X (v := (3 : Int32)) (tgt := 139) dX10_read_48 c21 (by decide) (by decide) rfl rfl ?_
    refine s_iload X 5 dX10_read_139 rfl ?_
    have hs22 := pk_ite hf
    clear hf
    refine s_if_eq X (tgt := 150) dX10_read_141 rfl (fun c23 => ?_) (fun c23 => ?_)
    · have hf := hs22.1 c23
      cases hf
      exact s_vret X hr hlk dX10_read_150
    · have hf := hs22.2 c23
      refine s_aload_n X 0 dX10_read_144 rfl rfl ?_
      refine s_iload_n X 3 dX10_read_145 rfl rfl ?_
      refine s_iload_n X 2 dX10_read_146 rfl rfl ?_
      obtain ⟨h24, hf⟩ := pk_chk hf
      obtain ⟨M26, hc25, hf⟩ := pk_obd hf
      refine s_callV X (ci := 10) (k_X10_inquired G hc25) rfl h24 wd1838 wd1840 wd96 wd1841 wd138 cd_X10_inquired ⟨Nat.le_of_ble_eq_true rfl, Nat.le_of_ble_eq_true rfl⟩ (Nat.le_of_ble_eq_true rfl) dX10_read_147 ?_
      cases hf
      exact s_vret X hr hlk dX10_read_150
  have hf := hs20.2 c21
  have hs27 := pk_ite hf
  clear hf
  by_cases c28 : v1 = (4 : Int32)
  · have hf := hs27.1 c28
    refine s_swC X (v := (4 : Int32)) (tgt := 97) dX10_read_48 c28 (by decide) (by decide) rfl rfl ?_
    refine s_aload_n X 0 dX10_read_97 rfl rfl ?_
    refine s_iload_n X 3 dX10_read_98 rfl rfl ?_
    refine s_iload_n X 2 dX10_read_99 rfl rfl ?_
    refine s_iload X 4 dX10_read_100 rfl ?_
    obtain ⟨h29, hf⟩ := pk_chk hf
    obtain ⟨M31, hc30, hf⟩ := pk_obd hf
    refine s_callV X (ci := 10) (k_X10_yielded G hc30) rfl h29 wd1796 wd1798 wd87 wd1799 wd138 cd_X10_yielded ⟨Nat.le_of_ble_eq_true rfl, Nat.le_of_ble_eq_true rfl⟩ (Nat.le_of_ble_eq_true rfl) dX10_read_102 ?_
    cases hf
    exact s_vret X hr hlk dX10_read_105
  have hf := hs27.2 c28
  have hs32 := pk_ite hf
  clear hf
  by_cases c33 : v1 = (5 : Int32)
  · have hf := hs32.1 c33
    refine s_swC X (v := (5 : Int32)) (tgt := 106) dX10_read_48 c33 (by decide) (by decide) rfl rfl ?_
    refine s_aload_n X 0 dX10_read_106 rfl rfl ?_
    refine s_iload_n X 3 dX10_read_107 rfl rfl ?_
    refine s_iload_n X 2 dX10_read_108 rfl rfl ?_
    refine s_iload X 4 dX10_read_109 rfl ?_
    obtain ⟨h34, hf⟩ := pk_chk hf
    obtain ⟨M36, hc35, hf⟩ := pk_obd hf
    refine s_callV X (ci := 10) (k_X10_released G hc35) rfl h34 wd1804 wd1806 wd89 wd1807 wd138 cd_X10_released ⟨Nat.le_of_ble_eq_true rfl, Nat.le_of_ble_eq_true rfl⟩ (Nat.le_of_ble_eq_true rfl) dX10_read_111 ?_
    cases hf
    exact s_vret X hr hlk dX10_read_114
  have hf := hs32.2 c33
  refine s_swOut X (tgt := 139) dX10_read_48 (by have := sw_ne (v := (0 : Int32)) (z := 0) c2 (by decide); have := sw_ne (v := (1 : Int32)) (z := 1) c7 (by decide); have := sw_ne (v := (2 : Int32)) (z := 2) c14 (by decide); have := sw_ne (v := (3 : Int32)) (z := 3) c21 (by decide); have := sw_ne (v := (4 : Int32)) (z := 4) c28 (by decide); have := sw_ne (v := (5 : Int32)) (z := 5) c33 (by decide); omega) rfl ?_
  refine s_iload X 5 dX10_read_139 rfl ?_
  have hs37 := pk_ite hf
  clear hf
  refine s_if_eq X (tgt := 150) dX10_read_141 rfl (fun c38 => ?_) (fun c38 => ?_)
  · have hf := hs37.1 c38
    cases hf
    exact s_vret X hr hlk dX10_read_150
  · have hf := hs37.2 c38
    refine s_aload_n X 0 dX10_read_144 rfl rfl ?_
    refine s_iload_n X 3 dX10_read_145 rfl rfl ?_
    refine s_iload_n X 2 dX10_read_146 rfl rfl ?_
    obtain ⟨h39, hf⟩ := pk_chk hf
    obtain ⟨M41, hc40, hf⟩ := pk_obd hf
    refine s_callV X (ci := 10) (k_X10_inquired G hc40) rfl h39 wd1838 wd1840 wd96 wd1841 wd138 cd_X10_inquired ⟨Nat.le_of_ble_eq_true rfl, Nat.le_of_ble_eq_true rfl⟩ (Nat.le_of_ble_eq_true rfl) dX10_read_147 ?_
    cases hf
    exact s_vret X hr hlk dX10_read_150
theorem l_X10_read_19 {rv : Mem} {n : Nat} {v0 : Nat} {v1 : Int32} {v2 : Int32} {v3 : Int32} {v4 : Int32} {M : Mem} (X : Cx p R s m args c G M0 cX10_read yX10_read.cls 6 4 95) (hr : meth.sig.returnType = none) (hlk : meth.locks = false) (hnm : meth.name = "read") (hf : f_X10_read_19 n v0 v1 v2 v3 v4 M = some rv) : Sg p l e R s m args below meth c (Qm below G args s none M0 rv) G M0 6 19 [(0, .ref (gB G + v0)), (1, .int v1), (2, .int v2), (3, .int v3), (4, .int v4)] [] M := by
  rw [f_X10_read_19] at hf
  refine s_aload_n X 0 dX10_read_19 rfl rfl ?_
  refine s_iload_n X 3 dX10_read_20 rfl rfl ?_
  refine s_iconst X (v := (0 : Int32)) dX10_read_21 rfl ?_
  obtain ⟨h1, hf⟩ := pk_chk hf
  obtain ⟨r3, hc2, hf⟩ := pk_obd hf
  refine s_callV X (ci := 10) (k_X10_get G hc2) rfl h1 wd1588 wd1590 wd57 wd1591 wd138 cd_X10_get ⟨Nat.le_of_ble_eq_true rfl, Nat.le_of_ble_eq_true rfl⟩ (Nat.le_of_ble_eq_true rfl) dX10_read_22 ?_
  refine s_iconst X (v := (1 : Int32)) dX10_read_25 rfl ?_
  have hs4 := pk_ite hf
  clear hf
  refine s_icmp_ne X (tgt := 44) dX10_read_26 rfl (fun c5 => ?_) (fun c5 => ?_)
  · have hf := hs4.2 c5
    refine s_iconst X (v := (0 : Int32)) dX10_read_44 rfl ?_
    exact l_X10_read_45 X hr hlk hnm hf
  · have hf := hs4.1 c5
    refine s_aload_n X 0 dX10_read_29 rfl rfl ?_
    refine s_iload_n X 3 dX10_read_30 rfl rfl ?_
    refine s_iconst X (v := (2 : Int32)) dX10_read_31 rfl ?_
    obtain ⟨r7, hc6, hf⟩ := pk_obd hf
    refine s_callV X (ci := 10) (k_X10_get G hc6) rfl h1 wd1588 wd1590 wd57 wd1591 wd138 cd_X10_get ⟨Nat.le_of_ble_eq_true rfl, Nat.le_of_ble_eq_true rfl⟩ (Nat.le_of_ble_eq_true rfl) dX10_read_32 ?_
    refine s_iload X 4 dX10_read_35 rfl ?_
    have hs8 := pk_ite hf
    clear hf
    refine s_icmp_ne X (tgt := 44) dX10_read_37 rfl (fun c9 => ?_) (fun c9 => ?_)
    · have hf := hs8.2 c9
      refine s_iconst X (v := (0 : Int32)) dX10_read_44 rfl ?_
      exact l_X10_read_45 X hr hlk hnm hf
    · have hf := hs8.1 c9
      refine s_iconst X (v := (1 : Int32)) dX10_read_40 rfl ?_
      refine s_goto X (tgt := 45) dX10_read_41 rfl ?_
      exact l_X10_read_45 X hr hlk hnm hf
end
theorem k_X10_read (G : Gam) {n : Nat} {o : Nat} {a1 : Int32} {a2 : Int32} {a3 : Int32} {a4 : Int32} {M : Mem} {rv : Mem} (hf : f_X10_read n o a1 a2 a3 a4 M = some rv) : Kt yX10_read cX10_read 6 none 4 95 G [.ref (gB G + o), .int a1, .int a2, .int a3, .int a4] M rv none := by
  refine Kt.of (by decide) (Nat.le_of_ble_eq_true rfl) ?_
  intro p l e R s m args below meth c X hr hlk hnm
  refine s_drop [0, 1, 2, 3, 4] (vs' := [(0, .ref (gB G + o)), (1, .int a1), (2, .int a2), (3, .int a3), (4, .int a4)]) rfl ?_
  rw [f_X10_read] at hf
  refine s_iload X 4 dX10_read_0 rfl ?_
  refine s_aload_n X 0 dX10_read_2 rfl rfl ?_
  refine s_iload_n X 3 dX10_read_3 rfl rfl ?_
  refine s_iconst X (v := (1 : Int32)) dX10_read_4 rfl ?_
  obtain ⟨h1, hf⟩ := pk_chk hf
  obtain ⟨r3, hc2, hf⟩ := pk_obd hf
  refine s_callV X (ci := 10) (k_X10_get G hc2) rfl h1 wd1588 wd1590 wd57 wd1591 wd138 cd_X10_get ⟨Nat.le_of_ble_eq_true rfl, Nat.le_of_ble_eq_true rfl⟩ (Nat.le_of_ble_eq_true rfl) dX10_read_5 ?_
  have hs4 := pk_ite hf
  clear hf
  refine s_icmp_le X (tgt := 19) dX10_read_8 rfl (fun c5 => ?_) (fun c5 => ?_)
  · have hf := hs4.1 c5
    exact l_X10_read_19 X hr hlk hnm hf
  · have hf := hs4.2 c5
    refine s_aload_n X 0 dX10_read_11 rfl rfl ?_
    refine s_iload_n X 3 dX10_read_12 rfl rfl ?_
    refine s_iconst X (v := (1 : Int32)) dX10_read_13 rfl ?_
    refine s_iload X 4 dX10_read_14 rfl ?_
    obtain ⟨M7, hc6, hf⟩ := pk_obd hf
    refine s_callV X (ci := 10) (k_X10_let G hc6) rfl h1 wd1692 wd1694 wd68 wd1695 wd138 cd_X10_let ⟨Nat.le_of_ble_eq_true rfl, Nat.le_of_ble_eq_true rfl⟩ (Nat.le_of_ble_eq_true rfl) dX10_read_16 ?_
    exact l_X10_read_19 X hr hlk hnm hf
theorem dX10_bringNow_0 : decode cX10_bringNow 0 = .ok (.aload_n 0, 1) := dk_42 (by decide +kernel)
theorem dX10_bringNow_1 : decode cX10_bringNow 1 = .ok (.getfield 7, 3) := dk_180 (x := 0) (y := 7) (by decide +kernel) rfl
theorem dX10_bringNow_4 : decode cX10_bringNow 4 = .ok (.sipush 851, 3) := dk_17 (x := 3) (y := 83) (by decide +kernel) rfl
theorem dX10_bringNow_7 : decode cX10_bringNow 7 = .ok (.iload_n 1, 1) := dk_27 (by decide +kernel)
theorem dX10_bringNow_8 : decode cX10_bringNow 8 = .ok (.iadd, 1) := dk_96 (by decide +kernel)
theorem dX10_bringNow_9 : decode cX10_bringNow 9 = .ok (.iaload, 1) := dk_46 (by decide +kernel)
theorem dX10_bringNow_10 : decode cX10_bringNow 10 = .ok (.istore_n 2, 1) := dk_61 (by decide +kernel)
theorem dX10_bringNow_11 : decode cX10_bringNow 11 = .ok (.iload_n 2, 1) := dk_28 (by decide +kernel)
theorem dX10_bringNow_12 : decode cX10_bringNow 12 = .ok (.invokestatic 140, 3) := dk_184 (x := 0) (y := 140) (by decide +kernel) rfl
theorem dX10_bringNow_15 : decode cX10_bringNow 15 = .ok (.bipush 16, 2) := dk_16 (x := 16) (by decide +kernel) rfl
theorem dX10_bringNow_17 : decode cX10_bringNow 17 = .ok (.idiv, 1) := dk_108 (by decide +kernel)
theorem dX10_bringNow_18 : decode cX10_bringNow 18 = .ok (.istore_n 3, 1) := dk_62 (by decide +kernel)
theorem dX10_bringNow_19 : decode cX10_bringNow 19 = .ok (.iload_n 2, 1) := dk_28 (by decide +kernel)
theorem dX10_bringNow_20 : decode cX10_bringNow 20 = .ok (.invokestatic 140, 3) := dk_184 (x := 0) (y := 140) (by decide +kernel) rfl
theorem dX10_bringNow_23 : decode cX10_bringNow 23 = .ok (.bipush 16, 2) := dk_16 (x := 16) (by decide +kernel) rfl
theorem dX10_bringNow_25 : decode cX10_bringNow 25 = .ok (.irem, 1) := dk_112 (by decide +kernel)
theorem dX10_bringNow_26 : decode cX10_bringNow 26 = .ok (.istore 4, 2) := dk_54 (x := 4) (by decide +kernel)
theorem dX10_bringNow_28 : decode cX10_bringNow 28 = .ok (.aload_n 0, 1) := dk_42 (by decide +kernel)
theorem dX10_bringNow_29 : decode cX10_bringNow 29 = .ok (.iload_n 1, 1) := dk_27 (by decide +kernel)
theorem dX10_bringNow_30 : decode cX10_bringNow 30 = .ok (.invokevirtual 238, 3) := dk_182 (x := 0) (y := 238) (by decide +kernel) rfl
theorem dX10_bringNow_33 : decode cX10_bringNow 33 = .ok (.aload_n 0, 1) := dk_42 (by decide +kernel)
theorem dX10_bringNow_34 : decode cX10_bringNow 34 = .ok (.iload_n 2, 1) := dk_28 (by decide +kernel)
theorem dX10_bringNow_35 : decode cX10_bringNow 35 = .ok (.invokestatic 241, 3) := dk_184 (x := 0) (y := 241) (by decide +kernel) rfl
theorem dX10_bringNow_38 : decode cX10_bringNow 38 = .ok (.iload_n 3, 1) := dk_29 (by decide +kernel)
theorem dX10_bringNow_39 : decode cX10_bringNow 39 = .ok (.iload 4, 2) := dk_21 (x := 4) (by decide +kernel)
theorem dX10_bringNow_41 : decode cX10_bringNow 41 = .ok (.iload_n 2, 1) := dk_28 (by decide +kernel)
theorem dX10_bringNow_42 : decode cX10_bringNow 42 = .ok (.invokestatic 244, 3) := dk_184 (x := 0) (y := 244) (by decide +kernel) rfl
theorem dX10_bringNow_45 : decode cX10_bringNow 45 = .ok (.invokevirtual 247, 3) := dk_182 (x := 0) (y := 247) (by decide +kernel) rfl
theorem dX10_bringNow_48 : decode cX10_bringNow 48 = .ok (.aload_n 0, 1) := dk_42 (by decide +kernel)
theorem dX10_bringNow_49 : decode cX10_bringNow 49 = .ok (.iload_n 2, 1) := dk_28 (by decide +kernel)
theorem dX10_bringNow_50 : decode cX10_bringNow 50 = .ok (.invokestatic 241, 3) := dk_184 (x := 0) (y := 241) (by decide +kernel) rfl
theorem dX10_bringNow_53 : decode cX10_bringNow 53 = .ok (.iload_n 3, 1) := dk_29 (by decide +kernel)
theorem dX10_bringNow_54 : decode cX10_bringNow 54 = .ok (.iload 4, 2) := dk_21 (x := 4) (by decide +kernel)
theorem dX10_bringNow_56 : decode cX10_bringNow 56 = .ok (.iload_n 2, 1) := dk_28 (by decide +kernel)
theorem dX10_bringNow_57 : decode cX10_bringNow 57 = .ok (.invokestatic 244, 3) := dk_184 (x := 0) (y := 244) (by decide +kernel) rfl
theorem dX10_bringNow_60 : decode cX10_bringNow 60 = .ok (.invokevirtual 250, 3) := dk_182 (x := 0) (y := 250) (by decide +kernel) rfl
theorem dX10_bringNow_63 : decode cX10_bringNow 63 = .ok (.iload_n 2, 1) := dk_28 (by decide +kernel)
theorem dX10_bringNow_64 : decode cX10_bringNow 64 = .ok (.invokestatic 241, 3) := dk_184 (x := 0) (y := 241) (by decide +kernel) rfl
theorem dX10_bringNow_67 : decode cX10_bringNow 67 = .ok (.ireturn, 1) := dk_172 (by decide +kernel)
def f_X10_bringNow (n : Nat) (o : Nat) (a1 : Int32) (M : Mem) : Option (Int32 × Mem) :=
  chk (isO M 10 o) <|
  bnd (mR M o 0) fun o2 =>
  chk (isO M 100 o2) <|
  chk (inB ((851 : Int32) + a1) (mLn M o2)) <|
  bnd (mI M o2 (((851 : Int32) + a1)).toNatClampNeg) fun x6 =>
  obd (f_X10_pairOf x6 M) fun r9 =>
  chk (¬ (16 : Int32) = 0) <|
  bnd (r9 / (16 : Int32)) fun x11 =>
  obd (f_X10_pairOf x6 M) fun r14 =>
  chk (¬ (16 : Int32) = 0) <|
  bnd (r14 - r14 / (16 : Int32) * (16 : Int32)) fun x16 =>
  obd (f_X10_takeLetter n o a1 M) fun M19 =>
  obd (f_X10_kindOf x6 M19) fun r21 =>
  obd (f_X10_stampOf x6 M19) fun r23 =>
  chk (isO M19 10 o) <|
  obd (f_X10_writeTrace n o r21 x11 x16 r23 M19) fun M26 =>
  obd (f_X10_kindOf x6 M26) fun r28 =>
  obd (f_X10_stampOf x6 M26) fun r30 =>
  chk (isO M26 10 o) <|
  obd (f_X10_read n o r28 x11 x16 r30 M26) fun M33 =>
  obd (f_X10_kindOf x6 M33) fun r35 =>
  some (r35, M33)
theorem cd_X10_bringNow : (yX10_bringNow.cls ≠ "java/lang/invoke/MethodHandle" ∧ yX10_bringNow.cls ≠ "java/lang/invoke/VarHandle") ∧ (parseMethodDescriptor yX10_bringNow.desc).map (fun d => d.parameters.length) = some 1 := ⟨⟨by decide +kernel, by decide +kernel⟩, by decide +kernel⟩
theorem k_X10_bringNow (G : Gam) {n : Nat} {o : Nat} {a1 : Int32} {M : Mem} {rv : (Int32 × Mem)} (hf : f_X10_bringNow n o a1 M = some rv) : Kt yX10_bringNow cX10_bringNow 5 (some .int) 5 120 G [.ref (gB G + o), .int a1] M rv.2 (some (.int rv.1)) := by
  refine Kt.of (by decide) (Nat.le_of_ble_eq_true rfl) ?_
  intro p l e R s m args below meth c X hr hlk hnm
  refine s_drop [0, 1] (vs' := [(0, .ref (gB G + o)), (1, .int a1)]) rfl ?_
  rw [f_X10_bringNow] at hf
  refine s_aload_n X 0 dX10_bringNow_0 rfl rfl ?_
  obtain ⟨h1, hf⟩ := pk_chk hf
  obtain ⟨o2, e3, hf⟩ := pk_bnd hf
  obtain ⟨h4, hf⟩ := pk_chk hf
  refine s_getR X (ci := 10) (k := 0) rfl (Nat.le_of_ble_eq_true rfl) h1 wd1440 (fun _ _ _ => rfl) (e3 ▸ h4) dX10_bringNow_1 (e3 ▸ ?_)
  refine s_sipush X (v := (851 : Int32)) dX10_bringNow_4 rfl ?_
  refine s_iload_n X 1 dX10_bringNow_7 rfl rfl ?_
  refine s_iadd X dX10_bringNow_8 ?_
  obtain ⟨h5, hf⟩ := pk_chk hf
  refine s_iald X h4 h5 dX10_bringNow_9 ?_
  obtain ⟨x6, e7, hf⟩ := pk_bnd hf
  refine s_nmI e7 ?_
  refine s_istore_n X (vs' := [(0, .ref (gB G + o)), (1, .int a1), (2, .int x6)]) dX10_bringNow_10 rfl (Nat.le_of_ble_eq_true rfl) [1, 2, 0] rfl ?_
  refine s_iload_n X 2 dX10_bringNow_11 rfl rfl ?_
  obtain ⟨r9, hc8, hf⟩ := pk_obd hf
  refine s_callS X (k_X10_pairOf G hc8) wd1704 wd1705 wd1706 wd138 cd_X10_pairOf ⟨Nat.le_of_ble_eq_true rfl, Nat.le_of_ble_eq_true rfl⟩ (Nat.le_of_ble_eq_true rfl) dX10_bringNow_12 ?_
  refine s_bipush X (v := (16 : Int32)) dX10_bringNow_15 rfl ?_
  obtain ⟨h10, hf⟩ := pk_chk hf
  refine s_idiv X dX10_bringNow_17 h10 ?_
  obtain ⟨x11, e12, hf⟩ := pk_bnd hf
  refine s_nmI e12 ?_
  refine s_istore_n X (vs' := [(0, .ref (gB G + o)), (1, .int a1), (2, .int x6), (3, .int x11)]) dX10_bringNow_18 rfl (Nat.le_of_ble_eq_true rfl) [1, 2, 3, 0] rfl ?_
  refine s_iload_n X 2 dX10_bringNow_19 rfl rfl ?_
  obtain ⟨r14, hc13, hf⟩ := pk_obd hf
  refine s_callS X (k_X10_pairOf G hc13) wd1704 wd1705 wd1706 wd138 cd_X10_pairOf ⟨Nat.le_of_ble_eq_true rfl, Nat.le_of_ble_eq_true rfl⟩ (Nat.le_of_ble_eq_true rfl) dX10_bringNow_20 ?_
  refine s_bipush X (v := (16 : Int32)) dX10_bringNow_23 rfl ?_
  obtain ⟨h15, hf⟩ := pk_chk hf
  refine s_irem X dX10_bringNow_25 h15 ?_
  obtain ⟨x16, e17, hf⟩ := pk_bnd hf
  refine s_nmI e17 ?_
  refine s_istore X (vs' := [(0, .ref (gB G + o)), (1, .int a1), (2, .int x6), (3, .int x11), (4, .int x16)]) dX10_bringNow_26 (Nat.le_of_ble_eq_true rfl) [1, 2, 3, 4, 0] rfl ?_
  refine s_aload_n X 0 dX10_bringNow_28 rfl rfl ?_
  refine s_iload_n X 1 dX10_bringNow_29 rfl rfl ?_
  obtain ⟨M19, hc18, hf⟩ := pk_obd hf
  refine s_callV X (ci := 10) (k_X10_takeLetter G hc18) rfl h1 wd1739 wd1741 wd75 wd1742 wd138 cd_X10_takeLetter ⟨Nat.le_of_ble_eq_true rfl, Nat.le_of_ble_eq_true rfl⟩ (Nat.le_of_ble_eq_true rfl) dX10_bringNow_30 ?_
  refine s_aload_n X 0 dX10_bringNow_33 rfl rfl ?_
  refine s_iload_n X 2 dX10_bringNow_34 rfl rfl ?_
  obtain ⟨r21, hc20, hf⟩ := pk_obd hf
  refine s_callS X (k_X10_kindOf G hc20) wd1743 wd1744 wd1745 wd138 cd_X10_kindOf ⟨Nat.le_of_ble_eq_true rfl, Nat.le_of_ble_eq_true rfl⟩ (Nat.le_of_ble_eq_true rfl) dX10_bringNow_35 ?_
  refine s_iload_n X 3 dX10_bringNow_38 rfl rfl ?_
  refine s_iload X 4 dX10_bringNow_39 rfl ?_
  refine s_iload_n X 2 dX10_bringNow_41 rfl rfl ?_
  obtain ⟨r23, hc22, hf⟩ := pk_obd hf
  refine s_callS X (k_X10_stampOf G hc22) wd1746 wd1747 wd1748 wd138 cd_X10_stampOf ⟨Nat.le_of_ble_eq_true rfl, Nat.le_of_ble_eq_true rfl⟩ (Nat.le_of_ble_eq_true rfl) dX10_bringNow_42 ?_
  obtain ⟨h24, hf⟩ := pk_chk hf
  obtain ⟨M26, hc25, hf⟩ := pk_obd hf
  refine s_callV X (ci := 10) (k_X10_writeTrace G hc25) rfl h24 wd1749 wd1751 wd76 wd1752 wd138 cd_X10_writeTrace ⟨Nat.le_of_ble_eq_true rfl, Nat.le_of_ble_eq_true rfl⟩ (Nat.le_of_ble_eq_true rfl) dX10_bringNow_45 ?_
  refine s_aload_n X 0 dX10_bringNow_48 rfl rfl ?_
  refine s_iload_n X 2 dX10_bringNow_49 rfl rfl ?_
  obtain ⟨r28, hc27, hf⟩ := pk_obd hf
  refine s_callS X (k_X10_kindOf G hc27) wd1743 wd1744 wd1745 wd138 cd_X10_kindOf ⟨Nat.le_of_ble_eq_true rfl, Nat.le_of_ble_eq_true rfl⟩ (Nat.le_of_ble_eq_true rfl) dX10_bringNow_50 ?_
  refine s_iload_n X 3 dX10_bringNow_53 rfl rfl ?_
  refine s_iload X 4 dX10_bringNow_54 rfl ?_
  refine s_iload_n X 2 dX10_bringNow_56 rfl rfl ?_
  obtain ⟨r30, hc29, hf⟩ := pk_obd hf
  refine s_callS X (k_X10_stampOf G hc29) wd1746 wd1747 wd1748 wd138 cd_X10_stampOf ⟨Nat.le_of_ble_eq_true rfl, Nat.le_of_ble_eq_true rfl⟩ (Nat.le_of_ble_eq_true rfl) dX10_bringNow_57 ?_
  obtain ⟨h31, hf⟩ := pk_chk hf
  obtain ⟨M33, hc32, hf⟩ := pk_obd hf
  refine s_callV X (ci := 10) (k_X10_read G hc32) rfl h31 wd1753 wd1755 wd77 wd1756 wd138 cd_X10_read ⟨Nat.le_of_ble_eq_true rfl, Nat.le_of_ble_eq_true rfl⟩ (Nat.le_of_ble_eq_true rfl) dX10_bringNow_60 ?_
  refine s_iload_n X 2 dX10_bringNow_63 rfl rfl ?_
  obtain ⟨r35, hc34, hf⟩ := pk_obd hf
  refine s_callS X (k_X10_kindOf G hc34) wd1743 wd1744 wd1745 wd138 cd_X10_kindOf ⟨Nat.le_of_ble_eq_true rfl, Nat.le_of_ble_eq_true rfl⟩ (Nat.le_of_ble_eq_true rfl) dX10_bringNow_64 ?_
  cases hf
  exact s_iret X hr hlk dX10_bringNow_67
theorem dX10_bring_0 : decode cX10_bring 0 = .ok (.aload_n 0, 1) := dk_42 (by decide +kernel)
theorem dX10_bring_1 : decode cX10_bring 1 = .ok (.iload_n 1, 1) := dk_27 (by decide +kernel)
theorem dX10_bring_2 : decode cX10_bring 2 = .ok (.invokevirtual 76, 3) := dk_182 (x := 0) (y := 76) (by decide +kernel) rfl
theorem dX10_bring_5 : decode cX10_bring 5 = .ok (.ifCond .eq 20, 3) := dk_153 (x := 0) (y := 20) (by decide +kernel) rfl
theorem dX10_bring_8 : decode cX10_bring 8 = .ok (.aload_n 0, 1) := dk_42 (by decide +kernel)
theorem dX10_bring_9 : decode cX10_bring 9 = .ok (.iload_n 2, 1) := dk_28 (by decide +kernel)
theorem dX10_bring_10 : decode cX10_bring 10 = .ok (.invokevirtual 76, 3) := dk_182 (x := 0) (y := 76) (by decide +kernel) rfl
theorem dX10_bring_13 : decode cX10_bring 13 = .ok (.ifCond .eq 12, 3) := dk_153 (x := 0) (y := 12) (by decide +kernel) rfl
theorem dX10_bring_16 : decode cX10_bring 16 = .ok (.aload_n 0, 1) := dk_42 (by decide +kernel)
theorem dX10_bring_17 : decode cX10_bring 17 = .ok (.iload_n 1, 1) := dk_27 (by decide +kernel)
theorem dX10_bring_18 : decode cX10_bring 18 = .ok (.iload_n 2, 1) := dk_28 (by decide +kernel)
theorem dX10_bring_19 : decode cX10_bring 19 = .ok (.invokevirtual 253, 3) := dk_182 (x := 0) (y := 253) (by decide +kernel) rfl
theorem dX10_bring_22 : decode cX10_bring 22 = .ok (.goto 4, 3) := dk_167 (x := 0) (y := 4) (by decide +kernel) rfl
theorem dX10_bring_25 : decode cX10_bring 25 = .ok (.iconst (-1), 1) := dk_2 (by decide +kernel)
theorem dX10_bring_26 : decode cX10_bring 26 = .ok (.istore_n 3, 1) := dk_62 (by decide +kernel)
theorem dX10_bring_27 : decode cX10_bring 27 = .ok (.iload_n 3, 1) := dk_29 (by decide +kernel)
theorem dX10_bring_28 : decode cX10_bring 28 = .ok (.iconst (-1), 1) := dk_2 (by decide +kernel)
theorem dX10_bring_29 : decode cX10_bring 29 = .ok (.if_icmp .ne 7, 3) := dk_160 (x := 0) (y := 7) (by decide +kernel) rfl
theorem dX10_bring_32 : decode cX10_bring 32 = .ok (.iconst (-1), 1) := dk_2 (by decide +kernel)
theorem dX10_bring_33 : decode cX10_bring 33 = .ok (.goto 8, 3) := dk_167 (x := 0) (y := 8) (by decide +kernel) rfl
theorem dX10_bring_36 : decode cX10_bring 36 = .ok (.aload_n 0, 1) := dk_42 (by decide +kernel)
theorem dX10_bring_37 : decode cX10_bring 37 = .ok (.iload_n 3, 1) := dk_29 (by decide +kernel)
theorem dX10_bring_38 : decode cX10_bring 38 = .ok (.invokevirtual 256, 3) := dk_182 (x := 1) (y := 0) (by decide +kernel) rfl
theorem dX10_bring_41 : decode cX10_bring 41 = .ok (.ireturn, 1) := dk_172 (by decide +kernel)
def f_X10_bring_26 (n : Nat) (v0 : Nat) (u0 : Int32) (M : Mem) : Option (Int32 × Mem) :=
    if u0 = (-1 : Int32) then (
      some ((-1 : Int32), M)
      ) else (
      chk (isO M 10 v0) <|
      obd2 (f_X10_bringNow n v0 u0 M) fun r5 M6 =>
      some (r5, M6)
      )
def f_X10_bring (n : Nat) (o : Nat) (a1 : Int32) (a2 : Int32) (M : Mem) : Option (Int32 × Mem) :=
  chk (isO M 10 o) <|
  obd (f_X10_isNode o a1 M) fun r3 =>
  if r3 = 0 then (
    f_X10_bring_26 n o (-1 : Int32) M
    ) else (
    obd (f_X10_isNode o a2 M) fun r7 =>
    if r7 = 0 then (
      f_X10_bring_26 n o (-1 : Int32) M
      ) else (
      obd (f_X10_letterAt n o a1 a2 M) fun r11 =>
      f_X10_bring_26 n o r11 M
      )
    )
theorem cd_X10_bring : (yX10_bring.cls ≠ "java/lang/invoke/MethodHandle" ∧ yX10_bring.cls ≠ "java/lang/invoke/VarHandle") ∧ (parseMethodDescriptor yX10_bring.desc).map (fun d => d.parameters.length) = some 2 := ⟨⟨by decide +kernel, by decide +kernel⟩, by decide +kernel⟩
section
variable {p : Program} {l : Launch} {e : Env} {R : Room} {s : State} {m : MethodId} {args : Array Value} {below : List Frame} {meth : Method} {c : Code} {G : Gam} {M0 : Mem}
theorem l_X10_bring_26 {rv : (Int32 × Mem)} {n : Nat} {v0 : Nat} {u0 : Int32} {M : Mem} (X : Cx p R s m args c G M0 cX10_bring yX10_bring.cls 4 6 144) (hr : meth.sig.returnType = (some .int)) (hlk : meth.locks = false) (hnm : meth.name = "bring") (hf : f_X10_bring_26 n v0 u0 M = some rv) : Sg p l e R s m args below meth c (Qm below G args s (some (.int rv.1)) M0 rv.2) G M0 4 26 [(0, .ref (gB G + v0))] [.int u0] M := by
  rw [f_X10_bring_26] at hf
  refine s_istore_n X (vs' := [(0, .ref (gB G + v0)), (3, .int u0)]) dX10_bring_26 rfl (Nat.le_of_ble_eq_true rfl) [1, 0] rfl ?_
  refine s_iload_n X 1 dX10_bring_27 rfl rfl ?_
  refine s_iconst X (v := (-1 : Int32)) dX10_bring_28 rfl ?_
  have hs1 := pk_ite hf
  clear hf
  refine s_icmp_ne X (tgt := 36) dX10_bring_29 rfl (fun c2 => ?_) (fun c2 => ?_)
  · have hf := hs1.2 c2
    refine s_aload_n X 0 dX10_bring_36 rfl rfl ?_
    refine s_iload_n X 1 dX10_bring_37 rfl rfl ?_
    obtain ⟨h3, hf⟩ := pk_chk hf
    obtain ⟨r5, M6, hc4, hf⟩ := pk_obd2 hf
    refine s_callV X (ci := 10) (k_X10_bringNow G hc4) rfl h3 wd1735 wd1737 wd74 wd1738 wd138 cd_X10_bringNow ⟨Nat.le_of_ble_eq_true rfl, Nat.le_of_ble_eq_true rfl⟩ (Nat.le_of_ble_eq_true rfl) dX10_bring_38 ?_
    cases hf
    exact s_iret X hr hlk dX10_bring_41
  · have hf := hs1.1 c2
    refine s_iconst X (v := (-1 : Int32)) dX10_bring_32 rfl ?_
    refine s_goto X (tgt := 41) dX10_bring_33 rfl ?_
    cases hf
    exact s_iret X hr hlk dX10_bring_41
end
theorem k_X10_bring (G : Gam) {n : Nat} {o : Nat} {a1 : Int32} {a2 : Int32} {M : Mem} {rv : (Int32 × Mem)} (hf : f_X10_bring n o a1 a2 M = some rv) : Kt yX10_bring cX10_bring 4 (some .int) 6 144 G [.ref (gB G + o), .int a1, .int a2] M rv.2 (some (.int rv.1)) := by
  refine Kt.of (by decide) (Nat.le_of_ble_eq_true rfl) ?_
  intro p l e R s m args below meth c X hr hlk hnm
  refine s_drop [0, 1, 2] (vs' := [(0, .ref (gB G + o)), (1, .int a1), (2, .int a2)]) rfl ?_
  rw [f_X10_bring] at hf
  refine s_aload_n X 0 dX10_bring_0 rfl rfl ?_
  refine s_iload_n X 1 dX10_bring_1 rfl rfl ?_
  obtain ⟨h1, hf⟩ := pk_chk hf
  obtain ⟨r3, hc2, hf⟩ := pk_obd hf
  refine s_callV X (ci := 10) (k_X10_isNode G hc2) rfl h1 wd1554 wd1556 wd53 wd1557 wd138 cd_X10_isNode ⟨Nat.le_of_ble_eq_true rfl, Nat.le_of_ble_eq_true rfl⟩ (Nat.le_of_ble_eq_true rfl) dX10_bring_2 ?_
  have hs4 := pk_ite hf
  clear hf
  refine s_if_eq X (tgt := 25) dX10_bring_5 rfl (fun c5 => ?_) (fun c5 => ?_)
  · have hf := hs4.1 c5
    refine s_iconst X (v := (-1 : Int32)) dX10_bring_25 rfl ?_
    refine s_drop [0] (vs' := [(0, .ref (gB G + o))]) rfl ?_
    exact l_X10_bring_26 X hr hlk hnm hf
  · have hf := hs4.2 c5
    refine s_aload_n X 0 dX10_bring_8 rfl rfl ?_
    refine s_iload_n X 2 dX10_bring_9 rfl rfl ?_
    obtain ⟨r7, hc6, hf⟩ := pk_obd hf
    refine s_callV X (ci := 10) (k_X10_isNode G hc6) rfl h1 wd1554 wd1556 wd53 wd1557 wd138 cd_X10_isNode ⟨Nat.le_of_ble_eq_true rfl, Nat.le_of_ble_eq_true rfl⟩ (Nat.le_of_ble_eq_true rfl) dX10_bring_10 ?_
    have hs8 := pk_ite hf
    clear hf
    refine s_if_eq X (tgt := 25) dX10_bring_13 rfl (fun c9 => ?_) (fun c9 => ?_)
    · have hf := hs8.1 c9
      refine s_iconst X (v := (-1 : Int32)) dX10_bring_25 rfl ?_
      refine s_drop [0] (vs' := [(0, .ref (gB G + o))]) rfl ?_
      exact l_X10_bring_26 X hr hlk hnm hf
    · have hf := hs8.2 c9
      refine s_aload_n X 0 dX10_bring_16 rfl rfl ?_
      refine s_iload_n X 1 dX10_bring_17 rfl rfl ?_
      refine s_iload_n X 2 dX10_bring_18 rfl rfl ?_
      obtain ⟨r11, hc10, hf⟩ := pk_obd hf
      refine s_callV X (ci := 10) (k_X10_letterAt G hc10) rfl h1 wd1731 wd1733 wd73 wd1734 wd138 cd_X10_letterAt ⟨Nat.le_of_ble_eq_true rfl, Nat.le_of_ble_eq_true rfl⟩ (Nat.le_of_ble_eq_true rfl) dX10_bring_19 ?_
      refine s_goto X (tgt := 26) dX10_bring_22 rfl ?_
      refine s_drop [0] (vs' := [(0, .ref (gB G + o))]) rfl ?_
      exact l_X10_bring_26 X hr hlk hnm hf
theorem dX9_withdraw_0 : decode cX9_withdraw 0 = .ok (.aload_n 0, 1) := dk_42 (by decide +kernel)
theorem dX9_withdraw_1 : decode cX9_withdraw 1 = .ok (.getfield 10, 3) := dk_180 (x := 0) (y := 10) (by decide +kernel) rfl
theorem dX9_withdraw_4 : decode cX9_withdraw 4 = .ok (.iload_n 1, 1) := dk_27 (by decide +kernel)
theorem dX9_withdraw_5 : decode cX9_withdraw 5 = .ok (.invokevirtual 71, 3) := dk_182 (x := 0) (y := 71) (by decide +kernel) rfl
theorem dX9_withdraw_8 : decode cX9_withdraw 8 = .ok (.ifCond .eq 17, 3) := dk_153 (x := 0) (y := 17) (by decide +kernel) rfl
theorem dX9_withdraw_11 : decode cX9_withdraw 11 = .ok (.aload_n 0, 1) := dk_42 (by decide +kernel)
theorem dX9_withdraw_12 : decode cX9_withdraw 12 = .ok (.getfield 28, 3) := dk_180 (x := 0) (y := 28) (by decide +kernel) rfl
theorem dX9_withdraw_15 : decode cX9_withdraw 15 = .ok (.getfield 191, 3) := dk_180 (x := 0) (y := 191) (by decide +kernel) rfl
theorem dX9_withdraw_18 : decode cX9_withdraw 18 = .ok (.iload_n 1, 1) := dk_27 (by decide +kernel)
theorem dX9_withdraw_19 : decode cX9_withdraw 19 = .ok (.invokestatic 180, 3) := dk_184 (x := 0) (y := 180) (by decide +kernel) rfl
theorem dX9_withdraw_22 : decode cX9_withdraw 22 = .ok (.ifCond .ne 5, 3) := dk_154 (x := 0) (y := 5) (by decide +kernel) rfl
theorem dX9_withdraw_25 : decode cX9_withdraw 25 = .ok (.iconst 0, 1) := dk_3 (by decide +kernel)
theorem dX9_withdraw_26 : decode cX9_withdraw 26 = .ok (.ireturn, 1) := dk_172 (by decide +kernel)
theorem dX9_withdraw_27 : decode cX9_withdraw 27 = .ok (.aload_n 0, 1) := dk_42 (by decide +kernel)
theorem dX9_withdraw_28 : decode cX9_withdraw 28 = .ok (.getfield 28, 3) := dk_180 (x := 0) (y := 28) (by decide +kernel) rfl
theorem dX9_withdraw_31 : decode cX9_withdraw 31 = .ok (.iload_n 1, 1) := dk_27 (by decide +kernel)
theorem dX9_withdraw_32 : decode cX9_withdraw 32 = .ok (.invokevirtual 184, 3) := dk_182 (x := 0) (y := 184) (by decide +kernel) rfl
theorem dX9_withdraw_35 : decode cX9_withdraw 35 = .ok (.iconst 1, 1) := dk_4 (by decide +kernel)
theorem dX9_withdraw_36 : decode cX9_withdraw 36 = .ok (.ireturn, 1) := dk_172 (by decide +kernel)
def f_X9_withdraw (n : Nat) (o : Nat) (a1 : Int32) (M : Mem) : Option (Int32 × Mem) :=
  chk (isO M 9 o) <|
  bnd (mR M o 0) fun o2 =>
  chk (isO M 7 o2) <|
  obd (f_X7_isNode o2 a1 M) fun r6 =>
  if r6 = 0 then (
    some ((0 : Int32), M)
    ) else (
    bnd (mR M o 2) fun o9 =>
    chk (isO M 2 o9) <|
    obd (f_X9_has (mI M o9 8) a1 M) fun r13 =>
    if r13 = 0 then (
      some ((0 : Int32), M)
      ) else (
      bnd (mR M o 2) fun o16 =>
      chk (isO M 2 o16) <|
      obd (f_X2_finish n o16 a1 M) fun M20 =>
      some ((1 : Int32), M20)
      )
    )
theorem cd_X9_withdraw : (yX9_withdraw.cls ≠ "java/lang/invoke/MethodHandle" ∧ yX9_withdraw.cls ≠ "java/lang/invoke/VarHandle") ∧ (parseMethodDescriptor yX9_withdraw.desc).map (fun d => d.parameters.length) = some 1 := ⟨⟨by decide +kernel, by decide +kernel⟩, by decide +kernel⟩
theorem k_X9_withdraw (G : Gam) {n : Nat} {o : Nat} {a1 : Int32} {M : Mem} {rv : (Int32 × Mem)} (hf : f_X9_withdraw n o a1 M = some rv) : Kt yX9_withdraw cX9_withdraw 2 (some .boolean) 5 121 G [.ref (gB G + o), .int a1] M rv.2 (some (.int rv.1)) := by
  refine Kt.of (by decide) (Nat.le_of_ble_eq_true rfl) ?_
  intro p l e R s m args below meth c X hr hlk hnm
  refine s_drop [0, 1] (vs' := [(0, .ref (gB G + o)), (1, .int a1)]) rfl ?_
  rw [f_X9_withdraw] at hf
  refine s_aload_n X 0 dX9_withdraw_0 rfl rfl ?_
  obtain ⟨h1, hf⟩ := pk_chk hf
  obtain ⟨o2, e3, hf⟩ := pk_bnd hf
  obtain ⟨h4, hf⟩ := pk_chk hf
  refine s_getR X (ci := 9) (k := 0) rfl (Nat.le_of_ble_eq_true rfl) h1 wd627 (fun _ _ _ => rfl) (e3 ▸ h4) dX9_withdraw_1 (e3 ▸ ?_)
  refine s_iload_n X 1 dX9_withdraw_4 rfl rfl ?_
  obtain ⟨r6, hc5, hf⟩ := pk_obd hf
  refine s_callV X (ci := 7) (k_X7_isNode G hc5) rfl h4 wd699 wd700 wd701 wd702 wd127 cd_X7_isNode ⟨Nat.le_of_ble_eq_true rfl, Nat.le_of_ble_eq_true rfl⟩ (Nat.le_of_ble_eq_true rfl) dX9_withdraw_5 ?_
  have hs7 := pk_ite hf
  clear hf
  refine s_if_eq X (tgt := 25) dX9_withdraw_8 rfl (fun c8 => ?_) (fun c8 => ?_)
  · have hf := hs7.1 c8
    refine s_iconst X (v := (0 : Int32)) dX9_withdraw_25 rfl ?_
    cases hf
    exact s_zret X hr (bz_n (Or.inl rfl)) hlk dX9_withdraw_26
  · have hf := hs7.2 c8
    refine s_aload_n X 0 dX9_withdraw_11 rfl rfl ?_
    obtain ⟨o9, e10, hf⟩ := pk_bnd hf
    obtain ⟨h11, hf⟩ := pk_chk hf
    refine s_getR X (ci := 9) (k := 2) rfl (Nat.le_of_ble_eq_true rfl) h1 wd629 (fun _ _ _ => rfl) (e10 ▸ h11) dX9_withdraw_12 (e10 ▸ ?_)
    refine s_getI X (ci := 2) (k := 8) rfl (Nat.le_of_ble_eq_true rfl) h11 wd440 (fun _ _ _ => rfl) dX9_withdraw_15 ?_
    refine s_iload_n X 1 dX9_withdraw_18 rfl rfl ?_
    obtain ⟨r13, hc12, hf⟩ := pk_obd hf
    refine s_callS X (k_X9_has G hc12) wd966 wd712 wd713 wd126 cd_X9_has ⟨Nat.le_of_ble_eq_true rfl, Nat.le_of_ble_eq_true rfl⟩ (Nat.le_of_ble_eq_true rfl) dX9_withdraw_19 ?_
    have hs14 := pk_ite hf
    clear hf
    refine s_if_ne X (tgt := 27) dX9_withdraw_22 rfl (fun c15 => ?_) (fun c15 => ?_)
    · have hf := hs14.2 c15
      refine s_aload_n X 0 dX9_withdraw_27 rfl rfl ?_
      obtain ⟨o16, e17, hf⟩ := pk_bnd hf
      obtain ⟨h18, hf⟩ := pk_chk hf
      refine s_getR X (ci := 9) (k := 2) rfl (Nat.le_of_ble_eq_true rfl) h1 wd629 (fun _ _ _ => rfl) (e17 ▸ h18) dX9_withdraw_28 (e17 ▸ ?_)
      refine s_iload_n X 1 dX9_withdraw_31 rfl rfl ?_
      obtain ⟨M20, hc19, hf⟩ := pk_obd hf
      refine s_callV X (ci := 2) (k_X2_finish G hc19) rfl h18 wd967 wd968 wd969 wd970 wd130 cd_X2_finish ⟨Nat.le_of_ble_eq_true rfl, Nat.le_of_ble_eq_true rfl⟩ (Nat.le_of_ble_eq_true rfl) dX9_withdraw_32 ?_
      refine s_iconst X (v := (1 : Int32)) dX9_withdraw_35 rfl ?_
      cases hf
      exact s_zret X hr (bz_n (Or.inr rfl)) hlk dX9_withdraw_36
    · have hf := hs14.1 c15
      refine s_iconst X (v := (0 : Int32)) dX9_withdraw_25 rfl ?_
      cases hf
      exact s_zret X hr (bz_n (Or.inl rfl)) hlk dX9_withdraw_26
