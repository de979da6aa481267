theorem dX10_wholeBy_0 : decode cX10_wholeBy 0 = .ok (.aload_n 0, 1) := dk_42 (by decide +kernel)
theorem dX10_wholeBy_1 : decode cX10_wholeBy 1 = .ok (.getfield 7, 3) := dk_180 (x := 0) (y := 7) (by decide +kernel) rfl
theorem dX10_wholeBy_4 : decode cX10_wholeBy 4 = .ok (.iconst 0, 1) := dk_3 (by decide +kernel)
theorem dX10_wholeBy_5 : decode cX10_wholeBy 5 = .ok (.iaload, 1) := dk_46 (by decide +kernel)
theorem dX10_wholeBy_6 : decode cX10_wholeBy 6 = .ok (.iconst 1, 1) := dk_4 (by decide +kernel)
theorem dX10_wholeBy_7 : decode cX10_wholeBy 7 = .ok (.isub, 1) := dk_100 (by decide +kernel)
theorem dX10_wholeBy_8 : decode cX10_wholeBy 8 = .ok (.istore_n 2, 1) := dk_61 (by decide +kernel)
theorem dX10_wholeBy_9 : decode cX10_wholeBy 9 = .ok (.iload_n 2, 1) := dk_28 (by decide +kernel)
theorem dX10_wholeBy_10 : decode cX10_wholeBy 10 = .ok (.ifCond .lt 156, 3) := dk_155 (x := 0) (y := 156) (by decide +kernel) rfl
theorem dX10_wholeBy_13 : decode cX10_wholeBy 13 = .ok (.iconst 2, 1) := dk_5 (by decide +kernel)
theorem dX10_wholeBy_14 : decode cX10_wholeBy 14 = .ok (.iload_n 2, 1) := dk_28 (by decide +kernel)
theorem dX10_wholeBy_15 : decode cX10_wholeBy 15 = .ok (.imul, 1) := dk_104 (by decide +kernel)
theorem dX10_wholeBy_16 : decode cX10_wholeBy 16 = .ok (.iconst 1, 1) := dk_4 (by decide +kernel)
theorem dX10_wholeBy_17 : decode cX10_wholeBy 17 = .ok (.iadd, 1) := dk_96 (by decide +kernel)
theorem dX10_wholeBy_18 : decode cX10_wholeBy 18 = .ok (.aload_n 0, 1) := dk_42 (by decide +kernel)
theorem dX10_wholeBy_19 : decode cX10_wholeBy 19 = .ok (.getfield 7, 3) := dk_180 (x := 0) (y := 7) (by decide +kernel) rfl
theorem dX10_wholeBy_22 : decode cX10_wholeBy 22 = .ok (.iconst 0, 1) := dk_3 (by decide +kernel)
theorem dX10_wholeBy_23 : decode cX10_wholeBy 23 = .ok (.iaload, 1) := dk_46 (by decide +kernel)
theorem dX10_wholeBy_24 : decode cX10_wholeBy 24 = .ok (.if_icmp .lt 7, 3) := dk_161 (x := 0) (y := 7) (by decide +kernel) rfl
theorem dX10_wholeBy_27 : decode cX10_wholeBy 27 = .ok (.iconst 1, 1) := dk_4 (by decide +kernel)
theorem dX10_wholeBy_28 : decode cX10_wholeBy 28 = .ok (.goto 4, 3) := dk_167 (x := 0) (y := 4) (by decide +kernel) rfl
theorem dX10_wholeBy_31 : decode cX10_wholeBy 31 = .ok (.iconst 0, 1) := dk_3 (by decide +kernel)
theorem dX10_wholeBy_32 : decode cX10_wholeBy 32 = .ok (.istore_n 3, 1) := dk_62 (by decide +kernel)
theorem dX10_wholeBy_33 : decode cX10_wholeBy 33 = .ok (.iload_n 3, 1) := dk_29 (by decide +kernel)
theorem dX10_wholeBy_34 : decode cX10_wholeBy 34 = .ok (.ifCond .eq 7, 3) := dk_153 (x := 0) (y := 7) (by decide +kernel) rfl
theorem dX10_wholeBy_37 : decode cX10_wholeBy 37 = .ok (.iconst 0, 1) := dk_3 (by decide +kernel)
theorem dX10_wholeBy_38 : decode cX10_wholeBy 38 = .ok (.goto 13, 3) := dk_167 (x := 0) (y := 13) (by decide +kernel) rfl
theorem dX10_wholeBy_41 : decode cX10_wholeBy 41 = .ok (.aload_n 0, 1) := dk_42 (by decide +kernel)
theorem dX10_wholeBy_42 : decode cX10_wholeBy 42 = .ok (.getfield 13, 3) := dk_180 (x := 0) (y := 13) (by decide +kernel) rfl
theorem dX10_wholeBy_45 : decode cX10_wholeBy 45 = .ok (.iconst 2, 1) := dk_5 (by decide +kernel)
theorem dX10_wholeBy_46 : decode cX10_wholeBy 46 = .ok (.iload_n 2, 1) := dk_28 (by decide +kernel)
theorem dX10_wholeBy_47 : decode cX10_wholeBy 47 = .ok (.imul, 1) := dk_104 (by decide +kernel)
theorem dX10_wholeBy_48 : decode cX10_wholeBy 48 = .ok (.iconst 1, 1) := dk_4 (by decide +kernel)
theorem dX10_wholeBy_49 : decode cX10_wholeBy 49 = .ok (.iadd, 1) := dk_96 (by decide +kernel)
theorem dX10_wholeBy_50 : decode cX10_wholeBy 50 = .ok (.iaload, 1) := dk_46 (by decide +kernel)
theorem dX10_wholeBy_51 : decode cX10_wholeBy 51 = .ok (.istore 4, 2) := dk_54 (x := 4) (by decide +kernel)
theorem dX10_wholeBy_53 : decode cX10_wholeBy 53 = .ok (.iload_n 3, 1) := dk_29 (by decide +kernel)
theorem dX10_wholeBy_54 : decode cX10_wholeBy 54 = .ok (.ifCond .eq 7, 3) := dk_153 (x := 0) (y := 7) (by decide +kernel) rfl
theorem dX10_wholeBy_57 : decode cX10_wholeBy 57 = .ok (.iconst 0, 1) := dk_3 (by decide +kernel)
theorem dX10_wholeBy_58 : decode cX10_wholeBy 58 = .ok (.goto 13, 3) := dk_167 (x := 0) (y := 13) (by decide +kernel) rfl
theorem dX10_wholeBy_61 : decode cX10_wholeBy 61 = .ok (.aload_n 0, 1) := dk_42 (by decide +kernel)
theorem dX10_wholeBy_62 : decode cX10_wholeBy 62 = .ok (.getfield 13, 3) := dk_180 (x := 0) (y := 13) (by decide +kernel) rfl
theorem dX10_wholeBy_65 : decode cX10_wholeBy 65 = .ok (.iconst 2, 1) := dk_5 (by decide +kernel)
theorem dX10_wholeBy_66 : decode cX10_wholeBy 66 = .ok (.iload_n 2, 1) := dk_28 (by decide +kernel)
theorem dX10_wholeBy_67 : decode cX10_wholeBy 67 = .ok (.imul, 1) := dk_104 (by decide +kernel)
theorem dX10_wholeBy_68 : decode cX10_wholeBy 68 = .ok (.iconst 2, 1) := dk_5 (by decide +kernel)
theorem dX10_wholeBy_69 : decode cX10_wholeBy 69 = .ok (.iadd, 1) := dk_96 (by decide +kernel)
theorem dX10_wholeBy_70 : decode cX10_wholeBy 70 = .ok (.iaload, 1) := dk_46 (by decide +kernel)
theorem dX10_wholeBy_71 : decode cX10_wholeBy 71 = .ok (.istore 5, 2) := dk_54 (x := 5) (by decide +kernel)
theorem dX10_wholeBy_73 : decode cX10_wholeBy 73 = .ok (.iload_n 1, 1) := dk_27 (by decide +kernel)
theorem dX10_wholeBy_74 : decode cX10_wholeBy 74 = .ok (.iload_n 2, 1) := dk_28 (by decide +kernel)
theorem dX10_wholeBy_75 : decode cX10_wholeBy 75 = .ok (.invokestatic 45, 3) := dk_184 (x := 0) (y := 45) (by decide +kernel) rfl
theorem dX10_wholeBy_78 : decode cX10_wholeBy 78 = .ok (.ifCond .eq 31, 3) := dk_153 (x := 0) (y := 31) (by decide +kernel) rfl
theorem dX10_wholeBy_81 : decode cX10_wholeBy 81 = .ok (.aload_n 0, 1) := dk_42 (by decide +kernel)
theorem dX10_wholeBy_82 : decode cX10_wholeBy 82 = .ok (.getfield 13, 3) := dk_180 (x := 0) (y := 13) (by decide +kernel) rfl
theorem dX10_wholeBy_85 : decode cX10_wholeBy 85 = .ok (.iload_n 2, 1) := dk_28 (by decide +kernel)
theorem dX10_wholeBy_86 : decode cX10_wholeBy 86 = .ok (.iload 4, 2) := dk_21 (x := 4) (by decide +kernel)
theorem dX10_wholeBy_88 : decode cX10_wholeBy 88 = .ok (.ifCond .eq 16, 3) := dk_153 (x := 0) (y := 16) (by decide +kernel) rfl
theorem dX10_wholeBy_91 : decode cX10_wholeBy 91 = .ok (.iload 5, 2) := dk_21 (x := 5) (by decide +kernel)
theorem dX10_wholeBy_93 : decode cX10_wholeBy 93 = .ok (.ifCond .eq 11, 3) := dk_153 (x := 0) (y := 11) (by decide +kernel) rfl
theorem dX10_wholeBy_96 : decode cX10_wholeBy 96 = .ok (.iload 4, 2) := dk_21 (x := 4) (by decide +kernel)
theorem dX10_wholeBy_98 : decode cX10_wholeBy 98 = .ok (.iload 5, 2) := dk_21 (x := 5) (by decide +kernel)
theorem dX10_wholeBy_100 : decode cX10_wholeBy 100 = .ok (.ior, 1) := dk_128 (by decide +kernel)
theorem dX10_wholeBy_101 : decode cX10_wholeBy 101 = .ok (.goto 4, 3) := dk_167 (x := 0) (y := 4) (by decide +kernel) rfl
theorem dX10_wholeBy_104 : decode cX10_wholeBy 104 = .ok (.iconst 0, 1) := dk_3 (by decide +kernel)
theorem dX10_wholeBy_105 : decode cX10_wholeBy 105 = .ok (.iastore, 1) := dk_79 (by decide +kernel)
theorem dX10_wholeBy_106 : decode cX10_wholeBy 106 = .ok (.goto 54, 3) := dk_167 (x := 0) (y := 54) (by decide +kernel) rfl
theorem dX10_wholeBy_109 : decode cX10_wholeBy 109 = .ok (.iload_n 3, 1) := dk_29 (by decide +kernel)
theorem dX10_wholeBy_110 : decode cX10_wholeBy 110 = .ok (.ifCond .eq 15, 3) := dk_153 (x := 0) (y := 15) (by decide +kernel) rfl
theorem dX10_wholeBy_113 : decode cX10_wholeBy 113 = .ok (.aload_n 0, 1) := dk_42 (by decide +kernel)
theorem dX10_wholeBy_114 : decode cX10_wholeBy 114 = .ok (.getfield 13, 3) := dk_180 (x := 0) (y := 13) (by decide +kernel) rfl
theorem dX10_wholeBy_117 : decode cX10_wholeBy 117 = .ok (.iload_n 2, 1) := dk_28 (by decide +kernel)
theorem dX10_wholeBy_118 : decode cX10_wholeBy 118 = .ok (.iconst 1, 1) := dk_4 (by decide +kernel)
theorem dX10_wholeBy_119 : decode cX10_wholeBy 119 = .ok (.iload_n 2, 1) := dk_28 (by decide +kernel)
theorem dX10_wholeBy_120 : decode cX10_wholeBy 120 = .ok (.ishl, 1) := dk_120 (by decide +kernel)
theorem dX10_wholeBy_121 : decode cX10_wholeBy 121 = .ok (.iastore, 1) := dk_79 (by decide +kernel)
theorem dX10_wholeBy_122 : decode cX10_wholeBy 122 = .ok (.goto 38, 3) := dk_167 (x := 0) (y := 38) (by decide +kernel) rfl
theorem dX10_wholeBy_125 : decode cX10_wholeBy 125 = .ok (.aload_n 0, 1) := dk_42 (by decide +kernel)
theorem dX10_wholeBy_126 : decode cX10_wholeBy 126 = .ok (.getfield 13, 3) := dk_180 (x := 0) (y := 13) (by decide +kernel) rfl
theorem dX10_wholeBy_129 : decode cX10_wholeBy 129 = .ok (.iload_n 2, 1) := dk_28 (by decide +kernel)
theorem dX10_wholeBy_130 : decode cX10_wholeBy 130 = .ok (.iload 4, 2) := dk_21 (x := 4) (by decide +kernel)
theorem dX10_wholeBy_132 : decode cX10_wholeBy 132 = .ok (.ifCond .eq 12, 3) := dk_153 (x := 0) (y := 12) (by decide +kernel) rfl
theorem dX10_wholeBy_135 : decode cX10_wholeBy 135 = .ok (.iload 4, 2) := dk_21 (x := 4) (by decide +kernel)
theorem dX10_wholeBy_137 : decode cX10_wholeBy 137 = .ok (.iconst 1, 1) := dk_4 (by decide +kernel)
theorem dX10_wholeBy_138 : decode cX10_wholeBy 138 = .ok (.iload_n 2, 1) := dk_28 (by decide +kernel)
theorem dX10_wholeBy_139 : decode cX10_wholeBy 139 = .ok (.ishl, 1) := dk_120 (by decide +kernel)
theorem dX10_wholeBy_140 : decode cX10_wholeBy 140 = .ok (.ior, 1) := dk_128 (by decide +kernel)
theorem dX10_wholeBy_141 : decode cX10_wholeBy 141 = .ok (.goto 18, 3) := dk_167 (x := 0) (y := 18) (by decide +kernel) rfl
theorem dX10_wholeBy_144 : decode cX10_wholeBy 144 = .ok (.iload 5, 2) := dk_21 (x := 5) (by decide +kernel)
theorem dX10_wholeBy_146 : decode cX10_wholeBy 146 = .ok (.ifCond .eq 12, 3) := dk_153 (x := 0) (y := 12) (by decide +kernel) rfl
theorem dX10_wholeBy_149 : decode cX10_wholeBy 149 = .ok (.iload 5, 2) := dk_21 (x := 5) (by decide +kernel)
theorem dX10_wholeBy_151 : decode cX10_wholeBy 151 = .ok (.iconst 1, 1) := dk_4 (by decide +kernel)
theorem dX10_wholeBy_152 : decode cX10_wholeBy 152 = .ok (.iload_n 2, 1) := dk_28 (by decide +kernel)
theorem dX10_wholeBy_153 : decode cX10_wholeBy 153 = .ok (.ishl, 1) := dk_120 (by decide +kernel)
theorem dX10_wholeBy_154 : decode cX10_wholeBy 154 = .ok (.ior, 1) := dk_128 (by decide +kernel)
theorem dX10_wholeBy_155 : decode cX10_wholeBy 155 = .ok (.goto 4, 3) := dk_167 (x := 0) (y := 4) (by decide +kernel) rfl
theorem dX10_wholeBy_158 : decode cX10_wholeBy 158 = .ok (.iconst 0, 1) := dk_3 (by decide +kernel)
theorem dX10_wholeBy_159 : decode cX10_wholeBy 159 = .ok (.iastore, 1) := dk_79 (by decide +kernel)
theorem dX10_wholeBy_160 : decode cX10_wholeBy 160 = .ok (.iinc 2 (-1), 3) := dk_132 (x := 2) (y := 255) (by decide +kernel) rfl
theorem dX10_wholeBy_163 : decode cX10_wholeBy 163 = .ok (.goto (-154), 3) := dk_167 (x := 255) (y := 102) (by decide +kernel) rfl
theorem dX10_wholeBy_166 : decode cX10_wholeBy 166 = .ok (.aload_n 0, 1) := dk_42 (by decide +kernel)
theorem dX10_wholeBy_167 : decode cX10_wholeBy 167 = .ok (.getfield 13, 3) := dk_180 (x := 0) (y := 13) (by decide +kernel) rfl
theorem dX10_wholeBy_170 : decode cX10_wholeBy 170 = .ok (.iconst 0, 1) := dk_3 (by decide +kernel)
theorem dX10_wholeBy_171 : decode cX10_wholeBy 171 = .ok (.iaload, 1) := dk_46 (by decide +kernel)
theorem dX10_wholeBy_172 : decode cX10_wholeBy 172 = .ok (.ireturn, 1) := dk_172 (by decide +kernel)
def f_X10_wholeBy_71 (k_9 : Nat → Int32 → Int32 → Mem → Option (Int32 × Mem)) (n : Nat) (v0 : Nat) (v1 : Int32) (v2 : Int32) (v3 : Int32) (v4 : Int32) (u0 : Int32) (M : Mem) : Option (Int32 × Mem) :=
    obd (f_X10_has v1 v2 M) fun r2 =>
    if r2 = 0 then (
      if v3 = 0 then (
        chk (isO M 10 v0) <|
        bnd (mR M v0 1) fun o8 =>
        chk (isO M 100 o8) <|
        if v4 = 0 then (
          if u0 = 0 then (
            chk (inB v2 (mLn M o8)) <|
            bnd (sI M o8 (v2).toNatClampNeg (0 : Int32)) fun M16 =>
            bnd (v2 + (-1 : Int32)) fun x20 =>
            k_9 v0 v1 x20 M16
            ) else (
            chk (inB v2 (mLn M o8)) <|
            bnd (sI M o8 (v2).toNatClampNeg (u0 ||| ((1 : Int32) <<< (v2 &&& 31)))) fun M23 =>
            bnd (v2 + (-1 : Int32)) fun x27 =>
            k_9 v0 v1 x27 M23
            )
          ) else (
          chk (inB v2 (mLn M o8)) <|
          bnd (sI M o8 (v2).toNatClampNeg (v4 ||| ((1 : Int32) <<< (v2 &&& 31)))) fun M30 =>
          bnd (v2 + (-1 : Int32)) fun x34 =>
          k_9 v0 v1 x34 M30
          )
        ) else (
        chk (isO M 10 v0) <|
        bnd (mR M v0 1) fun o37 =>
        chk (isO M 100 o37) <|
        chk (inB v2 (mLn M o37)) <|
        bnd (sI M o37 (v2).toNatClampNeg ((1 : Int32) <<< (v2 &&& 31))) fun M41 =>
        bnd (v2 + (-1 : Int32)) fun x45 =>
        k_9 v0 v1 x45 M41
        )
      ) else (
      chk (isO M 10 v0) <|
      bnd (mR M v0 1) fun o48 =>
      chk (isO M 100 o48) <|
      if v4 = 0 then (
        chk (inB v2 (mLn M o48)) <|
        bnd (sI M o48 (v2).toNatClampNeg (0 : Int32)) fun M54 =>
        bnd (v2 + (-1 : Int32)) fun x58 =>
        k_9 v0 v1 x58 M54
        ) else (
        if u0 = 0 then (
          chk (inB v2 (mLn M o48)) <|
          bnd (sI M o48 (v2).toNatClampNeg (0 : Int32)) fun M63 =>
          bnd (v2 + (-1 : Int32)) fun x67 =>
          k_9 v0 v1 x67 M63
          ) else (
          chk (inB v2 (mLn M o48)) <|
          bnd (sI M o48 (v2).toNatClampNeg (v4 ||| u0)) fun M70 =>
          bnd (v2 + (-1 : Int32)) fun x74 =>
          k_9 v0 v1 x74 M70
          )
        )
      )
def f_X10_wholeBy_51 (k_9 : Nat → Int32 → Int32 → Mem → Option (Int32 × Mem)) (n : Nat) (v0 : Nat) (v1 : Int32) (v2 : Int32) (v3 : Int32) (u0 : Int32) (M : Mem) : Option (Int32 × Mem) :=
    if v3 = 0 then (
      chk (isO M 10 v0) <|
      bnd (mR M v0 1) fun o4 =>
      chk (isO M 100 o4) <|
      chk (inB (((2 : Int32) * v2) + (2 : Int32)) (mLn M o4)) <|
      f_X10_wholeBy_71 k_9 n v0 v1 v2 v3 u0 (mI M o4 ((((2 : Int32) * v2) + (2 : Int32))).toNatClampNeg) M
      ) else (
      f_X10_wholeBy_71 k_9 n v0 v1 v2 v3 u0 (0 : Int32) M
      )
def f_X10_wholeBy_32 (k_9 : Nat → Int32 → Int32 → Mem → Option (Int32 × Mem)) (n : Nat) (v0 : Nat) (v1 : Int32) (v2 : Int32) (u0 : Int32) (M : Mem) : Option (Int32 × Mem) :=
    if u0 = 0 then (
      chk (isO M 10 v0) <|
      bnd (mR M v0 1) fun o4 =>
      chk (isO M 100 o4) <|
      chk (inB (((2 : Int32) * v2) + (1 : Int32)) (mLn M o4)) <|
      f_X10_wholeBy_51 k_9 n v0 v1 v2 u0 (mI M o4 ((((2 : Int32) * v2) + (1 : Int32))).toNatClampNeg) M
      ) else (
      f_X10_wholeBy_51 k_9 n v0 v1 v2 u0 (0 : Int32) M
      )
def f_X10_wholeBy_9 : Nat → Nat → Int32 → Int32 → Mem → Option (Int32 × Mem)
  | 0, _, _, _, _ => none
  | n + 1, v0, v1, v2, M =>
    if v2 < 0 then (
      chk (isO M 10 v0) <|
      bnd (mR M v0 1) fun o4 =>
      chk (isO M 100 o4) <|
      chk (inB (0 : Int32) (mLn M o4)) <|
      some ((mI M o4 ((0 : Int32)).toNatClampNeg), M)
      ) else (
      chk (isO M 10 v0) <|
      bnd (mR M v0 0) fun o9 =>
      chk (isO M 100 o9) <|
      chk (inB (0 : Int32) (mLn M o9)) <|
      if (((2 : Int32) * v2) + (1 : Int32)) < (mI M o9 ((0 : Int32)).toNatClampNeg) then (
        f_X10_wholeBy_32 (f_X10_wholeBy_9 n) n v0 v1 v2 (0 : Int32) M
        ) else (
        f_X10_wholeBy_32 (f_X10_wholeBy_9 n) n v0 v1 v2 (1 : Int32) M
        )
      )
def f_X10_wholeBy (n : Nat) (o : Nat) (a1 : Int32) (M : Mem) : Option (Int32 × Mem) :=
  chk (isO M 10 o) <|
  bnd (mR M o 0) fun o2 =>
  chk (isO M 100 o2) <|
  chk (inB (0 : Int32) (mLn M o2)) <|
  bnd ((mI M o2 ((0 : Int32)).toNatClampNeg) - (1 : Int32)) fun x6 =>
  f_X10_wholeBy_9 n o a1 x6 M
theorem cd_X10_wholeBy : (yX10_wholeBy.cls ≠ "java/lang/invoke/MethodHandle" ∧ yX10_wholeBy.cls ≠ "java/lang/invoke/VarHandle") ∧ (parseMethodDescriptor yX10_wholeBy.desc).map (fun d => d.parameters.length) = some 1 := ⟨⟨by decide +kernel, by decide +kernel⟩, by decide +kernel⟩
section
variable {p : Program} {l : Launch} {e : Env} {R : Room} {s : State} {m : MethodId} {args : Array Value} {below : List Frame} {meth : Method} {c : Code} {G : Gam} {M0 : Mem}
theorem l_X10_wholeBy_71 {k_9 : Nat → Int32 → Int32 → Mem → Option (Int32 × Mem)} {rv : (Int32 × Mem)} {n : Nat} {v0 : Nat} {v1 : Int32} {v2 : Int32} {v3 : Int32} {v4 : Int32} {u0 : Int32} {M : Mem} (X : Cx p R s m args c G M0 cX10_wholeBy yX10_wholeBy.cls 6 1 21) (hr : meth.sig.returnType = (some .int)) (hlk : meth.locks = false) (hnm : meth.name = "wholeBy") (hk_9 : ∀ (v0 : Nat), ∀ (v1 : Int32), ∀ (v2 : Int32), ∀ M : Mem, k_9 v0 v1 v2 M = some rv → Sg p l e R s m args below meth c (Qm below G args s (some (.int rv.1)) M0 rv.2) G M0 6 9 [(0, .ref (gB G + v0)), (1, .int v1), (2, .int v2)] [] M) (hf : f_X10_wholeBy_71 k_9 n v0 v1 v2 v3 v4 u0 M = some rv) : Sg p l e R s m args below meth c (Qm below G args s (some (.int rv.1)) M0 rv.2) G M0 6 71 [(0, .ref (gB G + v0)), (1, .int v1), (2, .int v2), (3, .int v3), (4, .int v4)] [.int u0] M := by
  rw [f_X10_wholeBy_71] at hf
  refine s_istore X (vs' := [(0, .ref (gB G + v0)), (1, .int v1), (2, .int v2), (3, .int v3), (4, .int v4), (5, .int u0)]) dX10_wholeBy_71 (Nat.le_of_ble_eq_true rfl) [1, 2, 3, 4, 5, 0] rfl ?_
  refine s_iload_n X 1 dX10_wholeBy_73 rfl rfl ?_
  refine s_iload_n X 2 dX10_wholeBy_74 rfl rfl ?_
  obtain ⟨r2, hc1, hf⟩ := pk_obd hf
  refine s_callS X (k_X10_has G hc1) wd1565 wd1566 wd1567 wd138 cd_X10_has ⟨Nat.le_of_ble_eq_true rfl, Nat.le_of_ble_eq_true rfl⟩ (Nat.le_of_ble_eq_true rfl) dX10_wholeBy_75 ?_
  have hs3 := pk_ite hf
  clear hf
  refine s_if_eq X (tgt := 109) dX10_wholeBy_78 rfl (fun c4 => ?_) (fun c4 => ?_)
  · have hf := hs3.1 c4
    refine s_iload_n X 3 dX10_wholeBy_109 rfl rfl ?_
    have hs5 := pk_ite hf
    clear hf
    refine s_if_eq X (tgt := 125) dX10_wholeBy_110 rfl (fun c6 => ?_) (fun c6 => ?_)
    · have hf := hs5.1 c6
      refine s_aload_n X 0 dX10_wholeBy_125 rfl rfl ?_
      obtain ⟨h7, hf⟩ := pk_chk hf
      obtain ⟨o8, e9, hf⟩ := pk_bnd hf
      obtain ⟨h10, hf⟩ := pk_chk hf
      refine s_getR X (ci := 10) (k := 1) rfl (Nat.le_of_ble_eq_true rfl) h7 wd1441 (fun _ _ _ => rfl) (e9 ▸ h10) dX10_wholeBy_126 (e9 ▸ ?_)
      refine s_iload_n X 2 dX10_wholeBy_129 rfl rfl ?_
      refine s_iload X 4 dX10_wholeBy_130 rfl ?_
      have hs11 := pk_ite hf
      clear hf
      refine s_if_eq X (tgt := 144) dX10_wholeBy_132 rfl (fun c12 => ?_) (fun c12 => ?_)
      · have hf := hs11.1 c12
        refine s_iload X 5 dX10_wholeBy_144 rfl ?_
        have hs13 := pk_ite hf
        clear hf
        refine s_if_eq X (tgt := 158) dX10_wholeBy_146 rfl (fun c14 => ?_) (fun c14 => ?_)
        · have hf := hs13.1 c14
          refine s_iconst X (v := (0 : Int32)) dX10_wholeBy_158 rfl ?_
          obtain ⟨h15, hf⟩ := pk_chk hf
          obtain ⟨M16, e17, hf⟩ := pk_bnd hf
          refine s_iast X h10 h15 e17 dX10_wholeBy_159 ?_
          have h18 := io_sI e17 h7
          have h19 := io_sI e17 h10
          obtain ⟨x20, e21, hf⟩ := pk_bnd hf
          refine s_iinc X (vs' := [(0, .ref (gB G + v0)), (1, .int v1), (2, .int x20), (3, .int v3), (4, .int v4), (5, .int u0)]) 2 dX10_wholeBy_160 rfl (v := x20) e21.symm (Nat.le_of_ble_eq_true rfl) [1, 2, 0, 3, 4, 5] rfl ?_
          refine s_goto X (tgt := 9) dX10_wholeBy_163 rfl ?_
          refine s_drop [0, 1, 2] (vs' := [(0, .ref (gB G + v0)), (1, .int v1), (2, .int x20)]) rfl ?_
          exact hk_9 _ _ _ _ hf
        · have hf := hs13.2 c14
          refine s_iload X 5 dX10_wholeBy_149 rfl ?_
          refine s_iconst X (v := (1 : Int32)) dX10_wholeBy_151 rfl ?_
          refine s_iload_n X 2 dX10_wholeBy_152 rfl rfl ?_
          refine s_ishl X dX10_wholeBy_153 ?_
          refine s_ior X dX10_wholeBy_154 ?_
          refine s_goto X (tgt := 159) dX10_wholeBy_155 rfl ?_
          obtain ⟨h22, hf⟩ := pk_chk hf
          obtain ⟨M23, e24, hf⟩ := pk_bnd hf
          refine s_iast X h10 h22 e24 dX10_wholeBy_159 ?_
          have h25 := io_sI e24 h7
          have h26 := io_sI e24 h10
          obtain ⟨x27, e28, hf⟩ := pk_bnd hf
          refine s_iinc X (vs' := [(0, .ref (gB G + v0)), (1, .int v1), (2, .int x27), (3, .int v3), (4, .int v4), (5, .int u0)]) 2 dX10_wholeBy_160 rfl (v := x27) e28.symm (Nat.le_of_ble_eq_true rfl) [1, 2, 0, 3, 4, 5] rfl ?_
          refine s_goto X (tgt := 9) dX10_wholeBy_163 rfl ?_
          refine s_drop [0, 1, 2] (vs' := [(0, .ref (gB G + v0)), (1, .int v1), (2, .int x27)]) rfl ?_
          exact hk_9 _ _ _ _ hf
      · have hf := hs11.2 c12
        refine s_iload X 4 dX10_wholeBy_135 rfl ?_
        refine s_iconst X (v := (1 : Int32)) dX10_wholeBy_137 rfl ?_
        refine s_iload_n X 2 dX10_wholeBy_138 rfl rfl ?_
        refine s_ishl X dX10_wholeBy_139 ?_
        refine s_ior X dX10_wholeBy_140 ?_
        refine s_goto X (tgt := 159) dX10_wholeBy_141 rfl ?_
        obtain ⟨h29, hf⟩ := pk_chk hf
        obtain ⟨M30, e31, hf⟩ := pk_bnd hf
        refine s_iast X h10 h29 e31 dX10_wholeBy_159 ?_
        have h32 := io_sI e31 h7
        have h33 := io_sI e31 h10
        obtain ⟨x34, e35, hf⟩ := pk_bnd hf
        refine s_iinc X (vs' := [(0, .ref (gB G + v0)), (1, .int v1), (2, .int x34), (3, .int v3), (4, .int v4), (5, .int u0)]) 2 dX10_wholeBy_160 rfl (v := x34) e35.symm (Nat.le_of_ble_eq_true rfl) [1, 2, 0, 3, 4, 5] rfl ?_
        refine s_goto X (tgt := 9) dX10_wholeBy_163 rfl ?_
        refine s_drop [0, 1, 2] (vs' := [(0, .ref (gB G + v0)), (1, .int v1), (2, .int x34)]) rfl ?_
        exact hk_9 _ _ _ _ hf
    · have hf := hs5.2 c6
      refine s_aload_n X 0 dX10_wholeBy_113 rfl rfl ?_
      obtain ⟨h36, hf⟩ := pk_chk hf
      obtain ⟨o37, e38, hf⟩ := pk_bnd hf
      obtain ⟨h39, hf⟩ := pk_chk hf
      refine s_getR X (ci := 10) (k := 1) rfl (Nat.le_of_ble_eq_true rfl) h36 wd1441 (fun _ _ _ => rfl) (e38 ▸ h39) dX10_wholeBy_114 (e38 ▸ ?_)
      refine s_iload_n X 2 dX10_wholeBy_117 rfl rfl ?_
      refine s_iconst X (v := (1 : Int32)) dX10_wholeBy_118 rfl ?_
      refine s_iload_n X 2 dX10_wholeBy_119 rfl rfl ?_
      refine s_ishl X dX10_wholeBy_120 ?_
      obtain ⟨h40, hf⟩ := pk_chk hf
      obtain ⟨M41, e42, hf⟩ := pk_bnd hf
      refine s_iast X h39 h40 e42 dX10_wholeBy_121 ?_
      have h43 := io_sI e42 h36
      have h44 := io_sI e42 h39
      refine s_goto X (tgt := 160) dX10_wholeBy_122 rfl ?_
      obtain ⟨x45, e46, hf⟩ := pk_bnd hf
      refine s_iinc X (vs' := [(0, .ref (gB G + v0)), (1, .int v1), (2, .int x45), (3, .int v3), (4, .int v4), (5, .int u0)]) 2 dX10_wholeBy_160 rfl (v := x45) e46.symm (Nat.le_of_ble_eq_true rfl) [1, 2, 0, 3, 4, 5] rfl ?_
      refine s_goto X (tgt := 9) dX10_wholeBy_163 rfl ?_
      refine s_drop [0, 1, 2] (vs' := [(0, .ref (gB G + v0)), (1, .int v1), (2, .int x45)]) rfl ?_
      exact hk_9 _ _ _ _ hf
  · have hf := hs3.2 c4
    refine s_aload_n X 0 dX10_wholeBy_81 rfl rfl ?_
    obtain ⟨h47, hf⟩ := pk_chk hf
    obtain ⟨o48, e49, hf⟩ := pk_bnd hf
    obtain ⟨h50, hf⟩ := pk_chk hf
    refine s_getR X (ci := 10) (k := 1) rfl (Nat.le_of_ble_eq_true rfl) h47 wd1441 (fun _ _ _ => rfl) (e49 ▸ h50) dX10_wholeBy_82 (e49 ▸ ?_)
    refine s_iload_n X 2 dX10_wholeBy_85 rfl rfl ?_
    refine s_iload X 4 dX10_wholeBy_86 rfl ?_
    have hs51 := pk_ite hf
    clear hf
    refine s_if_eq X (tgt := 104) dX10_wholeBy_88 rfl (fun c52 => ?_) (fun c52 => ?_)
    · have hf := hs51.1 c52
      refine s_iconst X (v := (0 : Int32)) dX10_wholeBy_104 rfl ?_
      obtain ⟨h53, hf⟩ := pk_chk hf
      obtain ⟨M54, e55, hf⟩ := pk_bnd hf
      refine s_iast X h50 h53 e55 dX10_wholeBy_105 ?_
      have h56 := io_sI e55 h47
      have h57 := io_sI e55 h50
      refine s_goto X (tgt := 160) dX10_wholeBy_106 rfl ?_
      obtain ⟨x58, e59, hf⟩ := pk_bnd hf
      refine s_iinc X (vs' := [(0, .ref (gB G + v0)), (1, .int v1), (2, .int x58), (3, .int v3), (4, .int v4), (5, .int u0)]) 2 dX10_wholeBy_160 rfl (v := x58) e59.symm (Nat.le_of_ble_eq_true rfl) [1, 2, 0, 3, 4, 5] rfl ?_
      refine s_goto X (tgt := 9) dX10_wholeBy_163 rfl ?_
      refine s_drop [0, 1, 2] (vs' := [(0, .ref (gB G + v0)), (1, .int v1), (2, .int x58)]) rfl ?_
      exact hk_9 _ _ _ _ hf
    · have hf := hs51.2 c52
      refine s_iload X 5 dX10_wholeBy_91 rfl ?_
      have hs60 := pk_ite hf
      clear hf
      refine s_if_eq X (tgt := 104) dX10_wholeBy_93 rfl (fun c61 => ?_) (fun c61 => ?_)
      · have hf := hs60.1 c61
        refine s_iconst X (v := (0 : Int32)) dX10_wholeBy_104 rfl ?_
        obtain ⟨h62, hf⟩ := pk_chk hf
        obtain ⟨M63, e64, hf⟩ := pk_bnd hf
        refine s_iast X h50 h62 e64 dX10_wholeBy_105 ?_
        have h65 := io_sI e64 h47
        have h66 := io_sI e64 h50
        refine s_goto X (tgt := 160) dX10_wholeBy_106 rfl ?_
        obtain ⟨x67, e68, hf⟩ := pk_bnd hf
        refine s_iinc X (vs' := [(0, .ref (gB G + v0)), (1, .int v1), (2, .int x67), (3, .int v3), (4, .int v4), (5, .int u0)]) 2 dX10_wholeBy_160 rfl (v := x67) e68.symm (Nat.le_of_ble_eq_true rfl) [1, 2, 0, 3, 4, 5] rfl ?_
        refine s_goto X (tgt := 9) dX10_wholeBy_163 rfl ?_
        refine s_drop [0, 1, 2] (vs' := [(0, .ref (gB G + v0)), (1, .int v1), (2, .int x67)]) rfl ?_
        exact hk_9 _ _ _ _ hf
      · have hf := hs60.2 c61
        refine s_iload X 4 dX10_wholeBy_96 rfl ?_
        refine s_iload X 5 dX10_wholeBy_98 rfl ?_
        refine s_ior X dX10_wholeBy_100 ?_
        refine s_goto X (tgt := 105) dX10_wholeBy_101 rfl ?_
        obtain ⟨h69, hf⟩ := pk_chk hf
        obtain ⟨M70, e71, hf⟩ := pk_bnd hf
        refine s_iast X h50 h69 e71 dX10_wholeBy_105 ?_
        have h72 := io_sI e71 h47
        have h73 := io_sI e71 h50
        refine s_goto X (tgt := 160) dX10_wholeBy_106 rfl ?_
        obtain ⟨x74, e75, hf⟩ := pk_bnd hf
        refine s_iinc X (vs' := [(0, .ref (gB G + v0)), (1, .int v1), (2, .int x74), (3, .int v3), (4, .int v4), (5, .int u0)]) 2 dX10_wholeBy_160 rfl (v := x74) e75.symm (Nat.le_of_ble_eq_true rfl) [1, 2, 0, 3, 4, 5] rfl ?_
        refine s_goto X (tgt := 9) dX10_wholeBy_163 rfl ?_
        refine s_drop [0, 1, 2] (vs' := [(0, .ref (gB G + v0)), (1, .int v1), (2, .int x74)]) rfl ?_
        exact hk_9 _ _ _ _ hf
theorem l_X10_wholeBy_51 {k_9 : Nat → Int32 → Int32 → Mem → Option (Int32 × Mem)} {rv : (Int32 × Mem)} {n : Nat} {v0 : Nat} {v1 : Int32} {v2 : Int32} {v3 : Int32} {u0 : Int32} {M : Mem} (X : Cx p R s m args c G M0 cX10_wholeBy yX10_wholeBy.cls 6 1 21) (hr : meth.sig.returnType = (some .int)) (hlk : meth.locks = false) (hnm : meth.name = "wholeBy") (hk_9 : ∀ (v0 : Nat), ∀ (v1 : Int32), ∀ (v2 : Int32), ∀ M : Mem, k_9 v0 v1 v2 M = some rv → Sg p l e R s m args below meth c (Qm below G args s (some (.int rv.1)) M0 rv.2) G M0 6 9 [(0, .ref (gB G + v0)), (1, .int v1), (2, .int v2)] [] M) (hf : f_X10_wholeBy_51 k_9 n v0 v1 v2 v3 u0 M = some rv) : Sg p l e R s m args below meth c (Qm below G args s (some (.int rv.1)) M0 rv.2) G M0 6 51 [(0, .ref (gB G + v0)), (1, .int v1), (2, .int v2), (3, .int v3)] [.int u0] M := by
  rw [f_X10_wholeBy_51] at hf
  refine s_istore X (vs' := [(0, .ref (gB G + v0)), (1, .int v1), (2, .int v2), (3, .int v3), (4, .int u0)]) dX10_wholeBy_51 (Nat.le_of_ble_eq_true rfl) [1, 2, 3, 4, 0] rfl ?_
  refine s_iload_n X 3 dX10_wholeBy_53 rfl rfl ?_
  have hs1 := pk_ite hf
  clear hf
  refine s_if_eq X (tgt := 61) dX10_wholeBy_54 rfl (fun c2 => ?_) (fun c2 => ?_)
  · have hf := hs1.1 c2
    refine s_aload_n X 0 dX10_wholeBy_61 rfl rfl ?_
    obtain ⟨h3, hf⟩ := pk_chk hf
    obtain ⟨o4, e5, hf⟩ := pk_bnd hf
    obtain ⟨h6, hf⟩ := pk_chk hf
    refine s_getR X (ci := 10) (k := 1) rfl (Nat.le_of_ble_eq_true rfl) h3 wd1441 (fun _ _ _ => rfl) (e5 ▸ h6) dX10_wholeBy_62 (e5 ▸ ?_)
    refine s_iconst X (v := (2 : Int32)) dX10_wholeBy_65 rfl ?_
    refine s_iload_n X 2 dX10_wholeBy_66 rfl rfl ?_
    refine s_imul X dX10_wholeBy_67 ?_
    refine s_iconst X (v := (2 : Int32)) dX10_wholeBy_68 rfl ?_
    refine s_iadd X dX10_wholeBy_69 ?_
    obtain ⟨h7, hf⟩ := pk_chk hf
    refine s_iald X h6 h7 dX10_wholeBy_70 ?_
    exact l_X10_wholeBy_71 X hr hlk hnm hk_9 hf
  · have hf := hs1.2 c2
    refine s_iconst X (v := (0 : Int32)) dX10_wholeBy_57 rfl ?_
    refine s_goto X (tgt := 71) dX10_wholeBy_58 rfl ?_
    exact l_X10_wholeBy_71 X hr hlk hnm hk_9 hf
theorem l_X10_wholeBy_32 {k_9 : Nat → Int32 → Int32 → Mem → Option (Int32 × Mem)} {rv : (Int32 × Mem)} {n : Nat} {v0 : Nat} {v1 : Int32} {v2 : Int32} {u0 : Int32} {M : Mem} (X : Cx p R s m args c G M0 cX10_wholeBy yX10_wholeBy.cls 6 1 21) (hr : meth.sig.returnType = (some .int)) (hlk : meth.locks = false) (hnm : meth.name = "wholeBy") (hk_9 : ∀ (v0 : Nat), ∀ (v1 : Int32), ∀ (v2 : Int32), ∀ M : Mem, k_9 v0 v1 v2 M = some rv → Sg p l e R s m args below meth c (Qm below G args s (some (.int rv.1)) M0 rv.2) G M0 6 9 [(0, .ref (gB G + v0)), (1, .int v1), (2, .int v2)] [] M) (hf : f_X10_wholeBy_32 k_9 n v0 v1 v2 u0 M = some rv) : Sg p l e R s m args below meth c (Qm below G args s (some (.int rv.1)) M0 rv.2) G M0 6 32 [(0, .ref (gB G + v0)), (1, .int v1), (2, .int v2)] [.int u0] M := by
  rw [f_X10_wholeBy_32] at hf
  refine s_istore_n X (vs' := [(0, .ref (gB G + v0)), (1, .int v1), (2, .int v2), (3, .int u0)]) dX10_wholeBy_32 rfl (Nat.le_of_ble_eq_true rfl) [1, 2, 3, 0] rfl ?_
  refine s_iload_n X 3 dX10_wholeBy_33 rfl rfl ?_
  have hs1 := pk_ite hf
  clear hf
  refine s_if_eq X (tgt := 41) dX10_wholeBy_34 rfl (fun c2 => ?_) (fun c2 => ?_)
  · have hf := hs1.1 c2
    refine s_aload_n X 0 dX10_wholeBy_41 rfl rfl ?_
    obtain ⟨h3, hf⟩ := pk_chk hf
    obtain ⟨o4, e5, hf⟩ := pk_bnd hf
    obtain ⟨h6, hf⟩ := pk_chk hf
    refine s_getR X (ci := 10) (k := 1) rfl (Nat.le_of_ble_eq_true rfl) h3 wd1441 (fun _ _ _ => rfl) (e5 ▸ h6) dX10_wholeBy_42 (e5 ▸ ?_)
    refine s_iconst X (v := (2 : Int32)) dX10_wholeBy_45 rfl ?_
    refine s_iload_n X 2 dX10_wholeBy_46 rfl rfl ?_
    refine s_imul X dX10_wholeBy_47 ?_
    refine s_iconst X (v := (1 : Int32)) dX10_wholeBy_48 rfl ?_
    refine s_iadd X dX10_wholeBy_49 ?_
    obtain ⟨h7, hf⟩ := pk_chk hf
    refine s_iald X h6 h7 dX10_wholeBy_50 ?_
    exact l_X10_wholeBy_51 X hr hlk hnm hk_9 hf
  · have hf := hs1.2 c2
    refine s_iconst X (v := (0 : Int32)) dX10_wholeBy_37 rfl ?_
    refine s_goto X (tgt := 51) dX10_wholeBy_38 rfl ?_
    exact l_X10_wholeBy_51 X hr hlk hnm hk_9 hf
theorem l_X10_wholeBy_9 {rv : (Int32 × Mem)} (X : Cx p R s m args c G M0 cX10_wholeBy yX10_wholeBy.cls 6 1 21) (hr : meth.sig.returnType = (some .int)) (hlk : meth.locks = false) (hnm : meth.name = "wholeBy") : ∀ {n : Nat} (v0 : Nat) (v1 : Int32) (v2 : Int32) (M : Mem), f_X10_wholeBy_9 n v0 v1 v2 M = some rv → Sg p l e R s m args below meth c (Qm below G args s (some (.int rv.1)) M0 rv.2) G M0 6 9 [(0, .ref (gB G + v0)), (1, .int v1), (2, .int v2)] [] M := by
  intro n
  induction n with
  | zero => intro v0 v1 v2 M hf; exact (pk_none hf).elim
  | succ n ih =>
    intro v0 v1 v2 M hf
    rw [f_X10_wholeBy_9] at hf
    refine s_iload_n X 2 dX10_wholeBy_9 rfl rfl ?_
    have hs1 := pk_ite hf
    clear hf
    refine s_if_lt X (tgt := 166) dX10_wholeBy_10 rfl (fun c2 => ?_) (fun c2 => ?_)
    · have hf := hs1.1 c2
      refine s_aload_n X 0 dX10_wholeBy_166 rfl rfl ?_
      obtain ⟨h3, hf⟩ := pk_chk hf
      obtain ⟨o4, e5, hf⟩ := pk_bnd hf
      obtain ⟨h6, hf⟩ := pk_chk hf
      refine s_getR X (ci := 10) (k := 1) rfl (Nat.le_of_ble_eq_true rfl) h3 wd1441 (fun _ _ _ => rfl) (e5 ▸ h6) dX10_wholeBy_167 (e5 ▸ ?_)
      refine s_iconst X (v := (0 : Int32)) dX10_wholeBy_170 rfl ?_
      obtain ⟨h7, hf⟩ := pk_chk hf
      refine s_iald X h6 h7 dX10_wholeBy_171 ?_
      cases hf
      exact s_iret X hr hlk dX10_wholeBy_172
    · have hf := hs1.2 c2
      refine s_iconst X (v := (2 : Int32)) dX10_wholeBy_13 rfl ?_
      refine s_iload_n X 2 dX10_wholeBy_14 rfl rfl ?_
      refine s_imul X dX10_wholeBy_15 ?_
      refine s_iconst X (v := (1 : Int32)) dX10_wholeBy_16 rfl ?_
      refine s_iadd X dX10_wholeBy_17 ?_
      refine s_aload_n X 0 dX10_wholeBy_18 rfl rfl ?_
      obtain ⟨h8, hf⟩ := pk_chk hf
      obtain ⟨o9, e10, hf⟩ := pk_bnd hf
      obtain ⟨h11, hf⟩ := pk_chk hf
      refine s_getR X (ci := 10) (k := 0) rfl (Nat.le_of_ble_eq_true rfl) h8 wd1440 (fun _ _ _ => rfl) (e10 ▸ h11) dX10_wholeBy_19 (e10 ▸ ?_)
      refine s_iconst X (v := (0 : Int32)) dX10_wholeBy_22 rfl ?_
      obtain ⟨h12, hf⟩ := pk_chk hf
      refine s_iald X h11 h12 dX10_wholeBy_23 ?_
      have hs13 := pk_ite hf
      clear hf
      refine s_icmp_lt X (tgt := 31) dX10_wholeBy_24 rfl (fun c14 => ?_) (fun c14 => ?_)
      · have hf := hs13.1 c14
        refine s_iconst X (v := (0 : Int32)) dX10_wholeBy_31 rfl ?_
        exact l_X10_wholeBy_32 X hr hlk hnm ih hf
      · have hf := hs13.2 c14
        refine s_iconst X (v := (1 : Int32)) dX10_wholeBy_27 rfl ?_
        refine s_goto X (tgt := 32) dX10_wholeBy_28 rfl ?_
        exact l_X10_wholeBy_32 X hr hlk hnm ih hf
end
theorem k_X10_wholeBy (G : Gam) {n : Nat} {o : Nat} {a1 : Int32} {M : Mem} {rv : (Int32 × Mem)} (hf : f_X10_wholeBy n o a1 M = some rv) : Kt yX10_wholeBy cX10_wholeBy 6 (some .int) 1 21 G [.ref (gB G + o), .int a1] M rv.2 (some (.int rv.1)) := by
  refine Kt.of (by decide) (Nat.le_of_ble_eq_true rfl) ?_
  intro p l e R s m args below meth c X hr hlk hnm
  refine s_drop [0, 1] (vs' := [(0, .ref (gB G + o)), (1, .int a1)]) rfl ?_
  rw [f_X10_wholeBy] at hf
  refine s_aload_n X 0 dX10_wholeBy_0 rfl rfl ?_
  obtain ⟨h1, hf⟩ := pk_chk hf
  obtain ⟨o2, e3, hf⟩ := pk_bnd hf
  obtain ⟨h4, hf⟩ := pk_chk hf
  refine s_getR X (ci := 10) (k := 0) rfl (Nat.le_of_ble_eq_true rfl) h1 wd1440 (fun _ _ _ => rfl) (e3 ▸ h4) dX10_wholeBy_1 (e3 ▸ ?_)
  refine s_iconst X (v := (0 : Int32)) dX10_wholeBy_4 rfl ?_
  obtain ⟨h5, hf⟩ := pk_chk hf
  refine s_iald X h4 h5 dX10_wholeBy_5 ?_
  refine s_iconst X (v := (1 : Int32)) dX10_wholeBy_6 rfl ?_
  refine s_isub X dX10_wholeBy_7 ?_
  obtain ⟨x6, e7, hf⟩ := pk_bnd hf
  refine s_nmI e7 ?_
  refine s_istore_n X (vs' := [(0, .ref (gB G + o)), (1, .int a1), (2, .int x6)]) dX10_wholeBy_8 rfl (Nat.le_of_ble_eq_true rfl) [1, 2, 0] rfl ?_
  exact l_X10_wholeBy_9 X hr hlk hnm _ _ _ _ hf
theorem dX10_quorumBy_0 : decode cX10_quorumBy 0 = .ok (.aload_n 0, 1) := dk_42 (by decide +kernel)
theorem dX10_quorumBy_1 : decode cX10_quorumBy 1 = .ok (.iload_n 1, 1) := dk_27 (by decide +kernel)
theorem dX10_quorumBy_2 : decode cX10_quorumBy 2 = .ok (.invokevirtual 80, 3) := dk_182 (x := 0) (y := 80) (by decide +kernel) rfl
theorem dX10_quorumBy_5 : decode cX10_quorumBy 5 = .ok (.iload_n 2, 1) := dk_28 (by decide +kernel)
theorem dX10_quorumBy_6 : decode cX10_quorumBy 6 = .ok (.iand, 1) := dk_126 (by decide +kernel)
theorem dX10_quorumBy_7 : decode cX10_quorumBy 7 = .ok (.ifCond .ne 9, 3) := dk_154 (x := 0) (y := 9) (by decide +kernel) rfl
theorem dX10_quorumBy_10 : decode cX10_quorumBy 10 = .ok (.aload_n 0, 1) := dk_42 (by decide +kernel)
theorem dX10_quorumBy_11 : decode cX10_quorumBy 11 = .ok (.iload_n 1, 1) := dk_27 (by decide +kernel)
theorem dX10_quorumBy_12 : decode cX10_quorumBy 12 = .ok (.invokevirtual 80, 3) := dk_182 (x := 0) (y := 80) (by decide +kernel) rfl
theorem dX10_quorumBy_15 : decode cX10_quorumBy 15 = .ok (.ireturn, 1) := dk_172 (by decide +kernel)
theorem dX10_quorumBy_16 : decode cX10_quorumBy 16 = .ok (.aload_n 0, 1) := dk_42 (by decide +kernel)
theorem dX10_quorumBy_17 : decode cX10_quorumBy 17 = .ok (.getfield 7, 3) := dk_180 (x := 0) (y := 7) (by decide +kernel) rfl
theorem dX10_quorumBy_20 : decode cX10_quorumBy 20 = .ok (.iconst 1, 1) := dk_4 (by decide +kernel)
theorem dX10_quorumBy_21 : decode cX10_quorumBy 21 = .ok (.iaload, 1) := dk_46 (by decide +kernel)
theorem dX10_quorumBy_22 : decode cX10_quorumBy 22 = .ok (.iconst 1, 1) := dk_4 (by decide +kernel)
theorem dX10_quorumBy_23 : decode cX10_quorumBy 23 = .ok (.if_icmp .ne 9, 3) := dk_160 (x := 0) (y := 9) (by decide +kernel) rfl
theorem dX10_quorumBy_26 : decode cX10_quorumBy 26 = .ok (.aload_n 0, 1) := dk_42 (by decide +kernel)
theorem dX10_quorumBy_27 : decode cX10_quorumBy 27 = .ok (.iload_n 2, 1) := dk_28 (by decide +kernel)
theorem dX10_quorumBy_28 : decode cX10_quorumBy 28 = .ok (.invokevirtual 90, 3) := dk_182 (x := 0) (y := 90) (by decide +kernel) rfl
theorem dX10_quorumBy_31 : decode cX10_quorumBy 31 = .ok (.ireturn, 1) := dk_172 (by decide +kernel)
theorem dX10_quorumBy_32 : decode cX10_quorumBy 32 = .ok (.iconst 0, 1) := dk_3 (by decide +kernel)
theorem dX10_quorumBy_33 : decode cX10_quorumBy 33 = .ok (.istore_n 3, 1) := dk_62 (by decide +kernel)
theorem dX10_quorumBy_34 : decode cX10_quorumBy 34 = .ok (.iload_n 3, 1) := dk_29 (by decide +kernel)
theorem dX10_quorumBy_35 : decode cX10_quorumBy 35 = .ok (.aload_n 0, 1) := dk_42 (by decide +kernel)
theorem dX10_quorumBy_36 : decode cX10_quorumBy 36 = .ok (.getfield 7, 3) := dk_180 (x := 0) (y := 7) (by decide +kernel) rfl
theorem dX10_quorumBy_39 : decode cX10_quorumBy 39 = .ok (.iconst 0, 1) := dk_3 (by decide +kernel)
theorem dX10_quorumBy_40 : decode cX10_quorumBy 40 = .ok (.iaload, 1) := dk_46 (by decide +kernel)
theorem dX10_quorumBy_41 : decode cX10_quorumBy 41 = .ok (.if_icmp .ge 25, 3) := dk_162 (x := 0) (y := 25) (by decide +kernel) rfl
theorem dX10_quorumBy_44 : decode cX10_quorumBy 44 = .ok (.aload_n 0, 1) := dk_42 (by decide +kernel)
theorem dX10_quorumBy_45 : decode cX10_quorumBy 45 = .ok (.iload_n 3, 1) := dk_29 (by decide +kernel)
theorem dX10_quorumBy_46 : decode cX10_quorumBy 46 = .ok (.invokevirtual 80, 3) := dk_182 (x := 0) (y := 80) (by decide +kernel) rfl
theorem dX10_quorumBy_49 : decode cX10_quorumBy 49 = .ok (.iload_n 2, 1) := dk_28 (by decide +kernel)
theorem dX10_quorumBy_50 : decode cX10_quorumBy 50 = .ok (.iand, 1) := dk_126 (by decide +kernel)
theorem dX10_quorumBy_51 : decode cX10_quorumBy 51 = .ok (.ifCond .ne 9, 3) := dk_154 (x := 0) (y := 9) (by decide +kernel) rfl
theorem dX10_quorumBy_54 : decode cX10_quorumBy 54 = .ok (.aload_n 0, 1) := dk_42 (by decide +kernel)
theorem dX10_quorumBy_55 : decode cX10_quorumBy 55 = .ok (.iload_n 3, 1) := dk_29 (by decide +kernel)
theorem dX10_quorumBy_56 : decode cX10_quorumBy 56 = .ok (.invokevirtual 80, 3) := dk_182 (x := 0) (y := 80) (by decide +kernel) rfl
theorem dX10_quorumBy_59 : decode cX10_quorumBy 59 = .ok (.ireturn, 1) := dk_172 (by decide +kernel)
theorem dX10_quorumBy_60 : decode cX10_quorumBy 60 = .ok (.iinc 3 1, 3) := dk_132 (x := 3) (y := 1) (by decide +kernel) rfl
theorem dX10_quorumBy_63 : decode cX10_quorumBy 63 = .ok (.goto (-29), 3) := dk_167 (x := 255) (y := 227) (by decide +kernel) rfl
theorem dX10_quorumBy_66 : decode cX10_quorumBy 66 = .ok (.iconst 0, 1) := dk_3 (by decide +kernel)
theorem dX10_quorumBy_67 : decode cX10_quorumBy 67 = .ok (.ireturn, 1) := dk_172 (by decide +kernel)
def f_X10_quorumBy_34 : Nat → Nat → Int32 → Int32 → Mem → Option (Int32 × Mem)
  | 0, _, _, _, _ => none
  | n + 1, v0, v2, v3, M =>
    chk (isO M 10 v0) <|
    bnd (mR M v0 0) fun o2 =>
    chk (isO M 100 o2) <|
    chk (inB (0 : Int32) (mLn M o2)) <|
    if (mI M o2 ((0 : Int32)).toNatClampNeg) ≤ v3 then (
      some ((0 : Int32), M)
      ) else (
      obd (f_X10_baseOf v0 v3 M) fun r9 =>
      if (r9 &&& v2) = 0 then (
        obd (f_X10_baseOf v0 v3 M) fun r15 =>
        some (r15, M)
        ) else (
        bnd (v3 + (1 : Int32)) fun x12 =>
        f_X10_quorumBy_34 n v0 v2 x12 M
        )
      )
def f_X10_quorumBy (n : Nat) (o : Nat) (a1 : Int32) (a2 : Int32) (M : Mem) : Option (Int32 × Mem) :=
  chk (isO M 10 o) <|
  obd (f_X10_baseOf o a1 M) fun r3 =>
  if (r3 &&& a2) = 0 then (
    obd (f_X10_baseOf o a1 M) fun r16 =>
    some (r16, M)
    ) else (
    bnd (mR M o 0) fun o6 =>
    chk (isO M 100 o6) <|
    chk (inB (1 : Int32) (mLn M o6)) <|
    if (mI M o6 ((1 : Int32)).toNatClampNeg) = (1 : Int32) then (
      obd2 (f_X10_wholeBy n o a2 M) fun r13 M14 =>
      some (r13, M14)
      ) else (
      f_X10_quorumBy_34 n o a2 (0 : Int32) M
      )
    )
theorem cd_X10_quorumBy : (yX10_quorumBy.cls ≠ "java/lang/invoke/MethodHandle" ∧ yX10_quorumBy.cls ≠ "java/lang/invoke/VarHandle") ∧ (parseMethodDescriptor yX10_quorumBy.desc).map (fun d => d.parameters.length) = some 2 := ⟨⟨by decide +kernel, by decide +kernel⟩, by decide +kernel⟩
section
variable {p : Program} {l : Launch} {e : Env} {R : Room} {s : State} {m : MethodId} {args : Array Value} {below : List Frame} {meth : Method} {c : Code} {G : Gam} {M0 : Mem}
theorem l_X10_quorumBy_34 {rv : (Int32 × Mem)} (X : Cx p R s m args c G M0 cX10_quorumBy yX10_quorumBy.cls 4 2 46) (hr : meth.sig.returnType = (some .int)) (hlk : meth.locks = false) (hnm : meth.name = "quorumBy") : ∀ {n : Nat} (v0 : Nat) (v2 : Int32) (v3 : Int32) (M : Mem), f_X10_quorumBy_34 n v0 v2 v3 M = some rv → Sg p l e R s m args below meth c (Qm below G args s (some (.int rv.1)) M0 rv.2) G M0 4 34 [(0, .ref (gB G + v0)), (2, .int v2), (3, .int v3)] [] M := by
  intro n
  induction n with
  | zero => intro v0 v2 v3 M hf; exact (pk_none hf).elim
  | succ n ih =>
    intro v0 v2 v3 M hf
    rw [f_X10_quorumBy_34] at hf
    refine s_iload_n X 2 dX10_quorumBy_34 rfl rfl ?_
    refine s_aload_n X 0 dX10_quorumBy_35 rfl rfl ?_
    obtain ⟨h1, hf⟩ := pk_chk hf
    obtain ⟨o2, e3, hf⟩ := pk_bnd hf
    obtain ⟨h4, hf⟩ := pk_chk hf
    refine s_getR X (ci := 10) (k := 0) rfl (Nat.le_of_ble_eq_true rfl) h1 wd1440 (fun _ _ _ => rfl) (e3 ▸ h4) dX10_quorumBy_36 (e3 ▸ ?_)
    refine s_iconst X (v := (0 : Int32)) dX10_quorumBy_39 rfl ?_
    obtain ⟨h5, hf⟩ := pk_chk hf
    refine s_iald X h4 h5 dX10_quorumBy_40 ?_
    have hs6 := pk_ite hf
    clear hf
    refine s_icmp_ge X (tgt := 66) dX10_quorumBy_41 rfl (fun c7 => ?_) (fun c7 => ?_)
    · have hf := hs6.1 c7
      refine s_iconst X (v := (0 : Int32)) dX10_quorumBy_66 rfl ?_
      cases hf
      exact s_iret X hr hlk dX10_quorumBy_67
    · have hf := hs6.2 c7
      refine s_aload_n X 0 dX10_quorumBy_44 rfl rfl ?_
      refine s_iload_n X 2 dX10_quorumBy_45 rfl rfl ?_
      obtain ⟨r9, hc8, hf⟩ := pk_obd hf
      refine s_callV X (ci := 10) (k_X10_baseOf G hc8) rfl h1 wd1558 wd1560 wd54 wd1561 wd138 cd_X10_baseOf ⟨Nat.le_of_ble_eq_true rfl, Nat.le_of_ble_eq_true rfl⟩ (Nat.le_of_ble_eq_true rfl) dX10_quorumBy_46 ?_
      refine s_iload_n X 1 dX10_quorumBy_49 rfl rfl ?_
      refine s_iand X dX10_quorumBy_50 ?_
      have hs10 := pk_ite hf
      clear hf
      refine s_if_ne X (tgt := 60) dX10_quorumBy_51 rfl (fun c11 => ?_) (fun c11 => ?_)
      · have hf := hs10.2 c11
        obtain ⟨x12, e13, hf⟩ := pk_bnd hf
        refine s_iinc X (vs' := [(0, .ref (gB G + v0)), (2, .int v2), (3, .int x12)]) 2 dX10_quorumBy_60 rfl (v := x12) e13.symm (Nat.le_of_ble_eq_true rfl) [1, 2, 0] rfl ?_
        refine s_goto X (tgt := 34) dX10_quorumBy_63 rfl ?_
        exact ih _ _ _ _ hf
      · have hf := hs10.1 c11
        refine s_aload_n X 0 dX10_quorumBy_54 rfl rfl ?_
        refine s_iload_n X 2 dX10_quorumBy_55 rfl rfl ?_
        obtain ⟨r15, hc14, hf⟩ := pk_obd hf
        refine s_callV X (ci := 10) (k_X10_baseOf G hc14) rfl h1 wd1558 wd1560 wd54 wd1561 wd138 cd_X10_baseOf ⟨Nat.le_of_ble_eq_true rfl, Nat.le_of_ble_eq_true rfl⟩ (Nat.le_of_ble_eq_true rfl) dX10_quorumBy_56 ?_
        cases hf
        exact s_iret X hr hlk dX10_quorumBy_59
end
theorem k_X10_quorumBy (G : Gam) {n : Nat} {o : Nat} {a1 : Int32} {a2 : Int32} {M : Mem} {rv : (Int32 × Mem)} (hf : f_X10_quorumBy n o a1 a2 M = some rv) : Kt yX10_quorumBy cX10_quorumBy 4 (some .int) 2 46 G [.ref (gB G + o), .int a1, .int a2] M rv.2 (some (.int rv.1)) := by
  refine Kt.of (by decide) (Nat.le_of_ble_eq_true rfl) ?_
  intro p l e R s m args below meth c X hr hlk hnm
  refine s_drop [0, 1, 2] (vs' := [(0, .ref (gB G + o)), (1, .int a1), (2, .int a2)]) rfl ?_
  rw [f_X10_quorumBy] at hf
  refine s_aload_n X 0 dX10_quorumBy_0 rfl rfl ?_
  refine s_iload_n X 1 dX10_quorumBy_1 rfl rfl ?_
  obtain ⟨h1, hf⟩ := pk_chk hf
  obtain ⟨r3, hc2, hf⟩ := pk_obd hf
  refine s_callV X (ci := 10) (k_X10_baseOf G hc2) rfl h1 wd1558 wd1560 wd54 wd1561 wd138 cd_X10_baseOf ⟨Nat.le_of_ble_eq_true rfl, Nat.le_of_ble_eq_true rfl⟩ (Nat.le_of_ble_eq_true rfl) dX10_quorumBy_2 ?_
  refine s_iload_n X 2 dX10_quorumBy_5 rfl rfl ?_
  refine s_iand X dX10_quorumBy_6 ?_
  have hs4 := pk_ite hf
  clear hf
  refine s_if_ne X (tgt := 16) dX10_quorumBy_7 rfl (fun c5 => ?_) (fun c5 => ?_)
  · have hf := hs4.2 c5
    refine s_aload_n X 0 dX10_quorumBy_16 rfl rfl ?_
    obtain ⟨o6, e7, hf⟩ := pk_bnd hf
    obtain ⟨h8, hf⟩ := pk_chk hf
    refine s_getR X (ci := 10) (k := 0) rfl (Nat.le_of_ble_eq_true rfl) h1 wd1440 (fun _ _ _ => rfl) (e7 ▸ h8) dX10_quorumBy_17 (e7 ▸ ?_)
    refine s_iconst X (v := (1 : Int32)) dX10_quorumBy_20 rfl ?_
    obtain ⟨h9, hf⟩ := pk_chk hf
    refine s_iald X h8 h9 dX10_quorumBy_21 ?_
    refine s_iconst X (v := (1 : Int32)) dX10_quorumBy_22 rfl ?_
    have hs10 := pk_ite hf
    clear hf
    refine s_icmp_ne X (tgt := 32) dX10_quorumBy_23 rfl (fun c11 => ?_) (fun c11 => ?_)
    · have hf := hs10.2 c11
      refine s_iconst X (v := (0 : Int32)) dX10_quorumBy_32 rfl ?_
      refine s_istore_n X (vs' := [(0, .ref (gB G + o)), (1, .int a1), (2, .int a2), (3, .int (0 : Int32))]) dX10_quorumBy_33 rfl (Nat.le_of_ble_eq_true rfl) [1, 2, 3, 0] rfl ?_
      refine s_drop [0, 2, 3] (vs' := [(0, .ref (gB G + o)), (2, .int a2), (3, .int (0 : Int32))]) rfl ?_
      exact l_X10_quorumBy_34 X hr hlk hnm _ _ _ _ hf
    · have hf := hs10.1 c11
      refine s_aload_n X 0 dX10_quorumBy_26 rfl rfl ?_
      refine s_iload_n X 2 dX10_quorumBy_27 rfl rfl ?_
      obtain ⟨r13, M14, hc12, hf⟩ := pk_obd2 hf
      refine s_callV X (ci := 10) (k_X10_wholeBy G hc12) rfl h1 wd1596 wd1598 wd59 wd1599 wd138 cd_X10_wholeBy ⟨Nat.le_of_ble_eq_true rfl, Nat.le_of_ble_eq_true rfl⟩ (Nat.le_of_ble_eq_true rfl) dX10_quorumBy_28 ?_
      cases hf
      exact s_iret X hr hlk dX10_quorumBy_31
  · have hf := hs4.1 c5
    refine s_aload_n X 0 dX10_quorumBy_10 rfl rfl ?_
    refine s_iload_n X 1 dX10_quorumBy_11 rfl rfl ?_
    obtain ⟨r16, hc15, hf⟩ := pk_obd hf
    refine s_callV X (ci := 10) (k_X10_baseOf G hc15) rfl h1 wd1558 wd1560 wd54 wd1561 wd138 cd_X10_baseOf ⟨Nat.le_of_ble_eq_true rfl, Nat.le_of_ble_eq_true rfl⟩ (Nat.le_of_ble_eq_true rfl) dX10_quorumBy_12 ?_
    cases hf
    exact s_iret X hr hlk dX10_quorumBy_15
theorem dX10_quorumNow_0 : decode cX10_quorumNow 0 = .ok (.aload_n 0, 1) := dk_42 (by decide +kernel)
theorem dX10_quorumNow_1 : decode cX10_quorumNow 1 = .ok (.iload_n 1, 1) := dk_27 (by decide +kernel)
theorem dX10_quorumNow_2 : decode cX10_quorumNow 2 = .ok (.aload_n 0, 1) := dk_42 (by decide +kernel)
theorem dX10_quorumNow_3 : decode cX10_quorumNow 3 = .ok (.invokevirtual 96, 3) := dk_182 (x := 0) (y := 96) (by decide +kernel) rfl
theorem dX10_quorumNow_6 : decode cX10_quorumNow 6 = .ok (.invokevirtual 99, 3) := dk_182 (x := 0) (y := 99) (by decide +kernel) rfl
theorem dX10_quorumNow_9 : decode cX10_quorumNow 9 = .ok (.ireturn, 1) := dk_172 (by decide +kernel)
def f_X10_quorumNow (n : Nat) (o : Nat) (a1 : Int32) (M : Mem) : Option (Int32 × Mem) :=
  chk (isO M 10 o) <|
  obd (f_X10_brokenOnes n o M) fun r3 =>
  obd2 (f_X10_quorumBy n o a1 r3 M) fun r5 M6 =>
  some (r5, M6)
theorem cd_X10_quorumNow : (yX10_quorumNow.cls ≠ "java/lang/invoke/MethodHandle" ∧ yX10_quorumNow.cls ≠ "java/lang/invoke/VarHandle") ∧ (parseMethodDescriptor yX10_quorumNow.desc).map (fun d => d.parameters.length) = some 1 := ⟨⟨by decide +kernel, by decide +kernel⟩, by decide +kernel⟩
theorem k_X10_quorumNow (G : Gam) {n : Nat} {o : Nat} {a1 : Int32} {M : Mem} {rv : (Int32 × Mem)} (hf : f_X10_quorumNow n o a1 M = some rv) : Kt yX10_quorumNow cX10_quorumNow 2 (some .int) 3 69 G [.ref (gB G + o), .int a1] M rv.2 (some (.int rv.1)) := by
  refine Kt.of (by decide) (Nat.le_of_ble_eq_true rfl) ?_
  intro p l e R s m args below meth c X hr hlk hnm
  refine s_drop [0, 1] (vs' := [(0, .ref (gB G + o)), (1, .int a1)]) rfl ?_
  rw [f_X10_quorumNow] at hf
  refine s_aload_n X 0 dX10_quorumNow_0 rfl rfl ?_
  refine s_iload_n X 1 dX10_quorumNow_1 rfl rfl ?_
  refine s_aload_n X 0 dX10_quorumNow_2 rfl rfl ?_
  obtain ⟨h1, hf⟩ := pk_chk hf
  obtain ⟨r3, hc2, hf⟩ := pk_obd hf
  refine s_callV X (ci := 10) (k_X10_brokenOnes G hc2) rfl h1 wd1584 wd1586 wd56 wd1587 wd138 cd_X10_brokenOnes ⟨Nat.le_of_ble_eq_true rfl, Nat.le_of_ble_eq_true rfl⟩ (Nat.le_of_ble_eq_true rfl) dX10_quorumNow_3 ?_
  obtain ⟨r5, M6, hc4, hf⟩ := pk_obd2 hf
  refine s_callV X (ci := 10) (k_X10_quorumBy G hc4) rfl h1 wd1592 wd1594 wd58 wd1595 wd138 cd_X10_quorumBy ⟨Nat.le_of_ble_eq_true rfl, Nat.le_of_ble_eq_true rfl⟩ (Nat.le_of_ble_eq_true rfl) dX10_quorumNow_6 ?_
  cases hf
  exact s_iret X hr hlk dX10_quorumNow_9
theorem dX10_quorum_0 : decode cX10_quorum 0 = .ok (.aload_n 0, 1) := dk_42 (by decide +kernel)
theorem dX10_quorum_1 : decode cX10_quorum 1 = .ok (.iload_n 1, 1) := dk_27 (by decide +kernel)
theorem dX10_quorum_2 : decode cX10_quorum 2 = .ok (.invokevirtual 76, 3) := dk_182 (x := 0) (y := 76) (by decide +kernel) rfl
theorem dX10_quorum_5 : decode cX10_quorum 5 = .ok (.ifCond .ne 5, 3) := dk_154 (x := 0) (y := 5) (by decide +kernel) rfl
theorem dX10_quorum_8 : decode cX10_quorum 8 = .ok (.iconst (-1), 1) := dk_2 (by decide +kernel)
theorem dX10_quorum_9 : decode cX10_quorum 9 = .ok (.ireturn, 1) := dk_172 (by decide +kernel)
theorem dX10_quorum_10 : decode cX10_quorum 10 = .ok (.iload_n 2, 1) := dk_28 (by decide +kernel)
theorem dX10_quorum_11 : decode cX10_quorum 11 = .ok (.tableswitch 44 0 2 #[25, 31, 37], 25) := by decide +kernel
theorem dX10_quorum_36 : decode cX10_quorum 36 = .ok (.aload_n 0, 1) := dk_42 (by decide +kernel)
theorem dX10_quorum_37 : decode cX10_quorum 37 = .ok (.iload_n 1, 1) := dk_27 (by decide +kernel)
theorem dX10_quorum_38 : decode cX10_quorum 38 = .ok (.invokevirtual 80, 3) := dk_182 (x := 0) (y := 80) (by decide +kernel) rfl
theorem dX10_quorum_41 : decode cX10_quorum 41 = .ok (.ireturn, 1) := dk_172 (by decide +kernel)
theorem dX10_quorum_42 : decode cX10_quorum 42 = .ok (.aload_n 0, 1) := dk_42 (by decide +kernel)
theorem dX10_quorum_43 : decode cX10_quorum 43 = .ok (.iload_n 1, 1) := dk_27 (by decide +kernel)
theorem dX10_quorum_44 : decode cX10_quorum 44 = .ok (.invokevirtual 102, 3) := dk_182 (x := 0) (y := 102) (by decide +kernel) rfl
theorem dX10_quorum_47 : decode cX10_quorum 47 = .ok (.ireturn, 1) := dk_172 (by decide +kernel)
theorem dX10_quorum_48 : decode cX10_quorum 48 = .ok (.aload_n 0, 1) := dk_42 (by decide +kernel)
theorem dX10_quorum_49 : decode cX10_quorum 49 = .ok (.iload_n 1, 1) := dk_27 (by decide +kernel)
theorem dX10_quorum_50 : decode cX10_quorum 50 = .ok (.iconst 3, 1) := dk_6 (by decide +kernel)
theorem dX10_quorum_51 : decode cX10_quorum 51 = .ok (.invokevirtual 93, 3) := dk_182 (x := 0) (y := 93) (by decide +kernel) rfl
theorem dX10_quorum_54 : decode cX10_quorum 54 = .ok (.ireturn, 1) := dk_172 (by decide +kernel)
theorem dX10_quorum_55 : decode cX10_quorum 55 = .ok (.iconst (-1), 1) := dk_2 (by decide +kernel)
theorem dX10_quorum_56 : decode cX10_quorum 56 = .ok (.ireturn, 1) := dk_172 (by decide +kernel)
def f_X10_quorum (n : Nat) (o : Nat) (a1 : Int32) (a2 : Int32) (M : Mem) : Option (Int32 × Mem) :=
  chk (isO M 10 o) <|
  obd (f_X10_isNode o a1 M) fun r3 =>
  if r3 = 0 then (
    some ((-1 : Int32), M)
    ) else (
    if a2 = (0 : Int32) then (
      obd (f_X10_baseOf o a1 M) fun r9 =>
      some (r9, M)
      ) else (
    if a2 = (1 : Int32) then (
      obd2 (f_X10_quorumNow n o a1 M) fun r13 M14 =>
      some (r13, M14)
      ) else (
    if a2 = (2 : Int32) then (
      obd (f_X10_get o a1 (3 : Int32) M) fun r18 =>
      some (r18, M)
      ) else (
    some ((-1 : Int32), M)
    )
    )
    )
    )
theorem cd_X10_quorum : (yX10_quorum.cls ≠ "java/lang/invoke/MethodHandle" ∧ yX10_quorum.cls ≠ "java/lang/invoke/VarHandle") ∧ (parseMethodDescriptor yX10_quorum.desc).map (fun d => d.parameters.length) = some 2 := ⟨⟨by decide +kernel, by decide +kernel⟩, by decide +kernel⟩
theorem k_X10_quorum (G : Gam) {n : Nat} {o : Nat} {a1 : Int32} {a2 : Int32} {M : Mem} {rv : (Int32 × Mem)} (hf : f_X10_quorum n o a1 a2 M = some rv) : Kt yX10_quorum cX10_quorum 3 (some .int) 4 90 G [.ref (gB G + o), .int a1, .int a2] M rv.2 (some (.int rv.1)) := by
  refine Kt.of (by decide) (Nat.le_of_ble_eq_true rfl) ?_
  intro p l e R s m args below meth c X hr hlk hnm
  refine s_drop [0, 1, 2] (vs' := [(0, .ref (gB G + o)), (1, .int a1), (2, .int a2)]) rfl ?_
  rw [f_X10_quorum] at hf
  refine s_aload_n X 0 dX10_quorum_0 rfl rfl ?_
  refine s_iload_n X 1 dX10_quorum_1 rfl rfl ?_
  obtain ⟨h1, hf⟩ := pk_chk hf
  obtain ⟨r3, hc2, hf⟩ := pk_obd hf
  refine s_callV X (ci := 10) (k_X10_isNode G hc2) rfl h1 wd1554 wd1556 wd53 wd1557 wd138 cd_X10_isNode ⟨Nat.le_of_ble_eq_true rfl, Nat.le_of_ble_eq_true rfl⟩ (Nat.le_of_ble_eq_true rfl) dX10_quorum_2 ?_
  have hs4 := pk_ite hf
  clear hf
  refine s_if_ne X (tgt := 10) dX10_quorum_5 rfl (fun c5 => ?_) (fun c5 => ?_)
  · have hf := hs4.2 c5
    refine s_iload_n X 2 dX10_quorum_10 rfl rfl ?_
    have hs6 := pk_ite hf
    clear hf
    by_cases c7 : a2 = (0 : Int32)
    · have hf := hs6.1 c7
      refine s_swC X (v := (0 : Int32)) (tgt := 36) dX10_quorum_11 c7 (by decide) (by decide) rfl rfl ?_
      refine s_aload_n X 0 dX10_quorum_36 rfl rfl ?_
      refine s_iload_n X 1 dX10_quorum_37 rfl rfl ?_
      obtain ⟨r9, hc8, hf⟩ := pk_obd hf
      refine s_callV X (ci := 10) (k_X10_baseOf G hc8) rfl h1 wd1558 wd1560 wd54 wd1561 wd138 cd_X10_baseOf ⟨Nat.le_of_ble_eq_true rfl, Nat.le_of_ble_eq_true rfl⟩ (Nat.le_of_ble_eq_true rfl) dX10_quorum_38 ?_
      cases hf
      exact s_iret X hr hlk dX10_quorum_41
    have hf := hs6.2 c7
    have hs10 := pk_ite hf
    clear hf
    by_cases c11 : a2 = (1 : Int32)
    · have hf := hs10.1 c11
      refine s_swC X (v := (1 : Int32)) (tgt := 42) dX10_quorum_11 c11 (by decide) (by decide) rfl rfl ?_
      refine s_aload_n X 0 dX10_quorum_42 rfl rfl ?_
      refine s_iload_n X 1 dX10_quorum_43 rfl rfl ?_
      obtain ⟨r13, M14, hc12, hf⟩ := pk_obd2 hf
      refine s_callV X (ci := 10) (k_X10_quorumNow G hc12) rfl h1 wd1580 wd1582 wd55 wd1583 wd138 cd_X10_quorumNow ⟨Nat.le_of_ble_eq_true rfl, Nat.le_of_ble_eq_true rfl⟩ (Nat.le_of_ble_eq_true rfl) dX10_quorum_44 ?_
      cases hf
      exact s_iret X hr hlk dX10_quorum_47
    have hf := hs10.2 c11
    have hs15 := pk_ite hf
    clear hf
    by_cases c16 : a2 = (2 : Int32)
    · have hf := hs15.1 c16
      refine s_swC X (v := (2 : Int32)) (tgt := 48) dX10_quorum_11 c16 (by decide) (by decide) rfl rfl ?_
      refine s_aload_n X 0 dX10_quorum_48 rfl rfl ?_
      refine s_iload_n X 1 dX10_quorum_49 rfl rfl ?_
      refine s_iconst X (v := (3 : Int32)) dX10_quorum_50 rfl ?_
      obtain ⟨r18, hc17, hf⟩ := pk_obd hf
      refine s_callV X (ci := 10) (k_X10_get G hc17) rfl h1 wd1588 wd1590 wd57 wd1591 wd138 cd_X10_get ⟨Nat.le_of_ble_eq_true rfl, Nat.le_of_ble_eq_true rfl⟩ (Nat.le_of_ble_eq_true rfl) dX10_quorum_51 ?_
      cases hf
      exact s_iret X hr hlk dX10_quorum_54
    have hf := hs15.2 c16
    refine s_swOut X (tgt := 55) dX10_quorum_11 (by have := sw_ne (v := (0 : Int32)) (z := 0) c7 (by decide); have := sw_ne (v := (1 : Int32)) (z := 1) c11 (by decide); have := sw_ne (v := (2 : Int32)) (z := 2) c16 (by decide); omega) rfl ?_
    refine s_iconst X (v := (-1 : Int32)) dX10_quorum_55 rfl ?_
    cases hf
    exact s_iret X hr hlk dX10_quorum_56
  · have hf := hs4.1 c5
    refine s_iconst X (v := (-1 : Int32)) dX10_quorum_8 rfl ?_
    cases hf
    exact s_iret X hr hlk dX10_quorum_9
theorem dJ13_bitCount_95d88_0 : decode cJ13_bitCount_95d88 0 = .ok (.lload_n 0, 1) := dk_30 (by decide +kernel)
theorem dJ13_bitCount_95d88_1 : decode cJ13_bitCount_95d88 1 = .ok (.lload_n 0, 1) := dk_30 (by decide +kernel)
theorem dJ13_bitCount_95d88_2 : decode cJ13_bitCount_95d88 2 = .ok (.iconst 1, 1) := dk_4 (by decide +kernel)
theorem dJ13_bitCount_95d88_3 : decode cJ13_bitCount_95d88 3 = .ok (.lushr, 1) := dk_125 (by decide +kernel)
theorem dJ13_bitCount_95d88_4 : decode cJ13_bitCount_95d88 4 = .ok (.ldc2_w 314, 3) := dk_20 (x := 1) (y := 58) (by decide +kernel) rfl
theorem dJ13_bitCount_95d88_7 : decode cJ13_bitCount_95d88 7 = .ok (.land, 1) := dk_127 (by decide +kernel)
theorem dJ13_bitCount_95d88_8 : decode cJ13_bitCount_95d88 8 = .ok (.lsub, 1) := dk_101 (by decide +kernel)
theorem dJ13_bitCount_95d88_9 : decode cJ13_bitCount_95d88 9 = .ok (.lstore_n 0, 1) := dk_63 (by decide +kernel)
theorem dJ13_bitCount_95d88_10 : decode cJ13_bitCount_95d88 10 = .ok (.lload_n 0, 1) := dk_30 (by decide +kernel)
theorem dJ13_bitCount_95d88_11 : decode cJ13_bitCount_95d88 11 = .ok (.ldc2_w 316, 3) := dk_20 (x := 1) (y := 60) (by decide +kernel) rfl
theorem dJ13_bitCount_95d88_14 : decode cJ13_bitCount_95d88 14 = .ok (.land, 1) := dk_127 (by decide +kernel)
theorem dJ13_bitCount_95d88_15 : decode cJ13_bitCount_95d88 15 = .ok (.lload_n 0, 1) := dk_30 (by decide +kernel)
theorem dJ13_bitCount_95d88_16 : decode cJ13_bitCount_95d88 16 = .ok (.iconst 2, 1) := dk_5 (by decide +kernel)
theorem dJ13_bitCount_95d88_17 : decode cJ13_bitCount_95d88 17 = .ok (.lushr, 1) := dk_125 (by decide +kernel)
theorem dJ13_bitCount_95d88_18 : decode cJ13_bitCount_95d88 18 = .ok (.ldc2_w 316, 3) := dk_20 (x := 1) (y := 60) (by decide +kernel) rfl
theorem dJ13_bitCount_95d88_21 : decode cJ13_bitCount_95d88 21 = .ok (.land, 1) := dk_127 (by decide +kernel)
theorem dJ13_bitCount_95d88_22 : decode cJ13_bitCount_95d88 22 = .ok (.ladd, 1) := dk_97 (by decide +kernel)
theorem dJ13_bitCount_95d88_23 : decode cJ13_bitCount_95d88 23 = .ok (.lstore_n 0, 1) := dk_63 (by decide +kernel)
theorem dJ13_bitCount_95d88_24 : decode cJ13_bitCount_95d88 24 = .ok (.lload_n 0, 1) := dk_30 (by decide +kernel)
theorem dJ13_bitCount_95d88_25 : decode cJ13_bitCount_95d88 25 = .ok (.lload_n 0, 1) := dk_30 (by decide +kernel)
theorem dJ13_bitCount_95d88_26 : decode cJ13_bitCount_95d88 26 = .ok (.iconst 4, 1) := dk_7 (by decide +kernel)
theorem dJ13_bitCount_95d88_27 : decode cJ13_bitCount_95d88 27 = .ok (.lushr, 1) := dk_125 (by decide +kernel)
theorem dJ13_bitCount_95d88_28 : decode cJ13_bitCount_95d88 28 = .ok (.ladd, 1) := dk_97 (by decide +kernel)
theorem dJ13_bitCount_95d88_29 : decode cJ13_bitCount_95d88 29 = .ok (.ldc2_w 318, 3) := dk_20 (x := 1) (y := 62) (by decide +kernel) rfl
theorem dJ13_bitCount_95d88_32 : decode cJ13_bitCount_95d88 32 = .ok (.land, 1) := dk_127 (by decide +kernel)
theorem dJ13_bitCount_95d88_33 : decode cJ13_bitCount_95d88 33 = .ok (.lstore_n 0, 1) := dk_63 (by decide +kernel)
theorem dJ13_bitCount_95d88_34 : decode cJ13_bitCount_95d88 34 = .ok (.lload_n 0, 1) := dk_30 (by decide +kernel)
theorem dJ13_bitCount_95d88_35 : decode cJ13_bitCount_95d88 35 = .ok (.lload_n 0, 1) := dk_30 (by decide +kernel)
theorem dJ13_bitCount_95d88_36 : decode cJ13_bitCount_95d88 36 = .ok (.bipush 8, 2) := dk_16 (x := 8) (by decide +kernel) rfl
theorem dJ13_bitCount_95d88_38 : decode cJ13_bitCount_95d88 38 = .ok (.lushr, 1) := dk_125 (by decide +kernel)
theorem dJ13_bitCount_95d88_39 : decode cJ13_bitCount_95d88 39 = .ok (.ladd, 1) := dk_97 (by decide +kernel)
theorem dJ13_bitCount_95d88_40 : decode cJ13_bitCount_95d88 40 = .ok (.lstore_n 0, 1) := dk_63 (by decide +kernel)
theorem dJ13_bitCount_95d88_41 : decode cJ13_bitCount_95d88 41 = .ok (.lload_n 0, 1) := dk_30 (by decide +kernel)
theorem dJ13_bitCount_95d88_42 : decode cJ13_bitCount_95d88 42 = .ok (.lload_n 0, 1) := dk_30 (by decide +kernel)
theorem dJ13_bitCount_95d88_43 : decode cJ13_bitCount_95d88 43 = .ok (.bipush 16, 2) := dk_16 (x := 16) (by decide +kernel) rfl
theorem dJ13_bitCount_95d88_45 : decode cJ13_bitCount_95d88 45 = .ok (.lushr, 1) := dk_125 (by decide +kernel)
theorem dJ13_bitCount_95d88_46 : decode cJ13_bitCount_95d88 46 = .ok (.ladd, 1) := dk_97 (by decide +kernel)
theorem dJ13_bitCount_95d88_47 : decode cJ13_bitCount_95d88 47 = .ok (.lstore_n 0, 1) := dk_63 (by decide +kernel)
theorem dJ13_bitCount_95d88_48 : decode cJ13_bitCount_95d88 48 = .ok (.lload_n 0, 1) := dk_30 (by decide +kernel)
theorem dJ13_bitCount_95d88_49 : decode cJ13_bitCount_95d88 49 = .ok (.lload_n 0, 1) := dk_30 (by decide +kernel)
theorem dJ13_bitCount_95d88_50 : decode cJ13_bitCount_95d88 50 = .ok (.bipush 32, 2) := dk_16 (x := 32) (by decide +kernel) rfl
theorem dJ13_bitCount_95d88_52 : decode cJ13_bitCount_95d88 52 = .ok (.lushr, 1) := dk_125 (by decide +kernel)
theorem dJ13_bitCount_95d88_53 : decode cJ13_bitCount_95d88 53 = .ok (.ladd, 1) := dk_97 (by decide +kernel)
theorem dJ13_bitCount_95d88_54 : decode cJ13_bitCount_95d88 54 = .ok (.lstore_n 0, 1) := dk_63 (by decide +kernel)
theorem dJ13_bitCount_95d88_55 : decode cJ13_bitCount_95d88 55 = .ok (.lload_n 0, 1) := dk_30 (by decide +kernel)
theorem dJ13_bitCount_95d88_56 : decode cJ13_bitCount_95d88 56 = .ok (.l2i, 1) := dk_136 (by decide +kernel)
theorem dJ13_bitCount_95d88_57 : decode cJ13_bitCount_95d88 57 = .ok (.bipush 127, 2) := dk_16 (x := 127) (by decide +kernel) rfl
theorem dJ13_bitCount_95d88_59 : decode cJ13_bitCount_95d88 59 = .ok (.iand, 1) := dk_126 (by decide +kernel)
theorem dJ13_bitCount_95d88_60 : decode cJ13_bitCount_95d88 60 = .ok (.ireturn, 1) := dk_172 (by decide +kernel)
def f_J13_bitCount_95d88 (a1 : Int64) (M : Mem) : Option Int32 :=
  bnd (a1 - ((((a1).toUInt64 >>> (((1 : Int32)).toInt64.toUInt64 &&& Int64.toUInt64 63)).toInt64) &&& (6148914691236517205 : Int64))) fun x1 =>
  bnd ((x1 &&& (3689348814741910323 : Int64)) + ((((x1).toUInt64 >>> (((2 : Int32)).toInt64.toUInt64 &&& Int64.toUInt64 63)).toInt64) &&& (3689348814741910323 : Int64))) fun x3 =>
  bnd ((x3 + (((x3).toUInt64 >>> (((4 : Int32)).toInt64.toUInt64 &&& Int64.toUInt64 63)).toInt64)) &&& (1085102592571150095 : Int64)) fun x5 =>
  bnd (x5 + (((x5).toUInt64 >>> (((8 : Int32)).toInt64.toUInt64 &&& Int64.toUInt64 63)).toInt64)) fun x7 =>
  bnd (x7 + (((x7).toUInt64 >>> (((16 : Int32)).toInt64.toUInt64 &&& Int64.toUInt64 63)).toInt64)) fun x9 =>
  bnd (x9 + (((x9).toUInt64 >>> (((32 : Int32)).toInt64.toUInt64 &&& Int64.toUInt64 63)).toInt64)) fun x11 =>
  some (((x11).toInt32) &&& (127 : Int32))
theorem cd_J13_bitCount_95d88 : (yJ13_bitCount_95d88.cls ≠ "java/lang/invoke/MethodHandle" ∧ yJ13_bitCount_95d88.cls ≠ "java/lang/invoke/VarHandle") ∧ (parseMethodDescriptor yJ13_bitCount_95d88.desc).map (fun d => d.parameters.length) = some 1 := ⟨⟨by decide +kernel, by decide +kernel⟩, by decide +kernel⟩
theorem k_J13_bitCount_95d88 (G : Gam) {a1 : Int64} {M : Mem} {rv : Int32} (hf : f_J13_bitCount_95d88 a1 M = some rv) : Kt yJ13_bitCount_95d88 cJ13_bitCount_95d88 2 (some .int) 0 0 G [.long a1] M M (some (.int rv)) := by
  refine Kt.of (by decide) (Nat.le_of_ble_eq_true rfl) ?_
  intro p l e R s m args below meth c X hr hlk hnm
  refine s_drop [0] (vs' := [(0, .long a1)]) rfl ?_
  rw [f_J13_bitCount_95d88] at hf
  refine s_lload_n X 0 dJ13_bitCount_95d88_0 rfl rfl ?_
  refine s_lload_n X 0 dJ13_bitCount_95d88_1 rfl rfl ?_
  refine s_iconst X (v := (1 : Int32)) dJ13_bitCount_95d88_2 rfl ?_
  refine s_lushr X dJ13_bitCount_95d88_3 rfl ?_
  refine s_ldc2 X (v := (6148914691236517205 : Int64)) dJ13_bitCount_95d88_4 wd744 ?_
  refine s_land X dJ13_bitCount_95d88_7 ?_
  refine s_lsub X dJ13_bitCount_95d88_8 ?_
  obtain ⟨x1, e2, hf⟩ := pk_bnd hf
  refine s_nmL e2 ?_
  refine s_lstore_n X (vs' := [(0, .long x1)]) dJ13_bitCount_95d88_9 rfl (Nat.le_of_ble_eq_true rfl) [0] rfl ?_
  refine s_lload_n X 0 dJ13_bitCount_95d88_10 rfl rfl ?_
  refine s_ldc2 X (v := (3689348814741910323 : Int64)) dJ13_bitCount_95d88_11 wd745 ?_
  refine s_land X dJ13_bitCount_95d88_14 ?_
  refine s_lload_n X 0 dJ13_bitCount_95d88_15 rfl rfl ?_
  refine s_iconst X (v := (2 : Int32)) dJ13_bitCount_95d88_16 rfl ?_
  refine s_lushr X dJ13_bitCount_95d88_17 rfl ?_
  refine s_ldc2 X (v := (3689348814741910323 : Int64)) dJ13_bitCount_95d88_18 wd745 ?_
  refine s_land X dJ13_bitCount_95d88_21 ?_
  refine s_ladd X dJ13_bitCount_95d88_22 ?_
  obtain ⟨x3, e4, hf⟩ := pk_bnd hf
  refine s_nmL e4 ?_
  refine s_lstore_n X (vs' := [(0, .long x3)]) dJ13_bitCount_95d88_23 rfl (Nat.le_of_ble_eq_true rfl) [0] rfl ?_
  refine s_lload_n X 0 dJ13_bitCount_95d88_24 rfl rfl ?_
  refine s_lload_n X 0 dJ13_bitCount_95d88_25 rfl rfl ?_
  refine s_iconst X (v := (4 : Int32)) dJ13_bitCount_95d88_26 rfl ?_
  refine s_lushr X dJ13_bitCount_95d88_27 rfl ?_
  refine s_ladd X dJ13_bitCount_95d88_28 ?_
  refine s_ldc2 X (v := (1085102592571150095 : Int64)) dJ13_bitCount_95d88_29 wd746 ?_
  refine s_land X dJ13_bitCount_95d88_32 ?_
  obtain ⟨x5, e6, hf⟩ := pk_bnd hf
  refine s_nmL e6 ?_
  refine s_lstore_n X (vs' := [(0, .long x5)]) dJ13_bitCount_95d88_33 rfl (Nat.le_of_ble_eq_true rfl) [0] rfl ?_
  refine s_lload_n X 0 dJ13_bitCount_95d88_34 rfl rfl ?_
  refine s_lload_n X 0 dJ13_bitCount_95d88_35 rfl rfl ?_
  refine s_bipush X (v := (8 : Int32)) dJ13_bitCount_95d88_36 rfl ?_
  refine s_lushr X dJ13_bitCount_95d88_38 rfl ?_
  refine s_ladd X dJ13_bitCount_95d88_39 ?_
  obtain ⟨x7, e8, hf⟩ := pk_bnd hf
  refine s_nmL e8 ?_
  refine s_lstore_n X (vs' := [(0, .long x7)]) dJ13_bitCount_95d88_40 rfl (Nat.le_of_ble_eq_true rfl) [0] rfl ?_
  refine s_lload_n X 0 dJ13_bitCount_95d88_41 rfl rfl ?_
  refine s_lload_n X 0 dJ13_bitCount_95d88_42 rfl rfl ?_
  refine s_bipush X (v := (16 : Int32)) dJ13_bitCount_95d88_43 rfl ?_
  refine s_lushr X dJ13_bitCount_95d88_45 rfl ?_
  refine s_ladd X dJ13_bitCount_95d88_46 ?_
  obtain ⟨x9, e10, hf⟩ := pk_bnd hf
  refine s_nmL e10 ?_
  refine s_lstore_n X (vs' := [(0, .long x9)]) dJ13_bitCount_95d88_47 rfl (Nat.le_of_ble_eq_true rfl) [0] rfl ?_
  refine s_lload_n X 0 dJ13_bitCount_95d88_48 rfl rfl ?_
  refine s_lload_n X 0 dJ13_bitCount_95d88_49 rfl rfl ?_
  refine s_bipush X (v := (32 : Int32)) dJ13_bitCount_95d88_50 rfl ?_
  refine s_lushr X dJ13_bitCount_95d88_52 rfl ?_
  refine s_ladd X dJ13_bitCount_95d88_53 ?_
  obtain ⟨x11, e12, hf⟩ := pk_bnd hf
  refine s_nmL e12 ?_
  refine s_lstore_n X (vs' := [(0, .long x11)]) dJ13_bitCount_95d88_54 rfl (Nat.le_of_ble_eq_true rfl) [0] rfl ?_
  refine s_lload_n X 0 dJ13_bitCount_95d88_55 rfl rfl ?_
  refine s_l2i X dJ13_bitCount_95d88_56 ?_
  refine s_bipush X (v := (127 : Int32)) dJ13_bitCount_95d88_57 rfl ?_
  refine s_iand X dJ13_bitCount_95d88_59 ?_
  cases hf
  exact s_iret X hr hlk dJ13_bitCount_95d88_60
theorem dX9_lowest_0 : decode cX9_lowest 0 = .ok (.lload_n 0, 1) := dk_30 (by decide +kernel)
theorem dX9_lowest_1 : decode cX9_lowest 1 = .ok (.lconst 0, 1) := dk_9 (by decide +kernel)
theorem dX9_lowest_2 : decode cX9_lowest 2 = .ok (.lcmp, 1) := dk_148 (by decide +kernel)
theorem dX9_lowest_3 : decode cX9_lowest 3 = .ok (.ifCond .ne 7, 3) := dk_154 (x := 0) (y := 7) (by decide +kernel) rfl
theorem dX9_lowest_6 : decode cX9_lowest 6 = .ok (.iconst (-1), 1) := dk_2 (by decide +kernel)
theorem dX9_lowest_7 : decode cX9_lowest 7 = .ok (.goto 12, 3) := dk_167 (x := 0) (y := 12) (by decide +kernel) rfl
theorem dX9_lowest_10 : decode cX9_lowest 10 = .ok (.lload_n 0, 1) := dk_30 (by decide +kernel)
theorem dX9_lowest_11 : decode cX9_lowest 11 = .ok (.lload_n 0, 1) := dk_30 (by decide +kernel)
theorem dX9_lowest_12 : decode cX9_lowest 12 = .ok (.lneg, 1) := dk_117 (by decide +kernel)
theorem dX9_lowest_13 : decode cX9_lowest 13 = .ok (.land, 1) := dk_127 (by decide +kernel)
theorem dX9_lowest_14 : decode cX9_lowest 14 = .ok (.lconst 1, 1) := dk_10 (by decide +kernel)
theorem dX9_lowest_15 : decode cX9_lowest 15 = .ok (.lsub, 1) := dk_101 (by decide +kernel)
theorem dX9_lowest_16 : decode cX9_lowest 16 = .ok (.invokestatic 382, 3) := dk_184 (x := 1) (y := 126) (by decide +kernel) rfl
theorem dX9_lowest_19 : decode cX9_lowest 19 = .ok (.ireturn, 1) := dk_172 (by decide +kernel)
def f_X9_lowest (a1 : Int64) (M : Mem) : Option Int32 :=
  if (lg_cmp a1 (0 : Int64)) = 0 then (
    some (-1 : Int32)
    ) else (
    obd (f_J13_bitCount_95d88 ((a1 &&& (-a1)) - (1 : Int64)) M) fun r4 =>
    some r4
    )
theorem cd_X9_lowest : (yX9_lowest.cls ≠ "java/lang/invoke/MethodHandle" ∧ yX9_lowest.cls ≠ "java/lang/invoke/VarHandle") ∧ (parseMethodDescriptor yX9_lowest.desc).map (fun d => d.parameters.length) = some 1 := ⟨⟨by decide +kernel, by decide +kernel⟩, by decide +kernel⟩
theorem k_X9_lowest (G : Gam) {a1 : Int64} {M : Mem} {rv : Int32} (hf : f_X9_lowest a1 M = some rv) : Kt yX9_lowest cX9_lowest 2 (some .int) 1 21 G [.long a1] M M (some (.int rv)) := by
  refine Kt.of (by decide) (Nat.le_of_ble_eq_true rfl) ?_
  intro p l e R s m args below meth c X hr hlk hnm
  refine s_drop [0] (vs' := [(0, .long a1)]) rfl ?_
  rw [f_X9_lowest] at hf
  refine s_lload_n X 0 dX9_lowest_0 rfl rfl ?_
  refine s_lconst X (v := (0 : Int64)) dX9_lowest_1 rfl ?_
  refine s_lcmp X dX9_lowest_2 ?_
  have hs1 := pk_ite hf
  clear hf
  refine s_if_ne X (tgt := 10) dX9_lowest_3 rfl (fun c2 => ?_) (fun c2 => ?_)
  · have hf := hs1.2 c2
    refine s_lload_n X 0 dX9_lowest_10 rfl rfl ?_
    refine s_lload_n X 0 dX9_lowest_11 rfl rfl ?_
    refine s_lneg X dX9_lowest_12 ?_
    refine s_land X dX9_lowest_13 ?_
    refine s_lconst X (v := (1 : Int64)) dX9_lowest_14 rfl ?_
    refine s_lsub X dX9_lowest_15 ?_
    obtain ⟨r4, hc3, hf⟩ := pk_obd hf
    refine s_callS X (k_J13_bitCount_95d88 G hc3) wd741 wd742 wd743 wd140 cd_J13_bitCount_95d88 ⟨Nat.le_of_ble_eq_true rfl, Nat.le_of_ble_eq_true rfl⟩ (Nat.le_of_ble_eq_true rfl) dX9_lowest_16 ?_
    cases hf
    exact s_iret X hr hlk dX9_lowest_19
  · have hf := hs1.1 c2
    refine s_iconst X (v := (-1 : Int32)) dX9_lowest_6 rfl ?_
    refine s_goto X (tgt := 19) dX9_lowest_7 rfl ?_
    cases hf
    exact s_iret X hr hlk dX9_lowest_19
theorem dX9_meeting_0 : decode cX9_meeting 0 = .ok (.aload_n 0, 1) := dk_42 (by decide +kernel)
theorem dX9_meeting_1 : decode cX9_meeting 1 = .ok (.getfield 10, 3) := dk_180 (x := 0) (y := 10) (by decide +kernel) rfl
theorem dX9_meeting_4 : decode cX9_meeting 4 = .ok (.iload_n 1, 1) := dk_27 (by decide +kernel)
theorem dX9_meeting_5 : decode cX9_meeting 5 = .ok (.invokevirtual 71, 3) := dk_182 (x := 0) (y := 71) (by decide +kernel) rfl
theorem dX9_meeting_8 : decode cX9_meeting 8 = .ok (.ifCond .eq 14, 3) := dk_153 (x := 0) (y := 14) (by decide +kernel) rfl
theorem dX9_meeting_11 : decode cX9_meeting 11 = .ok (.aload_n 0, 1) := dk_42 (by decide +kernel)
theorem dX9_meeting_12 : decode cX9_meeting 12 = .ok (.getfield 10, 3) := dk_180 (x := 0) (y := 10) (by decide +kernel) rfl
theorem dX9_meeting_15 : decode cX9_meeting 15 = .ok (.iload_n 2, 1) := dk_28 (by decide +kernel)
theorem dX9_meeting_16 : decode cX9_meeting 16 = .ok (.invokevirtual 71, 3) := dk_182 (x := 0) (y := 71) (by decide +kernel) rfl
theorem dX9_meeting_19 : decode cX9_meeting 19 = .ok (.ifCond .ne 5, 3) := dk_154 (x := 0) (y := 5) (by decide +kernel) rfl
theorem dX9_meeting_22 : decode cX9_meeting 22 = .ok (.iconst (-1), 1) := dk_2 (by decide +kernel)
theorem dX9_meeting_23 : decode cX9_meeting 23 = .ok (.ireturn, 1) := dk_172 (by decide +kernel)
theorem dX9_meeting_24 : decode cX9_meeting 24 = .ok (.aload_n 0, 1) := dk_42 (by decide +kernel)
theorem dX9_meeting_25 : decode cX9_meeting 25 = .ok (.getfield 10, 3) := dk_180 (x := 0) (y := 10) (by decide +kernel) rfl
theorem dX9_meeting_28 : decode cX9_meeting 28 = .ok (.getfield 92, 3) := dk_180 (x := 0) (y := 92) (by decide +kernel) rfl
theorem dX9_meeting_31 : decode cX9_meeting 31 = .ok (.iload_n 1, 1) := dk_27 (by decide +kernel)
theorem dX9_meeting_32 : decode cX9_meeting 32 = .ok (.iaload, 1) := dk_46 (by decide +kernel)
theorem dX9_meeting_33 : decode cX9_meeting 33 = .ok (.aload_n 0, 1) := dk_42 (by decide +kernel)
theorem dX9_meeting_34 : decode cX9_meeting 34 = .ok (.getfield 10, 3) := dk_180 (x := 0) (y := 10) (by decide +kernel) rfl
theorem dX9_meeting_37 : decode cX9_meeting 37 = .ok (.getfield 92, 3) := dk_180 (x := 0) (y := 92) (by decide +kernel) rfl
theorem dX9_meeting_40 : decode cX9_meeting 40 = .ok (.iload_n 2, 1) := dk_28 (by decide +kernel)
theorem dX9_meeting_41 : decode cX9_meeting 41 = .ok (.iaload, 1) := dk_46 (by decide +kernel)
theorem dX9_meeting_42 : decode cX9_meeting 42 = .ok (.iand, 1) := dk_126 (by decide +kernel)
theorem dX9_meeting_43 : decode cX9_meeting 43 = .ok (.i2l, 1) := dk_133 (by decide +kernel)
theorem dX9_meeting_44 : decode cX9_meeting 44 = .ok (.invokestatic 108, 3) := dk_184 (x := 0) (y := 108) (by decide +kernel) rfl
theorem dX9_meeting_47 : decode cX9_meeting 47 = .ok (.ireturn, 1) := dk_172 (by decide +kernel)
def f_X9_meeting (o : Nat) (a1 : Int32) (a2 : Int32) (M : Mem) : Option Int32 :=
  chk (isO M 9 o) <|
  bnd (mR M o 0) fun o2 =>
  chk (isO M 7 o2) <|
  obd (f_X7_isNode o2 a1 M) fun r6 =>
  if r6 = 0 then (
    some (-1 : Int32)
    ) else (
    bnd (mR M o 0) fun o9 =>
    chk (isO M 7 o9) <|
    obd (f_X7_isNode o9 a2 M) fun r13 =>
    if r13 = 0 then (
      some (-1 : Int32)
      ) else (
      bnd (mR M o 0) fun o16 =>
      chk (isO M 7 o16) <|
      bnd (mR M o16 0) fun o19 =>
      chk (isO M 100 o19) <|
      chk (inB a1 (mLn M o19)) <|
      bnd (mR M o 0) fun o23 =>
      chk (isO M 7 o23) <|
      bnd (mR M o23 0) fun o26 =>
      chk (isO M 100 o26) <|
      chk (inB a2 (mLn M o26)) <|
      obd (f_X9_lowest ((((mI M o19 (a1).toNatClampNeg) &&& (mI M o26 (a2).toNatClampNeg))).toInt64) M) fun r31 =>
      some r31
      )
    )
theorem cd_X9_meeting : (yX9_meeting.cls ≠ "java/lang/invoke/MethodHandle" ∧ yX9_meeting.cls ≠ "java/lang/invoke/VarHandle") ∧ (parseMethodDescriptor yX9_meeting.desc).map (fun d => d.parameters.length) = some 2 := ⟨⟨by decide +kernel, by decide +kernel⟩, by decide +kernel⟩
theorem k_X9_meeting (G : Gam) {o : Nat} {a1 : Int32} {a2 : Int32} {M : Mem} {rv : Int32} (hf : f_X9_meeting o a1 a2 M = some rv) : Kt yX9_meeting cX9_meeting 3 (some .int) 2 42 G [.ref (gB G + o), .int a1, .int a2] M M (some (.int rv)) := by
  refine Kt.of (by decide) (Nat.le_of_ble_eq_true rfl) ?_
  intro p l e R s m args below meth c X hr hlk hnm
  refine s_drop [0, 1, 2] (vs' := [(0, .ref (gB G + o)), (1, .int a1), (2, .int a2)]) rfl ?_
  rw [f_X9_meeting] at hf
  refine s_aload_n X 0 dX9_meeting_0 rfl rfl ?_
  obtain ⟨h1, hf⟩ := pk_chk hf
  obtain ⟨o2, e3, hf⟩ := pk_bnd hf
  obtain ⟨h4, hf⟩ := pk_chk hf
  refine s_getR X (ci := 9) (k := 0) rfl (Nat.le_of_ble_eq_true rfl) h1 wd627 (fun _ _ _ => rfl) (e3 ▸ h4) dX9_meeting_1 (e3 ▸ ?_)
  refine s_iload_n X 1 dX9_meeting_4 rfl rfl ?_
  obtain ⟨r6, hc5, hf⟩ := pk_obd hf
  refine s_callV X (ci := 7) (k_X7_isNode G hc5) rfl h4 wd699 wd700 wd701 wd702 wd127 cd_X7_isNode ⟨Nat.le_of_ble_eq_true rfl, Nat.le_of_ble_eq_true rfl⟩ (Nat.le_of_ble_eq_true rfl) dX9_meeting_5 ?_
  have hs7 := pk_ite hf
  clear hf
  refine s_if_eq X (tgt := 22) dX9_meeting_8 rfl (fun c8 => ?_) (fun c8 => ?_)
  · have hf := hs7.1 c8
    refine s_iconst X (v := (-1 : Int32)) dX9_meeting_22 rfl ?_
    cases hf
    exact s_iret X hr hlk dX9_meeting_23
  · have hf := hs7.2 c8
    refine s_aload_n X 0 dX9_meeting_11 rfl rfl ?_
    obtain ⟨o9, e10, hf⟩ := pk_bnd hf
    obtain ⟨h11, hf⟩ := pk_chk hf
    refine s_getR X (ci := 9) (k := 0) rfl (Nat.le_of_ble_eq_true rfl) h1 wd627 (fun _ _ _ => rfl) (e10 ▸ h11) dX9_meeting_12 (e10 ▸ ?_)
    refine s_iload_n X 2 dX9_meeting_15 rfl rfl ?_
    obtain ⟨r13, hc12, hf⟩ := pk_obd hf
    refine s_callV X (ci := 7) (k_X7_isNode G hc12) rfl h11 wd699 wd700 wd701 wd702 wd127 cd_X7_isNode ⟨Nat.le_of_ble_eq_true rfl, Nat.le_of_ble_eq_true rfl⟩ (Nat.le_of_ble_eq_true rfl) dX9_meeting_16 ?_
    have hs14 := pk_ite hf
    clear hf
    refine s_if_ne X (tgt := 24) dX9_meeting_19 rfl (fun c15 => ?_) (fun c15 => ?_)
    · have hf := hs14.2 c15
      refine s_aload_n X 0 dX9_meeting_24 rfl rfl ?_
      obtain ⟨o16, e17, hf⟩ := pk_bnd hf
      obtain ⟨h18, hf⟩ := pk_chk hf
      refine s_getR X (ci := 9) (k := 0) rfl (Nat.le_of_ble_eq_true rfl) h1 wd627 (fun _ _ _ => rfl) (e17 ▸ h18) dX9_meeting_25 (e17 ▸ ?_)
      obtain ⟨o19, e20, hf⟩ := pk_bnd hf
      obtain ⟨h21, hf⟩ := pk_chk hf
      refine s_getR X (ci := 7) (k := 0) rfl (Nat.le_of_ble_eq_true rfl) h18 wd162 (fun _ _ _ => rfl) (e20 ▸ h21) dX9_meeting_28 (e20 ▸ ?_)
      refine s_iload_n X 1 dX9_meeting_31 rfl rfl ?_
      obtain ⟨h22, hf⟩ := pk_chk hf
      refine s_iald X h21 h22 dX9_meeting_32 ?_
      refine s_aload_n X 0 dX9_meeting_33 rfl rfl ?_
      obtain ⟨o23, e24, hf⟩ := pk_bnd hf
      obtain ⟨h25, hf⟩ := pk_chk hf
      refine s_getR X (ci := 9) (k := 0) rfl (Nat.le_of_ble_eq_true rfl) h1 wd627 (fun _ _ _ => rfl) (e24 ▸ h25) dX9_meeting_34 (e24 ▸ ?_)
      obtain ⟨o26, e27, hf⟩ := pk_bnd hf
      obtain ⟨h28, hf⟩ := pk_chk hf
      refine s_getR X (ci := 7) (k := 0) rfl (Nat.le_of_ble_eq_true rfl) h25 wd162 (fun _ _ _ => rfl) (e27 ▸ h28) dX9_meeting_37 (e27 ▸ ?_)
      refine s_iload_n X 2 dX9_meeting_40 rfl rfl ?_
      obtain ⟨h29, hf⟩ := pk_chk hf
      refine s_iald X h28 h29 dX9_meeting_41 ?_
      refine s_iand X dX9_meeting_42 ?_
      refine s_i2l X dX9_meeting_43 ?_
      obtain ⟨r31, hc30, hf⟩ := pk_obd hf
      refine s_callS X (k_X9_lowest G hc30) wd738 wd739 wd740 wd126 cd_X9_lowest ⟨Nat.le_of_ble_eq_true rfl, Nat.le_of_ble_eq_true rfl⟩ (Nat.le_of_ble_eq_true rfl) dX9_meeting_44 ?_
      cases hf
      exact s_iret X hr hlk dX9_meeting_47
    · have hf := hs14.1 c15
      refine s_iconst X (v := (-1 : Int32)) dX9_meeting_22 rfl ?_
      cases hf
      exact s_iret X hr hlk dX9_meeting_23
theorem dX10_first_0 : decode cX10_first 0 = .ok (.iconst 0, 1) := dk_3 (by decide +kernel)
theorem dX10_first_1 : decode cX10_first 1 = .ok (.istore_n 1, 1) := dk_60 (by decide +kernel)
theorem dX10_first_2 : decode cX10_first 2 = .ok (.iload_n 0, 1) := dk_26 (by decide +kernel)
theorem dX10_first_3 : decode cX10_first 3 = .ok (.iload_n 1, 1) := dk_27 (by decide +kernel)
theorem dX10_first_4 : decode cX10_first 4 = .ok (.invokestatic 45, 3) := dk_184 (x := 0) (y := 45) (by decide +kernel) rfl
theorem dX10_first_7 : decode cX10_first 7 = .ok (.ifCond .ne 9, 3) := dk_154 (x := 0) (y := 9) (by decide +kernel) rfl
theorem dX10_first_10 : decode cX10_first 10 = .ok (.iinc 1 1, 3) := dk_132 (x := 1) (y := 1) (by decide +kernel) rfl
theorem dX10_first_13 : decode cX10_first 13 = .ok (.goto (-11), 3) := dk_167 (x := 255) (y := 245) (by decide +kernel) rfl
theorem dX10_first_16 : decode cX10_first 16 = .ok (.iload_n 1, 1) := dk_27 (by decide +kernel)
theorem dX10_first_17 : decode cX10_first 17 = .ok (.ireturn, 1) := dk_172 (by decide +kernel)
def f_X10_first_2 (M : Mem) : Nat → Int32 → Int32 → Option Int32
  | 0, _, _ => none
  | n + 1, v0, v1 =>
    obd (f_X10_has v0 v1 M) fun r2 =>
    if r2 = 0 then (
      bnd (v1 + (1 : Int32)) fun x5 =>
      f_X10_first_2 M n v0 x5
      ) else (
      some v1
      )
def f_X10_first (n : Nat) (a1 : Int32) (M : Mem) : Option Int32 :=
  f_X10_first_2 M n a1 (0 : Int32)
theorem cd_X10_first : (yX10_first.cls ≠ "java/lang/invoke/MethodHandle" ∧ yX10_first.cls ≠ "java/lang/invoke/VarHandle") ∧ (parseMethodDescriptor yX10_first.desc).map (fun d => d.parameters.length) = some 1 := ⟨⟨by decide +kernel, by decide +kernel⟩, by decide +kernel⟩
section
variable {p : Program} {l : Launch} {e : Env} {R : Room} {s : State} {m : MethodId} {args : Array Value} {below : List Frame} {meth : Method} {c : Code} {G : Gam} {M0 : Mem}
theorem l_X10_first_2 {M : Mem} {rv : Int32} (X : Cx p R s m args c G M0 cX10_first yX10_first.cls 2 1 21) (hr : meth.sig.returnType = (some .int)) (hlk : meth.locks = false) (hnm : meth.name = "first") : ∀ {n : Nat} (v0 : Int32) (v1 : Int32), f_X10_first_2 M n v0 v1 = some rv → Sg p l e R s m args below meth c (Qm below G args s (some (.int rv)) M0 M) G M0 2 2 [(0, .int v0), (1, .int v1)] [] M := by
  intro n
  induction n with
  | zero => intro v0 v1 hf; exact (pk_none hf).elim
  | succ n ih =>
    intro v0 v1 hf
    rw [f_X10_first_2] at hf
    refine s_iload_n X 0 dX10_first_2 rfl rfl ?_
    refine s_iload_n X 1 dX10_first_3 rfl rfl ?_
    obtain ⟨r2, hc1, hf⟩ := pk_obd hf
    refine s_callS X (k_X10_has G hc1) wd1565 wd1566 wd1567 wd138 cd_X10_has ⟨Nat.le_of_ble_eq_true rfl, Nat.le_of_ble_eq_true rfl⟩ (Nat.le_of_ble_eq_true rfl) dX10_first_4 ?_
    have hs3 := pk_ite hf
    clear hf
    refine s_if_ne X (tgt := 16) dX10_first_7 rfl (fun c4 => ?_) (fun c4 => ?_)
    · have hf := hs3.2 c4
      refine s_iload_n X 1 dX10_first_16 rfl rfl ?_
      cases hf
      exact s_iret X hr hlk dX10_first_17
    · have hf := hs3.1 c4
      obtain ⟨x5, e6, hf⟩ := pk_bnd hf
      refine s_iinc X (vs' := [(0, .int v0), (1, .int x5)]) 1 dX10_first_10 rfl (v := x5) e6.symm (Nat.le_of_ble_eq_true rfl) [1, 0] rfl ?_
      refine s_goto X (tgt := 2) dX10_first_13 rfl ?_
      exact ih _ _ hf
end
theorem k_X10_first (G : Gam) {n : Nat} {a1 : Int32} {M : Mem} {rv : Int32} (hf : f_X10_first n a1 M = some rv) : Kt yX10_first cX10_first 2 (some .int) 1 21 G [.int a1] M M (some (.int rv)) := by
  refine Kt.of (by decide) (Nat.le_of_ble_eq_true rfl) ?_
  intro p l e R s m args below meth c X hr hlk hnm
  refine s_drop [0] (vs' := [(0, .int a1)]) rfl ?_
  rw [f_X10_first] at hf
  refine s_iconst X (v := (0 : Int32)) dX10_first_0 rfl ?_
  refine s_istore_n X (vs' := [(0, .int a1), (1, .int (0 : Int32))]) dX10_first_1 rfl (Nat.le_of_ble_eq_true rfl) [1, 0] rfl ?_
  exact l_X10_first_2 X hr hlk hnm _ _ hf
theorem dX10_meeting_0 : decode cX10_meeting 0 = .ok (.aload_n 0, 1) := dk_42 (by decide +kernel)
theorem dX10_meeting_1 : decode cX10_meeting 1 = .ok (.iload_n 1, 1) := dk_27 (by decide +kernel)
theorem dX10_meeting_2 : decode cX10_meeting 2 = .ok (.invokevirtual 76, 3) := dk_182 (x := 0) (y := 76) (by decide +kernel) rfl
theorem dX10_meeting_5 : decode cX10_meeting 5 = .ok (.ifCond .eq 11, 3) := dk_153 (x := 0) (y := 11) (by decide +kernel) rfl
theorem dX10_meeting_8 : decode cX10_meeting 8 = .ok (.aload_n 0, 1) := dk_42 (by decide +kernel)
theorem dX10_meeting_9 : decode cX10_meeting 9 = .ok (.iload_n 2, 1) := dk_28 (by decide +kernel)
theorem dX10_meeting_10 : decode cX10_meeting 10 = .ok (.invokevirtual 76, 3) := dk_182 (x := 0) (y := 76) (by decide +kernel) rfl
theorem dX10_meeting_13 : decode cX10_meeting 13 = .ok (.ifCond .ne 5, 3) := dk_154 (x := 0) (y := 5) (by decide +kernel) rfl
theorem dX10_meeting_16 : decode cX10_meeting 16 = .ok (.iconst (-1), 1) := dk_2 (by decide +kernel)
theorem dX10_meeting_17 : decode cX10_meeting 17 = .ok (.ireturn, 1) := dk_172 (by decide +kernel)
theorem dX10_meeting_18 : decode cX10_meeting 18 = .ok (.aload_n 0, 1) := dk_42 (by decide +kernel)
theorem dX10_meeting_19 : decode cX10_meeting 19 = .ok (.iload_n 1, 1) := dk_27 (by decide +kernel)
theorem dX10_meeting_20 : decode cX10_meeting 20 = .ok (.invokevirtual 80, 3) := dk_182 (x := 0) (y := 80) (by decide +kernel) rfl
theorem dX10_meeting_23 : decode cX10_meeting 23 = .ok (.aload_n 0, 1) := dk_42 (by decide +kernel)
theorem dX10_meeting_24 : decode cX10_meeting 24 = .ok (.iload_n 2, 1) := dk_28 (by decide +kernel)
theorem dX10_meeting_25 : decode cX10_meeting 25 = .ok (.invokevirtual 80, 3) := dk_182 (x := 0) (y := 80) (by decide +kernel) rfl
theorem dX10_meeting_28 : decode cX10_meeting 28 = .ok (.iand, 1) := dk_126 (by decide +kernel)
theorem dX10_meeting_29 : decode cX10_meeting 29 = .ok (.istore_n 3, 1) := dk_62 (by decide +kernel)
theorem dX10_meeting_30 : decode cX10_meeting 30 = .ok (.iload_n 3, 1) := dk_29 (by decide +kernel)
theorem dX10_meeting_31 : decode cX10_meeting 31 = .ok (.ifCond .ne 7, 3) := dk_154 (x := 0) (y := 7) (by decide +kernel) rfl
theorem dX10_meeting_34 : decode cX10_meeting 34 = .ok (.iconst (-1), 1) := dk_2 (by decide +kernel)
theorem dX10_meeting_35 : decode cX10_meeting 35 = .ok (.goto 7, 3) := dk_167 (x := 0) (y := 7) (by decide +kernel) rfl
theorem dX10_meeting_38 : decode cX10_meeting 38 = .ok (.iload_n 3, 1) := dk_29 (by decide +kernel)
theorem dX10_meeting_39 : decode cX10_meeting 39 = .ok (.invokestatic 105, 3) := dk_184 (x := 0) (y := 105) (by decide +kernel) rfl
theorem dX10_meeting_42 : decode cX10_meeting 42 = .ok (.ireturn, 1) := dk_172 (by decide +kernel)
def f_X10_meeting (n : Nat) (o : Nat) (a1 : Int32) (a2 : Int32) (M : Mem) : Option Int32 :=
  chk (isO M 10 o) <|
  obd (f_X10_isNode o a1 M) fun r3 =>
  if r3 = 0 then (
    some (-1 : Int32)
    ) else (
    obd (f_X10_isNode o a2 M) fun r7 =>
    if r7 = 0 then (
      some (-1 : Int32)
      ) else (
      obd (f_X10_baseOf o a1 M) fun r11 =>
      obd (f_X10_baseOf o a2 M) fun r13 =>
      bnd (r11 &&& r13) fun x14 =>
      if x14 = 0 then (
        some (-1 : Int32)
        ) else (
        obd (f_X10_first n x14 M) fun r19 =>
        some r19
        )
      )
    )
theorem cd_X10_meeting : (yX10_meeting.cls ≠ "java/lang/invoke/MethodHandle" ∧ yX10_meeting.cls ≠ "java/lang/invoke/VarHandle") ∧ (parseMethodDescriptor yX10_meeting.desc).map (fun d => d.parameters.length) = some 2 := ⟨⟨by decide +kernel, by decide +kernel⟩, by decide +kernel⟩
theorem k_X10_meeting (G : Gam) {n : Nat} {o : Nat} {a1 : Int32} {a2 : Int32} {M : Mem} {rv : Int32} (hf : f_X10_meeting n o a1 a2 M = some rv) : Kt yX10_meeting cX10_meeting 4 (some .int) 2 43 G [.ref (gB G + o), .int a1, .int a2] M M (some (.int rv)) := by
  refine Kt.of (by decide) (Nat.le_of_ble_eq_true rfl) ?_
  intro p l e R s m args below meth c X hr hlk hnm
  refine s_drop [0, 1, 2] (vs' := [(0, .ref (gB G + o)), (1, .int a1), (2, .int a2)]) rfl ?_
  rw [f_X10_meeting] at hf
  refine s_aload_n X 0 dX10_meeting_0 rfl rfl ?_
  refine s_iload_n X 1 dX10_meeting_1 rfl rfl ?_
  obtain ⟨h1, hf⟩ := pk_chk hf
  obtain ⟨r3, hc2, hf⟩ := pk_obd hf
  refine s_callV X (ci := 10) (k_X10_isNode G hc2) rfl h1 wd1554 wd1556 wd53 wd1557 wd138 cd_X10_isNode ⟨Nat.le_of_ble_eq_true rfl, Nat.le_of_ble_eq_true rfl⟩ (Nat.le_of_ble_eq_true rfl) dX10_meeting_2 ?_
  have hs4 := pk_ite hf
  clear hf
  refine s_if_eq X (tgt := 16) dX10_meeting_5 rfl (fun c5 => ?_) (fun c5 => ?_)
  · have hf := hs4.1 c5
    refine s_iconst X (v := (-1 : Int32)) dX10_meeting_16 rfl ?_
    cases hf
    exact s_iret X hr hlk dX10_meeting_17
  · have hf := hs4.2 c5
    refine s_aload_n X 0 dX10_meeting_8 rfl rfl ?_
    refine s_iload_n X 2 dX10_meeting_9 rfl rfl ?_
    obtain ⟨r7, hc6, hf⟩ := pk_obd hf
    refine s_callV X (ci := 10) (k_X10_isNode G hc6) rfl h1 wd1554 wd1556 wd53 wd1557 wd138 cd_X10_isNode ⟨Nat.le_of_ble_eq_true rfl, Nat.le_of_ble_eq_true rfl⟩ (Nat.le_of_ble_eq_true rfl) dX10_meeting_10 ?_
    have hs8 := pk_ite hf
    clear hf
    refine s_if_ne X (tgt := 18) dX10_meeting_13 rfl (fun c9 => ?_) (fun c9 => ?_)
    · have hf := hs8.2 c9
      refine s_aload_n X 0 dX10_meeting_18 rfl rfl ?_
      refine s_iload_n X 1 dX10_meeting_19 rfl rfl ?_
      obtain ⟨r11, hc10, hf⟩ := pk_obd hf
      refine s_callV X (ci := 10) (k_X10_baseOf G hc10) rfl h1 wd1558 wd1560 wd54 wd1561 wd138 cd_X10_baseOf ⟨Nat.le_of_ble_eq_true rfl, Nat.le_of_ble_eq_true rfl⟩ (Nat.le_of_ble_eq_true rfl) dX10_meeting_20 ?_
      refine s_aload_n X 0 dX10_meeting_23 rfl rfl ?_
      refine s_iload_n X 2 dX10_meeting_24 rfl rfl ?_
      obtain ⟨r13, hc12, hf⟩ := pk_obd hf
      refine s_callV X (ci := 10) (k_X10_baseOf G hc12) rfl h1 wd1558 wd1560 wd54 wd1561 wd138 cd_X10_baseOf ⟨Nat.le_of_ble_eq_true rfl, Nat.le_of_ble_eq_true rfl⟩ (Nat.le_of_ble_eq_true rfl) dX10_meeting_25 ?_
      refine s_iand X dX10_meeting_28 ?_
      obtain ⟨x14, e15, hf⟩ := pk_bnd hf
      refine s_nmI e15 ?_
      refine s_istore_n X (vs' := [(0, .ref (gB G + o)), (1, .int a1), (2, .int a2), (3, .int x14)]) dX10_meeting_29 rfl (Nat.le_of_ble_eq_true rfl) [1, 2, 3, 0] rfl ?_
      refine s_iload_n X 3 dX10_meeting_30 rfl rfl ?_
      have hs16 := pk_ite hf
      clear hf
      refine s_if_ne X (tgt := 38) dX10_meeting_31 rfl (fun c17 => ?_) (fun c17 => ?_)
      · have hf := hs16.2 c17
        refine s_iload_n X 3 dX10_meeting_38 rfl rfl ?_
        obtain ⟨r19, hc18, hf⟩ := pk_obd hf
        refine s_callS X (k_X10_first G hc18) wd1604 wd1605 wd1606 wd138 cd_X10_first ⟨Nat.le_of_ble_eq_true rfl, Nat.le_of_ble_eq_true rfl⟩ (Nat.le_of_ble_eq_true rfl) dX10_meeting_39 ?_
        cases hf
        exact s_iret X hr hlk dX10_meeting_42
      · have hf := hs16.1 c17
        refine s_iconst X (v := (-1 : Int32)) dX10_meeting_34 rfl ?_
        refine s_goto X (tgt := 42) dX10_meeting_35 rfl ?_
        cases hf
        exact s_iret X hr hlk dX10_meeting_42
    · have hf := hs8.1 c9
      refine s_iconst X (v := (-1 : Int32)) dX10_meeting_16 rfl ?_
      cases hf
      exact s_iret X hr hlk dX10_meeting_17
theorem dX9_apart_0 : decode cX9_apart 0 = .ok (.aload_n 0, 1) := dk_42 (by decide +kernel)
theorem dX9_apart_1 : decode cX9_apart 1 = .ok (.getfield 10, 3) := dk_180 (x := 0) (y := 10) (by decide +kernel) rfl
theorem dX9_apart_4 : decode cX9_apart 4 = .ok (.invokevirtual 89, 3) := dk_182 (x := 0) (y := 89) (by decide +kernel) rfl
theorem dX9_apart_7 : decode cX9_apart 7 = .ok (.ireturn, 1) := dk_172 (by decide +kernel)
def f_X9_apart (n : Nat) (o : Nat) (M : Mem) : Option Int32 :=
  chk (isO M 9 o) <|
  bnd (mR M o 0) fun o2 =>
  chk (isO M 7 o2) <|
  obd (f_X7_countApart n o2 M) fun r6 =>
  some r6
theorem cd_X9_apart : (yX9_apart.cls ≠ "java/lang/invoke/MethodHandle" ∧ yX9_apart.cls ≠ "java/lang/invoke/VarHandle") ∧ (parseMethodDescriptor yX9_apart.desc).map (fun d => d.parameters.length) = some 0 := ⟨⟨by decide +kernel, by decide +kernel⟩, by decide +kernel⟩
theorem k_X9_apart (G : Gam) {n : Nat} {o : Nat} {M : Mem} {rv : Int32} (hf : f_X9_apart n o M = some rv) : Kt yX9_apart cX9_apart 1 (some .int) 1 23 G [.ref (gB G + o)] M M (some (.int rv)) := by
  refine Kt.of (by decide) (Nat.le_of_ble_eq_true rfl) ?_
  intro p l e R s m args below meth c X hr hlk hnm
  refine s_drop [0] (vs' := [(0, .ref (gB G + o))]) rfl ?_
  rw [f_X9_apart] at hf
  refine s_aload_n X 0 dX9_apart_0 rfl rfl ?_
  obtain ⟨h1, hf⟩ := pk_chk hf
  obtain ⟨o2, e3, hf⟩ := pk_bnd hf
  obtain ⟨h4, hf⟩ := pk_chk hf
  refine s_getR X (ci := 9) (k := 0) rfl (Nat.le_of_ble_eq_true rfl) h1 wd627 (fun _ _ _ => rfl) (e3 ▸ h4) dX9_apart_1 (e3 ▸ ?_)
  obtain ⟨r6, hc5, hf⟩ := pk_obd hf
  refine s_callV X (ci := 7) (k_X7_countApart G hc5) rfl h4 wd726 wd727 wd728 wd729 wd127 cd_X7_countApart ⟨Nat.le_of_ble_eq_true rfl, Nat.le_of_ble_eq_true rfl⟩ (Nat.le_of_ble_eq_true rfl) dX9_apart_4 ?_
  cases hf
  exact s_iret X hr hlk dX9_apart_7
theorem dX7_loadOf_0 : decode cX7_loadOf 0 = .ok (.iconst 0, 1) := dk_3 (by decide +kernel)
theorem dX7_loadOf_1 : decode cX7_loadOf 1 = .ok (.istore_n 2, 1) := dk_61 (by decide +kernel)
theorem dX7_loadOf_2 : decode cX7_loadOf 2 = .ok (.iconst 0, 1) := dk_3 (by decide +kernel)
theorem dX7_loadOf_3 : decode cX7_loadOf 3 = .ok (.istore_n 3, 1) := dk_62 (by decide +kernel)
theorem dX7_loadOf_4 : decode cX7_loadOf 4 = .ok (.iload_n 3, 1) := dk_29 (by decide +kernel)
theorem dX7_loadOf_5 : decode cX7_loadOf 5 = .ok (.aload_n 0, 1) := dk_42 (by decide +kernel)
theorem dX7_loadOf_6 : decode cX7_loadOf 6 = .ok (.getfield 40, 3) := dk_180 (x := 0) (y := 40) (by decide +kernel) rfl
theorem dX7_loadOf_9 : decode cX7_loadOf 9 = .ok (.if_icmp .ge 25, 3) := dk_162 (x := 0) (y := 25) (by decide +kernel) rfl
theorem dX7_loadOf_12 : decode cX7_loadOf 12 = .ok (.aload_n 0, 1) := dk_42 (by decide +kernel)
theorem dX7_loadOf_13 : decode cX7_loadOf 13 = .ok (.getfield 9, 3) := dk_180 (x := 0) (y := 9) (by decide +kernel) rfl
theorem dX7_loadOf_16 : decode cX7_loadOf 16 = .ok (.iload_n 3, 1) := dk_29 (by decide +kernel)
theorem dX7_loadOf_17 : decode cX7_loadOf 17 = .ok (.iaload, 1) := dk_46 (by decide +kernel)
theorem dX7_loadOf_18 : decode cX7_loadOf 18 = .ok (.iload_n 1, 1) := dk_27 (by decide +kernel)
theorem dX7_loadOf_19 : decode cX7_loadOf 19 = .ok (.invokestatic 60, 3) := dk_184 (x := 0) (y := 60) (by decide +kernel) rfl
theorem dX7_loadOf_22 : decode cX7_loadOf 22 = .ok (.ifCond .eq 6, 3) := dk_153 (x := 0) (y := 6) (by decide +kernel) rfl
theorem dX7_loadOf_25 : decode cX7_loadOf 25 = .ok (.iinc 2 1, 3) := dk_132 (x := 2) (y := 1) (by decide +kernel) rfl
theorem dX7_loadOf_28 : decode cX7_loadOf 28 = .ok (.iinc 3 1, 3) := dk_132 (x := 3) (y := 1) (by decide +kernel) rfl
theorem dX7_loadOf_31 : decode cX7_loadOf 31 = .ok (.goto (-27), 3) := dk_167 (x := 255) (y := 229) (by decide +kernel) rfl
theorem dX7_loadOf_34 : decode cX7_loadOf 34 = .ok (.iload_n 2, 1) := dk_28 (by decide +kernel)
theorem dX7_loadOf_35 : decode cX7_loadOf 35 = .ok (.ireturn, 1) := dk_172 (by decide +kernel)
def f_X7_loadOf_4 (M : Mem) : Nat → Nat → Int32 → Int32 → Int32 → Option Int32
  | 0, _, _, _, _ => none
  | n + 1, v0, v1, v2, v3 =>
    chk (isO M 7 v0) <|
    if (mI M v0 3) ≤ v3 then (
      some v2
      ) else (
      bnd (mR M v0 0) fun o4 =>
      chk (isO M 100 o4) <|
      chk (inB v3 (mLn M o4)) <|
      obd (f_X9_has (mI M o4 (v3).toNatClampNeg) v1 M) fun r9 =>
      if r9 = 0 then (
        bnd (v3 + (1 : Int32)) fun x12 =>
        f_X7_loadOf_4 M n v0 v1 v2 x12
        ) else (
        bnd (v2 + (1 : Int32)) fun x14 =>
        bnd (v3 + (1 : Int32)) fun x16 =>
        f_X7_loadOf_4 M n v0 v1 x14 x16
        )
      )
def f_X7_loadOf (n : Nat) (o : Nat) (a1 : Int32) (M : Mem) : Option Int32 :=
  f_X7_loadOf_4 M n o a1 (0 : Int32) (0 : Int32)
theorem cd_X7_loadOf : (yX7_loadOf.cls ≠ "java/lang/invoke/MethodHandle" ∧ yX7_loadOf.cls ≠ "java/lang/invoke/VarHandle") ∧ (parseMethodDescriptor yX7_loadOf.desc).map (fun d => d.parameters.length) = some 1 := ⟨⟨by decide +kernel, by decide +kernel⟩, by decide +kernel⟩
section
variable {p : Program} {l : Launch} {e : Env} {R : Room} {s : State} {m : MethodId} {args : Array Value} {below : List Frame} {meth : Method} {c : Code} {G : Gam} {M0 : Mem}
theorem l_X7_loadOf_4 {M : Mem} {rv : Int32} (X : Cx p R s m args c G M0 cX7_loadOf yX7_loadOf.cls 4 1 21) (hr : meth.sig.returnType = (some .int)) (hlk : meth.locks = false) (hnm : meth.name = "loadOf") : ∀ {n : Nat} (v0 : Nat) (v1 : Int32) (v2 : Int32) (v3 : Int32), f_X7_loadOf_4 M n v0 v1 v2 v3 = some rv → Sg p l e R s m args below meth c (Qm below G args s (some (.int rv)) M0 M) G M0 4 4 [(0, .ref (gB G + v0)), (1, .int v1), (2, .int v2), (3, .int v3)] [] M := by
  intro n
  induction n with
  | zero => intro v0 v1 v2 v3 hf; exact (pk_none hf).elim
  | succ n ih =>
    intro v0 v1 v2 v3 hf
    rw [f_X7_loadOf_4] at hf
    refine s_iload_n X 3 dX7_loadOf_4 rfl rfl ?_
    refine s_aload_n X 0 dX7_loadOf_5 rfl rfl ?_
    obtain ⟨h1, hf⟩ := pk_chk hf
    refine s_getI X (ci := 7) (k := 3) rfl (Nat.le_of_ble_eq_true rfl) h1 wd169 (fun _ _ _ => rfl) dX7_loadOf_6 ?_
    have hs2 := pk_ite hf
    clear hf
    refine s_icmp_ge X (tgt := 34) dX7_loadOf_9 rfl (fun c3 => ?_) (fun c3 => ?_)
    · have hf := hs2.1 c3
      refine s_iload_n X 2 dX7_loadOf_34 rfl rfl ?_
      cases hf
      exact s_iret X hr hlk dX7_loadOf_35
    · have hf := hs2.2 c3
      refine s_aload_n X 0 dX7_loadOf_12 rfl rfl ?_
      obtain ⟨o4, e5, hf⟩ := pk_bnd hf
      obtain ⟨h6, hf⟩ := pk_chk hf
      refine s_getR X (ci := 7) (k := 0) rfl (Nat.le_of_ble_eq_true rfl) h1 wd159 (fun _ _ _ => rfl) (e5 ▸ h6) dX7_loadOf_13 (e5 ▸ ?_)
      refine s_iload_n X 3 dX7_loadOf_16 rfl rfl ?_
      obtain ⟨h7, hf⟩ := pk_chk hf
      refine s_iald X h6 h7 dX7_loadOf_17 ?_
      refine s_iload_n X 1 dX7_loadOf_18 rfl rfl ?_
      obtain ⟨r9, hc8, hf⟩ := pk_obd hf
      refine s_callSN X (k_X9_has G hc8) (host := "QuorumGate") ns_6 wd712 wd713 wd126 cd_X9_has ⟨Nat.le_of_ble_eq_true rfl, Nat.le_of_ble_eq_true rfl⟩ (Nat.le_of_ble_eq_true rfl) dX7_loadOf_19 ?_
      have hs10 := pk_ite hf
      clear hf
      refine s_if_eq X (tgt := 28) dX7_loadOf_22 rfl (fun c11 => ?_) (fun c11 => ?_)
      · have hf := hs10.1 c11
        obtain ⟨x12, e13, hf⟩ := pk_bnd hf
        refine s_iinc X (vs' := [(0, .ref (gB G + v0)), (1, .int v1), (2, .int v2), (3, .int x12)]) 3 dX7_loadOf_28 rfl (v := x12) e13.symm (Nat.le_of_ble_eq_true rfl) [1, 2, 3, 0] rfl ?_
        refine s_goto X (tgt := 4) dX7_loadOf_31 rfl ?_
        exact ih _ _ _ _ hf
      · have hf := hs10.2 c11
        obtain ⟨x14, e15, hf⟩ := pk_bnd hf
        refine s_iinc X (vs' := [(0, .ref (gB G + v0)), (1, .int v1), (2, .int x14), (3, .int v3)]) 2 dX7_loadOf_25 rfl (v := x14) e15.symm (Nat.le_of_ble_eq_true rfl) [1, 2, 0, 3] rfl ?_
        obtain ⟨x16, e17, hf⟩ := pk_bnd hf
        refine s_iinc X (vs' := [(0, .ref (gB G + v0)), (1, .int v1), (2, .int x14), (3, .int x16)]) 3 dX7_loadOf_28 rfl (v := x16) e17.symm (Nat.le_of_ble_eq_true rfl) [1, 2, 3, 0] rfl ?_
        refine s_goto X (tgt := 4) dX7_loadOf_31 rfl ?_
        exact ih _ _ _ _ hf
end
theorem k_X7_loadOf (G : Gam) {n : Nat} {o : Nat} {a1 : Int32} {M : Mem} {rv : Int32} (hf : f_X7_loadOf n o a1 M = some rv) : Kt yX7_loadOf cX7_loadOf 4 (some .int) 1 21 G [.ref (gB G + o), .int a1] M M (some (.int rv)) := by
  refine Kt.of (by decide) (Nat.le_of_ble_eq_true rfl) ?_
  intro p l e R s m args below meth c X hr hlk hnm
  refine s_drop [0, 1] (vs' := [(0, .ref (gB G + o)), (1, .int a1)]) rfl ?_
  rw [f_X7_loadOf] at hf
  refine s_iconst X (v := (0 : Int32)) dX7_loadOf_0 rfl ?_
  refine s_istore_n X (vs' := [(0, .ref (gB G + o)), (1, .int a1), (2, .int (0 : Int32))]) dX7_loadOf_1 rfl (Nat.le_of_ble_eq_true rfl) [1, 2, 0] rfl ?_
  refine s_iconst X (v := (0 : Int32)) dX7_loadOf_2 rfl ?_
  refine s_istore_n X (vs' := [(0, .ref (gB G + o)), (1, .int a1), (2, .int (0 : Int32)), (3, .int (0 : Int32))]) dX7_loadOf_3 rfl (Nat.le_of_ble_eq_true rfl) [1, 2, 3, 0] rfl ?_
  exact l_X7_loadOf_4 X hr hlk hnm _ _ _ _ hf
theorem dX9_load_0 : decode cX9_load 0 = .ok (.aload_n 0, 1) := dk_42 (by decide +kernel)
theorem dX9_load_1 : decode cX9_load 1 = .ok (.getfield 10, 3) := dk_180 (x := 0) (y := 10) (by decide +kernel) rfl
theorem dX9_load_4 : decode cX9_load 4 = .ok (.iload_n 1, 1) := dk_27 (by decide +kernel)
theorem dX9_load_5 : decode cX9_load 5 = .ok (.invokevirtual 71, 3) := dk_182 (x := 0) (y := 71) (by decide +kernel) rfl
theorem dX9_load_8 : decode cX9_load 8 = .ok (.ifCond .eq 14, 3) := dk_153 (x := 0) (y := 14) (by decide +kernel) rfl
theorem dX9_load_11 : decode cX9_load 11 = .ok (.aload_n 0, 1) := dk_42 (by decide +kernel)
theorem dX9_load_12 : decode cX9_load 12 = .ok (.getfield 10, 3) := dk_180 (x := 0) (y := 10) (by decide +kernel) rfl
theorem dX9_load_15 : decode cX9_load 15 = .ok (.iload_n 1, 1) := dk_27 (by decide +kernel)
theorem dX9_load_16 : decode cX9_load 16 = .ok (.invokevirtual 112, 3) := dk_182 (x := 0) (y := 112) (by decide +kernel) rfl
theorem dX9_load_19 : decode cX9_load 19 = .ok (.goto 4, 3) := dk_167 (x := 0) (y := 4) (by decide +kernel) rfl
theorem dX9_load_22 : decode cX9_load 22 = .ok (.iconst (-1), 1) := dk_2 (by decide +kernel)
theorem dX9_load_23 : decode cX9_load 23 = .ok (.ireturn, 1) := dk_172 (by decide +kernel)
def f_X9_load (n : Nat) (o : Nat) (a1 : Int32) (M : Mem) : Option Int32 :=
  chk (isO M 9 o) <|
  bnd (mR M o 0) fun o2 =>
  chk (isO M 7 o2) <|
  obd (f_X7_isNode o2 a1 M) fun r6 =>
  if r6 = 0 then (
    some (-1 : Int32)
    ) else (
    bnd (mR M o 0) fun o9 =>
    chk (isO M 7 o9) <|
    obd (f_X7_loadOf n o9 a1 M) fun r13 =>
    some r13
    )
theorem cd_X9_load : (yX9_load.cls ≠ "java/lang/invoke/MethodHandle" ∧ yX9_load.cls ≠ "java/lang/invoke/VarHandle") ∧ (parseMethodDescriptor yX9_load.desc).map (fun d => d.parameters.length) = some 1 := ⟨⟨by decide +kernel, by decide +kernel⟩, by decide +kernel⟩
theorem k_X9_load (G : Gam) {n : Nat} {o : Nat} {a1 : Int32} {M : Mem} {rv : Int32} (hf : f_X9_load n o a1 M = some rv) : Kt yX9_load cX9_load 2 (some .int) 2 44 G [.ref (gB G + o), .int a1] M M (some (.int rv)) := by
  refine Kt.of (by decide) (Nat.le_of_ble_eq_true rfl) ?_
  intro p l e R s m args below meth c X hr hlk hnm
  refine s_drop [0, 1] (vs' := [(0, .ref (gB G + o)), (1, .int a1)]) rfl ?_
  rw [f_X9_load] at hf
  refine s_aload_n X 0 dX9_load_0 rfl rfl ?_
  obtain ⟨h1, hf⟩ := pk_chk hf
  obtain ⟨o2, e3, hf⟩ := pk_bnd hf
  obtain ⟨h4, hf⟩ := pk_chk hf
  refine s_getR X (ci := 9) (k := 0) rfl (Nat.le_of_ble_eq_true rfl) h1 wd627 (fun _ _ _ => rfl) (e3 ▸ h4) dX9_load_1 (e3 ▸ ?_)
  refine s_iload_n X 1 dX9_load_4 rfl rfl ?_
  obtain ⟨r6, hc5, hf⟩ := pk_obd hf
  refine s_callV X (ci := 7) (k_X7_isNode G hc5) rfl h4 wd699 wd700 wd701 wd702 wd127 cd_X7_isNode ⟨Nat.le_of_ble_eq_true rfl, Nat.le_of_ble_eq_true rfl⟩ (Nat.le_of_ble_eq_true rfl) dX9_load_5 ?_
  have hs7 := pk_ite hf
  clear hf
  refine s_if_eq X (tgt := 22) dX9_load_8 rfl (fun c8 => ?_) (fun c8 => ?_)
  · have hf := hs7.1 c8
    refine s_iconst X (v := (-1 : Int32)) dX9_load_22 rfl ?_
    cases hf
    exact s_iret X hr hlk dX9_load_23
  · have hf := hs7.2 c8
    refine s_aload_n X 0 dX9_load_11 rfl rfl ?_
    obtain ⟨o9, e10, hf⟩ := pk_bnd hf
    obtain ⟨h11, hf⟩ := pk_chk hf
    refine s_getR X (ci := 9) (k := 0) rfl (Nat.le_of_ble_eq_true rfl) h1 wd627 (fun _ _ _ => rfl) (e10 ▸ h11) dX9_load_12 (e10 ▸ ?_)
    refine s_iload_n X 1 dX9_load_15 rfl rfl ?_
    obtain ⟨r13, hc12, hf⟩ := pk_obd hf
    refine s_callV X (ci := 7) (k_X7_loadOf G hc12) rfl h11 wd755 wd756 wd757 wd758 wd127 cd_X7_loadOf ⟨Nat.le_of_ble_eq_true rfl, Nat.le_of_ble_eq_true rfl⟩ (Nat.le_of_ble_eq_true rfl) dX9_load_16 ?_
    refine s_goto X (tgt := 23) dX9_load_19 rfl ?_
    cases hf
    exact s_iret X hr hlk dX9_load_23
theorem dX10_load_0 : decode cX10_load 0 = .ok (.aload_n 0, 1) := dk_42 (by decide +kernel)
theorem dX10_load_1 : decode cX10_load 1 = .ok (.iload_n 1, 1) := dk_27 (by decide +kernel)
theorem dX10_load_2 : decode cX10_load 2 = .ok (.invokevirtual 76, 3) := dk_182 (x := 0) (y := 76) (by decide +kernel) rfl
theorem dX10_load_5 : decode cX10_load 5 = .ok (.ifCond .ne 5, 3) := dk_154 (x := 0) (y := 5) (by decide +kernel) rfl
theorem dX10_load_8 : decode cX10_load 8 = .ok (.iconst (-1), 1) := dk_2 (by decide +kernel)
theorem dX10_load_9 : decode cX10_load 9 = .ok (.ireturn, 1) := dk_172 (by decide +kernel)
theorem dX10_load_10 : decode cX10_load 10 = .ok (.iconst 0, 1) := dk_3 (by decide +kernel)
theorem dX10_load_11 : decode cX10_load 11 = .ok (.istore_n 2, 1) := dk_61 (by decide +kernel)
theorem dX10_load_12 : decode cX10_load 12 = .ok (.iconst 0, 1) := dk_3 (by decide +kernel)
theorem dX10_load_13 : decode cX10_load 13 = .ok (.istore_n 3, 1) := dk_62 (by decide +kernel)
theorem dX10_load_14 : decode cX10_load 14 = .ok (.iload_n 3, 1) := dk_29 (by decide +kernel)
theorem dX10_load_15 : decode cX10_load 15 = .ok (.aload_n 0, 1) := dk_42 (by decide +kernel)
theorem dX10_load_16 : decode cX10_load 16 = .ok (.getfield 7, 3) := dk_180 (x := 0) (y := 7) (by decide +kernel) rfl
theorem dX10_load_19 : decode cX10_load 19 = .ok (.iconst 0, 1) := dk_3 (by decide +kernel)
theorem dX10_load_20 : decode cX10_load 20 = .ok (.iaload, 1) := dk_46 (by decide +kernel)
theorem dX10_load_21 : decode cX10_load 21 = .ok (.if_icmp .ge 29, 3) := dk_162 (x := 0) (y := 29) (by decide +kernel) rfl
theorem dX10_load_24 : decode cX10_load 24 = .ok (.iload_n 2, 1) := dk_28 (by decide +kernel)
theorem dX10_load_25 : decode cX10_load 25 = .ok (.aload_n 0, 1) := dk_42 (by decide +kernel)
theorem dX10_load_26 : decode cX10_load 26 = .ok (.iload_n 3, 1) := dk_29 (by decide +kernel)
theorem dX10_load_27 : decode cX10_load 27 = .ok (.invokevirtual 80, 3) := dk_182 (x := 0) (y := 80) (by decide +kernel) rfl
theorem dX10_load_30 : decode cX10_load 30 = .ok (.iload_n 1, 1) := dk_27 (by decide +kernel)
theorem dX10_load_31 : decode cX10_load 31 = .ok (.invokestatic 45, 3) := dk_184 (x := 0) (y := 45) (by decide +kernel) rfl
theorem dX10_load_34 : decode cX10_load 34 = .ok (.ifCond .eq 7, 3) := dk_153 (x := 0) (y := 7) (by decide +kernel) rfl
theorem dX10_load_37 : decode cX10_load 37 = .ok (.iconst 1, 1) := dk_4 (by decide +kernel)
theorem dX10_load_38 : decode cX10_load 38 = .ok (.goto 4, 3) := dk_167 (x := 0) (y := 4) (by decide +kernel) rfl
theorem dX10_load_41 : decode cX10_load 41 = .ok (.iconst 0, 1) := dk_3 (by decide +kernel)
theorem dX10_load_42 : decode cX10_load 42 = .ok (.iadd, 1) := dk_96 (by decide +kernel)
theorem dX10_load_43 : decode cX10_load 43 = .ok (.istore_n 2, 1) := dk_61 (by decide +kernel)
theorem dX10_load_44 : decode cX10_load 44 = .ok (.iinc 3 1, 3) := dk_132 (x := 3) (y := 1) (by decide +kernel) rfl
theorem dX10_load_47 : decode cX10_load 47 = .ok (.goto (-33), 3) := dk_167 (x := 255) (y := 223) (by decide +kernel) rfl
theorem dX10_load_50 : decode cX10_load 50 = .ok (.iload_n 2, 1) := dk_28 (by decide +kernel)
theorem dX10_load_51 : decode cX10_load 51 = .ok (.ireturn, 1) := dk_172 (by decide +kernel)
def f_X10_load_14 (M : Mem) : Nat → Nat → Int32 → Int32 → Int32 → Option Int32
  | 0, _, _, _, _ => none
  | n + 1, v0, v1, v2, v3 =>
    chk (isO M 10 v0) <|
    bnd (mR M v0 0) fun o2 =>
    chk (isO M 100 o2) <|
    chk (inB (0 : Int32) (mLn M o2)) <|
    if (mI M o2 ((0 : Int32)).toNatClampNeg) ≤ v3 then (
      some v2
      ) else (
      obd (f_X10_baseOf v0 v3 M) fun r9 =>
      obd (f_X10_has r9 v1 M) fun r11 =>
      if r11 = 0 then (
        bnd (v2 + (0 : Int32)) fun x14 =>
        bnd (v3 + (1 : Int32)) fun x16 =>
        f_X10_load_14 M n v0 v1 x14 x16
        ) else (
        bnd (v2 + (1 : Int32)) fun x18 =>
        bnd (v3 + (1 : Int32)) fun x20 =>
        f_X10_load_14 M n v0 v1 x18 x20
        )
      )
def f_X10_load (n : Nat) (o : Nat) (a1 : Int32) (M : Mem) : Option Int32 :=
  chk (isO M 10 o) <|
  obd (f_X10_isNode o a1 M) fun r3 =>
  if r3 = 0 then (
    some (-1 : Int32)
    ) else (
    f_X10_load_14 M n o a1 (0 : Int32) (0 : Int32)
    )
theorem cd_X10_load : (yX10_load.cls ≠ "java/lang/invoke/MethodHandle" ∧ yX10_load.cls ≠ "java/lang/invoke/VarHandle") ∧ (parseMethodDescriptor yX10_load.desc).map (fun d => d.parameters.length) = some 1 := ⟨⟨by decide +kernel, by decide +kernel⟩, by decide +kernel⟩
section
variable {p : Program} {l : Launch} {e : Env} {R : Room} {s : State} {m : MethodId} {args : Array Value} {below : List Frame} {meth : Method} {c : Code} {G : Gam} {M0 : Mem}
theorem l_X10_load_14 {M : Mem} {rv : Int32} (X : Cx p R s m args c G M0 cX10_load yX10_load.cls 4 2 43) (hr : meth.sig.returnType = (some .int)) (hlk : meth.locks = false) (hnm : meth.name = "load") : ∀ {n : Nat} (v0 : Nat) (v1 : Int32) (v2 : Int32) (v3 : Int32), f_X10_load_14 M n v0 v1 v2 v3 = some rv → Sg p l e R s m args below meth c (Qm below G args s (some (.int rv)) M0 M) G M0 4 14 [(0, .ref (gB G + v0)), (1, .int v1), (2, .int v2), (3, .int v3)] [] M := by
  intro n
  induction n with
  | zero => intro v0 v1 v2 v3 hf; exact (pk_none hf).elim
  | succ n ih =>
    intro v0 v1 v2 v3 hf
    rw [f_X10_load_14] at hf
    refine s_iload_n X 3 dX10_load_14 rfl rfl ?_
    refine s_aload_n X 0 dX10_load_15 rfl rfl ?_
    obtain ⟨h1, hf⟩ := pk_chk hf
    obtain ⟨o2, e3, hf⟩ := pk_bnd hf
    obtain ⟨h4, hf⟩ := pk_chk hf
    refine s_getR X (ci := 10) (k := 0) rfl (Nat.le_of_ble_eq_true rfl) h1 wd1440 (fun _ _ _ => rfl) (e3 ▸ h4) dX10_load_16 (e3 ▸ ?_)
    refine s_iconst X (v := (0 : Int32)) dX10_load_19 rfl ?_
    obtain ⟨h5, hf⟩ := pk_chk hf
    refine s_iald X h4 h5 dX10_load_20 ?_
    have hs6 := pk_ite hf
    clear hf
    refine s_icmp_ge X (tgt := 50) dX10_load_21 rfl (fun c7 => ?_) (fun c7 => ?_)
    · have hf := hs6.1 c7
      refine s_iload_n X 2 dX10_load_50 rfl rfl ?_
      cases hf
      exact s_iret X hr hlk dX10_load_51
    · have hf := hs6.2 c7
      refine s_iload_n X 2 dX10_load_24 rfl rfl ?_
      refine s_aload_n X 0 dX10_load_25 rfl rfl ?_
      refine s_iload_n X 3 dX10_load_26 rfl rfl ?_
      obtain ⟨r9, hc8, hf⟩ := pk_obd hf
      refine s_callV X (ci := 10) (k_X10_baseOf G hc8) rfl h1 wd1558 wd1560 wd54 wd1561 wd138 cd_X10_baseOf ⟨Nat.le_of_ble_eq_true rfl, Nat.le_of_ble_eq_true rfl⟩ (Nat.le_of_ble_eq_true rfl) dX10_load_27 ?_
      refine s_iload_n X 1 dX10_load_30 rfl rfl ?_
      obtain ⟨r11, hc10, hf⟩ := pk_obd hf
      refine s_callS X (k_X10_has G hc10) wd1565 wd1566 wd1567 wd138 cd_X10_has ⟨Nat.le_of_ble_eq_true rfl, Nat.le_of_ble_eq_true rfl⟩ (Nat.le_of_ble_eq_true rfl) dX10_load_31 ?_
      have hs12 := pk_ite hf
      clear hf
      refine s_if_eq X (tgt := 41) dX10_load_34 rfl (fun c13 => ?_) (fun c13 => ?_)
      · have hf := hs12.1 c13
        refine s_iconst X (v := (0 : Int32)) dX10_load_41 rfl ?_
        refine s_iadd X dX10_load_42 ?_
        obtain ⟨x14, e15, hf⟩ := pk_bnd hf
        refine s_nmI e15 ?_
        refine s_istore_n X (vs' := [(0, .ref (gB G + v0)), (1, .int v1), (2, .int x14), (3, .int v3)]) dX10_load_43 rfl (Nat.le_of_ble_eq_true rfl) [1, 2, 0, 3] rfl ?_
        obtain ⟨x16, e17, hf⟩ := pk_bnd hf
        refine s_iinc X (vs' := [(0, .ref (gB G + v0)), (1, .int v1), (2, .int x14), (3, .int x16)]) 3 dX10_load_44 rfl (v := x16) e17.symm (Nat.le_of_ble_eq_true rfl) [1, 2, 3, 0] rfl ?_
        refine s_goto X (tgt := 14) dX10_load_47 rfl ?_
        exact ih _ _ _ _ hf
      · have hf := hs12.2 c13
        refine s_iconst X (v := (1 : Int32)) dX10_load_37 rfl ?_
        refine s_goto X (tgt := 42) dX10_load_38 rfl ?_
        refine s_iadd X dX10_load_42 ?_
        obtain ⟨x18, e19, hf⟩ := pk_bnd hf
        refine s_nmI e19 ?_
        refine s_istore_n X (vs' := [(0, .ref (gB G + v0)), (1, .int v1), (2, .int x18), (3, .int v3)]) dX10_load_43 rfl (Nat.le_of_ble_eq_true rfl) [1, 2, 0, 3] rfl ?_
        obtain ⟨x20, e21, hf⟩ := pk_bnd hf
        refine s_iinc X (vs' := [(0, .ref (gB G + v0)), (1, .int v1), (2, .int x18), (3, .int x20)]) 3 dX10_load_44 rfl (v := x20) e21.symm (Nat.le_of_ble_eq_true rfl) [1, 2, 3, 0] rfl ?_
        refine s_goto X (tgt := 14) dX10_load_47 rfl ?_
        exact ih _ _ _ _ hf
end
theorem k_X10_load (G : Gam) {n : Nat} {o : Nat} {a1 : Int32} {M : Mem} {rv : Int32} (hf : f_X10_load n o a1 M = some rv) : Kt yX10_load cX10_load 4 (some .int) 2 43 G [.ref (gB G + o), .int a1] M M (some (.int rv)) := by
  refine Kt.of (by decide) (Nat.le_of_ble_eq_true rfl) ?_
  intro p l e R s m args below meth c X hr hlk hnm
  refine s_drop [0, 1] (vs' := [(0, .ref (gB G + o)), (1, .int a1)]) rfl ?_
  rw [f_X10_load] at hf
  refine s_aload_n X 0 dX10_load_0 rfl rfl ?_
  refine s_iload_n X 1 dX10_load_1 rfl rfl ?_
  obtain ⟨h1, hf⟩ := pk_chk hf
  obtain ⟨r3, hc2, hf⟩ := pk_obd hf
  refine s_callV X (ci := 10) (k_X10_isNode G hc2) rfl h1 wd1554 wd1556 wd53 wd1557 wd138 cd_X10_isNode ⟨Nat.le_of_ble_eq_true rfl, Nat.le_of_ble_eq_true rfl⟩ (Nat.le_of_ble_eq_true rfl) dX10_load_2 ?_
  have hs4 := pk_ite hf
  clear hf
  refine s_if_ne X (tgt := 10) dX10_load_5 rfl (fun c5 => ?_) (fun c5 => ?_)
  · have hf := hs4.2 c5
    refine s_iconst X (v := (0 : Int32)) dX10_load_10 rfl ?_
    refine s_istore_n X (vs' := [(0, .ref (gB G + o)), (1, .int a1), (2, .int (0 : Int32))]) dX10_load_11 rfl (Nat.le_of_ble_eq_true rfl) [1, 2, 0] rfl ?_
    refine s_iconst X (v := (0 : Int32)) dX10_load_12 rfl ?_
    refine s_istore_n X (vs' := [(0, .ref (gB G + o)), (1, .int a1), (2, .int (0 : Int32)), (3, .int (0 : Int32))]) dX10_load_13 rfl (Nat.le_of_ble_eq_true rfl) [1, 2, 3, 0] rfl ?_
    exact l_X10_load_14 X hr hlk hnm _ _ _ _ hf
  · have hf := hs4.1 c5
    refine s_iconst X (v := (-1 : Int32)) dX10_load_8 rfl ?_
    cases hf
    exact s_iret X hr hlk dX10_load_9
theorem dX7_wholeOf_0 : decode cX7_wholeOf 0 = .ok (.iload_n 2, 1) := dk_28 (by decide +kernel)
theorem dX7_wholeOf_1 : decode cX7_wholeOf 1 = .ok (.iload_n 1, 1) := dk_27 (by decide +kernel)
theorem dX7_wholeOf_2 : decode cX7_wholeOf 2 = .ok (.invokestatic 60, 3) := dk_184 (x := 0) (y := 60) (by decide +kernel) rfl
theorem dX7_wholeOf_5 : decode cX7_wholeOf 5 = .ok (.istore_n 3, 1) := dk_62 (by decide +kernel)
theorem dX7_wholeOf_6 : decode cX7_wholeOf 6 = .ok (.iconst 2, 1) := dk_5 (by decide +kernel)
theorem dX7_wholeOf_7 : decode cX7_wholeOf 7 = .ok (.iload_n 1, 1) := dk_27 (by decide +kernel)
theorem dX7_wholeOf_8 : decode cX7_wholeOf 8 = .ok (.imul, 1) := dk_104 (by decide +kernel)
theorem dX7_wholeOf_9 : decode cX7_wholeOf 9 = .ok (.iconst 1, 1) := dk_4 (by decide +kernel)
theorem dX7_wholeOf_10 : decode cX7_wholeOf 10 = .ok (.iadd, 1) := dk_96 (by decide +kernel)
theorem dX7_wholeOf_11 : decode cX7_wholeOf 11 = .ok (.istore 4, 2) := dk_54 (x := 4) (by decide +kernel)
theorem dX7_wholeOf_13 : decode cX7_wholeOf 13 = .ok (.iload 4, 2) := dk_21 (x := 4) (by decide +kernel)
theorem dX7_wholeOf_15 : decode cX7_wholeOf 15 = .ok (.iconst 1, 1) := dk_4 (by decide +kernel)
theorem dX7_wholeOf_16 : decode cX7_wholeOf 16 = .ok (.iadd, 1) := dk_96 (by decide +kernel)
theorem dX7_wholeOf_17 : decode cX7_wholeOf 17 = .ok (.aload_n 0, 1) := dk_42 (by decide +kernel)
theorem dX7_wholeOf_18 : decode cX7_wholeOf 18 = .ok (.getfield 40, 3) := dk_180 (x := 0) (y := 40) (by decide +kernel) rfl
theorem dX7_wholeOf_21 : decode cX7_wholeOf 21 = .ok (.if_icmp .lt 15, 3) := dk_161 (x := 0) (y := 15) (by decide +kernel) rfl
theorem dX7_wholeOf_24 : decode cX7_wholeOf 24 = .ok (.iload_n 3, 1) := dk_29 (by decide +kernel)
theorem dX7_wholeOf_25 : decode cX7_wholeOf 25 = .ok (.ifCond .eq 7, 3) := dk_153 (x := 0) (y := 7) (by decide +kernel) rfl
theorem dX7_wholeOf_28 : decode cX7_wholeOf 28 = .ok (.iconst 0, 1) := dk_3 (by decide +kernel)
theorem dX7_wholeOf_29 : decode cX7_wholeOf 29 = .ok (.goto 6, 3) := dk_167 (x := 0) (y := 6) (by decide +kernel) rfl
theorem dX7_wholeOf_32 : decode cX7_wholeOf 32 = .ok (.iconst 1, 1) := dk_4 (by decide +kernel)
theorem dX7_wholeOf_33 : decode cX7_wholeOf 33 = .ok (.iload_n 1, 1) := dk_27 (by decide +kernel)
theorem dX7_wholeOf_34 : decode cX7_wholeOf 34 = .ok (.ishl, 1) := dk_120 (by decide +kernel)
theorem dX7_wholeOf_35 : decode cX7_wholeOf 35 = .ok (.ireturn, 1) := dk_172 (by decide +kernel)
theorem dX7_wholeOf_36 : decode cX7_wholeOf 36 = .ok (.aload_n 0, 1) := dk_42 (by decide +kernel)
theorem dX7_wholeOf_37 : decode cX7_wholeOf 37 = .ok (.getfield 18, 3) := dk_180 (x := 0) (y := 18) (by decide +kernel) rfl
theorem dX7_wholeOf_40 : decode cX7_wholeOf 40 = .ok (.iload 4, 2) := dk_21 (x := 4) (by decide +kernel)
theorem dX7_wholeOf_42 : decode cX7_wholeOf 42 = .ok (.iaload, 1) := dk_46 (by decide +kernel)
theorem dX7_wholeOf_43 : decode cX7_wholeOf 43 = .ok (.istore 5, 2) := dk_54 (x := 5) (by decide +kernel)
theorem dX7_wholeOf_45 : decode cX7_wholeOf 45 = .ok (.aload_n 0, 1) := dk_42 (by decide +kernel)
theorem dX7_wholeOf_46 : decode cX7_wholeOf 46 = .ok (.getfield 18, 3) := dk_180 (x := 0) (y := 18) (by decide +kernel) rfl
theorem dX7_wholeOf_49 : decode cX7_wholeOf 49 = .ok (.iload 4, 2) := dk_21 (x := 4) (by decide +kernel)
theorem dX7_wholeOf_51 : decode cX7_wholeOf 51 = .ok (.iconst 1, 1) := dk_4 (by decide +kernel)
theorem dX7_wholeOf_52 : decode cX7_wholeOf 52 = .ok (.iadd, 1) := dk_96 (by decide +kernel)
theorem dX7_wholeOf_53 : decode cX7_wholeOf 53 = .ok (.iaload, 1) := dk_46 (by decide +kernel)
theorem dX7_wholeOf_54 : decode cX7_wholeOf 54 = .ok (.istore 6, 2) := dk_54 (x := 6) (by decide +kernel)
theorem dX7_wholeOf_56 : decode cX7_wholeOf 56 = .ok (.iload_n 3, 1) := dk_29 (by decide +kernel)
theorem dX7_wholeOf_57 : decode cX7_wholeOf 57 = .ok (.ifCond .eq 23, 3) := dk_153 (x := 0) (y := 23) (by decide +kernel) rfl
theorem dX7_wholeOf_60 : decode cX7_wholeOf 60 = .ok (.iload 5, 2) := dk_21 (x := 5) (by decide +kernel)
theorem dX7_wholeOf_62 : decode cX7_wholeOf 62 = .ok (.ifCond .eq 16, 3) := dk_153 (x := 0) (y := 16) (by decide +kernel) rfl
theorem dX7_wholeOf_65 : decode cX7_wholeOf 65 = .ok (.iload 6, 2) := dk_21 (x := 6) (by decide +kernel)
theorem dX7_wholeOf_67 : decode cX7_wholeOf 67 = .ok (.ifCond .eq 11, 3) := dk_153 (x := 0) (y := 11) (by decide +kernel) rfl
theorem dX7_wholeOf_70 : decode cX7_wholeOf 70 = .ok (.iload 5, 2) := dk_21 (x := 5) (by decide +kernel)
theorem dX7_wholeOf_72 : decode cX7_wholeOf 72 = .ok (.iload 6, 2) := dk_21 (x := 6) (by decide +kernel)
theorem dX7_wholeOf_74 : decode cX7_wholeOf 74 = .ok (.ior, 1) := dk_128 (by decide +kernel)
theorem dX7_wholeOf_75 : decode cX7_wholeOf 75 = .ok (.goto 4, 3) := dk_167 (x := 0) (y := 4) (by decide +kernel) rfl
theorem dX7_wholeOf_78 : decode cX7_wholeOf 78 = .ok (.iconst 0, 1) := dk_3 (by decide +kernel)
theorem dX7_wholeOf_79 : decode cX7_wholeOf 79 = .ok (.ireturn, 1) := dk_172 (by decide +kernel)
theorem dX7_wholeOf_80 : decode cX7_wholeOf 80 = .ok (.iload 5, 2) := dk_21 (x := 5) (by decide +kernel)
theorem dX7_wholeOf_82 : decode cX7_wholeOf 82 = .ok (.ifCond .eq 8, 3) := dk_153 (x := 0) (y := 8) (by decide +kernel) rfl
theorem dX7_wholeOf_85 : decode cX7_wholeOf 85 = .ok (.iload 5, 2) := dk_21 (x := 5) (by decide +kernel)
theorem dX7_wholeOf_87 : decode cX7_wholeOf 87 = .ok (.goto 5, 3) := dk_167 (x := 0) (y := 5) (by decide +kernel) rfl
theorem dX7_wholeOf_90 : decode cX7_wholeOf 90 = .ok (.iload 6, 2) := dk_21 (x := 6) (by decide +kernel)
theorem dX7_wholeOf_92 : decode cX7_wholeOf 92 = .ok (.istore 7, 2) := dk_54 (x := 7) (by decide +kernel)
theorem dX7_wholeOf_94 : decode cX7_wholeOf 94 = .ok (.iload 7, 2) := dk_21 (x := 7) (by decide +kernel)
theorem dX7_wholeOf_96 : decode cX7_wholeOf 96 = .ok (.ifCond .eq 12, 3) := dk_153 (x := 0) (y := 12) (by decide +kernel) rfl
theorem dX7_wholeOf_99 : decode cX7_wholeOf 99 = .ok (.iload 7, 2) := dk_21 (x := 7) (by decide +kernel)
theorem dX7_wholeOf_101 : decode cX7_wholeOf 101 = .ok (.iconst 1, 1) := dk_4 (by decide +kernel)
theorem dX7_wholeOf_102 : decode cX7_wholeOf 102 = .ok (.iload_n 1, 1) := dk_27 (by decide +kernel)
theorem dX7_wholeOf_103 : decode cX7_wholeOf 103 = .ok (.ishl, 1) := dk_120 (by decide +kernel)
theorem dX7_wholeOf_104 : decode cX7_wholeOf 104 = .ok (.ior, 1) := dk_128 (by decide +kernel)
theorem dX7_wholeOf_105 : decode cX7_wholeOf 105 = .ok (.goto 4, 3) := dk_167 (x := 0) (y := 4) (by decide +kernel) rfl
theorem dX7_wholeOf_108 : decode cX7_wholeOf 108 = .ok (.iconst 0, 1) := dk_3 (by decide +kernel)
theorem dX7_wholeOf_109 : decode cX7_wholeOf 109 = .ok (.ireturn, 1) := dk_172 (by decide +kernel)
def f_X7_wholeOf_92 (M : Mem) (v1 : Int32) (u0 : Int32) : Option Int32 :=
    if u0 = 0 then (
      some (0 : Int32)
      ) else (
      some (u0 ||| ((1 : Int32) <<< (v1 &&& 31)))
      )
def f_X7_wholeOf (o : Nat) (a1 : Int32) (a2 : Int32) (M : Mem) : Option Int32 :=
  obd (f_X9_has a2 a1 M) fun r2 =>
  bnd (((2 : Int32) * a1) + (1 : Int32)) fun x3 =>
  chk (isO M 7 o) <|
  if (x3 + (1 : Int32)) < (mI M o 3) then (
    bnd (mR M o 2) fun o8 =>
    chk (isO M 100 o8) <|
    chk (inB x3 (mLn M o8)) <|
    bnd (mI M o8 (x3).toNatClampNeg) fun x12 =>
    bnd (mR M o 2) fun o14 =>
    chk (isO M 100 o14) <|
    chk (inB (x3 + (1 : Int32)) (mLn M o14)) <|
    bnd (mI M o14 ((x3 + (1 : Int32))).toNatClampNeg) fun x18 =>
    if r2 = 0 then (
      if x12 = 0 then (
        f_X7_wholeOf_92 M a1 x18
        ) else (
        f_X7_wholeOf_92 M a1 x12
        )
      ) else (
      if x12 = 0 then (
        some (0 : Int32)
        ) else (
        if x18 = 0 then (
          some (0 : Int32)
          ) else (
          some (x12 ||| x18)
          )
        )
      )
    ) else (
    if r2 = 0 then (
      some ((1 : Int32) <<< (a1 &&& 31))
      ) else (
      some (0 : Int32)
      )
    )
theorem cd_X7_wholeOf : (yX7_wholeOf.cls ≠ "java/lang/invoke/MethodHandle" ∧ yX7_wholeOf.cls ≠ "java/lang/invoke/VarHandle") ∧ (parseMethodDescriptor yX7_wholeOf.desc).map (fun d => d.parameters.length) = some 2 := ⟨⟨by decide +kernel, by decide +kernel⟩, by decide +kernel⟩
section
variable {p : Program} {l : Launch} {e : Env} {R : Room} {s : State} {m : MethodId} {args : Array Value} {below : List Frame} {meth : Method} {c : Code} {G : Gam} {M0 : Mem}
theorem l_X7_wholeOf_92 {M : Mem} {rv : Int32} {v1 : Int32} {u0 : Int32} (X : Cx p R s m args c G M0 cX7_wholeOf yX7_wholeOf.cls 8 1 21) (hr : meth.sig.returnType = (some .int)) (hlk : meth.locks = false) (hnm : meth.name = "wholeOf") (hf : f_X7_wholeOf_92 M v1 u0 = some rv) : Sg p l e R s m args below meth c (Qm below G args s (some (.int rv)) M0 M) G M0 8 92 [(1, .int v1)] [.int u0] M := by
  rw [f_X7_wholeOf_92] at hf
  refine s_istore X (vs' := [(1, .int v1), (7, .int u0)]) dX7_wholeOf_92 (Nat.le_of_ble_eq_true rfl) [1, 0] rfl ?_
  refine s_iload X 1 dX7_wholeOf_94 rfl ?_
  have hs1 := pk_ite hf
  clear hf
  refine s_if_eq X (tgt := 108) dX7_wholeOf_96 rfl (fun c2 => ?_) (fun c2 => ?_)
  · have hf := hs1.1 c2
    refine s_iconst X (v := (0 : Int32)) dX7_wholeOf_108 rfl ?_
    cases hf
    exact s_iret X hr hlk dX7_wholeOf_109
  · have hf := hs1.2 c2
    refine s_iload X 1 dX7_wholeOf_99 rfl ?_
    refine s_iconst X (v := (1 : Int32)) dX7_wholeOf_101 rfl ?_
    refine s_iload_n X 0 dX7_wholeOf_102 rfl rfl ?_
    refine s_ishl X dX7_wholeOf_103 ?_
    refine s_ior X dX7_wholeOf_104 ?_
    refine s_goto X (tgt := 109) dX7_wholeOf_105 rfl ?_
    cases hf
    exact s_iret X hr hlk dX7_wholeOf_109
end
theorem k_X7_wholeOf (G : Gam) {o : Nat} {a1 : Int32} {a2 : Int32} {M : Mem} {rv : Int32} (hf : f_X7_wholeOf o a1 a2 M = some rv) : Kt yX7_wholeOf cX7_wholeOf 8 (some .int) 1 21 G [.ref (gB G + o), .int a1, .int a2] M M (some (.int rv)) := by
  refine Kt.of (by decide) (Nat.le_of_ble_eq_true rfl) ?_
  intro p l e R s m args below meth c X hr hlk hnm
  refine s_drop [0, 1, 2] (vs' := [(0, .ref (gB G + o)), (1, .int a1), (2, .int a2)]) rfl ?_
  rw [f_X7_wholeOf] at hf
  refine s_iload_n X 2 dX7_wholeOf_0 rfl rfl ?_
  refine s_iload_n X 1 dX7_wholeOf_1 rfl rfl ?_
  obtain ⟨r2, hc1, hf⟩ := pk_obd hf
  refine s_callSN X (k_X9_has G hc1) (host := "QuorumGate") ns_6 wd712 wd713 wd126 cd_X9_has ⟨Nat.le_of_ble_eq_true rfl, Nat.le_of_ble_eq_true rfl⟩ (Nat.le_of_ble_eq_true rfl) dX7_wholeOf_2 ?_
  refine s_istore_n X (vs' := [(0, .ref (gB G + o)), (1, .int a1), (2, .int a2), (3, .int r2)]) dX7_wholeOf_5 rfl (Nat.le_of_ble_eq_true rfl) [1, 2, 3, 0] rfl ?_
  refine s_iconst X (v := (2 : Int32)) dX7_wholeOf_6 rfl ?_
  refine s_iload_n X 1 dX7_wholeOf_7 rfl rfl ?_
  refine s_imul X dX7_wholeOf_8 ?_
  refine s_iconst X (v := (1 : Int32)) dX7_wholeOf_9 rfl ?_
  refine s_iadd X dX7_wholeOf_10 ?_
  obtain ⟨x3, e4, hf⟩ := pk_bnd hf
  refine s_nmI e4 ?_
  refine s_istore X (vs' := [(0, .ref (gB G + o)), (1, .int a1), (2, .int a2), (3, .int r2), (4, .int x3)]) dX7_wholeOf_11 (Nat.le_of_ble_eq_true rfl) [1, 2, 3, 4, 0] rfl ?_
  refine s_iload X 4 dX7_wholeOf_13 rfl ?_
  refine s_iconst X (v := (1 : Int32)) dX7_wholeOf_15 rfl ?_
  refine s_iadd X dX7_wholeOf_16 ?_
  refine s_aload_n X 0 dX7_wholeOf_17 rfl rfl ?_
  obtain ⟨h5, hf⟩ := pk_chk hf
  refine s_getI X (ci := 7) (k := 3) rfl (Nat.le_of_ble_eq_true rfl) h5 wd169 (fun _ _ _ => rfl) dX7_wholeOf_18 ?_
  have hs6 := pk_ite hf
  clear hf
  refine s_icmp_lt X (tgt := 36) dX7_wholeOf_21 rfl (fun c7 => ?_) (fun c7 => ?_)
  · have hf := hs6.1 c7
    refine s_aload_n X 0 dX7_wholeOf_36 rfl rfl ?_
    obtain ⟨o8, e9, hf⟩ := pk_bnd hf
    obtain ⟨h10, hf⟩ := pk_chk hf
    refine s_getR X (ci := 7) (k := 2) rfl (Nat.le_of_ble_eq_true rfl) h5 wd164 (fun _ _ _ => rfl) (e9 ▸ h10) dX7_wholeOf_37 (e9 ▸ ?_)
    refine s_iload X 4 dX7_wholeOf_40 rfl ?_
    obtain ⟨h11, hf⟩ := pk_chk hf
    refine s_iald X h10 h11 dX7_wholeOf_42 ?_
    obtain ⟨x12, e13, hf⟩ := pk_bnd hf
    refine s_nmI e13 ?_
    refine s_istore X (vs' := [(0, .ref (gB G + o)), (1, .int a1), (2, .int a2), (3, .int r2), (4, .int x3), (5, .int x12)]) dX7_wholeOf_43 (Nat.le_of_ble_eq_true rfl) [1, 2, 3, 4, 5, 0] rfl ?_
    refine s_aload_n X 0 dX7_wholeOf_45 rfl rfl ?_
    obtain ⟨o14, e15, hf⟩ := pk_bnd hf
    obtain ⟨h16, hf⟩ := pk_chk hf
    refine s_getR X (ci := 7) (k := 2) rfl (Nat.le_of_ble_eq_true rfl) h5 wd164 (fun _ _ _ => rfl) (e15 ▸ h16) dX7_wholeOf_46 (e15 ▸ ?_)
    refine s_iload X 4 dX7_wholeOf_49 rfl ?_
    refine s_iconst X (v := (1 : Int32)) dX7_wholeOf_51 rfl ?_
    refine s_iadd X dX7_wholeOf_52 ?_
    obtain ⟨h17, hf⟩ := pk_chk hf
    refine s_iald X h16 h17 dX7_wholeOf_53 ?_
    obtain ⟨x18, e19, hf⟩ := pk_bnd hf
    refine s_nmI e19 ?_
    refine s_istore X (vs' := [(0, .ref (gB G + o)), (1, .int a1), (2, .int a2), (3, .int r2), (4, .int x3), (5, .int x12), (6, .int x18)]) dX7_wholeOf_54 (Nat.le_of_ble_eq_true rfl) [1, 2, 3, 4, 5, 6, 0] rfl ?_
    refine s_iload_n X 3 dX7_wholeOf_56 rfl rfl ?_
    have hs20 := pk_ite hf
    clear hf
    refine s_if_eq X (tgt := 80) dX7_wholeOf_57 rfl (fun c21 => ?_) (fun c21 => ?_)
    · have hf := hs20.1 c21
      refine s_iload X 5 dX7_wholeOf_80 rfl ?_
      have hs22 := pk_ite hf
      clear hf
      refine s_if_eq X (tgt := 90) dX7_wholeOf_82 rfl (fun c23 => ?_) (fun c23 => ?_)
      · have hf := hs22.1 c23
        refine s_iload X 6 dX7_wholeOf_90 rfl ?_
        refine s_drop [1] (vs' := [(1, .int a1)]) rfl ?_
        exact l_X7_wholeOf_92 X hr hlk hnm hf
      · have hf := hs22.2 c23
        refine s_iload X 5 dX7_wholeOf_85 rfl ?_
        refine s_goto X (tgt := 92) dX7_wholeOf_87 rfl ?_
        refine s_drop [1] (vs' := [(1, .int a1)]) rfl ?_
        exact l_X7_wholeOf_92 X hr hlk hnm hf
    · have hf := hs20.2 c21
      refine s_iload X 5 dX7_wholeOf_60 rfl ?_
      have hs24 := pk_ite hf
      clear hf
      refine s_if_eq X (tgt := 78) dX7_wholeOf_62 rfl (fun c25 => ?_) (fun c25 => ?_)
      · have hf := hs24.1 c25
        refine s_iconst X (v := (0 : Int32)) dX7_wholeOf_78 rfl ?_
        cases hf
        exact s_iret X hr hlk dX7_wholeOf_79
      · have hf := hs24.2 c25
        refine s_iload X 6 dX7_wholeOf_65 rfl ?_
        have hs26 := pk_ite hf
        clear hf
        refine s_if_eq X (tgt := 78) dX7_wholeOf_67 rfl (fun c27 => ?_) (fun c27 => ?_)
        · have hf := hs26.1 c27
          refine s_iconst X (v := (0 : Int32)) dX7_wholeOf_78 rfl ?_
          cases hf
          exact s_iret X hr hlk dX7_wholeOf_79
        · have hf := hs26.2 c27
          refine s_iload X 5 dX7_wholeOf_70 rfl ?_
          refine s_iload X 6 dX7_wholeOf_72 rfl ?_
          refine s_ior X dX7_wholeOf_74 ?_
          refine s_goto X (tgt := 79) dX7_wholeOf_75 rfl ?_
          cases hf
          exact s_iret X hr hlk dX7_wholeOf_79
  · have hf := hs6.2 c7
    refine s_iload_n X 3 dX7_wholeOf_24 rfl rfl ?_
    have hs28 := pk_ite hf
    clear hf
    refine s_if_eq X (tgt := 32) dX7_wholeOf_25 rfl (fun c29 => ?_) (fun c29 => ?_)
    · have hf := hs28.1 c29
      refine s_iconst X (v := (1 : Int32)) dX7_wholeOf_32 rfl ?_
      refine s_iload_n X 1 dX7_wholeOf_33 rfl rfl ?_
      refine s_ishl X dX7_wholeOf_34 ?_
      cases hf
      exact s_iret X hr hlk dX7_wholeOf_35
    · have hf := hs28.2 c29
      refine s_iconst X (v := (0 : Int32)) dX7_wholeOf_28 rfl ?_
      refine s_goto X (tgt := 35) dX7_wholeOf_29 rfl ?_
      cases hf
      exact s_iret X hr hlk dX7_wholeOf_35
theorem dX7_wholeOfRoot_0 : decode cX7_wholeOfRoot 0 = .ok (.aload_n 0, 1) := dk_42 (by decide +kernel)
theorem dX7_wholeOfRoot_1 : decode cX7_wholeOfRoot 1 = .ok (.getfield 40, 3) := dk_180 (x := 0) (y := 40) (by decide +kernel) rfl
theorem dX7_wholeOfRoot_4 : decode cX7_wholeOfRoot 4 = .ok (.iconst 1, 1) := dk_4 (by decide +kernel)
theorem dX7_wholeOfRoot_5 : decode cX7_wholeOfRoot 5 = .ok (.isub, 1) := dk_100 (by decide +kernel)
theorem dX7_wholeOfRoot_6 : decode cX7_wholeOfRoot 6 = .ok (.istore_n 2, 1) := dk_61 (by decide +kernel)
theorem dX7_wholeOfRoot_7 : decode cX7_wholeOfRoot 7 = .ok (.iload_n 2, 1) := dk_28 (by decide +kernel)
theorem dX7_wholeOfRoot_8 : decode cX7_wholeOfRoot 8 = .ok (.ifCond .lt 21, 3) := dk_155 (x := 0) (y := 21) (by decide +kernel) rfl
theorem dX7_wholeOfRoot_11 : decode cX7_wholeOfRoot 11 = .ok (.aload_n 0, 1) := dk_42 (by decide +kernel)
theorem dX7_wholeOfRoot_12 : decode cX7_wholeOfRoot 12 = .ok (.getfield 18, 3) := dk_180 (x := 0) (y := 18) (by decide +kernel) rfl
theorem dX7_wholeOfRoot_15 : decode cX7_wholeOfRoot 15 = .ok (.iload_n 2, 1) := dk_28 (by decide +kernel)
theorem dX7_wholeOfRoot_16 : decode cX7_wholeOfRoot 16 = .ok (.aload_n 0, 1) := dk_42 (by decide +kernel)
theorem dX7_wholeOfRoot_17 : decode cX7_wholeOfRoot 17 = .ok (.iload_n 2, 1) := dk_28 (by decide +kernel)
theorem dX7_wholeOfRoot_18 : decode cX7_wholeOfRoot 18 = .ok (.iload_n 1, 1) := dk_27 (by decide +kernel)
theorem dX7_wholeOfRoot_19 : decode cX7_wholeOfRoot 19 = .ok (.invokevirtual 71, 3) := dk_182 (x := 0) (y := 71) (by decide +kernel) rfl
theorem dX7_wholeOfRoot_22 : decode cX7_wholeOfRoot 22 = .ok (.iastore, 1) := dk_79 (by decide +kernel)
theorem dX7_wholeOfRoot_23 : decode cX7_wholeOfRoot 23 = .ok (.iinc 2 (-1), 3) := dk_132 (x := 2) (y := 255) (by decide +kernel) rfl
theorem dX7_wholeOfRoot_26 : decode cX7_wholeOfRoot 26 = .ok (.goto (-19), 3) := dk_167 (x := 255) (y := 237) (by decide +kernel) rfl
theorem dX7_wholeOfRoot_29 : decode cX7_wholeOfRoot 29 = .ok (.aload_n 0, 1) := dk_42 (by decide +kernel)
theorem dX7_wholeOfRoot_30 : decode cX7_wholeOfRoot 30 = .ok (.getfield 18, 3) := dk_180 (x := 0) (y := 18) (by decide +kernel) rfl
theorem dX7_wholeOfRoot_33 : decode cX7_wholeOfRoot 33 = .ok (.iconst 0, 1) := dk_3 (by decide +kernel)
theorem dX7_wholeOfRoot_34 : decode cX7_wholeOfRoot 34 = .ok (.iaload, 1) := dk_46 (by decide +kernel)
theorem dX7_wholeOfRoot_35 : decode cX7_wholeOfRoot 35 = .ok (.ireturn, 1) := dk_172 (by decide +kernel)
def f_X7_wholeOfRoot_7 : Nat → Nat → Int32 → Int32 → Mem → Option (Int32 × Mem)
  | 0, _, _, _, _ => none
  | n + 1, v0, v1, v2, M =>
    if v2 < 0 then (
      chk (isO M 7 v0) <|
      bnd (mR M v0 2) fun o4 =>
      chk (isO M 100 o4) <|
      chk (inB (0 : Int32) (mLn M o4)) <|
      some ((mI M o4 ((0 : Int32)).toNatClampNeg), M)
      ) else (
      chk (isO M 7 v0) <|
      bnd (mR M v0 2) fun o9 =>
      chk (isO M 100 o9) <|
      obd (f_X7_wholeOf v0 v2 v1 M) fun r13 =>
      chk (inB v2 (mLn M o9)) <|
      bnd (sI M o9 (v2).toNatClampNeg r13) fun M15 =>
      bnd (v2 + (-1 : Int32)) fun x19 =>
      f_X7_wholeOfRoot_7 n v0 v1 x19 M15
      )
def f_X7_wholeOfRoot (n : Nat) (o : Nat) (a1 : Int32) (M : Mem) : Option (Int32 × Mem) :=
  chk (isO M 7 o) <|
  bnd ((mI M o 3) - (1 : Int32)) fun x2 =>
  f_X7_wholeOfRoot_7 n o a1 x2 M
theorem cd_X7_wholeOfRoot : (yX7_wholeOfRoot.cls ≠ "java/lang/invoke/MethodHandle" ∧ yX7_wholeOfRoot.cls ≠ "java/lang/invoke/VarHandle") ∧ (parseMethodDescriptor yX7_wholeOfRoot.desc).map (fun d => d.parameters.length) = some 1 := ⟨⟨by decide +kernel, by decide +kernel⟩, by decide +kernel⟩
section
variable {p : Program} {l : Launch} {e : Env} {R : Room} {s : State} {m : MethodId} {args : Array Value} {below : List Frame} {meth : Method} {c : Code} {G : Gam} {M0 : Mem}
theorem l_X7_wholeOfRoot_7 {rv : (Int32 × Mem)} (X : Cx p R s m args c G M0 cX7_wholeOfRoot yX7_wholeOfRoot.cls 3 2 48) (hr : meth.sig.returnType = (some .int)) (hlk : meth.locks = false) (hnm : meth.name = "wholeOfRoot") : ∀ {n : Nat} (v0 : Nat) (v1 : Int32) (v2 : Int32) (M : Mem), f_X7_wholeOfRoot_7 n v0 v1 v2 M = some rv → Sg p l e R s m args below meth c (Qm below G args s (some (.int rv.1)) M0 rv.2) G M0 3 7 [(0, .ref (gB G + v0)), (1, .int v1), (2, .int v2)] [] M := by
  intro n
  induction n with
  | zero => intro v0 v1 v2 M hf; exact (pk_none hf).elim
  | succ n ih =>
    intro v0 v1 v2 M hf
    rw [f_X7_wholeOfRoot_7] at hf
    refine s_iload_n X 2 dX7_wholeOfRoot_7 rfl rfl ?_
    have hs1 := pk_ite hf
    clear hf
    refine s_if_lt X (tgt := 29) dX7_wholeOfRoot_8 rfl (fun c2 => ?_) (fun c2 => ?_)
    · have hf := hs1.1 c2
      refine s_aload_n X 0 dX7_wholeOfRoot_29 rfl rfl ?_
      obtain ⟨h3, hf⟩ := pk_chk hf
      obtain ⟨o4, e5, hf⟩ := pk_bnd hf
      obtain ⟨h6, hf⟩ := pk_chk hf
      refine s_getR X (ci := 7) (k := 2) rfl (Nat.le_of_ble_eq_true rfl) h3 wd164 (fun _ _ _ => rfl) (e5 ▸ h6) dX7_wholeOfRoot_30 (e5 ▸ ?_)
      refine s_iconst X (v := (0 : Int32)) dX7_wholeOfRoot_33 rfl ?_
      obtain ⟨h7, hf⟩ := pk_chk hf
      refine s_iald X h6 h7 dX7_wholeOfRoot_34 ?_
      cases hf
      exact s_iret X hr hlk dX7_wholeOfRoot_35
    · have hf := hs1.2 c2
      refine s_aload_n X 0 dX7_wholeOfRoot_11 rfl rfl ?_
      obtain ⟨h8, hf⟩ := pk_chk hf
      obtain ⟨o9, e10, hf⟩ := pk_bnd hf
      obtain ⟨h11, hf⟩ := pk_chk hf
      refine s_getR X (ci := 7) (k := 2) rfl (Nat.le_of_ble_eq_true rfl) h8 wd164 (fun _ _ _ => rfl) (e10 ▸ h11) dX7_wholeOfRoot_12 (e10 ▸ ?_)
      refine s_iload_n X 2 dX7_wholeOfRoot_15 rfl rfl ?_
      refine s_aload_n X 0 dX7_wholeOfRoot_16 rfl rfl ?_
      refine s_iload_n X 2 dX7_wholeOfRoot_17 rfl rfl ?_
      refine s_iload_n X 1 dX7_wholeOfRoot_18 rfl rfl ?_
      obtain ⟨r13, hc12, hf⟩ := pk_obd hf
      refine s_callV X (ci := 7) (k_X7_wholeOf G hc12) rfl h8 wd772 wd774 wd3 wd775 wd127 cd_X7_wholeOf ⟨Nat.le_of_ble_eq_true rfl, Nat.le_of_ble_eq_true rfl⟩ (Nat.le_of_ble_eq_true rfl) dX7_wholeOfRoot_19 ?_
      obtain ⟨h14, hf⟩ := pk_chk hf
      obtain ⟨M15, e16, hf⟩ := pk_bnd hf
      refine s_iast X h11 h14 e16 dX7_wholeOfRoot_22 ?_
      have h17 := io_sI e16 h8
      have h18 := io_sI e16 h11
      obtain ⟨x19, e20, hf⟩ := pk_bnd hf
      refine s_iinc X (vs' := [(0, .ref (gB G + v0)), (1, .int v1), (2, .int x19)]) 2 dX7_wholeOfRoot_23 rfl (v := x19) e20.symm (Nat.le_of_ble_eq_true rfl) [1, 2, 0] rfl ?_
      refine s_goto X (tgt := 7) dX7_wholeOfRoot_26 rfl ?_
      exact ih _ _ _ _ hf
end
theorem k_X7_wholeOfRoot (G : Gam) {n : Nat} {o : Nat} {a1 : Int32} {M : Mem} {rv : (Int32 × Mem)} (hf : f_X7_wholeOfRoot n o a1 M = some rv) : Kt yX7_wholeOfRoot cX7_wholeOfRoot 3 (some .int) 2 48 G [.ref (gB G + o), .int a1] M rv.2 (some (.int rv.1)) := by
  refine Kt.of (by decide) (Nat.le_of_ble_eq_true rfl) ?_
  intro p l e R s m args below meth c X hr hlk hnm
  refine s_drop [0, 1] (vs' := [(0, .ref (gB G + o)), (1, .int a1)]) rfl ?_
  rw [f_X7_wholeOfRoot] at hf
  refine s_aload_n X 0 dX7_wholeOfRoot_0 rfl rfl ?_
  obtain ⟨h1, hf⟩ := pk_chk hf
  refine s_getI X (ci := 7) (k := 3) rfl (Nat.le_of_ble_eq_true rfl) h1 wd169 (fun _ _ _ => rfl) dX7_wholeOfRoot_1 ?_
  refine s_iconst X (v := (1 : Int32)) dX7_wholeOfRoot_4 rfl ?_
  refine s_isub X dX7_wholeOfRoot_5 ?_
  obtain ⟨x2, e3, hf⟩ := pk_bnd hf
  refine s_nmI e3 ?_
  refine s_istore_n X (vs' := [(0, .ref (gB G + o)), (1, .int a1), (2, .int x2)]) dX7_wholeOfRoot_6 rfl (Nat.le_of_ble_eq_true rfl) [1, 2, 0] rfl ?_
  exact l_X7_wholeOfRoot_7 X hr hlk hnm _ _ _ _ hf
theorem dX7_firstUnbroken_0 : decode cX7_firstUnbroken 0 = .ok (.iconst 0, 1) := dk_3 (by decide +kernel)
theorem dX7_firstUnbroken_1 : decode cX7_firstUnbroken 1 = .ok (.istore_n 2, 1) := dk_61 (by decide +kernel)
theorem dX7_firstUnbroken_2 : decode cX7_firstUnbroken 2 = .ok (.iload_n 2, 1) := dk_28 (by decide +kernel)
theorem dX7_firstUnbroken_3 : decode cX7_firstUnbroken 3 = .ok (.aload_n 0, 1) := dk_42 (by decide +kernel)
theorem dX7_firstUnbroken_4 : decode cX7_firstUnbroken 4 = .ok (.getfield 40, 3) := dk_180 (x := 0) (y := 40) (by decide +kernel) rfl
theorem dX7_firstUnbroken_7 : decode cX7_firstUnbroken 7 = .ok (.if_icmp .ge 27, 3) := dk_162 (x := 0) (y := 27) (by decide +kernel) rfl
theorem dX7_firstUnbroken_10 : decode cX7_firstUnbroken 10 = .ok (.aload_n 0, 1) := dk_42 (by decide +kernel)
theorem dX7_firstUnbroken_11 : decode cX7_firstUnbroken 11 = .ok (.getfield 9, 3) := dk_180 (x := 0) (y := 9) (by decide +kernel) rfl
theorem dX7_firstUnbroken_14 : decode cX7_firstUnbroken 14 = .ok (.iload_n 2, 1) := dk_28 (by decide +kernel)
theorem dX7_firstUnbroken_15 : decode cX7_firstUnbroken 15 = .ok (.iaload, 1) := dk_46 (by decide +kernel)
theorem dX7_firstUnbroken_16 : decode cX7_firstUnbroken 16 = .ok (.iload_n 1, 1) := dk_27 (by decide +kernel)
theorem dX7_firstUnbroken_17 : decode cX7_firstUnbroken 17 = .ok (.iand, 1) := dk_126 (by decide +kernel)
theorem dX7_firstUnbroken_18 : decode cX7_firstUnbroken 18 = .ok (.ifCond .ne 10, 3) := dk_154 (x := 0) (y := 10) (by decide +kernel) rfl
theorem dX7_firstUnbroken_21 : decode cX7_firstUnbroken 21 = .ok (.aload_n 0, 1) := dk_42 (by decide +kernel)
theorem dX7_firstUnbroken_22 : decode cX7_firstUnbroken 22 = .ok (.getfield 9, 3) := dk_180 (x := 0) (y := 9) (by decide +kernel) rfl
theorem dX7_firstUnbroken_25 : decode cX7_firstUnbroken 25 = .ok (.iload_n 2, 1) := dk_28 (by decide +kernel)
theorem dX7_firstUnbroken_26 : decode cX7_firstUnbroken 26 = .ok (.iaload, 1) := dk_46 (by decide +kernel)
theorem dX7_firstUnbroken_27 : decode cX7_firstUnbroken 27 = .ok (.ireturn, 1) := dk_172 (by decide +kernel)
theorem dX7_firstUnbroken_28 : decode cX7_firstUnbroken 28 = .ok (.iinc 2 1, 3) := dk_132 (x := 2) (y := 1) (by decide +kernel) rfl
theorem dX7_firstUnbroken_31 : decode cX7_firstUnbroken 31 = .ok (.goto (-29), 3) := dk_167 (x := 255) (y := 227) (by decide +kernel) rfl
theorem dX7_firstUnbroken_34 : decode cX7_firstUnbroken 34 = .ok (.iconst 0, 1) := dk_3 (by decide +kernel)
theorem dX7_firstUnbroken_35 : decode cX7_firstUnbroken 35 = .ok (.ireturn, 1) := dk_172 (by decide +kernel)
def f_X7_firstUnbroken_2 (M : Mem) : Nat → Nat → Int32 → Int32 → Option Int32
  | 0, _, _, _ => none
  | n + 1, v0, v1, v2 =>
    chk (isO M 7 v0) <|
    if (mI M v0 3) ≤ v2 then (
      some (0 : Int32)
      ) else (
      bnd (mR M v0 0) fun o4 =>
      chk (isO M 100 o4) <|
      chk (inB v2 (mLn M o4)) <|
      if ((mI M o4 (v2).toNatClampNeg) &&& v1) = 0 then (
        bnd (mR M v0 0) fun o12 =>
        chk (isO M 100 o12) <|
        chk (inB v2 (mLn M o12)) <|
        some (mI M o12 (v2).toNatClampNeg)
        ) else (
        bnd (v2 + (1 : Int32)) fun x10 =>
        f_X7_firstUnbroken_2 M n v0 v1 x10
        )
      )
def f_X7_firstUnbroken (n : Nat) (o : Nat) (a1 : Int32) (M : Mem) : Option Int32 :=
  f_X7_firstUnbroken_2 M n o a1 (0 : Int32)
theorem cd_X7_firstUnbroken : (yX7_firstUnbroken.cls ≠ "java/lang/invoke/MethodHandle" ∧ yX7_firstUnbroken.cls ≠ "java/lang/invoke/VarHandle") ∧ (parseMethodDescriptor yX7_firstUnbroken.desc).map (fun d => d.parameters.length) = some 1 := ⟨⟨by decide +kernel, by decide +kernel⟩, by decide +kernel⟩
section
variable {p : Program} {l : Launch} {e : Env} {R : Room} {s : State} {m : MethodId} {args : Array Value} {below : List Frame} {meth : Method} {c : Code} {G : Gam} {M0 : Mem}
theorem l_X7_firstUnbroken_2 {M : Mem} {rv : Int32} (X : Cx p R s m args c G M0 cX7_firstUnbroken yX7_firstUnbroken.cls 3 0 0) (hr : meth.sig.returnType = (some .int)) (hlk : meth.locks = false) (hnm : meth.name = "firstUnbroken") : ∀ {n : Nat} (v0 : Nat) (v1 : Int32) (v2 : Int32), f_X7_firstUnbroken_2 M n v0 v1 v2 = some rv → Sg p l e R s m args below meth c (Qm below G args s (some (.int rv)) M0 M) G M0 3 2 [(0, .ref (gB G + v0)), (1, .int v1), (2, .int v2)] [] M := by
  intro n
  induction n with
  | zero => intro v0 v1 v2 hf; exact (pk_none hf).elim
  | succ n ih =>
    intro v0 v1 v2 hf
    rw [f_X7_firstUnbroken_2] at hf
    refine s_iload_n X 2 dX7_firstUnbroken_2 rfl rfl ?_
    refine s_aload_n X 0 dX7_firstUnbroken_3 rfl rfl ?_
    obtain ⟨h1, hf⟩ := pk_chk hf
    refine s_getI X (ci := 7) (k := 3) rfl (Nat.le_of_ble_eq_true rfl) h1 wd169 (fun _ _ _ => rfl) dX7_firstUnbroken_4 ?_
    have hs2 := pk_ite hf
    clear hf
    refine s_icmp_ge X (tgt := 34) dX7_firstUnbroken_7 rfl (fun c3 => ?_) (fun c3 => ?_)
    · have hf := hs2.1 c3
      refine s_iconst X (v := (0 : Int32)) dX7_firstUnbroken_34 rfl ?_
      cases hf
      exact s_iret X hr hlk dX7_firstUnbroken_35
    · have hf := hs2.2 c3
      refine s_aload_n X 0 dX7_firstUnbroken_10 rfl rfl ?_
      obtain ⟨o4, e5, hf⟩ := pk_bnd hf
      obtain ⟨h6, hf⟩ := pk_chk hf
      refine s_getR X (ci := 7) (k := 0) rfl (Nat.le_of_ble_eq_true rfl) h1 wd159 (fun _ _ _ => rfl) (e5 ▸ h6) dX7_firstUnbroken_11 (e5 ▸ ?_)
      refine s_iload_n X 2 dX7_firstUnbroken_14 rfl rfl ?_
      obtain ⟨h7, hf⟩ := pk_chk hf
      refine s_iald X h6 h7 dX7_firstUnbroken_15 ?_
      refine s_iload_n X 1 dX7_firstUnbroken_16 rfl rfl ?_
      refine s_iand X dX7_firstUnbroken_17 ?_
      have hs8 := pk_ite hf
      clear hf
      refine s_if_ne X (tgt := 28) dX7_firstUnbroken_18 rfl (fun c9 => ?_) (fun c9 => ?_)
      · have hf := hs8.2 c9
        obtain ⟨x10, e11, hf⟩ := pk_bnd hf
        refine s_iinc X (vs' := [(0, .ref (gB G + v0)), (1, .int v1), (2, .int x10)]) 2 dX7_firstUnbroken_28 rfl (v := x10) e11.symm (Nat.le_of_ble_eq_true rfl) [1, 2, 0] rfl ?_
        refine s_goto X (tgt := 2) dX7_firstUnbroken_31 rfl ?_
        exact ih _ _ _ hf
      · have hf := hs8.1 c9
        refine s_aload_n X 0 dX7_firstUnbroken_21 rfl rfl ?_
        obtain ⟨o12, e13, hf⟩ := pk_bnd hf
        obtain ⟨h14, hf⟩ := pk_chk hf
        refine s_getR X (ci := 7) (k := 0) rfl (Nat.le_of_ble_eq_true rfl) h1 wd159 (fun _ _ _ => rfl) (e13 ▸ h14) dX7_firstUnbroken_22 (e13 ▸ ?_)
        refine s_iload_n X 2 dX7_firstUnbroken_25 rfl rfl ?_
        obtain ⟨h15, hf⟩ := pk_chk hf
        refine s_iald X h14 h15 dX7_firstUnbroken_26 ?_
        cases hf
        exact s_iret X hr hlk dX7_firstUnbroken_27
end
theorem k_X7_firstUnbroken (G : Gam) {n : Nat} {o : Nat} {a1 : Int32} {M : Mem} {rv : Int32} (hf : f_X7_firstUnbroken n o a1 M = some rv) : Kt yX7_firstUnbroken cX7_firstUnbroken 3 (some .int) 0 0 G [.ref (gB G + o), .int a1] M M (some (.int rv)) := by
  refine Kt.of (by decide) (Nat.le_of_ble_eq_true rfl) ?_
  intro p l e R s m args below meth c X hr hlk hnm
  refine s_drop [0, 1] (vs' := [(0, .ref (gB G + o)), (1, .int a1)]) rfl ?_
  rw [f_X7_firstUnbroken] at hf
  refine s_iconst X (v := (0 : Int32)) dX7_firstUnbroken_0 rfl ?_
  refine s_istore_n X (vs' := [(0, .ref (gB G + o)), (1, .int a1), (2, .int (0 : Int32))]) dX7_firstUnbroken_1 rfl (Nat.le_of_ble_eq_true rfl) [1, 2, 0] rfl ?_
  exact l_X7_firstUnbroken_2 X hr hlk hnm _ _ _ hf
theorem dX7_someQuorum_0 : decode cX7_someQuorum 0 = .ok (.aload_n 0, 1) := dk_42 (by decide +kernel)
theorem dX7_someQuorum_1 : decode cX7_someQuorum 1 = .ok (.getfield 36, 3) := dk_180 (x := 0) (y := 36) (by decide +kernel) rfl
theorem dX7_someQuorum_4 : decode cX7_someQuorum 4 = .ok (.ifCond .eq 11, 3) := dk_153 (x := 0) (y := 11) (by decide +kernel) rfl
theorem dX7_someQuorum_7 : decode cX7_someQuorum 7 = .ok (.aload_n 0, 1) := dk_42 (by decide +kernel)
theorem dX7_someQuorum_8 : decode cX7_someQuorum 8 = .ok (.iload_n 1, 1) := dk_27 (by decide +kernel)
theorem dX7_someQuorum_9 : decode cX7_someQuorum 9 = .ok (.invokevirtual 64, 3) := dk_182 (x := 0) (y := 64) (by decide +kernel) rfl
theorem dX7_someQuorum_12 : decode cX7_someQuorum 12 = .ok (.goto 8, 3) := dk_167 (x := 0) (y := 8) (by decide +kernel) rfl
theorem dX7_someQuorum_15 : decode cX7_someQuorum 15 = .ok (.aload_n 0, 1) := dk_42 (by decide +kernel)
theorem dX7_someQuorum_16 : decode cX7_someQuorum 16 = .ok (.iload_n 1, 1) := dk_27 (by decide +kernel)
theorem dX7_someQuorum_17 : decode cX7_someQuorum 17 = .ok (.invokevirtual 68, 3) := dk_182 (x := 0) (y := 68) (by decide +kernel) rfl
theorem dX7_someQuorum_20 : decode cX7_someQuorum 20 = .ok (.ifCond .eq 7, 3) := dk_153 (x := 0) (y := 7) (by decide +kernel) rfl
theorem dX7_someQuorum_23 : decode cX7_someQuorum 23 = .ok (.iconst 1, 1) := dk_4 (by decide +kernel)
theorem dX7_someQuorum_24 : decode cX7_someQuorum 24 = .ok (.goto 4, 3) := dk_167 (x := 0) (y := 4) (by decide +kernel) rfl
theorem dX7_someQuorum_27 : decode cX7_someQuorum 27 = .ok (.iconst 0, 1) := dk_3 (by decide +kernel)
theorem dX7_someQuorum_28 : decode cX7_someQuorum 28 = .ok (.ireturn, 1) := dk_172 (by decide +kernel)
def f_X7_someQuorum_20 (n : Nat) (u0 : Int32) (M : Mem) : Option (Int32 × Mem) :=
    if u0 = 0 then (
      some ((0 : Int32), M)
      ) else (
      some ((1 : Int32), M)
      )
def f_X7_someQuorum (n : Nat) (o : Nat) (a1 : Int32) (M : Mem) : Option (Int32 × Mem) :=
  chk (isO M 7 o) <|
  if (mI M o 4) = 0 then (
    obd (f_X7_firstUnbroken n o a1 M) fun r5 =>
    f_X7_someQuorum_20 n r5 M
    ) else (
    obd2 (f_X7_wholeOfRoot n o a1 M) fun r7 M8 =>
    f_X7_someQuorum_20 n r7 M8
    )
theorem cd_X7_someQuorum : (yX7_someQuorum.cls ≠ "java/lang/invoke/MethodHandle" ∧ yX7_someQuorum.cls ≠ "java/lang/invoke/VarHandle") ∧ (parseMethodDescriptor yX7_someQuorum.desc).map (fun d => d.parameters.length) = some 1 := ⟨⟨by decide +kernel, by decide +kernel⟩, by decide +kernel⟩
section
variable {p : Program} {l : Launch} {e : Env} {R : Room} {s : State} {m : MethodId} {args : Array Value} {below : List Frame} {meth : Method} {c : Code} {G : Gam} {M0 : Mem}
theorem l_X7_someQuorum_20 {rv : (Int32 × Mem)} {n : Nat} {u0 : Int32} {M : Mem} (X : Cx p R s m args c G M0 cX7_someQuorum yX7_someQuorum.cls 2 3 70) (hr : meth.sig.returnType = (some .boolean)) (hlk : meth.locks = false) (hnm : meth.name = "someQuorum") (hf : f_X7_someQuorum_20 n u0 M = some rv) : Sg p l e R s m args below meth c (Qm below G args s (some (.int rv.1)) M0 rv.2) G M0 2 20 [] [.int u0] M := by
  rw [f_X7_someQuorum_20] at hf
  have hs1 := pk_ite hf
  clear hf
  refine s_if_eq X (tgt := 27) dX7_someQuorum_20 rfl (fun c2 => ?_) (fun c2 => ?_)
  · have hf := hs1.1 c2
    refine s_iconst X (v := (0 : Int32)) dX7_someQuorum_27 rfl ?_
    cases hf
    exact s_zret X hr (bz_n (Or.inl rfl)) hlk dX7_someQuorum_28
  · have hf := hs1.2 c2
    refine s_iconst X (v := (1 : Int32)) dX7_someQuorum_23 rfl ?_
    refine s_goto X (tgt := 28) dX7_someQuorum_24 rfl ?_
    cases hf
    exact s_zret X hr (bz_n (Or.inr rfl)) hlk dX7_someQuorum_28
end
theorem k_X7_someQuorum (G : Gam) {n : Nat} {o : Nat} {a1 : Int32} {M : Mem} {rv : (Int32 × Mem)} (hf : f_X7_someQuorum n o a1 M = some rv) : Kt yX7_someQuorum cX7_someQuorum 2 (some .boolean) 3 70 G [.ref (gB G + o), .int a1] M rv.2 (some (.int rv.1)) := by
  refine Kt.of (by decide) (Nat.le_of_ble_eq_true rfl) ?_
  intro p l e R s m args below meth c X hr hlk hnm
  refine s_drop [0, 1] (vs' := [(0, .ref (gB G + o)), (1, .int a1)]) rfl ?_
  rw [f_X7_someQuorum] at hf
  refine s_aload_n X 0 dX7_someQuorum_0 rfl rfl ?_
  obtain ⟨h1, hf⟩ := pk_chk hf
  refine s_getI X (ci := 7) (k := 4) rfl (Nat.le_of_ble_eq_true rfl) h1 wd172 (fun _ _ _ => rfl) dX7_someQuorum_1 ?_
  have hs2 := pk_ite hf
  clear hf
  refine s_if_eq X (tgt := 15) dX7_someQuorum_4 rfl (fun c3 => ?_) (fun c3 => ?_)
  · have hf := hs2.1 c3
    refine s_aload_n X 0 dX7_someQuorum_15 rfl rfl ?_
    refine s_iload_n X 1 dX7_someQuorum_16 rfl rfl ?_
    obtain ⟨r5, hc4, hf⟩ := pk_obd hf
    refine s_callV X (ci := 7) (k_X7_firstUnbroken G hc4) rfl h1 wd776 wd778 wd4 wd779 wd127 cd_X7_firstUnbroken ⟨Nat.le_of_ble_eq_true rfl, Nat.le_of_ble_eq_true rfl⟩ (Nat.le_of_ble_eq_true rfl) dX7_someQuorum_17 ?_
    refine s_drop [] (vs' := []) rfl ?_
    exact l_X7_someQuorum_20 X hr hlk hnm hf
  · have hf := hs2.2 c3
    refine s_aload_n X 0 dX7_someQuorum_7 rfl rfl ?_
    refine s_iload_n X 1 dX7_someQuorum_8 rfl rfl ?_
    obtain ⟨r7, M8, hc6, hf⟩ := pk_obd2 hf
    refine s_callV X (ci := 7) (k_X7_wholeOfRoot G hc6) rfl h1 wd768 wd770 wd2 wd771 wd127 cd_X7_wholeOfRoot ⟨Nat.le_of_ble_eq_true rfl, Nat.le_of_ble_eq_true rfl⟩ (Nat.le_of_ble_eq_true rfl) dX7_someQuorum_9 ?_
    refine s_goto X (tgt := 20) dX7_someQuorum_12 rfl ?_
    refine s_drop [] (vs' := []) rfl ?_
    exact l_X7_someQuorum_20 X hr hlk hnm hf
theorem dX9_stops_0 : decode cX9_stops 0 = .ok (.aload_n 0, 1) := dk_42 (by decide +kernel)
theorem dX9_stops_1 : decode cX9_stops 1 = .ok (.getfield 10, 3) := dk_180 (x := 0) (y := 10) (by decide +kernel) rfl
theorem dX9_stops_4 : decode cX9_stops 4 = .ok (.iload_n 1, 1) := dk_27 (by decide +kernel)
theorem dX9_stops_5 : decode cX9_stops 5 = .ok (.aload_n 0, 1) := dk_42 (by decide +kernel)
theorem dX9_stops_6 : decode cX9_stops 6 = .ok (.getfield 10, 3) := dk_180 (x := 0) (y := 10) (by decide +kernel) rfl
theorem dX9_stops_9 : decode cX9_stops 9 = .ok (.invokevirtual 116, 3) := dk_182 (x := 0) (y := 116) (by decide +kernel) rfl
theorem dX9_stops_12 : decode cX9_stops 12 = .ok (.iand, 1) := dk_126 (by decide +kernel)
theorem dX9_stops_13 : decode cX9_stops 13 = .ok (.invokevirtual 119, 3) := dk_182 (x := 0) (y := 119) (by decide +kernel) rfl
theorem dX9_stops_16 : decode cX9_stops 16 = .ok (.ifCond .ne 7, 3) := dk_154 (x := 0) (y := 7) (by decide +kernel) rfl
theorem dX9_stops_19 : decode cX9_stops 19 = .ok (.iconst 1, 1) := dk_4 (by decide +kernel)
theorem dX9_stops_20 : decode cX9_stops 20 = .ok (.goto 4, 3) := dk_167 (x := 0) (y := 4) (by decide +kernel) rfl
theorem dX9_stops_23 : decode cX9_stops 23 = .ok (.iconst 0, 1) := dk_3 (by decide +kernel)
theorem dX9_stops_24 : decode cX9_stops 24 = .ok (.ireturn, 1) := dk_172 (by decide +kernel)
def f_X9_stops (n : Nat) (o : Nat) (a1 : Int32) (M : Mem) : Option (Int32 × Mem) :=
  chk (isO M 9 o) <|
  bnd (mR M o 0) fun o2 =>
  chk (isO M 7 o2) <|
  bnd (mR M o 0) fun o5 =>
  chk (isO M 7 o5) <|
  obd (f_X7_allNodes o5 M) fun r9 =>
  obd2 (f_X7_someQuorum n o2 (a1 &&& r9) M) fun r11 M12 =>
  if r11 = 0 then (
    some ((1 : Int32), M12)
    ) else (
    some ((0 : Int32), M12)
    )
theorem cd_X9_stops : (yX9_stops.cls ≠ "java/lang/invoke/MethodHandle" ∧ yX9_stops.cls ≠ "java/lang/invoke/VarHandle") ∧ (parseMethodDescriptor yX9_stops.desc).map (fun d => d.parameters.length) = some 1 := ⟨⟨by decide +kernel, by decide +kernel⟩, by decide +kernel⟩
theorem k_X9_stops (G : Gam) {n : Nat} {o : Nat} {a1 : Int32} {M : Mem} {rv : (Int32 × Mem)} (hf : f_X9_stops n o a1 M = some rv) : Kt yX9_stops cX9_stops 2 (some .boolean) 4 91 G [.ref (gB G + o), .int a1] M rv.2 (some (.int rv.1)) := by
  refine Kt.of (by decide) (Nat.le_of_ble_eq_true rfl) ?_
  intro p l e R s m args below meth c X hr hlk hnm
  refine s_drop [0, 1] (vs' := [(0, .ref (gB G + o)), (1, .int a1)]) rfl ?_
  rw [f_X9_stops] at hf
  refine s_aload_n X 0 dX9_stops_0 rfl rfl ?_
  obtain ⟨h1, hf⟩ := pk_chk hf
  obtain ⟨o2, e3, hf⟩ := pk_bnd hf
  obtain ⟨h4, hf⟩ := pk_chk hf
  refine s_getR X (ci := 9) (k := 0) rfl (Nat.le_of_ble_eq_true rfl) h1 wd627 (fun _ _ _ => rfl) (e3 ▸ h4) dX9_stops_1 (e3 ▸ ?_)
  refine s_iload_n X 1 dX9_stops_4 rfl rfl ?_
  refine s_aload_n X 0 dX9_stops_5 rfl rfl ?_
  obtain ⟨o5, e6, hf⟩ := pk_bnd hf
  obtain ⟨h7, hf⟩ := pk_chk hf
  refine s_getR X (ci := 9) (k := 0) rfl (Nat.le_of_ble_eq_true rfl) h1 wd627 (fun _ _ _ => rfl) (e6 ▸ h7) dX9_stops_6 (e6 ▸ ?_)
  obtain ⟨r9, hc8, hf⟩ := pk_obd hf
  refine s_callV X (ci := 7) (k_X7_allNodes G hc8) rfl h7 wd763 wd684 wd685 wd686 wd127 cd_X7_allNodes ⟨Nat.le_of_ble_eq_true rfl, Nat.le_of_ble_eq_true rfl⟩ (Nat.le_of_ble_eq_true rfl) dX9_stops_9 ?_
  refine s_iand X dX9_stops_12 ?_
  obtain ⟨r11, M12, hc10, hf⟩ := pk_obd2 hf
  refine s_callV X (ci := 7) (k_X7_someQuorum G hc10) rfl h4 wd764 wd765 wd766 wd767 wd127 cd_X7_someQuorum ⟨Nat.le_of_ble_eq_true rfl, Nat.le_of_ble_eq_true rfl⟩ (Nat.le_of_ble_eq_true rfl) dX9_stops_13 ?_
  have hs13 := pk_ite hf
  clear hf
  refine s_if_ne X (tgt := 23) dX9_stops_16 rfl (fun c14 => ?_) (fun c14 => ?_)
  · have hf := hs13.2 c14
    refine s_iconst X (v := (0 : Int32)) dX9_stops_23 rfl ?_
    cases hf
    exact s_zret X hr (bz_n (Or.inl rfl)) hlk dX9_stops_24
  · have hf := hs13.1 c14
    refine s_iconst X (v := (1 : Int32)) dX9_stops_19 rfl ?_
    refine s_goto X (tgt := 24) dX9_stops_20 rfl ?_
    cases hf
    exact s_zret X hr (bz_n (Or.inr rfl)) hlk dX9_stops_24
theorem dX10_stopsBy_0 : decode cX10_stopsBy 0 = .ok (.iconst 0, 1) := dk_3 (by decide +kernel)
theorem dX10_stopsBy_1 : decode cX10_stopsBy 1 = .ok (.istore_n 2, 1) := dk_61 (by decide +kernel)
theorem dX10_stopsBy_2 : decode cX10_stopsBy 2 = .ok (.iload_n 2, 1) := dk_28 (by decide +kernel)
theorem dX10_stopsBy_3 : decode cX10_stopsBy 3 = .ok (.aload_n 0, 1) := dk_42 (by decide +kernel)
theorem dX10_stopsBy_4 : decode cX10_stopsBy 4 = .ok (.getfield 7, 3) := dk_180 (x := 0) (y := 7) (by decide +kernel) rfl
theorem dX10_stopsBy_7 : decode cX10_stopsBy 7 = .ok (.iconst 0, 1) := dk_3 (by decide +kernel)
theorem dX10_stopsBy_8 : decode cX10_stopsBy 8 = .ok (.iaload, 1) := dk_46 (by decide +kernel)
theorem dX10_stopsBy_9 : decode cX10_stopsBy 9 = .ok (.if_icmp .ge 20, 3) := dk_162 (x := 0) (y := 20) (by decide +kernel) rfl
theorem dX10_stopsBy_12 : decode cX10_stopsBy 12 = .ok (.aload_n 0, 1) := dk_42 (by decide +kernel)
theorem dX10_stopsBy_13 : decode cX10_stopsBy 13 = .ok (.iload_n 2, 1) := dk_28 (by decide +kernel)
theorem dX10_stopsBy_14 : decode cX10_stopsBy 14 = .ok (.iload_n 1, 1) := dk_27 (by decide +kernel)
theorem dX10_stopsBy_15 : decode cX10_stopsBy 15 = .ok (.invokevirtual 99, 3) := dk_182 (x := 0) (y := 99) (by decide +kernel) rfl
theorem dX10_stopsBy_18 : decode cX10_stopsBy 18 = .ok (.ifCond .eq 5, 3) := dk_153 (x := 0) (y := 5) (by decide +kernel) rfl
theorem dX10_stopsBy_21 : decode cX10_stopsBy 21 = .ok (.iconst 0, 1) := dk_3 (by decide +kernel)
theorem dX10_stopsBy_22 : decode cX10_stopsBy 22 = .ok (.ireturn, 1) := dk_172 (by decide +kernel)
theorem dX10_stopsBy_23 : decode cX10_stopsBy 23 = .ok (.iinc 2 1, 3) := dk_132 (x := 2) (y := 1) (by decide +kernel) rfl
theorem dX10_stopsBy_26 : decode cX10_stopsBy 26 = .ok (.goto (-24), 3) := dk_167 (x := 255) (y := 232) (by decide +kernel) rfl
theorem dX10_stopsBy_29 : decode cX10_stopsBy 29 = .ok (.iconst 1, 1) := dk_4 (by decide +kernel)
theorem dX10_stopsBy_30 : decode cX10_stopsBy 30 = .ok (.ireturn, 1) := dk_172 (by decide +kernel)
def f_X10_stopsBy_2 : Nat → Nat → Int32 → Int32 → Mem → Option (Int32 × Mem)
  | 0, _, _, _, _ => none
  | n + 1, v0, v1, v2, M =>
    chk (isO M 10 v0) <|
    bnd (mR M v0 0) fun o2 =>
    chk (isO M 100 o2) <|
    chk (inB (0 : Int32) (mLn M o2)) <|
    if (mI M o2 ((0 : Int32)).toNatClampNeg) ≤ v2 then (
      some ((1 : Int32), M)
      ) else (
      obd2 (f_X10_quorumBy n v0 v2 v1 M) fun r9 M10 =>
      if r9 = 0 then (
        bnd (v2 + (1 : Int32)) fun x13 =>
        f_X10_stopsBy_2 n v0 v1 x13 M10
        ) else (
        some ((0 : Int32), M10)
        )
      )
def f_X10_stopsBy (n : Nat) (o : Nat) (a1 : Int32) (M : Mem) : Option (Int32 × Mem) :=
  f_X10_stopsBy_2 n o a1 (0 : Int32) M
theorem cd_X10_stopsBy : (yX10_stopsBy.cls ≠ "java/lang/invoke/MethodHandle" ∧ yX10_stopsBy.cls ≠ "java/lang/invoke/VarHandle") ∧ (parseMethodDescriptor yX10_stopsBy.desc).map (fun d => d.parameters.length) = some 1 := ⟨⟨by decide +kernel, by decide +kernel⟩, by decide +kernel⟩
section
variable {p : Program} {l : Launch} {e : Env} {R : Room} {s : State} {m : MethodId} {args : Array Value} {below : List Frame} {meth : Method} {c : Code} {G : Gam} {M0 : Mem}
theorem l_X10_stopsBy_2 {rv : (Int32 × Mem)} (X : Cx p R s m args c G M0 cX10_stopsBy yX10_stopsBy.cls 3 3 69) (hr : meth.sig.returnType = (some .boolean)) (hlk : meth.locks = false) (hnm : meth.name = "stopsBy") : ∀ {n : Nat} (v0 : Nat) (v1 : Int32) (v2 : Int32) (M : Mem), f_X10_stopsBy_2 n v0 v1 v2 M = some rv → Sg p l e R s m args below meth c (Qm below G args s (some (.int rv.1)) M0 rv.2) G M0 3 2 [(0, .ref (gB G + v0)), (1, .int v1), (2, .int v2)] [] M := by
  intro n
  induction n with
  | zero => intro v0 v1 v2 M hf; exact (pk_none hf).elim
  | succ n ih =>
    intro v0 v1 v2 M hf
    rw [f_X10_stopsBy_2] at hf
    refine s_iload_n X 2 dX10_stopsBy_2 rfl rfl ?_
    refine s_aload_n X 0 dX10_stopsBy_3 rfl rfl ?_
    obtain ⟨h1, hf⟩ := pk_chk hf
    obtain ⟨o2, e3, hf⟩ := pk_bnd hf
    obtain ⟨h4, hf⟩ := pk_chk hf
    refine s_getR X (ci := 10) (k := 0) rfl (Nat.le_of_ble_eq_true rfl) h1 wd1440 (fun _ _ _ => rfl) (e3 ▸ h4) dX10_stopsBy_4 (e3 ▸ ?_)
    refine s_iconst X (v := (0 : Int32)) dX10_stopsBy_7 rfl ?_
    obtain ⟨h5, hf⟩ := pk_chk hf
    refine s_iald X h4 h5 dX10_stopsBy_8 ?_
    have hs6 := pk_ite hf
    clear hf
    refine s_icmp_ge X (tgt := 29) dX10_stopsBy_9 rfl (fun c7 => ?_) (fun c7 => ?_)
    · have hf := hs6.1 c7
      refine s_iconst X (v := (1 : Int32)) dX10_stopsBy_29 rfl ?_
      cases hf
      exact s_zret X hr (bz_n (Or.inr rfl)) hlk dX10_stopsBy_30
    · have hf := hs6.2 c7
      refine s_aload_n X 0 dX10_stopsBy_12 rfl rfl ?_
      refine s_iload_n X 2 dX10_stopsBy_13 rfl rfl ?_
      refine s_iload_n X 1 dX10_stopsBy_14 rfl rfl ?_
      obtain ⟨r9, M10, hc8, hf⟩ := pk_obd2 hf
      refine s_callV X (ci := 10) (k_X10_quorumBy G hc8) rfl h1 wd1592 wd1594 wd58 wd1595 wd138 cd_X10_quorumBy ⟨Nat.le_of_ble_eq_true rfl, Nat.le_of_ble_eq_true rfl⟩ (Nat.le_of_ble_eq_true rfl) dX10_stopsBy_15 ?_
      have hs11 := pk_ite hf
      clear hf
      refine s_if_eq X (tgt := 23) dX10_stopsBy_18 rfl (fun c12 => ?_) (fun c12 => ?_)
      · have hf := hs11.1 c12
        obtain ⟨x13, e14, hf⟩ := pk_bnd hf
        refine s_iinc X (vs' := [(0, .ref (gB G + v0)), (1, .int v1), (2, .int x13)]) 2 dX10_stopsBy_23 rfl (v := x13) e14.symm (Nat.le_of_ble_eq_true rfl) [1, 2, 0] rfl ?_
        refine s_goto X (tgt := 2) dX10_stopsBy_26 rfl ?_
        exact ih _ _ _ _ hf
      · have hf := hs11.2 c12
        refine s_iconst X (v := (0 : Int32)) dX10_stopsBy_21 rfl ?_
        cases hf
        exact s_zret X hr (bz_n (Or.inl rfl)) hlk dX10_stopsBy_22
end
theorem k_X10_stopsBy (G : Gam) {n : Nat} {o : Nat} {a1 : Int32} {M : Mem} {rv : (Int32 × Mem)} (hf : f_X10_stopsBy n o a1 M = some rv) : Kt yX10_stopsBy cX10_stopsBy 3 (some .boolean) 3 69 G [.ref (gB G + o), .int a1] M rv.2 (some (.int rv.1)) := by
  refine Kt.of (by decide) (Nat.le_of_ble_eq_true rfl) ?_
  intro p l e R s m args below meth c X hr hlk hnm
  refine s_drop [0, 1] (vs' := [(0, .ref (gB G + o)), (1, .int a1)]) rfl ?_
  rw [f_X10_stopsBy] at hf
  refine s_iconst X (v := (0 : Int32)) dX10_stopsBy_0 rfl ?_
  refine s_istore_n X (vs' := [(0, .ref (gB G + o)), (1, .int a1), (2, .int (0 : Int32))]) dX10_stopsBy_1 rfl (Nat.le_of_ble_eq_true rfl) [1, 2, 0] rfl ?_
  exact l_X10_stopsBy_2 X hr hlk hnm _ _ _ _ hf
theorem dX10_stops_0 : decode cX10_stops 0 = .ok (.aload_n 0, 1) := dk_42 (by decide +kernel)
theorem dX10_stops_1 : decode cX10_stops 1 = .ok (.iload_n 1, 1) := dk_27 (by decide +kernel)
theorem dX10_stops_2 : decode cX10_stops 2 = .ok (.aload_n 0, 1) := dk_42 (by decide +kernel)
theorem dX10_stops_3 : decode cX10_stops 3 = .ok (.invokevirtual 72, 3) := dk_182 (x := 0) (y := 72) (by decide +kernel) rfl
theorem dX10_stops_6 : decode cX10_stops 6 = .ok (.iand, 1) := dk_126 (by decide +kernel)
theorem dX10_stops_7 : decode cX10_stops 7 = .ok (.invokevirtual 108, 3) := dk_182 (x := 0) (y := 108) (by decide +kernel) rfl
theorem dX10_stops_10 : decode cX10_stops 10 = .ok (.ireturn, 1) := dk_172 (by decide +kernel)
def f_X10_stops (n : Nat) (o : Nat) (a1 : Int32) (M : Mem) : Option (Int32 × Mem) :=
  chk (isO M 10 o) <|
  obd (f_X10_all o M) fun r3 =>
  obd2 (f_X10_stopsBy n o (a1 &&& r3) M) fun r5 M6 =>
  chk (bz r5) <|
  some (r5, M6)
theorem cd_X10_stops : (yX10_stops.cls ≠ "java/lang/invoke/MethodHandle" ∧ yX10_stops.cls ≠ "java/lang/invoke/VarHandle") ∧ (parseMethodDescriptor yX10_stops.desc).map (fun d => d.parameters.length) = some 1 := ⟨⟨by decide +kernel, by decide +kernel⟩, by decide +kernel⟩
theorem k_X10_stops (G : Gam) {n : Nat} {o : Nat} {a1 : Int32} {M : Mem} {rv : (Int32 × Mem)} (hf : f_X10_stops n o a1 M = some rv) : Kt yX10_stops cX10_stops 2 (some .boolean) 4 91 G [.ref (gB G + o), .int a1] M rv.2 (some (.int rv.1)) := by
  refine Kt.of (by decide) (Nat.le_of_ble_eq_true rfl) ?_
  intro p l e R s m args below meth c X hr hlk hnm
  refine s_drop [0, 1] (vs' := [(0, .ref (gB G + o)), (1, .int a1)]) rfl ?_
  rw [f_X10_stops] at hf
  refine s_aload_n X 0 dX10_stops_0 rfl rfl ?_
  refine s_iload_n X 1 dX10_stops_1 rfl rfl ?_
  refine s_aload_n X 0 dX10_stops_2 rfl rfl ?_
  obtain ⟨h1, hf⟩ := pk_chk hf
  obtain ⟨r3, hc2, hf⟩ := pk_obd hf
  refine s_callV X (ci := 10) (k_X10_all G hc2) rfl h1 wd1542 wd1544 wd52 wd1545 wd138 cd_X10_all ⟨Nat.le_of_ble_eq_true rfl, Nat.le_of_ble_eq_true rfl⟩ (Nat.le_of_ble_eq_true rfl) dX10_stops_3 ?_
  refine s_iand X dX10_stops_6 ?_
  obtain ⟨r5, M6, hc4, hf⟩ := pk_obd2 hf
  refine s_callV X (ci := 10) (k_X10_stopsBy G hc4) rfl h1 wd1616 wd1618 wd60 wd1619 wd138 cd_X10_stopsBy ⟨Nat.le_of_ble_eq_true rfl, Nat.le_of_ble_eq_true rfl⟩ (Nat.le_of_ble_eq_true rfl) dX10_stops_7 ?_
  obtain ⟨h7, hf⟩ := pk_chk hf
  cases hf
  exact s_zret X hr (bz_n h7) hlk dX10_stops_10
theorem dJ7_fill_d0a16_0 : decode cJ7_fill_d0a16 0 = .ok (.iconst 0, 1) := dk_3 (by decide +kernel)
theorem dJ7_fill_d0a16_1 : decode cJ7_fill_d0a16 1 = .ok (.istore_n 3, 1) := dk_62 (by decide +kernel)
theorem dJ7_fill_d0a16_2 : decode cJ7_fill_d0a16 2 = .ok (.aload_n 0, 1) := dk_42 (by decide +kernel)
theorem dJ7_fill_d0a16_3 : decode cJ7_fill_d0a16 3 = .ok (.arraylength, 1) := dk_190 (by decide +kernel)
theorem dJ7_fill_d0a16_4 : decode cJ7_fill_d0a16 4 = .ok (.istore 4, 2) := dk_54 (x := 4) (by decide +kernel)
theorem dJ7_fill_d0a16_6 : decode cJ7_fill_d0a16 6 = .ok (.iload_n 3, 1) := dk_29 (by decide +kernel)
theorem dJ7_fill_d0a16_7 : decode cJ7_fill_d0a16 7 = .ok (.iload 4, 2) := dk_21 (x := 4) (by decide +kernel)
theorem dJ7_fill_d0a16_9 : decode cJ7_fill_d0a16 9 = .ok (.if_icmp .ge 13, 3) := dk_162 (x := 0) (y := 13) (by decide +kernel) rfl
theorem dJ7_fill_d0a16_12 : decode cJ7_fill_d0a16 12 = .ok (.aload_n 0, 1) := dk_42 (by decide +kernel)
theorem dJ7_fill_d0a16_13 : decode cJ7_fill_d0a16 13 = .ok (.iload_n 3, 1) := dk_29 (by decide +kernel)
theorem dJ7_fill_d0a16_14 : decode cJ7_fill_d0a16 14 = .ok (.lload_n 1, 1) := dk_31 (by decide +kernel)
theorem dJ7_fill_d0a16_15 : decode cJ7_fill_d0a16 15 = .ok (.lastore, 1) := dk_80 (by decide +kernel)
theorem dJ7_fill_d0a16_16 : decode cJ7_fill_d0a16 16 = .ok (.iinc 3 1, 3) := dk_132 (x := 3) (y := 1) (by decide +kernel) rfl
theorem dJ7_fill_d0a16_19 : decode cJ7_fill_d0a16 19 = .ok (.goto (-13), 3) := dk_167 (x := 255) (y := 243) (by decide +kernel) rfl
theorem dJ7_fill_d0a16_22 : decode cJ7_fill_d0a16 22 = .ok (.return_, 1) := dk_177 (by decide +kernel)
def f_J7_fill_d0a16_6 : Nat → Nat → Int64 → Int32 → Int32 → Mem → Option Mem
  | 0, _, _, _, _, _ => none
  | n + 1, v0, v1, v3, v4, M =>
    if v4 ≤ v3 then (
      some M
      ) else (
      chk (isO M 101 v0) <|
      chk (inB v3 (mLn M v0)) <|
      bnd (sL M v0 (v3).toNatClampNeg v1) fun M5 =>
      bnd (v3 + (1 : Int32)) fun x8 =>
      f_J7_fill_d0a16_6 n v0 v1 x8 v4 M5
      )
def f_J7_fill_d0a16 (n : Nat) (a1 : Nat) (a2 : Int64) (M : Mem) : Option Mem :=
  chk (isO M 101 a1) <|
  bnd (Int32.ofNat (mLn M a1)) fun x2 =>
  f_J7_fill_d0a16_6 n a1 a2 (0 : Int32) x2 M
theorem cd_J7_fill_d0a16 : (yJ7_fill_d0a16.cls ≠ "java/lang/invoke/MethodHandle" ∧ yJ7_fill_d0a16.cls ≠ "java/lang/invoke/VarHandle") ∧ (parseMethodDescriptor yJ7_fill_d0a16.desc).map (fun d => d.parameters.length) = some 2 := ⟨⟨by decide +kernel, by decide +kernel⟩, by decide +kernel⟩
section
variable {p : Program} {l : Launch} {e : Env} {R : Room} {s : State} {m : MethodId} {args : Array Value} {below : List Frame} {meth : Method} {c : Code} {G : Gam} {M0 : Mem}
theorem l_J7_fill_d0a16_6 {rv : Mem} (X : Cx p R s m args c G M0 cJ7_fill_d0a16 yJ7_fill_d0a16.cls 5 0 0) (hr : meth.sig.returnType = none) (hlk : meth.locks = false) (hnm : meth.name = "fill") : ∀ {n : Nat} (v0 : Nat) (v1 : Int64) (v3 : Int32) (v4 : Int32) (M : Mem), f_J7_fill_d0a16_6 n v0 v1 v3 v4 M = some rv → Sg p l e R s m args below meth c (Qm below G args s none M0 rv) G M0 5 6 [(0, .ref (gB G + v0)), (1, .long v1), (3, .int v3), (4, .int v4)] [] M := by
  intro n
  induction n with
  | zero => intro v0 v1 v3 v4 M hf; exact (pk_none hf).elim
  | succ n ih =>
    intro v0 v1 v3 v4 M hf
    rw [f_J7_fill_d0a16_6] at hf
    refine s_iload_n X 2 dJ7_fill_d0a16_6 rfl rfl ?_
    refine s_iload X 3 dJ7_fill_d0a16_7 rfl ?_
    have hs1 := pk_ite hf
    clear hf
    refine s_icmp_ge X (tgt := 22) dJ7_fill_d0a16_9 rfl (fun c2 => ?_) (fun c2 => ?_)
    · have hf := hs1.1 c2
      cases hf
      exact s_vret X hr hlk dJ7_fill_d0a16_22
    · have hf := hs1.2 c2
      refine s_aload_n X 0 dJ7_fill_d0a16_12 rfl rfl ?_
      refine s_iload_n X 2 dJ7_fill_d0a16_13 rfl rfl ?_
      refine s_lload_n X 1 dJ7_fill_d0a16_14 rfl rfl ?_
      obtain ⟨h3, hf⟩ := pk_chk hf
      obtain ⟨h4, hf⟩ := pk_chk hf
      obtain ⟨M5, e6, hf⟩ := pk_bnd hf
      refine s_last X h3 h4 e6 dJ7_fill_d0a16_15 ?_
      have h7 := io_sL e6 h3
      obtain ⟨x8, e9, hf⟩ := pk_bnd hf
      refine s_iinc X (vs' := [(0, .ref (gB G + v0)), (1, .long v1), (3, .int x8), (4, .int v4)]) 2 dJ7_fill_d0a16_16 rfl (v := x8) e9.symm (Nat.le_of_ble_eq_true rfl) [1, 2, 0, 3] rfl ?_
      refine s_goto X (tgt := 6) dJ7_fill_d0a16_19 rfl ?_
      exact ih _ _ _ _ _ hf
end
theorem k_J7_fill_d0a16 (G : Gam) {n : Nat} {a1 : Nat} {a2 : Int64} {M : Mem} {rv : Mem} (hf : f_J7_fill_d0a16 n a1 a2 M = some rv) : Kt yJ7_fill_d0a16 cJ7_fill_d0a16 5 none 0 0 G [.ref (gB G + a1), .long a2] M rv none := by
  refine Kt.of (by decide) (Nat.le_of_ble_eq_true rfl) ?_
  intro p l e R s m args below meth c X hr hlk hnm
  refine s_drop [0, 1] (vs' := [(0, .ref (gB G + a1)), (1, .long a2)]) rfl ?_
  rw [f_J7_fill_d0a16] at hf
  refine s_iconst X (v := (0 : Int32)) dJ7_fill_d0a16_0 rfl ?_
  refine s_istore_n X (vs' := [(0, .ref (gB G + a1)), (1, .long a2), (3, .int (0 : Int32))]) dJ7_fill_d0a16_1 rfl (Nat.le_of_ble_eq_true rfl) [1, 2, 0] rfl ?_
  refine s_aload_n X 0 dJ7_fill_d0a16_2 rfl rfl ?_
  obtain ⟨h1, hf⟩ := pk_chk hf
  refine s_alenL X h1 rfl dJ7_fill_d0a16_3 ?_
  obtain ⟨x2, e3, hf⟩ := pk_bnd hf
  refine s_nmI e3 ?_
  refine s_istore X (vs' := [(0, .ref (gB G + a1)), (1, .long a2), (3, .int (0 : Int32)), (4, .int x2)]) dJ7_fill_d0a16_4 (Nat.le_of_ble_eq_true rfl) [1, 2, 3, 0] rfl ?_
  exact l_J7_fill_d0a16_6 X hr hlk hnm _ _ _ _ _ hf
theorem dX1_begin_0 : decode cX1_begin 0 = .ok (.aload_n 0, 1) := dk_42 (by decide +kernel)
theorem dX1_begin_1 : decode cX1_begin 1 = .ok (.iload_n 1, 1) := dk_27 (by decide +kernel)
theorem dX1_begin_2 : decode cX1_begin 2 = .ok (.putfield 15, 3) := dk_181 (x := 0) (y := 15) (by decide +kernel) rfl
theorem dX1_begin_5 : decode cX1_begin 5 = .ok (.aload_n 0, 1) := dk_42 (by decide +kernel)
theorem dX1_begin_6 : decode cX1_begin 6 = .ok (.iload_n 1, 1) := dk_27 (by decide +kernel)
theorem dX1_begin_7 : decode cX1_begin 7 = .ok (.bipush 6, 2) := dk_16 (x := 6) (by decide +kernel) rfl
theorem dX1_begin_9 : decode cX1_begin 9 = .ok (.if_icmp .le 12, 3) := dk_164 (x := 0) (y := 12) (by decide +kernel) rfl
theorem dX1_begin_12 : decode cX1_begin 12 = .ok (.iconst 1, 1) := dk_4 (by decide +kernel)
theorem dX1_begin_13 : decode cX1_begin 13 = .ok (.iload_n 1, 1) := dk_27 (by decide +kernel)
theorem dX1_begin_14 : decode cX1_begin 14 = .ok (.bipush 6, 2) := dk_16 (x := 6) (by decide +kernel) rfl
theorem dX1_begin_16 : decode cX1_begin 16 = .ok (.isub, 1) := dk_100 (by decide +kernel)
theorem dX1_begin_17 : decode cX1_begin 17 = .ok (.ishl, 1) := dk_120 (by decide +kernel)
theorem dX1_begin_18 : decode cX1_begin 18 = .ok (.goto 4, 3) := dk_167 (x := 0) (y := 4) (by decide +kernel) rfl
theorem dX1_begin_21 : decode cX1_begin 21 = .ok (.iconst 1, 1) := dk_4 (by decide +kernel)
theorem dX1_begin_22 : decode cX1_begin 22 = .ok (.putfield 19, 3) := dk_181 (x := 0) (y := 19) (by decide +kernel) rfl
theorem dX1_begin_25 : decode cX1_begin 25 = .ok (.aload_n 0, 1) := dk_42 (by decide +kernel)
theorem dX1_begin_26 : decode cX1_begin 26 = .ok (.getfield 11, 3) := dk_180 (x := 0) (y := 11) (by decide +kernel) rfl
theorem dX1_begin_29 : decode cX1_begin 29 = .ok (.lconst 0, 1) := dk_9 (by decide +kernel)
theorem dX1_begin_30 : decode cX1_begin 30 = .ok (.invokestatic 22, 3) := dk_184 (x := 0) (y := 22) (by decide +kernel) rfl
theorem dX1_begin_33 : decode cX1_begin 33 = .ok (.return_, 1) := dk_177 (by decide +kernel)
def f_X1_begin_22 (n : Nat) (v0 : Nat) (u0 : Int32) (u1 : Nat) (M : Mem) : Option Mem :=
    chk (isO M 1 u1) <|
    bnd (sI M u1 2 u0) fun M2 =>
    chk (isO M2 1 v0) <|
    bnd (mR M2 v0 0) fun o6 =>
    chk (isO M2 101 o6) <|
    obd (f_J7_fill_d0a16 n o6 (0 : Int64) M2) fun M10 =>
    some M10
def f_X1_begin (n : Nat) (o : Nat) (a1 : Int32) (M : Mem) : Option Mem :=
  chk (isO M 1 o) <|
  bnd (sI M o 1 a1) fun M2 =>
  if a1 ≤ (6 : Int32) then (
    f_X1_begin_22 n o (1 : Int32) o M2
    ) else (
    f_X1_begin_22 n o ((1 : Int32) <<< ((a1 - (6 : Int32)) &&& 31)) o M2
    )
theorem cd_X1_begin : (yX1_begin.cls ≠ "java/lang/invoke/MethodHandle" ∧ yX1_begin.cls ≠ "java/lang/invoke/VarHandle") ∧ (parseMethodDescriptor yX1_begin.desc).map (fun d => d.parameters.length) = some 1 := ⟨⟨by decide +kernel, by decide +kernel⟩, by decide +kernel⟩
section
variable {p : Program} {l : Launch} {e : Env} {R : Room} {s : State} {m : MethodId} {args : Array Value} {below : List Frame} {meth : Method} {c : Code} {G : Gam} {M0 : Mem}
theorem l_X1_begin_22 {rv : Mem} {n : Nat} {v0 : Nat} {u0 : Int32} {u1 : Nat} {M : Mem} (X : Cx p R s m args c G M0 cX1_begin yX1_begin.cls 2 1 24) (hr : meth.sig.returnType = none) (hlk : meth.locks = false) (hnm : meth.name = "begin") (hf : f_X1_begin_22 n v0 u0 u1 M = some rv) : Sg p l e R s m args below meth c (Qm below G args s none M0 rv) G M0 2 22 [(0, .ref (gB G + v0))] [.int u0, .ref (gB G + u1)] M := by
  rw [f_X1_begin_22] at hf
  obtain ⟨h1, hf⟩ := pk_chk hf
  obtain ⟨M2, e3, hf⟩ := pk_bnd hf
  refine s_putI X (ci := 1) (k := 2) rfl (Nat.le_of_ble_eq_true rfl) h1 wd199 (fun _ _ _ => rfl) rfl rfl e3 dX1_begin_22 ?_
  have h4 := io_sI e3 h1
  refine s_aload_n X 0 dX1_begin_25 rfl rfl ?_
  obtain ⟨h5, hf⟩ := pk_chk hf
  obtain ⟨o6, e7, hf⟩ := pk_bnd hf
  obtain ⟨h8, hf⟩ := pk_chk hf
  refine s_getR X (ci := 1) (k := 0) rfl (Nat.le_of_ble_eq_true rfl) h5 wd197 (fun _ _ _ => rfl) (e7 ▸ h8) dX1_begin_26 (e7 ▸ ?_)
  refine s_lconst X (v := (0 : Int64)) dX1_begin_29 rfl ?_
  obtain ⟨M10, hc9, hf⟩ := pk_obd hf
  refine s_callS X (k_J7_fill_d0a16 G hc9) wd796 wd797 wd798 wd136 cd_J7_fill_d0a16 ⟨Nat.le_of_ble_eq_true rfl, Nat.le_of_ble_eq_true rfl⟩ (Nat.le_of_ble_eq_true rfl) dX1_begin_30 ?_
  cases hf
  exact s_vret X hr hlk dX1_begin_33
end
theorem k_X1_begin (G : Gam) {n : Nat} {o : Nat} {a1 : Int32} {M : Mem} {rv : Mem} (hf : f_X1_begin n o a1 M = some rv) : Kt yX1_begin cX1_begin 2 none 1 24 G [.ref (gB G + o), .int a1] M rv none := by
  refine Kt.of (by decide) (Nat.le_of_ble_eq_true rfl) ?_
  intro p l e R s m args below meth c X hr hlk hnm
  refine s_drop [0, 1] (vs' := [(0, .ref (gB G + o)), (1, .int a1)]) rfl ?_
  rw [f_X1_begin] at hf
  refine s_aload_n X 0 dX1_begin_0 rfl rfl ?_
  refine s_iload_n X 1 dX1_begin_1 rfl rfl ?_
  obtain ⟨h1, hf⟩ := pk_chk hf
  obtain ⟨M2, e3, hf⟩ := pk_bnd hf
  refine s_putI X (ci := 1) (k := 1) rfl (Nat.le_of_ble_eq_true rfl) h1 wd198 (fun _ _ _ => rfl) rfl rfl e3 dX1_begin_2 ?_
  have h4 := io_sI e3 h1
  refine s_aload_n X 0 dX1_begin_5 rfl rfl ?_
  refine s_iload_n X 1 dX1_begin_6 rfl rfl ?_
  refine s_bipush X (v := (6 : Int32)) dX1_begin_7 rfl ?_
  have hs5 := pk_ite hf
  clear hf
  refine s_icmp_le X (tgt := 21) dX1_begin_9 rfl (fun c6 => ?_) (fun c6 => ?_)
  · have hf := hs5.1 c6
    refine s_iconst X (v := (1 : Int32)) dX1_begin_21 rfl ?_
    refine s_drop [0] (vs' := [(0, .ref (gB G + o))]) rfl ?_
    exact l_X1_begin_22 X hr hlk hnm hf
  · have hf := hs5.2 c6
    refine s_iconst X (v := (1 : Int32)) dX1_begin_12 rfl ?_
    refine s_iload_n X 1 dX1_begin_13 rfl rfl ?_
    refine s_bipush X (v := (6 : Int32)) dX1_begin_14 rfl ?_
    refine s_isub X dX1_begin_16 ?_
    refine s_ishl X dX1_begin_17 ?_
    refine s_goto X (tgt := 22) dX1_begin_18 rfl ?_
    refine s_drop [0] (vs' := [(0, .ref (gB G + o))]) rfl ?_
    exact l_X1_begin_22 X hr hlk hnm hf
theorem dX1_add_0 : decode cX1_add 0 = .ok (.aload_n 0, 1) := dk_42 (by decide +kernel)
theorem dX1_add_1 : decode cX1_add 1 = .ok (.getfield 11, 3) := dk_180 (x := 0) (y := 11) (by decide +kernel) rfl
theorem dX1_add_4 : decode cX1_add 4 = .ok (.iload_n 1, 1) := dk_27 (by decide +kernel)
theorem dX1_add_5 : decode cX1_add 5 = .ok (.bipush 6, 2) := dk_16 (x := 6) (by decide +kernel) rfl
theorem dX1_add_7 : decode cX1_add 7 = .ok (.ishr, 1) := dk_122 (by decide +kernel)
theorem dX1_add_8 : decode cX1_add 8 = .ok (.dup2, 1) := dk_92 (by decide +kernel)
theorem dX1_add_9 : decode cX1_add 9 = .ok (.laload, 1) := dk_47 (by decide +kernel)
theorem dX1_add_10 : decode cX1_add 10 = .ok (.lconst 1, 1) := dk_10 (by decide +kernel)
theorem dX1_add_11 : decode cX1_add 11 = .ok (.iload_n 1, 1) := dk_27 (by decide +kernel)
theorem dX1_add_12 : decode cX1_add 12 = .ok (.bipush 63, 2) := dk_16 (x := 63) (by decide +kernel) rfl
theorem dX1_add_14 : decode cX1_add 14 = .ok (.iand, 1) := dk_126 (by decide +kernel)
theorem dX1_add_15 : decode cX1_add 15 = .ok (.lshl, 1) := dk_121 (by decide +kernel)
theorem dX1_add_16 : decode cX1_add 16 = .ok (.lor, 1) := dk_129 (by decide +kernel)
theorem dX1_add_17 : decode cX1_add 17 = .ok (.lastore, 1) := dk_80 (by decide +kernel)
theorem dX1_add_18 : decode cX1_add 18 = .ok (.return_, 1) := dk_177 (by decide +kernel)
def f_X1_add (o : Nat) (a1 : Int32) (M : Mem) : Option Mem :=
  chk (isO M 1 o) <|
  bnd (mR M o 0) fun o2 =>
  chk (isO M 101 o2) <|
  bnd (a1 >>> ((6 : Int32) &&& 31)) fun x5 =>
  chk (inB x5 (mLn M o2)) <|
  chk (inB x5 (mLn M o2)) <|
  bnd (sL M o2 (x5).toNatClampNeg ((mL M o2 (x5).toNatClampNeg) ||| ((1 : Int64) <<< (((a1 &&& (63 : Int32))).toInt64 &&& 63)))) fun M9 =>
  some M9
theorem cd_X1_add : (yX1_add.cls ≠ "java/lang/invoke/MethodHandle" ∧ yX1_add.cls ≠ "java/lang/invoke/VarHandle") ∧ (parseMethodDescriptor yX1_add.desc).map (fun d => d.parameters.length) = some 1 := ⟨⟨by decide +kernel, by decide +kernel⟩, by decide +kernel⟩
theorem k_X1_add (G : Gam) {o : Nat} {a1 : Int32} {M : Mem} {rv : Mem} (hf : f_X1_add o a1 M = some rv) : Kt yX1_add cX1_add 2 none 0 0 G [.ref (gB G + o), .int a1] M rv none := by
  refine Kt.of (by decide) (Nat.le_of_ble_eq_true rfl) ?_
  intro p l e R s m args below meth c X hr hlk hnm
  refine s_drop [0, 1] (vs' := [(0, .ref (gB G + o)), (1, .int a1)]) rfl ?_
  rw [f_X1_add] at hf
  refine s_aload_n X 0 dX1_add_0 rfl rfl ?_
  obtain ⟨h1, hf⟩ := pk_chk hf
  obtain ⟨o2, e3, hf⟩ := pk_bnd hf
  obtain ⟨h4, hf⟩ := pk_chk hf
  refine s_getR X (ci := 1) (k := 0) rfl (Nat.le_of_ble_eq_true rfl) h1 wd197 (fun _ _ _ => rfl) (e3 ▸ h4) dX1_add_1 (e3 ▸ ?_)
  refine s_iload_n X 1 dX1_add_4 rfl rfl ?_
  refine s_bipush X (v := (6 : Int32)) dX1_add_5 rfl ?_
  refine s_ishr X dX1_add_7 ?_
  obtain ⟨x5, e6, hf⟩ := pk_bnd hf
  refine s_nmI e6 ?_
  refine s_dup2 X dX1_add_8 rfl rfl ?_
  obtain ⟨h7, hf⟩ := pk_chk hf
  refine s_lald X h4 h7 dX1_add_9 ?_
  refine s_lconst X (v := (1 : Int64)) dX1_add_10 rfl ?_
  refine s_iload_n X 1 dX1_add_11 rfl rfl ?_
  refine s_bipush X (v := (63 : Int32)) dX1_add_12 rfl ?_
  refine s_iand X dX1_add_14 ?_
  refine s_lshl X dX1_add_15 rfl ?_
  refine s_lor X dX1_add_16 ?_
  obtain ⟨h8, hf⟩ := pk_chk hf
  obtain ⟨M9, e10, hf⟩ := pk_bnd hf
  refine s_last X h4 h8 e10 dX1_add_17 ?_
  have h11 := io_sL e10 h1
  have h12 := io_sL e10 h4
  cases hf
  exact s_vret X hr hlk dX1_add_18
theorem dX8_listWhole_0 : decode cX8_listWhole 0 = .ok (.aload_n 0, 1) := dk_42 (by decide +kernel)
theorem dX8_listWhole_1 : decode cX8_listWhole 1 = .ok (.getfield 64, 3) := dk_180 (x := 0) (y := 64) (by decide +kernel) rfl
theorem dX8_listWhole_4 : decode cX8_listWhole 4 = .ok (.sipush 305, 3) := dk_17 (x := 1) (y := 49) (by decide +kernel) rfl
theorem dX8_listWhole_7 : decode cX8_listWhole 7 = .ok (.if_icmp .ge 23, 3) := dk_162 (x := 0) (y := 23) (by decide +kernel) rfl
theorem dX8_listWhole_10 : decode cX8_listWhole 10 = .ok (.aload_n 0, 1) := dk_42 (by decide +kernel)
theorem dX8_listWhole_11 : decode cX8_listWhole 11 = .ok (.getfield 25, 3) := dk_180 (x := 0) (y := 25) (by decide +kernel) rfl
theorem dX8_listWhole_14 : decode cX8_listWhole 14 = .ok (.aload_n 0, 1) := dk_42 (by decide +kernel)
theorem dX8_listWhole_15 : decode cX8_listWhole 15 = .ok (.getfield 64, 3) := dk_180 (x := 0) (y := 64) (by decide +kernel) rfl
theorem dX8_listWhole_18 : decode cX8_listWhole 18 = .ok (.iload_n 1, 1) := dk_27 (by decide +kernel)
theorem dX8_listWhole_19 : decode cX8_listWhole 19 = .ok (.iastore, 1) := dk_79 (by decide +kernel)
theorem dX8_listWhole_20 : decode cX8_listWhole 20 = .ok (.aload_n 0, 1) := dk_42 (by decide +kernel)
theorem dX8_listWhole_21 : decode cX8_listWhole 21 = .ok (.dup, 1) := dk_89 (by decide +kernel)
theorem dX8_listWhole_22 : decode cX8_listWhole 22 = .ok (.getfield 64, 3) := dk_180 (x := 0) (y := 64) (by decide +kernel) rfl
theorem dX8_listWhole_25 : decode cX8_listWhole 25 = .ok (.iconst 1, 1) := dk_4 (by decide +kernel)
theorem dX8_listWhole_26 : decode cX8_listWhole 26 = .ok (.iadd, 1) := dk_96 (by decide +kernel)
theorem dX8_listWhole_27 : decode cX8_listWhole 27 = .ok (.putfield 64, 3) := dk_181 (x := 0) (y := 64) (by decide +kernel) rfl
theorem dX8_listWhole_30 : decode cX8_listWhole 30 = .ok (.return_, 1) := dk_177 (by decide +kernel)
def f_X8_listWhole (o : Nat) (a1 : Int32) (M : Mem) : Option Mem :=
  chk (isO M 8 o) <|
  if (305 : Int32) ≤ (mI M o 6) then (
    some M
    ) else (
    bnd (mR M o 3) fun o4 =>
    chk (isO M 100 o4) <|
    chk (inB (mI M o 6) (mLn M o4)) <|
    bnd (sI M o4 ((mI M o 6)).toNatClampNeg a1) fun M8 =>
    bnd (sI M8 o 6 ((mI M8 o 6) + (1 : Int32))) fun M12 =>
    some M12
    )
theorem cd_X8_listWhole : (yX8_listWhole.cls ≠ "java/lang/invoke/MethodHandle" ∧ yX8_listWhole.cls ≠ "java/lang/invoke/VarHandle") ∧ (parseMethodDescriptor yX8_listWhole.desc).map (fun d => d.parameters.length) = some 1 := ⟨⟨by decide +kernel, by decide +kernel⟩, by decide +kernel⟩
theorem k_X8_listWhole (G : Gam) {o : Nat} {a1 : Int32} {M : Mem} {rv : Mem} (hf : f_X8_listWhole o a1 M = some rv) : Kt yX8_listWhole cX8_listWhole 2 none 0 0 G [.ref (gB G + o), .int a1] M rv none := by
  refine Kt.of (by decide) (Nat.le_of_ble_eq_true rfl) ?_
  intro p l e R s m args below meth c X hr hlk hnm
  refine s_drop [0, 1] (vs' := [(0, .ref (gB G + o)), (1, .int a1)]) rfl ?_
  rw [f_X8_listWhole] at hf
  refine s_aload_n X 0 dX8_listWhole_0 rfl rfl ?_
  obtain ⟨h1, hf⟩ := pk_chk hf
  refine s_getI X (ci := 8) (k := 6) rfl (Nat.le_of_ble_eq_true rfl) h1 wd216 (fun _ _ _ => rfl) dX8_listWhole_1 ?_
  refine s_sipush X (v := (305 : Int32)) dX8_listWhole_4 rfl ?_
  have hs2 := pk_ite hf
  clear hf
  refine s_icmp_ge X (tgt := 30) dX8_listWhole_7 rfl (fun c3 => ?_) (fun c3 => ?_)
  · have hf := hs2.1 c3
    cases hf
    exact s_vret X hr hlk dX8_listWhole_30
  · have hf := hs2.2 c3
    refine s_aload_n X 0 dX8_listWhole_10 rfl rfl ?_
    obtain ⟨o4, e5, hf⟩ := pk_bnd hf
    obtain ⟨h6, hf⟩ := pk_chk hf
    refine s_getR X (ci := 8) (k := 3) rfl (Nat.le_of_ble_eq_true rfl) h1 wd213 (fun _ _ _ => rfl) (e5 ▸ h6) dX8_listWhole_11 (e5 ▸ ?_)
    refine s_aload_n X 0 dX8_listWhole_14 rfl rfl ?_
    refine s_getI X (ci := 8) (k := 6) rfl (Nat.le_of_ble_eq_true rfl) h1 wd216 (fun _ _ _ => rfl) dX8_listWhole_15 ?_
    refine s_iload_n X 1 dX8_listWhole_18 rfl rfl ?_
    obtain ⟨h7, hf⟩ := pk_chk hf
    obtain ⟨M8, e9, hf⟩ := pk_bnd hf
    refine s_iast X h6 h7 e9 dX8_listWhole_19 ?_
    have h10 := io_sI e9 h1
    have h11 := io_sI e9 h6
    refine s_aload_n X 0 dX8_listWhole_20 rfl rfl ?_
    refine s_dup X dX8_listWhole_21 rfl ?_
    refine s_getI X (ci := 8) (k := 6) rfl (Nat.le_of_ble_eq_true rfl) h10 wd216 (fun _ _ _ => rfl) dX8_listWhole_22 ?_
    refine s_iconst X (v := (1 : Int32)) dX8_listWhole_25 rfl ?_
    refine s_iadd X dX8_listWhole_26 ?_
    obtain ⟨M12, e13, hf⟩ := pk_bnd hf
    refine s_putI X (ci := 8) (k := 6) rfl (Nat.le_of_ble_eq_true rfl) h10 wd216 (fun _ _ _ => rfl) rfl rfl e13 dX8_listWhole_27 ?_
    have h14 := io_sI e13 h10
    have h15 := io_sI e13 h11
    cases hf
    exact s_vret X hr hlk dX8_listWhole_30
theorem dX8_listWholes_0 : decode cX8_listWholes 0 = .ok (.aload_n 0, 1) := dk_42 (by decide +kernel)
theorem dX8_listWholes_1 : decode cX8_listWholes 1 = .ok (.getfield 29, 3) := dk_180 (x := 0) (y := 29) (by decide +kernel) rfl
theorem dX8_listWholes_4 : decode cX8_listWholes 4 = .ok (.iload_n 2, 1) := dk_28 (by decide +kernel)
theorem dX8_listWholes_5 : decode cX8_listWholes 5 = .ok (.iaload, 1) := dk_46 (by decide +kernel)
theorem dX8_listWholes_6 : decode cX8_listWholes 6 = .ok (.istore 4, 2) := dk_54 (x := 4) (by decide +kernel)
theorem dX8_listWholes_8 : decode cX8_listWholes 8 = .ok (.iload 4, 2) := dk_21 (x := 4) (by decide +kernel)
theorem dX8_listWholes_10 : decode cX8_listWholes 10 = .ok (.aload_n 0, 1) := dk_42 (by decide +kernel)
theorem dX8_listWholes_11 : decode cX8_listWholes 11 = .ok (.getfield 32, 3) := dk_180 (x := 0) (y := 32) (by decide +kernel) rfl
theorem dX8_listWholes_14 : decode cX8_listWholes 14 = .ok (.iload_n 2, 1) := dk_28 (by decide +kernel)
theorem dX8_listWholes_15 : decode cX8_listWholes 15 = .ok (.iaload, 1) := dk_46 (by decide +kernel)
theorem dX8_listWholes_16 : decode cX8_listWholes 16 = .ok (.if_icmp .ge 68, 3) := dk_162 (x := 0) (y := 68) (by decide +kernel) rfl
theorem dX8_listWholes_19 : decode cX8_listWholes 19 = .ok (.aload_n 0, 1) := dk_42 (by decide +kernel)
theorem dX8_listWholes_20 : decode cX8_listWholes 20 = .ok (.iconst 1, 1) := dk_4 (by decide +kernel)
theorem dX8_listWholes_21 : decode cX8_listWholes 21 = .ok (.iload_n 1, 1) := dk_27 (by decide +kernel)
theorem dX8_listWholes_22 : decode cX8_listWholes 22 = .ok (.ishl, 1) := dk_120 (by decide +kernel)
theorem dX8_listWholes_23 : decode cX8_listWholes 23 = .ok (.aload_n 0, 1) := dk_42 (by decide +kernel)
theorem dX8_listWholes_24 : decode cX8_listWholes 24 = .ok (.getfield 25, 3) := dk_180 (x := 0) (y := 25) (by decide +kernel) rfl
theorem dX8_listWholes_27 : decode cX8_listWholes 27 = .ok (.iload 4, 2) := dk_21 (x := 4) (by decide +kernel)
theorem dX8_listWholes_29 : decode cX8_listWholes 29 = .ok (.iaload, 1) := dk_46 (by decide +kernel)
theorem dX8_listWholes_30 : decode cX8_listWholes 30 = .ok (.ior, 1) := dk_128 (by decide +kernel)
theorem dX8_listWholes_31 : decode cX8_listWholes 31 = .ok (.invokevirtual 71, 3) := dk_182 (x := 0) (y := 71) (by decide +kernel) rfl
theorem dX8_listWholes_34 : decode cX8_listWholes 34 = .ok (.aload_n 0, 1) := dk_42 (by decide +kernel)
theorem dX8_listWholes_35 : decode cX8_listWholes 35 = .ok (.getfield 29, 3) := dk_180 (x := 0) (y := 29) (by decide +kernel) rfl
theorem dX8_listWholes_38 : decode cX8_listWholes 38 = .ok (.iload_n 3, 1) := dk_29 (by decide +kernel)
theorem dX8_listWholes_39 : decode cX8_listWholes 39 = .ok (.iaload, 1) := dk_46 (by decide +kernel)
theorem dX8_listWholes_40 : decode cX8_listWholes 40 = .ok (.istore 5, 2) := dk_54 (x := 5) (by decide +kernel)
theorem dX8_listWholes_42 : decode cX8_listWholes 42 = .ok (.iload 5, 2) := dk_21 (x := 5) (by decide +kernel)
theorem dX8_listWholes_44 : decode cX8_listWholes 44 = .ok (.aload_n 0, 1) := dk_42 (by decide +kernel)
theorem dX8_listWholes_45 : decode cX8_listWholes 45 = .ok (.getfield 32, 3) := dk_180 (x := 0) (y := 32) (by decide +kernel) rfl
theorem dX8_listWholes_48 : decode cX8_listWholes 48 = .ok (.iload_n 3, 1) := dk_29 (by decide +kernel)
theorem dX8_listWholes_49 : decode cX8_listWholes 49 = .ok (.iaload, 1) := dk_46 (by decide +kernel)
theorem dX8_listWholes_50 : decode cX8_listWholes 50 = .ok (.if_icmp .ge 28, 3) := dk_162 (x := 0) (y := 28) (by decide +kernel) rfl
theorem dX8_listWholes_53 : decode cX8_listWholes 53 = .ok (.aload_n 0, 1) := dk_42 (by decide +kernel)
theorem dX8_listWholes_54 : decode cX8_listWholes 54 = .ok (.aload_n 0, 1) := dk_42 (by decide +kernel)
theorem dX8_listWholes_55 : decode cX8_listWholes 55 = .ok (.getfield 25, 3) := dk_180 (x := 0) (y := 25) (by decide +kernel) rfl
theorem dX8_listWholes_58 : decode cX8_listWholes 58 = .ok (.iload 4, 2) := dk_21 (x := 4) (by decide +kernel)
theorem dX8_listWholes_60 : decode cX8_listWholes 60 = .ok (.iaload, 1) := dk_46 (by decide +kernel)
theorem dX8_listWholes_61 : decode cX8_listWholes 61 = .ok (.aload_n 0, 1) := dk_42 (by decide +kernel)
theorem dX8_listWholes_62 : decode cX8_listWholes 62 = .ok (.getfield 25, 3) := dk_180 (x := 0) (y := 25) (by decide +kernel) rfl
theorem dX8_listWholes_65 : decode cX8_listWholes 65 = .ok (.iload 5, 2) := dk_21 (x := 5) (by decide +kernel)
theorem dX8_listWholes_67 : decode cX8_listWholes 67 = .ok (.iaload, 1) := dk_46 (by decide +kernel)
theorem dX8_listWholes_68 : decode cX8_listWholes 68 = .ok (.ior, 1) := dk_128 (by decide +kernel)
theorem dX8_listWholes_69 : decode cX8_listWholes 69 = .ok (.invokevirtual 71, 3) := dk_182 (x := 0) (y := 71) (by decide +kernel) rfl
theorem dX8_listWholes_72 : decode cX8_listWholes 72 = .ok (.iinc 5 1, 3) := dk_132 (x := 5) (y := 1) (by decide +kernel) rfl
theorem dX8_listWholes_75 : decode cX8_listWholes 75 = .ok (.goto (-33), 3) := dk_167 (x := 255) (y := 223) (by decide +kernel) rfl
theorem dX8_listWholes_78 : decode cX8_listWholes 78 = .ok (.iinc 4 1, 3) := dk_132 (x := 4) (y := 1) (by decide +kernel) rfl
theorem dX8_listWholes_81 : decode cX8_listWholes 81 = .ok (.goto (-73), 3) := dk_167 (x := 255) (y := 183) (by decide +kernel) rfl
theorem dX8_listWholes_84 : decode cX8_listWholes 84 = .ok (.aload_n 0, 1) := dk_42 (by decide +kernel)
theorem dX8_listWholes_85 : decode cX8_listWholes 85 = .ok (.getfield 29, 3) := dk_180 (x := 0) (y := 29) (by decide +kernel) rfl
theorem dX8_listWholes_88 : decode cX8_listWholes 88 = .ok (.iload_n 3, 1) := dk_29 (by decide +kernel)
theorem dX8_listWholes_89 : decode cX8_listWholes 89 = .ok (.iaload, 1) := dk_46 (by decide +kernel)
theorem dX8_listWholes_90 : decode cX8_listWholes 90 = .ok (.istore 4, 2) := dk_54 (x := 4) (by decide +kernel)
theorem dX8_listWholes_92 : decode cX8_listWholes 92 = .ok (.iload 4, 2) := dk_21 (x := 4) (by decide +kernel)
theorem dX8_listWholes_94 : decode cX8_listWholes 94 = .ok (.aload_n 0, 1) := dk_42 (by decide +kernel)
theorem dX8_listWholes_95 : decode cX8_listWholes 95 = .ok (.getfield 32, 3) := dk_180 (x := 0) (y := 32) (by decide +kernel) rfl
theorem dX8_listWholes_98 : decode cX8_listWholes 98 = .ok (.iload_n 3, 1) := dk_29 (by decide +kernel)
theorem dX8_listWholes_99 : decode cX8_listWholes 99 = .ok (.iaload, 1) := dk_46 (by decide +kernel)
theorem dX8_listWholes_100 : decode cX8_listWholes 100 = .ok (.if_icmp .ge 24, 3) := dk_162 (x := 0) (y := 24) (by decide +kernel) rfl
theorem dX8_listWholes_103 : decode cX8_listWholes 103 = .ok (.aload_n 0, 1) := dk_42 (by decide +kernel)
theorem dX8_listWholes_104 : decode cX8_listWholes 104 = .ok (.iconst 1, 1) := dk_4 (by decide +kernel)
theorem dX8_listWholes_105 : decode cX8_listWholes 105 = .ok (.iload_n 1, 1) := dk_27 (by decide +kernel)
theorem dX8_listWholes_106 : decode cX8_listWholes 106 = .ok (.ishl, 1) := dk_120 (by decide +kernel)
theorem dX8_listWholes_107 : decode cX8_listWholes 107 = .ok (.aload_n 0, 1) := dk_42 (by decide +kernel)
theorem dX8_listWholes_108 : decode cX8_listWholes 108 = .ok (.getfield 25, 3) := dk_180 (x := 0) (y := 25) (by decide +kernel) rfl
theorem dX8_listWholes_111 : decode cX8_listWholes 111 = .ok (.iload 4, 2) := dk_21 (x := 4) (by decide +kernel)
theorem dX8_listWholes_113 : decode cX8_listWholes 113 = .ok (.iaload, 1) := dk_46 (by decide +kernel)
theorem dX8_listWholes_114 : decode cX8_listWholes 114 = .ok (.ior, 1) := dk_128 (by decide +kernel)
theorem dX8_listWholes_115 : decode cX8_listWholes 115 = .ok (.invokevirtual 71, 3) := dk_182 (x := 0) (y := 71) (by decide +kernel) rfl
theorem dX8_listWholes_118 : decode cX8_listWholes 118 = .ok (.iinc 4 1, 3) := dk_132 (x := 4) (y := 1) (by decide +kernel) rfl
theorem dX8_listWholes_121 : decode cX8_listWholes 121 = .ok (.goto (-29), 3) := dk_167 (x := 255) (y := 227) (by decide +kernel) rfl
theorem dX8_listWholes_124 : decode cX8_listWholes 124 = .ok (.return_, 1) := dk_177 (by decide +kernel)
def f_X8_listWholes_92 : Nat → Nat → Int32 → Int32 → Int32 → Mem → Option Mem
  | 0, _, _, _, _, _ => none
  | n + 1, v0, v1, v3, v4, M =>
    chk (isO M 8 v0) <|
    bnd (mR M v0 5) fun o2 =>
    chk (isO M 100 o2) <|
    chk (inB v3 (mLn M o2)) <|
    if (mI M o2 (v3).toNatClampNeg) ≤ v4 then (
      some M
      ) else (
      bnd (mR M v0 3) fun o8 =>
      chk (isO M 100 o8) <|
      chk (inB v4 (mLn M o8)) <|
      obd (f_X8_listWhole v0 (((1 : Int32) <<< (v1 &&& 31)) ||| (mI M o8 (v4).toNatClampNeg)) M) fun M13 =>
      bnd (v4 + (1 : Int32)) fun x14 =>
      f_X8_listWholes_92 n v0 v1 v3 x14 M13
      )
def f_X8_listWholes_42 (k_8 : Nat → Int32 → Int32 → Int32 → Int32 → Mem → Option Mem) : Nat → Nat → Int32 → Int32 → Int32 → Int32 → Int32 → Mem → Option Mem
  | 0, _, _, _, _, _, _, _ => none
  | n + 1, v0, v1, v2, v3, v4, v5, M =>
    chk (isO M 8 v0) <|
    bnd (mR M v0 5) fun o2 =>
    chk (isO M 100 o2) <|
    chk (inB v3 (mLn M o2)) <|
    if (mI M o2 (v3).toNatClampNeg) ≤ v5 then (
      bnd (v4 + (1 : Int32)) fun x8 =>
      k_8 v0 v1 v2 v3 x8 M
      ) else (
      bnd (mR M v0 3) fun o10 =>
      chk (isO M 100 o10) <|
      chk (inB v4 (mLn M o10)) <|
      bnd (mR M v0 3) fun o14 =>
      chk (isO M 100 o14) <|
      chk (inB v5 (mLn M o14)) <|
      obd (f_X8_listWhole v0 ((mI M o10 (v4).toNatClampNeg) ||| (mI M o14 (v5).toNatClampNeg)) M) fun M19 =>
      bnd (v5 + (1 : Int32)) fun x20 =>
      f_X8_listWholes_42 k_8 n v0 v1 v2 v3 v4 x20 M19
      )
def f_X8_listWholes_8 : Nat → Nat → Int32 → Int32 → Int32 → Int32 → Mem → Option Mem
  | 0, _, _, _, _, _, _ => none
  | n + 1, v0, v1, v2, v3, v4, M =>
    chk (isO M 8 v0) <|
    bnd (mR M v0 5) fun o2 =>
    chk (isO M 100 o2) <|
    chk (inB v2 (mLn M o2)) <|
    if (mI M o2 (v2).toNatClampNeg) ≤ v4 then (
      bnd (mR M v0 4) fun o8 =>
      chk (isO M 100 o8) <|
      chk (inB v3 (mLn M o8)) <|
      bnd (mI M o8 (v3).toNatClampNeg) fun x12 =>
      f_X8_listWholes_92 n v0 v1 v3 x12 M
      ) else (
      bnd (mR M v0 3) fun o14 =>
      chk (isO M 100 o14) <|
      chk (inB v4 (mLn M o14)) <|
      obd (f_X8_listWhole v0 (((1 : Int32) <<< (v1 &&& 31)) ||| (mI M o14 (v4).toNatClampNeg)) M) fun M19 =>
      chk (isO M19 8 v0) <|
      bnd (mR M19 v0 4) fun o21 =>
      chk (isO M19 100 o21) <|
      chk (inB v3 (mLn M19 o21)) <|
      bnd (mI M19 o21 (v3).toNatClampNeg) fun x25 =>
      f_X8_listWholes_42 (f_X8_listWholes_8 n) n v0 v1 v2 v3 v4 x25 M19
      )
def f_X8_listWholes (n : Nat) (o : Nat) (a1 : Int32) (a2 : Int32) (a3 : Int32) (M : Mem) : Option Mem :=
  chk (isO M 8 o) <|
  bnd (mR M o 4) fun o2 =>
  chk (isO M 100 o2) <|
  chk (inB a2 (mLn M o2)) <|
  bnd (mI M o2 (a2).toNatClampNeg) fun x6 =>
  f_X8_listWholes_8 n o a1 a2 a3 x6 M
theorem cd_X8_listWholes : (yX8_listWholes.cls ≠ "java/lang/invoke/MethodHandle" ∧ yX8_listWholes.cls ≠ "java/lang/invoke/VarHandle") ∧ (parseMethodDescriptor yX8_listWholes.desc).map (fun d => d.parameters.length) = some 3 := ⟨⟨by decide +kernel, by decide +kernel⟩, by decide +kernel⟩
section
variable {p : Program} {l : Launch} {e : Env} {R : Room} {s : State} {m : MethodId} {args : Array Value} {below : List Frame} {meth : Method} {c : Code} {G : Gam} {M0 : Mem}
theorem l_X8_listWholes_92 {rv : Mem} (X : Cx p R s m args c G M0 cX8_listWholes yX8_listWholes.cls 6 1 21) (hr : meth.sig.returnType = none) (hlk : meth.locks = false) (hnm : meth.name = "listWholes") : ∀ {n : Nat} (v0 : Nat) (v1 : Int32) (v3 : Int32) (v4 : Int32) (M : Mem), f_X8_listWholes_92 n v0 v1 v3 v4 M = some rv → Sg p l e R s m args below meth c (Qm below G args s none M0 rv) G M0 6 92 [(0, .ref (gB G + v0)), (1, .int v1), (3, .int v3), (4, .int v4)] [] M := by
  intro n
  induction n with
  | zero => intro v0 v1 v3 v4 M hf; exact (pk_none hf).elim
  | succ n ih =>
    intro v0 v1 v3 v4 M hf
    rw [f_X8_listWholes_92] at hf
    refine s_iload X 3 dX8_listWholes_92 rfl ?_
    refine s_aload_n X 0 dX8_listWholes_94 rfl rfl ?_
    obtain ⟨h1, hf⟩ := pk_chk hf
    obtain ⟨o2, e3, hf⟩ := pk_bnd hf
    obtain ⟨h4, hf⟩ := pk_chk hf
    refine s_getR X (ci := 8) (k := 5) rfl (Nat.le_of_ble_eq_true rfl) h1 wd215 (fun _ _ _ => rfl) (e3 ▸ h4) dX8_listWholes_95 (e3 ▸ ?_)
    refine s_iload_n X 2 dX8_listWholes_98 rfl rfl ?_
    obtain ⟨h5, hf⟩ := pk_chk hf
    refine s_iald X h4 h5 dX8_listWholes_99 ?_
    have hs6 := pk_ite hf
    clear hf
    refine s_icmp_ge X (tgt := 124) dX8_listWholes_100 rfl (fun c7 => ?_) (fun c7 => ?_)
    · have hf := hs6.1 c7
      cases hf
      exact s_vret X hr hlk dX8_listWholes_124
    · have hf := hs6.2 c7
      refine s_aload_n X 0 dX8_listWholes_103 rfl rfl ?_
      refine s_iconst X (v := (1 : Int32)) dX8_listWholes_104 rfl ?_
      refine s_iload_n X 1 dX8_listWholes_105 rfl rfl ?_
      refine s_ishl X dX8_listWholes_106 ?_
      refine s_aload_n X 0 dX8_listWholes_107 rfl rfl ?_
      obtain ⟨o8, e9, hf⟩ := pk_bnd hf
      obtain ⟨h10, hf⟩ := pk_chk hf
      refine s_getR X (ci := 8) (k := 3) rfl (Nat.le_of_ble_eq_true rfl) h1 wd213 (fun _ _ _ => rfl) (e9 ▸ h10) dX8_listWholes_108 (e9 ▸ ?_)
      refine s_iload X 3 dX8_listWholes_111 rfl ?_
      obtain ⟨h11, hf⟩ := pk_chk hf
      refine s_iald X h10 h11 dX8_listWholes_113 ?_
      refine s_ior X dX8_listWholes_114 ?_
      obtain ⟨M13, hc12, hf⟩ := pk_obd hf
      refine s_callV X (ci := 8) (k_X8_listWhole G hc12) rfl h1 wd811 wd813 wd8 wd814 wd128 cd_X8_listWhole ⟨Nat.le_of_ble_eq_true rfl, Nat.le_of_ble_eq_true rfl⟩ (Nat.le_of_ble_eq_true rfl) dX8_listWholes_115 ?_
      obtain ⟨x14, e15, hf⟩ := pk_bnd hf
      refine s_iinc X (vs' := [(0, .ref (gB G + v0)), (1, .int v1), (3, .int v3), (4, .int x14)]) 3 dX8_listWholes_118 rfl (v := x14) e15.symm (Nat.le_of_ble_eq_true rfl) [1, 2, 3, 0] rfl ?_
      refine s_goto X (tgt := 92) dX8_listWholes_121 rfl ?_
      exact ih _ _ _ _ _ hf
theorem l_X8_listWholes_42 {k_8 : Nat → Int32 → Int32 → Int32 → Int32 → Mem → Option Mem} {rv : Mem} (X : Cx p R s m args c G M0 cX8_listWholes yX8_listWholes.cls 6 1 21) (hr : meth.sig.returnType = none) (hlk : meth.locks = false) (hnm : meth.name = "listWholes") (hk_8 : ∀ (v0 : Nat), ∀ (v1 : Int32), ∀ (v2 : Int32), ∀ (v3 : Int32), ∀ (v4 : Int32), ∀ M : Mem, k_8 v0 v1 v2 v3 v4 M = some rv → Sg p l e R s m args below meth c (Qm below G args s none M0 rv) G M0 6 8 [(0, .ref (gB G + v0)), (1, .int v1), (2, .int v2), (3, .int v3), (4, .int v4)] [] M) : ∀ {n : Nat} (v0 : Nat) (v1 : Int32) (v2 : Int32) (v3 : Int32) (v4 : Int32) (v5 : Int32) (M : Mem), f_X8_listWholes_42 k_8 n v0 v1 v2 v3 v4 v5 M = some rv → Sg p l e R s m args below meth c (Qm below G args s none M0 rv) G M0 6 42 [(0, .ref (gB G + v0)), (1, .int v1), (2, .int v2), (3, .int v3), (4, .int v4), (5, .int v5)] [] M := by
  intro n
  induction n with
  | zero => intro v0 v1 v2 v3 v4 v5 M hf; exact (pk_none hf).elim
  | succ n ih =>
    intro v0 v1 v2 v3 v4 v5 M hf
    rw [f_X8_listWholes_42] at hf
    refine s_iload X 5 dX8_listWholes_42 rfl ?_
    refine s_aload_n X 0 dX8_listWholes_44 rfl rfl ?_
    obtain ⟨h1, hf⟩ := pk_chk hf
    obtain ⟨o2, e3, hf⟩ := pk_bnd hf
    obtain ⟨h4, hf⟩ := pk_chk hf
    refine s_getR X (ci := 8) (k := 5) rfl (Nat.le_of_ble_eq_true rfl) h1 wd215 (fun _ _ _ => rfl) (e3 ▸ h4) dX8_listWholes_45 (e3 ▸ ?_)
    refine s_iload_n X 3 dX8_listWholes_48 rfl rfl ?_
    obtain ⟨h5, hf⟩ := pk_chk hf
    refine s_iald X h4 h5 dX8_listWholes_49 ?_
    have hs6 := pk_ite hf
    clear hf
    refine s_icmp_ge X (tgt := 78) dX8_listWholes_50 rfl (fun c7 => ?_) (fun c7 => ?_)
    · have hf := hs6.1 c7
      obtain ⟨x8, e9, hf⟩ := pk_bnd hf
      refine s_iinc X (vs' := [(0, .ref (gB G + v0)), (1, .int v1), (2, .int v2), (3, .int v3), (4, .int x8), (5, .int v5)]) 4 dX8_listWholes_78 rfl (v := x8) e9.symm (Nat.le_of_ble_eq_true rfl) [1, 2, 3, 4, 0, 5] rfl ?_
      refine s_goto X (tgt := 8) dX8_listWholes_81 rfl ?_
      refine s_drop [0, 1, 2, 3, 4] (vs' := [(0, .ref (gB G + v0)), (1, .int v1), (2, .int v2), (3, .int v3), (4, .int x8)]) rfl ?_
      exact hk_8 _ _ _ _ _ _ hf
    · have hf := hs6.2 c7
      refine s_aload_n X 0 dX8_listWholes_53 rfl rfl ?_
      refine s_aload_n X 0 dX8_listWholes_54 rfl rfl ?_
      obtain ⟨o10, e11, hf⟩ := pk_bnd hf
      obtain ⟨h12, hf⟩ := pk_chk hf
      refine s_getR X (ci := 8) (k := 3) rfl (Nat.le_of_ble_eq_true rfl) h1 wd213 (fun _ _ _ => rfl) (e11 ▸ h12) dX8_listWholes_55 (e11 ▸ ?_)
      refine s_iload X 4 dX8_listWholes_58 rfl ?_
      obtain ⟨h13, hf⟩ := pk_chk hf
      refine s_iald X h12 h13 dX8_listWholes_60 ?_
      refine s_aload_n X 0 dX8_listWholes_61 rfl rfl ?_
      obtain ⟨o14, e15, hf⟩ := pk_bnd hf
      obtain ⟨h16, hf⟩ := pk_chk hf
      refine s_getR X (ci := 8) (k := 3) rfl (Nat.le_of_ble_eq_true rfl) h1 wd213 (fun _ _ _ => rfl) (e15 ▸ h16) dX8_listWholes_62 (e15 ▸ ?_)
      refine s_iload X 5 dX8_listWholes_65 rfl ?_
      obtain ⟨h17, hf⟩ := pk_chk hf
      refine s_iald X h16 h17 dX8_listWholes_67 ?_
      refine s_ior X dX8_listWholes_68 ?_
      obtain ⟨M19, hc18, hf⟩ := pk_obd hf
      refine s_callV X (ci := 8) (k_X8_listWhole G hc18) rfl h1 wd811 wd813 wd8 wd814 wd128 cd_X8_listWhole ⟨Nat.le_of_ble_eq_true rfl, Nat.le_of_ble_eq_true rfl⟩ (Nat.le_of_ble_eq_true rfl) dX8_listWholes_69 ?_
      obtain ⟨x20, e21, hf⟩ := pk_bnd hf
      refine s_iinc X (vs' := [(0, .ref (gB G + v0)), (1, .int v1), (2, .int v2), (3, .int v3), (4, .int v4), (5, .int x20)]) 5 dX8_listWholes_72 rfl (v := x20) e21.symm (Nat.le_of_ble_eq_true rfl) [1, 2, 3, 4, 5, 0] rfl ?_
      refine s_goto X (tgt := 42) dX8_listWholes_75 rfl ?_
      exact ih _ _ _ _ _ _ _ hf
theorem l_X8_listWholes_8 {rv : Mem} (X : Cx p R s m args c G M0 cX8_listWholes yX8_listWholes.cls 6 1 21) (hr : meth.sig.returnType = none) (hlk : meth.locks = false) (hnm : meth.name = "listWholes") : ∀ {n : Nat} (v0 : Nat) (v1 : Int32) (v2 : Int32) (v3 : Int32) (v4 : Int32) (M : Mem), f_X8_listWholes_8 n v0 v1 v2 v3 v4 M = some rv → Sg p l e R s m args below meth c (Qm below G args s none M0 rv) G M0 6 8 [(0, .ref (gB G + v0)), (1, .int v1), (2, .int v2), (3, .int v3), (4, .int v4)] [] M := by
  intro n
  induction n with
  | zero => intro v0 v1 v2 v3 v4 M hf; exact (pk_none hf).elim
  | succ n ih =>
    intro v0 v1 v2 v3 v4 M hf
    rw [f_X8_listWholes_8] at hf
    refine s_iload X 4 dX8_listWholes_8 rfl ?_
    refine s_aload_n X 0 dX8_listWholes_10 rfl rfl ?_
    obtain ⟨h1, hf⟩ := pk_chk hf
    obtain ⟨o2, e3, hf⟩ := pk_bnd hf
    obtain ⟨h4, hf⟩ := pk_chk hf
    refine s_getR X (ci := 8) (k := 5) rfl (Nat.le_of_ble_eq_true rfl) h1 wd215 (fun _ _ _ => rfl) (e3 ▸ h4) dX8_listWholes_11 (e3 ▸ ?_)
    refine s_iload_n X 2 dX8_listWholes_14 rfl rfl ?_
    obtain ⟨h5, hf⟩ := pk_chk hf
    refine s_iald X h4 h5 dX8_listWholes_15 ?_
    have hs6 := pk_ite hf
    clear hf
    refine s_icmp_ge X (tgt := 84) dX8_listWholes_16 rfl (fun c7 => ?_) (fun c7 => ?_)
    · have hf := hs6.1 c7
      refine s_aload_n X 0 dX8_listWholes_84 rfl rfl ?_
      obtain ⟨o8, e9, hf⟩ := pk_bnd hf
      obtain ⟨h10, hf⟩ := pk_chk hf
      refine s_getR X (ci := 8) (k := 4) rfl (Nat.le_of_ble_eq_true rfl) h1 wd214 (fun _ _ _ => rfl) (e9 ▸ h10) dX8_listWholes_85 (e9 ▸ ?_)
      refine s_iload_n X 3 dX8_listWholes_88 rfl rfl ?_
      obtain ⟨h11, hf⟩ := pk_chk hf
      refine s_iald X h10 h11 dX8_listWholes_89 ?_
      obtain ⟨x12, e13, hf⟩ := pk_bnd hf
      refine s_nmI e13 ?_
      refine s_istore X (vs' := [(0, .ref (gB G + v0)), (1, .int v1), (2, .int v2), (3, .int v3), (4, .int x12)]) dX8_listWholes_90 (Nat.le_of_ble_eq_true rfl) [1, 2, 3, 4, 0] rfl ?_
      refine s_drop [0, 1, 3, 4] (vs' := [(0, .ref (gB G + v0)), (1, .int v1), (3, .int v3), (4, .int x12)]) rfl ?_
      exact l_X8_listWholes_92 X hr hlk hnm _ _ _ _ _ hf
    · have hf := hs6.2 c7
      refine s_aload_n X 0 dX8_listWholes_19 rfl rfl ?_
      refine s_iconst X (v := (1 : Int32)) dX8_listWholes_20 rfl ?_
      refine s_iload_n X 1 dX8_listWholes_21 rfl rfl ?_
      refine s_ishl X dX8_listWholes_22 ?_
      refine s_aload_n X 0 dX8_listWholes_23 rfl rfl ?_
      obtain ⟨o14, e15, hf⟩ := pk_bnd hf
      obtain ⟨h16, hf⟩ := pk_chk hf
      refine s_getR X (ci := 8) (k := 3) rfl (Nat.le_of_ble_eq_true rfl) h1 wd213 (fun _ _ _ => rfl) (e15 ▸ h16) dX8_listWholes_24 (e15 ▸ ?_)
      refine s_iload X 4 dX8_listWholes_27 rfl ?_
      obtain ⟨h17, hf⟩ := pk_chk hf
      refine s_iald X h16 h17 dX8_listWholes_29 ?_
      refine s_ior X dX8_listWholes_30 ?_
      obtain ⟨M19, hc18, hf⟩ := pk_obd hf
      refine s_callV X (ci := 8) (k_X8_listWhole G hc18) rfl h1 wd811 wd813 wd8 wd814 wd128 cd_X8_listWhole ⟨Nat.le_of_ble_eq_true rfl, Nat.le_of_ble_eq_true rfl⟩ (Nat.le_of_ble_eq_true rfl) dX8_listWholes_31 ?_
      refine s_aload_n X 0 dX8_listWholes_34 rfl rfl ?_
      obtain ⟨h20, hf⟩ := pk_chk hf
      obtain ⟨o21, e22, hf⟩ := pk_bnd hf
      obtain ⟨h23, hf⟩ := pk_chk hf
      refine s_getR X (ci := 8) (k := 4) rfl (Nat.le_of_ble_eq_true rfl) h20 wd214 (fun _ _ _ => rfl) (e22 ▸ h23) dX8_listWholes_35 (e22 ▸ ?_)
      refine s_iload_n X 3 dX8_listWholes_38 rfl rfl ?_
      obtain ⟨h24, hf⟩ := pk_chk hf
      refine s_iald X h23 h24 dX8_listWholes_39 ?_
      obtain ⟨x25, e26, hf⟩ := pk_bnd hf
      refine s_nmI e26 ?_
      refine s_istore X (vs' := [(0, .ref (gB G + v0)), (1, .int v1), (2, .int v2), (3, .int v3), (4, .int v4), (5, .int x25)]) dX8_listWholes_40 (Nat.le_of_ble_eq_true rfl) [1, 2, 3, 4, 5, 0] rfl ?_
      exact l_X8_listWholes_42 X hr hlk hnm ih _ _ _ _ _ _ _ hf
end
theorem k_X8_listWholes (G : Gam) {n : Nat} {o : Nat} {a1 : Int32} {a2 : Int32} {a3 : Int32} {M : Mem} {rv : Mem} (hf : f_X8_listWholes n o a1 a2 a3 M = some rv) : Kt yX8_listWholes cX8_listWholes 6 none 1 21 G [.ref (gB G + o), .int a1, .int a2, .int a3] M rv none := by
  refine Kt.of (by decide) (Nat.le_of_ble_eq_true rfl) ?_
  intro p l e R s m args below meth c X hr hlk hnm
  refine s_drop [0, 1, 2, 3] (vs' := [(0, .ref (gB G + o)), (1, .int a1), (2, .int a2), (3, .int a3)]) rfl ?_
  rw [f_X8_listWholes] at hf
  refine s_aload_n X 0 dX8_listWholes_0 rfl rfl ?_
  obtain ⟨h1, hf⟩ := pk_chk hf
  obtain ⟨o2, e3, hf⟩ := pk_bnd hf
  obtain ⟨h4, hf⟩ := pk_chk hf
  refine s_getR X (ci := 8) (k := 4) rfl (Nat.le_of_ble_eq_true rfl) h1 wd214 (fun _ _ _ => rfl) (e3 ▸ h4) dX8_listWholes_1 (e3 ▸ ?_)
  refine s_iload_n X 2 dX8_listWholes_4 rfl rfl ?_
  obtain ⟨h5, hf⟩ := pk_chk hf
  refine s_iald X h4 h5 dX8_listWholes_5 ?_
  obtain ⟨x6, e7, hf⟩ := pk_bnd hf
  refine s_nmI e7 ?_
  refine s_istore X (vs' := [(0, .ref (gB G + o)), (1, .int a1), (2, .int a2), (3, .int a3), (4, .int x6)]) dX8_listWholes_6 (Nat.le_of_ble_eq_true rfl) [1, 2, 3, 4, 0] rfl ?_
  exact l_X8_listWholes_8 X hr hlk hnm _ _ _ _ _ _ hf
theorem dX8_addWholes_0 : decode cX8_addWholes 0 = .ok (.aload_n 0, 1) := dk_42 (by decide +kernel)
theorem dX8_addWholes_1 : decode cX8_addWholes 1 = .ok (.iconst 0, 1) := dk_3 (by decide +kernel)
theorem dX8_addWholes_2 : decode cX8_addWholes 2 = .ok (.putfield 64, 3) := dk_181 (x := 0) (y := 64) (by decide +kernel) rfl
theorem dX8_addWholes_5 : decode cX8_addWholes 5 = .ok (.iload_n 1, 1) := dk_27 (by decide +kernel)
theorem dX8_addWholes_6 : decode cX8_addWholes 6 = .ok (.iconst 1, 1) := dk_4 (by decide +kernel)
theorem dX8_addWholes_7 : decode cX8_addWholes 7 = .ok (.isub, 1) := dk_100 (by decide +kernel)
theorem dX8_addWholes_8 : decode cX8_addWholes 8 = .ok (.istore_n 2, 1) := dk_61 (by decide +kernel)
theorem dX8_addWholes_9 : decode cX8_addWholes 9 = .ok (.iload_n 2, 1) := dk_28 (by decide +kernel)
theorem dX8_addWholes_10 : decode cX8_addWholes 10 = .ok (.ifCond .lt 63, 3) := dk_155 (x := 0) (y := 63) (by decide +kernel) rfl
theorem dX8_addWholes_13 : decode cX8_addWholes 13 = .ok (.aload_n 0, 1) := dk_42 (by decide +kernel)
theorem dX8_addWholes_14 : decode cX8_addWholes 14 = .ok (.getfield 29, 3) := dk_180 (x := 0) (y := 29) (by decide +kernel) rfl
theorem dX8_addWholes_17 : decode cX8_addWholes 17 = .ok (.iload_n 2, 1) := dk_28 (by decide +kernel)
theorem dX8_addWholes_18 : decode cX8_addWholes 18 = .ok (.aload_n 0, 1) := dk_42 (by decide +kernel)
theorem dX8_addWholes_19 : decode cX8_addWholes 19 = .ok (.getfield 64, 3) := dk_180 (x := 0) (y := 64) (by decide +kernel) rfl
theorem dX8_addWholes_22 : decode cX8_addWholes 22 = .ok (.iastore, 1) := dk_79 (by decide +kernel)
theorem dX8_addWholes_23 : decode cX8_addWholes 23 = .ok (.iconst 2, 1) := dk_5 (by decide +kernel)
theorem dX8_addWholes_24 : decode cX8_addWholes 24 = .ok (.iload_n 2, 1) := dk_28 (by decide +kernel)
theorem dX8_addWholes_25 : decode cX8_addWholes 25 = .ok (.imul, 1) := dk_104 (by decide +kernel)
theorem dX8_addWholes_26 : decode cX8_addWholes 26 = .ok (.iconst 2, 1) := dk_5 (by decide +kernel)
theorem dX8_addWholes_27 : decode cX8_addWholes 27 = .ok (.iadd, 1) := dk_96 (by decide +kernel)
theorem dX8_addWholes_28 : decode cX8_addWholes 28 = .ok (.iload_n 1, 1) := dk_27 (by decide +kernel)
theorem dX8_addWholes_29 : decode cX8_addWholes 29 = .ok (.if_icmp .ge 21, 3) := dk_162 (x := 0) (y := 21) (by decide +kernel) rfl
theorem dX8_addWholes_32 : decode cX8_addWholes 32 = .ok (.aload_n 0, 1) := dk_42 (by decide +kernel)
theorem dX8_addWholes_33 : decode cX8_addWholes 33 = .ok (.iload_n 2, 1) := dk_28 (by decide +kernel)
theorem dX8_addWholes_34 : decode cX8_addWholes 34 = .ok (.iconst 2, 1) := dk_5 (by decide +kernel)
theorem dX8_addWholes_35 : decode cX8_addWholes 35 = .ok (.iload_n 2, 1) := dk_28 (by decide +kernel)
theorem dX8_addWholes_36 : decode cX8_addWholes 36 = .ok (.imul, 1) := dk_104 (by decide +kernel)
theorem dX8_addWholes_37 : decode cX8_addWholes 37 = .ok (.iconst 1, 1) := dk_4 (by decide +kernel)
theorem dX8_addWholes_38 : decode cX8_addWholes 38 = .ok (.iadd, 1) := dk_96 (by decide +kernel)
theorem dX8_addWholes_39 : decode cX8_addWholes 39 = .ok (.iconst 2, 1) := dk_5 (by decide +kernel)
theorem dX8_addWholes_40 : decode cX8_addWholes 40 = .ok (.iload_n 2, 1) := dk_28 (by decide +kernel)
theorem dX8_addWholes_41 : decode cX8_addWholes 41 = .ok (.imul, 1) := dk_104 (by decide +kernel)
theorem dX8_addWholes_42 : decode cX8_addWholes 42 = .ok (.iconst 2, 1) := dk_5 (by decide +kernel)
theorem dX8_addWholes_43 : decode cX8_addWholes 43 = .ok (.iadd, 1) := dk_96 (by decide +kernel)
theorem dX8_addWholes_44 : decode cX8_addWholes 44 = .ok (.invokevirtual 67, 3) := dk_182 (x := 0) (y := 67) (by decide +kernel) rfl
theorem dX8_addWholes_47 : decode cX8_addWholes 47 = .ok (.goto 10, 3) := dk_167 (x := 0) (y := 10) (by decide +kernel) rfl
theorem dX8_addWholes_50 : decode cX8_addWholes 50 = .ok (.aload_n 0, 1) := dk_42 (by decide +kernel)
theorem dX8_addWholes_51 : decode cX8_addWholes 51 = .ok (.iconst 1, 1) := dk_4 (by decide +kernel)
theorem dX8_addWholes_52 : decode cX8_addWholes 52 = .ok (.iload_n 2, 1) := dk_28 (by decide +kernel)
theorem dX8_addWholes_53 : decode cX8_addWholes 53 = .ok (.ishl, 1) := dk_120 (by decide +kernel)
theorem dX8_addWholes_54 : decode cX8_addWholes 54 = .ok (.invokevirtual 71, 3) := dk_182 (x := 0) (y := 71) (by decide +kernel) rfl
theorem dX8_addWholes_57 : decode cX8_addWholes 57 = .ok (.aload_n 0, 1) := dk_42 (by decide +kernel)
theorem dX8_addWholes_58 : decode cX8_addWholes 58 = .ok (.getfield 32, 3) := dk_180 (x := 0) (y := 32) (by decide +kernel) rfl
theorem dX8_addWholes_61 : decode cX8_addWholes 61 = .ok (.iload_n 2, 1) := dk_28 (by decide +kernel)
theorem dX8_addWholes_62 : decode cX8_addWholes 62 = .ok (.aload_n 0, 1) := dk_42 (by decide +kernel)
theorem dX8_addWholes_63 : decode cX8_addWholes 63 = .ok (.getfield 64, 3) := dk_180 (x := 0) (y := 64) (by decide +kernel) rfl
theorem dX8_addWholes_66 : decode cX8_addWholes 66 = .ok (.iastore, 1) := dk_79 (by decide +kernel)
theorem dX8_addWholes_67 : decode cX8_addWholes 67 = .ok (.iinc 2 (-1), 3) := dk_132 (x := 2) (y := 255) (by decide +kernel) rfl
theorem dX8_addWholes_70 : decode cX8_addWholes 70 = .ok (.goto (-61), 3) := dk_167 (x := 255) (y := 195) (by decide +kernel) rfl
theorem dX8_addWholes_73 : decode cX8_addWholes 73 = .ok (.aload_n 0, 1) := dk_42 (by decide +kernel)
theorem dX8_addWholes_74 : decode cX8_addWholes 74 = .ok (.getfield 29, 3) := dk_180 (x := 0) (y := 29) (by decide +kernel) rfl
theorem dX8_addWholes_77 : decode cX8_addWholes 77 = .ok (.iconst 0, 1) := dk_3 (by decide +kernel)
theorem dX8_addWholes_78 : decode cX8_addWholes 78 = .ok (.iaload, 1) := dk_46 (by decide +kernel)
theorem dX8_addWholes_79 : decode cX8_addWholes 79 = .ok (.istore_n 2, 1) := dk_61 (by decide +kernel)
theorem dX8_addWholes_80 : decode cX8_addWholes 80 = .ok (.iload_n 2, 1) := dk_28 (by decide +kernel)
theorem dX8_addWholes_81 : decode cX8_addWholes 81 = .ok (.aload_n 0, 1) := dk_42 (by decide +kernel)
theorem dX8_addWholes_82 : decode cX8_addWholes 82 = .ok (.getfield 32, 3) := dk_180 (x := 0) (y := 32) (by decide +kernel) rfl
theorem dX8_addWholes_85 : decode cX8_addWholes 85 = .ok (.iconst 0, 1) := dk_3 (by decide +kernel)
theorem dX8_addWholes_86 : decode cX8_addWholes 86 = .ok (.iaload, 1) := dk_46 (by decide +kernel)
theorem dX8_addWholes_87 : decode cX8_addWholes 87 = .ok (.if_icmp .ge 22, 3) := dk_162 (x := 0) (y := 22) (by decide +kernel) rfl
theorem dX8_addWholes_90 : decode cX8_addWholes 90 = .ok (.aload_n 0, 1) := dk_42 (by decide +kernel)
theorem dX8_addWholes_91 : decode cX8_addWholes 91 = .ok (.getfield 18, 3) := dk_180 (x := 0) (y := 18) (by decide +kernel) rfl
theorem dX8_addWholes_94 : decode cX8_addWholes 94 = .ok (.aload_n 0, 1) := dk_42 (by decide +kernel)
theorem dX8_addWholes_95 : decode cX8_addWholes 95 = .ok (.getfield 25, 3) := dk_180 (x := 0) (y := 25) (by decide +kernel) rfl
theorem dX8_addWholes_98 : decode cX8_addWholes 98 = .ok (.iload_n 2, 1) := dk_28 (by decide +kernel)
theorem dX8_addWholes_99 : decode cX8_addWholes 99 = .ok (.iaload, 1) := dk_46 (by decide +kernel)
theorem dX8_addWholes_100 : decode cX8_addWholes 100 = .ok (.invokevirtual 48, 3) := dk_182 (x := 0) (y := 48) (by decide +kernel) rfl
theorem dX8_addWholes_103 : decode cX8_addWholes 103 = .ok (.iinc 2 1, 3) := dk_132 (x := 2) (y := 1) (by decide +kernel) rfl
theorem dX8_addWholes_106 : decode cX8_addWholes 106 = .ok (.goto (-26), 3) := dk_167 (x := 255) (y := 230) (by decide +kernel) rfl
theorem dX8_addWholes_109 : decode cX8_addWholes 109 = .ok (.return_, 1) := dk_177 (by decide +kernel)
def f_X8_addWholes_80 : Nat → Nat → Int32 → Mem → Option Mem
  | 0, _, _, _ => none
  | n + 1, v0, v2, M =>
    chk (isO M 8 v0) <|
    bnd (mR M v0 5) fun o2 =>
    chk (isO M 100 o2) <|
    chk (inB (0 : Int32) (mLn M o2)) <|
    if (mI M o2 ((0 : Int32)).toNatClampNeg) ≤ v2 then (
      some M
      ) else (
      bnd (mR M v0 1) fun o8 =>
      chk (isO M 1 o8) <|
      bnd (mR M v0 3) fun o11 =>
      chk (isO M 100 o11) <|
      chk (inB v2 (mLn M o11)) <|
      obd (f_X1_add o8 (mI M o11 (v2).toNatClampNeg) M) fun M16 =>
      bnd (v2 + (1 : Int32)) fun x17 =>
      f_X8_addWholes_80 n v0 x17 M16
      )
def f_X8_addWholes_9 : Nat → Nat → Int32 → Int32 → Mem → Option Mem
  | 0, _, _, _, _ => none
  | n + 1, v0, v1, v2, M =>
    if v2 < 0 then (
      chk (isO M 8 v0) <|
      bnd (mR M v0 4) fun o4 =>
      chk (isO M 100 o4) <|
      chk (inB (0 : Int32) (mLn M o4)) <|
      bnd (mI M o4 ((0 : Int32)).toNatClampNeg) fun x8 =>
      f_X8_addWholes_80 n v0 x8 M
      ) else (
      chk (isO M 8 v0) <|
      bnd (mR M v0 4) fun o11 =>
      chk (isO M 100 o11) <|
      chk (inB v2 (mLn M o11)) <|
      bnd (sI M o11 (v2).toNatClampNeg (mI M v0 6)) fun M15 =>
      if v1 ≤ (((2 : Int32) * v2) + (2 : Int32)) then (
        obd (f_X8_listWhole v0 ((1 : Int32) <<< (v2 &&& 31)) M15) fun M22 =>
        chk (isO M22 8 v0) <|
        bnd (mR M22 v0 5) fun o24 =>
        chk (isO M22 100 o24) <|
        chk (inB v2 (mLn M22 o24)) <|
        bnd (sI M22 o24 (v2).toNatClampNeg (mI M22 v0 6)) fun M28 =>
        bnd (v2 + (-1 : Int32)) fun x32 =>
        f_X8_addWholes_9 n v0 v1 x32 M28
        ) else (
        obd (f_X8_listWholes n v0 v2 (((2 : Int32) * v2) + (1 : Int32)) (((2 : Int32) * v2) + (2 : Int32)) M15) fun M35 =>
        chk (isO M35 8 v0) <|
        bnd (mR M35 v0 5) fun o37 =>
        chk (isO M35 100 o37) <|
        chk (inB v2 (mLn M35 o37)) <|
        bnd (sI M35 o37 (v2).toNatClampNeg (mI M35 v0 6)) fun M41 =>
        bnd (v2 + (-1 : Int32)) fun x45 =>
        f_X8_addWholes_9 n v0 v1 x45 M41
        )
      )
def f_X8_addWholes (n : Nat) (o : Nat) (a1 : Int32) (M : Mem) : Option Mem :=
  chk (isO M 8 o) <|
  bnd (sI M o 6 (0 : Int32)) fun M2 =>
  bnd (a1 - (1 : Int32)) fun x5 =>
  f_X8_addWholes_9 n o a1 x5 M2
theorem cd_X8_addWholes : (yX8_addWholes.cls ≠ "java/lang/invoke/MethodHandle" ∧ yX8_addWholes.cls ≠ "java/lang/invoke/VarHandle") ∧ (parseMethodDescriptor yX8_addWholes.desc).map (fun d => d.parameters.length) = some 1 := ⟨⟨by decide +kernel, by decide +kernel⟩, by decide +kernel⟩
section
variable {p : Program} {l : Launch} {e : Env} {R : Room} {s : State} {m : MethodId} {args : Array Value} {below : List Frame} {meth : Method} {c : Code} {G : Gam} {M0 : Mem}
theorem l_X8_addWholes_80 {rv : Mem} (X : Cx p R s m args c G M0 cX8_addWholes yX8_addWholes.cls 3 2 46) (hr : meth.sig.returnType = none) (hlk : meth.locks = false) (hnm : meth.name = "addWholes") : ∀ {n : Nat} (v0 : Nat) (v2 : Int32) (M : Mem), f_X8_addWholes_80 n v0 v2 M = some rv → Sg p l e R s m args below meth c (Qm below G args s none M0 rv) G M0 3 80 [(0, .ref (gB G + v0)), (2, .int v2)] [] M := by
  intro n
  induction n with
  | zero => intro v0 v2 M hf; exact (pk_none hf).elim
  | succ n ih =>
    intro v0 v2 M hf
    rw [f_X8_addWholes_80] at hf
    refine s_iload_n X 1 dX8_addWholes_80 rfl rfl ?_
    refine s_aload_n X 0 dX8_addWholes_81 rfl rfl ?_
    obtain ⟨h1, hf⟩ := pk_chk hf
    obtain ⟨o2, e3, hf⟩ := pk_bnd hf
    obtain ⟨h4, hf⟩ := pk_chk hf
    refine s_getR X (ci := 8) (k := 5) rfl (Nat.le_of_ble_eq_true rfl) h1 wd215 (fun _ _ _ => rfl) (e3 ▸ h4) dX8_addWholes_82 (e3 ▸ ?_)
    refine s_iconst X (v := (0 : Int32)) dX8_addWholes_85 rfl ?_
    obtain ⟨h5, hf⟩ := pk_chk hf
    refine s_iald X h4 h5 dX8_addWholes_86 ?_
    have hs6 := pk_ite hf
    clear hf
    refine s_icmp_ge X (tgt := 109) dX8_addWholes_87 rfl (fun c7 => ?_) (fun c7 => ?_)
    · have hf := hs6.1 c7
      cases hf
      exact s_vret X hr hlk dX8_addWholes_109
    · have hf := hs6.2 c7
      refine s_aload_n X 0 dX8_addWholes_90 rfl rfl ?_
      obtain ⟨o8, e9, hf⟩ := pk_bnd hf
      obtain ⟨h10, hf⟩ := pk_chk hf
      refine s_getR X (ci := 8) (k := 1) rfl (Nat.le_of_ble_eq_true rfl) h1 wd210 (fun _ _ _ => rfl) (e9 ▸ h10) dX8_addWholes_91 (e9 ▸ ?_)
      refine s_aload_n X 0 dX8_addWholes_94 rfl rfl ?_
      obtain ⟨o11, e12, hf⟩ := pk_bnd hf
      obtain ⟨h13, hf⟩ := pk_chk hf
      refine s_getR X (ci := 8) (k := 3) rfl (Nat.le_of_ble_eq_true rfl) h1 wd213 (fun _ _ _ => rfl) (e12 ▸ h13) dX8_addWholes_95 (e12 ▸ ?_)
      refine s_iload_n X 1 dX8_addWholes_98 rfl rfl ?_
      obtain ⟨h14, hf⟩ := pk_chk hf
      refine s_iald X h13 h14 dX8_addWholes_99 ?_
      obtain ⟨M16, hc15, hf⟩ := pk_obd hf
      refine s_callV X (ci := 1) (k_X1_add G hc15) rfl h10 wd799 wd800 wd801 wd802 wd129 cd_X1_add ⟨Nat.le_of_ble_eq_true rfl, Nat.le_of_ble_eq_true rfl⟩ (Nat.le_of_ble_eq_true rfl) dX8_addWholes_100 ?_
      obtain ⟨x17, e18, hf⟩ := pk_bnd hf
      refine s_iinc X (vs' := [(0, .ref (gB G + v0)), (2, .int x17)]) 1 dX8_addWholes_103 rfl (v := x17) e18.symm (Nat.le_of_ble_eq_true rfl) [1, 0] rfl ?_
      refine s_goto X (tgt := 80) dX8_addWholes_106 rfl ?_
      exact ih _ _ _ hf
theorem l_X8_addWholes_9 {rv : Mem} (X : Cx p R s m args c G M0 cX8_addWholes yX8_addWholes.cls 3 2 46) (hr : meth.sig.returnType = none) (hlk : meth.locks = false) (hnm : meth.name = "addWholes") : ∀ {n : Nat} (v0 : Nat) (v1 : Int32) (v2 : Int32) (M : Mem), f_X8_addWholes_9 n v0 v1 v2 M = some rv → Sg p l e R s m args below meth c (Qm below G args s none M0 rv) G M0 3 9 [(0, .ref (gB G + v0)), (1, .int v1), (2, .int v2)] [] M := by
  intro n
  induction n with
  | zero => intro v0 v1 v2 M hf; exact (pk_none hf).elim
  | succ n ih =>
    intro v0 v1 v2 M hf
    rw [f_X8_addWholes_9] at hf
    refine s_iload_n X 2 dX8_addWholes_9 rfl rfl ?_
    have hs1 := pk_ite hf
    clear hf
    refine s_if_lt X (tgt := 73) dX8_addWholes_10 rfl (fun c2 => ?_) (fun c2 => ?_)
    · have hf := hs1.1 c2
      refine s_aload_n X 0 dX8_addWholes_73 rfl rfl ?_
      obtain ⟨h3, hf⟩ := pk_chk hf
      obtain ⟨o4, e5, hf⟩ := pk_bnd hf
      obtain ⟨h6, hf⟩ := pk_chk hf
      refine s_getR X (ci := 8) (k := 4) rfl (Nat.le_of_ble_eq_true rfl) h3 wd214 (fun _ _ _ => rfl) (e5 ▸ h6) dX8_addWholes_74 (e5 ▸ ?_)
      refine s_iconst X (v := (0 : Int32)) dX8_addWholes_77 rfl ?_
      obtain ⟨h7, hf⟩ := pk_chk hf
      refine s_iald X h6 h7 dX8_addWholes_78 ?_
      obtain ⟨x8, e9, hf⟩ := pk_bnd hf
      refine s_nmI e9 ?_
      refine s_istore_n X (vs' := [(0, .ref (gB G + v0)), (1, .int v1), (2, .int x8)]) dX8_addWholes_79 rfl (Nat.le_of_ble_eq_true rfl) [1, 2, 0] rfl ?_
      refine s_drop [0, 2] (vs' := [(0, .ref (gB G + v0)), (2, .int x8)]) rfl ?_
      exact l_X8_addWholes_80 X hr hlk hnm _ _ _ hf
    · have hf := hs1.2 c2
      refine s_aload_n X 0 dX8_addWholes_13 rfl rfl ?_
      obtain ⟨h10, hf⟩ := pk_chk hf
      obtain ⟨o11, e12, hf⟩ := pk_bnd hf
      obtain ⟨h13, hf⟩ := pk_chk hf
      refine s_getR X (ci := 8) (k := 4) rfl (Nat.le_of_ble_eq_true rfl) h10 wd214 (fun _ _ _ => rfl) (e12 ▸ h13) dX8_addWholes_14 (e12 ▸ ?_)
      refine s_iload_n X 2 dX8_addWholes_17 rfl rfl ?_
      refine s_aload_n X 0 dX8_addWholes_18 rfl rfl ?_
      refine s_getI X (ci := 8) (k := 6) rfl (Nat.le_of_ble_eq_true rfl) h10 wd216 (fun _ _ _ => rfl) dX8_addWholes_19 ?_
      obtain ⟨h14, hf⟩ := pk_chk hf
      obtain ⟨M15, e16, hf⟩ := pk_bnd hf
      refine s_iast X h13 h14 e16 dX8_addWholes_22 ?_
      have h17 := io_sI e16 h10
      have h18 := io_sI e16 h13
      refine s_iconst X (v := (2 : Int32)) dX8_addWholes_23 rfl ?_
      refine s_iload_n X 2 dX8_addWholes_24 rfl rfl ?_
      refine s_imul X dX8_addWholes_25 ?_
      refine s_iconst X (v := (2 : Int32)) dX8_addWholes_26 rfl ?_
      refine s_iadd X dX8_addWholes_27 ?_
      refine s_iload_n X 1 dX8_addWholes_28 rfl rfl ?_
      have hs19 := pk_ite hf
      clear hf
      refine s_icmp_ge X (tgt := 50) dX8_addWholes_29 rfl (fun c20 => ?_) (fun c20 => ?_)
      · have hf := hs19.1 c20
        refine s_aload_n X 0 dX8_addWholes_50 rfl rfl ?_
        refine s_iconst X (v := (1 : Int32)) dX8_addWholes_51 rfl ?_
        refine s_iload_n X 2 dX8_addWholes_52 rfl rfl ?_
        refine s_ishl X dX8_addWholes_53 ?_
        obtain ⟨M22, hc21, hf⟩ := pk_obd hf
        refine s_callV X (ci := 8) (k_X8_listWhole G hc21) rfl h17 wd811 wd813 wd8 wd814 wd128 cd_X8_listWhole ⟨Nat.le_of_ble_eq_true rfl, Nat.le_of_ble_eq_true rfl⟩ (Nat.le_of_ble_eq_true rfl) dX8_addWholes_54 ?_
        refine s_aload_n X 0 dX8_addWholes_57 rfl rfl ?_
        obtain ⟨h23, hf⟩ := pk_chk hf
        obtain ⟨o24, e25, hf⟩ := pk_bnd hf
        obtain ⟨h26, hf⟩ := pk_chk hf
        refine s_getR X (ci := 8) (k := 5) rfl (Nat.le_of_ble_eq_true rfl) h23 wd215 (fun _ _ _ => rfl) (e25 ▸ h26) dX8_addWholes_58 (e25 ▸ ?_)
        refine s_iload_n X 2 dX8_addWholes_61 rfl rfl ?_
        refine s_aload_n X 0 dX8_addWholes_62 rfl rfl ?_
        refine s_getI X (ci := 8) (k := 6) rfl (Nat.le_of_ble_eq_true rfl) h23 wd216 (fun _ _ _ => rfl) dX8_addWholes_63 ?_
        obtain ⟨h27, hf⟩ := pk_chk hf
        obtain ⟨M28, e29, hf⟩ := pk_bnd hf
        refine s_iast X h26 h27 e29 dX8_addWholes_66 ?_
        have h30 := io_sI e29 h23
        have h31 := io_sI e29 h26
        obtain ⟨x32, e33, hf⟩ := pk_bnd hf
        refine s_iinc X (vs' := [(0, .ref (gB G + v0)), (1, .int v1), (2, .int x32)]) 2 dX8_addWholes_67 rfl (v := x32) e33.symm (Nat.le_of_ble_eq_true rfl) [1, 2, 0] rfl ?_
        refine s_goto X (tgt := 9) dX8_addWholes_70 rfl ?_
        exact ih _ _ _ _ hf
      · have hf := hs19.2 c20
        refine s_aload_n X 0 dX8_addWholes_32 rfl rfl ?_
        refine s_iload_n X 2 dX8_addWholes_33 rfl rfl ?_
        refine s_iconst X (v := (2 : Int32)) dX8_addWholes_34 rfl ?_
        refine s_iload_n X 2 dX8_addWholes_35 rfl rfl ?_
        refine s_imul X dX8_addWholes_36 ?_
        refine s_iconst X (v := (1 : Int32)) dX8_addWholes_37 rfl ?_
        refine s_iadd X dX8_addWholes_38 ?_
        refine s_iconst X (v := (2 : Int32)) dX8_addWholes_39 rfl ?_
        refine s_iload_n X 2 dX8_addWholes_40 rfl rfl ?_
        refine s_imul X dX8_addWholes_41 ?_
        refine s_iconst X (v := (2 : Int32)) dX8_addWholes_42 rfl ?_
        refine s_iadd X dX8_addWholes_43 ?_
        obtain ⟨M35, hc34, hf⟩ := pk_obd hf
        refine s_callV X (ci := 8) (k_X8_listWholes G hc34) rfl h17 wd807 wd809 wd7 wd810 wd128 cd_X8_listWholes ⟨Nat.le_of_ble_eq_true rfl, Nat.le_of_ble_eq_true rfl⟩ (Nat.le_of_ble_eq_true rfl) dX8_addWholes_44 ?_
        refine s_goto X (tgt := 57) dX8_addWholes_47 rfl ?_
        refine s_aload_n X 0 dX8_addWholes_57 rfl rfl ?_
        obtain ⟨h36, hf⟩ := pk_chk hf
        obtain ⟨o37, e38, hf⟩ := pk_bnd hf
        obtain ⟨h39, hf⟩ := pk_chk hf
        refine s_getR X (ci := 8) (k := 5) rfl (Nat.le_of_ble_eq_true rfl) h36 wd215 (fun _ _ _ => rfl) (e38 ▸ h39) dX8_addWholes_58 (e38 ▸ ?_)
        refine s_iload_n X 2 dX8_addWholes_61 rfl rfl ?_
        refine s_aload_n X 0 dX8_addWholes_62 rfl rfl ?_
        refine s_getI X (ci := 8) (k := 6) rfl (Nat.le_of_ble_eq_true rfl) h36 wd216 (fun _ _ _ => rfl) dX8_addWholes_63 ?_
        obtain ⟨h40, hf⟩ := pk_chk hf
        obtain ⟨M41, e42, hf⟩ := pk_bnd hf
        refine s_iast X h39 h40 e42 dX8_addWholes_66 ?_
        have h43 := io_sI e42 h36
        have h44 := io_sI e42 h39
        obtain ⟨x45, e46, hf⟩ := pk_bnd hf
        refine s_iinc X (vs' := [(0, .ref (gB G + v0)), (1, .int v1), (2, .int x45)]) 2 dX8_addWholes_67 rfl (v := x45) e46.symm (Nat.le_of_ble_eq_true rfl) [1, 2, 0] rfl ?_
        refine s_goto X (tgt := 9) dX8_addWholes_70 rfl ?_
        exact ih _ _ _ _ hf
end
theorem k_X8_addWholes (G : Gam) {n : Nat} {o : Nat} {a1 : Int32} {M : Mem} {rv : Mem} (hf : f_X8_addWholes n o a1 M = some rv) : Kt yX8_addWholes cX8_addWholes 3 none 2 46 G [.ref (gB G + o), .int a1] M rv none := by
  refine Kt.of (by decide) (Nat.le_of_ble_eq_true rfl) ?_
  intro p l e R s m args below meth c X hr hlk hnm
  refine s_drop [0, 1] (vs' := [(0, .ref (gB G + o)), (1, .int a1)]) rfl ?_
  rw [f_X8_addWholes] at hf
  refine s_aload_n X 0 dX8_addWholes_0 rfl rfl ?_
  refine s_iconst X (v := (0 : Int32)) dX8_addWholes_1 rfl ?_
  obtain ⟨h1, hf⟩ := pk_chk hf
  obtain ⟨M2, e3, hf⟩ := pk_bnd hf
  refine s_putI X (ci := 8) (k := 6) rfl (Nat.le_of_ble_eq_true rfl) h1 wd216 (fun _ _ _ => rfl) rfl rfl e3 dX8_addWholes_2 ?_
  have h4 := io_sI e3 h1
  refine s_iload_n X 1 dX8_addWholes_5 rfl rfl ?_
  refine s_iconst X (v := (1 : Int32)) dX8_addWholes_6 rfl ?_
  refine s_isub X dX8_addWholes_7 ?_
  obtain ⟨x5, e6, hf⟩ := pk_bnd hf
  refine s_nmI e6 ?_
  refine s_istore_n X (vs' := [(0, .ref (gB G + o)), (1, .int a1), (2, .int x5)]) dX8_addWholes_8 rfl (Nat.le_of_ble_eq_true rfl) [1, 2, 0] rfl ?_
  exact l_X8_addWholes_9 X hr hlk hnm _ _ _ _ hf
theorem dX1_addGreater_0 : decode cX1_addGreater 0 = .ok (.iconst 0, 1) := dk_3 (by decide +kernel)
theorem dX1_addGreater_1 : decode cX1_addGreater 1 = .ok (.istore_n 1, 1) := dk_60 (by decide +kernel)
theorem dX1_addGreater_2 : decode cX1_addGreater 2 = .ok (.iload_n 1, 1) := dk_27 (by decide +kernel)
theorem dX1_addGreater_3 : decode cX1_addGreater 3 = .ok (.bipush 6, 2) := dk_16 (x := 6) (by decide +kernel) rfl
theorem dX1_addGreater_5 : decode cX1_addGreater 5 = .ok (.if_icmp .ge 62, 3) := dk_162 (x := 0) (y := 62) (by decide +kernel) rfl
theorem dX1_addGreater_8 : decode cX1_addGreater 8 = .ok (.iload_n 1, 1) := dk_27 (by decide +kernel)
theorem dX1_addGreater_9 : decode cX1_addGreater 9 = .ok (.aload_n 0, 1) := dk_42 (by decide +kernel)
theorem dX1_addGreater_10 : decode cX1_addGreater 10 = .ok (.getfield 15, 3) := dk_180 (x := 0) (y := 15) (by decide +kernel) rfl
theorem dX1_addGreater_13 : decode cX1_addGreater 13 = .ok (.if_icmp .ge 54, 3) := dk_162 (x := 0) (y := 54) (by decide +kernel) rfl
theorem dX1_addGreater_16 : decode cX1_addGreater 16 = .ok (.iconst 0, 1) := dk_3 (by decide +kernel)
theorem dX1_addGreater_17 : decode cX1_addGreater 17 = .ok (.istore_n 2, 1) := dk_61 (by decide +kernel)
theorem dX1_addGreater_18 : decode cX1_addGreater 18 = .ok (.iload_n 2, 1) := dk_28 (by decide +kernel)
theorem dX1_addGreater_19 : decode cX1_addGreater 19 = .ok (.aload_n 0, 1) := dk_42 (by decide +kernel)
theorem dX1_addGreater_20 : decode cX1_addGreater 20 = .ok (.getfield 19, 3) := dk_180 (x := 0) (y := 19) (by decide +kernel) rfl
theorem dX1_addGreater_23 : decode cX1_addGreater 23 = .ok (.if_icmp .ge 38, 3) := dk_162 (x := 0) (y := 38) (by decide +kernel) rfl
theorem dX1_addGreater_26 : decode cX1_addGreater 26 = .ok (.aload_n 0, 1) := dk_42 (by decide +kernel)
theorem dX1_addGreater_27 : decode cX1_addGreater 27 = .ok (.getfield 11, 3) := dk_180 (x := 0) (y := 11) (by decide +kernel) rfl
theorem dX1_addGreater_30 : decode cX1_addGreater 30 = .ok (.iload_n 2, 1) := dk_28 (by decide +kernel)
theorem dX1_addGreater_31 : decode cX1_addGreater 31 = .ok (.dup2, 1) := dk_92 (by decide +kernel)
theorem dX1_addGreater_32 : decode cX1_addGreater 32 = .ok (.laload, 1) := dk_47 (by decide +kernel)
theorem dX1_addGreater_33 : decode cX1_addGreater 33 = .ok (.aload_n 0, 1) := dk_42 (by decide +kernel)
theorem dX1_addGreater_34 : decode cX1_addGreater 34 = .ok (.getfield 11, 3) := dk_180 (x := 0) (y := 11) (by decide +kernel) rfl
theorem dX1_addGreater_37 : decode cX1_addGreater 37 = .ok (.iload_n 2, 1) := dk_28 (by decide +kernel)
theorem dX1_addGreater_38 : decode cX1_addGreater 38 = .ok (.laload, 1) := dk_47 (by decide +kernel)
theorem dX1_addGreater_39 : decode cX1_addGreater 39 = .ok (.getstatic 28, 3) := dk_178 (x := 0) (y := 28) (by decide +kernel) rfl
theorem dX1_addGreater_42 : decode cX1_addGreater 42 = .ok (.iload_n 1, 1) := dk_27 (by decide +kernel)
theorem dX1_addGreater_43 : decode cX1_addGreater 43 = .ok (.laload, 1) := dk_47 (by decide +kernel)
theorem dX1_addGreater_44 : decode cX1_addGreater 44 = .ok (.ldc2_w 31, 3) := dk_20 (x := 0) (y := 31) (by decide +kernel) rfl
theorem dX1_addGreater_47 : decode cX1_addGreater 47 = .ok (.lxor, 1) := dk_131 (by decide +kernel)
theorem dX1_addGreater_48 : decode cX1_addGreater 48 = .ok (.land, 1) := dk_127 (by decide +kernel)
theorem dX1_addGreater_49 : decode cX1_addGreater 49 = .ok (.iconst 1, 1) := dk_4 (by decide +kernel)
theorem dX1_addGreater_50 : decode cX1_addGreater 50 = .ok (.iload_n 1, 1) := dk_27 (by decide +kernel)
theorem dX1_addGreater_51 : decode cX1_addGreater 51 = .ok (.ishl, 1) := dk_120 (by decide +kernel)
theorem dX1_addGreater_52 : decode cX1_addGreater 52 = .ok (.lshl, 1) := dk_121 (by decide +kernel)
theorem dX1_addGreater_53 : decode cX1_addGreater 53 = .ok (.lor, 1) := dk_129 (by decide +kernel)
theorem dX1_addGreater_54 : decode cX1_addGreater 54 = .ok (.lastore, 1) := dk_80 (by decide +kernel)
theorem dX1_addGreater_55 : decode cX1_addGreater 55 = .ok (.iinc 2 1, 3) := dk_132 (x := 2) (y := 1) (by decide +kernel) rfl
theorem dX1_addGreater_58 : decode cX1_addGreater 58 = .ok (.goto (-40), 3) := dk_167 (x := 255) (y := 216) (by decide +kernel) rfl
theorem dX1_addGreater_61 : decode cX1_addGreater 61 = .ok (.iinc 1 1, 3) := dk_132 (x := 1) (y := 1) (by decide +kernel) rfl
theorem dX1_addGreater_64 : decode cX1_addGreater 64 = .ok (.goto (-62), 3) := dk_167 (x := 255) (y := 194) (by decide +kernel) rfl
theorem dX1_addGreater_67 : decode cX1_addGreater 67 = .ok (.iconst 1, 1) := dk_4 (by decide +kernel)
theorem dX1_addGreater_68 : decode cX1_addGreater 68 = .ok (.istore_n 1, 1) := dk_60 (by decide +kernel)
theorem dX1_addGreater_69 : decode cX1_addGreater 69 = .ok (.iload_n 1, 1) := dk_27 (by decide +kernel)
theorem dX1_addGreater_70 : decode cX1_addGreater 70 = .ok (.aload_n 0, 1) := dk_42 (by decide +kernel)
theorem dX1_addGreater_71 : decode cX1_addGreater 71 = .ok (.getfield 19, 3) := dk_180 (x := 0) (y := 19) (by decide +kernel) rfl
theorem dX1_addGreater_74 : decode cX1_addGreater 74 = .ok (.if_icmp .ge 49, 3) := dk_162 (x := 0) (y := 49) (by decide +kernel) rfl
theorem dX1_addGreater_77 : decode cX1_addGreater 77 = .ok (.iconst 0, 1) := dk_3 (by decide +kernel)
theorem dX1_addGreater_78 : decode cX1_addGreater 78 = .ok (.istore_n 2, 1) := dk_61 (by decide +kernel)
theorem dX1_addGreater_79 : decode cX1_addGreater 79 = .ok (.iload_n 2, 1) := dk_28 (by decide +kernel)
theorem dX1_addGreater_80 : decode cX1_addGreater 80 = .ok (.aload_n 0, 1) := dk_42 (by decide +kernel)
theorem dX1_addGreater_81 : decode cX1_addGreater 81 = .ok (.getfield 19, 3) := dk_180 (x := 0) (y := 19) (by decide +kernel) rfl
theorem dX1_addGreater_84 : decode cX1_addGreater 84 = .ok (.if_icmp .ge 32, 3) := dk_162 (x := 0) (y := 32) (by decide +kernel) rfl
theorem dX1_addGreater_87 : decode cX1_addGreater 87 = .ok (.iload_n 2, 1) := dk_28 (by decide +kernel)
theorem dX1_addGreater_88 : decode cX1_addGreater 88 = .ok (.iload_n 1, 1) := dk_27 (by decide +kernel)
theorem dX1_addGreater_89 : decode cX1_addGreater 89 = .ok (.iand, 1) := dk_126 (by decide +kernel)
theorem dX1_addGreater_90 : decode cX1_addGreater 90 = .ok (.ifCond .eq 20, 3) := dk_153 (x := 0) (y := 20) (by decide +kernel) rfl
theorem dX1_addGreater_93 : decode cX1_addGreater 93 = .ok (.aload_n 0, 1) := dk_42 (by decide +kernel)
theorem dX1_addGreater_94 : decode cX1_addGreater 94 = .ok (.getfield 11, 3) := dk_180 (x := 0) (y := 11) (by decide +kernel) rfl
theorem dX1_addGreater_97 : decode cX1_addGreater 97 = .ok (.iload_n 2, 1) := dk_28 (by decide +kernel)
theorem dX1_addGreater_98 : decode cX1_addGreater 98 = .ok (.dup2, 1) := dk_92 (by decide +kernel)
theorem dX1_addGreater_99 : decode cX1_addGreater 99 = .ok (.laload, 1) := dk_47 (by decide +kernel)
theorem dX1_addGreater_100 : decode cX1_addGreater 100 = .ok (.aload_n 0, 1) := dk_42 (by decide +kernel)
theorem dX1_addGreater_101 : decode cX1_addGreater 101 = .ok (.getfield 11, 3) := dk_180 (x := 0) (y := 11) (by decide +kernel) rfl
theorem dX1_addGreater_104 : decode cX1_addGreater 104 = .ok (.iload_n 2, 1) := dk_28 (by decide +kernel)
theorem dX1_addGreater_105 : decode cX1_addGreater 105 = .ok (.iload_n 1, 1) := dk_27 (by decide +kernel)
theorem dX1_addGreater_106 : decode cX1_addGreater 106 = .ok (.ixor, 1) := dk_130 (by decide +kernel)
theorem dX1_addGreater_107 : decode cX1_addGreater 107 = .ok (.laload, 1) := dk_47 (by decide +kernel)
theorem dX1_addGreater_108 : decode cX1_addGreater 108 = .ok (.lor, 1) := dk_129 (by decide +kernel)
theorem dX1_addGreater_109 : decode cX1_addGreater 109 = .ok (.lastore, 1) := dk_80 (by decide +kernel)
theorem dX1_addGreater_110 : decode cX1_addGreater 110 = .ok (.iinc 2 1, 3) := dk_132 (x := 2) (y := 1) (by decide +kernel) rfl
theorem dX1_addGreater_113 : decode cX1_addGreater 113 = .ok (.goto (-34), 3) := dk_167 (x := 255) (y := 222) (by decide +kernel) rfl
theorem dX1_addGreater_116 : decode cX1_addGreater 116 = .ok (.iload_n 1, 1) := dk_27 (by decide +kernel)
theorem dX1_addGreater_117 : decode cX1_addGreater 117 = .ok (.iconst 2, 1) := dk_5 (by decide +kernel)
theorem dX1_addGreater_118 : decode cX1_addGreater 118 = .ok (.imul, 1) := dk_104 (by decide +kernel)
theorem dX1_addGreater_119 : decode cX1_addGreater 119 = .ok (.istore_n 1, 1) := dk_60 (by decide +kernel)
theorem dX1_addGreater_120 : decode cX1_addGreater 120 = .ok (.goto (-51), 3) := dk_167 (x := 255) (y := 205) (by decide +kernel) rfl
theorem dX1_addGreater_123 : decode cX1_addGreater 123 = .ok (.return_, 1) := dk_177 (by decide +kernel)
def f_X1_addGreater_79 (k_69 : Nat → Int32 → Mem → Option Mem) : Nat → Nat → Int32 → Int32 → Mem → Option Mem
  | 0, _, _, _, _ => none
  | n + 1, v0, v1, v2, M =>
    chk (isO M 1 v0) <|
    if (mI M v0 2) ≤ v2 then (
      bnd (v1 * (2 : Int32)) fun x4 =>
      k_69 v0 x4 M
      ) else (
      if (v2 &&& v1) = 0 then (
        bnd (v2 + (1 : Int32)) fun x8 =>
        f_X1_addGreater_79 k_69 n v0 v1 x8 M
        ) else (
        bnd (mR M v0 0) fun o10 =>
        chk (isO M 101 o10) <|
        chk (inB v2 (mLn M o10)) <|
        bnd (mR M v0 0) fun o14 =>
        chk (isO M 101 o14) <|
        chk (inB (v2 ^^^ v1) (mLn M o14)) <|
        chk (inB v2 (mLn M o10)) <|
        bnd (sL M o10 (v2).toNatClampNeg ((mL M o10 (v2).toNatClampNeg) ||| (mL M o14 ((v2 ^^^ v1)).toNatClampNeg))) fun M19 =>
        bnd (v2 + (1 : Int32)) fun x24 =>
        f_X1_addGreater_79 k_69 n v0 v1 x24 M19
        )
      )
def f_X1_addGreater_69 : Nat → Nat → Int32 → Mem → Option Mem
  | 0, _, _, _ => none
  | n + 1, v0, v1, M =>
    chk (isO M 1 v0) <|
    if (mI M v0 2) ≤ v1 then (
      some M
      ) else (
      f_X1_addGreater_79 (f_X1_addGreater_69 n) n v0 v1 (0 : Int32) M
      )
def f_X1_addGreater_18 (k_2 : Nat → Int32 → Mem → Option Mem) : Nat → Nat → Int32 → Int32 → Mem → Option Mem
  | 0, _, _, _, _ => none
  | n + 1, v0, v1, v2, M =>
    chk (isO M 1 v0) <|
    if (mI M v0 2) ≤ v2 then (
      bnd (v1 + (1 : Int32)) fun x4 =>
      k_2 v0 x4 M
      ) else (
      bnd (mR M v0 0) fun o6 =>
      chk (isO M 101 o6) <|
      chk (inB v2 (mLn M o6)) <|
      bnd (mR M v0 0) fun o10 =>
      chk (isO M 101 o10) <|
      chk (inB v2 (mLn M o10)) <|
      chk (inB v1 6) <|
      chk (inB v2 (mLn M o6)) <|
      bnd (sL M o6 (v2).toNatClampNeg ((mL M o6 (v2).toNatClampNeg) ||| (((mL M o10 (v2).toNatClampNeg) &&& ((l_HV (v1).toNatClampNeg) ^^^ (-1 : Int64))) <<< ((((1 : Int32) <<< (v1 &&& 31))).toInt64 &&& 63)))) fun M16 =>
      bnd (v2 + (1 : Int32)) fun x21 =>
      f_X1_addGreater_18 k_2 n v0 v1 x21 M16
      )
def f_X1_addGreater_2 : Nat → Nat → Int32 → Mem → Option Mem
  | 0, _, _, _ => none
  | n + 1, v0, v1, M =>
    if (6 : Int32) ≤ v1 then (
      f_X1_addGreater_69 n v0 (1 : Int32) M
      ) else (
      chk (isO M 1 v0) <|
      if (mI M v0 1) ≤ v1 then (
        f_X1_addGreater_69 n v0 (1 : Int32) M
        ) else (
        f_X1_addGreater_18 (f_X1_addGreater_2 n) n v0 v1 (0 : Int32) M
        )
      )
def f_X1_addGreater (n : Nat) (o : Nat) (M : Mem) : Option Mem :=
  f_X1_addGreater_2 n o (0 : Int32) M
theorem cd_X1_addGreater : (yX1_addGreater.cls ≠ "java/lang/invoke/MethodHandle" ∧ yX1_addGreater.cls ≠ "java/lang/invoke/VarHandle") ∧ (parseMethodDescriptor yX1_addGreater.desc).map (fun d => d.parameters.length) = some 0 := ⟨⟨by decide +kernel, by decide +kernel⟩, by decide +kernel⟩
section
variable {p : Program} {l : Launch} {e : Env} {R : Room} {s : State} {m : MethodId} {args : Array Value} {below : List Frame} {meth : Method} {c : Code} {G : Gam} {M0 : Mem}
theorem l_X1_addGreater_79 {k_69 : Nat → Int32 → Mem → Option Mem} {rv : Mem} (X : Cx p R s m args c G M0 cX1_addGreater yX1_addGreater.cls 3 0 0) (hr : meth.sig.returnType = none) (hlk : meth.locks = false) (hnm : meth.name = "addGreater") (hk_69 : ∀ (v0 : Nat), ∀ (v1 : Int32), ∀ M : Mem, k_69 v0 v1 M = some rv → Sg p l e R s m args below meth c (Qm below G args s none M0 rv) G M0 3 69 [(0, .ref (gB G + v0)), (1, .int v1)] [] M) : ∀ {n : Nat} (v0 : Nat) (v1 : Int32) (v2 : Int32) (M : Mem), f_X1_addGreater_79 k_69 n v0 v1 v2 M = some rv → Sg p l e R s m args below meth c (Qm below G args s none M0 rv) G M0 3 79 [(0, .ref (gB G + v0)), (1, .int v1), (2, .int v2)] [] M := by
  intro n
  induction n with
  | zero => intro v0 v1 v2 M hf; exact (pk_none hf).elim
  | succ n ih =>
    intro v0 v1 v2 M hf
    rw [f_X1_addGreater_79] at hf
    refine s_iload_n X 2 dX1_addGreater_79 rfl rfl ?_
    refine s_aload_n X 0 dX1_addGreater_80 rfl rfl ?_
    obtain ⟨h1, hf⟩ := pk_chk hf
    refine s_getI X (ci := 1) (k := 2) rfl (Nat.le_of_ble_eq_true rfl) h1 wd199 (fun _ _ _ => rfl) dX1_addGreater_81 ?_
    have hs2 := pk_ite hf
    clear hf
    refine s_icmp_ge X (tgt := 116) dX1_addGreater_84 rfl (fun c3 => ?_) (fun c3 => ?_)
    · have hf := hs2.1 c3
      refine s_iload_n X 1 dX1_addGreater_116 rfl rfl ?_
      refine s_iconst X (v := (2 : Int32)) dX1_addGreater_117 rfl ?_
      refine s_imul X dX1_addGreater_118 ?_
      obtain ⟨x4, e5, hf⟩ := pk_bnd hf
      refine s_nmI e5 ?_
      refine s_istore_n X (vs' := [(0, .ref (gB G + v0)), (1, .int x4), (2, .int v2)]) dX1_addGreater_119 rfl (Nat.le_of_ble_eq_true rfl) [1, 0, 2] rfl ?_
      refine s_goto X (tgt := 69) dX1_addGreater_120 rfl ?_
      refine s_drop [0, 1] (vs' := [(0, .ref (gB G + v0)), (1, .int x4)]) rfl ?_
      exact hk_69 _ _ _ hf
    · have hf := hs2.2 c3
      refine s_iload_n X 2 dX1_addGreater_87 rfl rfl ?_
      refine s_iload_n X 1 dX1_addGreater_88 rfl rfl ?_
      refine s_iand X dX1_addGreater_89 ?_
      have hs6 := pk_ite hf
      clear hf
      refine s_if_eq X (tgt := 110) dX1_addGreater_90 rfl (fun c7 => ?_) (fun c7 => ?_)
      · have hf := hs6.1 c7
        obtain ⟨x8, e9, hf⟩ := pk_bnd hf
        refine s_iinc X (vs' := [(0, .ref (gB G + v0)), (1, .int v1), (2, .int x8)]) 2 dX1_addGreater_110 rfl (v := x8) e9.symm (Nat.le_of_ble_eq_true rfl) [1, 2, 0] rfl ?_
        refine s_goto X (tgt := 79) dX1_addGreater_113 rfl ?_
        exact ih _ _ _ _ hf
      · have hf := hs6.2 c7
        refine s_aload_n X 0 dX1_addGreater_93 rfl rfl ?_
        obtain ⟨o10, e11, hf⟩ := pk_bnd hf
        obtain ⟨h12, hf⟩ := pk_chk hf
        refine s_getR X (ci := 1) (k := 0) rfl (Nat.le_of_ble_eq_true rfl) h1 wd197 (fun _ _ _ => rfl) (e11 ▸ h12) dX1_addGreater_94 (e11 ▸ ?_)
        refine s_iload_n X 2 dX1_addGreater_97 rfl rfl ?_
        refine s_dup2 X dX1_addGreater_98 rfl rfl ?_
        obtain ⟨h13, hf⟩ := pk_chk hf
        refine s_lald X h12 h13 dX1_addGreater_99 ?_
        refine s_aload_n X 0 dX1_addGreater_100 rfl rfl ?_
        obtain ⟨o14, e15, hf⟩ := pk_bnd hf
        obtain ⟨h16, hf⟩ := pk_chk hf
        refine s_getR X (ci := 1) (k := 0) rfl (Nat.le_of_ble_eq_true rfl) h1 wd197 (fun _ _ _ => rfl) (e15 ▸ h16) dX1_addGreater_101 (e15 ▸ ?_)
        refine s_iload_n X 2 dX1_addGreater_104 rfl rfl ?_
        refine s_iload_n X 1 dX1_addGreater_105 rfl rfl ?_
        refine s_ixor X dX1_addGreater_106 ?_
        obtain ⟨h17, hf⟩ := pk_chk hf
        refine s_lald X h16 h17 dX1_addGreater_107 ?_
        refine s_lor X dX1_addGreater_108 ?_
        obtain ⟨h18, hf⟩ := pk_chk hf
        obtain ⟨M19, e20, hf⟩ := pk_bnd hf
        refine s_last X h12 h18 e20 dX1_addGreater_109 ?_
        have h21 := io_sL e20 h1
        have h22 := io_sL e20 h12
        have h23 := io_sL e20 h16
        obtain ⟨x24, e25, hf⟩ := pk_bnd hf
        refine s_iinc X (vs' := [(0, .ref (gB G + v0)), (1, .int v1), (2, .int x24)]) 2 dX1_addGreater_110 rfl (v := x24) e25.symm (Nat.le_of_ble_eq_true rfl) [1, 2, 0] rfl ?_
        refine s_goto X (tgt := 79) dX1_addGreater_113 rfl ?_
        exact ih _ _ _ _ hf
theorem l_X1_addGreater_69 {rv : Mem} (X : Cx p R s m args c G M0 cX1_addGreater yX1_addGreater.cls 3 0 0) (hr : meth.sig.returnType = none) (hlk : meth.locks = false) (hnm : meth.name = "addGreater") : ∀ {n : Nat} (v0 : Nat) (v1 : Int32) (M : Mem), f_X1_addGreater_69 n v0 v1 M = some rv → Sg p l e R s m args below meth c (Qm below G args s none M0 rv) G M0 3 69 [(0, .ref (gB G + v0)), (1, .int v1)] [] M := by
  intro n
  induction n with
  | zero => intro v0 v1 M hf; exact (pk_none hf).elim
  | succ n ih =>
    intro v0 v1 M hf
    rw [f_X1_addGreater_69] at hf
    refine s_iload_n X 1 dX1_addGreater_69 rfl rfl ?_
    refine s_aload_n X 0 dX1_addGreater_70 rfl rfl ?_
    obtain ⟨h1, hf⟩ := pk_chk hf
    refine s_getI X (ci := 1) (k := 2) rfl (Nat.le_of_ble_eq_true rfl) h1 wd199 (fun _ _ _ => rfl) dX1_addGreater_71 ?_
    have hs2 := pk_ite hf
    clear hf
    refine s_icmp_ge X (tgt := 123) dX1_addGreater_74 rfl (fun c3 => ?_) (fun c3 => ?_)
    · have hf := hs2.1 c3
      cases hf
      exact s_vret X hr hlk dX1_addGreater_123
    · have hf := hs2.2 c3
      refine s_iconst X (v := (0 : Int32)) dX1_addGreater_77 rfl ?_
      refine s_istore_n X (vs' := [(0, .ref (gB G + v0)), (1, .int v1), (2, .int (0 : Int32))]) dX1_addGreater_78 rfl (Nat.le_of_ble_eq_true rfl) [1, 2, 0] rfl ?_
      exact l_X1_addGreater_79 X hr hlk hnm ih _ _ _ _ hf
theorem l_X1_addGreater_18 {k_2 : Nat → Int32 → Mem → Option Mem} {rv : Mem} (X : Cx p R s m args c G M0 cX1_addGreater yX1_addGreater.cls 3 0 0) (hr : meth.sig.returnType = none) (hlk : meth.locks = false) (hnm : meth.name = "addGreater") (hk_2 : ∀ (v0 : Nat), ∀ (v1 : Int32), ∀ M : Mem, k_2 v0 v1 M = some rv → Sg p l e R s m args below meth c (Qm below G args s none M0 rv) G M0 3 2 [(0, .ref (gB G + v0)), (1, .int v1)] [] M) : ∀ {n : Nat} (v0 : Nat) (v1 : Int32) (v2 : Int32) (M : Mem), f_X1_addGreater_18 k_2 n v0 v1 v2 M = some rv → Sg p l e R s m args below meth c (Qm below G args s none M0 rv) G M0 3 18 [(0, .ref (gB G + v0)), (1, .int v1), (2, .int v2)] [] M := by
  intro n
  induction n with
  | zero => intro v0 v1 v2 M hf; exact (pk_none hf).elim
  | succ n ih =>
    intro v0 v1 v2 M hf
    rw [f_X1_addGreater_18] at hf
    refine s_iload_n X 2 dX1_addGreater_18 rfl rfl ?_
    refine s_aload_n X 0 dX1_addGreater_19 rfl rfl ?_
    obtain ⟨h1, hf⟩ := pk_chk hf
    refine s_getI X (ci := 1) (k := 2) rfl (Nat.le_of_ble_eq_true rfl) h1 wd199 (fun _ _ _ => rfl) dX1_addGreater_20 ?_
    have hs2 := pk_ite hf
    clear hf
    refine s_icmp_ge X (tgt := 61) dX1_addGreater_23 rfl (fun c3 => ?_) (fun c3 => ?_)
    · have hf := hs2.1 c3
      obtain ⟨x4, e5, hf⟩ := pk_bnd hf
      refine s_iinc X (vs' := [(0, .ref (gB G + v0)), (1, .int x4), (2, .int v2)]) 1 dX1_addGreater_61 rfl (v := x4) e5.symm (Nat.le_of_ble_eq_true rfl) [1, 0, 2] rfl ?_
      refine s_goto X (tgt := 2) dX1_addGreater_64 rfl ?_
      refine s_drop [0, 1] (vs' := [(0, .ref (gB G + v0)), (1, .int x4)]) rfl ?_
      exact hk_2 _ _ _ hf
    · have hf := hs2.2 c3
      refine s_aload_n X 0 dX1_addGreater_26 rfl rfl ?_
      obtain ⟨o6, e7, hf⟩ := pk_bnd hf
      obtain ⟨h8, hf⟩ := pk_chk hf
      refine s_getR X (ci := 1) (k := 0) rfl (Nat.le_of_ble_eq_true rfl) h1 wd197 (fun _ _ _ => rfl) (e7 ▸ h8) dX1_addGreater_27 (e7 ▸ ?_)
      refine s_iload_n X 2 dX1_addGreater_30 rfl rfl ?_
      refine s_dup2 X dX1_addGreater_31 rfl rfl ?_
      obtain ⟨h9, hf⟩ := pk_chk hf
      refine s_lald X h8 h9 dX1_addGreater_32 ?_
      refine s_aload_n X 0 dX1_addGreater_33 rfl rfl ?_
      obtain ⟨o10, e11, hf⟩ := pk_bnd hf
      obtain ⟨h12, hf⟩ := pk_chk hf
      refine s_getR X (ci := 1) (k := 0) rfl (Nat.le_of_ble_eq_true rfl) h1 wd197 (fun _ _ _ => rfl) (e11 ▸ h12) dX1_addGreater_34 (e11 ▸ ?_)
      refine s_iload_n X 2 dX1_addGreater_37 rfl rfl ?_
      obtain ⟨h13, hf⟩ := pk_chk hf
      refine s_lald X h12 h13 dX1_addGreater_38 ?_
      refine s_gets X (X.2.2.2.2.2.2.1.2.2.2.1.1) wd819 dX1_addGreater_39 ?_
      refine s_iload_n X 1 dX1_addGreater_42 rfl rfl ?_
      obtain ⟨h14, hf⟩ := pk_chk hf
      refine s_stl X (X.2.2.2.2.2.2.1.2.2.2.1.2) h14 dX1_addGreater_43 ?_
      refine s_ldc2 X (v := (-1 : Int64)) dX1_addGreater_44 wd821 ?_
      refine s_lxor X dX1_addGreater_47 ?_
      refine s_land X dX1_addGreater_48 ?_
      refine s_iconst X (v := (1 : Int32)) dX1_addGreater_49 rfl ?_
      refine s_iload_n X 1 dX1_addGreater_50 rfl rfl ?_
      refine s_ishl X dX1_addGreater_51 ?_
      refine s_lshl X dX1_addGreater_52 rfl ?_
      refine s_lor X dX1_addGreater_53 ?_
      obtain ⟨h15, hf⟩ := pk_chk hf
      obtain ⟨M16, e17, hf⟩ := pk_bnd hf
      refine s_last X h8 h15 e17 dX1_addGreater_54 ?_
      have h18 := io_sL e17 h1
      have h19 := io_sL e17 h8
      have h20 := io_sL e17 h12
      obtain ⟨x21, e22, hf⟩ := pk_bnd hf
      refine s_iinc X (vs' := [(0, .ref (gB G + v0)), (1, .int v1), (2, .int x21)]) 2 dX1_addGreater_55 rfl (v := x21) e22.symm (Nat.le_of_ble_eq_true rfl) [1, 2, 0] rfl ?_
      refine s_goto X (tgt := 18) dX1_addGreater_58 rfl ?_
      exact ih _ _ _ _ hf
theorem l_X1_addGreater_2 {rv : Mem} (X : Cx p R s m args c G M0 cX1_addGreater yX1_addGreater.cls 3 0 0) (hr : meth.sig.returnType = none) (hlk : meth.locks = false) (hnm : meth.name = "addGreater") : ∀ {n : Nat} (v0 : Nat) (v1 : Int32) (M : Mem), f_X1_addGreater_2 n v0 v1 M = some rv → Sg p l e R s m args below meth c (Qm below G args s none M0 rv) G M0 3 2 [(0, .ref (gB G + v0)), (1, .int v1)] [] M := by
  intro n
  induction n with
  | zero => intro v0 v1 M hf; exact (pk_none hf).elim
  | succ n ih =>
    intro v0 v1 M hf
    rw [f_X1_addGreater_2] at hf
    refine s_iload_n X 1 dX1_addGreater_2 rfl rfl ?_
    refine s_bipush X (v := (6 : Int32)) dX1_addGreater_3 rfl ?_
    have hs1 := pk_ite hf
    clear hf
    refine s_icmp_ge X (tgt := 67) dX1_addGreater_5 rfl (fun c2 => ?_) (fun c2 => ?_)
    · have hf := hs1.1 c2
      refine s_iconst X (v := (1 : Int32)) dX1_addGreater_67 rfl ?_
      refine s_istore_n X (vs' := [(0, .ref (gB G + v0)), (1, .int (1 : Int32))]) dX1_addGreater_68 rfl (Nat.le_of_ble_eq_true rfl) [1, 0] rfl ?_
      exact l_X1_addGreater_69 X hr hlk hnm _ _ _ hf
    · have hf := hs1.2 c2
      refine s_iload_n X 1 dX1_addGreater_8 rfl rfl ?_
      refine s_aload_n X 0 dX1_addGreater_9 rfl rfl ?_
      obtain ⟨h3, hf⟩ := pk_chk hf
      refine s_getI X (ci := 1) (k := 1) rfl (Nat.le_of_ble_eq_true rfl) h3 wd198 (fun _ _ _ => rfl) dX1_addGreater_10 ?_
      have hs4 := pk_ite hf
      clear hf
      refine s_icmp_ge X (tgt := 67) dX1_addGreater_13 rfl (fun c5 => ?_) (fun c5 => ?_)
      · have hf := hs4.1 c5
        refine s_iconst X (v := (1 : Int32)) dX1_addGreater_67 rfl ?_
        refine s_istore_n X (vs' := [(0, .ref (gB G + v0)), (1, .int (1 : Int32))]) dX1_addGreater_68 rfl (Nat.le_of_ble_eq_true rfl) [1, 0] rfl ?_
        exact l_X1_addGreater_69 X hr hlk hnm _ _ _ hf
      · have hf := hs4.2 c5
        refine s_iconst X (v := (0 : Int32)) dX1_addGreater_16 rfl ?_
        refine s_istore_n X (vs' := [(0, .ref (gB G + v0)), (1, .int v1), (2, .int (0 : Int32))]) dX1_addGreater_17 rfl (Nat.le_of_ble_eq_true rfl) [1, 2, 0] rfl ?_
        exact l_X1_addGreater_18 X hr hlk hnm ih _ _ _ _ hf
end
theorem k_X1_addGreater (G : Gam) {n : Nat} {o : Nat} {M : Mem} {rv : Mem} (hf : f_X1_addGreater n o M = some rv) : Kt yX1_addGreater cX1_addGreater 3 none 0 0 G [.ref (gB G + o)] M rv none := by
  refine Kt.of (by decide) (Nat.le_of_ble_eq_true rfl) ?_
  intro p l e R s m args below meth c X hr hlk hnm
  refine s_drop [0] (vs' := [(0, .ref (gB G + o))]) rfl ?_
  rw [f_X1_addGreater] at hf
  refine s_iconst X (v := (0 : Int32)) dX1_addGreater_0 rfl ?_
  refine s_istore_n X (vs' := [(0, .ref (gB G + o)), (1, .int (0 : Int32))]) dX1_addGreater_1 rfl (Nat.le_of_ble_eq_true rfl) [1, 0] rfl ?_
  exact l_X1_addGreater_2 X hr hlk hnm _ _ _ hf
theorem dX8_take_0 : decode cX8_take 0 = .ok (.aload_n 0, 1) := dk_42 (by decide +kernel)
theorem dX8_take_1 : decode cX8_take 1 = .ok (.getfield 12, 3) := dk_180 (x := 0) (y := 12) (by decide +kernel) rfl
theorem dX8_take_4 : decode cX8_take 4 = .ok (.aload_n 1, 1) := dk_43 (by decide +kernel)
theorem dX8_take_5 : decode cX8_take 5 = .ok (.getfield 35, 3) := dk_180 (x := 0) (y := 35) (by decide +kernel) rfl
theorem dX8_take_8 : decode cX8_take 8 = .ok (.invokevirtual 41, 3) := dk_182 (x := 0) (y := 41) (by decide +kernel) rfl
theorem dX8_take_11 : decode cX8_take 11 = .ok (.aload_n 0, 1) := dk_42 (by decide +kernel)
theorem dX8_take_12 : decode cX8_take 12 = .ok (.getfield 18, 3) := dk_180 (x := 0) (y := 18) (by decide +kernel) rfl
theorem dX8_take_15 : decode cX8_take 15 = .ok (.aload_n 1, 1) := dk_43 (by decide +kernel)
theorem dX8_take_16 : decode cX8_take 16 = .ok (.getfield 35, 3) := dk_180 (x := 0) (y := 35) (by decide +kernel) rfl
theorem dX8_take_19 : decode cX8_take 19 = .ok (.invokevirtual 41, 3) := dk_182 (x := 0) (y := 41) (by decide +kernel) rfl
theorem dX8_take_22 : decode cX8_take 22 = .ok (.iconst 0, 1) := dk_3 (by decide +kernel)
theorem dX8_take_23 : decode cX8_take 23 = .ok (.istore_n 2, 1) := dk_61 (by decide +kernel)
theorem dX8_take_24 : decode cX8_take 24 = .ok (.iload_n 2, 1) := dk_28 (by decide +kernel)
theorem dX8_take_25 : decode cX8_take 25 = .ok (.aload_n 1, 1) := dk_43 (by decide +kernel)
theorem dX8_take_26 : decode cX8_take 26 = .ok (.getfield 35, 3) := dk_180 (x := 0) (y := 35) (by decide +kernel) rfl
theorem dX8_take_29 : decode cX8_take 29 = .ok (.if_icmp .ge 35, 3) := dk_162 (x := 0) (y := 35) (by decide +kernel) rfl
theorem dX8_take_32 : decode cX8_take 32 = .ok (.aload_n 0, 1) := dk_42 (by decide +kernel)
theorem dX8_take_33 : decode cX8_take 33 = .ok (.getfield 12, 3) := dk_180 (x := 0) (y := 12) (by decide +kernel) rfl
theorem dX8_take_36 : decode cX8_take 36 = .ok (.aload_n 1, 1) := dk_43 (by decide +kernel)
theorem dX8_take_37 : decode cX8_take 37 = .ok (.getfield 45, 3) := dk_180 (x := 0) (y := 45) (by decide +kernel) rfl
theorem dX8_take_40 : decode cX8_take 40 = .ok (.iload_n 2, 1) := dk_28 (by decide +kernel)
theorem dX8_take_41 : decode cX8_take 41 = .ok (.iaload, 1) := dk_46 (by decide +kernel)
theorem dX8_take_42 : decode cX8_take 42 = .ok (.invokevirtual 48, 3) := dk_182 (x := 0) (y := 48) (by decide +kernel) rfl
theorem dX8_take_45 : decode cX8_take 45 = .ok (.aload_n 0, 1) := dk_42 (by decide +kernel)
theorem dX8_take_46 : decode cX8_take 46 = .ok (.getfield 18, 3) := dk_180 (x := 0) (y := 18) (by decide +kernel) rfl
theorem dX8_take_49 : decode cX8_take 49 = .ok (.aload_n 1, 1) := dk_43 (by decide +kernel)
theorem dX8_take_50 : decode cX8_take 50 = .ok (.getfield 45, 3) := dk_180 (x := 0) (y := 45) (by decide +kernel) rfl
theorem dX8_take_53 : decode cX8_take 53 = .ok (.iload_n 2, 1) := dk_28 (by decide +kernel)
theorem dX8_take_54 : decode cX8_take 54 = .ok (.iaload, 1) := dk_46 (by decide +kernel)
theorem dX8_take_55 : decode cX8_take 55 = .ok (.invokevirtual 48, 3) := dk_182 (x := 0) (y := 48) (by decide +kernel) rfl
theorem dX8_take_58 : decode cX8_take 58 = .ok (.iinc 2 1, 3) := dk_132 (x := 2) (y := 1) (by decide +kernel) rfl
theorem dX8_take_61 : decode cX8_take 61 = .ok (.goto (-37), 3) := dk_167 (x := 255) (y := 219) (by decide +kernel) rfl
theorem dX8_take_64 : decode cX8_take 64 = .ok (.aload_n 1, 1) := dk_43 (by decide +kernel)
theorem dX8_take_65 : decode cX8_take 65 = .ok (.getfield 51, 3) := dk_180 (x := 0) (y := 51) (by decide +kernel) rfl
theorem dX8_take_68 : decode cX8_take 68 = .ok (.ifCond .eq 11, 3) := dk_153 (x := 0) (y := 11) (by decide +kernel) rfl
theorem dX8_take_71 : decode cX8_take 71 = .ok (.aload_n 0, 1) := dk_42 (by decide +kernel)
theorem dX8_take_72 : decode cX8_take 72 = .ok (.aload_n 1, 1) := dk_43 (by decide +kernel)
theorem dX8_take_73 : decode cX8_take 73 = .ok (.getfield 35, 3) := dk_180 (x := 0) (y := 35) (by decide +kernel) rfl
theorem dX8_take_76 : decode cX8_take 76 = .ok (.invokevirtual 55, 3) := dk_182 (x := 0) (y := 55) (by decide +kernel) rfl
theorem dX8_take_79 : decode cX8_take 79 = .ok (.aload_n 0, 1) := dk_42 (by decide +kernel)
theorem dX8_take_80 : decode cX8_take 80 = .ok (.getfield 12, 3) := dk_180 (x := 0) (y := 12) (by decide +kernel) rfl
theorem dX8_take_83 : decode cX8_take 83 = .ok (.invokevirtual 58, 3) := dk_182 (x := 0) (y := 58) (by decide +kernel) rfl
theorem dX8_take_86 : decode cX8_take 86 = .ok (.aload_n 0, 1) := dk_42 (by decide +kernel)
theorem dX8_take_87 : decode cX8_take 87 = .ok (.getfield 18, 3) := dk_180 (x := 0) (y := 18) (by decide +kernel) rfl
theorem dX8_take_90 : decode cX8_take 90 = .ok (.invokevirtual 58, 3) := dk_182 (x := 0) (y := 58) (by decide +kernel) rfl
theorem dX8_take_93 : decode cX8_take 93 = .ok (.aload_n 0, 1) := dk_42 (by decide +kernel)
theorem dX8_take_94 : decode cX8_take 94 = .ok (.iconst 1, 1) := dk_4 (by decide +kernel)
theorem dX8_take_95 : decode cX8_take 95 = .ok (.putfield 61, 3) := dk_181 (x := 0) (y := 61) (by decide +kernel) rfl
theorem dX8_take_98 : decode cX8_take 98 = .ok (.return_, 1) := dk_177 (by decide +kernel)
def f_X8_take_79 (n : Nat) (v0 : Nat) (M : Mem) : Option Mem :=
    chk (isO M 8 v0) <|
    bnd (mR M v0 0) fun o2 =>
    chk (isO M 1 o2) <|
    obd (f_X1_addGreater n o2 M) fun M6 =>
    chk (isO M6 8 v0) <|
    bnd (mR M6 v0 1) fun o8 =>
    chk (isO M6 1 o8) <|
    obd (f_X1_addGreater n o8 M6) fun M12 =>
    chk (isO M12 8 v0) <|
    chk (bz (1 : Int32)) <|
    bnd (sI M12 v0 7 (1 : Int32)) fun M14 =>
    some M14
def f_X8_take_24 : Nat → Nat → Nat → Int32 → Mem → Option Mem
  | 0, _, _, _, _ => none
  | n + 1, v0, v1, v2, M =>
    chk (isO M 7 v1) <|
    if (mI M v1 3) ≤ v2 then (
      if (mI M v1 4) = 0 then (
        f_X8_take_79 n v0 M
        ) else (
        chk (isO M 8 v0) <|
        obd (f_X8_addWholes n v0 (mI M v1 3) M) fun M8 =>
        f_X8_take_79 n v0 M8
        )
      ) else (
      chk (isO M 8 v0) <|
      bnd (mR M v0 0) fun o10 =>
      chk (isO M 1 o10) <|
      bnd (mR M v1 0) fun o13 =>
      chk (isO M 100 o13) <|
      chk (inB v2 (mLn M o13)) <|
      obd (f_X1_add o10 (mI M o13 (v2).toNatClampNeg) M) fun M18 =>
      chk (isO M18 8 v0) <|
      bnd (mR M18 v0 1) fun o20 =>
      chk (isO M18 1 o20) <|
      chk (isO M18 7 v1) <|
      bnd (mR M18 v1 0) fun o24 =>
      chk (isO M18 100 o24) <|
      chk (inB v2 (mLn M18 o24)) <|
      obd (f_X1_add o20 (mI M18 o24 (v2).toNatClampNeg) M18) fun M29 =>
      bnd (v2 + (1 : Int32)) fun x30 =>
      f_X8_take_24 n v0 v1 x30 M29
      )
def f_X8_take (n : Nat) (o : Nat) (a1 : Nat) (M : Mem) : Option Mem :=
  chk (isO M 8 o) <|
  bnd (mR M o 0) fun o2 =>
  chk (isO M 1 o2) <|
  chk (isO M 7 a1) <|
  obd (f_X1_begin n o2 (mI M a1 3) M) fun M7 =>
  chk (isO M7 8 o) <|
  bnd (mR M7 o 1) fun o9 =>
  chk (isO M7 1 o9) <|
  chk (isO M7 7 a1) <|
  obd (f_X1_begin n o9 (mI M7 a1 3) M7) fun M14 =>
  f_X8_take_24 n o a1 (0 : Int32) M14
theorem cd_X8_take : (yX8_take.cls ≠ "java/lang/invoke/MethodHandle" ∧ yX8_take.cls ≠ "java/lang/invoke/VarHandle") ∧ (parseMethodDescriptor yX8_take.desc).map (fun d => d.parameters.length) = some 1 := ⟨⟨by decide +kernel, by decide +kernel⟩, by decide +kernel⟩
section
variable {p : Program} {l : Launch} {e : Env} {R : Room} {s : State} {m : MethodId} {args : Array Value} {below : List Frame} {meth : Method} {c : Code} {G : Gam} {M0 : Mem}
theorem l_X8_take_79 {rv : Mem} {n : Nat} {v0 : Nat} {M : Mem} (X : Cx p R s m args c G M0 cX8_take yX8_take.cls 3 3 68) (hr : meth.sig.returnType = none) (hlk : meth.locks = false) (hnm : meth.name = "take") (hf : f_X8_take_79 n v0 M = some rv) : Sg p l e R s m args below meth c (Qm below G args s none M0 rv) G M0 3 79 [(0, .ref (gB G + v0))] [] M := by
  rw [f_X8_take_79] at hf
  refine s_aload_n X 0 dX8_take_79 rfl rfl ?_
  obtain ⟨h1, hf⟩ := pk_chk hf
  obtain ⟨o2, e3, hf⟩ := pk_bnd hf
  obtain ⟨h4, hf⟩ := pk_chk hf
  refine s_getR X (ci := 8) (k := 0) rfl (Nat.le_of_ble_eq_true rfl) h1 wd208 (fun _ _ _ => rfl) (e3 ▸ h4) dX8_take_80 (e3 ▸ ?_)
  obtain ⟨M6, hc5, hf⟩ := pk_obd hf
  refine s_callV X (ci := 1) (k_X1_addGreater G hc5) rfl h4 wd815 wd816 wd817 wd818 wd129 cd_X1_addGreater ⟨Nat.le_of_ble_eq_true rfl, Nat.le_of_ble_eq_true rfl⟩ (Nat.le_of_ble_eq_true rfl) dX8_take_83 ?_
  refine s_aload_n X 0 dX8_take_86 rfl rfl ?_
  obtain ⟨h7, hf⟩ := pk_chk hf
  obtain ⟨o8, e9, hf⟩ := pk_bnd hf
  obtain ⟨h10, hf⟩ := pk_chk hf
  refine s_getR X (ci := 8) (k := 1) rfl (Nat.le_of_ble_eq_true rfl) h7 wd210 (fun _ _ _ => rfl) (e9 ▸ h10) dX8_take_87 (e9 ▸ ?_)
  obtain ⟨M12, hc11, hf⟩ := pk_obd hf
  refine s_callV X (ci := 1) (k_X1_addGreater G hc11) rfl h10 wd815 wd816 wd817 wd818 wd129 cd_X1_addGreater ⟨Nat.le_of_ble_eq_true rfl, Nat.le_of_ble_eq_true rfl⟩ (Nat.le_of_ble_eq_true rfl) dX8_take_90 ?_
  refine s_aload_n X 0 dX8_take_93 rfl rfl ?_
  refine s_iconst X (v := (1 : Int32)) dX8_take_94 rfl ?_
  obtain ⟨h13, hf⟩ := pk_chk hf
  obtain ⟨h16, hf⟩ := pk_chk hf
  obtain ⟨M14, e15, hf⟩ := pk_bnd hf
  refine s_putZ X (ci := 8) (k := 7) rfl (Nat.le_of_ble_eq_true rfl) h13 wd217 (fun _ _ _ => rfl) rfl (bz_n h16) (bz_f h16) rfl e15 dX8_take_95 ?_
  have h17 := io_sI e15 h13
  cases hf
  exact s_vret X hr hlk dX8_take_98
theorem l_X8_take_24 {rv : Mem} (X : Cx p R s m args c G M0 cX8_take yX8_take.cls 3 3 68) (hr : meth.sig.returnType = none) (hlk : meth.locks = false) (hnm : meth.name = "take") : ∀ {n : Nat} (v0 : Nat) (v1 : Nat) (v2 : Int32) (M : Mem), f_X8_take_24 n v0 v1 v2 M = some rv → Sg p l e R s m args below meth c (Qm below G args s none M0 rv) G M0 3 24 [(0, .ref (gB G + v0)), (1, .ref (gB G + v1)), (2, .int v2)] [] M := by
  intro n
  induction n with
  | zero => intro v0 v1 v2 M hf; exact (pk_none hf).elim
  | succ n ih =>
    intro v0 v1 v2 M hf
    rw [f_X8_take_24] at hf
    refine s_iload_n X 2 dX8_take_24 rfl rfl ?_
    refine s_aload_n X 1 dX8_take_25 rfl rfl ?_
    obtain ⟨h1, hf⟩ := pk_chk hf
    refine s_getI X (ci := 7) (k := 3) rfl (Nat.le_of_ble_eq_true rfl) h1 wd165 (fun _ _ _ => rfl) dX8_take_26 ?_
    have hs2 := pk_ite hf
    clear hf
    refine s_icmp_ge X (tgt := 64) dX8_take_29 rfl (fun c3 => ?_) (fun c3 => ?_)
    · have hf := hs2.1 c3
      refine s_aload_n X 1 dX8_take_64 rfl rfl ?_
      refine s_getI X (ci := 7) (k := 4) rfl (Nat.le_of_ble_eq_true rfl) h1 wd171 (fun _ _ _ => rfl) dX8_take_65 ?_
      have hs4 := pk_ite hf
      clear hf
      refine s_if_eq X (tgt := 79) dX8_take_68 rfl (fun c5 => ?_) (fun c5 => ?_)
      · have hf := hs4.1 c5
        refine s_drop [0] (vs' := [(0, .ref (gB G + v0))]) rfl ?_
        exact l_X8_take_79 X hr hlk hnm hf
      · have hf := hs4.2 c5
        refine s_aload_n X 0 dX8_take_71 rfl rfl ?_
        refine s_aload_n X 1 dX8_take_72 rfl rfl ?_
        refine s_getI X (ci := 7) (k := 3) rfl (Nat.le_of_ble_eq_true rfl) h1 wd165 (fun _ _ _ => rfl) dX8_take_73 ?_
        obtain ⟨h6, hf⟩ := pk_chk hf
        obtain ⟨M8, hc7, hf⟩ := pk_obd hf
        refine s_callV X (ci := 8) (k_X8_addWholes G hc7) rfl h6 wd803 wd805 wd6 wd806 wd128 cd_X8_addWholes ⟨Nat.le_of_ble_eq_true rfl, Nat.le_of_ble_eq_true rfl⟩ (Nat.le_of_ble_eq_true rfl) dX8_take_76 ?_
        refine s_drop [0] (vs' := [(0, .ref (gB G + v0))]) rfl ?_
        exact l_X8_take_79 X hr hlk hnm hf
    · have hf := hs2.2 c3
      refine s_aload_n X 0 dX8_take_32 rfl rfl ?_
      obtain ⟨h9, hf⟩ := pk_chk hf
      obtain ⟨o10, e11, hf⟩ := pk_bnd hf
      obtain ⟨h12, hf⟩ := pk_chk hf
      refine s_getR X (ci := 8) (k := 0) rfl (Nat.le_of_ble_eq_true rfl) h9 wd208 (fun _ _ _ => rfl) (e11 ▸ h12) dX8_take_33 (e11 ▸ ?_)
      refine s_aload_n X 1 dX8_take_36 rfl rfl ?_
      obtain ⟨o13, e14, hf⟩ := pk_bnd hf
      obtain ⟨h15, hf⟩ := pk_chk hf
      refine s_getR X (ci := 7) (k := 0) rfl (Nat.le_of_ble_eq_true rfl) h1 wd160 (fun _ _ _ => rfl) (e14 ▸ h15) dX8_take_37 (e14 ▸ ?_)
      refine s_iload_n X 2 dX8_take_40 rfl rfl ?_
      obtain ⟨h16, hf⟩ := pk_chk hf
      refine s_iald X h15 h16 dX8_take_41 ?_
      obtain ⟨M18, hc17, hf⟩ := pk_obd hf
      refine s_callV X (ci := 1) (k_X1_add G hc17) rfl h12 wd799 wd800 wd801 wd802 wd129 cd_X1_add ⟨Nat.le_of_ble_eq_true rfl, Nat.le_of_ble_eq_true rfl⟩ (Nat.le_of_ble_eq_true rfl) dX8_take_42 ?_
      refine s_aload_n X 0 dX8_take_45 rfl rfl ?_
      obtain ⟨h19, hf⟩ := pk_chk hf
      obtain ⟨o20, e21, hf⟩ := pk_bnd hf
      obtain ⟨h22, hf⟩ := pk_chk hf
      refine s_getR X (ci := 8) (k := 1) rfl (Nat.le_of_ble_eq_true rfl) h19 wd210 (fun _ _ _ => rfl) (e21 ▸ h22) dX8_take_46 (e21 ▸ ?_)
      refine s_aload_n X 1 dX8_take_49 rfl rfl ?_
      obtain ⟨h23, hf⟩ := pk_chk hf
      obtain ⟨o24, e25, hf⟩ := pk_bnd hf
      obtain ⟨h26, hf⟩ := pk_chk hf
      refine s_getR X (ci := 7) (k := 0) rfl (Nat.le_of_ble_eq_true rfl) h23 wd160 (fun _ _ _ => rfl) (e25 ▸ h26) dX8_take_50 (e25 ▸ ?_)
      refine s_iload_n X 2 dX8_take_53 rfl rfl ?_
      obtain ⟨h27, hf⟩ := pk_chk hf
      refine s_iald X h26 h27 dX8_take_54 ?_
      obtain ⟨M29, hc28, hf⟩ := pk_obd hf
      refine s_callV X (ci := 1) (k_X1_add G hc28) rfl h22 wd799 wd800 wd801 wd802 wd129 cd_X1_add ⟨Nat.le_of_ble_eq_true rfl, Nat.le_of_ble_eq_true rfl⟩ (Nat.le_of_ble_eq_true rfl) dX8_take_55 ?_
      obtain ⟨x30, e31, hf⟩ := pk_bnd hf
      refine s_iinc X (vs' := [(0, .ref (gB G + v0)), (1, .ref (gB G + v1)), (2, .int x30)]) 2 dX8_take_58 rfl (v := x30) e31.symm (Nat.le_of_ble_eq_true rfl) [1, 2, 0] rfl ?_
      refine s_goto X (tgt := 24) dX8_take_61 rfl ?_
      exact ih _ _ _ _ hf
end
theorem k_X8_take (G : Gam) {n : Nat} {o : Nat} {a1 : Nat} {M : Mem} {rv : Mem} (hf : f_X8_take n o a1 M = some rv) : Kt yX8_take cX8_take 3 none 3 68 G [.ref (gB G + o), .ref (gB G + a1)] M rv none := by
  refine Kt.of (by decide) (Nat.le_of_ble_eq_true rfl) ?_
  intro p l e R s m args below meth c X hr hlk hnm
  refine s_drop [0, 1] (vs' := [(0, .ref (gB G + o)), (1, .ref (gB G + a1))]) rfl ?_
  rw [f_X8_take] at hf
  refine s_aload_n X 0 dX8_take_0 rfl rfl ?_
  obtain ⟨h1, hf⟩ := pk_chk hf
  obtain ⟨o2, e3, hf⟩ := pk_bnd hf
  obtain ⟨h4, hf⟩ := pk_chk hf
  refine s_getR X (ci := 8) (k := 0) rfl (Nat.le_of_ble_eq_true rfl) h1 wd208 (fun _ _ _ => rfl) (e3 ▸ h4) dX8_take_1 (e3 ▸ ?_)
  refine s_aload_n X 1 dX8_take_4 rfl rfl ?_
  obtain ⟨h5, hf⟩ := pk_chk hf
  refine s_getI X (ci := 7) (k := 3) rfl (Nat.le_of_ble_eq_true rfl) h5 wd165 (fun _ _ _ => rfl) dX8_take_5 ?_
  obtain ⟨M7, hc6, hf⟩ := pk_obd hf
  refine s_callV X (ci := 1) (k_X1_begin G hc6) rfl h4 wd792 wd793 wd794 wd795 wd129 cd_X1_begin ⟨Nat.le_of_ble_eq_true rfl, Nat.le_of_ble_eq_true rfl⟩ (Nat.le_of_ble_eq_true rfl) dX8_take_8 ?_
  refine s_aload_n X 0 dX8_take_11 rfl rfl ?_
  obtain ⟨h8, hf⟩ := pk_chk hf
  obtain ⟨o9, e10, hf⟩ := pk_bnd hf
  obtain ⟨h11, hf⟩ := pk_chk hf
  refine s_getR X (ci := 8) (k := 1) rfl (Nat.le_of_ble_eq_true rfl) h8 wd210 (fun _ _ _ => rfl) (e10 ▸ h11) dX8_take_12 (e10 ▸ ?_)
  refine s_aload_n X 1 dX8_take_15 rfl rfl ?_
  obtain ⟨h12, hf⟩ := pk_chk hf
  refine s_getI X (ci := 7) (k := 3) rfl (Nat.le_of_ble_eq_true rfl) h12 wd165 (fun _ _ _ => rfl) dX8_take_16 ?_
  obtain ⟨M14, hc13, hf⟩ := pk_obd hf
  refine s_callV X (ci := 1) (k_X1_begin G hc13) rfl h11 wd792 wd793 wd794 wd795 wd129 cd_X1_begin ⟨Nat.le_of_ble_eq_true rfl, Nat.le_of_ble_eq_true rfl⟩ (Nat.le_of_ble_eq_true rfl) dX8_take_19 ?_
  refine s_iconst X (v := (0 : Int32)) dX8_take_22 rfl ?_
  refine s_istore_n X (vs' := [(0, .ref (gB G + o)), (1, .ref (gB G + a1)), (2, .int (0 : Int32))]) dX8_take_23 rfl (Nat.le_of_ble_eq_true rfl) [1, 2, 0] rfl ?_
  exact l_X8_take_24 X hr hlk hnm _ _ _ _ hf
theorem dX9_surveyOnce_0 : decode cX9_surveyOnce 0 = .ok (.aload_n 0, 1) := dk_42 (by decide +kernel)
theorem dX9_surveyOnce_1 : decode cX9_surveyOnce 1 = .ok (.getfield 19, 3) := dk_180 (x := 0) (y := 19) (by decide +kernel) rfl
theorem dX9_surveyOnce_4 : decode cX9_surveyOnce 4 = .ok (.getfield 365, 3) := dk_180 (x := 1) (y := 109) (by decide +kernel) rfl
theorem dX9_surveyOnce_7 : decode cX9_surveyOnce 7 = .ok (.ifCond .ne 14, 3) := dk_154 (x := 0) (y := 14) (by decide +kernel) rfl
theorem dX9_surveyOnce_10 : decode cX9_surveyOnce 10 = .ok (.aload_n 0, 1) := dk_42 (by decide +kernel)
theorem dX9_surveyOnce_11 : decode cX9_surveyOnce 11 = .ok (.getfield 19, 3) := dk_180 (x := 0) (y := 19) (by decide +kernel) rfl
theorem dX9_surveyOnce_14 : decode cX9_surveyOnce 14 = .ok (.aload_n 0, 1) := dk_42 (by decide +kernel)
theorem dX9_surveyOnce_15 : decode cX9_surveyOnce 15 = .ok (.getfield 10, 3) := dk_180 (x := 0) (y := 10) (by decide +kernel) rfl
theorem dX9_surveyOnce_18 : decode cX9_surveyOnce 18 = .ok (.invokevirtual 368, 3) := dk_182 (x := 1) (y := 112) (by decide +kernel) rfl
theorem dX9_surveyOnce_21 : decode cX9_surveyOnce 21 = .ok (.return_, 1) := dk_177 (by decide +kernel)
def f_X9_surveyOnce (n : Nat) (o : Nat) (M : Mem) : Option Mem :=
  chk (isO M 9 o) <|
  bnd (mR M o 1) fun o2 =>
  chk (isO M 8 o2) <|
  if (mI M o2 7) = 0 then (
    bnd (mR M o 1) fun o7 =>
    chk (isO M 8 o7) <|
    bnd (mR M o 0) fun o10 =>
    chk (isO M 7 o10) <|
    obd (f_X8_take n o7 o10 M) fun M14 =>
    some M14
    ) else (
    some M
    )
theorem cd_X9_surveyOnce : (yX9_surveyOnce.cls ≠ "java/lang/invoke/MethodHandle" ∧ yX9_surveyOnce.cls ≠ "java/lang/invoke/VarHandle") ∧ (parseMethodDescriptor yX9_surveyOnce.desc).map (fun d => d.parameters.length) = some 0 := ⟨⟨by decide +kernel, by decide +kernel⟩, by decide +kernel⟩
theorem k_X9_surveyOnce (G : Gam) {n : Nat} {o : Nat} {M : Mem} {rv : Mem} (hf : f_X9_surveyOnce n o M = some rv) : Kt yX9_surveyOnce cX9_surveyOnce 1 none 4 90 G [.ref (gB G + o)] M rv none := by
  refine Kt.of (by decide) (Nat.le_of_ble_eq_true rfl) ?_
  intro p l e R s m args below meth c X hr hlk hnm
  refine s_drop [0] (vs' := [(0, .ref (gB G + o))]) rfl ?_
  rw [f_X9_surveyOnce] at hf
  refine s_aload_n X 0 dX9_surveyOnce_0 rfl rfl ?_
  obtain ⟨h1, hf⟩ := pk_chk hf
  obtain ⟨o2, e3, hf⟩ := pk_bnd hf
  obtain ⟨h4, hf⟩ := pk_chk hf
  refine s_getR X (ci := 9) (k := 1) rfl (Nat.le_of_ble_eq_true rfl) h1 wd628 (fun _ _ _ => rfl) (e3 ▸ h4) dX9_surveyOnce_1 (e3 ▸ ?_)
  refine s_getI X (ci := 8) (k := 7) rfl (Nat.le_of_ble_eq_true rfl) h4 wd218 (fun _ _ _ => rfl) dX9_surveyOnce_4 ?_
  have hs5 := pk_ite hf
  clear hf
  refine s_if_ne X (tgt := 21) dX9_surveyOnce_7 rfl (fun c6 => ?_) (fun c6 => ?_)
  · have hf := hs5.2 c6
    cases hf
    exact s_vret X hr hlk dX9_surveyOnce_21
  · have hf := hs5.1 c6
    refine s_aload_n X 0 dX9_surveyOnce_10 rfl rfl ?_
    obtain ⟨o7, e8, hf⟩ := pk_bnd hf
    obtain ⟨h9, hf⟩ := pk_chk hf
    refine s_getR X (ci := 9) (k := 1) rfl (Nat.le_of_ble_eq_true rfl) h1 wd628 (fun _ _ _ => rfl) (e8 ▸ h9) dX9_surveyOnce_11 (e8 ▸ ?_)
    refine s_aload_n X 0 dX9_surveyOnce_14 rfl rfl ?_
    obtain ⟨o10, e11, hf⟩ := pk_bnd hf
    obtain ⟨h12, hf⟩ := pk_chk hf
    refine s_getR X (ci := 9) (k := 0) rfl (Nat.le_of_ble_eq_true rfl) h1 wd627 (fun _ _ _ => rfl) (e11 ▸ h12) dX9_surveyOnce_15 (e11 ▸ ?_)
    obtain ⟨M14, hc13, hf⟩ := pk_obd hf
    refine s_callV X (ci := 8) (k_X8_take G hc13) rfl h9 wd788 wd789 wd790 wd791 wd128 cd_X8_take ⟨Nat.le_of_ble_eq_true rfl, Nat.le_of_ble_eq_true rfl⟩ (Nat.le_of_ble_eq_true rfl) dX9_surveyOnce_18 ?_
    cases hf
    exact s_vret X hr hlk dX9_surveyOnce_21
