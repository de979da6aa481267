theorem dX1_withoutRest_0 : decode cX1_withoutRest 0 = .ok (.aload_n 0, 1) := dk_42 (by decide +kernel)
theorem dX1_withoutRest_1 : decode cX1_withoutRest 1 = .ok (.getfield 11, 3) := dk_180 (x := 0) (y := 11) (by decide +kernel) rfl
theorem dX1_withoutRest_4 : decode cX1_withoutRest 4 = .ok (.aload_n 0, 1) := dk_42 (by decide +kernel)
theorem dX1_withoutRest_5 : decode cX1_withoutRest 5 = .ok (.getfield 19, 3) := dk_180 (x := 0) (y := 19) (by decide +kernel) rfl
theorem dX1_withoutRest_8 : decode cX1_withoutRest 8 = .ok (.iconst 1, 1) := dk_4 (by decide +kernel)
theorem dX1_withoutRest_9 : decode cX1_withoutRest 9 = .ok (.isub, 1) := dk_100 (by decide +kernel)
theorem dX1_withoutRest_10 : decode cX1_withoutRest 10 = .ok (.iload_n 1, 1) := dk_27 (by decide +kernel)
theorem dX1_withoutRest_11 : decode cX1_withoutRest 11 = .ok (.isub, 1) := dk_100 (by decide +kernel)
theorem dX1_withoutRest_12 : decode cX1_withoutRest 12 = .ok (.laload, 1) := dk_47 (by decide +kernel)
theorem dX1_withoutRest_13 : decode cX1_withoutRest 13 = .ok (.lstore_n 2, 1) := dk_65 (by decide +kernel)
theorem dX1_withoutRest_14 : decode cX1_withoutRest 14 = .ok (.iconst 0, 1) := dk_3 (by decide +kernel)
theorem dX1_withoutRest_15 : decode cX1_withoutRest 15 = .ok (.istore 4, 2) := dk_54 (x := 4) (by decide +kernel)
theorem dX1_withoutRest_17 : decode cX1_withoutRest 17 = .ok (.iload 4, 2) := dk_21 (x := 4) (by decide +kernel)
theorem dX1_withoutRest_19 : decode cX1_withoutRest 19 = .ok (.bipush 6, 2) := dk_16 (x := 6) (by decide +kernel) rfl
theorem dX1_withoutRest_21 : decode cX1_withoutRest 21 = .ok (.if_icmp .ge 50, 3) := dk_162 (x := 0) (y := 50) (by decide +kernel) rfl
theorem dX1_withoutRest_24 : decode cX1_withoutRest 24 = .ok (.iload 4, 2) := dk_21 (x := 4) (by decide +kernel)
theorem dX1_withoutRest_26 : decode cX1_withoutRest 26 = .ok (.aload_n 0, 1) := dk_42 (by decide +kernel)
theorem dX1_withoutRest_27 : decode cX1_withoutRest 27 = .ok (.getfield 15, 3) := dk_180 (x := 0) (y := 15) (by decide +kernel) rfl
theorem dX1_withoutRest_30 : decode cX1_withoutRest 30 = .ok (.if_icmp .ge 41, 3) := dk_162 (x := 0) (y := 41) (by decide +kernel) rfl
theorem dX1_withoutRest_33 : decode cX1_withoutRest 33 = .ok (.lload_n 2, 1) := dk_32 (by decide +kernel)
theorem dX1_withoutRest_34 : decode cX1_withoutRest 34 = .ok (.getstatic 28, 3) := dk_178 (x := 0) (y := 28) (by decide +kernel) rfl
theorem dX1_withoutRest_37 : decode cX1_withoutRest 37 = .ok (.iload 4, 2) := dk_21 (x := 4) (by decide +kernel)
theorem dX1_withoutRest_39 : decode cX1_withoutRest 39 = .ok (.laload, 1) := dk_47 (by decide +kernel)
theorem dX1_withoutRest_40 : decode cX1_withoutRest 40 = .ok (.land, 1) := dk_127 (by decide +kernel)
theorem dX1_withoutRest_41 : decode cX1_withoutRest 41 = .ok (.iconst 1, 1) := dk_4 (by decide +kernel)
theorem dX1_withoutRest_42 : decode cX1_withoutRest 42 = .ok (.iload 4, 2) := dk_21 (x := 4) (by decide +kernel)
theorem dX1_withoutRest_44 : decode cX1_withoutRest 44 = .ok (.ishl, 1) := dk_120 (by decide +kernel)
theorem dX1_withoutRest_45 : decode cX1_withoutRest 45 = .ok (.lushr, 1) := dk_125 (by decide +kernel)
theorem dX1_withoutRest_46 : decode cX1_withoutRest 46 = .ok (.lload_n 2, 1) := dk_32 (by decide +kernel)
theorem dX1_withoutRest_47 : decode cX1_withoutRest 47 = .ok (.getstatic 28, 3) := dk_178 (x := 0) (y := 28) (by decide +kernel) rfl
theorem dX1_withoutRest_50 : decode cX1_withoutRest 50 = .ok (.iload 4, 2) := dk_21 (x := 4) (by decide +kernel)
theorem dX1_withoutRest_52 : decode cX1_withoutRest 52 = .ok (.laload, 1) := dk_47 (by decide +kernel)
theorem dX1_withoutRest_53 : decode cX1_withoutRest 53 = .ok (.ldc2_w 31, 3) := dk_20 (x := 0) (y := 31) (by decide +kernel) rfl
theorem dX1_withoutRest_56 : decode cX1_withoutRest 56 = .ok (.lxor, 1) := dk_131 (by decide +kernel)
theorem dX1_withoutRest_57 : decode cX1_withoutRest 57 = .ok (.land, 1) := dk_127 (by decide +kernel)
theorem dX1_withoutRest_58 : decode cX1_withoutRest 58 = .ok (.iconst 1, 1) := dk_4 (by decide +kernel)
theorem dX1_withoutRest_59 : decode cX1_withoutRest 59 = .ok (.iload 4, 2) := dk_21 (x := 4) (by decide +kernel)
theorem dX1_withoutRest_61 : decode cX1_withoutRest 61 = .ok (.ishl, 1) := dk_120 (by decide +kernel)
theorem dX1_withoutRest_62 : decode cX1_withoutRest 62 = .ok (.lshl, 1) := dk_121 (by decide +kernel)
theorem dX1_withoutRest_63 : decode cX1_withoutRest 63 = .ok (.lor, 1) := dk_129 (by decide +kernel)
theorem dX1_withoutRest_64 : decode cX1_withoutRest 64 = .ok (.lstore_n 2, 1) := dk_65 (by decide +kernel)
theorem dX1_withoutRest_65 : decode cX1_withoutRest 65 = .ok (.iinc 4 1, 3) := dk_132 (x := 4) (y := 1) (by decide +kernel) rfl
theorem dX1_withoutRest_68 : decode cX1_withoutRest 68 = .ok (.goto (-51), 3) := dk_167 (x := 255) (y := 205) (by decide +kernel) rfl
theorem dX1_withoutRest_71 : decode cX1_withoutRest 71 = .ok (.aload_n 0, 1) := dk_42 (by decide +kernel)
theorem dX1_withoutRest_72 : decode cX1_withoutRest 72 = .ok (.getfield 15, 3) := dk_180 (x := 0) (y := 15) (by decide +kernel) rfl
theorem dX1_withoutRest_75 : decode cX1_withoutRest 75 = .ok (.bipush 6, 2) := dk_16 (x := 6) (by decide +kernel) rfl
theorem dX1_withoutRest_77 : decode cX1_withoutRest 77 = .ok (.if_icmp .ge 16, 3) := dk_162 (x := 0) (y := 16) (by decide +kernel) rfl
theorem dX1_withoutRest_80 : decode cX1_withoutRest 80 = .ok (.lconst 1, 1) := dk_10 (by decide +kernel)
theorem dX1_withoutRest_81 : decode cX1_withoutRest 81 = .ok (.iconst 1, 1) := dk_4 (by decide +kernel)
theorem dX1_withoutRest_82 : decode cX1_withoutRest 82 = .ok (.aload_n 0, 1) := dk_42 (by decide +kernel)
theorem dX1_withoutRest_83 : decode cX1_withoutRest 83 = .ok (.getfield 15, 3) := dk_180 (x := 0) (y := 15) (by decide +kernel) rfl
theorem dX1_withoutRest_86 : decode cX1_withoutRest 86 = .ok (.ishl, 1) := dk_120 (by decide +kernel)
theorem dX1_withoutRest_87 : decode cX1_withoutRest 87 = .ok (.lshl, 1) := dk_121 (by decide +kernel)
theorem dX1_withoutRest_88 : decode cX1_withoutRest 88 = .ok (.lconst 1, 1) := dk_10 (by decide +kernel)
theorem dX1_withoutRest_89 : decode cX1_withoutRest 89 = .ok (.lsub, 1) := dk_101 (by decide +kernel)
theorem dX1_withoutRest_90 : decode cX1_withoutRest 90 = .ok (.goto 6, 3) := dk_167 (x := 0) (y := 6) (by decide +kernel) rfl
theorem dX1_withoutRest_93 : decode cX1_withoutRest 93 = .ok (.ldc2_w 31, 3) := dk_20 (x := 0) (y := 31) (by decide +kernel) rfl
theorem dX1_withoutRest_96 : decode cX1_withoutRest 96 = .ok (.lstore 4, 2) := dk_55 (x := 4) (by decide +kernel)
theorem dX1_withoutRest_98 : decode cX1_withoutRest 98 = .ok (.lload 4, 2) := dk_22 (x := 4) (by decide +kernel)
theorem dX1_withoutRest_100 : decode cX1_withoutRest 100 = .ok (.lload_n 2, 1) := dk_32 (by decide +kernel)
theorem dX1_withoutRest_101 : decode cX1_withoutRest 101 = .ok (.ldc2_w 31, 3) := dk_20 (x := 0) (y := 31) (by decide +kernel) rfl
theorem dX1_withoutRest_104 : decode cX1_withoutRest 104 = .ok (.lxor, 1) := dk_131 (by decide +kernel)
theorem dX1_withoutRest_105 : decode cX1_withoutRest 105 = .ok (.land, 1) := dk_127 (by decide +kernel)
theorem dX1_withoutRest_106 : decode cX1_withoutRest 106 = .ok (.lreturn, 1) := dk_173 (by decide +kernel)
def f_X1_withoutRest_71 (M : Mem) (n : Nat) (v0 : Nat) (v2 : Int64) : Option Int64 :=
    chk (isO M 1 v0) <|
    if (6 : Int32) ≤ (mI M v0 1) then (
      some ((-1 : Int64) &&& (v2 ^^^ (-1 : Int64)))
      ) else (
      bnd (((1 : Int64) <<< ((((1 : Int32) <<< ((mI M v0 1) &&& 31))).toInt64 &&& 63)) - (1 : Int64)) fun x4 =>
      some (x4 &&& (v2 ^^^ (-1 : Int64)))
      )
def f_X1_withoutRest_17 (M : Mem) : Nat → Nat → Int64 → Int32 → Option Int64
  | 0, _, _, _ => none
  | n + 1, v0, v2, v4 =>
    if (6 : Int32) ≤ v4 then (
      f_X1_withoutRest_71 M n v0 v2
      ) else (
      chk (isO M 1 v0) <|
      if (mI M v0 1) ≤ v4 then (
        f_X1_withoutRest_71 M n v0 v2
        ) else (
        chk (inB v4 6) <|
        chk (inB v4 6) <|
        bnd (((((v2 &&& (l_HV (v4).toNatClampNeg))).toUInt64 >>> ((((1 : Int32) <<< (v4 &&& 31))).toInt64.toUInt64 &&& Int64.toUInt64 63)).toInt64) ||| ((v2 &&& ((l_HV (v4).toNatClampNeg) ^^^ (-1 : Int64))) <<< ((((1 : Int32) <<< (v4 &&& 31))).toInt64 &&& 63))) fun x8 =>
        bnd (v4 + (1 : Int32)) fun x10 =>
        f_X1_withoutRest_17 M n v0 x8 x10
        )
      )
def f_X1_withoutRest (n : Nat) (o : Nat) (a1 : Int32) (M : Mem) : Option Int64 :=
  chk (isO M 1 o) <|
  bnd (mR M o 0) fun o2 =>
  chk (isO M 101 o2) <|
  chk (inB (((mI M o 2) - (1 : Int32)) - a1) (mLn M o2)) <|
  bnd (mL M o2 ((((mI M o 2) - (1 : Int32)) - a1)).toNatClampNeg) fun x6 =>
  f_X1_withoutRest_17 M n o x6 (0 : Int32)
theorem cd_X1_withoutRest : (yX1_withoutRest.cls ≠ "java/lang/invoke/MethodHandle" ∧ yX1_withoutRest.cls ≠ "java/lang/invoke/VarHandle") ∧ (parseMethodDescriptor yX1_withoutRest.desc).map (fun d => d.parameters.length) = some 1 := ⟨⟨by decide +kernel, by decide +kernel⟩, by decide +kernel⟩
section
variable {p : Program} {l : Launch} {e : Env} {R : Room} {s : State} {m : MethodId} {args : Array Value} {below : List Frame} {meth : Method} {c : Code} {G : Gam} {M0 : Mem}
theorem l_X1_withoutRest_71 {M : Mem} {rv : Int64} {n : Nat} {v0 : Nat} {v2 : Int64} (X : Cx p R s m args c G M0 cX1_withoutRest yX1_withoutRest.cls 6 0 0) (hr : meth.sig.returnType = (some .long)) (hlk : meth.locks = false) (hnm : meth.name = "withoutRest") (hf : f_X1_withoutRest_71 M n v0 v2 = some rv) : Sg p l e R s m args below meth c (Qm below G args s (some (.long rv)) M0 M) G M0 6 71 [(0, .ref (gB G + v0)), (2, .long v2)] [] M := by
  rw [f_X1_withoutRest_71] at hf
  refine s_aload_n X 0 dX1_withoutRest_71 rfl rfl ?_
  obtain ⟨h1, hf⟩ := pk_chk hf
  refine s_getI X (ci := 1) (k := 1) rfl (Nat.le_of_ble_eq_true rfl) h1 wd198 (fun _ _ _ => rfl) dX1_withoutRest_72 ?_
  refine s_bipush X (v := (6 : Int32)) dX1_withoutRest_75 rfl ?_
  have hs2 := pk_ite hf
  clear hf
  refine s_icmp_ge X (tgt := 93) dX1_withoutRest_77 rfl (fun c3 => ?_) (fun c3 => ?_)
  · have hf := hs2.1 c3
    refine s_ldc2 X (v := (-1 : Int64)) dX1_withoutRest_93 wd821 ?_
    refine s_lstore X (vs' := [(0, .ref (gB G + v0)), (2, .long v2), (4, .long (-1 : Int64))]) dX1_withoutRest_96 (Nat.le_of_ble_eq_true rfl) [1, 2, 0] rfl ?_
    refine s_lload X 2 dX1_withoutRest_98 rfl ?_
    refine s_lload_n X 1 dX1_withoutRest_100 rfl rfl ?_
    refine s_ldc2 X (v := (-1 : Int64)) dX1_withoutRest_101 wd821 ?_
    refine s_lxor X dX1_withoutRest_104 ?_
    refine s_land X dX1_withoutRest_105 ?_
    cases hf
    exact s_lret X hr hlk dX1_withoutRest_106
  · have hf := hs2.2 c3
    refine s_lconst X (v := (1 : Int64)) dX1_withoutRest_80 rfl ?_
    refine s_iconst X (v := (1 : Int32)) dX1_withoutRest_81 rfl ?_
    refine s_aload_n X 0 dX1_withoutRest_82 rfl rfl ?_
    refine s_getI X (ci := 1) (k := 1) rfl (Nat.le_of_ble_eq_true rfl) h1 wd198 (fun _ _ _ => rfl) dX1_withoutRest_83 ?_
    refine s_ishl X dX1_withoutRest_86 ?_
    refine s_lshl X dX1_withoutRest_87 rfl ?_
    refine s_lconst X (v := (1 : Int64)) dX1_withoutRest_88 rfl ?_
    refine s_lsub X dX1_withoutRest_89 ?_
    refine s_goto X (tgt := 96) dX1_withoutRest_90 rfl ?_
    obtain ⟨x4, e5, hf⟩ := pk_bnd hf
    refine s_nmL e5 ?_
    refine s_lstore X (vs' := [(0, .ref (gB G + v0)), (2, .long v2), (4, .long x4)]) dX1_withoutRest_96 (Nat.le_of_ble_eq_true rfl) [1, 2, 0] rfl ?_
    refine s_lload X 2 dX1_withoutRest_98 rfl ?_
    refine s_lload_n X 1 dX1_withoutRest_100 rfl rfl ?_
    refine s_ldc2 X (v := (-1 : Int64)) dX1_withoutRest_101 wd821 ?_
    refine s_lxor X dX1_withoutRest_104 ?_
    refine s_land X dX1_withoutRest_105 ?_
    cases hf
    exact s_lret X hr hlk dX1_withoutRest_106
theorem l_X1_withoutRest_17 {M : Mem} {rv : Int64} (X : Cx p R s m args c G M0 cX1_withoutRest yX1_withoutRest.cls 6 0 0) (hr : meth.sig.returnType = (some .long)) (hlk : meth.locks = false) (hnm : meth.name = "withoutRest") : ∀ {n : Nat} (v0 : Nat) (v2 : Int64) (v4 : Int32), f_X1_withoutRest_17 M n v0 v2 v4 = some rv → Sg p l e R s m args below meth c (Qm below G args s (some (.long rv)) M0 M) G M0 6 17 [(0, .ref (gB G + v0)), (2, .long v2), (4, .int v4)] [] M := by
  intro n
  induction n with
  | zero => intro v0 v2 v4 hf; exact (pk_none hf).elim
  | succ n ih =>
    intro v0 v2 v4 hf
    rw [f_X1_withoutRest_17] at hf
    refine s_iload X 2 dX1_withoutRest_17 rfl ?_
    refine s_bipush X (v := (6 : Int32)) dX1_withoutRest_19 rfl ?_
    have hs1 := pk_ite hf
    clear hf
    refine s_icmp_ge X (tgt := 71) dX1_withoutRest_21 rfl (fun c2 => ?_) (fun c2 => ?_)
    · have hf := hs1.1 c2
      refine s_drop [0, 1] (vs' := [(0, .ref (gB G + v0)), (2, .long v2)]) rfl ?_
      exact l_X1_withoutRest_71 X hr hlk hnm hf
    · have hf := hs1.2 c2
      refine s_iload X 2 dX1_withoutRest_24 rfl ?_
      refine s_aload_n X 0 dX1_withoutRest_26 rfl rfl ?_
      obtain ⟨h3, hf⟩ := pk_chk hf
      refine s_getI X (ci := 1) (k := 1) rfl (Nat.le_of_ble_eq_true rfl) h3 wd198 (fun _ _ _ => rfl) dX1_withoutRest_27 ?_
      have hs4 := pk_ite hf
      clear hf
      refine s_icmp_ge X (tgt := 71) dX1_withoutRest_30 rfl (fun c5 => ?_) (fun c5 => ?_)
      · have hf := hs4.1 c5
        refine s_drop [0, 1] (vs' := [(0, .ref (gB G + v0)), (2, .long v2)]) rfl ?_
        exact l_X1_withoutRest_71 X hr hlk hnm hf
      · have hf := hs4.2 c5
        refine s_lload_n X 1 dX1_withoutRest_33 rfl rfl ?_
        refine s_gets X (X.2.2.2.2.2.2.1.2.2.2.1.1) wd819 dX1_withoutRest_34 ?_
        refine s_iload X 2 dX1_withoutRest_37 rfl ?_
        obtain ⟨h6, hf⟩ := pk_chk hf
        refine s_stl X (X.2.2.2.2.2.2.1.2.2.2.1.2) h6 dX1_withoutRest_39 ?_
        refine s_land X dX1_withoutRest_40 ?_
        refine s_iconst X (v := (1 : Int32)) dX1_withoutRest_41 rfl ?_
        refine s_iload X 2 dX1_withoutRest_42 rfl ?_
        refine s_ishl X dX1_withoutRest_44 ?_
        refine s_lushr X dX1_withoutRest_45 rfl ?_
        refine s_lload_n X 1 dX1_withoutRest_46 rfl rfl ?_
        refine s_gets X (X.2.2.2.2.2.2.1.2.2.2.1.1) wd819 dX1_withoutRest_47 ?_
        refine s_iload X 2 dX1_withoutRest_50 rfl ?_
        obtain ⟨h7, hf⟩ := pk_chk hf
        refine s_stl X (X.2.2.2.2.2.2.1.2.2.2.1.2) h7 dX1_withoutRest_52 ?_
        refine s_ldc2 X (v := (-1 : Int64)) dX1_withoutRest_53 wd821 ?_
        refine s_lxor X dX1_withoutRest_56 ?_
        refine s_land X dX1_withoutRest_57 ?_
        refine s_iconst X (v := (1 : Int32)) dX1_withoutRest_58 rfl ?_
        refine s_iload X 2 dX1_withoutRest_59 rfl ?_
        refine s_ishl X dX1_withoutRest_61 ?_
        refine s_lshl X dX1_withoutRest_62 rfl ?_
        refine s_lor X dX1_withoutRest_63 ?_
        obtain ⟨x8, e9, hf⟩ := pk_bnd hf
        refine s_nmL e9 ?_
        refine s_lstore_n X (vs' := [(0, .ref (gB G + v0)), (2, .long x8), (4, .int v4)]) dX1_withoutRest_64 rfl (Nat.le_of_ble_eq_true rfl) [1, 0, 2] rfl ?_
        obtain ⟨x10, e11, hf⟩ := pk_bnd hf
        refine s_iinc X (vs' := [(0, .ref (gB G + v0)), (2, .long x8), (4, .int x10)]) 2 dX1_withoutRest_65 rfl (v := x10) e11.symm (Nat.le_of_ble_eq_true rfl) [1, 2, 0] rfl ?_
        refine s_goto X (tgt := 17) dX1_withoutRest_68 rfl ?_
        exact ih _ _ _ hf
end
theorem k_X1_withoutRest (G : Gam) {n : Nat} {o : Nat} {a1 : Int32} {M : Mem} {rv : Int64} (hf : f_X1_withoutRest n o a1 M = some rv) : Kt yX1_withoutRest cX1_withoutRest 6 (some .long) 0 0 G [.ref (gB G + o), .int a1] M M (some (.long rv)) := by
  refine Kt.of (by decide) (Nat.le_of_ble_eq_true rfl) ?_
  intro p l e R s m args below meth c X hr hlk hnm
  refine s_drop [0, 1] (vs' := [(0, .ref (gB G + o)), (1, .int a1)]) rfl ?_
  rw [f_X1_withoutRest] at hf
  refine s_aload_n X 0 dX1_withoutRest_0 rfl rfl ?_
  obtain ⟨h1, hf⟩ := pk_chk hf
  obtain ⟨o2, e3, hf⟩ := pk_bnd hf
  obtain ⟨h4, hf⟩ := pk_chk hf
  refine s_getR X (ci := 1) (k := 0) rfl (Nat.le_of_ble_eq_true rfl) h1 wd197 (fun _ _ _ => rfl) (e3 ▸ h4) dX1_withoutRest_1 (e3 ▸ ?_)
  refine s_aload_n X 0 dX1_withoutRest_4 rfl rfl ?_
  refine s_getI X (ci := 1) (k := 2) rfl (Nat.le_of_ble_eq_true rfl) h1 wd199 (fun _ _ _ => rfl) dX1_withoutRest_5 ?_
  refine s_iconst X (v := (1 : Int32)) dX1_withoutRest_8 rfl ?_
  refine s_isub X dX1_withoutRest_9 ?_
  refine s_iload_n X 1 dX1_withoutRest_10 rfl rfl ?_
  refine s_isub X dX1_withoutRest_11 ?_
  obtain ⟨h5, hf⟩ := pk_chk hf
  refine s_lald X h4 h5 dX1_withoutRest_12 ?_
  obtain ⟨x6, e7, hf⟩ := pk_bnd hf
  refine s_nmL e7 ?_
  refine s_lstore_n X (vs' := [(0, .ref (gB G + o)), (1, .int a1), (2, .long x6)]) dX1_withoutRest_13 rfl (Nat.le_of_ble_eq_true rfl) [1, 2, 0] rfl ?_
  refine s_iconst X (v := (0 : Int32)) dX1_withoutRest_14 rfl ?_
  refine s_istore X (vs' := [(0, .ref (gB G + o)), (1, .int a1), (2, .long x6), (4, .int (0 : Int32))]) dX1_withoutRest_15 (Nat.le_of_ble_eq_true rfl) [1, 2, 3, 0] rfl ?_
  refine s_drop [0, 2, 3] (vs' := [(0, .ref (gB G + o)), (2, .long x6), (4, .int (0 : Int32))]) rfl ?_
  exact l_X1_withoutRest_17 X hr hlk hnm _ _ _ hf
theorem dJ6_bitCount_0f7a4_0 : decode cJ6_bitCount_0f7a4 0 = .ok (.iload_n 0, 1) := dk_26 (by decide +kernel)
theorem dJ6_bitCount_0f7a4_1 : decode cJ6_bitCount_0f7a4 1 = .ok (.iload_n 0, 1) := dk_26 (by decide +kernel)
theorem dJ6_bitCount_0f7a4_2 : decode cJ6_bitCount_0f7a4 2 = .ok (.iconst 1, 1) := dk_4 (by decide +kernel)
theorem dJ6_bitCount_0f7a4_3 : decode cJ6_bitCount_0f7a4 3 = .ok (.iushr, 1) := dk_124 (by decide +kernel)
theorem dJ6_bitCount_0f7a4_4 : decode cJ6_bitCount_0f7a4 4 = .ok (.ldc_w 265, 3) := dk_19 (x := 1) (y := 9) (by decide +kernel) rfl
theorem dJ6_bitCount_0f7a4_7 : decode cJ6_bitCount_0f7a4 7 = .ok (.iand, 1) := dk_126 (by decide +kernel)
theorem dJ6_bitCount_0f7a4_8 : decode cJ6_bitCount_0f7a4 8 = .ok (.isub, 1) := dk_100 (by decide +kernel)
theorem dJ6_bitCount_0f7a4_9 : decode cJ6_bitCount_0f7a4 9 = .ok (.istore_n 0, 1) := dk_59 (by decide +kernel)
theorem dJ6_bitCount_0f7a4_10 : decode cJ6_bitCount_0f7a4 10 = .ok (.iload_n 0, 1) := dk_26 (by decide +kernel)
theorem dJ6_bitCount_0f7a4_11 : decode cJ6_bitCount_0f7a4 11 = .ok (.ldc_w 266, 3) := dk_19 (x := 1) (y := 10) (by decide +kernel) rfl
theorem dJ6_bitCount_0f7a4_14 : decode cJ6_bitCount_0f7a4 14 = .ok (.iand, 1) := dk_126 (by decide +kernel)
theorem dJ6_bitCount_0f7a4_15 : decode cJ6_bitCount_0f7a4 15 = .ok (.iload_n 0, 1) := dk_26 (by decide +kernel)
theorem dJ6_bitCount_0f7a4_16 : decode cJ6_bitCount_0f7a4 16 = .ok (.iconst 2, 1) := dk_5 (by decide +kernel)
theorem dJ6_bitCount_0f7a4_17 : decode cJ6_bitCount_0f7a4 17 = .ok (.iushr, 1) := dk_124 (by decide +kernel)
theorem dJ6_bitCount_0f7a4_18 : decode cJ6_bitCount_0f7a4 18 = .ok (.ldc_w 266, 3) := dk_19 (x := 1) (y := 10) (by decide +kernel) rfl
theorem dJ6_bitCount_0f7a4_21 : decode cJ6_bitCount_0f7a4 21 = .ok (.iand, 1) := dk_126 (by decide +kernel)
theorem dJ6_bitCount_0f7a4_22 : decode cJ6_bitCount_0f7a4 22 = .ok (.iadd, 1) := dk_96 (by decide +kernel)
theorem dJ6_bitCount_0f7a4_23 : decode cJ6_bitCount_0f7a4 23 = .ok (.istore_n 0, 1) := dk_59 (by decide +kernel)
theorem dJ6_bitCount_0f7a4_24 : decode cJ6_bitCount_0f7a4 24 = .ok (.iload_n 0, 1) := dk_26 (by decide +kernel)
theorem dJ6_bitCount_0f7a4_25 : decode cJ6_bitCount_0f7a4 25 = .ok (.iload_n 0, 1) := dk_26 (by decide +kernel)
theorem dJ6_bitCount_0f7a4_26 : decode cJ6_bitCount_0f7a4 26 = .ok (.iconst 4, 1) := dk_7 (by decide +kernel)
theorem dJ6_bitCount_0f7a4_27 : decode cJ6_bitCount_0f7a4 27 = .ok (.iushr, 1) := dk_124 (by decide +kernel)
theorem dJ6_bitCount_0f7a4_28 : decode cJ6_bitCount_0f7a4 28 = .ok (.iadd, 1) := dk_96 (by decide +kernel)
theorem dJ6_bitCount_0f7a4_29 : decode cJ6_bitCount_0f7a4 29 = .ok (.ldc_w 267, 3) := dk_19 (x := 1) (y := 11) (by decide +kernel) rfl
theorem dJ6_bitCount_0f7a4_32 : decode cJ6_bitCount_0f7a4 32 = .ok (.iand, 1) := dk_126 (by decide +kernel)
theorem dJ6_bitCount_0f7a4_33 : decode cJ6_bitCount_0f7a4 33 = .ok (.istore_n 0, 1) := dk_59 (by decide +kernel)
theorem dJ6_bitCount_0f7a4_34 : decode cJ6_bitCount_0f7a4 34 = .ok (.iload_n 0, 1) := dk_26 (by decide +kernel)
theorem dJ6_bitCount_0f7a4_35 : decode cJ6_bitCount_0f7a4 35 = .ok (.iload_n 0, 1) := dk_26 (by decide +kernel)
theorem dJ6_bitCount_0f7a4_36 : decode cJ6_bitCount_0f7a4 36 = .ok (.bipush 8, 2) := dk_16 (x := 8) (by decide +kernel) rfl
theorem dJ6_bitCount_0f7a4_38 : decode cJ6_bitCount_0f7a4 38 = .ok (.iushr, 1) := dk_124 (by decide +kernel)
theorem dJ6_bitCount_0f7a4_39 : decode cJ6_bitCount_0f7a4 39 = .ok (.iadd, 1) := dk_96 (by decide +kernel)
theorem dJ6_bitCount_0f7a4_40 : decode cJ6_bitCount_0f7a4 40 = .ok (.istore_n 0, 1) := dk_59 (by decide +kernel)
theorem dJ6_bitCount_0f7a4_41 : decode cJ6_bitCount_0f7a4 41 = .ok (.iload_n 0, 1) := dk_26 (by decide +kernel)
theorem dJ6_bitCount_0f7a4_42 : decode cJ6_bitCount_0f7a4 42 = .ok (.iload_n 0, 1) := dk_26 (by decide +kernel)
theorem dJ6_bitCount_0f7a4_43 : decode cJ6_bitCount_0f7a4 43 = .ok (.bipush 16, 2) := dk_16 (x := 16) (by decide +kernel) rfl
theorem dJ6_bitCount_0f7a4_45 : decode cJ6_bitCount_0f7a4 45 = .ok (.iushr, 1) := dk_124 (by decide +kernel)
theorem dJ6_bitCount_0f7a4_46 : decode cJ6_bitCount_0f7a4 46 = .ok (.iadd, 1) := dk_96 (by decide +kernel)
theorem dJ6_bitCount_0f7a4_47 : decode cJ6_bitCount_0f7a4 47 = .ok (.istore_n 0, 1) := dk_59 (by decide +kernel)
theorem dJ6_bitCount_0f7a4_48 : decode cJ6_bitCount_0f7a4 48 = .ok (.iload_n 0, 1) := dk_26 (by decide +kernel)
theorem dJ6_bitCount_0f7a4_49 : decode cJ6_bitCount_0f7a4 49 = .ok (.bipush 63, 2) := dk_16 (x := 63) (by decide +kernel) rfl
theorem dJ6_bitCount_0f7a4_51 : decode cJ6_bitCount_0f7a4 51 = .ok (.iand, 1) := dk_126 (by decide +kernel)
theorem dJ6_bitCount_0f7a4_52 : decode cJ6_bitCount_0f7a4 52 = .ok (.ireturn, 1) := dk_172 (by decide +kernel)
def f_J6_bitCount_0f7a4 (a1 : Int32) (M : Mem) : Option Int32 :=
  bnd (a1 - ((((a1).toUInt32 >>> (((1 : Int32)).toUInt32 &&& Int32.toUInt32 31)).toInt32) &&& (1431655765 : Int32))) fun x1 =>
  bnd ((x1 &&& (858993459 : Int32)) + ((((x1).toUInt32 >>> (((2 : Int32)).toUInt32 &&& Int32.toUInt32 31)).toInt32) &&& (858993459 : Int32))) fun x3 =>
  bnd ((x3 + (((x3).toUInt32 >>> (((4 : Int32)).toUInt32 &&& Int32.toUInt32 31)).toInt32)) &&& (252645135 : Int32)) fun x5 =>
  bnd (x5 + (((x5).toUInt32 >>> (((8 : Int32)).toUInt32 &&& Int32.toUInt32 31)).toInt32)) fun x7 =>
  bnd (x7 + (((x7).toUInt32 >>> (((16 : Int32)).toUInt32 &&& Int32.toUInt32 31)).toInt32)) fun x9 =>
  some (x9 &&& (63 : Int32))
theorem cd_J6_bitCount_0f7a4 : (yJ6_bitCount_0f7a4.cls ≠ "java/lang/invoke/MethodHandle" ∧ yJ6_bitCount_0f7a4.cls ≠ "java/lang/invoke/VarHandle") ∧ (parseMethodDescriptor yJ6_bitCount_0f7a4.desc).map (fun d => d.parameters.length) = some 1 := ⟨⟨by decide +kernel, by decide +kernel⟩, by decide +kernel⟩
theorem k_J6_bitCount_0f7a4 (G : Gam) {a1 : Int32} {M : Mem} {rv : Int32} (hf : f_J6_bitCount_0f7a4 a1 M = some rv) : Kt yJ6_bitCount_0f7a4 cJ6_bitCount_0f7a4 1 (some .int) 0 0 G [.int a1] M M (some (.int rv)) := by
  refine Kt.of (by decide) (Nat.le_of_ble_eq_true rfl) ?_
  intro p l e R s m args below meth c X hr hlk hnm
  refine s_drop [0] (vs' := [(0, .int a1)]) rfl ?_
  rw [f_J6_bitCount_0f7a4] at hf
  refine s_iload_n X 0 dJ6_bitCount_0f7a4_0 rfl rfl ?_
  refine s_iload_n X 0 dJ6_bitCount_0f7a4_1 rfl rfl ?_
  refine s_iconst X (v := (1 : Int32)) dJ6_bitCount_0f7a4_2 rfl ?_
  refine s_iushr X dJ6_bitCount_0f7a4_3 rfl ?_
  refine s_ldcw X (v := (1431655765 : Int32)) dJ6_bitCount_0f7a4_4 wd833 ?_
  refine s_iand X dJ6_bitCount_0f7a4_7 ?_
  refine s_isub X dJ6_bitCount_0f7a4_8 ?_
  obtain ⟨x1, e2, hf⟩ := pk_bnd hf
  refine s_nmI e2 ?_
  refine s_istore_n X (vs' := [(0, .int x1)]) dJ6_bitCount_0f7a4_9 rfl (Nat.le_of_ble_eq_true rfl) [0] rfl ?_
  refine s_iload_n X 0 dJ6_bitCount_0f7a4_10 rfl rfl ?_
  refine s_ldcw X (v := (858993459 : Int32)) dJ6_bitCount_0f7a4_11 wd834 ?_
  refine s_iand X dJ6_bitCount_0f7a4_14 ?_
  refine s_iload_n X 0 dJ6_bitCount_0f7a4_15 rfl rfl ?_
  refine s_iconst X (v := (2 : Int32)) dJ6_bitCount_0f7a4_16 rfl ?_
  refine s_iushr X dJ6_bitCount_0f7a4_17 rfl ?_
  refine s_ldcw X (v := (858993459 : Int32)) dJ6_bitCount_0f7a4_18 wd834 ?_
  refine s_iand X dJ6_bitCount_0f7a4_21 ?_
  refine s_iadd X dJ6_bitCount_0f7a4_22 ?_
  obtain ⟨x3, e4, hf⟩ := pk_bnd hf
  refine s_nmI e4 ?_
  refine s_istore_n X (vs' := [(0, .int x3)]) dJ6_bitCount_0f7a4_23 rfl (Nat.le_of_ble_eq_true rfl) [0] rfl ?_
  refine s_iload_n X 0 dJ6_bitCount_0f7a4_24 rfl rfl ?_
  refine s_iload_n X 0 dJ6_bitCount_0f7a4_25 rfl rfl ?_
  refine s_iconst X (v := (4 : Int32)) dJ6_bitCount_0f7a4_26 rfl ?_
  refine s_iushr X dJ6_bitCount_0f7a4_27 rfl ?_
  refine s_iadd X dJ6_bitCount_0f7a4_28 ?_
  refine s_ldcw X (v := (252645135 : Int32)) dJ6_bitCount_0f7a4_29 wd835 ?_
  refine s_iand X dJ6_bitCount_0f7a4_32 ?_
  obtain ⟨x5, e6, hf⟩ := pk_bnd hf
  refine s_nmI e6 ?_
  refine s_istore_n X (vs' := [(0, .int x5)]) dJ6_bitCount_0f7a4_33 rfl (Nat.le_of_ble_eq_true rfl) [0] rfl ?_
  refine s_iload_n X 0 dJ6_bitCount_0f7a4_34 rfl rfl ?_
  refine s_iload_n X 0 dJ6_bitCount_0f7a4_35 rfl rfl ?_
  refine s_bipush X (v := (8 : Int32)) dJ6_bitCount_0f7a4_36 rfl ?_
  refine s_iushr X dJ6_bitCount_0f7a4_38 rfl ?_
  refine s_iadd X dJ6_bitCount_0f7a4_39 ?_
  obtain ⟨x7, e8, hf⟩ := pk_bnd hf
  refine s_nmI e8 ?_
  refine s_istore_n X (vs' := [(0, .int x7)]) dJ6_bitCount_0f7a4_40 rfl (Nat.le_of_ble_eq_true rfl) [0] rfl ?_
  refine s_iload_n X 0 dJ6_bitCount_0f7a4_41 rfl rfl ?_
  refine s_iload_n X 0 dJ6_bitCount_0f7a4_42 rfl rfl ?_
  refine s_bipush X (v := (16 : Int32)) dJ6_bitCount_0f7a4_43 rfl ?_
  refine s_iushr X dJ6_bitCount_0f7a4_45 rfl ?_
  refine s_iadd X dJ6_bitCount_0f7a4_46 ?_
  obtain ⟨x9, e10, hf⟩ := pk_bnd hf
  refine s_nmI e10 ?_
  refine s_istore_n X (vs' := [(0, .int x9)]) dJ6_bitCount_0f7a4_47 rfl (Nat.le_of_ble_eq_true rfl) [0] rfl ?_
  refine s_iload_n X 0 dJ6_bitCount_0f7a4_48 rfl rfl ?_
  refine s_bipush X (v := (63 : Int32)) dJ6_bitCount_0f7a4_49 rfl ?_
  refine s_iand X dJ6_bitCount_0f7a4_51 ?_
  cases hf
  exact s_iret X hr hlk dJ6_bitCount_0f7a4_52
theorem dX1_leastStop_0 : decode cX1_leastStop 0 = .ok (.iconst (-1), 1) := dk_2 (by decide +kernel)
theorem dX1_leastStop_1 : decode cX1_leastStop 1 = .ok (.istore_n 1, 1) := dk_60 (by decide +kernel)
theorem dX1_leastStop_2 : decode cX1_leastStop 2 = .ok (.bipush 17, 2) := dk_16 (x := 17) (by decide +kernel) rfl
theorem dX1_leastStop_4 : decode cX1_leastStop 4 = .ok (.istore_n 2, 1) := dk_61 (by decide +kernel)
theorem dX1_leastStop_5 : decode cX1_leastStop 5 = .ok (.iconst 0, 1) := dk_3 (by decide +kernel)
theorem dX1_leastStop_6 : decode cX1_leastStop 6 = .ok (.istore_n 3, 1) := dk_62 (by decide +kernel)
theorem dX1_leastStop_7 : decode cX1_leastStop 7 = .ok (.iload_n 3, 1) := dk_29 (by decide +kernel)
theorem dX1_leastStop_8 : decode cX1_leastStop 8 = .ok (.aload_n 0, 1) := dk_42 (by decide +kernel)
theorem dX1_leastStop_9 : decode cX1_leastStop 9 = .ok (.getfield 19, 3) := dk_180 (x := 0) (y := 19) (by decide +kernel) rfl
theorem dX1_leastStop_12 : decode cX1_leastStop 12 = .ok (.if_icmp .ge 82, 3) := dk_162 (x := 0) (y := 82) (by decide +kernel) rfl
theorem dX1_leastStop_15 : decode cX1_leastStop 15 = .ok (.aload_n 0, 1) := dk_42 (by decide +kernel)
theorem dX1_leastStop_16 : decode cX1_leastStop 16 = .ok (.iload_n 3, 1) := dk_29 (by decide +kernel)
theorem dX1_leastStop_17 : decode cX1_leastStop 17 = .ok (.invokevirtual 33, 3) := dk_182 (x := 0) (y := 33) (by decide +kernel) rfl
theorem dX1_leastStop_20 : decode cX1_leastStop 20 = .ok (.lstore 4, 2) := dk_55 (x := 4) (by decide +kernel)
theorem dX1_leastStop_22 : decode cX1_leastStop 22 = .ok (.iconst 0, 1) := dk_3 (by decide +kernel)
theorem dX1_leastStop_23 : decode cX1_leastStop 23 = .ok (.istore 6, 2) := dk_54 (x := 6) (by decide +kernel)
theorem dX1_leastStop_25 : decode cX1_leastStop 25 = .ok (.iload 6, 2) := dk_21 (x := 6) (by decide +kernel)
theorem dX1_leastStop_27 : decode cX1_leastStop 27 = .ok (.bipush 6, 2) := dk_16 (x := 6) (by decide +kernel) rfl
theorem dX1_leastStop_29 : decode cX1_leastStop 29 = .ok (.if_icmp .gt 59, 3) := dk_163 (x := 0) (y := 59) (by decide +kernel) rfl
theorem dX1_leastStop_32 : decode cX1_leastStop 32 = .ok (.iload_n 3, 1) := dk_29 (by decide +kernel)
theorem dX1_leastStop_33 : decode cX1_leastStop 33 = .ok (.invokestatic 37, 3) := dk_184 (x := 0) (y := 37) (by decide +kernel) rfl
theorem dX1_leastStop_36 : decode cX1_leastStop 36 = .ok (.iload 6, 2) := dk_21 (x := 6) (by decide +kernel)
theorem dX1_leastStop_38 : decode cX1_leastStop 38 = .ok (.iadd, 1) := dk_96 (by decide +kernel)
theorem dX1_leastStop_39 : decode cX1_leastStop 39 = .ok (.istore 7, 2) := dk_54 (x := 7) (by decide +kernel)
theorem dX1_leastStop_41 : decode cX1_leastStop 41 = .ok (.iload 7, 2) := dk_21 (x := 7) (by decide +kernel)
theorem dX1_leastStop_43 : decode cX1_leastStop 43 = .ok (.iload_n 2, 1) := dk_28 (by decide +kernel)
theorem dX1_leastStop_44 : decode cX1_leastStop 44 = .ok (.if_icmp .ge 38, 3) := dk_162 (x := 0) (y := 38) (by decide +kernel) rfl
theorem dX1_leastStop_47 : decode cX1_leastStop 47 = .ok (.lload 4, 2) := dk_22 (x := 4) (by decide +kernel)
theorem dX1_leastStop_49 : decode cX1_leastStop 49 = .ok (.getstatic 43, 3) := dk_178 (x := 0) (y := 43) (by decide +kernel) rfl
theorem dX1_leastStop_52 : decode cX1_leastStop 52 = .ok (.iload 6, 2) := dk_21 (x := 6) (by decide +kernel)
theorem dX1_leastStop_54 : decode cX1_leastStop 54 = .ok (.laload, 1) := dk_47 (by decide +kernel)
theorem dX1_leastStop_55 : decode cX1_leastStop 55 = .ok (.land, 1) := dk_127 (by decide +kernel)
theorem dX1_leastStop_56 : decode cX1_leastStop 56 = .ok (.lconst 0, 1) := dk_9 (by decide +kernel)
theorem dX1_leastStop_57 : decode cX1_leastStop 57 = .ok (.lcmp, 1) := dk_148 (by decide +kernel)
theorem dX1_leastStop_58 : decode cX1_leastStop 58 = .ok (.ifCond .eq 24, 3) := dk_153 (x := 0) (y := 24) (by decide +kernel) rfl
theorem dX1_leastStop_61 : decode cX1_leastStop 61 = .ok (.iload 7, 2) := dk_21 (x := 7) (by decide +kernel)
theorem dX1_leastStop_63 : decode cX1_leastStop 63 = .ok (.istore_n 2, 1) := dk_61 (by decide +kernel)
theorem dX1_leastStop_64 : decode cX1_leastStop 64 = .ok (.iload_n 3, 1) := dk_29 (by decide +kernel)
theorem dX1_leastStop_65 : decode cX1_leastStop 65 = .ok (.bipush 6, 2) := dk_16 (x := 6) (by decide +kernel) rfl
theorem dX1_leastStop_67 : decode cX1_leastStop 67 = .ok (.ishl, 1) := dk_120 (by decide +kernel)
theorem dX1_leastStop_68 : decode cX1_leastStop 68 = .ok (.lload 4, 2) := dk_22 (x := 4) (by decide +kernel)
theorem dX1_leastStop_70 : decode cX1_leastStop 70 = .ok (.getstatic 43, 3) := dk_178 (x := 0) (y := 43) (by decide +kernel) rfl
theorem dX1_leastStop_73 : decode cX1_leastStop 73 = .ok (.iload 6, 2) := dk_21 (x := 6) (by decide +kernel)
theorem dX1_leastStop_75 : decode cX1_leastStop 75 = .ok (.laload, 1) := dk_47 (by decide +kernel)
theorem dX1_leastStop_76 : decode cX1_leastStop 76 = .ok (.land, 1) := dk_127 (by decide +kernel)
theorem dX1_leastStop_77 : decode cX1_leastStop 77 = .ok (.invokestatic 46, 3) := dk_184 (x := 0) (y := 46) (by decide +kernel) rfl
theorem dX1_leastStop_80 : decode cX1_leastStop 80 = .ok (.ior, 1) := dk_128 (by decide +kernel)
theorem dX1_leastStop_81 : decode cX1_leastStop 81 = .ok (.istore_n 1, 1) := dk_60 (by decide +kernel)
theorem dX1_leastStop_82 : decode cX1_leastStop 82 = .ok (.iinc 6 1, 3) := dk_132 (x := 6) (y := 1) (by decide +kernel) rfl
theorem dX1_leastStop_85 : decode cX1_leastStop 85 = .ok (.goto (-60), 3) := dk_167 (x := 255) (y := 196) (by decide +kernel) rfl
theorem dX1_leastStop_88 : decode cX1_leastStop 88 = .ok (.iinc 3 1, 3) := dk_132 (x := 3) (y := 1) (by decide +kernel) rfl
theorem dX1_leastStop_91 : decode cX1_leastStop 91 = .ok (.goto (-84), 3) := dk_167 (x := 255) (y := 172) (by decide +kernel) rfl
theorem dX1_leastStop_94 : decode cX1_leastStop 94 = .ok (.iload_n 1, 1) := dk_27 (by decide +kernel)
theorem dX1_leastStop_95 : decode cX1_leastStop 95 = .ok (.ireturn, 1) := dk_172 (by decide +kernel)
def f_X1_leastStop_25 (k_7 : Nat → Int32 → Int32 → Int32 → Option Int32) (M : Mem) : Nat → Nat → Int32 → Int32 → Int32 → Int64 → Int32 → Option Int32
  | 0, _, _, _, _, _, _ => none
  | n + 1, v0, v1, v2, v3, v4, v6 =>
    if (6 : Int32) < v6 then (
      bnd (v3 + (1 : Int32)) fun x3 =>
      k_7 v0 v1 v2 x3
      ) else (
      obd (f_J6_bitCount_0f7a4 v3 M) fun r6 =>
      bnd (r6 + v6) fun x7 =>
      if v2 ≤ x7 then (
        bnd (v6 + (1 : Int32)) fun x11 =>
        f_X1_leastStop_25 k_7 M n v0 v1 v2 v3 v4 x11
        ) else (
        chk (inB v6 7) <|
        if (lg_cmp (v4 &&& (l_OS (v6).toNatClampNeg)) (0 : Int64)) = 0 then (
          bnd (v6 + (1 : Int32)) fun x16 =>
          f_X1_leastStop_25 k_7 M n v0 v1 v2 v3 v4 x16
          ) else (
          chk (inB v6 7) <|
          obd (f_X9_lowest (v4 &&& (l_OS (v6).toNatClampNeg)) M) fun r20 =>
          bnd ((v3 <<< ((6 : Int32) &&& 31)) ||| r20) fun x21 =>
          bnd (v6 + (1 : Int32)) fun x23 =>
          f_X1_leastStop_25 k_7 M n v0 x21 x7 v3 v4 x23
          )
        )
      )
def f_X1_leastStop_7 (M : Mem) : Nat → Nat → Int32 → Int32 → Int32 → Option Int32
  | 0, _, _, _, _ => none
  | n + 1, v0, v1, v2, v3 =>
    chk (isO M 1 v0) <|
    if (mI M v0 2) ≤ v3 then (
      some v1
      ) else (
      obd (f_X1_withoutRest n v0 v3 M) fun r5 =>
      f_X1_leastStop_25 (f_X1_leastStop_7 M n) M n v0 v1 v2 v3 r5 (0 : Int32)
      )
def f_X1_leastStop (n : Nat) (o : Nat) (M : Mem) : Option Int32 :=
  f_X1_leastStop_7 M n o (-1 : Int32) (17 : Int32) (0 : Int32)
theorem cd_X1_leastStop : (yX1_leastStop.cls ≠ "java/lang/invoke/MethodHandle" ∧ yX1_leastStop.cls ≠ "java/lang/invoke/VarHandle") ∧ (parseMethodDescriptor yX1_leastStop.desc).map (fun d => d.parameters.length) = some 0 := ⟨⟨by decide +kernel, by decide +kernel⟩, by decide +kernel⟩
section
variable {p : Program} {l : Launch} {e : Env} {R : Room} {s : State} {m : MethodId} {args : Array Value} {below : List Frame} {meth : Method} {c : Code} {G : Gam} {M0 : Mem}
theorem l_X1_leastStop_25 {k_7 : Nat → Int32 → Int32 → Int32 → Option Int32} {M : Mem} {rv : Int32} (X : Cx p R s m args c G M0 cX1_leastStop yX1_leastStop.cls 8 2 42) (hr : meth.sig.returnType = (some .int)) (hlk : meth.locks = false) (hnm : meth.name = "leastStop") (hk_7 : ∀ (v0 : Nat), ∀ (v1 : Int32), ∀ (v2 : Int32), ∀ (v3 : Int32), k_7 v0 v1 v2 v3 = some rv → Sg p l e R s m args below meth c (Qm below G args s (some (.int rv)) M0 M) G M0 8 7 [(0, .ref (gB G + v0)), (1, .int v1), (2, .int v2), (3, .int v3)] [] M) : ∀ {n : Nat} (v0 : Nat) (v1 : Int32) (v2 : Int32) (v3 : Int32) (v4 : Int64) (v6 : Int32), f_X1_leastStop_25 k_7 M n v0 v1 v2 v3 v4 v6 = some rv → Sg p l e R s m args below meth c (Qm below G args s (some (.int rv)) M0 M) G M0 8 25 [(0, .ref (gB G + v0)), (1, .int v1), (2, .int v2), (3, .int v3), (4, .long v4), (6, .int v6)] [] M := by
  intro n
  induction n with
  | zero => intro v0 v1 v2 v3 v4 v6 hf; exact (pk_none hf).elim
  | succ n ih =>
    intro v0 v1 v2 v3 v4 v6 hf
    rw [f_X1_leastStop_25] at hf
    refine s_iload X 5 dX1_leastStop_25 rfl ?_
    refine s_bipush X (v := (6 : Int32)) dX1_leastStop_27 rfl ?_
    have hs1 := pk_ite hf
    clear hf
    refine s_icmp_gt X (tgt := 88) dX1_leastStop_29 rfl (fun c2 => ?_) (fun c2 => ?_)
    · have hf := hs1.1 c2
      obtain ⟨x3, e4, hf⟩ := pk_bnd hf
      refine s_iinc X (vs' := [(0, .ref (gB G + v0)), (1, .int v1), (2, .int v2), (3, .int x3), (4, .long v4), (6, .int v6)]) 3 dX1_leastStop_88 rfl (v := x3) e4.symm (Nat.le_of_ble_eq_true rfl) [1, 2, 3, 0, 4, 5] rfl ?_
      refine s_goto X (tgt := 7) dX1_leastStop_91 rfl ?_
      refine s_drop [0, 1, 2, 3] (vs' := [(0, .ref (gB G + v0)), (1, .int v1), (2, .int v2), (3, .int x3)]) rfl ?_
      exact hk_7 _ _ _ _ hf
    · have hf := hs1.2 c2
      refine s_iload_n X 3 dX1_leastStop_32 rfl rfl ?_
      obtain ⟨r6, hc5, hf⟩ := pk_obd hf
      refine s_callS X (k_J6_bitCount_0f7a4 G hc5) wd830 wd831 wd832 wd141 cd_J6_bitCount_0f7a4 ⟨Nat.le_of_ble_eq_true rfl, Nat.le_of_ble_eq_true rfl⟩ (Nat.le_of_ble_eq_true rfl) dX1_leastStop_33 ?_
      refine s_iload X 5 dX1_leastStop_36 rfl ?_
      refine s_iadd X dX1_leastStop_38 ?_
      obtain ⟨x7, e8, hf⟩ := pk_bnd hf
      refine s_nmI e8 ?_
      refine s_istore X (vs' := [(0, .ref (gB G + v0)), (1, .int v1), (2, .int v2), (3, .int v3), (4, .long v4), (6, .int v6), (7, .int x7)]) dX1_leastStop_39 (Nat.le_of_ble_eq_true rfl) [1, 2, 3, 4, 5, 6, 0] rfl ?_
      refine s_iload X 6 dX1_leastStop_41 rfl ?_
      refine s_iload_n X 2 dX1_leastStop_43 rfl rfl ?_
      have hs9 := pk_ite hf
      clear hf
      refine s_icmp_ge X (tgt := 82) dX1_leastStop_44 rfl (fun c10 => ?_) (fun c10 => ?_)
      · have hf := hs9.1 c10
        obtain ⟨x11, e12, hf⟩ := pk_bnd hf
        refine s_iinc X (vs' := [(0, .ref (gB G + v0)), (1, .int v1), (2, .int v2), (3, .int v3), (4, .long v4), (6, .int x11), (7, .int x7)]) 5 dX1_leastStop_82 rfl (v := x11) e12.symm (Nat.le_of_ble_eq_true rfl) [1, 2, 3, 4, 5, 0, 6] rfl ?_
        refine s_goto X (tgt := 25) dX1_leastStop_85 rfl ?_
        refine s_drop [0, 1, 2, 3, 4, 5] (vs' := [(0, .ref (gB G + v0)), (1, .int v1), (2, .int v2), (3, .int v3), (4, .long v4), (6, .int x11)]) rfl ?_
        exact ih _ _ _ _ _ _ hf
      · have hf := hs9.2 c10
        refine s_lload X 4 dX1_leastStop_47 rfl ?_
        refine s_gets X (X.2.2.2.2.2.2.1.2.2.2.2.1) wd836 dX1_leastStop_49 ?_
        refine s_iload X 5 dX1_leastStop_52 rfl ?_
        obtain ⟨h13, hf⟩ := pk_chk hf
        refine s_stl X (X.2.2.2.2.2.2.1.2.2.2.2.2) h13 dX1_leastStop_54 ?_
        refine s_land X dX1_leastStop_55 ?_
        refine s_lconst X (v := (0 : Int64)) dX1_leastStop_56 rfl ?_
        refine s_lcmp X dX1_leastStop_57 ?_
        have hs14 := pk_ite hf
        clear hf
        refine s_if_eq X (tgt := 82) dX1_leastStop_58 rfl (fun c15 => ?_) (fun c15 => ?_)
        · have hf := hs14.1 c15
          obtain ⟨x16, e17, hf⟩ := pk_bnd hf
          refine s_iinc X (vs' := [(0, .ref (gB G + v0)), (1, .int v1), (2, .int v2), (3, .int v3), (4, .long v4), (6, .int x16), (7, .int x7)]) 5 dX1_leastStop_82 rfl (v := x16) e17.symm (Nat.le_of_ble_eq_true rfl) [1, 2, 3, 4, 5, 0, 6] rfl ?_
          refine s_goto X (tgt := 25) dX1_leastStop_85 rfl ?_
          refine s_drop [0, 1, 2, 3, 4, 5] (vs' := [(0, .ref (gB G + v0)), (1, .int v1), (2, .int v2), (3, .int v3), (4, .long v4), (6, .int x16)]) rfl ?_
          exact ih _ _ _ _ _ _ hf
        · have hf := hs14.2 c15
          refine s_iload X 6 dX1_leastStop_61 rfl ?_
          refine s_istore_n X (vs' := [(0, .ref (gB G + v0)), (1, .int v1), (2, .int x7), (3, .int v3), (4, .long v4), (6, .int v6), (7, .int x7)]) dX1_leastStop_63 rfl (Nat.le_of_ble_eq_true rfl) [1, 2, 0, 3, 4, 5, 6] rfl ?_
          refine s_iload_n X 3 dX1_leastStop_64 rfl rfl ?_
          refine s_bipush X (v := (6 : Int32)) dX1_leastStop_65 rfl ?_
          refine s_ishl X dX1_leastStop_67 ?_
          refine s_lload X 4 dX1_leastStop_68 rfl ?_
          refine s_gets X (X.2.2.2.2.2.2.1.2.2.2.2.1) wd836 dX1_leastStop_70 ?_
          refine s_iload X 5 dX1_leastStop_73 rfl ?_
          obtain ⟨h18, hf⟩ := pk_chk hf
          refine s_stl X (X.2.2.2.2.2.2.1.2.2.2.2.2) h18 dX1_leastStop_75 ?_
          refine s_land X dX1_leastStop_76 ?_
          obtain ⟨r20, hc19, hf⟩ := pk_obd hf
          refine s_callSN X (k_X9_lowest G hc19) (host := "QuorumGate") ns_7 wd739 wd740 wd126 cd_X9_lowest ⟨Nat.le_of_ble_eq_true rfl, Nat.le_of_ble_eq_true rfl⟩ (Nat.le_of_ble_eq_true rfl) dX1_leastStop_77 ?_
          refine s_ior X dX1_leastStop_80 ?_
          obtain ⟨x21, e22, hf⟩ := pk_bnd hf
          refine s_nmI e22 ?_
          refine s_istore_n X (vs' := [(0, .ref (gB G + v0)), (1, .int x21), (2, .int x7), (3, .int v3), (4, .long v4), (6, .int v6), (7, .int x7)]) dX1_leastStop_81 rfl (Nat.le_of_ble_eq_true rfl) [1, 0, 2, 3, 4, 5, 6] rfl ?_
          obtain ⟨x23, e24, hf⟩ := pk_bnd hf
          refine s_iinc X (vs' := [(0, .ref (gB G + v0)), (1, .int x21), (2, .int x7), (3, .int v3), (4, .long v4), (6, .int x23), (7, .int x7)]) 5 dX1_leastStop_82 rfl (v := x23) e24.symm (Nat.le_of_ble_eq_true rfl) [1, 2, 3, 4, 5, 0, 6] rfl ?_
          refine s_goto X (tgt := 25) dX1_leastStop_85 rfl ?_
          refine s_drop [0, 1, 2, 3, 4, 5] (vs' := [(0, .ref (gB G + v0)), (1, .int x21), (2, .int x7), (3, .int v3), (4, .long v4), (6, .int x23)]) rfl ?_
          exact ih _ _ _ _ _ _ hf
theorem l_X1_leastStop_7 {M : Mem} {rv : Int32} (X : Cx p R s m args c G M0 cX1_leastStop yX1_leastStop.cls 8 2 42) (hr : meth.sig.returnType = (some .int)) (hlk : meth.locks = false) (hnm : meth.name = "leastStop") : ∀ {n : Nat} (v0 : Nat) (v1 : Int32) (v2 : Int32) (v3 : Int32), f_X1_leastStop_7 M n v0 v1 v2 v3 = some rv → Sg p l e R s m args below meth c (Qm below G args s (some (.int rv)) M0 M) G M0 8 7 [(0, .ref (gB G + v0)), (1, .int v1), (2, .int v2), (3, .int v3)] [] M := by
  intro n
  induction n with
  | zero => intro v0 v1 v2 v3 hf; exact (pk_none hf).elim
  | succ n ih =>
    intro v0 v1 v2 v3 hf
    rw [f_X1_leastStop_7] at hf
    refine s_iload_n X 3 dX1_leastStop_7 rfl rfl ?_
    refine s_aload_n X 0 dX1_leastStop_8 rfl rfl ?_
    obtain ⟨h1, hf⟩ := pk_chk hf
    refine s_getI X (ci := 1) (k := 2) rfl (Nat.le_of_ble_eq_true rfl) h1 wd199 (fun _ _ _ => rfl) dX1_leastStop_9 ?_
    have hs2 := pk_ite hf
    clear hf
    refine s_icmp_ge X (tgt := 94) dX1_leastStop_12 rfl (fun c3 => ?_) (fun c3 => ?_)
    · have hf := hs2.1 c3
      refine s_iload_n X 1 dX1_leastStop_94 rfl rfl ?_
      cases hf
      exact s_iret X hr hlk dX1_leastStop_95
    · have hf := hs2.2 c3
      refine s_aload_n X 0 dX1_leastStop_15 rfl rfl ?_
      refine s_iload_n X 3 dX1_leastStop_16 rfl rfl ?_
      obtain ⟨r5, hc4, hf⟩ := pk_obd hf
      refine s_callV X (ci := 1) (k_X1_withoutRest G hc4) rfl h1 wd826 wd828 wd9 wd829 wd129 cd_X1_withoutRest ⟨Nat.le_of_ble_eq_true rfl, Nat.le_of_ble_eq_true rfl⟩ (Nat.le_of_ble_eq_true rfl) dX1_leastStop_17 ?_
      refine s_lstore X (vs' := [(0, .ref (gB G + v0)), (1, .int v1), (2, .int v2), (3, .int v3), (4, .long r5)]) dX1_leastStop_20 (Nat.le_of_ble_eq_true rfl) [1, 2, 3, 4, 0] rfl ?_
      refine s_iconst X (v := (0 : Int32)) dX1_leastStop_22 rfl ?_
      refine s_istore X (vs' := [(0, .ref (gB G + v0)), (1, .int v1), (2, .int v2), (3, .int v3), (4, .long r5), (6, .int (0 : Int32))]) dX1_leastStop_23 (Nat.le_of_ble_eq_true rfl) [1, 2, 3, 4, 5, 0] rfl ?_
      exact l_X1_leastStop_25 X hr hlk hnm ih _ _ _ _ _ _ hf
end
theorem k_X1_leastStop (G : Gam) {n : Nat} {o : Nat} {M : Mem} {rv : Int32} (hf : f_X1_leastStop n o M = some rv) : Kt yX1_leastStop cX1_leastStop 8 (some .int) 2 42 G [.ref (gB G + o)] M M (some (.int rv)) := by
  refine Kt.of (by decide) (Nat.le_of_ble_eq_true rfl) ?_
  intro p l e R s m args below meth c X hr hlk hnm
  refine s_drop [0] (vs' := [(0, .ref (gB G + o))]) rfl ?_
  rw [f_X1_leastStop] at hf
  refine s_iconst X (v := (-1 : Int32)) dX1_leastStop_0 rfl ?_
  refine s_istore_n X (vs' := [(0, .ref (gB G + o)), (1, .int (-1 : Int32))]) dX1_leastStop_1 rfl (Nat.le_of_ble_eq_true rfl) [1, 0] rfl ?_
  refine s_bipush X (v := (17 : Int32)) dX1_leastStop_2 rfl ?_
  refine s_istore_n X (vs' := [(0, .ref (gB G + o)), (1, .int (-1 : Int32)), (2, .int (17 : Int32))]) dX1_leastStop_4 rfl (Nat.le_of_ble_eq_true rfl) [1, 2, 0] rfl ?_
  refine s_iconst X (v := (0 : Int32)) dX1_leastStop_5 rfl ?_
  refine s_istore_n X (vs' := [(0, .ref (gB G + o)), (1, .int (-1 : Int32)), (2, .int (17 : Int32)), (3, .int (0 : Int32))]) dX1_leastStop_6 rfl (Nat.le_of_ble_eq_true rfl) [1, 2, 3, 0] rfl ?_
  exact l_X1_leastStop_7 X hr hlk hnm _ _ _ _ hf
theorem dX9_weakest_0 : decode cX9_weakest 0 = .ok (.iload_n 1, 1) := dk_27 (by decide +kernel)
theorem dX9_weakest_1 : decode cX9_weakest 1 = .ok (.ifCond .lt 8, 3) := dk_155 (x := 0) (y := 8) (by decide +kernel) rfl
theorem dX9_weakest_4 : decode cX9_weakest 4 = .ok (.iload_n 1, 1) := dk_27 (by decide +kernel)
theorem dX9_weakest_5 : decode cX9_weakest 5 = .ok (.iconst 1, 1) := dk_4 (by decide +kernel)
theorem dX9_weakest_6 : decode cX9_weakest 6 = .ok (.if_icmp .le 5, 3) := dk_164 (x := 0) (y := 5) (by decide +kernel) rfl
theorem dX9_weakest_9 : decode cX9_weakest 9 = .ok (.iconst (-1), 1) := dk_2 (by decide +kernel)
theorem dX9_weakest_10 : decode cX9_weakest 10 = .ok (.ireturn, 1) := dk_172 (by decide +kernel)
theorem dX9_weakest_11 : decode cX9_weakest 11 = .ok (.aload_n 0, 1) := dk_42 (by decide +kernel)
theorem dX9_weakest_12 : decode cX9_weakest 12 = .ok (.invokevirtual 122, 3) := dk_182 (x := 0) (y := 122) (by decide +kernel) rfl
theorem dX9_weakest_15 : decode cX9_weakest 15 = .ok (.aload_n 0, 1) := dk_42 (by decide +kernel)
theorem dX9_weakest_16 : decode cX9_weakest 16 = .ok (.getfield 19, 3) := dk_180 (x := 0) (y := 19) (by decide +kernel) rfl
theorem dX9_weakest_19 : decode cX9_weakest 19 = .ok (.getfield 125, 3) := dk_180 (x := 0) (y := 125) (by decide +kernel) rfl
theorem dX9_weakest_22 : decode cX9_weakest 22 = .ok (.invokevirtual 129, 3) := dk_182 (x := 0) (y := 129) (by decide +kernel) rfl
theorem dX9_weakest_25 : decode cX9_weakest 25 = .ok (.istore_n 2, 1) := dk_61 (by decide +kernel)
theorem dX9_weakest_26 : decode cX9_weakest 26 = .ok (.iload_n 1, 1) := dk_27 (by decide +kernel)
theorem dX9_weakest_27 : decode cX9_weakest 27 = .ok (.ifCond .ne 10, 3) := dk_154 (x := 0) (y := 10) (by decide +kernel) rfl
theorem dX9_weakest_30 : decode cX9_weakest 30 = .ok (.iload_n 2, 1) := dk_28 (by decide +kernel)
theorem dX9_weakest_31 : decode cX9_weakest 31 = .ok (.invokestatic 134, 3) := dk_184 (x := 0) (y := 134) (by decide +kernel) rfl
theorem dX9_weakest_34 : decode cX9_weakest 34 = .ok (.goto 4, 3) := dk_167 (x := 0) (y := 4) (by decide +kernel) rfl
theorem dX9_weakest_37 : decode cX9_weakest 37 = .ok (.iload_n 2, 1) := dk_28 (by decide +kernel)
theorem dX9_weakest_38 : decode cX9_weakest 38 = .ok (.ireturn, 1) := dk_172 (by decide +kernel)
def f_X9_weakest (n : Nat) (o : Nat) (a1 : Int32) (M : Mem) : Option (Int32 × Mem) :=
  if a1 < 0 then (
    some ((-1 : Int32), M)
    ) else (
    if a1 ≤ (1 : Int32) then (
      chk (isO M 9 o) <|
      obd (f_X9_surveyOnce n o M) fun M7 =>
      chk (isO M7 9 o) <|
      bnd (mR M7 o 1) fun o9 =>
      chk (isO M7 8 o9) <|
      bnd (mR M7 o9 1) fun o12 =>
      chk (isO M7 1 o12) <|
      obd (f_X1_leastStop n o12 M7) fun r16 =>
      if a1 = 0 then (
        obd (f_J6_bitCount_0f7a4 r16 M7) fun r20 =>
        some (r20, M7)
        ) else (
        some (r16, M7)
        )
      ) else (
      some ((-1 : Int32), M)
      )
    )
theorem cd_X9_weakest : (yX9_weakest.cls ≠ "java/lang/invoke/MethodHandle" ∧ yX9_weakest.cls ≠ "java/lang/invoke/VarHandle") ∧ (parseMethodDescriptor yX9_weakest.desc).map (fun d => d.parameters.length) = some 1 := ⟨⟨by decide +kernel, by decide +kernel⟩, by decide +kernel⟩
theorem k_X9_weakest (G : Gam) {n : Nat} {o : Nat} {a1 : Int32} {M : Mem} {rv : (Int32 × Mem)} (hf : f_X9_weakest n o a1 M = some rv) : Kt yX9_weakest cX9_weakest 3 (some .int) 5 110 G [.ref (gB G + o), .int a1] M rv.2 (some (.int rv.1)) := by
  refine Kt.of (by decide) (Nat.le_of_ble_eq_true rfl) ?_
  intro p l e R s m args below meth c X hr hlk hnm
  refine s_drop [0, 1] (vs' := [(0, .ref (gB G + o)), (1, .int a1)]) rfl ?_
  rw [f_X9_weakest] at hf
  refine s_iload_n X 1 dX9_weakest_0 rfl rfl ?_
  have hs1 := pk_ite hf
  clear hf
  refine s_if_lt X (tgt := 9) dX9_weakest_1 rfl (fun c2 => ?_) (fun c2 => ?_)
  · have hf := hs1.1 c2
    refine s_iconst X (v := (-1 : Int32)) dX9_weakest_9 rfl ?_
    cases hf
    exact s_iret X hr hlk dX9_weakest_10
  · have hf := hs1.2 c2
    refine s_iload_n X 1 dX9_weakest_4 rfl rfl ?_
    refine s_iconst X (v := (1 : Int32)) dX9_weakest_5 rfl ?_
    have hs3 := pk_ite hf
    clear hf
    refine s_icmp_le X (tgt := 11) dX9_weakest_6 rfl (fun c4 => ?_) (fun c4 => ?_)
    · have hf := hs3.1 c4
      refine s_aload_n X 0 dX9_weakest_11 rfl rfl ?_
      obtain ⟨h5, hf⟩ := pk_chk hf
      obtain ⟨M7, hc6, hf⟩ := pk_obd hf
      refine s_callV X (ci := 9) (k_X9_surveyOnce G hc6) rfl h5 wd784 wd786 wd5 wd787 wd126 cd_X9_surveyOnce ⟨Nat.le_of_ble_eq_true rfl, Nat.le_of_ble_eq_true rfl⟩ (Nat.le_of_ble_eq_true rfl) dX9_weakest_12 ?_
      refine s_aload_n X 0 dX9_weakest_15 rfl rfl ?_
      obtain ⟨h8, hf⟩ := pk_chk hf
      obtain ⟨o9, e10, hf⟩ := pk_bnd hf
      obtain ⟨h11, hf⟩ := pk_chk hf
      refine s_getR X (ci := 9) (k := 1) rfl (Nat.le_of_ble_eq_true rfl) h8 wd628 (fun _ _ _ => rfl) (e10 ▸ h11) dX9_weakest_16 (e10 ▸ ?_)
      obtain ⟨o12, e13, hf⟩ := pk_bnd hf
      obtain ⟨h14, hf⟩ := pk_chk hf
      refine s_getR X (ci := 8) (k := 1) rfl (Nat.le_of_ble_eq_true rfl) h11 wd211 (fun _ _ _ => rfl) (e13 ▸ h14) dX9_weakest_19 (e13 ▸ ?_)
      obtain ⟨r16, hc15, hf⟩ := pk_obd hf
      refine s_callV X (ci := 1) (k_X1_leastStop G hc15) rfl h14 wd822 wd823 wd824 wd825 wd129 cd_X1_leastStop ⟨Nat.le_of_ble_eq_true rfl, Nat.le_of_ble_eq_true rfl⟩ (Nat.le_of_ble_eq_true rfl) dX9_weakest_22 ?_
      refine s_istore_n X (vs' := [(0, .ref (gB G + o)), (1, .int a1), (2, .int r16)]) dX9_weakest_25 rfl (Nat.le_of_ble_eq_true rfl) [1, 2, 0] rfl ?_
      refine s_iload_n X 1 dX9_weakest_26 rfl rfl ?_
      have hs17 := pk_ite hf
      clear hf
      refine s_if_ne X (tgt := 37) dX9_weakest_27 rfl (fun c18 => ?_) (fun c18 => ?_)
      · have hf := hs17.2 c18
        refine s_iload_n X 2 dX9_weakest_37 rfl rfl ?_
        cases hf
        exact s_iret X hr hlk dX9_weakest_38
      · have hf := hs17.1 c18
        refine s_iload_n X 2 dX9_weakest_30 rfl rfl ?_
        obtain ⟨r20, hc19, hf⟩ := pk_obd hf
        refine s_callS X (k_J6_bitCount_0f7a4 G hc19) wd839 wd831 wd832 wd141 cd_J6_bitCount_0f7a4 ⟨Nat.le_of_ble_eq_true rfl, Nat.le_of_ble_eq_true rfl⟩ (Nat.le_of_ble_eq_true rfl) dX9_weakest_31 ?_
        refine s_goto X (tgt := 38) dX9_weakest_34 rfl ?_
        cases hf
        exact s_iret X hr hlk dX9_weakest_38
    · have hf := hs3.2 c4
      refine s_iconst X (v := (-1 : Int32)) dX9_weakest_9 rfl ?_
      cases hf
      exact s_iret X hr hlk dX9_weakest_10
theorem dX10_many_0 : decode cX10_many 0 = .ok (.iconst 0, 1) := dk_3 (by decide +kernel)
theorem dX10_many_1 : decode cX10_many 1 = .ok (.istore_n 1, 1) := dk_60 (by decide +kernel)
theorem dX10_many_2 : decode cX10_many 2 = .ok (.iload_n 0, 1) := dk_26 (by decide +kernel)
theorem dX10_many_3 : decode cX10_many 3 = .ok (.istore_n 2, 1) := dk_61 (by decide +kernel)
theorem dX10_many_4 : decode cX10_many 4 = .ok (.iload_n 2, 1) := dk_28 (by decide +kernel)
theorem dX10_many_5 : decode cX10_many 5 = .ok (.ifCond .eq 15, 3) := dk_153 (x := 0) (y := 15) (by decide +kernel) rfl
theorem dX10_many_8 : decode cX10_many 8 = .ok (.iinc 1 1, 3) := dk_132 (x := 1) (y := 1) (by decide +kernel) rfl
theorem dX10_many_11 : decode cX10_many 11 = .ok (.iload_n 2, 1) := dk_28 (by decide +kernel)
theorem dX10_many_12 : decode cX10_many 12 = .ok (.iload_n 2, 1) := dk_28 (by decide +kernel)
theorem dX10_many_13 : decode cX10_many 13 = .ok (.iconst 1, 1) := dk_4 (by decide +kernel)
theorem dX10_many_14 : decode cX10_many 14 = .ok (.isub, 1) := dk_100 (by decide +kernel)
theorem dX10_many_15 : decode cX10_many 15 = .ok (.iand, 1) := dk_126 (by decide +kernel)
theorem dX10_many_16 : decode cX10_many 16 = .ok (.istore_n 2, 1) := dk_61 (by decide +kernel)
theorem dX10_many_17 : decode cX10_many 17 = .ok (.goto (-13), 3) := dk_167 (x := 255) (y := 243) (by decide +kernel) rfl
theorem dX10_many_20 : decode cX10_many 20 = .ok (.iload_n 1, 1) := dk_27 (by decide +kernel)
theorem dX10_many_21 : decode cX10_many 21 = .ok (.ireturn, 1) := dk_172 (by decide +kernel)
def f_X10_many_4 (M : Mem) : Nat → Int32 → Int32 → Option Int32
  | 0, _, _ => none
  | n + 1, v1, v2 =>
    if v2 = 0 then (
      some v1
      ) else (
      bnd (v1 + (1 : Int32)) fun x3 =>
      bnd (v2 &&& (v2 - (1 : Int32))) fun x5 =>
      f_X10_many_4 M n x3 x5
      )
def f_X10_many (n : Nat) (a1 : Int32) (M : Mem) : Option Int32 :=
  f_X10_many_4 M n (0 : Int32) a1
theorem cd_X10_many : (yX10_many.cls ≠ "java/lang/invoke/MethodHandle" ∧ yX10_many.cls ≠ "java/lang/invoke/VarHandle") ∧ (parseMethodDescriptor yX10_many.desc).map (fun d => d.parameters.length) = some 1 := ⟨⟨by decide +kernel, by decide +kernel⟩, by decide +kernel⟩
section
variable {p : Program} {l : Launch} {e : Env} {R : Room} {s : State} {m : MethodId} {args : Array Value} {below : List Frame} {meth : Method} {c : Code} {G : Gam} {M0 : Mem}
theorem l_X10_many_4 {M : Mem} {rv : Int32} (X : Cx p R s m args c G M0 cX10_many yX10_many.cls 3 0 0) (hr : meth.sig.returnType = (some .int)) (hlk : meth.locks = false) (hnm : meth.name = "many") : ∀ {n : Nat} (v1 : Int32) (v2 : Int32), f_X10_many_4 M n v1 v2 = some rv → Sg p l e R s m args below meth c (Qm below G args s (some (.int rv)) M0 M) G M0 3 4 [(1, .int v1), (2, .int v2)] [] M := by
  intro n
  induction n with
  | zero => intro v1 v2 hf; exact (pk_none hf).elim
  | succ n ih =>
    intro v1 v2 hf
    rw [f_X10_many_4] at hf
    refine s_iload_n X 1 dX10_many_4 rfl rfl ?_
    have hs1 := pk_ite hf
    clear hf
    refine s_if_eq X (tgt := 20) dX10_many_5 rfl (fun c2 => ?_) (fun c2 => ?_)
    · have hf := hs1.1 c2
      refine s_iload_n X 0 dX10_many_20 rfl rfl ?_
      cases hf
      exact s_iret X hr hlk dX10_many_21
    · have hf := hs1.2 c2
      obtain ⟨x3, e4, hf⟩ := pk_bnd hf
      refine s_iinc X (vs' := [(1, .int x3), (2, .int v2)]) 0 dX10_many_8 rfl (v := x3) e4.symm (Nat.le_of_ble_eq_true rfl) [0, 1] rfl ?_
      refine s_iload_n X 1 dX10_many_11 rfl rfl ?_
      refine s_iload_n X 1 dX10_many_12 rfl rfl ?_
      refine s_iconst X (v := (1 : Int32)) dX10_many_13 rfl ?_
      refine s_isub X dX10_many_14 ?_
      refine s_iand X dX10_many_15 ?_
      obtain ⟨x5, e6, hf⟩ := pk_bnd hf
      refine s_nmI e6 ?_
      refine s_istore_n X (vs' := [(1, .int x3), (2, .int x5)]) dX10_many_16 rfl (Nat.le_of_ble_eq_true rfl) [1, 0] rfl ?_
      refine s_goto X (tgt := 4) dX10_many_17 rfl ?_
      exact ih _ _ hf
end
theorem k_X10_many (G : Gam) {n : Nat} {a1 : Int32} {M : Mem} {rv : Int32} (hf : f_X10_many n a1 M = some rv) : Kt yX10_many cX10_many 3 (some .int) 0 0 G [.int a1] M M (some (.int rv)) := by
  refine Kt.of (by decide) (Nat.le_of_ble_eq_true rfl) ?_
  intro p l e R s m args below meth c X hr hlk hnm
  refine s_drop [0] (vs' := [(0, .int a1)]) rfl ?_
  rw [f_X10_many] at hf
  refine s_iconst X (v := (0 : Int32)) dX10_many_0 rfl ?_
  refine s_istore_n X (vs' := [(0, .int a1), (1, .int (0 : Int32))]) dX10_many_1 rfl (Nat.le_of_ble_eq_true rfl) [1, 0] rfl ?_
  refine s_iload_n X 0 dX10_many_2 rfl rfl ?_
  refine s_istore_n X (vs' := [(0, .int a1), (1, .int (0 : Int32)), (2, .int a1)]) dX10_many_3 rfl (Nat.le_of_ble_eq_true rfl) [1, 2, 0] rfl ?_
  refine s_drop [1, 2] (vs' := [(1, .int (0 : Int32)), (2, .int a1)]) rfl ?_
  exact l_X10_many_4 X hr hlk hnm _ _ hf
theorem dX10_weakest_0 : decode cX10_weakest 0 = .ok (.iload_n 1, 1) := dk_27 (by decide +kernel)
theorem dX10_weakest_1 : decode cX10_weakest 1 = .ok (.iconst 0, 1) := dk_3 (by decide +kernel)
theorem dX10_weakest_2 : decode cX10_weakest 2 = .ok (.iconst 1, 1) := dk_4 (by decide +kernel)
theorem dX10_weakest_3 : decode cX10_weakest 3 = .ok (.invokestatic 49, 3) := dk_184 (x := 0) (y := 49) (by decide +kernel) rfl
theorem dX10_weakest_6 : decode cX10_weakest 6 = .ok (.ifCond .ne 5, 3) := dk_154 (x := 0) (y := 5) (by decide +kernel) rfl
theorem dX10_weakest_9 : decode cX10_weakest 9 = .ok (.iconst (-1), 1) := dk_2 (by decide +kernel)
theorem dX10_weakest_10 : decode cX10_weakest 10 = .ok (.ireturn, 1) := dk_172 (by decide +kernel)
theorem dX10_weakest_11 : decode cX10_weakest 11 = .ok (.aload_n 0, 1) := dk_42 (by decide +kernel)
theorem dX10_weakest_12 : decode cX10_weakest 12 = .ok (.invokevirtual 72, 3) := dk_182 (x := 0) (y := 72) (by decide +kernel) rfl
theorem dX10_weakest_15 : decode cX10_weakest 15 = .ok (.istore_n 2, 1) := dk_61 (by decide +kernel)
theorem dX10_weakest_16 : decode cX10_weakest 16 = .ok (.aload_n 0, 1) := dk_42 (by decide +kernel)
theorem dX10_weakest_17 : decode cX10_weakest 17 = .ok (.invokevirtual 72, 3) := dk_182 (x := 0) (y := 72) (by decide +kernel) rfl
theorem dX10_weakest_20 : decode cX10_weakest 20 = .ok (.istore_n 3, 1) := dk_62 (by decide +kernel)
theorem dX10_weakest_21 : decode cX10_weakest 21 = .ok (.iload_n 3, 1) := dk_29 (by decide +kernel)
theorem dX10_weakest_22 : decode cX10_weakest 22 = .ok (.ifCond .lt 30, 3) := dk_155 (x := 0) (y := 30) (by decide +kernel) rfl
theorem dX10_weakest_25 : decode cX10_weakest 25 = .ok (.iload_n 3, 1) := dk_29 (by decide +kernel)
theorem dX10_weakest_26 : decode cX10_weakest 26 = .ok (.invokestatic 111, 3) := dk_184 (x := 0) (y := 111) (by decide +kernel) rfl
theorem dX10_weakest_29 : decode cX10_weakest 29 = .ok (.iload_n 2, 1) := dk_28 (by decide +kernel)
theorem dX10_weakest_30 : decode cX10_weakest 30 = .ok (.invokestatic 111, 3) := dk_184 (x := 0) (y := 111) (by decide +kernel) rfl
theorem dX10_weakest_33 : decode cX10_weakest 33 = .ok (.if_icmp .gt 13, 3) := dk_163 (x := 0) (y := 13) (by decide +kernel) rfl
theorem dX10_weakest_36 : decode cX10_weakest 36 = .ok (.aload_n 0, 1) := dk_42 (by decide +kernel)
theorem dX10_weakest_37 : decode cX10_weakest 37 = .ok (.iload_n 3, 1) := dk_29 (by decide +kernel)
theorem dX10_weakest_38 : decode cX10_weakest 38 = .ok (.invokevirtual 108, 3) := dk_182 (x := 0) (y := 108) (by decide +kernel) rfl
theorem dX10_weakest_41 : decode cX10_weakest 41 = .ok (.ifCond .eq 5, 3) := dk_153 (x := 0) (y := 5) (by decide +kernel) rfl
theorem dX10_weakest_44 : decode cX10_weakest 44 = .ok (.iload_n 3, 1) := dk_29 (by decide +kernel)
theorem dX10_weakest_45 : decode cX10_weakest 45 = .ok (.istore_n 2, 1) := dk_61 (by decide +kernel)
theorem dX10_weakest_46 : decode cX10_weakest 46 = .ok (.iinc 3 (-1), 3) := dk_132 (x := 3) (y := 255) (by decide +kernel) rfl
theorem dX10_weakest_49 : decode cX10_weakest 49 = .ok (.goto (-28), 3) := dk_167 (x := 255) (y := 228) (by decide +kernel) rfl
theorem dX10_weakest_52 : decode cX10_weakest 52 = .ok (.iload_n 1, 1) := dk_27 (by decide +kernel)
theorem dX10_weakest_53 : decode cX10_weakest 53 = .ok (.ifCond .ne 10, 3) := dk_154 (x := 0) (y := 10) (by decide +kernel) rfl
theorem dX10_weakest_56 : decode cX10_weakest 56 = .ok (.iload_n 2, 1) := dk_28 (by decide +kernel)
theorem dX10_weakest_57 : decode cX10_weakest 57 = .ok (.invokestatic 111, 3) := dk_184 (x := 0) (y := 111) (by decide +kernel) rfl
theorem dX10_weakest_60 : decode cX10_weakest 60 = .ok (.goto 4, 3) := dk_167 (x := 0) (y := 4) (by decide +kernel) rfl
theorem dX10_weakest_63 : decode cX10_weakest 63 = .ok (.iload_n 2, 1) := dk_28 (by decide +kernel)
theorem dX10_weakest_64 : decode cX10_weakest 64 = .ok (.ireturn, 1) := dk_172 (by decide +kernel)
def f_X10_weakest_21 : Nat → Nat → Int32 → Int32 → Int32 → Mem → Option (Int32 × Mem)
  | 0, _, _, _, _, _ => none
  | n + 1, v0, v1, v2, v3, M =>
    if v3 < 0 then (
      if v1 = 0 then (
        obd (f_X10_many n v2 M) fun r6 =>
        some (r6, M)
        ) else (
        some (v2, M)
        )
      ) else (
      obd (f_X10_many n v3 M) fun r8 =>
      obd (f_X10_many n v2 M) fun r10 =>
      if r10 < r8 then (
        bnd (v3 + (-1 : Int32)) fun x13 =>
        f_X10_weakest_21 n v0 v1 v2 x13 M
        ) else (
        chk (isO M 10 v0) <|
        obd2 (f_X10_stopsBy n v0 v3 M) fun r17 M18 =>
        if r17 = 0 then (
          bnd (v3 + (-1 : Int32)) fun x21 =>
          f_X10_weakest_21 n v0 v1 v2 x21 M18
          ) else (
          bnd (v3 + (-1 : Int32)) fun x23 =>
          f_X10_weakest_21 n v0 v1 v3 x23 M18
          )
        )
      )
def f_X10_weakest (n : Nat) (o : Nat) (a1 : Int32) (M : Mem) : Option (Int32 × Mem) :=
  obd (f_X10_isIn a1 (0 : Int32) (1 : Int32) M) fun r2 =>
  if r2 = 0 then (
    some ((-1 : Int32), M)
    ) else (
    chk (isO M 10 o) <|
    obd (f_X10_all o M) fun r7 =>
    obd (f_X10_all o M) fun r9 =>
    f_X10_weakest_21 n o a1 r7 r9 M
    )
theorem cd_X10_weakest : (yX10_weakest.cls ≠ "java/lang/invoke/MethodHandle" ∧ yX10_weakest.cls ≠ "java/lang/invoke/VarHandle") ∧ (parseMethodDescriptor yX10_weakest.desc).map (fun d => d.parameters.length) = some 1 := ⟨⟨by decide +kernel, by decide +kernel⟩, by decide +kernel⟩
section
variable {p : Program} {l : Launch} {e : Env} {R : Room} {s : State} {m : MethodId} {args : Array Value} {below : List Frame} {meth : Method} {c : Code} {G : Gam} {M0 : Mem}
theorem l_X10_weakest_21 {rv : (Int32 × Mem)} (X : Cx p R s m args c G M0 cX10_weakest yX10_weakest.cls 4 4 91) (hr : meth.sig.returnType = (some .int)) (hlk : meth.locks = false) (hnm : meth.name = "weakest") : ∀ {n : Nat} (v0 : Nat) (v1 : Int32) (v2 : Int32) (v3 : Int32) (M : Mem), f_X10_weakest_21 n v0 v1 v2 v3 M = some rv → Sg p l e R s m args below meth c (Qm below G args s (some (.int rv.1)) M0 rv.2) G M0 4 21 [(0, .ref (gB G + v0)), (1, .int v1), (2, .int v2), (3, .int v3)] [] M := by
  intro n
  induction n with
  | zero => intro v0 v1 v2 v3 M hf; exact (pk_none hf).elim
  | succ n ih =>
    intro v0 v1 v2 v3 M hf
    rw [f_X10_weakest_21] at hf
    refine s_iload_n X 3 dX10_weakest_21 rfl rfl ?_
    have hs1 := pk_ite hf
    clear hf
    refine s_if_lt X (tgt := 52) dX10_weakest_22 rfl (fun c2 => ?_) (fun c2 => ?_)
    · have hf := hs1.1 c2
      refine s_iload_n X 1 dX10_weakest_52 rfl rfl ?_
      have hs3 := pk_ite hf
      clear hf
      refine s_if_ne X (tgt := 63) dX10_weakest_53 rfl (fun c4 => ?_) (fun c4 => ?_)
      · have hf := hs3.2 c4
        refine s_iload_n X 2 dX10_weakest_63 rfl rfl ?_
        cases hf
        exact s_iret X hr hlk dX10_weakest_64
      · have hf := hs3.1 c4
        refine s_iload_n X 2 dX10_weakest_56 rfl rfl ?_
        obtain ⟨r6, hc5, hf⟩ := pk_obd hf
        refine s_callS X (k_X10_many G hc5) wd1624 wd1625 wd1626 wd138 cd_X10_many ⟨Nat.le_of_ble_eq_true rfl, Nat.le_of_ble_eq_true rfl⟩ (Nat.le_of_ble_eq_true rfl) dX10_weakest_57 ?_
        refine s_goto X (tgt := 64) dX10_weakest_60 rfl ?_
        cases hf
        exact s_iret X hr hlk dX10_weakest_64
    · have hf := hs1.2 c2
      refine s_iload_n X 3 dX10_weakest_25 rfl rfl ?_
      obtain ⟨r8, hc7, hf⟩ := pk_obd hf
      refine s_callS X (k_X10_many G hc7) wd1624 wd1625 wd1626 wd138 cd_X10_many ⟨Nat.le_of_ble_eq_true rfl, Nat.le_of_ble_eq_true rfl⟩ (Nat.le_of_ble_eq_true rfl) dX10_weakest_26 ?_
      refine s_iload_n X 2 dX10_weakest_29 rfl rfl ?_
      obtain ⟨r10, hc9, hf⟩ := pk_obd hf
      refine s_callS X (k_X10_many G hc9) wd1624 wd1625 wd1626 wd138 cd_X10_many ⟨Nat.le_of_ble_eq_true rfl, Nat.le_of_ble_eq_true rfl⟩ (Nat.le_of_ble_eq_true rfl) dX10_weakest_30 ?_
      have hs11 := pk_ite hf
      clear hf
      refine s_icmp_gt X (tgt := 46) dX10_weakest_33 rfl (fun c12 => ?_) (fun c12 => ?_)
      · have hf := hs11.1 c12
        obtain ⟨x13, e14, hf⟩ := pk_bnd hf
        refine s_iinc X (vs' := [(0, .ref (gB G + v0)), (1, .int v1), (2, .int v2), (3, .int x13)]) 3 dX10_weakest_46 rfl (v := x13) e14.symm (Nat.le_of_ble_eq_true rfl) [1, 2, 3, 0] rfl ?_
        refine s_goto X (tgt := 21) dX10_weakest_49 rfl ?_
        exact ih _ _ _ _ _ hf
      · have hf := hs11.2 c12
        refine s_aload_n X 0 dX10_weakest_36 rfl rfl ?_
        refine s_iload_n X 3 dX10_weakest_37 rfl rfl ?_
        obtain ⟨h15, hf⟩ := pk_chk hf
        obtain ⟨r17, M18, hc16, hf⟩ := pk_obd2 hf
        refine s_callV X (ci := 10) (k_X10_stopsBy G hc16) rfl h15 wd1616 wd1618 wd60 wd1619 wd138 cd_X10_stopsBy ⟨Nat.le_of_ble_eq_true rfl, Nat.le_of_ble_eq_true rfl⟩ (Nat.le_of_ble_eq_true rfl) dX10_weakest_38 ?_
        have hs19 := pk_ite hf
        clear hf
        refine s_if_eq X (tgt := 46) dX10_weakest_41 rfl (fun c20 => ?_) (fun c20 => ?_)
        · have hf := hs19.1 c20
          obtain ⟨x21, e22, hf⟩ := pk_bnd hf
          refine s_iinc X (vs' := [(0, .ref (gB G + v0)), (1, .int v1), (2, .int v2), (3, .int x21)]) 3 dX10_weakest_46 rfl (v := x21) e22.symm (Nat.le_of_ble_eq_true rfl) [1, 2, 3, 0] rfl ?_
          refine s_goto X (tgt := 21) dX10_weakest_49 rfl ?_
          exact ih _ _ _ _ _ hf
        · have hf := hs19.2 c20
          refine s_iload_n X 3 dX10_weakest_44 rfl rfl ?_
          refine s_istore_n X (vs' := [(0, .ref (gB G + v0)), (1, .int v1), (2, .int v3), (3, .int v3)]) dX10_weakest_45 rfl (Nat.le_of_ble_eq_true rfl) [1, 2, 0, 3] rfl ?_
          obtain ⟨x23, e24, hf⟩ := pk_bnd hf
          refine s_iinc X (vs' := [(0, .ref (gB G + v0)), (1, .int v1), (2, .int v3), (3, .int x23)]) 3 dX10_weakest_46 rfl (v := x23) e24.symm (Nat.le_of_ble_eq_true rfl) [1, 2, 3, 0] rfl ?_
          refine s_goto X (tgt := 21) dX10_weakest_49 rfl ?_
          exact ih _ _ _ _ _ hf
end
theorem k_X10_weakest (G : Gam) {n : Nat} {o : Nat} {a1 : Int32} {M : Mem} {rv : (Int32 × Mem)} (hf : f_X10_weakest n o a1 M = some rv) : Kt yX10_weakest cX10_weakest 4 (some .int) 4 91 G [.ref (gB G + o), .int a1] M rv.2 (some (.int rv.1)) := by
  refine Kt.of (by decide) (Nat.le_of_ble_eq_true rfl) ?_
  intro p l e R s m args below meth c X hr hlk hnm
  refine s_drop [0, 1] (vs' := [(0, .ref (gB G + o)), (1, .int a1)]) rfl ?_
  rw [f_X10_weakest] at hf
  refine s_iload_n X 1 dX10_weakest_0 rfl rfl ?_
  refine s_iconst X (v := (0 : Int32)) dX10_weakest_1 rfl ?_
  refine s_iconst X (v := (1 : Int32)) dX10_weakest_2 rfl ?_
  obtain ⟨r2, hc1, hf⟩ := pk_obd hf
  refine s_callS X (k_X10_isIn G hc1) wd1520 wd1521 wd1522 wd138 cd_X10_isIn ⟨Nat.le_of_ble_eq_true rfl, Nat.le_of_ble_eq_true rfl⟩ (Nat.le_of_ble_eq_true rfl) dX10_weakest_3 ?_
  have hs3 := pk_ite hf
  clear hf
  refine s_if_ne X (tgt := 11) dX10_weakest_6 rfl (fun c4 => ?_) (fun c4 => ?_)
  · have hf := hs3.2 c4
    refine s_aload_n X 0 dX10_weakest_11 rfl rfl ?_
    obtain ⟨h5, hf⟩ := pk_chk hf
    obtain ⟨r7, hc6, hf⟩ := pk_obd hf
    refine s_callV X (ci := 10) (k_X10_all G hc6) rfl h5 wd1542 wd1544 wd52 wd1545 wd138 cd_X10_all ⟨Nat.le_of_ble_eq_true rfl, Nat.le_of_ble_eq_true rfl⟩ (Nat.le_of_ble_eq_true rfl) dX10_weakest_12 ?_
    refine s_istore_n X (vs' := [(0, .ref (gB G + o)), (1, .int a1), (2, .int r7)]) dX10_weakest_15 rfl (Nat.le_of_ble_eq_true rfl) [1, 2, 0] rfl ?_
    refine s_aload_n X 0 dX10_weakest_16 rfl rfl ?_
    obtain ⟨r9, hc8, hf⟩ := pk_obd hf
    refine s_callV X (ci := 10) (k_X10_all G hc8) rfl h5 wd1542 wd1544 wd52 wd1545 wd138 cd_X10_all ⟨Nat.le_of_ble_eq_true rfl, Nat.le_of_ble_eq_true rfl⟩ (Nat.le_of_ble_eq_true rfl) dX10_weakest_17 ?_
    refine s_istore_n X (vs' := [(0, .ref (gB G + o)), (1, .int a1), (2, .int r7), (3, .int r9)]) dX10_weakest_20 rfl (Nat.le_of_ble_eq_true rfl) [1, 2, 3, 0] rfl ?_
    exact l_X10_weakest_21 X hr hlk hnm _ _ _ _ _ hf
  · have hf := hs3.1 c4
    refine s_iconst X (v := (-1 : Int32)) dX10_weakest_9 rfl ?_
    cases hf
    exact s_iret X hr hlk dX10_weakest_10
theorem dX7_isNeedless_0 : decode cX7_isNeedless 0 = .ok (.iconst 0, 1) := dk_3 (by decide +kernel)
theorem dX7_isNeedless_1 : decode cX7_isNeedless 1 = .ok (.istore_n 2, 1) := dk_61 (by decide +kernel)
theorem dX7_isNeedless_2 : decode cX7_isNeedless 2 = .ok (.iload_n 2, 1) := dk_28 (by decide +kernel)
theorem dX7_isNeedless_3 : decode cX7_isNeedless 3 = .ok (.aload_n 0, 1) := dk_42 (by decide +kernel)
theorem dX7_isNeedless_4 : decode cX7_isNeedless 4 = .ok (.getfield 40, 3) := dk_180 (x := 0) (y := 40) (by decide +kernel) rfl
theorem dX7_isNeedless_7 : decode cX7_isNeedless 7 = .ok (.if_icmp .ge 64, 3) := dk_162 (x := 0) (y := 64) (by decide +kernel) rfl
theorem dX7_isNeedless_10 : decode cX7_isNeedless 10 = .ok (.iload_n 2, 1) := dk_28 (by decide +kernel)
theorem dX7_isNeedless_11 : decode cX7_isNeedless 11 = .ok (.iload_n 1, 1) := dk_27 (by decide +kernel)
theorem dX7_isNeedless_12 : decode cX7_isNeedless 12 = .ok (.if_icmp .eq 25, 3) := dk_159 (x := 0) (y := 25) (by decide +kernel) rfl
theorem dX7_isNeedless_15 : decode cX7_isNeedless 15 = .ok (.aload_n 0, 1) := dk_42 (by decide +kernel)
theorem dX7_isNeedless_16 : decode cX7_isNeedless 16 = .ok (.getfield 9, 3) := dk_180 (x := 0) (y := 9) (by decide +kernel) rfl
theorem dX7_isNeedless_19 : decode cX7_isNeedless 19 = .ok (.iload_n 2, 1) := dk_28 (by decide +kernel)
theorem dX7_isNeedless_20 : decode cX7_isNeedless 20 = .ok (.iaload, 1) := dk_46 (by decide +kernel)
theorem dX7_isNeedless_21 : decode cX7_isNeedless 21 = .ok (.aload_n 0, 1) := dk_42 (by decide +kernel)
theorem dX7_isNeedless_22 : decode cX7_isNeedless 22 = .ok (.getfield 9, 3) := dk_180 (x := 0) (y := 9) (by decide +kernel) rfl
theorem dX7_isNeedless_25 : decode cX7_isNeedless 25 = .ok (.iload_n 1, 1) := dk_27 (by decide +kernel)
theorem dX7_isNeedless_26 : decode cX7_isNeedless 26 = .ok (.iaload, 1) := dk_46 (by decide +kernel)
theorem dX7_isNeedless_27 : decode cX7_isNeedless 27 = .ok (.iconst (-1), 1) := dk_2 (by decide +kernel)
theorem dX7_isNeedless_28 : decode cX7_isNeedless 28 = .ok (.ixor, 1) := dk_130 (by decide +kernel)
theorem dX7_isNeedless_29 : decode cX7_isNeedless 29 = .ok (.iand, 1) := dk_126 (by decide +kernel)
theorem dX7_isNeedless_30 : decode cX7_isNeedless 30 = .ok (.ifCond .ne 7, 3) := dk_154 (x := 0) (y := 7) (by decide +kernel) rfl
theorem dX7_isNeedless_33 : decode cX7_isNeedless 33 = .ok (.iconst 1, 1) := dk_4 (by decide +kernel)
theorem dX7_isNeedless_34 : decode cX7_isNeedless 34 = .ok (.goto 4, 3) := dk_167 (x := 0) (y := 4) (by decide +kernel) rfl
theorem dX7_isNeedless_37 : decode cX7_isNeedless 37 = .ok (.iconst 0, 1) := dk_3 (by decide +kernel)
theorem dX7_isNeedless_38 : decode cX7_isNeedless 38 = .ok (.istore_n 3, 1) := dk_62 (by decide +kernel)
theorem dX7_isNeedless_39 : decode cX7_isNeedless 39 = .ok (.iload_n 3, 1) := dk_29 (by decide +kernel)
theorem dX7_isNeedless_40 : decode cX7_isNeedless 40 = .ok (.ifCond .eq 25, 3) := dk_153 (x := 0) (y := 25) (by decide +kernel) rfl
theorem dX7_isNeedless_43 : decode cX7_isNeedless 43 = .ok (.aload_n 0, 1) := dk_42 (by decide +kernel)
theorem dX7_isNeedless_44 : decode cX7_isNeedless 44 = .ok (.getfield 9, 3) := dk_180 (x := 0) (y := 9) (by decide +kernel) rfl
theorem dX7_isNeedless_47 : decode cX7_isNeedless 47 = .ok (.iload_n 2, 1) := dk_28 (by decide +kernel)
theorem dX7_isNeedless_48 : decode cX7_isNeedless 48 = .ok (.iaload, 1) := dk_46 (by decide +kernel)
theorem dX7_isNeedless_49 : decode cX7_isNeedless 49 = .ok (.aload_n 0, 1) := dk_42 (by decide +kernel)
theorem dX7_isNeedless_50 : decode cX7_isNeedless 50 = .ok (.getfield 9, 3) := dk_180 (x := 0) (y := 9) (by decide +kernel) rfl
theorem dX7_isNeedless_53 : decode cX7_isNeedless 53 = .ok (.iload_n 1, 1) := dk_27 (by decide +kernel)
theorem dX7_isNeedless_54 : decode cX7_isNeedless 54 = .ok (.iaload, 1) := dk_46 (by decide +kernel)
theorem dX7_isNeedless_55 : decode cX7_isNeedless 55 = .ok (.if_icmp .ne 8, 3) := dk_160 (x := 0) (y := 8) (by decide +kernel) rfl
theorem dX7_isNeedless_58 : decode cX7_isNeedless 58 = .ok (.iload_n 2, 1) := dk_28 (by decide +kernel)
theorem dX7_isNeedless_59 : decode cX7_isNeedless 59 = .ok (.iload_n 1, 1) := dk_27 (by decide +kernel)
theorem dX7_isNeedless_60 : decode cX7_isNeedless 60 = .ok (.if_icmp .ge 5, 3) := dk_162 (x := 0) (y := 5) (by decide +kernel) rfl
theorem dX7_isNeedless_63 : decode cX7_isNeedless 63 = .ok (.iconst 1, 1) := dk_4 (by decide +kernel)
theorem dX7_isNeedless_64 : decode cX7_isNeedless 64 = .ok (.ireturn, 1) := dk_172 (by decide +kernel)
theorem dX7_isNeedless_65 : decode cX7_isNeedless 65 = .ok (.iinc 2 1, 3) := dk_132 (x := 2) (y := 1) (by decide +kernel) rfl
theorem dX7_isNeedless_68 : decode cX7_isNeedless 68 = .ok (.goto (-66), 3) := dk_167 (x := 255) (y := 190) (by decide +kernel) rfl
theorem dX7_isNeedless_71 : decode cX7_isNeedless 71 = .ok (.iconst 0, 1) := dk_3 (by decide +kernel)
theorem dX7_isNeedless_72 : decode cX7_isNeedless 72 = .ok (.ireturn, 1) := dk_172 (by decide +kernel)
def f_X7_isNeedless_38 (k_2 : Nat → Int32 → Int32 → Option Int32) (M : Mem) (n : Nat) (v0 : Nat) (v1 : Int32) (v2 : Int32) (u0 : Int32) : Option Int32 :=
    if u0 = 0 then (
      bnd (v2 + (1 : Int32)) fun x3 =>
      k_2 v0 v1 x3
      ) else (
      chk (isO M 7 v0) <|
      bnd (mR M v0 0) fun o6 =>
      chk (isO M 100 o6) <|
      chk (inB v2 (mLn M o6)) <|
      bnd (mR M v0 0) fun o10 =>
      chk (isO M 100 o10) <|
      chk (inB v1 (mLn M o10)) <|
      if (mI M o6 (v2).toNatClampNeg) = (mI M o10 (v1).toNatClampNeg) then (
        if v1 ≤ v2 then (
          bnd (v2 + (1 : Int32)) fun x18 =>
          k_2 v0 v1 x18
          ) else (
          some (1 : Int32)
          )
        ) else (
        some (1 : Int32)
        )
      )
def f_X7_isNeedless_2 (M : Mem) : Nat → Nat → Int32 → Int32 → Option Int32
  | 0, _, _, _ => none
  | n + 1, v0, v1, v2 =>
    chk (isO M 7 v0) <|
    if (mI M v0 3) ≤ v2 then (
      some (0 : Int32)
      ) else (
      if v2 = v1 then (
        f_X7_isNeedless_38 (f_X7_isNeedless_2 M n) M n v0 v1 v2 (0 : Int32)
        ) else (
        bnd (mR M v0 0) fun o6 =>
        chk (isO M 100 o6) <|
        chk (inB v2 (mLn M o6)) <|
        bnd (mR M v0 0) fun o10 =>
        chk (isO M 100 o10) <|
        chk (inB v1 (mLn M o10)) <|
        if ((mI M o6 (v2).toNatClampNeg) &&& ((mI M o10 (v1).toNatClampNeg) ^^^ (-1 : Int32))) = 0 then (
          f_X7_isNeedless_38 (f_X7_isNeedless_2 M n) M n v0 v1 v2 (1 : Int32)
          ) else (
          f_X7_isNeedless_38 (f_X7_isNeedless_2 M n) M n v0 v1 v2 (0 : Int32)
          )
        )
      )
def f_X7_isNeedless (n : Nat) (o : Nat) (a1 : Int32) (M : Mem) : Option Int32 :=
  f_X7_isNeedless_2 M n o a1 (0 : Int32)
theorem cd_X7_isNeedless : (yX7_isNeedless.cls ≠ "java/lang/invoke/MethodHandle" ∧ yX7_isNeedless.cls ≠ "java/lang/invoke/VarHandle") ∧ (parseMethodDescriptor yX7_isNeedless.desc).map (fun d => d.parameters.length) = some 1 := ⟨⟨by decide +kernel, by decide +kernel⟩, by decide +kernel⟩
section
variable {p : Program} {l : Launch} {e : Env} {R : Room} {s : State} {m : MethodId} {args : Array Value} {below : List Frame} {meth : Method} {c : Code} {G : Gam} {M0 : Mem}
theorem l_X7_isNeedless_38 {k_2 : Nat → Int32 → Int32 → Option Int32} {M : Mem} {rv : Int32} {n : Nat} {v0 : Nat} {v1 : Int32} {v2 : Int32} {u0 : Int32} (X : Cx p R s m args c G M0 cX7_isNeedless yX7_isNeedless.cls 4 0 0) (hr : meth.sig.returnType = (some .boolean)) (hlk : meth.locks = false) (hnm : meth.name = "isNeedless") (hk_2 : ∀ (v0 : Nat), ∀ (v1 : Int32), ∀ (v2 : Int32), k_2 v0 v1 v2 = some rv → Sg p l e R s m args below meth c (Qm below G args s (some (.int rv)) M0 M) G M0 4 2 [(0, .ref (gB G + v0)), (1, .int v1), (2, .int v2)] [] M) (hf : f_X7_isNeedless_38 k_2 M n v0 v1 v2 u0 = some rv) : Sg p l e R s m args below meth c (Qm below G args s (some (.int rv)) M0 M) G M0 4 38 [(0, .ref (gB G + v0)), (1, .int v1), (2, .int v2)] [.int u0] M := by
  rw [f_X7_isNeedless_38] at hf
  refine s_istore_n X (vs' := [(0, .ref (gB G + v0)), (1, .int v1), (2, .int v2), (3, .int u0)]) dX7_isNeedless_38 rfl (Nat.le_of_ble_eq_true rfl) [1, 2, 3, 0] rfl ?_
  refine s_iload_n X 3 dX7_isNeedless_39 rfl rfl ?_
  have hs1 := pk_ite hf
  clear hf
  refine s_if_eq X (tgt := 65) dX7_isNeedless_40 rfl (fun c2 => ?_) (fun c2 => ?_)
  · have hf := hs1.1 c2
    obtain ⟨x3, e4, hf⟩ := pk_bnd hf
    refine s_iinc X (vs' := [(0, .ref (gB G + v0)), (1, .int v1), (2, .int x3), (3, .int u0)]) 2 dX7_isNeedless_65 rfl (v := x3) e4.symm (Nat.le_of_ble_eq_true rfl) [1, 2, 0, 3] rfl ?_
    refine s_goto X (tgt := 2) dX7_isNeedless_68 rfl ?_
    refine s_drop [0, 1, 2] (vs' := [(0, .ref (gB G + v0)), (1, .int v1), (2, .int x3)]) rfl ?_
    exact hk_2 _ _ _ hf
  · have hf := hs1.2 c2
    refine s_aload_n X 0 dX7_isNeedless_43 rfl rfl ?_
    obtain ⟨h5, hf⟩ := pk_chk hf
    obtain ⟨o6, e7, hf⟩ := pk_bnd hf
    obtain ⟨h8, hf⟩ := pk_chk hf
    refine s_getR X (ci := 7) (k := 0) rfl (Nat.le_of_ble_eq_true rfl) h5 wd159 (fun _ _ _ => rfl) (e7 ▸ h8) dX7_isNeedless_44 (e7 ▸ ?_)
    refine s_iload_n X 2 dX7_isNeedless_47 rfl rfl ?_
    obtain ⟨h9, hf⟩ := pk_chk hf
    refine s_iald X h8 h9 dX7_isNeedless_48 ?_
    refine s_aload_n X 0 dX7_isNeedless_49 rfl rfl ?_
    obtain ⟨o10, e11, hf⟩ := pk_bnd hf
    obtain ⟨h12, hf⟩ := pk_chk hf
    refine s_getR X (ci := 7) (k := 0) rfl (Nat.le_of_ble_eq_true rfl) h5 wd159 (fun _ _ _ => rfl) (e11 ▸ h12) dX7_isNeedless_50 (e11 ▸ ?_)
    refine s_iload_n X 1 dX7_isNeedless_53 rfl rfl ?_
    obtain ⟨h13, hf⟩ := pk_chk hf
    refine s_iald X h12 h13 dX7_isNeedless_54 ?_
    have hs14 := pk_ite hf
    clear hf
    refine s_icmp_ne X (tgt := 63) dX7_isNeedless_55 rfl (fun c15 => ?_) (fun c15 => ?_)
    · have hf := hs14.2 c15
      refine s_iconst X (v := (1 : Int32)) dX7_isNeedless_63 rfl ?_
      cases hf
      exact s_zret X hr (bz_n (Or.inr rfl)) hlk dX7_isNeedless_64
    · have hf := hs14.1 c15
      refine s_iload_n X 2 dX7_isNeedless_58 rfl rfl ?_
      refine s_iload_n X 1 dX7_isNeedless_59 rfl rfl ?_
      have hs16 := pk_ite hf
      clear hf
      refine s_icmp_ge X (tgt := 65) dX7_isNeedless_60 rfl (fun c17 => ?_) (fun c17 => ?_)
      · have hf := hs16.1 c17
        obtain ⟨x18, e19, hf⟩ := pk_bnd hf
        refine s_iinc X (vs' := [(0, .ref (gB G + v0)), (1, .int v1), (2, .int x18), (3, .int u0)]) 2 dX7_isNeedless_65 rfl (v := x18) e19.symm (Nat.le_of_ble_eq_true rfl) [1, 2, 0, 3] rfl ?_
        refine s_goto X (tgt := 2) dX7_isNeedless_68 rfl ?_
        refine s_drop [0, 1, 2] (vs' := [(0, .ref (gB G + v0)), (1, .int v1), (2, .int x18)]) rfl ?_
        exact hk_2 _ _ _ hf
      · have hf := hs16.2 c17
        refine s_iconst X (v := (1 : Int32)) dX7_isNeedless_63 rfl ?_
        cases hf
        exact s_zret X hr (bz_n (Or.inr rfl)) hlk dX7_isNeedless_64
theorem l_X7_isNeedless_2 {M : Mem} {rv : Int32} (X : Cx p R s m args c G M0 cX7_isNeedless yX7_isNeedless.cls 4 0 0) (hr : meth.sig.returnType = (some .boolean)) (hlk : meth.locks = false) (hnm : meth.name = "isNeedless") : ∀ {n : Nat} (v0 : Nat) (v1 : Int32) (v2 : Int32), f_X7_isNeedless_2 M n v0 v1 v2 = some rv → Sg p l e R s m args below meth c (Qm below G args s (some (.int rv)) M0 M) G M0 4 2 [(0, .ref (gB G + v0)), (1, .int v1), (2, .int v2)] [] M := by
  intro n
  induction n with
  | zero => intro v0 v1 v2 hf; exact (pk_none hf).elim
  | succ n ih =>
    intro v0 v1 v2 hf
    rw [f_X7_isNeedless_2] at hf
    refine s_iload_n X 2 dX7_isNeedless_2 rfl rfl ?_
    refine s_aload_n X 0 dX7_isNeedless_3 rfl rfl ?_
    obtain ⟨h1, hf⟩ := pk_chk hf
    refine s_getI X (ci := 7) (k := 3) rfl (Nat.le_of_ble_eq_true rfl) h1 wd169 (fun _ _ _ => rfl) dX7_isNeedless_4 ?_
    have hs2 := pk_ite hf
    clear hf
    refine s_icmp_ge X (tgt := 71) dX7_isNeedless_7 rfl (fun c3 => ?_) (fun c3 => ?_)
    · have hf := hs2.1 c3
      refine s_iconst X (v := (0 : Int32)) dX7_isNeedless_71 rfl ?_
      cases hf
      exact s_zret X hr (bz_n (Or.inl rfl)) hlk dX7_isNeedless_72
    · have hf := hs2.2 c3
      refine s_iload_n X 2 dX7_isNeedless_10 rfl rfl ?_
      refine s_iload_n X 1 dX7_isNeedless_11 rfl rfl ?_
      have hs4 := pk_ite hf
      clear hf
      refine s_icmp_eq X (tgt := 37) dX7_isNeedless_12 rfl (fun c5 => ?_) (fun c5 => ?_)
      · have hf := hs4.1 c5
        refine s_iconst X (v := (0 : Int32)) dX7_isNeedless_37 rfl ?_
        exact l_X7_isNeedless_38 X hr hlk hnm ih hf
      · have hf := hs4.2 c5
        refine s_aload_n X 0 dX7_isNeedless_15 rfl rfl ?_
        obtain ⟨o6, e7, hf⟩ := pk_bnd hf
        obtain ⟨h8, hf⟩ := pk_chk hf
        refine s_getR X (ci := 7) (k := 0) rfl (Nat.le_of_ble_eq_true rfl) h1 wd159 (fun _ _ _ => rfl) (e7 ▸ h8) dX7_isNeedless_16 (e7 ▸ ?_)
        refine s_iload_n X 2 dX7_isNeedless_19 rfl rfl ?_
        obtain ⟨h9, hf⟩ := pk_chk hf
        refine s_iald X h8 h9 dX7_isNeedless_20 ?_
        refine s_aload_n X 0 dX7_isNeedless_21 rfl rfl ?_
        obtain ⟨o10, e11, hf⟩ := pk_bnd hf
        obtain ⟨h12, hf⟩ := pk_chk hf
        refine s_getR X (ci := 7) (k := 0) rfl (Nat.le_of_ble_eq_true rfl) h1 wd159 (fun _ _ _ => rfl) (e11 ▸ h12) dX7_isNeedless_22 (e11 ▸ ?_)
        refine s_iload_n X 1 dX7_isNeedless_25 rfl rfl ?_
        obtain ⟨h13, hf⟩ := pk_chk hf
        refine s_iald X h12 h13 dX7_isNeedless_26 ?_
        refine s_iconst X (v := (-1 : Int32)) dX7_isNeedless_27 rfl ?_
        refine s_ixor X dX7_isNeedless_28 ?_
        refine s_iand X dX7_isNeedless_29 ?_
        have hs14 := pk_ite hf
        clear hf
        refine s_if_ne X (tgt := 37) dX7_isNeedless_30 rfl (fun c15 => ?_) (fun c15 => ?_)
        · have hf := hs14.2 c15
          refine s_iconst X (v := (0 : Int32)) dX7_isNeedless_37 rfl ?_
          exact l_X7_isNeedless_38 X hr hlk hnm ih hf
        · have hf := hs14.1 c15
          refine s_iconst X (v := (1 : Int32)) dX7_isNeedless_33 rfl ?_
          refine s_goto X (tgt := 38) dX7_isNeedless_34 rfl ?_
          exact l_X7_isNeedless_38 X hr hlk hnm ih hf
end
theorem k_X7_isNeedless (G : Gam) {n : Nat} {o : Nat} {a1 : Int32} {M : Mem} {rv : Int32} (hf : f_X7_isNeedless n o a1 M = some rv) : Kt yX7_isNeedless cX7_isNeedless 4 (some .boolean) 0 0 G [.ref (gB G + o), .int a1] M M (some (.int rv)) := by
  refine Kt.of (by decide) (Nat.le_of_ble_eq_true rfl) ?_
  intro p l e R s m args below meth c X hr hlk hnm
  refine s_drop [0, 1] (vs' := [(0, .ref (gB G + o)), (1, .int a1)]) rfl ?_
  rw [f_X7_isNeedless] at hf
  refine s_iconst X (v := (0 : Int32)) dX7_isNeedless_0 rfl ?_
  refine s_istore_n X (vs' := [(0, .ref (gB G + o)), (1, .int a1), (2, .int (0 : Int32))]) dX7_isNeedless_1 rfl (Nat.le_of_ble_eq_true rfl) [1, 2, 0] rfl ?_
  exact l_X7_isNeedless_2 X hr hlk hnm _ _ _ hf
theorem dX7_countNeedless_0 : decode cX7_countNeedless 0 = .ok (.iconst 0, 1) := dk_3 (by decide +kernel)
theorem dX7_countNeedless_1 : decode cX7_countNeedless 1 = .ok (.istore_n 1, 1) := dk_60 (by decide +kernel)
theorem dX7_countNeedless_2 : decode cX7_countNeedless 2 = .ok (.iconst 0, 1) := dk_3 (by decide +kernel)
theorem dX7_countNeedless_3 : decode cX7_countNeedless 3 = .ok (.istore_n 2, 1) := dk_61 (by decide +kernel)
theorem dX7_countNeedless_4 : decode cX7_countNeedless 4 = .ok (.iload_n 2, 1) := dk_28 (by decide +kernel)
theorem dX7_countNeedless_5 : decode cX7_countNeedless 5 = .ok (.aload_n 0, 1) := dk_42 (by decide +kernel)
theorem dX7_countNeedless_6 : decode cX7_countNeedless 6 = .ok (.getfield 40, 3) := dk_180 (x := 0) (y := 40) (by decide +kernel) rfl
theorem dX7_countNeedless_9 : decode cX7_countNeedless 9 = .ok (.if_icmp .ge 20, 3) := dk_162 (x := 0) (y := 20) (by decide +kernel) rfl
theorem dX7_countNeedless_12 : decode cX7_countNeedless 12 = .ok (.aload_n 0, 1) := dk_42 (by decide +kernel)
theorem dX7_countNeedless_13 : decode cX7_countNeedless 13 = .ok (.iload_n 2, 1) := dk_28 (by decide +kernel)
theorem dX7_countNeedless_14 : decode cX7_countNeedless 14 = .ok (.invokevirtual 77, 3) := dk_182 (x := 0) (y := 77) (by decide +kernel) rfl
theorem dX7_countNeedless_17 : decode cX7_countNeedless 17 = .ok (.ifCond .eq 6, 3) := dk_153 (x := 0) (y := 6) (by decide +kernel) rfl
theorem dX7_countNeedless_20 : decode cX7_countNeedless 20 = .ok (.iinc 1 1, 3) := dk_132 (x := 1) (y := 1) (by decide +kernel) rfl
theorem dX7_countNeedless_23 : decode cX7_countNeedless 23 = .ok (.iinc 2 1, 3) := dk_132 (x := 2) (y := 1) (by decide +kernel) rfl
theorem dX7_countNeedless_26 : decode cX7_countNeedless 26 = .ok (.goto (-22), 3) := dk_167 (x := 255) (y := 234) (by decide +kernel) rfl
theorem dX7_countNeedless_29 : decode cX7_countNeedless 29 = .ok (.iload_n 1, 1) := dk_27 (by decide +kernel)
theorem dX7_countNeedless_30 : decode cX7_countNeedless 30 = .ok (.ireturn, 1) := dk_172 (by decide +kernel)
def f_X7_countNeedless_4 (M : Mem) : Nat → Nat → Int32 → Int32 → Option Int32
  | 0, _, _, _ => none
  | n + 1, v0, v1, v2 =>
    chk (isO M 7 v0) <|
    if (mI M v0 3) ≤ v2 then (
      some v1
      ) else (
      obd (f_X7_isNeedless n v0 v2 M) fun r5 =>
      if r5 = 0 then (
        bnd (v2 + (1 : Int32)) fun x8 =>
        f_X7_countNeedless_4 M n v0 v1 x8
        ) else (
        bnd (v1 + (1 : Int32)) fun x10 =>
        bnd (v2 + (1 : Int32)) fun x12 =>
        f_X7_countNeedless_4 M n v0 x10 x12
        )
      )
def f_X7_countNeedless (n : Nat) (o : Nat) (M : Mem) : Option Int32 :=
  f_X7_countNeedless_4 M n o (0 : Int32) (0 : Int32)
theorem cd_X7_countNeedless : (yX7_countNeedless.cls ≠ "java/lang/invoke/MethodHandle" ∧ yX7_countNeedless.cls ≠ "java/lang/invoke/VarHandle") ∧ (parseMethodDescriptor yX7_countNeedless.desc).map (fun d => d.parameters.length) = some 0 := ⟨⟨by decide +kernel, by decide +kernel⟩, by decide +kernel⟩
section
variable {p : Program} {l : Launch} {e : Env} {R : Room} {s : State} {m : MethodId} {args : Array Value} {below : List Frame} {meth : Method} {c : Code} {G : Gam} {M0 : Mem}
theorem l_X7_countNeedless_4 {M : Mem} {rv : Int32} (X : Cx p R s m args c G M0 cX7_countNeedless yX7_countNeedless.cls 3 1 23) (hr : meth.sig.returnType = (some .int)) (hlk : meth.locks = false) (hnm : meth.name = "countNeedless") : ∀ {n : Nat} (v0 : Nat) (v1 : Int32) (v2 : Int32), f_X7_countNeedless_4 M n v0 v1 v2 = some rv → Sg p l e R s m args below meth c (Qm below G args s (some (.int rv)) M0 M) G M0 3 4 [(0, .ref (gB G + v0)), (1, .int v1), (2, .int v2)] [] M := by
  intro n
  induction n with
  | zero => intro v0 v1 v2 hf; exact (pk_none hf).elim
  | succ n ih =>
    intro v0 v1 v2 hf
    rw [f_X7_countNeedless_4] at hf
    refine s_iload_n X 2 dX7_countNeedless_4 rfl rfl ?_
    refine s_aload_n X 0 dX7_countNeedless_5 rfl rfl ?_
    obtain ⟨h1, hf⟩ := pk_chk hf
    refine s_getI X (ci := 7) (k := 3) rfl (Nat.le_of_ble_eq_true rfl) h1 wd169 (fun _ _ _ => rfl) dX7_countNeedless_6 ?_
    have hs2 := pk_ite hf
    clear hf
    refine s_icmp_ge X (tgt := 29) dX7_countNeedless_9 rfl (fun c3 => ?_) (fun c3 => ?_)
    · have hf := hs2.1 c3
      refine s_iload_n X 1 dX7_countNeedless_29 rfl rfl ?_
      cases hf
      exact s_iret X hr hlk dX7_countNeedless_30
    · have hf := hs2.2 c3
      refine s_aload_n X 0 dX7_countNeedless_12 rfl rfl ?_
      refine s_iload_n X 2 dX7_countNeedless_13 rfl rfl ?_
      obtain ⟨r5, hc4, hf⟩ := pk_obd hf
      refine s_callV X (ci := 7) (k_X7_isNeedless G hc4) rfl h1 wd848 wd850 wd10 wd851 wd127 cd_X7_isNeedless ⟨Nat.le_of_ble_eq_true rfl, Nat.le_of_ble_eq_true rfl⟩ (Nat.le_of_ble_eq_true rfl) dX7_countNeedless_14 ?_
      have hs6 := pk_ite hf
      clear hf
      refine s_if_eq X (tgt := 23) dX7_countNeedless_17 rfl (fun c7 => ?_) (fun c7 => ?_)
      · have hf := hs6.1 c7
        obtain ⟨x8, e9, hf⟩ := pk_bnd hf
        refine s_iinc X (vs' := [(0, .ref (gB G + v0)), (1, .int v1), (2, .int x8)]) 2 dX7_countNeedless_23 rfl (v := x8) e9.symm (Nat.le_of_ble_eq_true rfl) [1, 2, 0] rfl ?_
        refine s_goto X (tgt := 4) dX7_countNeedless_26 rfl ?_
        exact ih _ _ _ hf
      · have hf := hs6.2 c7
        obtain ⟨x10, e11, hf⟩ := pk_bnd hf
        refine s_iinc X (vs' := [(0, .ref (gB G + v0)), (1, .int x10), (2, .int v2)]) 1 dX7_countNeedless_20 rfl (v := x10) e11.symm (Nat.le_of_ble_eq_true rfl) [1, 0, 2] rfl ?_
        obtain ⟨x12, e13, hf⟩ := pk_bnd hf
        refine s_iinc X (vs' := [(0, .ref (gB G + v0)), (1, .int x10), (2, .int x12)]) 2 dX7_countNeedless_23 rfl (v := x12) e13.symm (Nat.le_of_ble_eq_true rfl) [1, 2, 0] rfl ?_
        refine s_goto X (tgt := 4) dX7_countNeedless_26 rfl ?_
        exact ih _ _ _ hf
end
theorem k_X7_countNeedless (G : Gam) {n : Nat} {o : Nat} {M : Mem} {rv : Int32} (hf : f_X7_countNeedless n o M = some rv) : Kt yX7_countNeedless cX7_countNeedless 3 (some .int) 1 23 G [.ref (gB G + o)] M M (some (.int rv)) := by
  refine Kt.of (by decide) (Nat.le_of_ble_eq_true rfl) ?_
  intro p l e R s m args below meth c X hr hlk hnm
  refine s_drop [0] (vs' := [(0, .ref (gB G + o))]) rfl ?_
  rw [f_X7_countNeedless] at hf
  refine s_iconst X (v := (0 : Int32)) dX7_countNeedless_0 rfl ?_
  refine s_istore_n X (vs' := [(0, .ref (gB G + o)), (1, .int (0 : Int32))]) dX7_countNeedless_1 rfl (Nat.le_of_ble_eq_true rfl) [1, 0] rfl ?_
  refine s_iconst X (v := (0 : Int32)) dX7_countNeedless_2 rfl ?_
  refine s_istore_n X (vs' := [(0, .ref (gB G + o)), (1, .int (0 : Int32)), (2, .int (0 : Int32))]) dX7_countNeedless_3 rfl (Nat.le_of_ble_eq_true rfl) [1, 2, 0] rfl ?_
  exact l_X7_countNeedless_4 X hr hlk hnm _ _ _ hf
theorem dX9_needless_0 : decode cX9_needless 0 = .ok (.aload_n 0, 1) := dk_42 (by decide +kernel)
theorem dX9_needless_1 : decode cX9_needless 1 = .ok (.getfield 10, 3) := dk_180 (x := 0) (y := 10) (by decide +kernel) rfl
theorem dX9_needless_4 : decode cX9_needless 4 = .ok (.invokevirtual 139, 3) := dk_182 (x := 0) (y := 139) (by decide +kernel) rfl
theorem dX9_needless_7 : decode cX9_needless 7 = .ok (.ireturn, 1) := dk_172 (by decide +kernel)
def f_X9_needless (n : Nat) (o : Nat) (M : Mem) : Option Int32 :=
  chk (isO M 9 o) <|
  bnd (mR M o 0) fun o2 =>
  chk (isO M 7 o2) <|
  obd (f_X7_countNeedless n o2 M) fun r6 =>
  some r6
theorem cd_X9_needless : (yX9_needless.cls ≠ "java/lang/invoke/MethodHandle" ∧ yX9_needless.cls ≠ "java/lang/invoke/VarHandle") ∧ (parseMethodDescriptor yX9_needless.desc).map (fun d => d.parameters.length) = some 0 := ⟨⟨by decide +kernel, by decide +kernel⟩, by decide +kernel⟩
theorem k_X9_needless (G : Gam) {n : Nat} {o : Nat} {M : Mem} {rv : Int32} (hf : f_X9_needless n o M = some rv) : Kt yX9_needless cX9_needless 1 (some .int) 2 45 G [.ref (gB G + o)] M M (some (.int rv)) := by
  refine Kt.of (by decide) (Nat.le_of_ble_eq_true rfl) ?_
  intro p l e R s m args below meth c X hr hlk hnm
  refine s_drop [0] (vs' := [(0, .ref (gB G + o))]) rfl ?_
  rw [f_X9_needless] at hf
  refine s_aload_n X 0 dX9_needless_0 rfl rfl ?_
  obtain ⟨h1, hf⟩ := pk_chk hf
  obtain ⟨o2, e3, hf⟩ := pk_bnd hf
  obtain ⟨h4, hf⟩ := pk_chk hf
  refine s_getR X (ci := 9) (k := 0) rfl (Nat.le_of_ble_eq_true rfl) h1 wd627 (fun _ _ _ => rfl) (e3 ▸ h4) dX9_needless_1 (e3 ▸ ?_)
  obtain ⟨r6, hc5, hf⟩ := pk_obd hf
  refine s_callV X (ci := 7) (k_X7_countNeedless G hc5) rfl h4 wd844 wd845 wd846 wd847 wd127 cd_X7_countNeedless ⟨Nat.le_of_ble_eq_true rfl, Nat.le_of_ble_eq_true rfl⟩ (Nat.le_of_ble_eq_true rfl) dX9_needless_4 ?_
  cases hf
  exact s_iret X hr hlk dX9_needless_7
theorem dX10_isNeedless_0 : decode cX10_isNeedless 0 = .ok (.iconst 0, 1) := dk_3 (by decide +kernel)
theorem dX10_isNeedless_1 : decode cX10_isNeedless 1 = .ok (.istore_n 2, 1) := dk_61 (by decide +kernel)
theorem dX10_isNeedless_2 : decode cX10_isNeedless 2 = .ok (.iload_n 2, 1) := dk_28 (by decide +kernel)
theorem dX10_isNeedless_3 : decode cX10_isNeedless 3 = .ok (.aload_n 0, 1) := dk_42 (by decide +kernel)
theorem dX10_isNeedless_4 : decode cX10_isNeedless 4 = .ok (.getfield 7, 3) := dk_180 (x := 0) (y := 7) (by decide +kernel) rfl
theorem dX10_isNeedless_7 : decode cX10_isNeedless 7 = .ok (.iconst 0, 1) := dk_3 (by decide +kernel)
theorem dX10_isNeedless_8 : decode cX10_isNeedless 8 = .ok (.iaload, 1) := dk_46 (by decide +kernel)
theorem dX10_isNeedless_9 : decode cX10_isNeedless 9 = .ok (.if_icmp .ge 50, 3) := dk_162 (x := 0) (y := 50) (by decide +kernel) rfl
theorem dX10_isNeedless_12 : decode cX10_isNeedless 12 = .ok (.iload_n 2, 1) := dk_28 (by decide +kernel)
theorem dX10_isNeedless_13 : decode cX10_isNeedless 13 = .ok (.iload_n 1, 1) := dk_27 (by decide +kernel)
theorem dX10_isNeedless_14 : decode cX10_isNeedless 14 = .ok (.if_icmp .eq 39, 3) := dk_159 (x := 0) (y := 39) (by decide +kernel) rfl
theorem dX10_isNeedless_17 : decode cX10_isNeedless 17 = .ok (.aload_n 0, 1) := dk_42 (by decide +kernel)
theorem dX10_isNeedless_18 : decode cX10_isNeedless 18 = .ok (.iload_n 2, 1) := dk_28 (by decide +kernel)
theorem dX10_isNeedless_19 : decode cX10_isNeedless 19 = .ok (.invokevirtual 80, 3) := dk_182 (x := 0) (y := 80) (by decide +kernel) rfl
theorem dX10_isNeedless_22 : decode cX10_isNeedless 22 = .ok (.aload_n 0, 1) := dk_42 (by decide +kernel)
theorem dX10_isNeedless_23 : decode cX10_isNeedless 23 = .ok (.iload_n 1, 1) := dk_27 (by decide +kernel)
theorem dX10_isNeedless_24 : decode cX10_isNeedless 24 = .ok (.invokevirtual 80, 3) := dk_182 (x := 0) (y := 80) (by decide +kernel) rfl
theorem dX10_isNeedless_27 : decode cX10_isNeedless 27 = .ok (.iconst (-1), 1) := dk_2 (by decide +kernel)
theorem dX10_isNeedless_28 : decode cX10_isNeedless 28 = .ok (.ixor, 1) := dk_130 (by decide +kernel)
theorem dX10_isNeedless_29 : decode cX10_isNeedless 29 = .ok (.iand, 1) := dk_126 (by decide +kernel)
theorem dX10_isNeedless_30 : decode cX10_isNeedless 30 = .ok (.ifCond .ne 23, 3) := dk_154 (x := 0) (y := 23) (by decide +kernel) rfl
theorem dX10_isNeedless_33 : decode cX10_isNeedless 33 = .ok (.aload_n 0, 1) := dk_42 (by decide +kernel)
theorem dX10_isNeedless_34 : decode cX10_isNeedless 34 = .ok (.iload_n 2, 1) := dk_28 (by decide +kernel)
theorem dX10_isNeedless_35 : decode cX10_isNeedless 35 = .ok (.invokevirtual 80, 3) := dk_182 (x := 0) (y := 80) (by decide +kernel) rfl
theorem dX10_isNeedless_38 : decode cX10_isNeedless 38 = .ok (.aload_n 0, 1) := dk_42 (by decide +kernel)
theorem dX10_isNeedless_39 : decode cX10_isNeedless 39 = .ok (.iload_n 1, 1) := dk_27 (by decide +kernel)
theorem dX10_isNeedless_40 : decode cX10_isNeedless 40 = .ok (.invokevirtual 80, 3) := dk_182 (x := 0) (y := 80) (by decide +kernel) rfl
theorem dX10_isNeedless_43 : decode cX10_isNeedless 43 = .ok (.if_icmp .ne 8, 3) := dk_160 (x := 0) (y := 8) (by decide +kernel) rfl
theorem dX10_isNeedless_46 : decode cX10_isNeedless 46 = .ok (.iload_n 2, 1) := dk_28 (by decide +kernel)
theorem dX10_isNeedless_47 : decode cX10_isNeedless 47 = .ok (.iload_n 1, 1) := dk_27 (by decide +kernel)
theorem dX10_isNeedless_48 : decode cX10_isNeedless 48 = .ok (.if_icmp .ge 5, 3) := dk_162 (x := 0) (y := 5) (by decide +kernel) rfl
theorem dX10_isNeedless_51 : decode cX10_isNeedless 51 = .ok (.iconst 1, 1) := dk_4 (by decide +kernel)
theorem dX10_isNeedless_52 : decode cX10_isNeedless 52 = .ok (.ireturn, 1) := dk_172 (by decide +kernel)
theorem dX10_isNeedless_53 : decode cX10_isNeedless 53 = .ok (.iinc 2 1, 3) := dk_132 (x := 2) (y := 1) (by decide +kernel) rfl
theorem dX10_isNeedless_56 : decode cX10_isNeedless 56 = .ok (.goto (-54), 3) := dk_167 (x := 255) (y := 202) (by decide +kernel) rfl
theorem dX10_isNeedless_59 : decode cX10_isNeedless 59 = .ok (.iconst 0, 1) := dk_3 (by decide +kernel)
theorem dX10_isNeedless_60 : decode cX10_isNeedless 60 = .ok (.ireturn, 1) := dk_172 (by decide +kernel)
def f_X10_isNeedless_2 (M : Mem) : Nat → Nat → Int32 → Int32 → Option Int32
  | 0, _, _, _ => none
  | n + 1, v0, v1, v2 =>
    chk (isO M 10 v0) <|
    bnd (mR M v0 0) fun o2 =>
    chk (isO M 100 o2) <|
    chk (inB (0 : Int32) (mLn M o2)) <|
    if (mI M o2 ((0 : Int32)).toNatClampNeg) ≤ v2 then (
      some (0 : Int32)
      ) else (
      if v2 = v1 then (
        bnd (v2 + (1 : Int32)) fun x10 =>
        f_X10_isNeedless_2 M n v0 v1 x10
        ) else (
        obd (f_X10_baseOf v0 v2 M) fun r13 =>
        obd (f_X10_baseOf v0 v1 M) fun r15 =>
        if (r13 &&& (r15 ^^^ (-1 : Int32))) = 0 then (
          obd (f_X10_baseOf v0 v2 M) fun r21 =>
          obd (f_X10_baseOf v0 v1 M) fun r23 =>
          if r21 = r23 then (
            if v1 ≤ v2 then (
              bnd (v2 + (1 : Int32)) fun x28 =>
              f_X10_isNeedless_2 M n v0 v1 x28
              ) else (
              some (1 : Int32)
              )
            ) else (
            some (1 : Int32)
            )
          ) else (
          bnd (v2 + (1 : Int32)) fun x18 =>
          f_X10_isNeedless_2 M n v0 v1 x18
          )
        )
      )
def f_X10_isNeedless (n : Nat) (o : Nat) (a1 : Int32) (M : Mem) : Option Int32 :=
  f_X10_isNeedless_2 M n o a1 (0 : Int32)
theorem cd_X10_isNeedless : (yX10_isNeedless.cls ≠ "java/lang/invoke/MethodHandle" ∧ yX10_isNeedless.cls ≠ "java/lang/invoke/VarHandle") ∧ (parseMethodDescriptor yX10_isNeedless.desc).map (fun d => d.parameters.length) = some 1 := ⟨⟨by decide +kernel, by decide +kernel⟩, by decide +kernel⟩
section
variable {p : Program} {l : Launch} {e : Env} {R : Room} {s : State} {m : MethodId} {args : Array Value} {below : List Frame} {meth : Method} {c : Code} {G : Gam} {M0 : Mem}
theorem l_X10_isNeedless_2 {M : Mem} {rv : Int32} (X : Cx p R s m args c G M0 cX10_isNeedless yX10_isNeedless.cls 3 1 21) (hr : meth.sig.returnType = (some .boolean)) (hlk : meth.locks = false) (hnm : meth.name = "isNeedless") : ∀ {n : Nat} (v0 : Nat) (v1 : Int32) (v2 : Int32), f_X10_isNeedless_2 M n v0 v1 v2 = some rv → Sg p l e R s m args below meth c (Qm below G args s (some (.int rv)) M0 M) G M0 3 2 [(0, .ref (gB G + v0)), (1, .int v1), (2, .int v2)] [] M := by
  intro n
  induction n with
  | zero => intro v0 v1 v2 hf; exact (pk_none hf).elim
  | succ n ih =>
    intro v0 v1 v2 hf
    rw [f_X10_isNeedless_2] at hf
    refine s_iload_n X 2 dX10_isNeedless_2 rfl rfl ?_
    refine s_aload_n X 0 dX10_isNeedless_3 rfl rfl ?_
    obtain ⟨h1, hf⟩ := pk_chk hf
    obtain ⟨o2, e3, hf⟩ := pk_bnd hf
    obtain ⟨h4, hf⟩ := pk_chk hf
    refine s_getR X (ci := 10) (k := 0) rfl (Nat.le_of_ble_eq_true rfl) h1 wd1440 (fun _ _ _ => rfl) (e3 ▸ h4) dX10_isNeedless_4 (e3 ▸ ?_)
    refine s_iconst X (v := (0 : Int32)) dX10_isNeedless_7 rfl ?_
    obtain ⟨h5, hf⟩ := pk_chk hf
    refine s_iald X h4 h5 dX10_isNeedless_8 ?_
    have hs6 := pk_ite hf
    clear hf
    refine s_icmp_ge X (tgt := 59) dX10_isNeedless_9 rfl (fun c7 => ?_) (fun c7 => ?_)
    · have hf := hs6.1 c7
      refine s_iconst X (v := (0 : Int32)) dX10_isNeedless_59 rfl ?_
      cases hf
      exact s_zret X hr (bz_n (Or.inl rfl)) hlk dX10_isNeedless_60
    · have hf := hs6.2 c7
      refine s_iload_n X 2 dX10_isNeedless_12 rfl rfl ?_
      refine s_iload_n X 1 dX10_isNeedless_13 rfl rfl ?_
      have hs8 := pk_ite hf
      clear hf
      refine s_icmp_eq X (tgt := 53) dX10_isNeedless_14 rfl (fun c9 => ?_) (fun c9 => ?_)
      · have hf := hs8.1 c9
        obtain ⟨x10, e11, hf⟩ := pk_bnd hf
        refine s_iinc X (vs' := [(0, .ref (gB G + v0)), (1, .int v1), (2, .int x10)]) 2 dX10_isNeedless_53 rfl (v := x10) e11.symm (Nat.le_of_ble_eq_true rfl) [1, 2, 0] rfl ?_
        refine s_goto X (tgt := 2) dX10_isNeedless_56 rfl ?_
        exact ih _ _ _ hf
      · have hf := hs8.2 c9
        refine s_aload_n X 0 dX10_isNeedless_17 rfl rfl ?_
        refine s_iload_n X 2 dX10_isNeedless_18 rfl rfl ?_
        obtain ⟨r13, hc12, hf⟩ := pk_obd hf
        refine s_callV X (ci := 10) (k_X10_baseOf G hc12) rfl h1 wd1558 wd1560 wd54 wd1561 wd138 cd_X10_baseOf ⟨Nat.le_of_ble_eq_true rfl, Nat.le_of_ble_eq_true rfl⟩ (Nat.le_of_ble_eq_true rfl) dX10_isNeedless_19 ?_
        refine s_aload_n X 0 dX10_isNeedless_22 rfl rfl ?_
        refine s_iload_n X 1 dX10_isNeedless_23 rfl rfl ?_
        obtain ⟨r15, hc14, hf⟩ := pk_obd hf
        refine s_callV X (ci := 10) (k_X10_baseOf G hc14) rfl h1 wd1558 wd1560 wd54 wd1561 wd138 cd_X10_baseOf ⟨Nat.le_of_ble_eq_true rfl, Nat.le_of_ble_eq_true rfl⟩ (Nat.le_of_ble_eq_true rfl) dX10_isNeedless_24 ?_
        refine s_iconst X (v := (-1 : Int32)) dX10_isNeedless_27 rfl ?_
        refine s_ixor X dX10_isNeedless_28 ?_
        refine s_iand X dX10_isNeedless_29 ?_
        have hs16 := pk_ite hf
        clear hf
        refine s_if_ne X (tgt := 53) dX10_isNeedless_30 rfl (fun c17 => ?_) (fun c17 => ?_)
        · have hf := hs16.2 c17
          obtain ⟨x18, e19, hf⟩ := pk_bnd hf
          refine s_iinc X (vs' := [(0, .ref (gB G + v0)), (1, .int v1), (2, .int x18)]) 2 dX10_isNeedless_53 rfl (v := x18) e19.symm (Nat.le_of_ble_eq_true rfl) [1, 2, 0] rfl ?_
          refine s_goto X (tgt := 2) dX10_isNeedless_56 rfl ?_
          exact ih _ _ _ hf
        · have hf := hs16.1 c17
          refine s_aload_n X 0 dX10_isNeedless_33 rfl rfl ?_
          refine s_iload_n X 2 dX10_isNeedless_34 rfl rfl ?_
          obtain ⟨r21, hc20, hf⟩ := pk_obd hf
          refine s_callV X (ci := 10) (k_X10_baseOf G hc20) rfl h1 wd1558 wd1560 wd54 wd1561 wd138 cd_X10_baseOf ⟨Nat.le_of_ble_eq_true rfl, Nat.le_of_ble_eq_true rfl⟩ (Nat.le_of_ble_eq_true rfl) dX10_isNeedless_35 ?_
          refine s_aload_n X 0 dX10_isNeedless_38 rfl rfl ?_
          refine s_iload_n X 1 dX10_isNeedless_39 rfl rfl ?_
          obtain ⟨r23, hc22, hf⟩ := pk_obd hf
          refine s_callV X (ci := 10) (k_X10_baseOf G hc22) rfl h1 wd1558 wd1560 wd54 wd1561 wd138 cd_X10_baseOf ⟨Nat.le_of_ble_eq_true rfl, Nat.le_of_ble_eq_true rfl⟩ (Nat.le_of_ble_eq_true rfl) dX10_isNeedless_40 ?_
          have hs24 := pk_ite hf
          clear hf
          refine s_icmp_ne X (tgt := 51) dX10_isNeedless_43 rfl (fun c25 => ?_) (fun c25 => ?_)
          · have hf := hs24.2 c25
            refine s_iconst X (v := (1 : Int32)) dX10_isNeedless_51 rfl ?_
            cases hf
            exact s_zret X hr (bz_n (Or.inr rfl)) hlk dX10_isNeedless_52
          · have hf := hs24.1 c25
            refine s_iload_n X 2 dX10_isNeedless_46 rfl rfl ?_
            refine s_iload_n X 1 dX10_isNeedless_47 rfl rfl ?_
            have hs26 := pk_ite hf
            clear hf
            refine s_icmp_ge X (tgt := 53) dX10_isNeedless_48 rfl (fun c27 => ?_) (fun c27 => ?_)
            · have hf := hs26.1 c27
              obtain ⟨x28, e29, hf⟩ := pk_bnd hf
              refine s_iinc X (vs' := [(0, .ref (gB G + v0)), (1, .int v1), (2, .int x28)]) 2 dX10_isNeedless_53 rfl (v := x28) e29.symm (Nat.le_of_ble_eq_true rfl) [1, 2, 0] rfl ?_
              refine s_goto X (tgt := 2) dX10_isNeedless_56 rfl ?_
              exact ih _ _ _ hf
            · have hf := hs26.2 c27
              refine s_iconst X (v := (1 : Int32)) dX10_isNeedless_51 rfl ?_
              cases hf
              exact s_zret X hr (bz_n (Or.inr rfl)) hlk dX10_isNeedless_52
end
theorem k_X10_isNeedless (G : Gam) {n : Nat} {o : Nat} {a1 : Int32} {M : Mem} {rv : Int32} (hf : f_X10_isNeedless n o a1 M = some rv) : Kt yX10_isNeedless cX10_isNeedless 3 (some .boolean) 1 21 G [.ref (gB G + o), .int a1] M M (some (.int rv)) := by
  refine Kt.of (by decide) (Nat.le_of_ble_eq_true rfl) ?_
  intro p l e R s m args below meth c X hr hlk hnm
  refine s_drop [0, 1] (vs' := [(0, .ref (gB G + o)), (1, .int a1)]) rfl ?_
  rw [f_X10_isNeedless] at hf
  refine s_iconst X (v := (0 : Int32)) dX10_isNeedless_0 rfl ?_
  refine s_istore_n X (vs' := [(0, .ref (gB G + o)), (1, .int a1), (2, .int (0 : Int32))]) dX10_isNeedless_1 rfl (Nat.le_of_ble_eq_true rfl) [1, 2, 0] rfl ?_
  exact l_X10_isNeedless_2 X hr hlk hnm _ _ _ hf
theorem dX10_needless_0 : decode cX10_needless 0 = .ok (.iconst 0, 1) := dk_3 (by decide +kernel)
theorem dX10_needless_1 : decode cX10_needless 1 = .ok (.istore_n 1, 1) := dk_60 (by decide +kernel)
theorem dX10_needless_2 : decode cX10_needless 2 = .ok (.iconst 0, 1) := dk_3 (by decide +kernel)
theorem dX10_needless_3 : decode cX10_needless 3 = .ok (.istore_n 2, 1) := dk_61 (by decide +kernel)
theorem dX10_needless_4 : decode cX10_needless 4 = .ok (.iload_n 2, 1) := dk_28 (by decide +kernel)
theorem dX10_needless_5 : decode cX10_needless 5 = .ok (.aload_n 0, 1) := dk_42 (by decide +kernel)
theorem dX10_needless_6 : decode cX10_needless 6 = .ok (.getfield 7, 3) := dk_180 (x := 0) (y := 7) (by decide +kernel) rfl
theorem dX10_needless_9 : decode cX10_needless 9 = .ok (.iconst 0, 1) := dk_3 (by decide +kernel)
theorem dX10_needless_10 : decode cX10_needless 10 = .ok (.iaload, 1) := dk_46 (by decide +kernel)
theorem dX10_needless_11 : decode cX10_needless 11 = .ok (.if_icmp .ge 25, 3) := dk_162 (x := 0) (y := 25) (by decide +kernel) rfl
theorem dX10_needless_14 : decode cX10_needless 14 = .ok (.iload_n 1, 1) := dk_27 (by decide +kernel)
theorem dX10_needless_15 : decode cX10_needless 15 = .ok (.aload_n 0, 1) := dk_42 (by decide +kernel)
theorem dX10_needless_16 : decode cX10_needless 16 = .ok (.iload_n 2, 1) := dk_28 (by decide +kernel)
theorem dX10_needless_17 : decode cX10_needless 17 = .ok (.invokevirtual 114, 3) := dk_182 (x := 0) (y := 114) (by decide +kernel) rfl
theorem dX10_needless_20 : decode cX10_needless 20 = .ok (.ifCond .eq 7, 3) := dk_153 (x := 0) (y := 7) (by decide +kernel) rfl
theorem dX10_needless_23 : decode cX10_needless 23 = .ok (.iconst 1, 1) := dk_4 (by decide +kernel)
theorem dX10_needless_24 : decode cX10_needless 24 = .ok (.goto 4, 3) := dk_167 (x := 0) (y := 4) (by decide +kernel) rfl
theorem dX10_needless_27 : decode cX10_needless 27 = .ok (.iconst 0, 1) := dk_3 (by decide +kernel)
theorem dX10_needless_28 : decode cX10_needless 28 = .ok (.iadd, 1) := dk_96 (by decide +kernel)
theorem dX10_needless_29 : decode cX10_needless 29 = .ok (.istore_n 1, 1) := dk_60 (by decide +kernel)
theorem dX10_needless_30 : decode cX10_needless 30 = .ok (.iinc 2 1, 3) := dk_132 (x := 2) (y := 1) (by decide +kernel) rfl
theorem dX10_needless_33 : decode cX10_needless 33 = .ok (.goto (-29), 3) := dk_167 (x := 255) (y := 227) (by decide +kernel) rfl
theorem dX10_needless_36 : decode cX10_needless 36 = .ok (.iload_n 1, 1) := dk_27 (by decide +kernel)
theorem dX10_needless_37 : decode cX10_needless 37 = .ok (.ireturn, 1) := dk_172 (by decide +kernel)
def f_X10_needless_4 (M : Mem) : Nat → Nat → Int32 → Int32 → Option Int32
  | 0, _, _, _ => none
  | n + 1, v0, v1, v2 =>
    chk (isO M 10 v0) <|
    bnd (mR M v0 0) fun o2 =>
    chk (isO M 100 o2) <|
    chk (inB (0 : Int32) (mLn M o2)) <|
    if (mI M o2 ((0 : Int32)).toNatClampNeg) ≤ v2 then (
      some v1
      ) else (
      obd (f_X10_isNeedless n v0 v2 M) fun r9 =>
      if r9 = 0 then (
        bnd (v1 + (0 : Int32)) fun x12 =>
        bnd (v2 + (1 : Int32)) fun x14 =>
        f_X10_needless_4 M n v0 x12 x14
        ) else (
        bnd (v1 + (1 : Int32)) fun x16 =>
        bnd (v2 + (1 : Int32)) fun x18 =>
        f_X10_needless_4 M n v0 x16 x18
        )
      )
def f_X10_needless (n : Nat) (o : Nat) (M : Mem) : Option Int32 :=
  f_X10_needless_4 M n o (0 : Int32) (0 : Int32)
theorem cd_X10_needless : (yX10_needless.cls ≠ "java/lang/invoke/MethodHandle" ∧ yX10_needless.cls ≠ "java/lang/invoke/VarHandle") ∧ (parseMethodDescriptor yX10_needless.desc).map (fun d => d.parameters.length) = some 0 := ⟨⟨by decide +kernel, by decide +kernel⟩, by decide +kernel⟩
section
variable {p : Program} {l : Launch} {e : Env} {R : Room} {s : State} {m : MethodId} {args : Array Value} {below : List Frame} {meth : Method} {c : Code} {G : Gam} {M0 : Mem}
theorem l_X10_needless_4 {M : Mem} {rv : Int32} (X : Cx p R s m args c G M0 cX10_needless yX10_needless.cls 3 2 43) (hr : meth.sig.returnType = (some .int)) (hlk : meth.locks = false) (hnm : meth.name = "needless") : ∀ {n : Nat} (v0 : Nat) (v1 : Int32) (v2 : Int32), f_X10_needless_4 M n v0 v1 v2 = some rv → Sg p l e R s m args below meth c (Qm below G args s (some (.int rv)) M0 M) G M0 3 4 [(0, .ref (gB G + v0)), (1, .int v1), (2, .int v2)] [] M := by
  intro n
  induction n with
  | zero => intro v0 v1 v2 hf; exact (pk_none hf).elim
  | succ n ih =>
    intro v0 v1 v2 hf
    rw [f_X10_needless_4] at hf
    refine s_iload_n X 2 dX10_needless_4 rfl rfl ?_
    refine s_aload_n X 0 dX10_needless_5 rfl rfl ?_
    obtain ⟨h1, hf⟩ := pk_chk hf
    obtain ⟨o2, e3, hf⟩ := pk_bnd hf
    obtain ⟨h4, hf⟩ := pk_chk hf
    refine s_getR X (ci := 10) (k := 0) rfl (Nat.le_of_ble_eq_true rfl) h1 wd1440 (fun _ _ _ => rfl) (e3 ▸ h4) dX10_needless_6 (e3 ▸ ?_)
    refine s_iconst X (v := (0 : Int32)) dX10_needless_9 rfl ?_
    obtain ⟨h5, hf⟩ := pk_chk hf
    refine s_iald X h4 h5 dX10_needless_10 ?_
    have hs6 := pk_ite hf
    clear hf
    refine s_icmp_ge X (tgt := 36) dX10_needless_11 rfl (fun c7 => ?_) (fun c7 => ?_)
    · have hf := hs6.1 c7
      refine s_iload_n X 1 dX10_needless_36 rfl rfl ?_
      cases hf
      exact s_iret X hr hlk dX10_needless_37
    · have hf := hs6.2 c7
      refine s_iload_n X 1 dX10_needless_14 rfl rfl ?_
      refine s_aload_n X 0 dX10_needless_15 rfl rfl ?_
      refine s_iload_n X 2 dX10_needless_16 rfl rfl ?_
      obtain ⟨r9, hc8, hf⟩ := pk_obd hf
      refine s_callV X (ci := 10) (k_X10_isNeedless G hc8) rfl h1 wd1631 wd1633 wd61 wd1634 wd138 cd_X10_isNeedless ⟨Nat.le_of_ble_eq_true rfl, Nat.le_of_ble_eq_true rfl⟩ (Nat.le_of_ble_eq_true rfl) dX10_needless_17 ?_
      have hs10 := pk_ite hf
      clear hf
      refine s_if_eq X (tgt := 27) dX10_needless_20 rfl (fun c11 => ?_) (fun c11 => ?_)
      · have hf := hs10.1 c11
        refine s_iconst X (v := (0 : Int32)) dX10_needless_27 rfl ?_
        refine s_iadd X dX10_needless_28 ?_
        obtain ⟨x12, e13, hf⟩ := pk_bnd hf
        refine s_nmI e13 ?_
        refine s_istore_n X (vs' := [(0, .ref (gB G + v0)), (1, .int x12), (2, .int v2)]) dX10_needless_29 rfl (Nat.le_of_ble_eq_true rfl) [1, 0, 2] rfl ?_
        obtain ⟨x14, e15, hf⟩ := pk_bnd hf
        refine s_iinc X (vs' := [(0, .ref (gB G + v0)), (1, .int x12), (2, .int x14)]) 2 dX10_needless_30 rfl (v := x14) e15.symm (Nat.le_of_ble_eq_true rfl) [1, 2, 0] rfl ?_
        refine s_goto X (tgt := 4) dX10_needless_33 rfl ?_
        exact ih _ _ _ hf
      · have hf := hs10.2 c11
        refine s_iconst X (v := (1 : Int32)) dX10_needless_23 rfl ?_
        refine s_goto X (tgt := 28) dX10_needless_24 rfl ?_
        refine s_iadd X dX10_needless_28 ?_
        obtain ⟨x16, e17, hf⟩ := pk_bnd hf
        refine s_nmI e17 ?_
        refine s_istore_n X (vs' := [(0, .ref (gB G + v0)), (1, .int x16), (2, .int v2)]) dX10_needless_29 rfl (Nat.le_of_ble_eq_true rfl) [1, 0, 2] rfl ?_
        obtain ⟨x18, e19, hf⟩ := pk_bnd hf
        refine s_iinc X (vs' := [(0, .ref (gB G + v0)), (1, .int x16), (2, .int x18)]) 2 dX10_needless_30 rfl (v := x18) e19.symm (Nat.le_of_ble_eq_true rfl) [1, 2, 0] rfl ?_
        refine s_goto X (tgt := 4) dX10_needless_33 rfl ?_
        exact ih _ _ _ hf
end
theorem k_X10_needless (G : Gam) {n : Nat} {o : Nat} {M : Mem} {rv : Int32} (hf : f_X10_needless n o M = some rv) : Kt yX10_needless cX10_needless 3 (some .int) 2 43 G [.ref (gB G + o)] M M (some (.int rv)) := by
  refine Kt.of (by decide) (Nat.le_of_ble_eq_true rfl) ?_
  intro p l e R s m args below meth c X hr hlk hnm
  refine s_drop [0] (vs' := [(0, .ref (gB G + o))]) rfl ?_
  rw [f_X10_needless] at hf
  refine s_iconst X (v := (0 : Int32)) dX10_needless_0 rfl ?_
  refine s_istore_n X (vs' := [(0, .ref (gB G + o)), (1, .int (0 : Int32))]) dX10_needless_1 rfl (Nat.le_of_ble_eq_true rfl) [1, 0] rfl ?_
  refine s_iconst X (v := (0 : Int32)) dX10_needless_2 rfl ?_
  refine s_istore_n X (vs' := [(0, .ref (gB G + o)), (1, .int (0 : Int32)), (2, .int (0 : Int32))]) dX10_needless_3 rfl (Nat.le_of_ble_eq_true rfl) [1, 2, 0] rfl ?_
  exact l_X10_needless_4 X hr hlk hnm _ _ _ hf
theorem dX8_power_0 : decode cX8_power 0 = .ok (.lconst 1, 1) := dk_10 (by decide +kernel)
theorem dX8_power_1 : decode cX8_power 1 = .ok (.lstore_n 2, 1) := dk_65 (by decide +kernel)
theorem dX8_power_2 : decode cX8_power 2 = .ok (.iconst 0, 1) := dk_3 (by decide +kernel)
theorem dX8_power_3 : decode cX8_power 3 = .ok (.istore 4, 2) := dk_54 (x := 4) (by decide +kernel)
theorem dX8_power_5 : decode cX8_power 5 = .ok (.iload 4, 2) := dk_21 (x := 4) (by decide +kernel)
theorem dX8_power_7 : decode cX8_power 7 = .ok (.iload_n 1, 1) := dk_27 (by decide +kernel)
theorem dX8_power_8 : decode cX8_power 8 = .ok (.if_icmp .ge 14, 3) := dk_162 (x := 0) (y := 14) (by decide +kernel) rfl
theorem dX8_power_11 : decode cX8_power 11 = .ok (.lload_n 2, 1) := dk_32 (by decide +kernel)
theorem dX8_power_12 : decode cX8_power 12 = .ok (.iload_n 0, 1) := dk_26 (by decide +kernel)
theorem dX8_power_13 : decode cX8_power 13 = .ok (.i2l, 1) := dk_133 (by decide +kernel)
theorem dX8_power_14 : decode cX8_power 14 = .ok (.lmul, 1) := dk_105 (by decide +kernel)
theorem dX8_power_15 : decode cX8_power 15 = .ok (.lstore_n 2, 1) := dk_65 (by decide +kernel)
theorem dX8_power_16 : decode cX8_power 16 = .ok (.iinc 4 1, 3) := dk_132 (x := 4) (y := 1) (by decide +kernel) rfl
theorem dX8_power_19 : decode cX8_power 19 = .ok (.goto (-14), 3) := dk_167 (x := 255) (y := 242) (by decide +kernel) rfl
theorem dX8_power_22 : decode cX8_power 22 = .ok (.lload_n 2, 1) := dk_32 (by decide +kernel)
theorem dX8_power_23 : decode cX8_power 23 = .ok (.lreturn, 1) := dk_173 (by decide +kernel)
def f_X8_power_5 (M : Mem) : Nat → Int32 → Int32 → Int64 → Int32 → Option Int64
  | 0, _, _, _, _ => none
  | n + 1, v0, v1, v2, v4 =>
    if v1 ≤ v4 then (
      some v2
      ) else (
      bnd (v2 * ((v0).toInt64)) fun x3 =>
      bnd (v4 + (1 : Int32)) fun x5 =>
      f_X8_power_5 M n v0 v1 x3 x5
      )
def f_X8_power (n : Nat) (a1 : Int32) (a2 : Int32) (M : Mem) : Option Int64 :=
  f_X8_power_5 M n a1 a2 (1 : Int64) (0 : Int32)
theorem cd_X8_power : (yX8_power.cls ≠ "java/lang/invoke/MethodHandle" ∧ yX8_power.cls ≠ "java/lang/invoke/VarHandle") ∧ (parseMethodDescriptor yX8_power.desc).map (fun d => d.parameters.length) = some 2 := ⟨⟨by decide +kernel, by decide +kernel⟩, by decide +kernel⟩
section
variable {p : Program} {l : Launch} {e : Env} {R : Room} {s : State} {m : MethodId} {args : Array Value} {below : List Frame} {meth : Method} {c : Code} {G : Gam} {M0 : Mem}
theorem l_X8_power_5 {M : Mem} {rv : Int64} (X : Cx p R s m args c G M0 cX8_power yX8_power.cls 5 0 0) (hr : meth.sig.returnType = (some .long)) (hlk : meth.locks = false) (hnm : meth.name = "power") : ∀ {n : Nat} (v0 : Int32) (v1 : Int32) (v2 : Int64) (v4 : Int32), f_X8_power_5 M n v0 v1 v2 v4 = some rv → Sg p l e R s m args below meth c (Qm below G args s (some (.long rv)) M0 M) G M0 5 5 [(0, .int v0), (1, .int v1), (2, .long v2), (4, .int v4)] [] M := by
  intro n
  induction n with
  | zero => intro v0 v1 v2 v4 hf; exact (pk_none hf).elim
  | succ n ih =>
    intro v0 v1 v2 v4 hf
    rw [f_X8_power_5] at hf
    refine s_iload X 3 dX8_power_5 rfl ?_
    refine s_iload_n X 1 dX8_power_7 rfl rfl ?_
    have hs1 := pk_ite hf
    clear hf
    refine s_icmp_ge X (tgt := 22) dX8_power_8 rfl (fun c2 => ?_) (fun c2 => ?_)
    · have hf := hs1.1 c2
      refine s_lload_n X 2 dX8_power_22 rfl rfl ?_
      cases hf
      exact s_lret X hr hlk dX8_power_23
    · have hf := hs1.2 c2
      refine s_lload_n X 2 dX8_power_11 rfl rfl ?_
      refine s_iload_n X 0 dX8_power_12 rfl rfl ?_
      refine s_i2l X dX8_power_13 ?_
      refine s_lmul X dX8_power_14 ?_
      obtain ⟨x3, e4, hf⟩ := pk_bnd hf
      refine s_nmL e4 ?_
      refine s_lstore_n X (vs' := [(0, .int v0), (1, .int v1), (2, .long x3), (4, .int v4)]) dX8_power_15 rfl (Nat.le_of_ble_eq_true rfl) [1, 2, 0, 3] rfl ?_
      obtain ⟨x5, e6, hf⟩ := pk_bnd hf
      refine s_iinc X (vs' := [(0, .int v0), (1, .int v1), (2, .long x3), (4, .int x5)]) 3 dX8_power_16 rfl (v := x5) e6.symm (Nat.le_of_ble_eq_true rfl) [1, 2, 3, 0] rfl ?_
      refine s_goto X (tgt := 5) dX8_power_19 rfl ?_
      exact ih _ _ _ _ hf
end
theorem k_X8_power (G : Gam) {n : Nat} {a1 : Int32} {a2 : Int32} {M : Mem} {rv : Int64} (hf : f_X8_power n a1 a2 M = some rv) : Kt yX8_power cX8_power 5 (some .long) 0 0 G [.int a1, .int a2] M M (some (.long rv)) := by
  refine Kt.of (by decide) (Nat.le_of_ble_eq_true rfl) ?_
  intro p l e R s m args below meth c X hr hlk hnm
  refine s_drop [0, 1] (vs' := [(0, .int a1), (1, .int a2)]) rfl ?_
  rw [f_X8_power] at hf
  refine s_lconst X (v := (1 : Int64)) dX8_power_0 rfl ?_
  refine s_lstore_n X (vs' := [(0, .int a1), (1, .int a2), (2, .long (1 : Int64))]) dX8_power_1 rfl (Nat.le_of_ble_eq_true rfl) [1, 2, 0] rfl ?_
  refine s_iconst X (v := (0 : Int32)) dX8_power_2 rfl ?_
  refine s_istore X (vs' := [(0, .int a1), (1, .int a2), (2, .long (1 : Int64)), (4, .int (0 : Int32))]) dX8_power_3 (Nat.le_of_ble_eq_true rfl) [1, 2, 3, 0] rfl ?_
  exact l_X8_power_5 X hr hlk hnm _ _ _ _ hf
theorem dX1_having_0 : decode cX1_having 0 = .ok (.iload_n 2, 1) := dk_28 (by decide +kernel)
theorem dX1_having_1 : decode cX1_having 1 = .ok (.ifCond .ge 10, 3) := dk_156 (x := 0) (y := 10) (by decide +kernel) rfl
theorem dX1_having_4 : decode cX1_having 4 = .ok (.aload_n 0, 1) := dk_42 (by decide +kernel)
theorem dX1_having_5 : decode cX1_having 5 = .ok (.getfield 11, 3) := dk_180 (x := 0) (y := 11) (by decide +kernel) rfl
theorem dX1_having_8 : decode cX1_having 8 = .ok (.iload_n 1, 1) := dk_27 (by decide +kernel)
theorem dX1_having_9 : decode cX1_having 9 = .ok (.laload, 1) := dk_47 (by decide +kernel)
theorem dX1_having_10 : decode cX1_having 10 = .ok (.lreturn, 1) := dk_173 (by decide +kernel)
theorem dX1_having_11 : decode cX1_having 11 = .ok (.iload_n 2, 1) := dk_28 (by decide +kernel)
theorem dX1_having_12 : decode cX1_having 12 = .ok (.bipush 6, 2) := dk_16 (x := 6) (by decide +kernel) rfl
theorem dX1_having_14 : decode cX1_having 14 = .ok (.if_icmp .ge 16, 3) := dk_162 (x := 0) (y := 16) (by decide +kernel) rfl
theorem dX1_having_17 : decode cX1_having 17 = .ok (.aload_n 0, 1) := dk_42 (by decide +kernel)
theorem dX1_having_18 : decode cX1_having 18 = .ok (.getfield 11, 3) := dk_180 (x := 0) (y := 11) (by decide +kernel) rfl
theorem dX1_having_21 : decode cX1_having 21 = .ok (.iload_n 1, 1) := dk_27 (by decide +kernel)
theorem dX1_having_22 : decode cX1_having 22 = .ok (.laload, 1) := dk_47 (by decide +kernel)
theorem dX1_having_23 : decode cX1_having 23 = .ok (.getstatic 28, 3) := dk_178 (x := 0) (y := 28) (by decide +kernel) rfl
theorem dX1_having_26 : decode cX1_having 26 = .ok (.iload_n 2, 1) := dk_28 (by decide +kernel)
theorem dX1_having_27 : decode cX1_having 27 = .ok (.laload, 1) := dk_47 (by decide +kernel)
theorem dX1_having_28 : decode cX1_having 28 = .ok (.land, 1) := dk_127 (by decide +kernel)
theorem dX1_having_29 : decode cX1_having 29 = .ok (.lreturn, 1) := dk_173 (by decide +kernel)
theorem dX1_having_30 : decode cX1_having 30 = .ok (.iload_n 1, 1) := dk_27 (by decide +kernel)
theorem dX1_having_31 : decode cX1_having 31 = .ok (.iload_n 2, 1) := dk_28 (by decide +kernel)
theorem dX1_having_32 : decode cX1_having 32 = .ok (.bipush 6, 2) := dk_16 (x := 6) (by decide +kernel) rfl
theorem dX1_having_34 : decode cX1_having 34 = .ok (.isub, 1) := dk_100 (by decide +kernel)
theorem dX1_having_35 : decode cX1_having 35 = .ok (.ishr, 1) := dk_122 (by decide +kernel)
theorem dX1_having_36 : decode cX1_having 36 = .ok (.iconst 1, 1) := dk_4 (by decide +kernel)
theorem dX1_having_37 : decode cX1_having 37 = .ok (.iand, 1) := dk_126 (by decide +kernel)
theorem dX1_having_38 : decode cX1_having 38 = .ok (.ifCond .eq 12, 3) := dk_153 (x := 0) (y := 12) (by decide +kernel) rfl
theorem dX1_having_41 : decode cX1_having 41 = .ok (.aload_n 0, 1) := dk_42 (by decide +kernel)
theorem dX1_having_42 : decode cX1_having 42 = .ok (.getfield 11, 3) := dk_180 (x := 0) (y := 11) (by decide +kernel) rfl
theorem dX1_having_45 : decode cX1_having 45 = .ok (.iload_n 1, 1) := dk_27 (by decide +kernel)
theorem dX1_having_46 : decode cX1_having 46 = .ok (.laload, 1) := dk_47 (by decide +kernel)
theorem dX1_having_47 : decode cX1_having 47 = .ok (.goto 4, 3) := dk_167 (x := 0) (y := 4) (by decide +kernel) rfl
theorem dX1_having_50 : decode cX1_having 50 = .ok (.lconst 0, 1) := dk_9 (by decide +kernel)
theorem dX1_having_51 : decode cX1_having 51 = .ok (.lreturn, 1) := dk_173 (by decide +kernel)
def f_X1_having (o : Nat) (a1 : Int32) (a2 : Int32) (M : Mem) : Option Int64 :=
  if 0 ≤ a2 then (
    if (6 : Int32) ≤ a2 then (
      if ((a1 >>> ((a2 - (6 : Int32)) &&& 31)) &&& (1 : Int32)) = 0 then (
        some (0 : Int64)
        ) else (
        chk (isO M 1 o) <|
        bnd (mR M o 0) fun o8 =>
        chk (isO M 101 o8) <|
        chk (inB a1 (mLn M o8)) <|
        some (mL M o8 (a1).toNatClampNeg)
        )
      ) else (
      chk (isO M 1 o) <|
      bnd (mR M o 0) fun o13 =>
      chk (isO M 101 o13) <|
      chk (inB a1 (mLn M o13)) <|
      chk (inB a2 6) <|
      some ((mL M o13 (a1).toNatClampNeg) &&& (l_HV (a2).toNatClampNeg))
      )
    ) else (
    chk (isO M 1 o) <|
    bnd (mR M o 0) fun o19 =>
    chk (isO M 101 o19) <|
    chk (inB a1 (mLn M o19)) <|
    some (mL M o19 (a1).toNatClampNeg)
    )
theorem cd_X1_having : (yX1_having.cls ≠ "java/lang/invoke/MethodHandle" ∧ yX1_having.cls ≠ "java/lang/invoke/VarHandle") ∧ (parseMethodDescriptor yX1_having.desc).map (fun d => d.parameters.length) = some 2 := ⟨⟨by decide +kernel, by decide +kernel⟩, by decide +kernel⟩
theorem k_X1_having (G : Gam) {o : Nat} {a1 : Int32} {a2 : Int32} {M : Mem} {rv : Int64} (hf : f_X1_having o a1 a2 M = some rv) : Kt yX1_having cX1_having 3 (some .long) 0 0 G [.ref (gB G + o), .int a1, .int a2] M M (some (.long rv)) := by
  refine Kt.of (by decide) (Nat.le_of_ble_eq_true rfl) ?_
  intro p l e R s m args below meth c X hr hlk hnm
  refine s_drop [0, 1, 2] (vs' := [(0, .ref (gB G + o)), (1, .int a1), (2, .int a2)]) rfl ?_
  rw [f_X1_having] at hf
  refine s_iload_n X 2 dX1_having_0 rfl rfl ?_
  have hs1 := pk_ite hf
  clear hf
  refine s_if_ge X (tgt := 11) dX1_having_1 rfl (fun c2 => ?_) (fun c2 => ?_)
  · have hf := hs1.1 c2
    refine s_iload_n X 2 dX1_having_11 rfl rfl ?_
    refine s_bipush X (v := (6 : Int32)) dX1_having_12 rfl ?_
    have hs3 := pk_ite hf
    clear hf
    refine s_icmp_ge X (tgt := 30) dX1_having_14 rfl (fun c4 => ?_) (fun c4 => ?_)
    · have hf := hs3.1 c4
      refine s_iload_n X 1 dX1_having_30 rfl rfl ?_
      refine s_iload_n X 2 dX1_having_31 rfl rfl ?_
      refine s_bipush X (v := (6 : Int32)) dX1_having_32 rfl ?_
      refine s_isub X dX1_having_34 ?_
      refine s_ishr X dX1_having_35 ?_
      refine s_iconst X (v := (1 : Int32)) dX1_having_36 rfl ?_
      refine s_iand X dX1_having_37 ?_
      have hs5 := pk_ite hf
      clear hf
      refine s_if_eq X (tgt := 50) dX1_having_38 rfl (fun c6 => ?_) (fun c6 => ?_)
      · have hf := hs5.1 c6
        refine s_lconst X (v := (0 : Int64)) dX1_having_50 rfl ?_
        cases hf
        exact s_lret X hr hlk dX1_having_51
      · have hf := hs5.2 c6
        refine s_aload_n X 0 dX1_having_41 rfl rfl ?_
        obtain ⟨h7, hf⟩ := pk_chk hf
        obtain ⟨o8, e9, hf⟩ := pk_bnd hf
        obtain ⟨h10, hf⟩ := pk_chk hf
        refine s_getR X (ci := 1) (k := 0) rfl (Nat.le_of_ble_eq_true rfl) h7 wd197 (fun _ _ _ => rfl) (e9 ▸ h10) dX1_having_42 (e9 ▸ ?_)
        refine s_iload_n X 1 dX1_having_45 rfl rfl ?_
        obtain ⟨h11, hf⟩ := pk_chk hf
        refine s_lald X h10 h11 dX1_having_46 ?_
        refine s_goto X (tgt := 51) dX1_having_47 rfl ?_
        cases hf
        exact s_lret X hr hlk dX1_having_51
    · have hf := hs3.2 c4
      refine s_aload_n X 0 dX1_having_17 rfl rfl ?_
      obtain ⟨h12, hf⟩ := pk_chk hf
      obtain ⟨o13, e14, hf⟩ := pk_bnd hf
      obtain ⟨h15, hf⟩ := pk_chk hf
      refine s_getR X (ci := 1) (k := 0) rfl (Nat.le_of_ble_eq_true rfl) h12 wd197 (fun _ _ _ => rfl) (e14 ▸ h15) dX1_having_18 (e14 ▸ ?_)
      refine s_iload_n X 1 dX1_having_21 rfl rfl ?_
      obtain ⟨h16, hf⟩ := pk_chk hf
      refine s_lald X h15 h16 dX1_having_22 ?_
      refine s_gets X (X.2.2.2.2.2.2.1.2.2.2.1.1) wd819 dX1_having_23 ?_
      refine s_iload_n X 2 dX1_having_26 rfl rfl ?_
      obtain ⟨h17, hf⟩ := pk_chk hf
      refine s_stl X (X.2.2.2.2.2.2.1.2.2.2.1.2) h17 dX1_having_27 ?_
      refine s_land X dX1_having_28 ?_
      cases hf
      exact s_lret X hr hlk dX1_having_29
  · have hf := hs1.2 c2
    refine s_aload_n X 0 dX1_having_4 rfl rfl ?_
    obtain ⟨h18, hf⟩ := pk_chk hf
    obtain ⟨o19, e20, hf⟩ := pk_bnd hf
    obtain ⟨h21, hf⟩ := pk_chk hf
    refine s_getR X (ci := 1) (k := 0) rfl (Nat.le_of_ble_eq_true rfl) h18 wd197 (fun _ _ _ => rfl) (e20 ▸ h21) dX1_having_5 (e20 ▸ ?_)
    refine s_iload_n X 1 dX1_having_8 rfl rfl ?_
    obtain ⟨h22, hf⟩ := pk_chk hf
    refine s_lald X h21 h22 dX1_having_9 ?_
    cases hf
    exact s_lret X hr hlk dX1_having_10
theorem dX1_weigh_0 : decode cX1_weigh 0 = .ok (.lconst 0, 1) := dk_9 (by decide +kernel)
theorem dX1_weigh_1 : decode cX1_weigh 1 = .ok (.lstore_n 3, 1) := dk_66 (by decide +kernel)
theorem dX1_weigh_2 : decode cX1_weigh 2 = .ok (.iconst 0, 1) := dk_3 (by decide +kernel)
theorem dX1_weigh_3 : decode cX1_weigh 3 = .ok (.istore 5, 2) := dk_54 (x := 5) (by decide +kernel)
theorem dX1_weigh_5 : decode cX1_weigh 5 = .ok (.iload 5, 2) := dk_21 (x := 5) (by decide +kernel)
theorem dX1_weigh_7 : decode cX1_weigh 7 = .ok (.aload_n 0, 1) := dk_42 (by decide +kernel)
theorem dX1_weigh_8 : decode cX1_weigh 8 = .ok (.getfield 19, 3) := dk_180 (x := 0) (y := 19) (by decide +kernel) rfl
theorem dX1_weigh_11 : decode cX1_weigh 11 = .ok (.if_icmp .ge 68, 3) := dk_162 (x := 0) (y := 68) (by decide +kernel) rfl
theorem dX1_weigh_14 : decode cX1_weigh 14 = .ok (.aload_n 0, 1) := dk_42 (by decide +kernel)
theorem dX1_weigh_15 : decode cX1_weigh 15 = .ok (.iload 5, 2) := dk_21 (x := 5) (by decide +kernel)
theorem dX1_weigh_17 : decode cX1_weigh 17 = .ok (.iload_n 1, 1) := dk_27 (by decide +kernel)
theorem dX1_weigh_18 : decode cX1_weigh 18 = .ok (.invokevirtual 50, 3) := dk_182 (x := 0) (y := 50) (by decide +kernel) rfl
theorem dX1_weigh_21 : decode cX1_weigh 21 = .ok (.lstore 6, 2) := dk_55 (x := 6) (by decide +kernel)
theorem dX1_weigh_23 : decode cX1_weigh 23 = .ok (.iconst 0, 1) := dk_3 (by decide +kernel)
theorem dX1_weigh_24 : decode cX1_weigh 24 = .ok (.istore 8, 2) := dk_54 (x := 8) (by decide +kernel)
theorem dX1_weigh_26 : decode cX1_weigh 26 = .ok (.iload 8, 2) := dk_21 (x := 8) (by decide +kernel)
theorem dX1_weigh_28 : decode cX1_weigh 28 = .ok (.bipush 6, 2) := dk_16 (x := 6) (by decide +kernel) rfl
theorem dX1_weigh_30 : decode cX1_weigh 30 = .ok (.if_icmp .gt 43, 3) := dk_163 (x := 0) (y := 43) (by decide +kernel) rfl
theorem dX1_weigh_33 : decode cX1_weigh 33 = .ok (.lload 6, 2) := dk_22 (x := 6) (by decide +kernel)
theorem dX1_weigh_35 : decode cX1_weigh 35 = .ok (.lconst 0, 1) := dk_9 (by decide +kernel)
theorem dX1_weigh_36 : decode cX1_weigh 36 = .ok (.lcmp, 1) := dk_148 (by decide +kernel)
theorem dX1_weigh_37 : decode cX1_weigh 37 = .ok (.ifCond .eq 36, 3) := dk_153 (x := 0) (y := 36) (by decide +kernel) rfl
theorem dX1_weigh_40 : decode cX1_weigh 40 = .ok (.lload_n 3, 1) := dk_33 (by decide +kernel)
theorem dX1_weigh_41 : decode cX1_weigh 41 = .ok (.lload 6, 2) := dk_22 (x := 6) (by decide +kernel)
theorem dX1_weigh_43 : decode cX1_weigh 43 = .ok (.getstatic 43, 3) := dk_178 (x := 0) (y := 43) (by decide +kernel) rfl
theorem dX1_weigh_46 : decode cX1_weigh 46 = .ok (.iload 8, 2) := dk_21 (x := 8) (by decide +kernel)
theorem dX1_weigh_48 : decode cX1_weigh 48 = .ok (.laload, 1) := dk_47 (by decide +kernel)
theorem dX1_weigh_49 : decode cX1_weigh 49 = .ok (.land, 1) := dk_127 (by decide +kernel)
theorem dX1_weigh_50 : decode cX1_weigh 50 = .ok (.invokestatic 54, 3) := dk_184 (x := 0) (y := 54) (by decide +kernel) rfl
theorem dX1_weigh_53 : decode cX1_weigh 53 = .ok (.i2l, 1) := dk_133 (by decide +kernel)
theorem dX1_weigh_54 : decode cX1_weigh 54 = .ok (.aload_n 2, 1) := dk_44 (by decide +kernel)
theorem dX1_weigh_55 : decode cX1_weigh 55 = .ok (.iload 5, 2) := dk_21 (x := 5) (by decide +kernel)
theorem dX1_weigh_57 : decode cX1_weigh 57 = .ok (.invokestatic 37, 3) := dk_184 (x := 0) (y := 37) (by decide +kernel) rfl
theorem dX1_weigh_60 : decode cX1_weigh 60 = .ok (.iload 8, 2) := dk_21 (x := 8) (by decide +kernel)
theorem dX1_weigh_62 : decode cX1_weigh 62 = .ok (.iadd, 1) := dk_96 (by decide +kernel)
theorem dX1_weigh_63 : decode cX1_weigh 63 = .ok (.laload, 1) := dk_47 (by decide +kernel)
theorem dX1_weigh_64 : decode cX1_weigh 64 = .ok (.lmul, 1) := dk_105 (by decide +kernel)
theorem dX1_weigh_65 : decode cX1_weigh 65 = .ok (.ladd, 1) := dk_97 (by decide +kernel)
theorem dX1_weigh_66 : decode cX1_weigh 66 = .ok (.lstore_n 3, 1) := dk_66 (by decide +kernel)
theorem dX1_weigh_67 : decode cX1_weigh 67 = .ok (.iinc 8 1, 3) := dk_132 (x := 8) (y := 1) (by decide +kernel) rfl
theorem dX1_weigh_70 : decode cX1_weigh 70 = .ok (.goto (-44), 3) := dk_167 (x := 255) (y := 212) (by decide +kernel) rfl
theorem dX1_weigh_73 : decode cX1_weigh 73 = .ok (.iinc 5 1, 3) := dk_132 (x := 5) (y := 1) (by decide +kernel) rfl
theorem dX1_weigh_76 : decode cX1_weigh 76 = .ok (.goto (-71), 3) := dk_167 (x := 255) (y := 185) (by decide +kernel) rfl
theorem dX1_weigh_79 : decode cX1_weigh 79 = .ok (.lload_n 3, 1) := dk_33 (by decide +kernel)
theorem dX1_weigh_80 : decode cX1_weigh 80 = .ok (.lreturn, 1) := dk_173 (by decide +kernel)
def f_X1_weigh_26 (k_5 : Nat → Int32 → Nat → Int64 → Int32 → Option Int64) (M : Mem) : Nat → Nat → Int32 → Nat → Int64 → Int32 → Int64 → Int32 → Option Int64
  | 0, _, _, _, _, _, _, _ => none
  | n + 1, v0, v1, v2, v3, v5, v6, v8 =>
    if (6 : Int32) < v8 then (
      bnd (v5 + (1 : Int32)) fun x3 =>
      k_5 v0 v1 v2 v3 x3
      ) else (
      if (lg_cmp v6 (0 : Int64)) = 0 then (
        bnd (v5 + (1 : Int32)) fun x7 =>
        k_5 v0 v1 v2 v3 x7
        ) else (
        chk (inB v8 7) <|
        obd (f_J13_bitCount_95d88 (v6 &&& (l_OS (v8).toNatClampNeg)) M) fun r11 =>
        obd (f_J6_bitCount_0f7a4 v5 M) fun r13 =>
        chk (isO M 101 v2) <|
        chk (inB (r13 + v8) (mLn M v2)) <|
        bnd (v3 + (((r11).toInt64) * (mL M v2 ((r13 + v8)).toNatClampNeg))) fun x16 =>
        bnd (v8 + (1 : Int32)) fun x18 =>
        f_X1_weigh_26 k_5 M n v0 v1 v2 x16 v5 v6 x18
        )
      )
def f_X1_weigh_5 (M : Mem) : Nat → Nat → Int32 → Nat → Int64 → Int32 → Option Int64
  | 0, _, _, _, _, _ => none
  | n + 1, v0, v1, v2, v3, v5 =>
    chk (isO M 1 v0) <|
    if (mI M v0 2) ≤ v5 then (
      some v3
      ) else (
      obd (f_X1_having v0 v5 v1 M) fun r5 =>
      f_X1_weigh_26 (f_X1_weigh_5 M n) M n v0 v1 v2 v3 v5 r5 (0 : Int32)
      )
def f_X1_weigh (n : Nat) (o : Nat) (a1 : Int32) (a2 : Nat) (M : Mem) : Option Int64 :=
  f_X1_weigh_5 M n o a1 a2 (0 : Int64) (0 : Int32)
theorem cd_X1_weigh : (yX1_weigh.cls ≠ "java/lang/invoke/MethodHandle" ∧ yX1_weigh.cls ≠ "java/lang/invoke/VarHandle") ∧ (parseMethodDescriptor yX1_weigh.desc).map (fun d => d.parameters.length) = some 2 := ⟨⟨by decide +kernel, by decide +kernel⟩, by decide +kernel⟩
section
variable {p : Program} {l : Launch} {e : Env} {R : Room} {s : State} {m : MethodId} {args : Array Value} {below : List Frame} {meth : Method} {c : Code} {G : Gam} {M0 : Mem}
theorem l_X1_weigh_26 {k_5 : Nat → Int32 → Nat → Int64 → Int32 → Option Int64} {M : Mem} {rv : Int64} (X : Cx p R s m args c G M0 cX1_weigh yX1_weigh.cls 9 1 22) (hr : meth.sig.returnType = (some .long)) (hlk : meth.locks = false) (hnm : meth.name = "weigh") (hk_5 : ∀ (v0 : Nat), ∀ (v1 : Int32), ∀ (v2 : Nat), ∀ (v3 : Int64), ∀ (v5 : Int32), k_5 v0 v1 v2 v3 v5 = some rv → Sg p l e R s m args below meth c (Qm below G args s (some (.long rv)) M0 M) G M0 9 5 [(0, .ref (gB G + v0)), (1, .int v1), (2, .ref (gB G + v2)), (3, .long v3), (5, .int v5)] [] M) : ∀ {n : Nat} (v0 : Nat) (v1 : Int32) (v2 : Nat) (v3 : Int64) (v5 : Int32) (v6 : Int64) (v8 : Int32), f_X1_weigh_26 k_5 M n v0 v1 v2 v3 v5 v6 v8 = some rv → Sg p l e R s m args below meth c (Qm below G args s (some (.long rv)) M0 M) G M0 9 26 [(0, .ref (gB G + v0)), (1, .int v1), (2, .ref (gB G + v2)), (3, .long v3), (5, .int v5), (6, .long v6), (8, .int v8)] [] M := by
  intro n
  induction n with
  | zero => intro v0 v1 v2 v3 v5 v6 v8 hf; exact (pk_none hf).elim
  | succ n ih =>
    intro v0 v1 v2 v3 v5 v6 v8 hf
    rw [f_X1_weigh_26] at hf
    refine s_iload X 6 dX1_weigh_26 rfl ?_
    refine s_bipush X (v := (6 : Int32)) dX1_weigh_28 rfl ?_
    have hs1 := pk_ite hf
    clear hf
    refine s_icmp_gt X (tgt := 73) dX1_weigh_30 rfl (fun c2 => ?_) (fun c2 => ?_)
    · have hf := hs1.1 c2
      obtain ⟨x3, e4, hf⟩ := pk_bnd hf
      refine s_iinc X (vs' := [(0, .ref (gB G + v0)), (1, .int v1), (2, .ref (gB G + v2)), (3, .long v3), (5, .int x3), (6, .long v6), (8, .int v8)]) 4 dX1_weigh_73 rfl (v := x3) e4.symm (Nat.le_of_ble_eq_true rfl) [1, 2, 3, 4, 0, 5, 6] rfl ?_
      refine s_goto X (tgt := 5) dX1_weigh_76 rfl ?_
      refine s_drop [0, 1, 2, 3, 4] (vs' := [(0, .ref (gB G + v0)), (1, .int v1), (2, .ref (gB G + v2)), (3, .long v3), (5, .int x3)]) rfl ?_
      exact hk_5 _ _ _ _ _ hf
    · have hf := hs1.2 c2
      refine s_lload X 5 dX1_weigh_33 rfl ?_
      refine s_lconst X (v := (0 : Int64)) dX1_weigh_35 rfl ?_
      refine s_lcmp X dX1_weigh_36 ?_
      have hs5 := pk_ite hf
      clear hf
      refine s_if_eq X (tgt := 73) dX1_weigh_37 rfl (fun c6 => ?_) (fun c6 => ?_)
      · have hf := hs5.1 c6
        obtain ⟨x7, e8, hf⟩ := pk_bnd hf
        refine s_iinc X (vs' := [(0, .ref (gB G + v0)), (1, .int v1), (2, .ref (gB G + v2)), (3, .long v3), (5, .int x7), (6, .long v6), (8, .int v8)]) 4 dX1_weigh_73 rfl (v := x7) e8.symm (Nat.le_of_ble_eq_true rfl) [1, 2, 3, 4, 0, 5, 6] rfl ?_
        refine s_goto X (tgt := 5) dX1_weigh_76 rfl ?_
        refine s_drop [0, 1, 2, 3, 4] (vs' := [(0, .ref (gB G + v0)), (1, .int v1), (2, .ref (gB G + v2)), (3, .long v3), (5, .int x7)]) rfl ?_
        exact hk_5 _ _ _ _ _ hf
      · have hf := hs5.2 c6
        refine s_lload_n X 3 dX1_weigh_40 rfl rfl ?_
        refine s_lload X 5 dX1_weigh_41 rfl ?_
        refine s_gets X (X.2.2.2.2.2.2.1.2.2.2.2.1) wd836 dX1_weigh_43 ?_
        refine s_iload X 6 dX1_weigh_46 rfl ?_
        obtain ⟨h9, hf⟩ := pk_chk hf
        refine s_stl X (X.2.2.2.2.2.2.1.2.2.2.2.2) h9 dX1_weigh_48 ?_
        refine s_land X dX1_weigh_49 ?_
        obtain ⟨r11, hc10, hf⟩ := pk_obd hf
        refine s_callS X (k_J13_bitCount_95d88 G hc10) wd871 wd742 wd743 wd140 cd_J13_bitCount_95d88 ⟨Nat.le_of_ble_eq_true rfl, Nat.le_of_ble_eq_true rfl⟩ (Nat.le_of_ble_eq_true rfl) dX1_weigh_50 ?_
        refine s_i2l X dX1_weigh_53 ?_
        refine s_aload_n X 2 dX1_weigh_54 rfl rfl ?_
        refine s_iload X 4 dX1_weigh_55 rfl ?_
        obtain ⟨r13, hc12, hf⟩ := pk_obd hf
        refine s_callS X (k_J6_bitCount_0f7a4 G hc12) wd830 wd831 wd832 wd141 cd_J6_bitCount_0f7a4 ⟨Nat.le_of_ble_eq_true rfl, Nat.le_of_ble_eq_true rfl⟩ (Nat.le_of_ble_eq_true rfl) dX1_weigh_57 ?_
        refine s_iload X 6 dX1_weigh_60 rfl ?_
        refine s_iadd X dX1_weigh_62 ?_
        obtain ⟨h14, hf⟩ := pk_chk hf
        obtain ⟨h15, hf⟩ := pk_chk hf
        refine s_lald X h14 h15 dX1_weigh_63 ?_
        refine s_lmul X dX1_weigh_64 ?_
        refine s_ladd X dX1_weigh_65 ?_
        obtain ⟨x16, e17, hf⟩ := pk_bnd hf
        refine s_nmL e17 ?_
        refine s_lstore_n X (vs' := [(0, .ref (gB G + v0)), (1, .int v1), (2, .ref (gB G + v2)), (3, .long x16), (5, .int v5), (6, .long v6), (8, .int v8)]) dX1_weigh_66 rfl (Nat.le_of_ble_eq_true rfl) [1, 2, 3, 0, 4, 5, 6] rfl ?_
        obtain ⟨x18, e19, hf⟩ := pk_bnd hf
        refine s_iinc X (vs' := [(0, .ref (gB G + v0)), (1, .int v1), (2, .ref (gB G + v2)), (3, .long x16), (5, .int v5), (6, .long v6), (8, .int x18)]) 6 dX1_weigh_67 rfl (v := x18) e19.symm (Nat.le_of_ble_eq_true rfl) [1, 2, 3, 4, 5, 6, 0] rfl ?_
        refine s_goto X (tgt := 26) dX1_weigh_70 rfl ?_
        exact ih _ _ _ _ _ _ _ hf
theorem l_X1_weigh_5 {M : Mem} {rv : Int64} (X : Cx p R s m args c G M0 cX1_weigh yX1_weigh.cls 9 1 22) (hr : meth.sig.returnType = (some .long)) (hlk : meth.locks = false) (hnm : meth.name = "weigh") : ∀ {n : Nat} (v0 : Nat) (v1 : Int32) (v2 : Nat) (v3 : Int64) (v5 : Int32), f_X1_weigh_5 M n v0 v1 v2 v3 v5 = some rv → Sg p l e R s m args below meth c (Qm below G args s (some (.long rv)) M0 M) G M0 9 5 [(0, .ref (gB G + v0)), (1, .int v1), (2, .ref (gB G + v2)), (3, .long v3), (5, .int v5)] [] M := by
  intro n
  induction n with
  | zero => intro v0 v1 v2 v3 v5 hf; exact (pk_none hf).elim
  | succ n ih =>
    intro v0 v1 v2 v3 v5 hf
    rw [f_X1_weigh_5] at hf
    refine s_iload X 4 dX1_weigh_5 rfl ?_
    refine s_aload_n X 0 dX1_weigh_7 rfl rfl ?_
    obtain ⟨h1, hf⟩ := pk_chk hf
    refine s_getI X (ci := 1) (k := 2) rfl (Nat.le_of_ble_eq_true rfl) h1 wd199 (fun _ _ _ => rfl) dX1_weigh_8 ?_
    have hs2 := pk_ite hf
    clear hf
    refine s_icmp_ge X (tgt := 79) dX1_weigh_11 rfl (fun c3 => ?_) (fun c3 => ?_)
    · have hf := hs2.1 c3
      refine s_lload_n X 3 dX1_weigh_79 rfl rfl ?_
      cases hf
      exact s_lret X hr hlk dX1_weigh_80
    · have hf := hs2.2 c3
      refine s_aload_n X 0 dX1_weigh_14 rfl rfl ?_
      refine s_iload X 4 dX1_weigh_15 rfl ?_
      refine s_iload_n X 1 dX1_weigh_17 rfl rfl ?_
      obtain ⟨r5, hc4, hf⟩ := pk_obd hf
      refine s_callV X (ci := 1) (k_X1_having G hc4) rfl h1 wd867 wd869 wd11 wd870 wd129 cd_X1_having ⟨Nat.le_of_ble_eq_true rfl, Nat.le_of_ble_eq_true rfl⟩ (Nat.le_of_ble_eq_true rfl) dX1_weigh_18 ?_
      refine s_lstore X (vs' := [(0, .ref (gB G + v0)), (1, .int v1), (2, .ref (gB G + v2)), (3, .long v3), (5, .int v5), (6, .long r5)]) dX1_weigh_21 (Nat.le_of_ble_eq_true rfl) [1, 2, 3, 4, 5, 0] rfl ?_
      refine s_iconst X (v := (0 : Int32)) dX1_weigh_23 rfl ?_
      refine s_istore X (vs' := [(0, .ref (gB G + v0)), (1, .int v1), (2, .ref (gB G + v2)), (3, .long v3), (5, .int v5), (6, .long r5), (8, .int (0 : Int32))]) dX1_weigh_24 (Nat.le_of_ble_eq_true rfl) [1, 2, 3, 4, 5, 6, 0] rfl ?_
      exact l_X1_weigh_26 X hr hlk hnm ih _ _ _ _ _ _ _ hf
end
theorem k_X1_weigh (G : Gam) {n : Nat} {o : Nat} {a1 : Int32} {a2 : Nat} {M : Mem} {rv : Int64} (hf : f_X1_weigh n o a1 a2 M = some rv) : Kt yX1_weigh cX1_weigh 9 (some .long) 1 22 G [.ref (gB G + o), .int a1, .ref (gB G + a2)] M M (some (.long rv)) := by
  refine Kt.of (by decide) (Nat.le_of_ble_eq_true rfl) ?_
  intro p l e R s m args below meth c X hr hlk hnm
  refine s_drop [0, 1, 2] (vs' := [(0, .ref (gB G + o)), (1, .int a1), (2, .ref (gB G + a2))]) rfl ?_
  rw [f_X1_weigh] at hf
  refine s_lconst X (v := (0 : Int64)) dX1_weigh_0 rfl ?_
  refine s_lstore_n X (vs' := [(0, .ref (gB G + o)), (1, .int a1), (2, .ref (gB G + a2)), (3, .long (0 : Int64))]) dX1_weigh_1 rfl (Nat.le_of_ble_eq_true rfl) [1, 2, 3, 0] rfl ?_
  refine s_iconst X (v := (0 : Int32)) dX1_weigh_2 rfl ?_
  refine s_istore X (vs' := [(0, .ref (gB G + o)), (1, .int a1), (2, .ref (gB G + a2)), (3, .long (0 : Int64)), (5, .int (0 : Int32))]) dX1_weigh_3 (Nat.le_of_ble_eq_true rfl) [1, 2, 3, 4, 0] rfl ?_
  exact l_X1_weigh_5 X hr hlk hnm _ _ _ _ _ hf
theorem dX8_millionths_0 : decode cX8_millionths 0 = .ok (.iconst 0, 1) := dk_3 (by decide +kernel)
theorem dX8_millionths_1 : decode cX8_millionths 1 = .ok (.istore 4, 2) := dk_54 (x := 4) (by decide +kernel)
theorem dX8_millionths_3 : decode cX8_millionths 3 = .ok (.iload 4, 2) := dk_21 (x := 4) (by decide +kernel)
theorem dX8_millionths_5 : decode cX8_millionths 5 = .ok (.iload_n 3, 1) := dk_29 (by decide +kernel)
theorem dX8_millionths_6 : decode cX8_millionths 6 = .ok (.if_icmp .gt 34, 3) := dk_163 (x := 0) (y := 34) (by decide +kernel) rfl
theorem dX8_millionths_9 : decode cX8_millionths 9 = .ok (.aload_n 0, 1) := dk_42 (by decide +kernel)
theorem dX8_millionths_10 : decode cX8_millionths 10 = .ok (.getfield 21, 3) := dk_180 (x := 0) (y := 21) (by decide +kernel) rfl
theorem dX8_millionths_13 : decode cX8_millionths 13 = .ok (.iload 4, 2) := dk_21 (x := 4) (by decide +kernel)
theorem dX8_millionths_15 : decode cX8_millionths 15 = .ok (.bipush 10, 2) := dk_16 (x := 10) (by decide +kernel) rfl
theorem dX8_millionths_17 : decode cX8_millionths 17 = .ok (.iload_n 2, 1) := dk_28 (by decide +kernel)
theorem dX8_millionths_18 : decode cX8_millionths 18 = .ok (.isub, 1) := dk_100 (by decide +kernel)
theorem dX8_millionths_19 : decode cX8_millionths 19 = .ok (.iload 4, 2) := dk_21 (x := 4) (by decide +kernel)
theorem dX8_millionths_21 : decode cX8_millionths 21 = .ok (.invokestatic 74, 3) := dk_184 (x := 0) (y := 74) (by decide +kernel) rfl
theorem dX8_millionths_24 : decode cX8_millionths 24 = .ok (.iload_n 2, 1) := dk_28 (by decide +kernel)
theorem dX8_millionths_25 : decode cX8_millionths 25 = .ok (.iload_n 3, 1) := dk_29 (by decide +kernel)
theorem dX8_millionths_26 : decode cX8_millionths 26 = .ok (.iload 4, 2) := dk_21 (x := 4) (by decide +kernel)
theorem dX8_millionths_28 : decode cX8_millionths 28 = .ok (.isub, 1) := dk_100 (by decide +kernel)
theorem dX8_millionths_29 : decode cX8_millionths 29 = .ok (.invokestatic 74, 3) := dk_184 (x := 0) (y := 74) (by decide +kernel) rfl
theorem dX8_millionths_32 : decode cX8_millionths 32 = .ok (.lmul, 1) := dk_105 (by decide +kernel)
theorem dX8_millionths_33 : decode cX8_millionths 33 = .ok (.lastore, 1) := dk_80 (by decide +kernel)
theorem dX8_millionths_34 : decode cX8_millionths 34 = .ok (.iinc 4 1, 3) := dk_132 (x := 4) (y := 1) (by decide +kernel) rfl
theorem dX8_millionths_37 : decode cX8_millionths 37 = .ok (.goto (-34), 3) := dk_167 (x := 255) (y := 222) (by decide +kernel) rfl
theorem dX8_millionths_40 : decode cX8_millionths 40 = .ok (.aload_n 0, 1) := dk_42 (by decide +kernel)
theorem dX8_millionths_41 : decode cX8_millionths 41 = .ok (.getfield 18, 3) := dk_180 (x := 0) (y := 18) (by decide +kernel) rfl
theorem dX8_millionths_44 : decode cX8_millionths 44 = .ok (.iload_n 1, 1) := dk_27 (by decide +kernel)
theorem dX8_millionths_45 : decode cX8_millionths 45 = .ok (.aload_n 0, 1) := dk_42 (by decide +kernel)
theorem dX8_millionths_46 : decode cX8_millionths 46 = .ok (.getfield 21, 3) := dk_180 (x := 0) (y := 21) (by decide +kernel) rfl
theorem dX8_millionths_49 : decode cX8_millionths 49 = .ok (.invokevirtual 78, 3) := dk_182 (x := 0) (y := 78) (by decide +kernel) rfl
theorem dX8_millionths_52 : decode cX8_millionths 52 = .ok (.lstore 4, 2) := dk_55 (x := 4) (by decide +kernel)
theorem dX8_millionths_54 : decode cX8_millionths 54 = .ok (.iload_n 3, 1) := dk_29 (by decide +kernel)
theorem dX8_millionths_55 : decode cX8_millionths 55 = .ok (.bipush 6, 2) := dk_16 (x := 6) (by decide +kernel) rfl
theorem dX8_millionths_57 : decode cX8_millionths 57 = .ok (.if_icmp .ge 17, 3) := dk_162 (x := 0) (y := 17) (by decide +kernel) rfl
theorem dX8_millionths_60 : decode cX8_millionths 60 = .ok (.lload 4, 2) := dk_22 (x := 4) (by decide +kernel)
theorem dX8_millionths_62 : decode cX8_millionths 62 = .ok (.bipush 10, 2) := dk_16 (x := 10) (by decide +kernel) rfl
theorem dX8_millionths_64 : decode cX8_millionths 64 = .ok (.bipush 6, 2) := dk_16 (x := 6) (by decide +kernel) rfl
theorem dX8_millionths_66 : decode cX8_millionths 66 = .ok (.iload_n 3, 1) := dk_29 (by decide +kernel)
theorem dX8_millionths_67 : decode cX8_millionths 67 = .ok (.isub, 1) := dk_100 (by decide +kernel)
theorem dX8_millionths_68 : decode cX8_millionths 68 = .ok (.invokestatic 74, 3) := dk_184 (x := 0) (y := 74) (by decide +kernel) rfl
theorem dX8_millionths_71 : decode cX8_millionths 71 = .ok (.lmul, 1) := dk_105 (by decide +kernel)
theorem dX8_millionths_72 : decode cX8_millionths 72 = .ok (.l2i, 1) := dk_136 (by decide +kernel)
theorem dX8_millionths_73 : decode cX8_millionths 73 = .ok (.ireturn, 1) := dk_172 (by decide +kernel)
theorem dX8_millionths_74 : decode cX8_millionths 74 = .ok (.lload 4, 2) := dk_22 (x := 4) (by decide +kernel)
theorem dX8_millionths_76 : decode cX8_millionths 76 = .ok (.lconst 1, 1) := dk_10 (by decide +kernel)
theorem dX8_millionths_77 : decode cX8_millionths 77 = .ok (.bipush 10, 2) := dk_16 (x := 10) (by decide +kernel) rfl
theorem dX8_millionths_79 : decode cX8_millionths 79 = .ok (.iload_n 3, 1) := dk_29 (by decide +kernel)
theorem dX8_millionths_80 : decode cX8_millionths 80 = .ok (.bipush 6, 2) := dk_16 (x := 6) (by decide +kernel) rfl
theorem dX8_millionths_82 : decode cX8_millionths 82 = .ok (.isub, 1) := dk_100 (by decide +kernel)
theorem dX8_millionths_83 : decode cX8_millionths 83 = .ok (.invokestatic 74, 3) := dk_184 (x := 0) (y := 74) (by decide +kernel) rfl
theorem dX8_millionths_86 : decode cX8_millionths 86 = .ok (.invokestatic 82, 3) := dk_184 (x := 0) (y := 82) (by decide +kernel) rfl
theorem dX8_millionths_89 : decode cX8_millionths 89 = .ok (.ldiv, 1) := dk_109 (by decide +kernel)
theorem dX8_millionths_90 : decode cX8_millionths 90 = .ok (.l2i, 1) := dk_136 (by decide +kernel)
theorem dX8_millionths_91 : decode cX8_millionths 91 = .ok (.ireturn, 1) := dk_172 (by decide +kernel)
def f_X8_millionths_3 : Nat → Nat → Int32 → Int32 → Int32 → Int32 → Mem → Option (Int32 × Mem)
  | 0, _, _, _, _, _, _ => none
  | n + 1, v0, v1, v2, v3, v4, M =>
    if v3 < v4 then (
      chk (isO M 8 v0) <|
      bnd (mR M v0 1) fun o4 =>
      chk (isO M 1 o4) <|
      bnd (mR M v0 2) fun o7 =>
      chk (isO M 101 o7) <|
      obd (f_X1_weigh n o4 v1 o7 M) fun r11 =>
      if (6 : Int32) ≤ v3 then (
        obd (f_X8_power n (10 : Int32) (v3 - (6 : Int32)) M) fun r15 =>
        chk (¬ (if r15 < (1 : Int64) then (1 : Int64) else r15) = 0) <|
        some ((((r11 / (if r15 < (1 : Int64) then (1 : Int64) else r15))).toInt32), M)
        ) else (
        obd (f_X8_power n (10 : Int32) ((6 : Int32) - v3) M) fun r18 =>
        some ((((r11 * r18)).toInt32), M)
        )
      ) else (
      chk (isO M 8 v0) <|
      bnd (mR M v0 2) fun o20 =>
      chk (isO M 101 o20) <|
      obd (f_X8_power n ((10 : Int32) - v2) v4 M) fun r24 =>
      obd (f_X8_power n v2 (v3 - v4) M) fun r26 =>
      chk (inB v4 (mLn M o20)) <|
      bnd (sL M o20 (v4).toNatClampNeg (r24 * r26)) fun M28 =>
      bnd (v4 + (1 : Int32)) fun x32 =>
      f_X8_millionths_3 n v0 v1 v2 v3 x32 M28
      )
def f_X8_millionths (n : Nat) (o : Nat) (a1 : Int32) (a2 : Int32) (a3 : Int32) (M : Mem) : Option (Int32 × Mem) :=
  f_X8_millionths_3 n o a1 a2 a3 (0 : Int32) M
theorem cd_X8_millionths : (yX8_millionths.cls ≠ "java/lang/invoke/MethodHandle" ∧ yX8_millionths.cls ≠ "java/lang/invoke/VarHandle") ∧ (parseMethodDescriptor yX8_millionths.desc).map (fun d => d.parameters.length) = some 3 := ⟨⟨by decide +kernel, by decide +kernel⟩, by decide +kernel⟩
section
variable {p : Program} {l : Launch} {e : Env} {R : Room} {s : State} {m : MethodId} {args : Array Value} {below : List Frame} {meth : Method} {c : Code} {G : Gam} {M0 : Mem}
theorem l_X8_millionths_3 {rv : (Int32 × Mem)} (X : Cx p R s m args c G M0 cX8_millionths yX8_millionths.cls 6 2 50) (hr : meth.sig.returnType = (some .int)) (hlk : meth.locks = false) (hnm : meth.name = "millionths") : ∀ {n : Nat} (v0 : Nat) (v1 : Int32) (v2 : Int32) (v3 : Int32) (v4 : Int32) (M : Mem), f_X8_millionths_3 n v0 v1 v2 v3 v4 M = some rv → Sg p l e R s m args below meth c (Qm below G args s (some (.int rv.1)) M0 rv.2) G M0 6 3 [(0, .ref (gB G + v0)), (1, .int v1), (2, .int v2), (3, .int v3), (4, .int v4)] [] M := by
  intro n
  induction n with
  | zero => intro v0 v1 v2 v3 v4 M hf; exact (pk_none hf).elim
  | succ n ih =>
    intro v0 v1 v2 v3 v4 M hf
    rw [f_X8_millionths_3] at hf
    refine s_iload X 4 dX8_millionths_3 rfl ?_
    refine s_iload_n X 3 dX8_millionths_5 rfl rfl ?_
    have hs1 := pk_ite hf
    clear hf
    refine s_icmp_gt X (tgt := 40) dX8_millionths_6 rfl (fun c2 => ?_) (fun c2 => ?_)
    · have hf := hs1.1 c2
      refine s_aload_n X 0 dX8_millionths_40 rfl rfl ?_
      obtain ⟨h3, hf⟩ := pk_chk hf
      obtain ⟨o4, e5, hf⟩ := pk_bnd hf
      obtain ⟨h6, hf⟩ := pk_chk hf
      refine s_getR X (ci := 8) (k := 1) rfl (Nat.le_of_ble_eq_true rfl) h3 wd210 (fun _ _ _ => rfl) (e5 ▸ h6) dX8_millionths_41 (e5 ▸ ?_)
      refine s_iload_n X 1 dX8_millionths_44 rfl rfl ?_
      refine s_aload_n X 0 dX8_millionths_45 rfl rfl ?_
      obtain ⟨o7, e8, hf⟩ := pk_bnd hf
      obtain ⟨h9, hf⟩ := pk_chk hf
      refine s_getR X (ci := 8) (k := 2) rfl (Nat.le_of_ble_eq_true rfl) h3 wd212 (fun _ _ _ => rfl) (e8 ▸ h9) dX8_millionths_46 (e8 ▸ ?_)
      obtain ⟨r11, hc10, hf⟩ := pk_obd hf
      refine s_callV X (ci := 1) (k_X1_weigh G hc10) rfl h6 wd863 wd864 wd865 wd866 wd129 cd_X1_weigh ⟨Nat.le_of_ble_eq_true rfl, Nat.le_of_ble_eq_true rfl⟩ (Nat.le_of_ble_eq_true rfl) dX8_millionths_49 ?_
      refine s_lstore X (vs' := [(0, .ref (gB G + v0)), (1, .int v1), (2, .int v2), (3, .int v3), (4, .long r11)]) dX8_millionths_52 (Nat.le_of_ble_eq_true rfl) [1, 2, 3, 4, 0] rfl ?_
      refine s_iload_n X 3 dX8_millionths_54 rfl rfl ?_
      refine s_bipush X (v := (6 : Int32)) dX8_millionths_55 rfl ?_
      have hs12 := pk_ite hf
      clear hf
      refine s_icmp_ge X (tgt := 74) dX8_millionths_57 rfl (fun c13 => ?_) (fun c13 => ?_)
      · have hf := hs12.1 c13
        refine s_lload X 4 dX8_millionths_74 rfl ?_
        refine s_lconst X (v := (1 : Int64)) dX8_millionths_76 rfl ?_
        refine s_bipush X (v := (10 : Int32)) dX8_millionths_77 rfl ?_
        refine s_iload_n X 3 dX8_millionths_79 rfl rfl ?_
        refine s_bipush X (v := (6 : Int32)) dX8_millionths_80 rfl ?_
        refine s_isub X dX8_millionths_82 ?_
        obtain ⟨r15, hc14, hf⟩ := pk_obd hf
        refine s_callS X (k_X8_power G hc14) wd860 wd861 wd862 wd128 cd_X8_power ⟨Nat.le_of_ble_eq_true rfl, Nat.le_of_ble_eq_true rfl⟩ (Nat.le_of_ble_eq_true rfl) dX8_millionths_83 ?_
        refine s_mmaxl X wd872 wd873 wd142 wd874 ⟨Nat.le_of_ble_eq_true rfl, Nat.le_of_ble_eq_true rfl⟩ dX8_millionths_86 ?_
        obtain ⟨h16, hf⟩ := pk_chk hf
        refine s_ldiv X dX8_millionths_89 h16 ?_
        refine s_l2i X dX8_millionths_90 ?_
        cases hf
        exact s_iret X hr hlk dX8_millionths_91
      · have hf := hs12.2 c13
        refine s_lload X 4 dX8_millionths_60 rfl ?_
        refine s_bipush X (v := (10 : Int32)) dX8_millionths_62 rfl ?_
        refine s_bipush X (v := (6 : Int32)) dX8_millionths_64 rfl ?_
        refine s_iload_n X 3 dX8_millionths_66 rfl rfl ?_
        refine s_isub X dX8_millionths_67 ?_
        obtain ⟨r18, hc17, hf⟩ := pk_obd hf
        refine s_callS X (k_X8_power G hc17) wd860 wd861 wd862 wd128 cd_X8_power ⟨Nat.le_of_ble_eq_true rfl, Nat.le_of_ble_eq_true rfl⟩ (Nat.le_of_ble_eq_true rfl) dX8_millionths_68 ?_
        refine s_lmul X dX8_millionths_71 ?_
        refine s_l2i X dX8_millionths_72 ?_
        cases hf
        exact s_iret X hr hlk dX8_millionths_73
    · have hf := hs1.2 c2
      refine s_aload_n X 0 dX8_millionths_9 rfl rfl ?_
      obtain ⟨h19, hf⟩ := pk_chk hf
      obtain ⟨o20, e21, hf⟩ := pk_bnd hf
      obtain ⟨h22, hf⟩ := pk_chk hf
      refine s_getR X (ci := 8) (k := 2) rfl (Nat.le_of_ble_eq_true rfl) h19 wd212 (fun _ _ _ => rfl) (e21 ▸ h22) dX8_millionths_10 (e21 ▸ ?_)
      refine s_iload X 4 dX8_millionths_13 rfl ?_
      refine s_bipush X (v := (10 : Int32)) dX8_millionths_15 rfl ?_
      refine s_iload_n X 2 dX8_millionths_17 rfl rfl ?_
      refine s_isub X dX8_millionths_18 ?_
      refine s_iload X 4 dX8_millionths_19 rfl ?_
      obtain ⟨r24, hc23, hf⟩ := pk_obd hf
      refine s_callS X (k_X8_power G hc23) wd860 wd861 wd862 wd128 cd_X8_power ⟨Nat.le_of_ble_eq_true rfl, Nat.le_of_ble_eq_true rfl⟩ (Nat.le_of_ble_eq_true rfl) dX8_millionths_21 ?_
      refine s_iload_n X 2 dX8_millionths_24 rfl rfl ?_
      refine s_iload_n X 3 dX8_millionths_25 rfl rfl ?_
      refine s_iload X 4 dX8_millionths_26 rfl ?_
      refine s_isub X dX8_millionths_28 ?_
      obtain ⟨r26, hc25, hf⟩ := pk_obd hf
      refine s_callS X (k_X8_power G hc25) wd860 wd861 wd862 wd128 cd_X8_power ⟨Nat.le_of_ble_eq_true rfl, Nat.le_of_ble_eq_true rfl⟩ (Nat.le_of_ble_eq_true rfl) dX8_millionths_29 ?_
      refine s_lmul X dX8_millionths_32 ?_
      obtain ⟨h27, hf⟩ := pk_chk hf
      obtain ⟨M28, e29, hf⟩ := pk_bnd hf
      refine s_last X h22 h27 e29 dX8_millionths_33 ?_
      have h30 := io_sL e29 h19
      have h31 := io_sL e29 h22
      obtain ⟨x32, e33, hf⟩ := pk_bnd hf
      refine s_iinc X (vs' := [(0, .ref (gB G + v0)), (1, .int v1), (2, .int v2), (3, .int v3), (4, .int x32)]) 4 dX8_millionths_34 rfl (v := x32) e33.symm (Nat.le_of_ble_eq_true rfl) [1, 2, 3, 4, 0] rfl ?_
      refine s_goto X (tgt := 3) dX8_millionths_37 rfl ?_
      exact ih _ _ _ _ _ _ hf
end
theorem k_X8_millionths (G : Gam) {n : Nat} {o : Nat} {a1 : Int32} {a2 : Int32} {a3 : Int32} {M : Mem} {rv : (Int32 × Mem)} (hf : f_X8_millionths n o a1 a2 a3 M = some rv) : Kt yX8_millionths cX8_millionths 6 (some .int) 2 50 G [.ref (gB G + o), .int a1, .int a2, .int a3] M rv.2 (some (.int rv.1)) := by
  refine Kt.of (by decide) (Nat.le_of_ble_eq_true rfl) ?_
  intro p l e R s m args below meth c X hr hlk hnm
  refine s_drop [0, 1, 2, 3] (vs' := [(0, .ref (gB G + o)), (1, .int a1), (2, .int a2), (3, .int a3)]) rfl ?_
  rw [f_X8_millionths] at hf
  refine s_iconst X (v := (0 : Int32)) dX8_millionths_0 rfl ?_
  refine s_istore X (vs' := [(0, .ref (gB G + o)), (1, .int a1), (2, .int a2), (3, .int a3), (4, .int (0 : Int32))]) dX8_millionths_1 (Nat.le_of_ble_eq_true rfl) [1, 2, 3, 4, 0] rfl ?_
  exact l_X8_millionths_3 X hr hlk hnm _ _ _ _ _ _ hf
theorem dX9_chance_0 : decode cX9_chance 0 = .ok (.iload_n 1, 1) := dk_27 (by decide +kernel)
theorem dX9_chance_1 : decode cX9_chance 1 = .ok (.ifCond .lt 9, 3) := dk_155 (x := 0) (y := 9) (by decide +kernel) rfl
theorem dX9_chance_4 : decode cX9_chance 4 = .ok (.iload_n 1, 1) := dk_27 (by decide +kernel)
theorem dX9_chance_5 : decode cX9_chance 5 = .ok (.bipush 10, 2) := dk_16 (x := 10) (by decide +kernel) rfl
theorem dX9_chance_7 : decode cX9_chance 7 = .ok (.if_icmp .le 5, 3) := dk_164 (x := 0) (y := 5) (by decide +kernel) rfl
theorem dX9_chance_10 : decode cX9_chance 10 = .ok (.iconst (-1), 1) := dk_2 (by decide +kernel)
theorem dX9_chance_11 : decode cX9_chance 11 = .ok (.ireturn, 1) := dk_172 (by decide +kernel)
theorem dX9_chance_12 : decode cX9_chance 12 = .ok (.aload_n 0, 1) := dk_42 (by decide +kernel)
theorem dX9_chance_13 : decode cX9_chance 13 = .ok (.invokevirtual 122, 3) := dk_182 (x := 0) (y := 122) (by decide +kernel) rfl
theorem dX9_chance_16 : decode cX9_chance 16 = .ok (.aload_n 0, 1) := dk_42 (by decide +kernel)
theorem dX9_chance_17 : decode cX9_chance 17 = .ok (.getfield 19, 3) := dk_180 (x := 0) (y := 19) (by decide +kernel) rfl
theorem dX9_chance_20 : decode cX9_chance 20 = .ok (.iconst (-1), 1) := dk_2 (by decide +kernel)
theorem dX9_chance_21 : decode cX9_chance 21 = .ok (.iload_n 1, 1) := dk_27 (by decide +kernel)
theorem dX9_chance_22 : decode cX9_chance 22 = .ok (.aload_n 0, 1) := dk_42 (by decide +kernel)
theorem dX9_chance_23 : decode cX9_chance 23 = .ok (.getfield 10, 3) := dk_180 (x := 0) (y := 10) (by decide +kernel) rfl
theorem dX9_chance_26 : decode cX9_chance 26 = .ok (.getfield 75, 3) := dk_180 (x := 0) (y := 75) (by decide +kernel) rfl
theorem dX9_chance_29 : decode cX9_chance 29 = .ok (.invokevirtual 142, 3) := dk_182 (x := 0) (y := 142) (by decide +kernel) rfl
theorem dX9_chance_32 : decode cX9_chance 32 = .ok (.ireturn, 1) := dk_172 (by decide +kernel)
def f_X9_chance (n : Nat) (o : Nat) (a1 : Int32) (M : Mem) : Option (Int32 × Mem) :=
  if a1 < 0 then (
    some ((-1 : Int32), M)
    ) else (
    if a1 ≤ (10 : Int32) then (
      chk (isO M 9 o) <|
      obd (f_X9_surveyOnce n o M) fun M7 =>
      chk (isO M7 9 o) <|
      bnd (mR M7 o 1) fun o9 =>
      chk (isO M7 8 o9) <|
      bnd (mR M7 o 0) fun o12 =>
      chk (isO M7 7 o12) <|
      obd2 (f_X8_millionths n o9 (-1 : Int32) a1 (mI M7 o12 3) M7) fun r16 M17 =>
      some (r16, M17)
      ) else (
      some ((-1 : Int32), M)
      )
    )
theorem cd_X9_chance : (yX9_chance.cls ≠ "java/lang/invoke/MethodHandle" ∧ yX9_chance.cls ≠ "java/lang/invoke/VarHandle") ∧ (parseMethodDescriptor yX9_chance.desc).map (fun d => d.parameters.length) = some 1 := ⟨⟨by decide +kernel, by decide +kernel⟩, by decide +kernel⟩
theorem k_X9_chance (G : Gam) {n : Nat} {o : Nat} {a1 : Int32} {M : Mem} {rv : (Int32 × Mem)} (hf : f_X9_chance n o a1 M = some rv) : Kt yX9_chance cX9_chance 2 (some .int) 5 110 G [.ref (gB G + o), .int a1] M rv.2 (some (.int rv.1)) := by
  refine Kt.of (by decide) (Nat.le_of_ble_eq_true rfl) ?_
  intro p l e R s m args below meth c X hr hlk hnm
  refine s_drop [0, 1] (vs' := [(0, .ref (gB G + o)), (1, .int a1)]) rfl ?_
  rw [f_X9_chance] at hf
  refine s_iload_n X 1 dX9_chance_0 rfl rfl ?_
  have hs1 := pk_ite hf
  clear hf
  refine s_if_lt X (tgt := 10) dX9_chance_1 rfl (fun c2 => ?_) (fun c2 => ?_)
  · have hf := hs1.1 c2
    refine s_iconst X (v := (-1 : Int32)) dX9_chance_10 rfl ?_
    cases hf
    exact s_iret X hr hlk dX9_chance_11
  · have hf := hs1.2 c2
    refine s_iload_n X 1 dX9_chance_4 rfl rfl ?_
    refine s_bipush X (v := (10 : Int32)) dX9_chance_5 rfl ?_
    have hs3 := pk_ite hf
    clear hf
    refine s_icmp_le X (tgt := 12) dX9_chance_7 rfl (fun c4 => ?_) (fun c4 => ?_)
    · have hf := hs3.1 c4
      refine s_aload_n X 0 dX9_chance_12 rfl rfl ?_
      obtain ⟨h5, hf⟩ := pk_chk hf
      obtain ⟨M7, hc6, hf⟩ := pk_obd hf
      refine s_callV X (ci := 9) (k_X9_surveyOnce G hc6) rfl h5 wd784 wd786 wd5 wd787 wd126 cd_X9_surveyOnce ⟨Nat.le_of_ble_eq_true rfl, Nat.le_of_ble_eq_true rfl⟩ (Nat.le_of_ble_eq_true rfl) dX9_chance_13 ?_
      refine s_aload_n X 0 dX9_chance_16 rfl rfl ?_
      obtain ⟨h8, hf⟩ := pk_chk hf
      obtain ⟨o9, e10, hf⟩ := pk_bnd hf
      obtain ⟨h11, hf⟩ := pk_chk hf
      refine s_getR X (ci := 9) (k := 1) rfl (Nat.le_of_ble_eq_true rfl) h8 wd628 (fun _ _ _ => rfl) (e10 ▸ h11) dX9_chance_17 (e10 ▸ ?_)
      refine s_iconst X (v := (-1 : Int32)) dX9_chance_20 rfl ?_
      refine s_iload_n X 1 dX9_chance_21 rfl rfl ?_
      refine s_aload_n X 0 dX9_chance_22 rfl rfl ?_
      obtain ⟨o12, e13, hf⟩ := pk_bnd hf
      obtain ⟨h14, hf⟩ := pk_chk hf
      refine s_getR X (ci := 9) (k := 0) rfl (Nat.le_of_ble_eq_true rfl) h8 wd627 (fun _ _ _ => rfl) (e13 ▸ h14) dX9_chance_23 (e13 ▸ ?_)
      refine s_getI X (ci := 7) (k := 3) rfl (Nat.le_of_ble_eq_true rfl) h14 wd170 (fun _ _ _ => rfl) dX9_chance_26 ?_
      obtain ⟨r16, M17, hc15, hf⟩ := pk_obd2 hf
      refine s_callV X (ci := 8) (k_X8_millionths G hc15) rfl h11 wd856 wd857 wd858 wd859 wd128 cd_X8_millionths ⟨Nat.le_of_ble_eq_true rfl, Nat.le_of_ble_eq_true rfl⟩ (Nat.le_of_ble_eq_true rfl) dX9_chance_29 ?_
      cases hf
      exact s_iret X hr hlk dX9_chance_32
    · have hf := hs3.2 c4
      refine s_iconst X (v := (-1 : Int32)) dX9_chance_10 rfl ?_
      cases hf
      exact s_iret X hr hlk dX9_chance_11
theorem dX10_power_0 : decode cX10_power 0 = .ok (.lconst 1, 1) := dk_10 (by decide +kernel)
theorem dX10_power_1 : decode cX10_power 1 = .ok (.lstore_n 3, 1) := dk_66 (by decide +kernel)
theorem dX10_power_2 : decode cX10_power 2 = .ok (.iconst 0, 1) := dk_3 (by decide +kernel)
theorem dX10_power_3 : decode cX10_power 3 = .ok (.istore 5, 2) := dk_54 (x := 5) (by decide +kernel)
theorem dX10_power_5 : decode cX10_power 5 = .ok (.iload 5, 2) := dk_21 (x := 5) (by decide +kernel)
theorem dX10_power_7 : decode cX10_power 7 = .ok (.iload_n 2, 1) := dk_28 (by decide +kernel)
theorem dX10_power_8 : decode cX10_power 8 = .ok (.if_icmp .ge 13, 3) := dk_162 (x := 0) (y := 13) (by decide +kernel) rfl
theorem dX10_power_11 : decode cX10_power 11 = .ok (.lload_n 3, 1) := dk_33 (by decide +kernel)
theorem dX10_power_12 : decode cX10_power 12 = .ok (.lload_n 0, 1) := dk_30 (by decide +kernel)
theorem dX10_power_13 : decode cX10_power 13 = .ok (.lmul, 1) := dk_105 (by decide +kernel)
theorem dX10_power_14 : decode cX10_power 14 = .ok (.lstore_n 3, 1) := dk_66 (by decide +kernel)
theorem dX10_power_15 : decode cX10_power 15 = .ok (.iinc 5 1, 3) := dk_132 (x := 5) (y := 1) (by decide +kernel) rfl
theorem dX10_power_18 : decode cX10_power 18 = .ok (.goto (-13), 3) := dk_167 (x := 255) (y := 243) (by decide +kernel) rfl
theorem dX10_power_21 : decode cX10_power 21 = .ok (.lload_n 3, 1) := dk_33 (by decide +kernel)
theorem dX10_power_22 : decode cX10_power 22 = .ok (.lreturn, 1) := dk_173 (by decide +kernel)
def f_X10_power_5 (M : Mem) : Nat → Int64 → Int32 → Int64 → Int32 → Option Int64
  | 0, _, _, _, _ => none
  | n + 1, v0, v2, v3, v5 =>
    if v2 ≤ v5 then (
      some v3
      ) else (
      bnd (v3 * v0) fun x3 =>
      bnd (v5 + (1 : Int32)) fun x5 =>
      f_X10_power_5 M n v0 v2 x3 x5
      )
def f_X10_power (n : Nat) (a1 : Int64) (a2 : Int32) (M : Mem) : Option Int64 :=
  f_X10_power_5 M n a1 a2 (1 : Int64) (0 : Int32)
theorem cd_X10_power : (yX10_power.cls ≠ "java/lang/invoke/MethodHandle" ∧ yX10_power.cls ≠ "java/lang/invoke/VarHandle") ∧ (parseMethodDescriptor yX10_power.desc).map (fun d => d.parameters.length) = some 2 := ⟨⟨by decide +kernel, by decide +kernel⟩, by decide +kernel⟩
section
variable {p : Program} {l : Launch} {e : Env} {R : Room} {s : State} {m : MethodId} {args : Array Value} {below : List Frame} {meth : Method} {c : Code} {G : Gam} {M0 : Mem}
theorem l_X10_power_5 {M : Mem} {rv : Int64} (X : Cx p R s m args c G M0 cX10_power yX10_power.cls 6 0 0) (hr : meth.sig.returnType = (some .long)) (hlk : meth.locks = false) (hnm : meth.name = "power") : ∀ {n : Nat} (v0 : Int64) (v2 : Int32) (v3 : Int64) (v5 : Int32), f_X10_power_5 M n v0 v2 v3 v5 = some rv → Sg p l e R s m args below meth c (Qm below G args s (some (.long rv)) M0 M) G M0 6 5 [(0, .long v0), (2, .int v2), (3, .long v3), (5, .int v5)] [] M := by
  intro n
  induction n with
  | zero => intro v0 v2 v3 v5 hf; exact (pk_none hf).elim
  | succ n ih =>
    intro v0 v2 v3 v5 hf
    rw [f_X10_power_5] at hf
    refine s_iload X 3 dX10_power_5 rfl ?_
    refine s_iload_n X 1 dX10_power_7 rfl rfl ?_
    have hs1 := pk_ite hf
    clear hf
    refine s_icmp_ge X (tgt := 21) dX10_power_8 rfl (fun c2 => ?_) (fun c2 => ?_)
    · have hf := hs1.1 c2
      refine s_lload_n X 2 dX10_power_21 rfl rfl ?_
      cases hf
      exact s_lret X hr hlk dX10_power_22
    · have hf := hs1.2 c2
      refine s_lload_n X 2 dX10_power_11 rfl rfl ?_
      refine s_lload_n X 0 dX10_power_12 rfl rfl ?_
      refine s_lmul X dX10_power_13 ?_
      obtain ⟨x3, e4, hf⟩ := pk_bnd hf
      refine s_nmL e4 ?_
      refine s_lstore_n X (vs' := [(0, .long v0), (2, .int v2), (3, .long x3), (5, .int v5)]) dX10_power_14 rfl (Nat.le_of_ble_eq_true rfl) [1, 2, 0, 3] rfl ?_
      obtain ⟨x5, e6, hf⟩ := pk_bnd hf
      refine s_iinc X (vs' := [(0, .long v0), (2, .int v2), (3, .long x3), (5, .int x5)]) 3 dX10_power_15 rfl (v := x5) e6.symm (Nat.le_of_ble_eq_true rfl) [1, 2, 3, 0] rfl ?_
      refine s_goto X (tgt := 5) dX10_power_18 rfl ?_
      exact ih _ _ _ _ hf
end
theorem k_X10_power (G : Gam) {n : Nat} {a1 : Int64} {a2 : Int32} {M : Mem} {rv : Int64} (hf : f_X10_power n a1 a2 M = some rv) : Kt yX10_power cX10_power 6 (some .long) 0 0 G [.long a1, .int a2] M M (some (.long rv)) := by
  refine Kt.of (by decide) (Nat.le_of_ble_eq_true rfl) ?_
  intro p l e R s m args below meth c X hr hlk hnm
  refine s_drop [0, 1] (vs' := [(0, .long a1), (2, .int a2)]) rfl ?_
  rw [f_X10_power] at hf
  refine s_lconst X (v := (1 : Int64)) dX10_power_0 rfl ?_
  refine s_lstore_n X (vs' := [(0, .long a1), (2, .int a2), (3, .long (1 : Int64))]) dX10_power_1 rfl (Nat.le_of_ble_eq_true rfl) [1, 2, 0] rfl ?_
  refine s_iconst X (v := (0 : Int32)) dX10_power_2 rfl ?_
  refine s_istore X (vs' := [(0, .long a1), (2, .int a2), (3, .long (1 : Int64)), (5, .int (0 : Int32))]) dX10_power_3 (Nat.le_of_ble_eq_true rfl) [1, 2, 3, 0] rfl ?_
  exact l_X10_power_5 X hr hlk hnm _ _ _ _ hf
theorem dX10_oddsOf_0 : decode cX10_oddsOf 0 = .ok (.iload_n 2, 1) := dk_28 (by decide +kernel)
theorem dX10_oddsOf_1 : decode cX10_oddsOf 1 = .ok (.i2l, 1) := dk_133 (by decide +kernel)
theorem dX10_oddsOf_2 : decode cX10_oddsOf 2 = .ok (.iload_n 1, 1) := dk_27 (by decide +kernel)
theorem dX10_oddsOf_3 : decode cX10_oddsOf 3 = .ok (.invokestatic 111, 3) := dk_184 (x := 0) (y := 111) (by decide +kernel) rfl
theorem dX10_oddsOf_6 : decode cX10_oddsOf 6 = .ok (.invokestatic 117, 3) := dk_184 (x := 0) (y := 117) (by decide +kernel) rfl
theorem dX10_oddsOf_9 : decode cX10_oddsOf 9 = .ok (.ldc2_w 121, 3) := dk_20 (x := 0) (y := 121) (by decide +kernel) rfl
theorem dX10_oddsOf_12 : decode cX10_oddsOf 12 = .ok (.iload_n 2, 1) := dk_28 (by decide +kernel)
theorem dX10_oddsOf_13 : decode cX10_oddsOf 13 = .ok (.i2l, 1) := dk_133 (by decide +kernel)
theorem dX10_oddsOf_14 : decode cX10_oddsOf 14 = .ok (.lsub, 1) := dk_101 (by decide +kernel)
theorem dX10_oddsOf_15 : decode cX10_oddsOf 15 = .ok (.aload_n 0, 1) := dk_42 (by decide +kernel)
theorem dX10_oddsOf_16 : decode cX10_oddsOf 16 = .ok (.getfield 7, 3) := dk_180 (x := 0) (y := 7) (by decide +kernel) rfl
theorem dX10_oddsOf_19 : decode cX10_oddsOf 19 = .ok (.iconst 0, 1) := dk_3 (by decide +kernel)
theorem dX10_oddsOf_20 : decode cX10_oddsOf 20 = .ok (.iaload, 1) := dk_46 (by decide +kernel)
theorem dX10_oddsOf_21 : decode cX10_oddsOf 21 = .ok (.iload_n 1, 1) := dk_27 (by decide +kernel)
theorem dX10_oddsOf_22 : decode cX10_oddsOf 22 = .ok (.invokestatic 111, 3) := dk_184 (x := 0) (y := 111) (by decide +kernel) rfl
theorem dX10_oddsOf_25 : decode cX10_oddsOf 25 = .ok (.isub, 1) := dk_100 (by decide +kernel)
theorem dX10_oddsOf_26 : decode cX10_oddsOf 26 = .ok (.invokestatic 117, 3) := dk_184 (x := 0) (y := 117) (by decide +kernel) rfl
theorem dX10_oddsOf_29 : decode cX10_oddsOf 29 = .ok (.lmul, 1) := dk_105 (by decide +kernel)
theorem dX10_oddsOf_30 : decode cX10_oddsOf 30 = .ok (.lreturn, 1) := dk_173 (by decide +kernel)
def f_X10_oddsOf (n : Nat) (o : Nat) (a1 : Int32) (a2 : Int32) (M : Mem) : Option Int64 :=
  obd (f_X10_many n a1 M) fun r2 =>
  obd (f_X10_power n ((a2).toInt64) r2 M) fun r4 =>
  chk (isO M 10 o) <|
  bnd (mR M o 0) fun o6 =>
  chk (isO M 100 o6) <|
  chk (inB (0 : Int32) (mLn M o6)) <|
  obd (f_X10_many n a1 M) fun r11 =>
  obd (f_X10_power n ((10 : Int64) - ((a2).toInt64)) ((mI M o6 ((0 : Int32)).toNatClampNeg) - r11) M) fun r13 =>
  some (r4 * r13)
theorem cd_X10_oddsOf : (yX10_oddsOf.cls ≠ "java/lang/invoke/MethodHandle" ∧ yX10_oddsOf.cls ≠ "java/lang/invoke/VarHandle") ∧ (parseMethodDescriptor yX10_oddsOf.desc).map (fun d => d.parameters.length) = some 2 := ⟨⟨by decide +kernel, by decide +kernel⟩, by decide +kernel⟩
theorem k_X10_oddsOf (G : Gam) {n : Nat} {o : Nat} {a1 : Int32} {a2 : Int32} {M : Mem} {rv : Int64} (hf : f_X10_oddsOf n o a1 a2 M = some rv) : Kt yX10_oddsOf cX10_oddsOf 3 (some .long) 1 25 G [.ref (gB G + o), .int a1, .int a2] M M (some (.long rv)) := by
  refine Kt.of (by decide) (Nat.le_of_ble_eq_true rfl) ?_
  intro p l e R s m args below meth c X hr hlk hnm
  refine s_drop [0, 1, 2] (vs' := [(0, .ref (gB G + o)), (1, .int a1), (2, .int a2)]) rfl ?_
  rw [f_X10_oddsOf] at hf
  refine s_iload_n X 2 dX10_oddsOf_0 rfl rfl ?_
  refine s_i2l X dX10_oddsOf_1 ?_
  refine s_iload_n X 1 dX10_oddsOf_2 rfl rfl ?_
  obtain ⟨r2, hc1, hf⟩ := pk_obd hf
  refine s_callS X (k_X10_many G hc1) wd1624 wd1625 wd1626 wd138 cd_X10_many ⟨Nat.le_of_ble_eq_true rfl, Nat.le_of_ble_eq_true rfl⟩ (Nat.le_of_ble_eq_true rfl) dX10_oddsOf_3 ?_
  obtain ⟨r4, hc3, hf⟩ := pk_obd hf
  refine s_callS X (k_X10_power G hc3) wd1643 wd1644 wd1645 wd138 cd_X10_power ⟨Nat.le_of_ble_eq_true rfl, Nat.le_of_ble_eq_true rfl⟩ (Nat.le_of_ble_eq_true rfl) dX10_oddsOf_6 ?_
  refine s_ldc2 X (v := (10 : Int64)) dX10_oddsOf_9 wd1646 ?_
  refine s_iload_n X 2 dX10_oddsOf_12 rfl rfl ?_
  refine s_i2l X dX10_oddsOf_13 ?_
  refine s_lsub X dX10_oddsOf_14 ?_
  refine s_aload_n X 0 dX10_oddsOf_15 rfl rfl ?_
  obtain ⟨h5, hf⟩ := pk_chk hf
  obtain ⟨o6, e7, hf⟩ := pk_bnd hf
  obtain ⟨h8, hf⟩ := pk_chk hf
  refine s_getR X (ci := 10) (k := 0) rfl (Nat.le_of_ble_eq_true rfl) h5 wd1440 (fun _ _ _ => rfl) (e7 ▸ h8) dX10_oddsOf_16 (e7 ▸ ?_)
  refine s_iconst X (v := (0 : Int32)) dX10_oddsOf_19 rfl ?_
  obtain ⟨h9, hf⟩ := pk_chk hf
  refine s_iald X h8 h9 dX10_oddsOf_20 ?_
  refine s_iload_n X 1 dX10_oddsOf_21 rfl rfl ?_
  obtain ⟨r11, hc10, hf⟩ := pk_obd hf
  refine s_callS X (k_X10_many G hc10) wd1624 wd1625 wd1626 wd138 cd_X10_many ⟨Nat.le_of_ble_eq_true rfl, Nat.le_of_ble_eq_true rfl⟩ (Nat.le_of_ble_eq_true rfl) dX10_oddsOf_22 ?_
  refine s_isub X dX10_oddsOf_25 ?_
  obtain ⟨r13, hc12, hf⟩ := pk_obd hf
  refine s_callS X (k_X10_power G hc12) wd1643 wd1644 wd1645 wd138 cd_X10_power ⟨Nat.le_of_ble_eq_true rfl, Nat.le_of_ble_eq_true rfl⟩ (Nat.le_of_ble_eq_true rfl) dX10_oddsOf_26 ?_
  refine s_lmul X dX10_oddsOf_29 ?_
  cases hf
  exact s_lret X hr hlk dX10_oddsOf_30
theorem dX10_millionths_0 : decode cX10_millionths 0 = .ok (.aload_n 0, 1) := dk_42 (by decide +kernel)
theorem dX10_millionths_1 : decode cX10_millionths 1 = .ok (.getfield 7, 3) := dk_180 (x := 0) (y := 7) (by decide +kernel) rfl
theorem dX10_millionths_4 : decode cX10_millionths 4 = .ok (.iconst 0, 1) := dk_3 (by decide +kernel)
theorem dX10_millionths_5 : decode cX10_millionths 5 = .ok (.iaload, 1) := dk_46 (by decide +kernel)
theorem dX10_millionths_6 : decode cX10_millionths 6 = .ok (.bipush 6, 2) := dk_16 (x := 6) (by decide +kernel) rfl
theorem dX10_millionths_8 : decode cX10_millionths 8 = .ok (.if_icmp .lt 23, 3) := dk_161 (x := 0) (y := 23) (by decide +kernel) rfl
theorem dX10_millionths_11 : decode cX10_millionths 11 = .ok (.lload_n 1, 1) := dk_31 (by decide +kernel)
theorem dX10_millionths_12 : decode cX10_millionths 12 = .ok (.ldc2_w 121, 3) := dk_20 (x := 0) (y := 121) (by decide +kernel) rfl
theorem dX10_millionths_15 : decode cX10_millionths 15 = .ok (.aload_n 0, 1) := dk_42 (by decide +kernel)
theorem dX10_millionths_16 : decode cX10_millionths 16 = .ok (.getfield 7, 3) := dk_180 (x := 0) (y := 7) (by decide +kernel) rfl
theorem dX10_millionths_19 : decode cX10_millionths 19 = .ok (.iconst 0, 1) := dk_3 (by decide +kernel)
theorem dX10_millionths_20 : decode cX10_millionths 20 = .ok (.iaload, 1) := dk_46 (by decide +kernel)
theorem dX10_millionths_21 : decode cX10_millionths 21 = .ok (.bipush 6, 2) := dk_16 (x := 6) (by decide +kernel) rfl
theorem dX10_millionths_23 : decode cX10_millionths 23 = .ok (.isub, 1) := dk_100 (by decide +kernel)
theorem dX10_millionths_24 : decode cX10_millionths 24 = .ok (.invokestatic 117, 3) := dk_184 (x := 0) (y := 117) (by decide +kernel) rfl
theorem dX10_millionths_27 : decode cX10_millionths 27 = .ok (.ldiv, 1) := dk_109 (by decide +kernel)
theorem dX10_millionths_28 : decode cX10_millionths 28 = .ok (.goto 20, 3) := dk_167 (x := 0) (y := 20) (by decide +kernel) rfl
theorem dX10_millionths_31 : decode cX10_millionths 31 = .ok (.lload_n 1, 1) := dk_31 (by decide +kernel)
theorem dX10_millionths_32 : decode cX10_millionths 32 = .ok (.ldc2_w 121, 3) := dk_20 (x := 0) (y := 121) (by decide +kernel) rfl
theorem dX10_millionths_35 : decode cX10_millionths 35 = .ok (.bipush 6, 2) := dk_16 (x := 6) (by decide +kernel) rfl
theorem dX10_millionths_37 : decode cX10_millionths 37 = .ok (.aload_n 0, 1) := dk_42 (by decide +kernel)
theorem dX10_millionths_38 : decode cX10_millionths 38 = .ok (.getfield 7, 3) := dk_180 (x := 0) (y := 7) (by decide +kernel) rfl
theorem dX10_millionths_41 : decode cX10_millionths 41 = .ok (.iconst 0, 1) := dk_3 (by decide +kernel)
theorem dX10_millionths_42 : decode cX10_millionths 42 = .ok (.iaload, 1) := dk_46 (by decide +kernel)
theorem dX10_millionths_43 : decode cX10_millionths 43 = .ok (.isub, 1) := dk_100 (by decide +kernel)
theorem dX10_millionths_44 : decode cX10_millionths 44 = .ok (.invokestatic 117, 3) := dk_184 (x := 0) (y := 117) (by decide +kernel) rfl
theorem dX10_millionths_47 : decode cX10_millionths 47 = .ok (.lmul, 1) := dk_105 (by decide +kernel)
theorem dX10_millionths_48 : decode cX10_millionths 48 = .ok (.l2i, 1) := dk_136 (by decide +kernel)
theorem dX10_millionths_49 : decode cX10_millionths 49 = .ok (.ireturn, 1) := dk_172 (by decide +kernel)
def f_X10_millionths (n : Nat) (o : Nat) (a1 : Int64) (M : Mem) : Option Int32 :=
  chk (isO M 10 o) <|
  bnd (mR M o 0) fun o2 =>
  chk (isO M 100 o2) <|
  chk (inB (0 : Int32) (mLn M o2)) <|
  if (mI M o2 ((0 : Int32)).toNatClampNeg) < (6 : Int32) then (
    bnd (mR M o 0) fun o8 =>
    chk (isO M 100 o8) <|
    chk (inB (0 : Int32) (mLn M o8)) <|
    obd (f_X10_power n (10 : Int64) ((6 : Int32) - (mI M o8 ((0 : Int32)).toNatClampNeg)) M) fun r13 =>
    some (((a1 * r13)).toInt32)
    ) else (
    bnd (mR M o 0) fun o14 =>
    chk (isO M 100 o14) <|
    chk (inB (0 : Int32) (mLn M o14)) <|
    obd (f_X10_power n (10 : Int64) ((mI M o14 ((0 : Int32)).toNatClampNeg) - (6 : Int32)) M) fun r19 =>
    chk (¬ r19 = 0) <|
    some (((a1 / r19)).toInt32)
    )
theorem cd_X10_millionths : (yX10_millionths.cls ≠ "java/lang/invoke/MethodHandle" ∧ yX10_millionths.cls ≠ "java/lang/invoke/VarHandle") ∧ (parseMethodDescriptor yX10_millionths.desc).map (fun d => d.parameters.length) = some 1 := ⟨⟨by decide +kernel, by decide +kernel⟩, by decide +kernel⟩
theorem k_X10_millionths (G : Gam) {n : Nat} {o : Nat} {a1 : Int64} {M : Mem} {rv : Int32} (hf : f_X10_millionths n o a1 M = some rv) : Kt yX10_millionths cX10_millionths 3 (some .int) 1 25 G [.ref (gB G + o), .long a1] M M (some (.int rv)) := by
  refine Kt.of (by decide) (Nat.le_of_ble_eq_true rfl) ?_
  intro p l e R s m args below meth c X hr hlk hnm
  refine s_drop [0, 1] (vs' := [(0, .ref (gB G + o)), (1, .long a1)]) rfl ?_
  rw [f_X10_millionths] at hf
  refine s_aload_n X 0 dX10_millionths_0 rfl rfl ?_
  obtain ⟨h1, hf⟩ := pk_chk hf
  obtain ⟨o2, e3, hf⟩ := pk_bnd hf
  obtain ⟨h4, hf⟩ := pk_chk hf
  refine s_getR X (ci := 10) (k := 0) rfl (Nat.le_of_ble_eq_true rfl) h1 wd1440 (fun _ _ _ => rfl) (e3 ▸ h4) dX10_millionths_1 (e3 ▸ ?_)
  refine s_iconst X (v := (0 : Int32)) dX10_millionths_4 rfl ?_
  obtain ⟨h5, hf⟩ := pk_chk hf
  refine s_iald X h4 h5 dX10_millionths_5 ?_
  refine s_bipush X (v := (6 : Int32)) dX10_millionths_6 rfl ?_
  have hs6 := pk_ite hf
  clear hf
  refine s_icmp_lt X (tgt := 31) dX10_millionths_8 rfl (fun c7 => ?_) (fun c7 => ?_)
  · have hf := hs6.1 c7
    refine s_lload_n X 1 dX10_millionths_31 rfl rfl ?_
    refine s_ldc2 X (v := (10 : Int64)) dX10_millionths_32 wd1646 ?_
    refine s_bipush X (v := (6 : Int32)) dX10_millionths_35 rfl ?_
    refine s_aload_n X 0 dX10_millionths_37 rfl rfl ?_
    obtain ⟨o8, e9, hf⟩ := pk_bnd hf
    obtain ⟨h10, hf⟩ := pk_chk hf
    refine s_getR X (ci := 10) (k := 0) rfl (Nat.le_of_ble_eq_true rfl) h1 wd1440 (fun _ _ _ => rfl) (e9 ▸ h10) dX10_millionths_38 (e9 ▸ ?_)
    refine s_iconst X (v := (0 : Int32)) dX10_millionths_41 rfl ?_
    obtain ⟨h11, hf⟩ := pk_chk hf
    refine s_iald X h10 h11 dX10_millionths_42 ?_
    refine s_isub X dX10_millionths_43 ?_
    obtain ⟨r13, hc12, hf⟩ := pk_obd hf
    refine s_callS X (k_X10_power G hc12) wd1643 wd1644 wd1645 wd138 cd_X10_power ⟨Nat.le_of_ble_eq_true rfl, Nat.le_of_ble_eq_true rfl⟩ (Nat.le_of_ble_eq_true rfl) dX10_millionths_44 ?_
    refine s_lmul X dX10_millionths_47 ?_
    refine s_l2i X dX10_millionths_48 ?_
    cases hf
    exact s_iret X hr hlk dX10_millionths_49
  · have hf := hs6.2 c7
    refine s_lload_n X 1 dX10_millionths_11 rfl rfl ?_
    refine s_ldc2 X (v := (10 : Int64)) dX10_millionths_12 wd1646 ?_
    refine s_aload_n X 0 dX10_millionths_15 rfl rfl ?_
    obtain ⟨o14, e15, hf⟩ := pk_bnd hf
    obtain ⟨h16, hf⟩ := pk_chk hf
    refine s_getR X (ci := 10) (k := 0) rfl (Nat.le_of_ble_eq_true rfl) h1 wd1440 (fun _ _ _ => rfl) (e15 ▸ h16) dX10_millionths_16 (e15 ▸ ?_)
    refine s_iconst X (v := (0 : Int32)) dX10_millionths_19 rfl ?_
    obtain ⟨h17, hf⟩ := pk_chk hf
    refine s_iald X h16 h17 dX10_millionths_20 ?_
    refine s_bipush X (v := (6 : Int32)) dX10_millionths_21 rfl ?_
    refine s_isub X dX10_millionths_23 ?_
    obtain ⟨r19, hc18, hf⟩ := pk_obd hf
    refine s_callS X (k_X10_power G hc18) wd1643 wd1644 wd1645 wd138 cd_X10_power ⟨Nat.le_of_ble_eq_true rfl, Nat.le_of_ble_eq_true rfl⟩ (Nat.le_of_ble_eq_true rfl) dX10_millionths_24 ?_
    obtain ⟨h20, hf⟩ := pk_chk hf
    refine s_ldiv X dX10_millionths_27 h20 ?_
    refine s_goto X (tgt := 48) dX10_millionths_28 rfl ?_
    refine s_l2i X dX10_millionths_48 ?_
    cases hf
    exact s_iret X hr hlk dX10_millionths_49
theorem dX10_chance_0 : decode cX10_chance 0 = .ok (.iload_n 1, 1) := dk_27 (by decide +kernel)
theorem dX10_chance_1 : decode cX10_chance 1 = .ok (.iconst 0, 1) := dk_3 (by decide +kernel)
theorem dX10_chance_2 : decode cX10_chance 2 = .ok (.bipush 10, 2) := dk_16 (x := 10) (by decide +kernel) rfl
theorem dX10_chance_4 : decode cX10_chance 4 = .ok (.invokestatic 49, 3) := dk_184 (x := 0) (y := 49) (by decide +kernel) rfl
theorem dX10_chance_7 : decode cX10_chance 7 = .ok (.ifCond .ne 5, 3) := dk_154 (x := 0) (y := 5) (by decide +kernel) rfl
theorem dX10_chance_10 : decode cX10_chance 10 = .ok (.iconst (-1), 1) := dk_2 (by decide +kernel)
theorem dX10_chance_11 : decode cX10_chance 11 = .ok (.ireturn, 1) := dk_172 (by decide +kernel)
theorem dX10_chance_12 : decode cX10_chance 12 = .ok (.lconst 0, 1) := dk_9 (by decide +kernel)
theorem dX10_chance_13 : decode cX10_chance 13 = .ok (.lstore_n 2, 1) := dk_65 (by decide +kernel)
theorem dX10_chance_14 : decode cX10_chance 14 = .ok (.iconst 0, 1) := dk_3 (by decide +kernel)
theorem dX10_chance_15 : decode cX10_chance 15 = .ok (.istore 4, 2) := dk_54 (x := 4) (by decide +kernel)
theorem dX10_chance_17 : decode cX10_chance 17 = .ok (.iload 4, 2) := dk_21 (x := 4) (by decide +kernel)
theorem dX10_chance_19 : decode cX10_chance 19 = .ok (.aload_n 0, 1) := dk_42 (by decide +kernel)
theorem dX10_chance_20 : decode cX10_chance 20 = .ok (.invokevirtual 72, 3) := dk_182 (x := 0) (y := 72) (by decide +kernel) rfl
theorem dX10_chance_23 : decode cX10_chance 23 = .ok (.if_icmp .gt 28, 3) := dk_163 (x := 0) (y := 28) (by decide +kernel) rfl
theorem dX10_chance_26 : decode cX10_chance 26 = .ok (.aload_n 0, 1) := dk_42 (by decide +kernel)
theorem dX10_chance_27 : decode cX10_chance 27 = .ok (.iload 4, 2) := dk_21 (x := 4) (by decide +kernel)
theorem dX10_chance_29 : decode cX10_chance 29 = .ok (.invokevirtual 108, 3) := dk_182 (x := 0) (y := 108) (by decide +kernel) rfl
theorem dX10_chance_32 : decode cX10_chance 32 = .ok (.ifCond .ne 13, 3) := dk_154 (x := 0) (y := 13) (by decide +kernel) rfl
theorem dX10_chance_35 : decode cX10_chance 35 = .ok (.lload_n 2, 1) := dk_32 (by decide +kernel)
theorem dX10_chance_36 : decode cX10_chance 36 = .ok (.aload_n 0, 1) := dk_42 (by decide +kernel)
theorem dX10_chance_37 : decode cX10_chance 37 = .ok (.iload 4, 2) := dk_21 (x := 4) (by decide +kernel)
theorem dX10_chance_39 : decode cX10_chance 39 = .ok (.iload_n 1, 1) := dk_27 (by decide +kernel)
theorem dX10_chance_40 : decode cX10_chance 40 = .ok (.invokevirtual 123, 3) := dk_182 (x := 0) (y := 123) (by decide +kernel) rfl
theorem dX10_chance_43 : decode cX10_chance 43 = .ok (.ladd, 1) := dk_97 (by decide +kernel)
theorem dX10_chance_44 : decode cX10_chance 44 = .ok (.lstore_n 2, 1) := dk_65 (by decide +kernel)
theorem dX10_chance_45 : decode cX10_chance 45 = .ok (.iinc 4 1, 3) := dk_132 (x := 4) (y := 1) (by decide +kernel) rfl
theorem dX10_chance_48 : decode cX10_chance 48 = .ok (.goto (-31), 3) := dk_167 (x := 255) (y := 225) (by decide +kernel) rfl
theorem dX10_chance_51 : decode cX10_chance 51 = .ok (.aload_n 0, 1) := dk_42 (by decide +kernel)
theorem dX10_chance_52 : decode cX10_chance 52 = .ok (.lload_n 2, 1) := dk_32 (by decide +kernel)
theorem dX10_chance_53 : decode cX10_chance 53 = .ok (.invokevirtual 127, 3) := dk_182 (x := 0) (y := 127) (by decide +kernel) rfl
theorem dX10_chance_56 : decode cX10_chance 56 = .ok (.ireturn, 1) := dk_172 (by decide +kernel)
def f_X10_chance_17 : Nat → Nat → Int32 → Int64 → Int32 → Mem → Option (Int32 × Mem)
  | 0, _, _, _, _, _ => none
  | n + 1, v0, v1, v2, v4, M =>
    chk (isO M 10 v0) <|
    obd (f_X10_all v0 M) fun r3 =>
    if r3 < v4 then (
      obd (f_X10_millionths n v0 v2 M) fun r7 =>
      some (r7, M)
      ) else (
      obd2 (f_X10_stopsBy n v0 v4 M) fun r9 M10 =>
      if r9 = 0 then (
        chk (isO M10 10 v0) <|
        obd (f_X10_oddsOf n v0 v4 v1 M10) fun r17 =>
        bnd (v2 + r17) fun x18 =>
        bnd (v4 + (1 : Int32)) fun x20 =>
        f_X10_chance_17 n v0 v1 x18 x20 M10
        ) else (
        bnd (v4 + (1 : Int32)) fun x13 =>
        f_X10_chance_17 n v0 v1 v2 x13 M10
        )
      )
def f_X10_chance (n : Nat) (o : Nat) (a1 : Int32) (M : Mem) : Option (Int32 × Mem) :=
  obd (f_X10_isIn a1 (0 : Int32) (10 : Int32) M) fun r2 =>
  if r2 = 0 then (
    some ((-1 : Int32), M)
    ) else (
    f_X10_chance_17 n o a1 (0 : Int64) (0 : Int32) M
    )
theorem cd_X10_chance : (yX10_chance.cls ≠ "java/lang/invoke/MethodHandle" ∧ yX10_chance.cls ≠ "java/lang/invoke/VarHandle") ∧ (parseMethodDescriptor yX10_chance.desc).map (fun d => d.parameters.length) = some 1 := ⟨⟨by decide +kernel, by decide +kernel⟩, by decide +kernel⟩
section
variable {p : Program} {l : Launch} {e : Env} {R : Room} {s : State} {m : MethodId} {args : Array Value} {below : List Frame} {meth : Method} {c : Code} {G : Gam} {M0 : Mem}
theorem l_X10_chance_17 {rv : (Int32 × Mem)} (X : Cx p R s m args c G M0 cX10_chance yX10_chance.cls 5 4 91) (hr : meth.sig.returnType = (some .int)) (hlk : meth.locks = false) (hnm : meth.name = "chance") : ∀ {n : Nat} (v0 : Nat) (v1 : Int32) (v2 : Int64) (v4 : Int32) (M : Mem), f_X10_chance_17 n v0 v1 v2 v4 M = some rv → Sg p l e R s m args below meth c (Qm below G args s (some (.int rv.1)) M0 rv.2) G M0 5 17 [(0, .ref (gB G + v0)), (1, .int v1), (2, .long v2), (4, .int v4)] [] M := by
  intro n
  induction n with
  | zero => intro v0 v1 v2 v4 M hf; exact (pk_none hf).elim
  | succ n ih =>
    intro v0 v1 v2 v4 M hf
    rw [f_X10_chance_17] at hf
    refine s_iload X 3 dX10_chance_17 rfl ?_
    refine s_aload_n X 0 dX10_chance_19 rfl rfl ?_
    obtain ⟨h1, hf⟩ := pk_chk hf
    obtain ⟨r3, hc2, hf⟩ := pk_obd hf
    refine s_callV X (ci := 10) (k_X10_all G hc2) rfl h1 wd1542 wd1544 wd52 wd1545 wd138 cd_X10_all ⟨Nat.le_of_ble_eq_true rfl, Nat.le_of_ble_eq_true rfl⟩ (Nat.le_of_ble_eq_true rfl) dX10_chance_20 ?_
    have hs4 := pk_ite hf
    clear hf
    refine s_icmp_gt X (tgt := 51) dX10_chance_23 rfl (fun c5 => ?_) (fun c5 => ?_)
    · have hf := hs4.1 c5
      refine s_aload_n X 0 dX10_chance_51 rfl rfl ?_
      refine s_lload_n X 2 dX10_chance_52 rfl rfl ?_
      obtain ⟨r7, hc6, hf⟩ := pk_obd hf
      refine s_callV X (ci := 10) (k_X10_millionths G hc6) rfl h1 wd1647 wd1649 wd63 wd1650 wd138 cd_X10_millionths ⟨Nat.le_of_ble_eq_true rfl, Nat.le_of_ble_eq_true rfl⟩ (Nat.le_of_ble_eq_true rfl) dX10_chance_53 ?_
      cases hf
      exact s_iret X hr hlk dX10_chance_56
    · have hf := hs4.2 c5
      refine s_aload_n X 0 dX10_chance_26 rfl rfl ?_
      refine s_iload X 3 dX10_chance_27 rfl ?_
      obtain ⟨r9, M10, hc8, hf⟩ := pk_obd2 hf
      refine s_callV X (ci := 10) (k_X10_stopsBy G hc8) rfl h1 wd1616 wd1618 wd60 wd1619 wd138 cd_X10_stopsBy ⟨Nat.le_of_ble_eq_true rfl, Nat.le_of_ble_eq_true rfl⟩ (Nat.le_of_ble_eq_true rfl) dX10_chance_29 ?_
      have hs11 := pk_ite hf
      clear hf
      refine s_if_ne X (tgt := 45) dX10_chance_32 rfl (fun c12 => ?_) (fun c12 => ?_)
      · have hf := hs11.2 c12
        obtain ⟨x13, e14, hf⟩ := pk_bnd hf
        refine s_iinc X (vs' := [(0, .ref (gB G + v0)), (1, .int v1), (2, .long v2), (4, .int x13)]) 3 dX10_chance_45 rfl (v := x13) e14.symm (Nat.le_of_ble_eq_true rfl) [1, 2, 3, 0] rfl ?_
        refine s_goto X (tgt := 17) dX10_chance_48 rfl ?_
        exact ih _ _ _ _ _ hf
      · have hf := hs11.1 c12
        refine s_lload_n X 2 dX10_chance_35 rfl rfl ?_
        refine s_aload_n X 0 dX10_chance_36 rfl rfl ?_
        refine s_iload X 3 dX10_chance_37 rfl ?_
        refine s_iload_n X 1 dX10_chance_39 rfl rfl ?_
        obtain ⟨h15, hf⟩ := pk_chk hf
        obtain ⟨r17, hc16, hf⟩ := pk_obd hf
        refine s_callV X (ci := 10) (k_X10_oddsOf G hc16) rfl h15 wd1639 wd1641 wd62 wd1642 wd138 cd_X10_oddsOf ⟨Nat.le_of_ble_eq_true rfl, Nat.le_of_ble_eq_true rfl⟩ (Nat.le_of_ble_eq_true rfl) dX10_chance_40 ?_
        refine s_ladd X dX10_chance_43 ?_
        obtain ⟨x18, e19, hf⟩ := pk_bnd hf
        refine s_nmL e19 ?_
        refine s_lstore_n X (vs' := [(0, .ref (gB G + v0)), (1, .int v1), (2, .long x18), (4, .int v4)]) dX10_chance_44 rfl (Nat.le_of_ble_eq_true rfl) [1, 2, 0, 3] rfl ?_
        obtain ⟨x20, e21, hf⟩ := pk_bnd hf
        refine s_iinc X (vs' := [(0, .ref (gB G + v0)), (1, .int v1), (2, .long x18), (4, .int x20)]) 3 dX10_chance_45 rfl (v := x20) e21.symm (Nat.le_of_ble_eq_true rfl) [1, 2, 3, 0] rfl ?_
        refine s_goto X (tgt := 17) dX10_chance_48 rfl ?_
        exact ih _ _ _ _ _ hf
end
theorem k_X10_chance (G : Gam) {n : Nat} {o : Nat} {a1 : Int32} {M : Mem} {rv : (Int32 × Mem)} (hf : f_X10_chance n o a1 M = some rv) : Kt yX10_chance cX10_chance 5 (some .int) 4 91 G [.ref (gB G + o), .int a1] M rv.2 (some (.int rv.1)) := by
  refine Kt.of (by decide) (Nat.le_of_ble_eq_true rfl) ?_
  intro p l e R s m args below meth c X hr hlk hnm
  refine s_drop [0, 1] (vs' := [(0, .ref (gB G + o)), (1, .int a1)]) rfl ?_
  rw [f_X10_chance] at hf
  refine s_iload_n X 1 dX10_chance_0 rfl rfl ?_
  refine s_iconst X (v := (0 : Int32)) dX10_chance_1 rfl ?_
  refine s_bipush X (v := (10 : Int32)) dX10_chance_2 rfl ?_
  obtain ⟨r2, hc1, hf⟩ := pk_obd hf
  refine s_callS X (k_X10_isIn G hc1) wd1520 wd1521 wd1522 wd138 cd_X10_isIn ⟨Nat.le_of_ble_eq_true rfl, Nat.le_of_ble_eq_true rfl⟩ (Nat.le_of_ble_eq_true rfl) dX10_chance_4 ?_
  have hs3 := pk_ite hf
  clear hf
  refine s_if_ne X (tgt := 12) dX10_chance_7 rfl (fun c4 => ?_) (fun c4 => ?_)
  · have hf := hs3.2 c4
    refine s_lconst X (v := (0 : Int64)) dX10_chance_12 rfl ?_
    refine s_lstore_n X (vs' := [(0, .ref (gB G + o)), (1, .int a1), (2, .long (0 : Int64))]) dX10_chance_13 rfl (Nat.le_of_ble_eq_true rfl) [1, 2, 0] rfl ?_
    refine s_iconst X (v := (0 : Int32)) dX10_chance_14 rfl ?_
    refine s_istore X (vs' := [(0, .ref (gB G + o)), (1, .int a1), (2, .long (0 : Int64)), (4, .int (0 : Int32))]) dX10_chance_15 (Nat.le_of_ble_eq_true rfl) [1, 2, 3, 0] rfl ?_
    exact l_X10_chance_17 X hr hlk hnm _ _ _ _ _ hf
  · have hf := hs3.1 c4
    refine s_iconst X (v := (-1 : Int32)) dX10_chance_10 rfl ?_
    cases hf
    exact s_iret X hr hlk dX10_chance_11
theorem dX9_chanceOf_0 : decode cX9_chanceOf 0 = .ok (.aload_n 0, 1) := dk_42 (by decide +kernel)
theorem dX9_chanceOf_1 : decode cX9_chanceOf 1 = .ok (.getfield 10, 3) := dk_180 (x := 0) (y := 10) (by decide +kernel) rfl
theorem dX9_chanceOf_4 : decode cX9_chanceOf 4 = .ok (.iload_n 1, 1) := dk_27 (by decide +kernel)
theorem dX9_chanceOf_5 : decode cX9_chanceOf 5 = .ok (.invokevirtual 71, 3) := dk_182 (x := 0) (y := 71) (by decide +kernel) rfl
theorem dX9_chanceOf_8 : decode cX9_chanceOf 8 = .ok (.ifCond .eq 13, 3) := dk_153 (x := 0) (y := 13) (by decide +kernel) rfl
theorem dX9_chanceOf_11 : decode cX9_chanceOf 11 = .ok (.iload_n 2, 1) := dk_28 (by decide +kernel)
theorem dX9_chanceOf_12 : decode cX9_chanceOf 12 = .ok (.ifCond .lt 9, 3) := dk_155 (x := 0) (y := 9) (by decide +kernel) rfl
theorem dX9_chanceOf_15 : decode cX9_chanceOf 15 = .ok (.iload_n 2, 1) := dk_28 (by decide +kernel)
theorem dX9_chanceOf_16 : decode cX9_chanceOf 16 = .ok (.bipush 10, 2) := dk_16 (x := 10) (by decide +kernel) rfl
theorem dX9_chanceOf_18 : decode cX9_chanceOf 18 = .ok (.if_icmp .le 5, 3) := dk_164 (x := 0) (y := 5) (by decide +kernel) rfl
theorem dX9_chanceOf_21 : decode cX9_chanceOf 21 = .ok (.iconst (-1), 1) := dk_2 (by decide +kernel)
theorem dX9_chanceOf_22 : decode cX9_chanceOf 22 = .ok (.ireturn, 1) := dk_172 (by decide +kernel)
theorem dX9_chanceOf_23 : decode cX9_chanceOf 23 = .ok (.aload_n 0, 1) := dk_42 (by decide +kernel)
theorem dX9_chanceOf_24 : decode cX9_chanceOf 24 = .ok (.invokevirtual 122, 3) := dk_182 (x := 0) (y := 122) (by decide +kernel) rfl
theorem dX9_chanceOf_27 : decode cX9_chanceOf 27 = .ok (.aload_n 0, 1) := dk_42 (by decide +kernel)
theorem dX9_chanceOf_28 : decode cX9_chanceOf 28 = .ok (.getfield 19, 3) := dk_180 (x := 0) (y := 19) (by decide +kernel) rfl
theorem dX9_chanceOf_31 : decode cX9_chanceOf 31 = .ok (.iload_n 1, 1) := dk_27 (by decide +kernel)
theorem dX9_chanceOf_32 : decode cX9_chanceOf 32 = .ok (.iload_n 2, 1) := dk_28 (by decide +kernel)
theorem dX9_chanceOf_33 : decode cX9_chanceOf 33 = .ok (.aload_n 0, 1) := dk_42 (by decide +kernel)
theorem dX9_chanceOf_34 : decode cX9_chanceOf 34 = .ok (.getfield 10, 3) := dk_180 (x := 0) (y := 10) (by decide +kernel) rfl
theorem dX9_chanceOf_37 : decode cX9_chanceOf 37 = .ok (.getfield 75, 3) := dk_180 (x := 0) (y := 75) (by decide +kernel) rfl
theorem dX9_chanceOf_40 : decode cX9_chanceOf 40 = .ok (.invokevirtual 142, 3) := dk_182 (x := 0) (y := 142) (by decide +kernel) rfl
theorem dX9_chanceOf_43 : decode cX9_chanceOf 43 = .ok (.ireturn, 1) := dk_172 (by decide +kernel)
def f_X9_chanceOf (n : Nat) (o : Nat) (a1 : Int32) (a2 : Int32) (M : Mem) : Option (Int32 × Mem) :=
  chk (isO M 9 o) <|
  bnd (mR M o 0) fun o2 =>
  chk (isO M 7 o2) <|
  obd (f_X7_isNode o2 a1 M) fun r6 =>
  if r6 = 0 then (
    some ((-1 : Int32), M)
    ) else (
    if a2 < 0 then (
      some ((-1 : Int32), M)
      ) else (
      if a2 ≤ (10 : Int32) then (
        obd (f_X9_surveyOnce n o M) fun M14 =>
        chk (isO M14 9 o) <|
        bnd (mR M14 o 1) fun o16 =>
        chk (isO M14 8 o16) <|
        bnd (mR M14 o 0) fun o19 =>
        chk (isO M14 7 o19) <|
        obd2 (f_X8_millionths n o16 a1 a2 (mI M14 o19 3) M14) fun r23 M24 =>
        some (r23, M24)
        ) else (
        some ((-1 : Int32), M)
        )
      )
    )
theorem cd_X9_chanceOf : (yX9_chanceOf.cls ≠ "java/lang/invoke/MethodHandle" ∧ yX9_chanceOf.cls ≠ "java/lang/invoke/VarHandle") ∧ (parseMethodDescriptor yX9_chanceOf.desc).map (fun d => d.parameters.length) = some 2 := ⟨⟨by decide +kernel, by decide +kernel⟩, by decide +kernel⟩
theorem k_X9_chanceOf (G : Gam) {n : Nat} {o : Nat} {a1 : Int32} {a2 : Int32} {M : Mem} {rv : (Int32 × Mem)} (hf : f_X9_chanceOf n o a1 a2 M = some rv) : Kt yX9_chanceOf cX9_chanceOf 3 (some .int) 5 110 G [.ref (gB G + o), .int a1, .int a2] M rv.2 (some (.int rv.1)) := by
  refine Kt.of (by decide) (Nat.le_of_ble_eq_true rfl) ?_
  intro p l e R s m args below meth c X hr hlk hnm
  refine s_drop [0, 1, 2] (vs' := [(0, .ref (gB G + o)), (1, .int a1), (2, .int a2)]) rfl ?_
  rw [f_X9_chanceOf] at hf
  refine s_aload_n X 0 dX9_chanceOf_0 rfl rfl ?_
  obtain ⟨h1, hf⟩ := pk_chk hf
  obtain ⟨o2, e3, hf⟩ := pk_bnd hf
  obtain ⟨h4, hf⟩ := pk_chk hf
  refine s_getR X (ci := 9) (k := 0) rfl (Nat.le_of_ble_eq_true rfl) h1 wd627 (fun _ _ _ => rfl) (e3 ▸ h4) dX9_chanceOf_1 (e3 ▸ ?_)
  refine s_iload_n X 1 dX9_chanceOf_4 rfl rfl ?_
  obtain ⟨r6, hc5, hf⟩ := pk_obd hf
  refine s_callV X (ci := 7) (k_X7_isNode G hc5) rfl h4 wd699 wd700 wd701 wd702 wd127 cd_X7_isNode ⟨Nat.le_of_ble_eq_true rfl, Nat.le_of_ble_eq_true rfl⟩ (Nat.le_of_ble_eq_true rfl) dX9_chanceOf_5 ?_
  have hs7 := pk_ite hf
  clear hf
  refine s_if_eq X (tgt := 21) dX9_chanceOf_8 rfl (fun c8 => ?_) (fun c8 => ?_)
  · have hf := hs7.1 c8
    refine s_iconst X (v := (-1 : Int32)) dX9_chanceOf_21 rfl ?_
    cases hf
    exact s_iret X hr hlk dX9_chanceOf_22
  · have hf := hs7.2 c8
    refine s_iload_n X 2 dX9_chanceOf_11 rfl rfl ?_
    have hs9 := pk_ite hf
    clear hf
    refine s_if_lt X (tgt := 21) dX9_chanceOf_12 rfl (fun c10 => ?_) (fun c10 => ?_)
    · have hf := hs9.1 c10
      refine s_iconst X (v := (-1 : Int32)) dX9_chanceOf_21 rfl ?_
      cases hf
      exact s_iret X hr hlk dX9_chanceOf_22
    · have hf := hs9.2 c10
      refine s_iload_n X 2 dX9_chanceOf_15 rfl rfl ?_
      refine s_bipush X (v := (10 : Int32)) dX9_chanceOf_16 rfl ?_
      have hs11 := pk_ite hf
      clear hf
      refine s_icmp_le X (tgt := 23) dX9_chanceOf_18 rfl (fun c12 => ?_) (fun c12 => ?_)
      · have hf := hs11.1 c12
        refine s_aload_n X 0 dX9_chanceOf_23 rfl rfl ?_
        obtain ⟨M14, hc13, hf⟩ := pk_obd hf
        refine s_callV X (ci := 9) (k_X9_surveyOnce G hc13) rfl h1 wd784 wd786 wd5 wd787 wd126 cd_X9_surveyOnce ⟨Nat.le_of_ble_eq_true rfl, Nat.le_of_ble_eq_true rfl⟩ (Nat.le_of_ble_eq_true rfl) dX9_chanceOf_24 ?_
        refine s_aload_n X 0 dX9_chanceOf_27 rfl rfl ?_
        obtain ⟨h15, hf⟩ := pk_chk hf
        obtain ⟨o16, e17, hf⟩ := pk_bnd hf
        obtain ⟨h18, hf⟩ := pk_chk hf
        refine s_getR X (ci := 9) (k := 1) rfl (Nat.le_of_ble_eq_true rfl) h15 wd628 (fun _ _ _ => rfl) (e17 ▸ h18) dX9_chanceOf_28 (e17 ▸ ?_)
        refine s_iload_n X 1 dX9_chanceOf_31 rfl rfl ?_
        refine s_iload_n X 2 dX9_chanceOf_32 rfl rfl ?_
        refine s_aload_n X 0 dX9_chanceOf_33 rfl rfl ?_
        obtain ⟨o19, e20, hf⟩ := pk_bnd hf
        obtain ⟨h21, hf⟩ := pk_chk hf
        refine s_getR X (ci := 9) (k := 0) rfl (Nat.le_of_ble_eq_true rfl) h15 wd627 (fun _ _ _ => rfl) (e20 ▸ h21) dX9_chanceOf_34 (e20 ▸ ?_)
        refine s_getI X (ci := 7) (k := 3) rfl (Nat.le_of_ble_eq_true rfl) h21 wd170 (fun _ _ _ => rfl) dX9_chanceOf_37 ?_
        obtain ⟨r23, M24, hc22, hf⟩ := pk_obd2 hf
        refine s_callV X (ci := 8) (k_X8_millionths G hc22) rfl h18 wd856 wd857 wd858 wd859 wd128 cd_X8_millionths ⟨Nat.le_of_ble_eq_true rfl, Nat.le_of_ble_eq_true rfl⟩ (Nat.le_of_ble_eq_true rfl) dX9_chanceOf_40 ?_
        cases hf
        exact s_iret X hr hlk dX9_chanceOf_43
      · have hf := hs11.2 c12
        refine s_iconst X (v := (-1 : Int32)) dX9_chanceOf_21 rfl ?_
        cases hf
        exact s_iret X hr hlk dX9_chanceOf_22
theorem dX10_chanceOf_0 : decode cX10_chanceOf 0 = .ok (.aload_n 0, 1) := dk_42 (by decide +kernel)
theorem dX10_chanceOf_1 : decode cX10_chanceOf 1 = .ok (.iload_n 1, 1) := dk_27 (by decide +kernel)
theorem dX10_chanceOf_2 : decode cX10_chanceOf 2 = .ok (.invokevirtual 76, 3) := dk_182 (x := 0) (y := 76) (by decide +kernel) rfl
theorem dX10_chanceOf_5 : decode cX10_chanceOf 5 = .ok (.ifCond .eq 13, 3) := dk_153 (x := 0) (y := 13) (by decide +kernel) rfl
theorem dX10_chanceOf_8 : decode cX10_chanceOf 8 = .ok (.iload_n 2, 1) := dk_28 (by decide +kernel)
theorem dX10_chanceOf_9 : decode cX10_chanceOf 9 = .ok (.iconst 0, 1) := dk_3 (by decide +kernel)
theorem dX10_chanceOf_10 : decode cX10_chanceOf 10 = .ok (.bipush 10, 2) := dk_16 (x := 10) (by decide +kernel) rfl
theorem dX10_chanceOf_12 : decode cX10_chanceOf 12 = .ok (.invokestatic 49, 3) := dk_184 (x := 0) (y := 49) (by decide +kernel) rfl
theorem dX10_chanceOf_15 : decode cX10_chanceOf 15 = .ok (.ifCond .ne 5, 3) := dk_154 (x := 0) (y := 5) (by decide +kernel) rfl
theorem dX10_chanceOf_18 : decode cX10_chanceOf 18 = .ok (.iconst (-1), 1) := dk_2 (by decide +kernel)
theorem dX10_chanceOf_19 : decode cX10_chanceOf 19 = .ok (.ireturn, 1) := dk_172 (by decide +kernel)
theorem dX10_chanceOf_20 : decode cX10_chanceOf 20 = .ok (.lconst 0, 1) := dk_9 (by decide +kernel)
theorem dX10_chanceOf_21 : decode cX10_chanceOf 21 = .ok (.lstore_n 3, 1) := dk_66 (by decide +kernel)
theorem dX10_chanceOf_22 : decode cX10_chanceOf 22 = .ok (.iconst 0, 1) := dk_3 (by decide +kernel)
theorem dX10_chanceOf_23 : decode cX10_chanceOf 23 = .ok (.istore 5, 2) := dk_54 (x := 5) (by decide +kernel)
theorem dX10_chanceOf_25 : decode cX10_chanceOf 25 = .ok (.iload 5, 2) := dk_21 (x := 5) (by decide +kernel)
theorem dX10_chanceOf_27 : decode cX10_chanceOf 27 = .ok (.aload_n 0, 1) := dk_42 (by decide +kernel)
theorem dX10_chanceOf_28 : decode cX10_chanceOf 28 = .ok (.invokevirtual 72, 3) := dk_182 (x := 0) (y := 72) (by decide +kernel) rfl
theorem dX10_chanceOf_31 : decode cX10_chanceOf 31 = .ok (.if_icmp .gt 38, 3) := dk_163 (x := 0) (y := 38) (by decide +kernel) rfl
theorem dX10_chanceOf_34 : decode cX10_chanceOf 34 = .ok (.iload 5, 2) := dk_21 (x := 5) (by decide +kernel)
theorem dX10_chanceOf_36 : decode cX10_chanceOf 36 = .ok (.iload_n 1, 1) := dk_27 (by decide +kernel)
theorem dX10_chanceOf_37 : decode cX10_chanceOf 37 = .ok (.invokestatic 45, 3) := dk_184 (x := 0) (y := 45) (by decide +kernel) rfl
theorem dX10_chanceOf_40 : decode cX10_chanceOf 40 = .ok (.ifCond .ne 23, 3) := dk_154 (x := 0) (y := 23) (by decide +kernel) rfl
theorem dX10_chanceOf_43 : decode cX10_chanceOf 43 = .ok (.aload_n 0, 1) := dk_42 (by decide +kernel)
theorem dX10_chanceOf_44 : decode cX10_chanceOf 44 = .ok (.iload_n 1, 1) := dk_27 (by decide +kernel)
theorem dX10_chanceOf_45 : decode cX10_chanceOf 45 = .ok (.iload 5, 2) := dk_21 (x := 5) (by decide +kernel)
theorem dX10_chanceOf_47 : decode cX10_chanceOf 47 = .ok (.invokevirtual 99, 3) := dk_182 (x := 0) (y := 99) (by decide +kernel) rfl
theorem dX10_chanceOf_50 : decode cX10_chanceOf 50 = .ok (.ifCond .eq 13, 3) := dk_153 (x := 0) (y := 13) (by decide +kernel) rfl
theorem dX10_chanceOf_53 : decode cX10_chanceOf 53 = .ok (.lload_n 3, 1) := dk_33 (by decide +kernel)
theorem dX10_chanceOf_54 : decode cX10_chanceOf 54 = .ok (.aload_n 0, 1) := dk_42 (by decide +kernel)
theorem dX10_chanceOf_55 : decode cX10_chanceOf 55 = .ok (.iload 5, 2) := dk_21 (x := 5) (by decide +kernel)
theorem dX10_chanceOf_57 : decode cX10_chanceOf 57 = .ok (.iload_n 2, 1) := dk_28 (by decide +kernel)
theorem dX10_chanceOf_58 : decode cX10_chanceOf 58 = .ok (.invokevirtual 123, 3) := dk_182 (x := 0) (y := 123) (by decide +kernel) rfl
theorem dX10_chanceOf_61 : decode cX10_chanceOf 61 = .ok (.ladd, 1) := dk_97 (by decide +kernel)
theorem dX10_chanceOf_62 : decode cX10_chanceOf 62 = .ok (.lstore_n 3, 1) := dk_66 (by decide +kernel)
theorem dX10_chanceOf_63 : decode cX10_chanceOf 63 = .ok (.iinc 5 1, 3) := dk_132 (x := 5) (y := 1) (by decide +kernel) rfl
theorem dX10_chanceOf_66 : decode cX10_chanceOf 66 = .ok (.goto (-41), 3) := dk_167 (x := 255) (y := 215) (by decide +kernel) rfl
theorem dX10_chanceOf_69 : decode cX10_chanceOf 69 = .ok (.aload_n 0, 1) := dk_42 (by decide +kernel)
theorem dX10_chanceOf_70 : decode cX10_chanceOf 70 = .ok (.lload_n 3, 1) := dk_33 (by decide +kernel)
theorem dX10_chanceOf_71 : decode cX10_chanceOf 71 = .ok (.invokevirtual 127, 3) := dk_182 (x := 0) (y := 127) (by decide +kernel) rfl
theorem dX10_chanceOf_74 : decode cX10_chanceOf 74 = .ok (.ireturn, 1) := dk_172 (by decide +kernel)
def f_X10_chanceOf_25 : Nat → Nat → Int32 → Int32 → Int64 → Int32 → Mem → Option (Int32 × Mem)
  | 0, _, _, _, _, _, _ => none
  | n + 1, v0, v1, v2, v3, v5, M =>
    chk (isO M 10 v0) <|
    obd (f_X10_all v0 M) fun r3 =>
    if r3 < v5 then (
      obd (f_X10_millionths n v0 v3 M) fun r7 =>
      some (r7, M)
      ) else (
      obd (f_X10_has v5 v1 M) fun r9 =>
      if r9 = 0 then (
        obd2 (f_X10_quorumBy n v0 v1 v5 M) fun r15 M16 =>
        if r15 = 0 then (
          bnd (v5 + (1 : Int32)) fun x19 =>
          f_X10_chanceOf_25 n v0 v1 v2 v3 x19 M16
          ) else (
          chk (isO M16 10 v0) <|
          obd (f_X10_oddsOf n v0 v5 v2 M16) fun r23 =>
          bnd (v3 + r23) fun x24 =>
          bnd (v5 + (1 : Int32)) fun x26 =>
          f_X10_chanceOf_25 n v0 v1 v2 x24 x26 M16
          )
        ) else (
        bnd (v5 + (1 : Int32)) fun x12 =>
        f_X10_chanceOf_25 n v0 v1 v2 v3 x12 M
        )
      )
def f_X10_chanceOf (n : Nat) (o : Nat) (a1 : Int32) (a2 : Int32) (M : Mem) : Option (Int32 × Mem) :=
  chk (isO M 10 o) <|
  obd (f_X10_isNode o a1 M) fun r3 =>
  if r3 = 0 then (
    some ((-1 : Int32), M)
    ) else (
    obd (f_X10_isIn a2 (0 : Int32) (10 : Int32) M) fun r7 =>
    if r7 = 0 then (
      some ((-1 : Int32), M)
      ) else (
      f_X10_chanceOf_25 n o a1 a2 (0 : Int64) (0 : Int32) M
      )
    )
theorem cd_X10_chanceOf : (yX10_chanceOf.cls ≠ "java/lang/invoke/MethodHandle" ∧ yX10_chanceOf.cls ≠ "java/lang/invoke/VarHandle") ∧ (parseMethodDescriptor yX10_chanceOf.desc).map (fun d => d.parameters.length) = some 2 := ⟨⟨by decide +kernel, by decide +kernel⟩, by decide +kernel⟩
section
variable {p : Program} {l : Launch} {e : Env} {R : Room} {s : State} {m : MethodId} {args : Array Value} {below : List Frame} {meth : Method} {c : Code} {G : Gam} {M0 : Mem}
theorem l_X10_chanceOf_25 {rv : (Int32 × Mem)} (X : Cx p R s m args c G M0 cX10_chanceOf yX10_chanceOf.cls 6 3 69) (hr : meth.sig.returnType = (some .int)) (hlk : meth.locks = false) (hnm : meth.name = "chanceOf") : ∀ {n : Nat} (v0 : Nat) (v1 : Int32) (v2 : Int32) (v3 : Int64) (v5 : Int32) (M : Mem), f_X10_chanceOf_25 n v0 v1 v2 v3 v5 M = some rv → Sg p l e R s m args below meth c (Qm below G args s (some (.int rv.1)) M0 rv.2) G M0 6 25 [(0, .ref (gB G + v0)), (1, .int v1), (2, .int v2), (3, .long v3), (5, .int v5)] [] M := by
  intro n
  induction n with
  | zero => intro v0 v1 v2 v3 v5 M hf; exact (pk_none hf).elim
  | succ n ih =>
    intro v0 v1 v2 v3 v5 M hf
    rw [f_X10_chanceOf_25] at hf
    refine s_iload X 4 dX10_chanceOf_25 rfl ?_
    refine s_aload_n X 0 dX10_chanceOf_27 rfl rfl ?_
    obtain ⟨h1, hf⟩ := pk_chk hf
    obtain ⟨r3, hc2, hf⟩ := pk_obd hf
    refine s_callV X (ci := 10) (k_X10_all G hc2) rfl h1 wd1542 wd1544 wd52 wd1545 wd138 cd_X10_all ⟨Nat.le_of_ble_eq_true rfl, Nat.le_of_ble_eq_true rfl⟩ (Nat.le_of_ble_eq_true rfl) dX10_chanceOf_28 ?_
    have hs4 := pk_ite hf
    clear hf
    refine s_icmp_gt X (tgt := 69) dX10_chanceOf_31 rfl (fun c5 => ?_) (fun c5 => ?_)
    · have hf := hs4.1 c5
      refine s_aload_n X 0 dX10_chanceOf_69 rfl rfl ?_
      refine s_lload_n X 3 dX10_chanceOf_70 rfl rfl ?_
      obtain ⟨r7, hc6, hf⟩ := pk_obd hf
      refine s_callV X (ci := 10) (k_X10_millionths G hc6) rfl h1 wd1647 wd1649 wd63 wd1650 wd138 cd_X10_millionths ⟨Nat.le_of_ble_eq_true rfl, Nat.le_of_ble_eq_true rfl⟩ (Nat.le_of_ble_eq_true rfl) dX10_chanceOf_71 ?_
      cases hf
      exact s_iret X hr hlk dX10_chanceOf_74
    · have hf := hs4.2 c5
      refine s_iload X 4 dX10_chanceOf_34 rfl ?_
      refine s_iload_n X 1 dX10_chanceOf_36 rfl rfl ?_
      obtain ⟨r9, hc8, hf⟩ := pk_obd hf
      refine s_callS X (k_X10_has G hc8) wd1565 wd1566 wd1567 wd138 cd_X10_has ⟨Nat.le_of_ble_eq_true rfl, Nat.le_of_ble_eq_true rfl⟩ (Nat.le_of_ble_eq_true rfl) dX10_chanceOf_37 ?_
      have hs10 := pk_ite hf
      clear hf
      refine s_if_ne X (tgt := 63) dX10_chanceOf_40 rfl (fun c11 => ?_) (fun c11 => ?_)
      · have hf := hs10.2 c11
        obtain ⟨x12, e13, hf⟩ := pk_bnd hf
        refine s_iinc X (vs' := [(0, .ref (gB G + v0)), (1, .int v1), (2, .int v2), (3, .long v3), (5, .int x12)]) 4 dX10_chanceOf_63 rfl (v := x12) e13.symm (Nat.le_of_ble_eq_true rfl) [1, 2, 3, 4, 0] rfl ?_
        refine s_goto X (tgt := 25) dX10_chanceOf_66 rfl ?_
        exact ih _ _ _ _ _ _ hf
      · have hf := hs10.1 c11
        refine s_aload_n X 0 dX10_chanceOf_43 rfl rfl ?_
        refine s_iload_n X 1 dX10_chanceOf_44 rfl rfl ?_
        refine s_iload X 4 dX10_chanceOf_45 rfl ?_
        obtain ⟨r15, M16, hc14, hf⟩ := pk_obd2 hf
        refine s_callV X (ci := 10) (k_X10_quorumBy G hc14) rfl h1 wd1592 wd1594 wd58 wd1595 wd138 cd_X10_quorumBy ⟨Nat.le_of_ble_eq_true rfl, Nat.le_of_ble_eq_true rfl⟩ (Nat.le_of_ble_eq_true rfl) dX10_chanceOf_47 ?_
        have hs17 := pk_ite hf
        clear hf
        refine s_if_eq X (tgt := 63) dX10_chanceOf_50 rfl (fun c18 => ?_) (fun c18 => ?_)
        · have hf := hs17.1 c18
          obtain ⟨x19, e20, hf⟩ := pk_bnd hf
          refine s_iinc X (vs' := [(0, .ref (gB G + v0)), (1, .int v1), (2, .int v2), (3, .long v3), (5, .int x19)]) 4 dX10_chanceOf_63 rfl (v := x19) e20.symm (Nat.le_of_ble_eq_true rfl) [1, 2, 3, 4, 0] rfl ?_
          refine s_goto X (tgt := 25) dX10_chanceOf_66 rfl ?_
          exact ih _ _ _ _ _ _ hf
        · have hf := hs17.2 c18
          refine s_lload_n X 3 dX10_chanceOf_53 rfl rfl ?_
          refine s_aload_n X 0 dX10_chanceOf_54 rfl rfl ?_
          refine s_iload X 4 dX10_chanceOf_55 rfl ?_
          refine s_iload_n X 2 dX10_chanceOf_57 rfl rfl ?_
          obtain ⟨h21, hf⟩ := pk_chk hf
          obtain ⟨r23, hc22, hf⟩ := pk_obd hf
          refine s_callV X (ci := 10) (k_X10_oddsOf G hc22) rfl h21 wd1639 wd1641 wd62 wd1642 wd138 cd_X10_oddsOf ⟨Nat.le_of_ble_eq_true rfl, Nat.le_of_ble_eq_true rfl⟩ (Nat.le_of_ble_eq_true rfl) dX10_chanceOf_58 ?_
          refine s_ladd X dX10_chanceOf_61 ?_
          obtain ⟨x24, e25, hf⟩ := pk_bnd hf
          refine s_nmL e25 ?_
          refine s_lstore_n X (vs' := [(0, .ref (gB G + v0)), (1, .int v1), (2, .int v2), (3, .long x24), (5, .int v5)]) dX10_chanceOf_62 rfl (Nat.le_of_ble_eq_true rfl) [1, 2, 3, 0, 4] rfl ?_
          obtain ⟨x26, e27, hf⟩ := pk_bnd hf
          refine s_iinc X (vs' := [(0, .ref (gB G + v0)), (1, .int v1), (2, .int v2), (3, .long x24), (5, .int x26)]) 4 dX10_chanceOf_63 rfl (v := x26) e27.symm (Nat.le_of_ble_eq_true rfl) [1, 2, 3, 4, 0] rfl ?_
          refine s_goto X (tgt := 25) dX10_chanceOf_66 rfl ?_
          exact ih _ _ _ _ _ _ hf
end
theorem k_X10_chanceOf (G : Gam) {n : Nat} {o : Nat} {a1 : Int32} {a2 : Int32} {M : Mem} {rv : (Int32 × Mem)} (hf : f_X10_chanceOf n o a1 a2 M = some rv) : Kt yX10_chanceOf cX10_chanceOf 6 (some .int) 3 69 G [.ref (gB G + o), .int a1, .int a2] M rv.2 (some (.int rv.1)) := by
  refine Kt.of (by decide) (Nat.le_of_ble_eq_true rfl) ?_
  intro p l e R s m args below meth c X hr hlk hnm
  refine s_drop [0, 1, 2] (vs' := [(0, .ref (gB G + o)), (1, .int a1), (2, .int a2)]) rfl ?_
  rw [f_X10_chanceOf] at hf
  refine s_aload_n X 0 dX10_chanceOf_0 rfl rfl ?_
  refine s_iload_n X 1 dX10_chanceOf_1 rfl rfl ?_
  obtain ⟨h1, hf⟩ := pk_chk hf
  obtain ⟨r3, hc2, hf⟩ := pk_obd hf
  refine s_callV X (ci := 10) (k_X10_isNode G hc2) rfl h1 wd1554 wd1556 wd53 wd1557 wd138 cd_X10_isNode ⟨Nat.le_of_ble_eq_true rfl, Nat.le_of_ble_eq_true rfl⟩ (Nat.le_of_ble_eq_true rfl) dX10_chanceOf_2 ?_
  have hs4 := pk_ite hf
  clear hf
  refine s_if_eq X (tgt := 18) dX10_chanceOf_5 rfl (fun c5 => ?_) (fun c5 => ?_)
  · have hf := hs4.1 c5
    refine s_iconst X (v := (-1 : Int32)) dX10_chanceOf_18 rfl ?_
    cases hf
    exact s_iret X hr hlk dX10_chanceOf_19
  · have hf := hs4.2 c5
    refine s_iload_n X 2 dX10_chanceOf_8 rfl rfl ?_
    refine s_iconst X (v := (0 : Int32)) dX10_chanceOf_9 rfl ?_
    refine s_bipush X (v := (10 : Int32)) dX10_chanceOf_10 rfl ?_
    obtain ⟨r7, hc6, hf⟩ := pk_obd hf
    refine s_callS X (k_X10_isIn G hc6) wd1520 wd1521 wd1522 wd138 cd_X10_isIn ⟨Nat.le_of_ble_eq_true rfl, Nat.le_of_ble_eq_true rfl⟩ (Nat.le_of_ble_eq_true rfl) dX10_chanceOf_12 ?_
    have hs8 := pk_ite hf
    clear hf
    refine s_if_ne X (tgt := 20) dX10_chanceOf_15 rfl (fun c9 => ?_) (fun c9 => ?_)
    · have hf := hs8.2 c9
      refine s_lconst X (v := (0 : Int64)) dX10_chanceOf_20 rfl ?_
      refine s_lstore_n X (vs' := [(0, .ref (gB G + o)), (1, .int a1), (2, .int a2), (3, .long (0 : Int64))]) dX10_chanceOf_21 rfl (Nat.le_of_ble_eq_true rfl) [1, 2, 3, 0] rfl ?_
      refine s_iconst X (v := (0 : Int32)) dX10_chanceOf_22 rfl ?_
      refine s_istore X (vs' := [(0, .ref (gB G + o)), (1, .int a1), (2, .int a2), (3, .long (0 : Int64)), (5, .int (0 : Int32))]) dX10_chanceOf_23 (Nat.le_of_ble_eq_true rfl) [1, 2, 3, 4, 0] rfl ?_
      exact l_X10_chanceOf_25 X hr hlk hnm _ _ _ _ _ _ hf
    · have hf := hs8.1 c9
      refine s_iconst X (v := (-1 : Int32)) dX10_chanceOf_18 rfl ?_
      cases hf
      exact s_iret X hr hlk dX10_chanceOf_19
theorem dX7_leastSize_0 : decode cX7_leastSize 0 = .ok (.bipush 16, 2) := dk_16 (x := 16) (by decide +kernel) rfl
theorem dX7_leastSize_2 : decode cX7_leastSize 2 = .ok (.istore_n 1, 1) := dk_60 (by decide +kernel)
theorem dX7_leastSize_3 : decode cX7_leastSize 3 = .ok (.iconst 0, 1) := dk_3 (by decide +kernel)
theorem dX7_leastSize_4 : decode cX7_leastSize 4 = .ok (.istore_n 2, 1) := dk_61 (by decide +kernel)
theorem dX7_leastSize_5 : decode cX7_leastSize 5 = .ok (.iload_n 2, 1) := dk_28 (by decide +kernel)
theorem dX7_leastSize_6 : decode cX7_leastSize 6 = .ok (.aload_n 0, 1) := dk_42 (by decide +kernel)
theorem dX7_leastSize_7 : decode cX7_leastSize 7 = .ok (.getfield 40, 3) := dk_180 (x := 0) (y := 40) (by decide +kernel) rfl
theorem dX7_leastSize_10 : decode cX7_leastSize 10 = .ok (.if_icmp .ge 23, 3) := dk_162 (x := 0) (y := 23) (by decide +kernel) rfl
theorem dX7_leastSize_13 : decode cX7_leastSize 13 = .ok (.iload_n 1, 1) := dk_27 (by decide +kernel)
theorem dX7_leastSize_14 : decode cX7_leastSize 14 = .ok (.aload_n 0, 1) := dk_42 (by decide +kernel)
theorem dX7_leastSize_15 : decode cX7_leastSize 15 = .ok (.getfield 9, 3) := dk_180 (x := 0) (y := 9) (by decide +kernel) rfl
theorem dX7_leastSize_18 : decode cX7_leastSize 18 = .ok (.iload_n 2, 1) := dk_28 (by decide +kernel)
theorem dX7_leastSize_19 : decode cX7_leastSize 19 = .ok (.iaload, 1) := dk_46 (by decide +kernel)
theorem dX7_leastSize_20 : decode cX7_leastSize 20 = .ok (.invokestatic 81, 3) := dk_184 (x := 0) (y := 81) (by decide +kernel) rfl
theorem dX7_leastSize_23 : decode cX7_leastSize 23 = .ok (.invokestatic 86, 3) := dk_184 (x := 0) (y := 86) (by decide +kernel) rfl
theorem dX7_leastSize_26 : decode cX7_leastSize 26 = .ok (.istore_n 1, 1) := dk_60 (by decide +kernel)
theorem dX7_leastSize_27 : decode cX7_leastSize 27 = .ok (.iinc 2 1, 3) := dk_132 (x := 2) (y := 1) (by decide +kernel) rfl
theorem dX7_leastSize_30 : decode cX7_leastSize 30 = .ok (.goto (-25), 3) := dk_167 (x := 255) (y := 231) (by decide +kernel) rfl
theorem dX7_leastSize_33 : decode cX7_leastSize 33 = .ok (.iload_n 1, 1) := dk_27 (by decide +kernel)
theorem dX7_leastSize_34 : decode cX7_leastSize 34 = .ok (.ireturn, 1) := dk_172 (by decide +kernel)
def f_X7_leastSize_5 (M : Mem) : Nat → Nat → Int32 → Int32 → Option Int32
  | 0, _, _, _ => none
  | n + 1, v0, v1, v2 =>
    chk (isO M 7 v0) <|
    if (mI M v0 3) ≤ v2 then (
      some v1
      ) else (
      bnd (mR M v0 0) fun o4 =>
      chk (isO M 100 o4) <|
      chk (inB v2 (mLn M o4)) <|
      obd (f_J6_bitCount_0f7a4 (mI M o4 (v2).toNatClampNeg) M) fun r9 =>
      bnd (if r9 < v1 then r9 else v1) fun x10 =>
      bnd (v2 + (1 : Int32)) fun x12 =>
      f_X7_leastSize_5 M n v0 x10 x12
      )
def f_X7_leastSize (n : Nat) (o : Nat) (M : Mem) : Option Int32 :=
  f_X7_leastSize_5 M n o (16 : Int32) (0 : Int32)
theorem cd_X7_leastSize : (yX7_leastSize.cls ≠ "java/lang/invoke/MethodHandle" ∧ yX7_leastSize.cls ≠ "java/lang/invoke/VarHandle") ∧ (parseMethodDescriptor yX7_leastSize.desc).map (fun d => d.parameters.length) = some 0 := ⟨⟨by decide +kernel, by decide +kernel⟩, by decide +kernel⟩
section
variable {p : Program} {l : Launch} {e : Env} {R : Room} {s : State} {m : MethodId} {args : Array Value} {below : List Frame} {meth : Method} {c : Code} {G : Gam} {M0 : Mem}
theorem l_X7_leastSize_5 {M : Mem} {rv : Int32} (X : Cx p R s m args c G M0 cX7_leastSize yX7_leastSize.cls 3 1 24) (hr : meth.sig.returnType = (some .int)) (hlk : meth.locks = false) (hnm : meth.name = "leastSize") : ∀ {n : Nat} (v0 : Nat) (v1 : Int32) (v2 : Int32), f_X7_leastSize_5 M n v0 v1 v2 = some rv → Sg p l e R s m args below meth c (Qm below G args s (some (.int rv)) M0 M) G M0 3 5 [(0, .ref (gB G + v0)), (1, .int v1), (2, .int v2)] [] M := by
  intro n
  induction n with
  | zero => intro v0 v1 v2 hf; exact (pk_none hf).elim
  | succ n ih =>
    intro v0 v1 v2 hf
    rw [f_X7_leastSize_5] at hf
    refine s_iload_n X 2 dX7_leastSize_5 rfl rfl ?_
    refine s_aload_n X 0 dX7_leastSize_6 rfl rfl ?_
    obtain ⟨h1, hf⟩ := pk_chk hf
    refine s_getI X (ci := 7) (k := 3) rfl (Nat.le_of_ble_eq_true rfl) h1 wd169 (fun _ _ _ => rfl) dX7_leastSize_7 ?_
    have hs2 := pk_ite hf
    clear hf
    refine s_icmp_ge X (tgt := 33) dX7_leastSize_10 rfl (fun c3 => ?_) (fun c3 => ?_)
    · have hf := hs2.1 c3
      refine s_iload_n X 1 dX7_leastSize_33 rfl rfl ?_
      cases hf
      exact s_iret X hr hlk dX7_leastSize_34
    · have hf := hs2.2 c3
      refine s_iload_n X 1 dX7_leastSize_13 rfl rfl ?_
      refine s_aload_n X 0 dX7_leastSize_14 rfl rfl ?_
      obtain ⟨o4, e5, hf⟩ := pk_bnd hf
      obtain ⟨h6, hf⟩ := pk_chk hf
      refine s_getR X (ci := 7) (k := 0) rfl (Nat.le_of_ble_eq_true rfl) h1 wd159 (fun _ _ _ => rfl) (e5 ▸ h6) dX7_leastSize_15 (e5 ▸ ?_)
      refine s_iload_n X 2 dX7_leastSize_18 rfl rfl ?_
      obtain ⟨h7, hf⟩ := pk_chk hf
      refine s_iald X h6 h7 dX7_leastSize_19 ?_
      obtain ⟨r9, hc8, hf⟩ := pk_obd hf
      refine s_callS X (k_J6_bitCount_0f7a4 G hc8) wd887 wd831 wd832 wd141 cd_J6_bitCount_0f7a4 ⟨Nat.le_of_ble_eq_true rfl, Nat.le_of_ble_eq_true rfl⟩ (Nat.le_of_ble_eq_true rfl) dX7_leastSize_20 ?_
      refine s_mmin X wd888 wd889 wd142 wd890 ⟨Nat.le_of_ble_eq_true rfl, Nat.le_of_ble_eq_true rfl⟩ dX7_leastSize_23 ?_
      obtain ⟨x10, e11, hf⟩ := pk_bnd hf
      refine s_nmI e11 ?_
      refine s_istore_n X (vs' := [(0, .ref (gB G + v0)), (1, .int x10), (2, .int v2)]) dX7_leastSize_26 rfl (Nat.le_of_ble_eq_true rfl) [1, 0, 2] rfl ?_
      obtain ⟨x12, e13, hf⟩ := pk_bnd hf
      refine s_iinc X (vs' := [(0, .ref (gB G + v0)), (1, .int x10), (2, .int x12)]) 2 dX7_leastSize_27 rfl (v := x12) e13.symm (Nat.le_of_ble_eq_true rfl) [1, 2, 0] rfl ?_
      refine s_goto X (tgt := 5) dX7_leastSize_30 rfl ?_
      exact ih _ _ _ hf
end
theorem k_X7_leastSize (G : Gam) {n : Nat} {o : Nat} {M : Mem} {rv : Int32} (hf : f_X7_leastSize n o M = some rv) : Kt yX7_leastSize cX7_leastSize 3 (some .int) 1 24 G [.ref (gB G + o)] M M (some (.int rv)) := by
  refine Kt.of (by decide) (Nat.le_of_ble_eq_true rfl) ?_
  intro p l e R s m args below meth c X hr hlk hnm
  refine s_drop [0] (vs' := [(0, .ref (gB G + o))]) rfl ?_
  rw [f_X7_leastSize] at hf
  refine s_bipush X (v := (16 : Int32)) dX7_leastSize_0 rfl ?_
  refine s_istore_n X (vs' := [(0, .ref (gB G + o)), (1, .int (16 : Int32))]) dX7_leastSize_2 rfl (Nat.le_of_ble_eq_true rfl) [1, 0] rfl ?_
  refine s_iconst X (v := (0 : Int32)) dX7_leastSize_3 rfl ?_
  refine s_istore_n X (vs' := [(0, .ref (gB G + o)), (1, .int (16 : Int32)), (2, .int (0 : Int32))]) dX7_leastSize_4 rfl (Nat.le_of_ble_eq_true rfl) [1, 2, 0] rfl ?_
  exact l_X7_leastSize_5 X hr hlk hnm _ _ _ hf
theorem dX7_greatestSize_0 : decode cX7_greatestSize 0 = .ok (.iconst 0, 1) := dk_3 (by decide +kernel)
theorem dX7_greatestSize_1 : decode cX7_greatestSize 1 = .ok (.istore_n 1, 1) := dk_60 (by decide +kernel)
theorem dX7_greatestSize_2 : decode cX7_greatestSize 2 = .ok (.iconst 0, 1) := dk_3 (by decide +kernel)
theorem dX7_greatestSize_3 : decode cX7_greatestSize 3 = .ok (.istore_n 2, 1) := dk_61 (by decide +kernel)
theorem dX7_greatestSize_4 : decode cX7_greatestSize 4 = .ok (.iload_n 2, 1) := dk_28 (by decide +kernel)
theorem dX7_greatestSize_5 : decode cX7_greatestSize 5 = .ok (.aload_n 0, 1) := dk_42 (by decide +kernel)
theorem dX7_greatestSize_6 : decode cX7_greatestSize 6 = .ok (.getfield 40, 3) := dk_180 (x := 0) (y := 40) (by decide +kernel) rfl
theorem dX7_greatestSize_9 : decode cX7_greatestSize 9 = .ok (.if_icmp .ge 23, 3) := dk_162 (x := 0) (y := 23) (by decide +kernel) rfl
theorem dX7_greatestSize_12 : decode cX7_greatestSize 12 = .ok (.iload_n 1, 1) := dk_27 (by decide +kernel)
theorem dX7_greatestSize_13 : decode cX7_greatestSize 13 = .ok (.aload_n 0, 1) := dk_42 (by decide +kernel)
theorem dX7_greatestSize_14 : decode cX7_greatestSize 14 = .ok (.getfield 9, 3) := dk_180 (x := 0) (y := 9) (by decide +kernel) rfl
theorem dX7_greatestSize_17 : decode cX7_greatestSize 17 = .ok (.iload_n 2, 1) := dk_28 (by decide +kernel)
theorem dX7_greatestSize_18 : decode cX7_greatestSize 18 = .ok (.iaload, 1) := dk_46 (by decide +kernel)
theorem dX7_greatestSize_19 : decode cX7_greatestSize 19 = .ok (.invokestatic 81, 3) := dk_184 (x := 0) (y := 81) (by decide +kernel) rfl
theorem dX7_greatestSize_22 : decode cX7_greatestSize 22 = .ok (.invokestatic 91, 3) := dk_184 (x := 0) (y := 91) (by decide +kernel) rfl
theorem dX7_greatestSize_25 : decode cX7_greatestSize 25 = .ok (.istore_n 1, 1) := dk_60 (by decide +kernel)
theorem dX7_greatestSize_26 : decode cX7_greatestSize 26 = .ok (.iinc 2 1, 3) := dk_132 (x := 2) (y := 1) (by decide +kernel) rfl
theorem dX7_greatestSize_29 : decode cX7_greatestSize 29 = .ok (.goto (-25), 3) := dk_167 (x := 255) (y := 231) (by decide +kernel) rfl
theorem dX7_greatestSize_32 : decode cX7_greatestSize 32 = .ok (.iload_n 1, 1) := dk_27 (by decide +kernel)
theorem dX7_greatestSize_33 : decode cX7_greatestSize 33 = .ok (.ireturn, 1) := dk_172 (by decide +kernel)
def f_X7_greatestSize_4 (M : Mem) : Nat → Nat → Int32 → Int32 → Option Int32
  | 0, _, _, _ => none
  | n + 1, v0, v1, v2 =>
    chk (isO M 7 v0) <|
    if (mI M v0 3) ≤ v2 then (
      some v1
      ) else (
      bnd (mR M v0 0) fun o4 =>
      chk (isO M 100 o4) <|
      chk (inB v2 (mLn M o4)) <|
      obd (f_J6_bitCount_0f7a4 (mI M o4 (v2).toNatClampNeg) M) fun r9 =>
      bnd (if v1 < r9 then r9 else v1) fun x10 =>
      bnd (v2 + (1 : Int32)) fun x12 =>
      f_X7_greatestSize_4 M n v0 x10 x12
      )
def f_X7_greatestSize (n : Nat) (o : Nat) (M : Mem) : Option Int32 :=
  f_X7_greatestSize_4 M n o (0 : Int32) (0 : Int32)
theorem cd_X7_greatestSize : (yX7_greatestSize.cls ≠ "java/lang/invoke/MethodHandle" ∧ yX7_greatestSize.cls ≠ "java/lang/invoke/VarHandle") ∧ (parseMethodDescriptor yX7_greatestSize.desc).map (fun d => d.parameters.length) = some 0 := ⟨⟨by decide +kernel, by decide +kernel⟩, by decide +kernel⟩
section
variable {p : Program} {l : Launch} {e : Env} {R : Room} {s : State} {m : MethodId} {args : Array Value} {below : List Frame} {meth : Method} {c : Code} {G : Gam} {M0 : Mem}
theorem l_X7_greatestSize_4 {M : Mem} {rv : Int32} (X : Cx p R s m args c G M0 cX7_greatestSize yX7_greatestSize.cls 3 1 24) (hr : meth.sig.returnType = (some .int)) (hlk : meth.locks = false) (hnm : meth.name = "greatestSize") : ∀ {n : Nat} (v0 : Nat) (v1 : Int32) (v2 : Int32), f_X7_greatestSize_4 M n v0 v1 v2 = some rv → Sg p l e R s m args below meth c (Qm below G args s (some (.int rv)) M0 M) G M0 3 4 [(0, .ref (gB G + v0)), (1, .int v1), (2, .int v2)] [] M := by
  intro n
  induction n with
  | zero => intro v0 v1 v2 hf; exact (pk_none hf).elim
  | succ n ih =>
    intro v0 v1 v2 hf
    rw [f_X7_greatestSize_4] at hf
    refine s_iload_n X 2 dX7_greatestSize_4 rfl rfl ?_
    refine s_aload_n X 0 dX7_greatestSize_5 rfl rfl ?_
    obtain ⟨h1, hf⟩ := pk_chk hf
    refine s_getI X (ci := 7) (k := 3) rfl (Nat.le_of_ble_eq_true rfl) h1 wd169 (fun _ _ _ => rfl) dX7_greatestSize_6 ?_
    have hs2 := pk_ite hf
    clear hf
    refine s_icmp_ge X (tgt := 32) dX7_greatestSize_9 rfl (fun c3 => ?_) (fun c3 => ?_)
    · have hf := hs2.1 c3
      refine s_iload_n X 1 dX7_greatestSize_32 rfl rfl ?_
      cases hf
      exact s_iret X hr hlk dX7_greatestSize_33
    · have hf := hs2.2 c3
      refine s_iload_n X 1 dX7_greatestSize_12 rfl rfl ?_
      refine s_aload_n X 0 dX7_greatestSize_13 rfl rfl ?_
      obtain ⟨o4, e5, hf⟩ := pk_bnd hf
      obtain ⟨h6, hf⟩ := pk_chk hf
      refine s_getR X (ci := 7) (k := 0) rfl (Nat.le_of_ble_eq_true rfl) h1 wd159 (fun _ _ _ => rfl) (e5 ▸ h6) dX7_greatestSize_14 (e5 ▸ ?_)
      refine s_iload_n X 2 dX7_greatestSize_17 rfl rfl ?_
      obtain ⟨h7, hf⟩ := pk_chk hf
      refine s_iald X h6 h7 dX7_greatestSize_18 ?_
      obtain ⟨r9, hc8, hf⟩ := pk_obd hf
      refine s_callS X (k_J6_bitCount_0f7a4 G hc8) wd887 wd831 wd832 wd141 cd_J6_bitCount_0f7a4 ⟨Nat.le_of_ble_eq_true rfl, Nat.le_of_ble_eq_true rfl⟩ (Nat.le_of_ble_eq_true rfl) dX7_greatestSize_19 ?_
      refine s_mmax X wd895 wd896 wd142 wd897 ⟨Nat.le_of_ble_eq_true rfl, Nat.le_of_ble_eq_true rfl⟩ dX7_greatestSize_22 ?_
      obtain ⟨x10, e11, hf⟩ := pk_bnd hf
      refine s_nmI e11 ?_
      refine s_istore_n X (vs' := [(0, .ref (gB G + v0)), (1, .int x10), (2, .int v2)]) dX7_greatestSize_25 rfl (Nat.le_of_ble_eq_true rfl) [1, 0, 2] rfl ?_
      obtain ⟨x12, e13, hf⟩ := pk_bnd hf
      refine s_iinc X (vs' := [(0, .ref (gB G + v0)), (1, .int x10), (2, .int x12)]) 2 dX7_greatestSize_26 rfl (v := x12) e13.symm (Nat.le_of_ble_eq_true rfl) [1, 2, 0] rfl ?_
      refine s_goto X (tgt := 4) dX7_greatestSize_29 rfl ?_
      exact ih _ _ _ hf
end
theorem k_X7_greatestSize (G : Gam) {n : Nat} {o : Nat} {M : Mem} {rv : Int32} (hf : f_X7_greatestSize n o M = some rv) : Kt yX7_greatestSize cX7_greatestSize 3 (some .int) 1 24 G [.ref (gB G + o)] M M (some (.int rv)) := by
  refine Kt.of (by decide) (Nat.le_of_ble_eq_true rfl) ?_
  intro p l e R s m args below meth c X hr hlk hnm
  refine s_drop [0] (vs' := [(0, .ref (gB G + o))]) rfl ?_
  rw [f_X7_greatestSize] at hf
  refine s_iconst X (v := (0 : Int32)) dX7_greatestSize_0 rfl ?_
  refine s_istore_n X (vs' := [(0, .ref (gB G + o)), (1, .int (0 : Int32))]) dX7_greatestSize_1 rfl (Nat.le_of_ble_eq_true rfl) [1, 0] rfl ?_
  refine s_iconst X (v := (0 : Int32)) dX7_greatestSize_2 rfl ?_
  refine s_istore_n X (vs' := [(0, .ref (gB G + o)), (1, .int (0 : Int32)), (2, .int (0 : Int32))]) dX7_greatestSize_3 rfl (Nat.le_of_ble_eq_true rfl) [1, 2, 0] rfl ?_
  exact l_X7_greatestSize_4 X hr hlk hnm _ _ _ hf
theorem dX7_common_0 : decode cX7_common 0 = .ok (.aload_n 0, 1) := dk_42 (by decide +kernel)
theorem dX7_common_1 : decode cX7_common 1 = .ok (.invokevirtual 32, 3) := dk_182 (x := 0) (y := 32) (by decide +kernel) rfl
theorem dX7_common_4 : decode cX7_common 4 = .ok (.istore_n 1, 1) := dk_60 (by decide +kernel)
theorem dX7_common_5 : decode cX7_common 5 = .ok (.iconst 0, 1) := dk_3 (by decide +kernel)
theorem dX7_common_6 : decode cX7_common 6 = .ok (.istore_n 2, 1) := dk_61 (by decide +kernel)
theorem dX7_common_7 : decode cX7_common 7 = .ok (.iload_n 2, 1) := dk_28 (by decide +kernel)
theorem dX7_common_8 : decode cX7_common 8 = .ok (.aload_n 0, 1) := dk_42 (by decide +kernel)
theorem dX7_common_9 : decode cX7_common 9 = .ok (.getfield 40, 3) := dk_180 (x := 0) (y := 40) (by decide +kernel) rfl
theorem dX7_common_12 : decode cX7_common 12 = .ok (.if_icmp .ge 18, 3) := dk_162 (x := 0) (y := 18) (by decide +kernel) rfl
theorem dX7_common_15 : decode cX7_common 15 = .ok (.iload_n 1, 1) := dk_27 (by decide +kernel)
theorem dX7_common_16 : decode cX7_common 16 = .ok (.aload_n 0, 1) := dk_42 (by decide +kernel)
theorem dX7_common_17 : decode cX7_common 17 = .ok (.getfield 9, 3) := dk_180 (x := 0) (y := 9) (by decide +kernel) rfl
theorem dX7_common_20 : decode cX7_common 20 = .ok (.iload_n 2, 1) := dk_28 (by decide +kernel)
theorem dX7_common_21 : decode cX7_common 21 = .ok (.iaload, 1) := dk_46 (by decide +kernel)
theorem dX7_common_22 : decode cX7_common 22 = .ok (.iand, 1) := dk_126 (by decide +kernel)
theorem dX7_common_23 : decode cX7_common 23 = .ok (.istore_n 1, 1) := dk_60 (by decide +kernel)
theorem dX7_common_24 : decode cX7_common 24 = .ok (.iinc 2 1, 3) := dk_132 (x := 2) (y := 1) (by decide +kernel) rfl
theorem dX7_common_27 : decode cX7_common 27 = .ok (.goto (-20), 3) := dk_167 (x := 255) (y := 236) (by decide +kernel) rfl
theorem dX7_common_30 : decode cX7_common 30 = .ok (.iload_n 1, 1) := dk_27 (by decide +kernel)
theorem dX7_common_31 : decode cX7_common 31 = .ok (.ireturn, 1) := dk_172 (by decide +kernel)
def f_X7_common_7 (M : Mem) : Nat → Nat → Int32 → Int32 → Option Int32
  | 0, _, _, _ => none
  | n + 1, v0, v1, v2 =>
    chk (isO M 7 v0) <|
    if (mI M v0 3) ≤ v2 then (
      some v1
      ) else (
      bnd (mR M v0 0) fun o4 =>
      chk (isO M 100 o4) <|
      chk (inB v2 (mLn M o4)) <|
      bnd (v1 &&& (mI M o4 (v2).toNatClampNeg)) fun x8 =>
      bnd (v2 + (1 : Int32)) fun x10 =>
      f_X7_common_7 M n v0 x8 x10
      )
def f_X7_common (n : Nat) (o : Nat) (M : Mem) : Option Int32 :=
  chk (isO M 7 o) <|
  obd (f_X7_allNodes o M) fun r3 =>
  f_X7_common_7 M n o r3 (0 : Int32)
theorem cd_X7_common : (yX7_common.cls ≠ "java/lang/invoke/MethodHandle" ∧ yX7_common.cls ≠ "java/lang/invoke/VarHandle") ∧ (parseMethodDescriptor yX7_common.desc).map (fun d => d.parameters.length) = some 0 := ⟨⟨by decide +kernel, by decide +kernel⟩, by decide +kernel⟩
section
variable {p : Program} {l : Launch} {e : Env} {R : Room} {s : State} {m : MethodId} {args : Array Value} {below : List Frame} {meth : Method} {c : Code} {G : Gam} {M0 : Mem}
theorem l_X7_common_7 {M : Mem} {rv : Int32} (X : Cx p R s m args c G M0 cX7_common yX7_common.cls 3 1 20) (hr : meth.sig.returnType = (some .int)) (hlk : meth.locks = false) (hnm : meth.name = "common") : ∀ {n : Nat} (v0 : Nat) (v1 : Int32) (v2 : Int32), f_X7_common_7 M n v0 v1 v2 = some rv → Sg p l e R s m args below meth c (Qm below G args s (some (.int rv)) M0 M) G M0 3 7 [(0, .ref (gB G + v0)), (1, .int v1), (2, .int v2)] [] M := by
  intro n
  induction n with
  | zero => intro v0 v1 v2 hf; exact (pk_none hf).elim
  | succ n ih =>
    intro v0 v1 v2 hf
    rw [f_X7_common_7] at hf
    refine s_iload_n X 2 dX7_common_7 rfl rfl ?_
    refine s_aload_n X 0 dX7_common_8 rfl rfl ?_
    obtain ⟨h1, hf⟩ := pk_chk hf
    refine s_getI X (ci := 7) (k := 3) rfl (Nat.le_of_ble_eq_true rfl) h1 wd169 (fun _ _ _ => rfl) dX7_common_9 ?_
    have hs2 := pk_ite hf
    clear hf
    refine s_icmp_ge X (tgt := 30) dX7_common_12 rfl (fun c3 => ?_) (fun c3 => ?_)
    · have hf := hs2.1 c3
      refine s_iload_n X 1 dX7_common_30 rfl rfl ?_
      cases hf
      exact s_iret X hr hlk dX7_common_31
    · have hf := hs2.2 c3
      refine s_iload_n X 1 dX7_common_15 rfl rfl ?_
      refine s_aload_n X 0 dX7_common_16 rfl rfl ?_
      obtain ⟨o4, e5, hf⟩ := pk_bnd hf
      obtain ⟨h6, hf⟩ := pk_chk hf
      refine s_getR X (ci := 7) (k := 0) rfl (Nat.le_of_ble_eq_true rfl) h1 wd159 (fun _ _ _ => rfl) (e5 ▸ h6) dX7_common_17 (e5 ▸ ?_)
      refine s_iload_n X 2 dX7_common_20 rfl rfl ?_
      obtain ⟨h7, hf⟩ := pk_chk hf
      refine s_iald X h6 h7 dX7_common_21 ?_
      refine s_iand X dX7_common_22 ?_
      obtain ⟨x8, e9, hf⟩ := pk_bnd hf
      refine s_nmI e9 ?_
      refine s_istore_n X (vs' := [(0, .ref (gB G + v0)), (1, .int x8), (2, .int v2)]) dX7_common_23 rfl (Nat.le_of_ble_eq_true rfl) [1, 0, 2] rfl ?_
      obtain ⟨x10, e11, hf⟩ := pk_bnd hf
      refine s_iinc X (vs' := [(0, .ref (gB G + v0)), (1, .int x8), (2, .int x10)]) 2 dX7_common_24 rfl (v := x10) e11.symm (Nat.le_of_ble_eq_true rfl) [1, 2, 0] rfl ?_
      refine s_goto X (tgt := 7) dX7_common_27 rfl ?_
      exact ih _ _ _ hf
end
theorem k_X7_common (G : Gam) {n : Nat} {o : Nat} {M : Mem} {rv : Int32} (hf : f_X7_common n o M = some rv) : Kt yX7_common cX7_common 3 (some .int) 1 20 G [.ref (gB G + o)] M M (some (.int rv)) := by
  refine Kt.of (by decide) (Nat.le_of_ble_eq_true rfl) ?_
  intro p l e R s m args below meth c X hr hlk hnm
  refine s_drop [0] (vs' := [(0, .ref (gB G + o))]) rfl ?_
  rw [f_X7_common] at hf
  refine s_aload_n X 0 dX7_common_0 rfl rfl ?_
  obtain ⟨h1, hf⟩ := pk_chk hf
  obtain ⟨r3, hc2, hf⟩ := pk_obd hf
  refine s_callV X (ci := 7) (k_X7_allNodes G hc2) rfl h1 wd683 wd684 wd685 wd686 wd127 cd_X7_allNodes ⟨Nat.le_of_ble_eq_true rfl, Nat.le_of_ble_eq_true rfl⟩ (Nat.le_of_ble_eq_true rfl) dX7_common_1 ?_
  refine s_istore_n X (vs' := [(0, .ref (gB G + o)), (1, .int r3)]) dX7_common_4 rfl (Nat.le_of_ble_eq_true rfl) [1, 0] rfl ?_
  refine s_iconst X (v := (0 : Int32)) dX7_common_5 rfl ?_
  refine s_istore_n X (vs' := [(0, .ref (gB G + o)), (1, .int r3), (2, .int (0 : Int32))]) dX7_common_6 rfl (Nat.le_of_ble_eq_true rfl) [1, 2, 0] rfl ?_
  exact l_X7_common_7 X hr hlk hnm _ _ _ hf
theorem dX9_sizes_0 : decode cX9_sizes 0 = .ok (.iload_n 1, 1) := dk_27 (by decide +kernel)
theorem dX9_sizes_1 : decode cX9_sizes 1 = .ok (.tableswitch 54 0 2 #[27, 35, 43], 27) := by decide +kernel
theorem dX9_sizes_28 : decode cX9_sizes 28 = .ok (.aload_n 0, 1) := dk_42 (by decide +kernel)
theorem dX9_sizes_29 : decode cX9_sizes 29 = .ok (.getfield 10, 3) := dk_180 (x := 0) (y := 10) (by decide +kernel) rfl
theorem dX9_sizes_32 : decode cX9_sizes 32 = .ok (.invokevirtual 146, 3) := dk_182 (x := 0) (y := 146) (by decide +kernel) rfl
theorem dX9_sizes_35 : decode cX9_sizes 35 = .ok (.ireturn, 1) := dk_172 (by decide +kernel)
theorem dX9_sizes_36 : decode cX9_sizes 36 = .ok (.aload_n 0, 1) := dk_42 (by decide +kernel)
theorem dX9_sizes_37 : decode cX9_sizes 37 = .ok (.getfield 10, 3) := dk_180 (x := 0) (y := 10) (by decide +kernel) rfl
theorem dX9_sizes_40 : decode cX9_sizes 40 = .ok (.invokevirtual 149, 3) := dk_182 (x := 0) (y := 149) (by decide +kernel) rfl
theorem dX9_sizes_43 : decode cX9_sizes 43 = .ok (.ireturn, 1) := dk_172 (by decide +kernel)
theorem dX9_sizes_44 : decode cX9_sizes 44 = .ok (.aload_n 0, 1) := dk_42 (by decide +kernel)
theorem dX9_sizes_45 : decode cX9_sizes 45 = .ok (.getfield 10, 3) := dk_180 (x := 0) (y := 10) (by decide +kernel) rfl
theorem dX9_sizes_48 : decode cX9_sizes 48 = .ok (.invokevirtual 152, 3) := dk_182 (x := 0) (y := 152) (by decide +kernel) rfl
theorem dX9_sizes_51 : decode cX9_sizes 51 = .ok (.invokestatic 134, 3) := dk_184 (x := 0) (y := 134) (by decide +kernel) rfl
theorem dX9_sizes_54 : decode cX9_sizes 54 = .ok (.ireturn, 1) := dk_172 (by decide +kernel)
theorem dX9_sizes_55 : decode cX9_sizes 55 = .ok (.iconst (-1), 1) := dk_2 (by decide +kernel)
theorem dX9_sizes_56 : decode cX9_sizes 56 = .ok (.ireturn, 1) := dk_172 (by decide +kernel)
def f_X9_sizes (n : Nat) (o : Nat) (a1 : Int32) (M : Mem) : Option Int32 :=
  if a1 = (0 : Int32) then (
    chk (isO M 9 o) <|
    bnd (mR M o 0) fun o4 =>
    chk (isO M 7 o4) <|
    obd (f_X7_leastSize n o4 M) fun r8 =>
    some r8
    ) else (
  if a1 = (1 : Int32) then (
    chk (isO M 9 o) <|
    bnd (mR M o 0) fun o12 =>
    chk (isO M 7 o12) <|
    obd (f_X7_greatestSize n o12 M) fun r16 =>
    some r16
    ) else (
  if a1 = (2 : Int32) then (
    chk (isO M 9 o) <|
    bnd (mR M o 0) fun o20 =>
    chk (isO M 7 o20) <|
    obd (f_X7_common n o20 M) fun r24 =>
    obd (f_J6_bitCount_0f7a4 r24 M) fun r26 =>
    some r26
    ) else (
  some (-1 : Int32)
  )
  )
  )
theorem cd_X9_sizes : (yX9_sizes.cls ≠ "java/lang/invoke/MethodHandle" ∧ yX9_sizes.cls ≠ "java/lang/invoke/VarHandle") ∧ (parseMethodDescriptor yX9_sizes.desc).map (fun d => d.parameters.length) = some 1 := ⟨⟨by decide +kernel, by decide +kernel⟩, by decide +kernel⟩
theorem k_X9_sizes (G : Gam) {n : Nat} {o : Nat} {a1 : Int32} {M : Mem} {rv : Int32} (hf : f_X9_sizes n o a1 M = some rv) : Kt yX9_sizes cX9_sizes 2 (some .int) 2 46 G [.ref (gB G + o), .int a1] M M (some (.int rv)) := by
  refine Kt.of (by decide) (Nat.le_of_ble_eq_true rfl) ?_
  intro p l e R s m args below meth c X hr hlk hnm
  refine s_drop [0, 1] (vs' := [(0, .ref (gB G + o)), (1, .int a1)]) rfl ?_
  rw [f_X9_sizes] at hf
  refine s_iload_n X 1 dX9_sizes_0 rfl rfl ?_
  have hs1 := pk_ite hf
  clear hf
  by_cases c2 : a1 = (0 : Int32)
  · have hf := hs1.1 c2
    refine s_swC X (v := (0 : Int32)) (tgt := 28) dX9_sizes_1 c2 (by decide) (by decide) rfl rfl ?_
    refine s_aload_n X 0 dX9_sizes_28 rfl rfl ?_
    obtain ⟨h3, hf⟩ := pk_chk hf
    obtain ⟨o4, e5, hf⟩ := pk_bnd hf
    obtain ⟨h6, hf⟩ := pk_chk hf
    refine s_getR X (ci := 9) (k := 0) rfl (Nat.le_of_ble_eq_true rfl) h3 wd627 (fun _ _ _ => rfl) (e5 ▸ h6) dX9_sizes_29 (e5 ▸ ?_)
    obtain ⟨r8, hc7, hf⟩ := pk_obd hf
    refine s_callV X (ci := 7) (k_X7_leastSize G hc7) rfl h6 wd883 wd884 wd885 wd886 wd127 cd_X7_leastSize ⟨Nat.le_of_ble_eq_true rfl, Nat.le_of_ble_eq_true rfl⟩ (Nat.le_of_ble_eq_true rfl) dX9_sizes_32 ?_
    cases hf
    exact s_iret X hr hlk dX9_sizes_35
  have hf := hs1.2 c2
  have hs9 := pk_ite hf
  clear hf
  by_cases c10 : a1 = (1 : Int32)
  · have hf := hs9.1 c10
    refine s_swC X (v := (1 : Int32)) (tgt := 36) dX9_sizes_1 c10 (by decide) (by decide) rfl rfl ?_
    refine s_aload_n X 0 dX9_sizes_36 rfl rfl ?_
    obtain ⟨h11, hf⟩ := pk_chk hf
    obtain ⟨o12, e13, hf⟩ := pk_bnd hf
    obtain ⟨h14, hf⟩ := pk_chk hf
    refine s_getR X (ci := 9) (k := 0) rfl (Nat.le_of_ble_eq_true rfl) h11 wd627 (fun _ _ _ => rfl) (e13 ▸ h14) dX9_sizes_37 (e13 ▸ ?_)
    obtain ⟨r16, hc15, hf⟩ := pk_obd hf
    refine s_callV X (ci := 7) (k_X7_greatestSize G hc15) rfl h14 wd891 wd892 wd893 wd894 wd127 cd_X7_greatestSize ⟨Nat.le_of_ble_eq_true rfl, Nat.le_of_ble_eq_true rfl⟩ (Nat.le_of_ble_eq_true rfl) dX9_sizes_40 ?_
    cases hf
    exact s_iret X hr hlk dX9_sizes_43
  have hf := hs9.2 c10
  have hs17 := pk_ite hf
  clear hf
  by_cases c18 : a1 = (2 : Int32)
  · have hf := hs17.1 c18
    refine s_swC X (v := (2 : Int32)) (tgt := 44) dX9_sizes_1 c18 (by decide) (by decide) rfl rfl ?_
    refine s_aload_n X 0 dX9_sizes_44 rfl rfl ?_
    obtain ⟨h19, hf⟩ := pk_chk hf
    obtain ⟨o20, e21, hf⟩ := pk_bnd hf
    obtain ⟨h22, hf⟩ := pk_chk hf
    refine s_getR X (ci := 9) (k := 0) rfl (Nat.le_of_ble_eq_true rfl) h19 wd627 (fun _ _ _ => rfl) (e21 ▸ h22) dX9_sizes_45 (e21 ▸ ?_)
    obtain ⟨r24, hc23, hf⟩ := pk_obd hf
    refine s_callV X (ci := 7) (k_X7_common G hc23) rfl h22 wd898 wd899 wd900 wd901 wd127 cd_X7_common ⟨Nat.le_of_ble_eq_true rfl, Nat.le_of_ble_eq_true rfl⟩ (Nat.le_of_ble_eq_true rfl) dX9_sizes_48 ?_
    obtain ⟨r26, hc25, hf⟩ := pk_obd hf
    refine s_callS X (k_J6_bitCount_0f7a4 G hc25) wd839 wd831 wd832 wd141 cd_J6_bitCount_0f7a4 ⟨Nat.le_of_ble_eq_true rfl, Nat.le_of_ble_eq_true rfl⟩ (Nat.le_of_ble_eq_true rfl) dX9_sizes_51 ?_
    cases hf
    exact s_iret X hr hlk dX9_sizes_54
  have hf := hs17.2 c18
  refine s_swOut X (tgt := 55) dX9_sizes_1 (by have := sw_ne (v := (0 : Int32)) (z := 0) c2 (by decide); have := sw_ne (v := (1 : Int32)) (z := 1) c10 (by decide); have := sw_ne (v := (2 : Int32)) (z := 2) c18 (by decide); omega) rfl ?_
  refine s_iconst X (v := (-1 : Int32)) dX9_sizes_55 rfl ?_
  cases hf
  exact s_iret X hr hlk dX9_sizes_56
theorem dX10_sizes_0 : decode cX10_sizes 0 = .ok (.iload_n 1, 1) := dk_27 (by decide +kernel)
theorem dX10_sizes_1 : decode cX10_sizes 1 = .ok (.iconst 0, 1) := dk_3 (by decide +kernel)
theorem dX10_sizes_2 : decode cX10_sizes 2 = .ok (.iconst 2, 1) := dk_5 (by decide +kernel)
theorem dX10_sizes_3 : decode cX10_sizes 3 = .ok (.invokestatic 49, 3) := dk_184 (x := 0) (y := 49) (by decide +kernel) rfl
theorem dX10_sizes_6 : decode cX10_sizes 6 = .ok (.ifCond .ne 5, 3) := dk_154 (x := 0) (y := 5) (by decide +kernel) rfl
theorem dX10_sizes_9 : decode cX10_sizes 9 = .ok (.iconst (-1), 1) := dk_2 (by decide +kernel)
theorem dX10_sizes_10 : decode cX10_sizes 10 = .ok (.ireturn, 1) := dk_172 (by decide +kernel)
theorem dX10_sizes_11 : decode cX10_sizes 11 = .ok (.bipush 16, 2) := dk_16 (x := 16) (by decide +kernel) rfl
theorem dX10_sizes_13 : decode cX10_sizes 13 = .ok (.istore_n 2, 1) := dk_61 (by decide +kernel)
theorem dX10_sizes_14 : decode cX10_sizes 14 = .ok (.iconst 0, 1) := dk_3 (by decide +kernel)
theorem dX10_sizes_15 : decode cX10_sizes 15 = .ok (.istore_n 3, 1) := dk_62 (by decide +kernel)
theorem dX10_sizes_16 : decode cX10_sizes 16 = .ok (.aload_n 0, 1) := dk_42 (by decide +kernel)
theorem dX10_sizes_17 : decode cX10_sizes 17 = .ok (.invokevirtual 72, 3) := dk_182 (x := 0) (y := 72) (by decide +kernel) rfl
theorem dX10_sizes_20 : decode cX10_sizes 20 = .ok (.istore 4, 2) := dk_54 (x := 4) (by decide +kernel)
theorem dX10_sizes_22 : decode cX10_sizes 22 = .ok (.iconst 0, 1) := dk_3 (by decide +kernel)
theorem dX10_sizes_23 : decode cX10_sizes 23 = .ok (.istore 5, 2) := dk_54 (x := 5) (by decide +kernel)
theorem dX10_sizes_25 : decode cX10_sizes 25 = .ok (.iload 5, 2) := dk_21 (x := 5) (by decide +kernel)
theorem dX10_sizes_27 : decode cX10_sizes 27 = .ok (.aload_n 0, 1) := dk_42 (by decide +kernel)
theorem dX10_sizes_28 : decode cX10_sizes 28 = .ok (.getfield 7, 3) := dk_180 (x := 0) (y := 7) (by decide +kernel) rfl
theorem dX10_sizes_31 : decode cX10_sizes 31 = .ok (.iconst 0, 1) := dk_3 (by decide +kernel)
theorem dX10_sizes_32 : decode cX10_sizes 32 = .ok (.iaload, 1) := dk_46 (by decide +kernel)
theorem dX10_sizes_33 : decode cX10_sizes 33 = .ok (.if_icmp .ge 74, 3) := dk_162 (x := 0) (y := 74) (by decide +kernel) rfl
theorem dX10_sizes_36 : decode cX10_sizes 36 = .ok (.aload_n 0, 1) := dk_42 (by decide +kernel)
theorem dX10_sizes_37 : decode cX10_sizes 37 = .ok (.iload 5, 2) := dk_21 (x := 5) (by decide +kernel)
theorem dX10_sizes_39 : decode cX10_sizes 39 = .ok (.invokevirtual 80, 3) := dk_182 (x := 0) (y := 80) (by decide +kernel) rfl
theorem dX10_sizes_42 : decode cX10_sizes 42 = .ok (.invokestatic 111, 3) := dk_184 (x := 0) (y := 111) (by decide +kernel) rfl
theorem dX10_sizes_45 : decode cX10_sizes 45 = .ok (.iload_n 2, 1) := dk_28 (by decide +kernel)
theorem dX10_sizes_46 : decode cX10_sizes 46 = .ok (.if_icmp .ge 15, 3) := dk_162 (x := 0) (y := 15) (by decide +kernel) rfl
theorem dX10_sizes_49 : decode cX10_sizes 49 = .ok (.aload_n 0, 1) := dk_42 (by decide +kernel)
theorem dX10_sizes_50 : decode cX10_sizes 50 = .ok (.iload 5, 2) := dk_21 (x := 5) (by decide +kernel)
theorem dX10_sizes_52 : decode cX10_sizes 52 = .ok (.invokevirtual 80, 3) := dk_182 (x := 0) (y := 80) (by decide +kernel) rfl
theorem dX10_sizes_55 : decode cX10_sizes 55 = .ok (.invokestatic 111, 3) := dk_184 (x := 0) (y := 111) (by decide +kernel) rfl
theorem dX10_sizes_58 : decode cX10_sizes 58 = .ok (.goto 4, 3) := dk_167 (x := 0) (y := 4) (by decide +kernel) rfl
theorem dX10_sizes_61 : decode cX10_sizes 61 = .ok (.iload_n 2, 1) := dk_28 (by decide +kernel)
theorem dX10_sizes_62 : decode cX10_sizes 62 = .ok (.istore_n 2, 1) := dk_61 (by decide +kernel)
theorem dX10_sizes_63 : decode cX10_sizes 63 = .ok (.aload_n 0, 1) := dk_42 (by decide +kernel)
theorem dX10_sizes_64 : decode cX10_sizes 64 = .ok (.iload 5, 2) := dk_21 (x := 5) (by decide +kernel)
theorem dX10_sizes_66 : decode cX10_sizes 66 = .ok (.invokevirtual 80, 3) := dk_182 (x := 0) (y := 80) (by decide +kernel) rfl
theorem dX10_sizes_69 : decode cX10_sizes 69 = .ok (.invokestatic 111, 3) := dk_184 (x := 0) (y := 111) (by decide +kernel) rfl
theorem dX10_sizes_72 : decode cX10_sizes 72 = .ok (.iload_n 3, 1) := dk_29 (by decide +kernel)
theorem dX10_sizes_73 : decode cX10_sizes 73 = .ok (.if_icmp .le 15, 3) := dk_164 (x := 0) (y := 15) (by decide +kernel) rfl
theorem dX10_sizes_76 : decode cX10_sizes 76 = .ok (.aload_n 0, 1) := dk_42 (by decide +kernel)
theorem dX10_sizes_77 : decode cX10_sizes 77 = .ok (.iload 5, 2) := dk_21 (x := 5) (by decide +kernel)
theorem dX10_sizes_79 : decode cX10_sizes 79 = .ok (.invokevirtual 80, 3) := dk_182 (x := 0) (y := 80) (by decide +kernel) rfl
theorem dX10_sizes_82 : decode cX10_sizes 82 = .ok (.invokestatic 111, 3) := dk_184 (x := 0) (y := 111) (by decide +kernel) rfl
theorem dX10_sizes_85 : decode cX10_sizes 85 = .ok (.goto 4, 3) := dk_167 (x := 0) (y := 4) (by decide +kernel) rfl
theorem dX10_sizes_88 : decode cX10_sizes 88 = .ok (.iload_n 3, 1) := dk_29 (by decide +kernel)
theorem dX10_sizes_89 : decode cX10_sizes 89 = .ok (.istore_n 3, 1) := dk_62 (by decide +kernel)
theorem dX10_sizes_90 : decode cX10_sizes 90 = .ok (.iload 4, 2) := dk_21 (x := 4) (by decide +kernel)
theorem dX10_sizes_92 : decode cX10_sizes 92 = .ok (.aload_n 0, 1) := dk_42 (by decide +kernel)
theorem dX10_sizes_93 : decode cX10_sizes 93 = .ok (.iload 5, 2) := dk_21 (x := 5) (by decide +kernel)
theorem dX10_sizes_95 : decode cX10_sizes 95 = .ok (.invokevirtual 80, 3) := dk_182 (x := 0) (y := 80) (by decide +kernel) rfl
theorem dX10_sizes_98 : decode cX10_sizes 98 = .ok (.iand, 1) := dk_126 (by decide +kernel)
theorem dX10_sizes_99 : decode cX10_sizes 99 = .ok (.istore 4, 2) := dk_54 (x := 4) (by decide +kernel)
theorem dX10_sizes_101 : decode cX10_sizes 101 = .ok (.iinc 5 1, 3) := dk_132 (x := 5) (y := 1) (by decide +kernel) rfl
theorem dX10_sizes_104 : decode cX10_sizes 104 = .ok (.goto (-79), 3) := dk_167 (x := 255) (y := 177) (by decide +kernel) rfl
theorem dX10_sizes_107 : decode cX10_sizes 107 = .ok (.iload_n 1, 1) := dk_27 (by decide +kernel)
theorem dX10_sizes_108 : decode cX10_sizes 108 = .ok (.ifCond .ne 7, 3) := dk_154 (x := 0) (y := 7) (by decide +kernel) rfl
theorem dX10_sizes_111 : decode cX10_sizes 111 = .ok (.iload_n 2, 1) := dk_28 (by decide +kernel)
theorem dX10_sizes_112 : decode cX10_sizes 112 = .ok (.goto 17, 3) := dk_167 (x := 0) (y := 17) (by decide +kernel) rfl
theorem dX10_sizes_115 : decode cX10_sizes 115 = .ok (.iload_n 1, 1) := dk_27 (by decide +kernel)
theorem dX10_sizes_116 : decode cX10_sizes 116 = .ok (.iconst 1, 1) := dk_4 (by decide +kernel)
theorem dX10_sizes_117 : decode cX10_sizes 117 = .ok (.if_icmp .ne 7, 3) := dk_160 (x := 0) (y := 7) (by decide +kernel) rfl
theorem dX10_sizes_120 : decode cX10_sizes 120 = .ok (.iload_n 3, 1) := dk_29 (by decide +kernel)
theorem dX10_sizes_121 : decode cX10_sizes 121 = .ok (.goto 8, 3) := dk_167 (x := 0) (y := 8) (by decide +kernel) rfl
theorem dX10_sizes_124 : decode cX10_sizes 124 = .ok (.iload 4, 2) := dk_21 (x := 4) (by decide +kernel)
theorem dX10_sizes_126 : decode cX10_sizes 126 = .ok (.invokestatic 111, 3) := dk_184 (x := 0) (y := 111) (by decide +kernel) rfl
theorem dX10_sizes_129 : decode cX10_sizes 129 = .ok (.ireturn, 1) := dk_172 (by decide +kernel)
def f_X10_sizes_89 (k_25 : Nat → Int32 → Int32 → Int32 → Int32 → Int32 → Option Int32) (M : Mem) (n : Nat) (v0 : Nat) (v1 : Int32) (v2 : Int32) (v4 : Int32) (v5 : Int32) (u0 : Int32) : Option Int32 :=
    chk (isO M 10 v0) <|
    obd (f_X10_baseOf v0 v5 M) fun r3 =>
    bnd (v4 &&& r3) fun x4 =>
    bnd (v5 + (1 : Int32)) fun x6 =>
    k_25 v0 v1 v2 u0 x4 x6
def f_X10_sizes_62 (k_25 : Nat → Int32 → Int32 → Int32 → Int32 → Int32 → Option Int32) (M : Mem) (n : Nat) (v0 : Nat) (v1 : Int32) (v3 : Int32) (v4 : Int32) (v5 : Int32) (u0 : Int32) : Option Int32 :=
    chk (isO M 10 v0) <|
    obd (f_X10_baseOf v0 v5 M) fun r3 =>
    obd (f_X10_many n r3 M) fun r5 =>
    if r5 ≤ v3 then (
      f_X10_sizes_89 k_25 M n v0 v1 u0 v4 v5 v3
      ) else (
      obd (f_X10_baseOf v0 v5 M) fun r9 =>
      obd (f_X10_many n r9 M) fun r11 =>
      f_X10_sizes_89 k_25 M n v0 v1 u0 v4 v5 r11
      )
def f_X10_sizes_25 (M : Mem) : Nat → Nat → Int32 → Int32 → Int32 → Int32 → Int32 → Option Int32
  | 0, _, _, _, _, _, _ => none
  | n + 1, v0, v1, v2, v3, v4, v5 =>
    chk (isO M 10 v0) <|
    bnd (mR M v0 0) fun o2 =>
    chk (isO M 100 o2) <|
    chk (inB (0 : Int32) (mLn M o2)) <|
    if (mI M o2 ((0 : Int32)).toNatClampNeg) ≤ v5 then (
      if v1 = 0 then (
        some v2
        ) else (
        if v1 = (1 : Int32) then (
          some v3
          ) else (
          obd (f_X10_many n v4 M) fun r13 =>
          some r13
          )
        )
      ) else (
      obd (f_X10_baseOf v0 v5 M) fun r15 =>
      obd (f_X10_many n r15 M) fun r17 =>
      if v2 ≤ r17 then (
        f_X10_sizes_62 (f_X10_sizes_25 M n) M n v0 v1 v3 v4 v5 v2
        ) else (
        obd (f_X10_baseOf v0 v5 M) fun r21 =>
        obd (f_X10_many n r21 M) fun r23 =>
        f_X10_sizes_62 (f_X10_sizes_25 M n) M n v0 v1 v3 v4 v5 r23
        )
      )
def f_X10_sizes (n : Nat) (o : Nat) (a1 : Int32) (M : Mem) : Option Int32 :=
  obd (f_X10_isIn a1 (0 : Int32) (2 : Int32) M) fun r2 =>
  if r2 = 0 then (
    some (-1 : Int32)
    ) else (
    chk (isO M 10 o) <|
    obd (f_X10_all o M) fun r7 =>
    f_X10_sizes_25 M n o a1 (16 : Int32) (0 : Int32) r7 (0 : Int32)
    )
theorem cd_X10_sizes : (yX10_sizes.cls ≠ "java/lang/invoke/MethodHandle" ∧ yX10_sizes.cls ≠ "java/lang/invoke/VarHandle") ∧ (parseMethodDescriptor yX10_sizes.desc).map (fun d => d.parameters.length) = some 1 := ⟨⟨by decide +kernel, by decide +kernel⟩, by decide +kernel⟩
section
variable {p : Program} {l : Launch} {e : Env} {R : Room} {s : State} {m : MethodId} {args : Array Value} {below : List Frame} {meth : Method} {c : Code} {G : Gam} {M0 : Mem}
theorem l_X10_sizes_89 {k_25 : Nat → Int32 → Int32 → Int32 → Int32 → Int32 → Option Int32} {M : Mem} {rv : Int32} {n : Nat} {v0 : Nat} {v1 : Int32} {v2 : Int32} {v4 : Int32} {v5 : Int32} {u0 : Int32} (X : Cx p R s m args c G M0 cX10_sizes yX10_sizes.cls 6 1 22) (hr : meth.sig.returnType = (some .int)) (hlk : meth.locks = false) (hnm : meth.name = "sizes") (hk_25 : ∀ (v0 : Nat), ∀ (v1 : Int32), ∀ (v2 : Int32), ∀ (v3 : Int32), ∀ (v4 : Int32), ∀ (v5 : Int32), k_25 v0 v1 v2 v3 v4 v5 = some rv → Sg p l e R s m args below meth c (Qm below G args s (some (.int rv)) M0 M) G M0 6 25 [(0, .ref (gB G + v0)), (1, .int v1), (2, .int v2), (3, .int v3), (4, .int v4), (5, .int v5)] [] M) (hf : f_X10_sizes_89 k_25 M n v0 v1 v2 v4 v5 u0 = some rv) : Sg p l e R s m args below meth c (Qm below G args s (some (.int rv)) M0 M) G M0 6 89 [(0, .ref (gB G + v0)), (1, .int v1), (2, .int v2), (4, .int v4), (5, .int v5)] [.int u0] M := by
  rw [f_X10_sizes_89] at hf
  refine s_istore_n X (vs' := [(0, .ref (gB G + v0)), (1, .int v1), (2, .int v2), (3, .int u0), (4, .int v4), (5, .int v5)]) dX10_sizes_89 rfl (Nat.le_of_ble_eq_true rfl) [1, 2, 3, 0, 4, 5] rfl ?_
  refine s_iload X 4 dX10_sizes_90 rfl ?_
  refine s_aload_n X 0 dX10_sizes_92 rfl rfl ?_
  refine s_iload X 5 dX10_sizes_93 rfl ?_
  obtain ⟨h1, hf⟩ := pk_chk hf
  obtain ⟨r3, hc2, hf⟩ := pk_obd hf
  refine s_callV X (ci := 10) (k_X10_baseOf G hc2) rfl h1 wd1558 wd1560 wd54 wd1561 wd138 cd_X10_baseOf ⟨Nat.le_of_ble_eq_true rfl, Nat.le_of_ble_eq_true rfl⟩ (Nat.le_of_ble_eq_true rfl) dX10_sizes_95 ?_
  refine s_iand X dX10_sizes_98 ?_
  obtain ⟨x4, e5, hf⟩ := pk_bnd hf
  refine s_nmI e5 ?_
  refine s_istore X (vs' := [(0, .ref (gB G + v0)), (1, .int v1), (2, .int v2), (3, .int u0), (4, .int x4), (5, .int v5)]) dX10_sizes_99 (Nat.le_of_ble_eq_true rfl) [1, 2, 3, 4, 0, 5] rfl ?_
  obtain ⟨x6, e7, hf⟩ := pk_bnd hf
  refine s_iinc X (vs' := [(0, .ref (gB G + v0)), (1, .int v1), (2, .int v2), (3, .int u0), (4, .int x4), (5, .int x6)]) 5 dX10_sizes_101 rfl (v := x6) e7.symm (Nat.le_of_ble_eq_true rfl) [1, 2, 3, 4, 5, 0] rfl ?_
  refine s_goto X (tgt := 25) dX10_sizes_104 rfl ?_
  exact hk_25 _ _ _ _ _ _ hf
theorem l_X10_sizes_62 {k_25 : Nat → Int32 → Int32 → Int32 → Int32 → Int32 → Option Int32} {M : Mem} {rv : Int32} {n : Nat} {v0 : Nat} {v1 : Int32} {v3 : Int32} {v4 : Int32} {v5 : Int32} {u0 : Int32} (X : Cx p R s m args c G M0 cX10_sizes yX10_sizes.cls 6 1 22) (hr : meth.sig.returnType = (some .int)) (hlk : meth.locks = false) (hnm : meth.name = "sizes") (hk_25 : ∀ (v0 : Nat), ∀ (v1 : Int32), ∀ (v2 : Int32), ∀ (v3 : Int32), ∀ (v4 : Int32), ∀ (v5 : Int32), k_25 v0 v1 v2 v3 v4 v5 = some rv → Sg p l e R s m args below meth c (Qm below G args s (some (.int rv)) M0 M) G M0 6 25 [(0, .ref (gB G + v0)), (1, .int v1), (2, .int v2), (3, .int v3), (4, .int v4), (5, .int v5)] [] M) (hf : f_X10_sizes_62 k_25 M n v0 v1 v3 v4 v5 u0 = some rv) : Sg p l e R s m args below meth c (Qm below G args s (some (.int rv)) M0 M) G M0 6 62 [(0, .ref (gB G + v0)), (1, .int v1), (3, .int v3), (4, .int v4), (5, .int v5)] [.int u0] M := by
  rw [f_X10_sizes_62] at hf
  refine s_istore_n X (vs' := [(0, .ref (gB G + v0)), (1, .int v1), (2, .int u0), (3, .int v3), (4, .int v4), (5, .int v5)]) dX10_sizes_62 rfl (Nat.le_of_ble_eq_true rfl) [1, 2, 0, 3, 4, 5] rfl ?_
  refine s_aload_n X 0 dX10_sizes_63 rfl rfl ?_
  refine s_iload X 5 dX10_sizes_64 rfl ?_
  obtain ⟨h1, hf⟩ := pk_chk hf
  obtain ⟨r3, hc2, hf⟩ := pk_obd hf
  refine s_callV X (ci := 10) (k_X10_baseOf G hc2) rfl h1 wd1558 wd1560 wd54 wd1561 wd138 cd_X10_baseOf ⟨Nat.le_of_ble_eq_true rfl, Nat.le_of_ble_eq_true rfl⟩ (Nat.le_of_ble_eq_true rfl) dX10_sizes_66 ?_
  obtain ⟨r5, hc4, hf⟩ := pk_obd hf
  refine s_callS X (k_X10_many G hc4) wd1624 wd1625 wd1626 wd138 cd_X10_many ⟨Nat.le_of_ble_eq_true rfl, Nat.le_of_ble_eq_true rfl⟩ (Nat.le_of_ble_eq_true rfl) dX10_sizes_69 ?_
  refine s_iload_n X 3 dX10_sizes_72 rfl rfl ?_
  have hs6 := pk_ite hf
  clear hf
  refine s_icmp_le X (tgt := 88) dX10_sizes_73 rfl (fun c7 => ?_) (fun c7 => ?_)
  · have hf := hs6.1 c7
    refine s_iload_n X 3 dX10_sizes_88 rfl rfl ?_
    refine s_drop [0, 1, 2, 4, 5] (vs' := [(0, .ref (gB G + v0)), (1, .int v1), (2, .int u0), (4, .int v4), (5, .int v5)]) rfl ?_
    exact l_X10_sizes_89 X hr hlk hnm hk_25 hf
  · have hf := hs6.2 c7
    refine s_aload_n X 0 dX10_sizes_76 rfl rfl ?_
    refine s_iload X 5 dX10_sizes_77 rfl ?_
    obtain ⟨r9, hc8, hf⟩ := pk_obd hf
    refine s_callV X (ci := 10) (k_X10_baseOf G hc8) rfl h1 wd1558 wd1560 wd54 wd1561 wd138 cd_X10_baseOf ⟨Nat.le_of_ble_eq_true rfl, Nat.le_of_ble_eq_true rfl⟩ (Nat.le_of_ble_eq_true rfl) dX10_sizes_79 ?_
    obtain ⟨r11, hc10, hf⟩ := pk_obd hf
    refine s_callS X (k_X10_many G hc10) wd1624 wd1625 wd1626 wd138 cd_X10_many ⟨Nat.le_of_ble_eq_true rfl, Nat.le_of_ble_eq_true rfl⟩ (Nat.le_of_ble_eq_true rfl) dX10_sizes_82 ?_
    refine s_goto X (tgt := 89) dX10_sizes_85 rfl ?_
    refine s_drop [0, 1, 2, 4, 5] (vs' := [(0, .ref (gB G + v0)), (1, .int v1), (2, .int u0), (4, .int v4), (5, .int v5)]) rfl ?_
    exact l_X10_sizes_89 X hr hlk hnm hk_25 hf
theorem l_X10_sizes_25 {M : Mem} {rv : Int32} (X : Cx p R s m args c G M0 cX10_sizes yX10_sizes.cls 6 1 22) (hr : meth.sig.returnType = (some .int)) (hlk : meth.locks = false) (hnm : meth.name = "sizes") : ∀ {n : Nat} (v0 : Nat) (v1 : Int32) (v2 : Int32) (v3 : Int32) (v4 : Int32) (v5 : Int32), f_X10_sizes_25 M n v0 v1 v2 v3 v4 v5 = some rv → Sg p l e R s m args below meth c (Qm below G args s (some (.int rv)) M0 M) G M0 6 25 [(0, .ref (gB G + v0)), (1, .int v1), (2, .int v2), (3, .int v3), (4, .int v4), (5, .int v5)] [] M := by
  intro n
  induction n with
  | zero => intro v0 v1 v2 v3 v4 v5 hf; exact (pk_none hf).elim
  | succ n ih =>
    intro v0 v1 v2 v3 v4 v5 hf
    rw [f_X10_sizes_25] at hf
    refine s_iload X 5 dX10_sizes_25 rfl ?_
    refine s_aload_n X 0 dX10_sizes_27 rfl rfl ?_
    obtain ⟨h1, hf⟩ := pk_chk hf
    obtain ⟨o2, e3, hf⟩ := pk_bnd hf
    obtain ⟨h4, hf⟩ := pk_chk hf
    refine s_getR X (ci := 10) (k := 0) rfl (Nat.le_of_ble_eq_true rfl) h1 wd1440 (fun _ _ _ => rfl) (e3 ▸ h4) dX10_sizes_28 (e3 ▸ ?_)
    refine s_iconst X (v := (0 : Int32)) dX10_sizes_31 rfl ?_
    obtain ⟨h5, hf⟩ := pk_chk hf
    refine s_iald X h4 h5 dX10_sizes_32 ?_
    have hs6 := pk_ite hf
    clear hf
    refine s_icmp_ge X (tgt := 107) dX10_sizes_33 rfl (fun c7 => ?_) (fun c7 => ?_)
    · have hf := hs6.1 c7
      refine s_iload_n X 1 dX10_sizes_107 rfl rfl ?_
      have hs8 := pk_ite hf
      clear hf
      refine s_if_ne X (tgt := 115) dX10_sizes_108 rfl (fun c9 => ?_) (fun c9 => ?_)
      · have hf := hs8.2 c9
        refine s_iload_n X 1 dX10_sizes_115 rfl rfl ?_
        refine s_iconst X (v := (1 : Int32)) dX10_sizes_116 rfl ?_
        have hs10 := pk_ite hf
        clear hf
        refine s_icmp_ne X (tgt := 124) dX10_sizes_117 rfl (fun c11 => ?_) (fun c11 => ?_)
        · have hf := hs10.2 c11
          refine s_iload X 4 dX10_sizes_124 rfl ?_
          obtain ⟨r13, hc12, hf⟩ := pk_obd hf
          refine s_callS X (k_X10_many G hc12) wd1624 wd1625 wd1626 wd138 cd_X10_many ⟨Nat.le_of_ble_eq_true rfl, Nat.le_of_ble_eq_true rfl⟩ (Nat.le_of_ble_eq_true rfl) dX10_sizes_126 ?_
          cases hf
          exact s_iret X hr hlk dX10_sizes_129
        · have hf := hs10.1 c11
          refine s_iload_n X 3 dX10_sizes_120 rfl rfl ?_
          refine s_goto X (tgt := 129) dX10_sizes_121 rfl ?_
          cases hf
          exact s_iret X hr hlk dX10_sizes_129
      · have hf := hs8.1 c9
        refine s_iload_n X 2 dX10_sizes_111 rfl rfl ?_
        refine s_goto X (tgt := 129) dX10_sizes_112 rfl ?_
        cases hf
        exact s_iret X hr hlk dX10_sizes_129
    · have hf := hs6.2 c7
      refine s_aload_n X 0 dX10_sizes_36 rfl rfl ?_
      refine s_iload X 5 dX10_sizes_37 rfl ?_
      obtain ⟨r15, hc14, hf⟩ := pk_obd hf
      refine s_callV X (ci := 10) (k_X10_baseOf G hc14) rfl h1 wd1558 wd1560 wd54 wd1561 wd138 cd_X10_baseOf ⟨Nat.le_of_ble_eq_true rfl, Nat.le_of_ble_eq_true rfl⟩ (Nat.le_of_ble_eq_true rfl) dX10_sizes_39 ?_
      obtain ⟨r17, hc16, hf⟩ := pk_obd hf
      refine s_callS X (k_X10_many G hc16) wd1624 wd1625 wd1626 wd138 cd_X10_many ⟨Nat.le_of_ble_eq_true rfl, Nat.le_of_ble_eq_true rfl⟩ (Nat.le_of_ble_eq_true rfl) dX10_sizes_42 ?_
      refine s_iload_n X 2 dX10_sizes_45 rfl rfl ?_
      have hs18 := pk_ite hf
      clear hf
      refine s_icmp_ge X (tgt := 61) dX10_sizes_46 rfl (fun c19 => ?_) (fun c19 => ?_)
      · have hf := hs18.1 c19
        refine s_iload_n X 2 dX10_sizes_61 rfl rfl ?_
        refine s_drop [0, 1, 3, 4, 5] (vs' := [(0, .ref (gB G + v0)), (1, .int v1), (3, .int v3), (4, .int v4), (5, .int v5)]) rfl ?_
        exact l_X10_sizes_62 X hr hlk hnm ih hf
      · have hf := hs18.2 c19
        refine s_aload_n X 0 dX10_sizes_49 rfl rfl ?_
        refine s_iload X 5 dX10_sizes_50 rfl ?_
        obtain ⟨r21, hc20, hf⟩ := pk_obd hf
        refine s_callV X (ci := 10) (k_X10_baseOf G hc20) rfl h1 wd1558 wd1560 wd54 wd1561 wd138 cd_X10_baseOf ⟨Nat.le_of_ble_eq_true rfl, Nat.le_of_ble_eq_true rfl⟩ (Nat.le_of_ble_eq_true rfl) dX10_sizes_52 ?_
        obtain ⟨r23, hc22, hf⟩ := pk_obd hf
        refine s_callS X (k_X10_many G hc22) wd1624 wd1625 wd1626 wd138 cd_X10_many ⟨Nat.le_of_ble_eq_true rfl, Nat.le_of_ble_eq_true rfl⟩ (Nat.le_of_ble_eq_true rfl) dX10_sizes_55 ?_
        refine s_goto X (tgt := 62) dX10_sizes_58 rfl ?_
        refine s_drop [0, 1, 3, 4, 5] (vs' := [(0, .ref (gB G + v0)), (1, .int v1), (3, .int v3), (4, .int v4), (5, .int v5)]) rfl ?_
        exact l_X10_sizes_62 X hr hlk hnm ih hf
end
theorem k_X10_sizes (G : Gam) {n : Nat} {o : Nat} {a1 : Int32} {M : Mem} {rv : Int32} (hf : f_X10_sizes n o a1 M = some rv) : Kt yX10_sizes cX10_sizes 6 (some .int) 1 22 G [.ref (gB G + o), .int a1] M M (some (.int rv)) := by
  refine Kt.of (by decide) (Nat.le_of_ble_eq_true rfl) ?_
  intro p l e R s m args below meth c X hr hlk hnm
  refine s_drop [0, 1] (vs' := [(0, .ref (gB G + o)), (1, .int a1)]) rfl ?_
  rw [f_X10_sizes] at hf
  refine s_iload_n X 1 dX10_sizes_0 rfl rfl ?_
  refine s_iconst X (v := (0 : Int32)) dX10_sizes_1 rfl ?_
  refine s_iconst X (v := (2 : Int32)) dX10_sizes_2 rfl ?_
  obtain ⟨r2, hc1, hf⟩ := pk_obd hf
  refine s_callS X (k_X10_isIn G hc1) wd1520 wd1521 wd1522 wd138 cd_X10_isIn ⟨Nat.le_of_ble_eq_true rfl, Nat.le_of_ble_eq_true rfl⟩ (Nat.le_of_ble_eq_true rfl) dX10_sizes_3 ?_
  have hs3 := pk_ite hf
  clear hf
  refine s_if_ne X (tgt := 11) dX10_sizes_6 rfl (fun c4 => ?_) (fun c4 => ?_)
  · have hf := hs3.2 c4
    refine s_bipush X (v := (16 : Int32)) dX10_sizes_11 rfl ?_
    refine s_istore_n X (vs' := [(0, .ref (gB G + o)), (1, .int a1), (2, .int (16 : Int32))]) dX10_sizes_13 rfl (Nat.le_of_ble_eq_true rfl) [1, 2, 0] rfl ?_
    refine s_iconst X (v := (0 : Int32)) dX10_sizes_14 rfl ?_
    refine s_istore_n X (vs' := [(0, .ref (gB G + o)), (1, .int a1), (2, .int (16 : Int32)), (3, .int (0 : Int32))]) dX10_sizes_15 rfl (Nat.le_of_ble_eq_true rfl) [1, 2, 3, 0] rfl ?_
    refine s_aload_n X 0 dX10_sizes_16 rfl rfl ?_
    obtain ⟨h5, hf⟩ := pk_chk hf
    obtain ⟨r7, hc6, hf⟩ := pk_obd hf
    refine s_callV X (ci := 10) (k_X10_all G hc6) rfl h5 wd1542 wd1544 wd52 wd1545 wd138 cd_X10_all ⟨Nat.le_of_ble_eq_true rfl, Nat.le_of_ble_eq_true rfl⟩ (Nat.le_of_ble_eq_true rfl) dX10_sizes_17 ?_
    refine s_istore X (vs' := [(0, .ref (gB G + o)), (1, .int a1), (2, .int (16 : Int32)), (3, .int (0 : Int32)), (4, .int r7)]) dX10_sizes_20 (Nat.le_of_ble_eq_true rfl) [1, 2, 3, 4, 0] rfl ?_
    refine s_iconst X (v := (0 : Int32)) dX10_sizes_22 rfl ?_
    refine s_istore X (vs' := [(0, .ref (gB G + o)), (1, .int a1), (2, .int (16 : Int32)), (3, .int (0 : Int32)), (4, .int r7), (5, .int (0 : Int32))]) dX10_sizes_23 (Nat.le_of_ble_eq_true rfl) [1, 2, 3, 4, 5, 0] rfl ?_
    exact l_X10_sizes_25 X hr hlk hnm _ _ _ _ _ _ hf
  · have hf := hs3.1 c4
    refine s_iconst X (v := (-1 : Int32)) dX10_sizes_9 rfl ?_
    cases hf
    exact s_iret X hr hlk dX10_sizes_10
theorem dX1_turnedBy_0 : decode cX1_turnedBy 0 = .ok (.iconst 0, 1) := dk_3 (by decide +kernel)
theorem dX1_turnedBy_1 : decode cX1_turnedBy 1 = .ok (.istore_n 2, 1) := dk_61 (by decide +kernel)
theorem dX1_turnedBy_2 : decode cX1_turnedBy 2 = .ok (.iconst 0, 1) := dk_3 (by decide +kernel)
theorem dX1_turnedBy_3 : decode cX1_turnedBy 3 = .ok (.istore_n 3, 1) := dk_62 (by decide +kernel)
theorem dX1_turnedBy_4 : decode cX1_turnedBy 4 = .ok (.iload_n 3, 1) := dk_29 (by decide +kernel)
theorem dX1_turnedBy_5 : decode cX1_turnedBy 5 = .ok (.aload_n 0, 1) := dk_42 (by decide +kernel)
theorem dX1_turnedBy_6 : decode cX1_turnedBy 6 = .ok (.getfield 19, 3) := dk_180 (x := 0) (y := 19) (by decide +kernel) rfl
theorem dX1_turnedBy_9 : decode cX1_turnedBy 9 = .ok (.if_icmp .ge 33, 3) := dk_162 (x := 0) (y := 33) (by decide +kernel) rfl
theorem dX1_turnedBy_12 : decode cX1_turnedBy 12 = .ok (.iload_n 2, 1) := dk_28 (by decide +kernel)
theorem dX1_turnedBy_13 : decode cX1_turnedBy 13 = .ok (.iconst 2, 1) := dk_5 (by decide +kernel)
theorem dX1_turnedBy_14 : decode cX1_turnedBy 14 = .ok (.aload_n 0, 1) := dk_42 (by decide +kernel)
theorem dX1_turnedBy_15 : decode cX1_turnedBy 15 = .ok (.iload_n 3, 1) := dk_29 (by decide +kernel)
theorem dX1_turnedBy_16 : decode cX1_turnedBy 16 = .ok (.iload_n 1, 1) := dk_27 (by decide +kernel)
theorem dX1_turnedBy_17 : decode cX1_turnedBy 17 = .ok (.invokevirtual 50, 3) := dk_182 (x := 0) (y := 50) (by decide +kernel) rfl
theorem dX1_turnedBy_20 : decode cX1_turnedBy 20 = .ok (.invokestatic 54, 3) := dk_184 (x := 0) (y := 54) (by decide +kernel) rfl
theorem dX1_turnedBy_23 : decode cX1_turnedBy 23 = .ok (.imul, 1) := dk_104 (by decide +kernel)
theorem dX1_turnedBy_24 : decode cX1_turnedBy 24 = .ok (.aload_n 0, 1) := dk_42 (by decide +kernel)
theorem dX1_turnedBy_25 : decode cX1_turnedBy 25 = .ok (.getfield 11, 3) := dk_180 (x := 0) (y := 11) (by decide +kernel) rfl
theorem dX1_turnedBy_28 : decode cX1_turnedBy 28 = .ok (.iload_n 3, 1) := dk_29 (by decide +kernel)
theorem dX1_turnedBy_29 : decode cX1_turnedBy 29 = .ok (.laload, 1) := dk_47 (by decide +kernel)
theorem dX1_turnedBy_30 : decode cX1_turnedBy 30 = .ok (.invokestatic 54, 3) := dk_184 (x := 0) (y := 54) (by decide +kernel) rfl
theorem dX1_turnedBy_33 : decode cX1_turnedBy 33 = .ok (.isub, 1) := dk_100 (by decide +kernel)
theorem dX1_turnedBy_34 : decode cX1_turnedBy 34 = .ok (.iadd, 1) := dk_96 (by decide +kernel)
theorem dX1_turnedBy_35 : decode cX1_turnedBy 35 = .ok (.istore_n 2, 1) := dk_61 (by decide +kernel)
theorem dX1_turnedBy_36 : decode cX1_turnedBy 36 = .ok (.iinc 3 1, 3) := dk_132 (x := 3) (y := 1) (by decide +kernel) rfl
theorem dX1_turnedBy_39 : decode cX1_turnedBy 39 = .ok (.goto (-35), 3) := dk_167 (x := 255) (y := 221) (by decide +kernel) rfl
theorem dX1_turnedBy_42 : decode cX1_turnedBy 42 = .ok (.iload_n 2, 1) := dk_28 (by decide +kernel)
theorem dX1_turnedBy_43 : decode cX1_turnedBy 43 = .ok (.ireturn, 1) := dk_172 (by decide +kernel)
def f_X1_turnedBy_4 (M : Mem) : Nat → Nat → Int32 → Int32 → Int32 → Option Int32
  | 0, _, _, _, _ => none
  | n + 1, v0, v1, v2, v3 =>
    chk (isO M 1 v0) <|
    if (mI M v0 2) ≤ v3 then (
      some v2
      ) else (
      obd (f_X1_having v0 v3 v1 M) fun r5 =>
      obd (f_J13_bitCount_95d88 r5 M) fun r7 =>
      bnd (mR M v0 0) fun o8 =>
      chk (isO M 101 o8) <|
      chk (inB v3 (mLn M o8)) <|
      obd (f_J13_bitCount_95d88 (mL M o8 (v3).toNatClampNeg) M) fun r13 =>
      bnd (v2 + (((2 : Int32) * r7) - r13)) fun x14 =>
      bnd (v3 + (1 : Int32)) fun x16 =>
      f_X1_turnedBy_4 M n v0 v1 x14 x16
      )
def f_X1_turnedBy (n : Nat) (o : Nat) (a1 : Int32) (M : Mem) : Option Int32 :=
  f_X1_turnedBy_4 M n o a1 (0 : Int32) (0 : Int32)
theorem cd_X1_turnedBy : (yX1_turnedBy.cls ≠ "java/lang/invoke/MethodHandle" ∧ yX1_turnedBy.cls ≠ "java/lang/invoke/VarHandle") ∧ (parseMethodDescriptor yX1_turnedBy.desc).map (fun d => d.parameters.length) = some 1 := ⟨⟨by decide +kernel, by decide +kernel⟩, by decide +kernel⟩
section
variable {p : Program} {l : Launch} {e : Env} {R : Room} {s : State} {m : MethodId} {args : Array Value} {below : List Frame} {meth : Method} {c : Code} {G : Gam} {M0 : Mem}
theorem l_X1_turnedBy_4 {M : Mem} {rv : Int32} (X : Cx p R s m args c G M0 cX1_turnedBy yX1_turnedBy.cls 4 1 22) (hr : meth.sig.returnType = (some .int)) (hlk : meth.locks = false) (hnm : meth.name = "turnedBy") : ∀ {n : Nat} (v0 : Nat) (v1 : Int32) (v2 : Int32) (v3 : Int32), f_X1_turnedBy_4 M n v0 v1 v2 v3 = some rv → Sg p l e R s m args below meth c (Qm below G args s (some (.int rv)) M0 M) G M0 4 4 [(0, .ref (gB G + v0)), (1, .int v1), (2, .int v2), (3, .int v3)] [] M := by
  intro n
  induction n with
  | zero => intro v0 v1 v2 v3 hf; exact (pk_none hf).elim
  | succ n ih =>
    intro v0 v1 v2 v3 hf
    rw [f_X1_turnedBy_4] at hf
    refine s_iload_n X 3 dX1_turnedBy_4 rfl rfl ?_
    refine s_aload_n X 0 dX1_turnedBy_5 rfl rfl ?_
    obtain ⟨h1, hf⟩ := pk_chk hf
    refine s_getI X (ci := 1) (k := 2) rfl (Nat.le_of_ble_eq_true rfl) h1 wd199 (fun _ _ _ => rfl) dX1_turnedBy_6 ?_
    have hs2 := pk_ite hf
    clear hf
    refine s_icmp_ge X (tgt := 42) dX1_turnedBy_9 rfl (fun c3 => ?_) (fun c3 => ?_)
    · have hf := hs2.1 c3
      refine s_iload_n X 2 dX1_turnedBy_42 rfl rfl ?_
      cases hf
      exact s_iret X hr hlk dX1_turnedBy_43
    · have hf := hs2.2 c3
      refine s_iload_n X 2 dX1_turnedBy_12 rfl rfl ?_
      refine s_iconst X (v := (2 : Int32)) dX1_turnedBy_13 rfl ?_
      refine s_aload_n X 0 dX1_turnedBy_14 rfl rfl ?_
      refine s_iload_n X 3 dX1_turnedBy_15 rfl rfl ?_
      refine s_iload_n X 1 dX1_turnedBy_16 rfl rfl ?_
      obtain ⟨r5, hc4, hf⟩ := pk_obd hf
      refine s_callV X (ci := 1) (k_X1_having G hc4) rfl h1 wd867 wd869 wd11 wd870 wd129 cd_X1_having ⟨Nat.le_of_ble_eq_true rfl, Nat.le_of_ble_eq_true rfl⟩ (Nat.le_of_ble_eq_true rfl) dX1_turnedBy_17 ?_
      obtain ⟨r7, hc6, hf⟩ := pk_obd hf
      refine s_callS X (k_J13_bitCount_95d88 G hc6) wd871 wd742 wd743 wd140 cd_J13_bitCount_95d88 ⟨Nat.le_of_ble_eq_true rfl, Nat.le_of_ble_eq_true rfl⟩ (Nat.le_of_ble_eq_true rfl) dX1_turnedBy_20 ?_
      refine s_imul X dX1_turnedBy_23 ?_
      refine s_aload_n X 0 dX1_turnedBy_24 rfl rfl ?_
      obtain ⟨o8, e9, hf⟩ := pk_bnd hf
      obtain ⟨h10, hf⟩ := pk_chk hf
      refine s_getR X (ci := 1) (k := 0) rfl (Nat.le_of_ble_eq_true rfl) h1 wd197 (fun _ _ _ => rfl) (e9 ▸ h10) dX1_turnedBy_25 (e9 ▸ ?_)
      refine s_iload_n X 3 dX1_turnedBy_28 rfl rfl ?_
      obtain ⟨h11, hf⟩ := pk_chk hf
      refine s_lald X h10 h11 dX1_turnedBy_29 ?_
      obtain ⟨r13, hc12, hf⟩ := pk_obd hf
      refine s_callS X (k_J13_bitCount_95d88 G hc12) wd871 wd742 wd743 wd140 cd_J13_bitCount_95d88 ⟨Nat.le_of_ble_eq_true rfl, Nat.le_of_ble_eq_true rfl⟩ (Nat.le_of_ble_eq_true rfl) dX1_turnedBy_30 ?_
      refine s_isub X dX1_turnedBy_33 ?_
      refine s_iadd X dX1_turnedBy_34 ?_
      obtain ⟨x14, e15, hf⟩ := pk_bnd hf
      refine s_nmI e15 ?_
      refine s_istore_n X (vs' := [(0, .ref (gB G + v0)), (1, .int v1), (2, .int x14), (3, .int v3)]) dX1_turnedBy_35 rfl (Nat.le_of_ble_eq_true rfl) [1, 2, 0, 3] rfl ?_
      obtain ⟨x16, e17, hf⟩ := pk_bnd hf
      refine s_iinc X (vs' := [(0, .ref (gB G + v0)), (1, .int v1), (2, .int x14), (3, .int x16)]) 3 dX1_turnedBy_36 rfl (v := x16) e17.symm (Nat.le_of_ble_eq_true rfl) [1, 2, 3, 0] rfl ?_
      refine s_goto X (tgt := 4) dX1_turnedBy_39 rfl ?_
      exact ih _ _ _ _ hf
end
theorem k_X1_turnedBy (G : Gam) {n : Nat} {o : Nat} {a1 : Int32} {M : Mem} {rv : Int32} (hf : f_X1_turnedBy n o a1 M = some rv) : Kt yX1_turnedBy cX1_turnedBy 4 (some .int) 1 22 G [.ref (gB G + o), .int a1] M M (some (.int rv)) := by
  refine Kt.of (by decide) (Nat.le_of_ble_eq_true rfl) ?_
  intro p l e R s m args below meth c X hr hlk hnm
  refine s_drop [0, 1] (vs' := [(0, .ref (gB G + o)), (1, .int a1)]) rfl ?_
  rw [f_X1_turnedBy] at hf
  refine s_iconst X (v := (0 : Int32)) dX1_turnedBy_0 rfl ?_
  refine s_istore_n X (vs' := [(0, .ref (gB G + o)), (1, .int a1), (2, .int (0 : Int32))]) dX1_turnedBy_1 rfl (Nat.le_of_ble_eq_true rfl) [1, 2, 0] rfl ?_
  refine s_iconst X (v := (0 : Int32)) dX1_turnedBy_2 rfl ?_
  refine s_istore_n X (vs' := [(0, .ref (gB G + o)), (1, .int a1), (2, .int (0 : Int32)), (3, .int (0 : Int32))]) dX1_turnedBy_3 rfl (Nat.le_of_ble_eq_true rfl) [1, 2, 3, 0] rfl ?_
  exact l_X1_turnedBy_4 X hr hlk hnm _ _ _ _ hf
theorem dX9_pivotal_0 : decode cX9_pivotal 0 = .ok (.aload_n 0, 1) := dk_42 (by decide +kernel)
theorem dX9_pivotal_1 : decode cX9_pivotal 1 = .ok (.getfield 10, 3) := dk_180 (x := 0) (y := 10) (by decide +kernel) rfl
theorem dX9_pivotal_4 : decode cX9_pivotal 4 = .ok (.iload_n 1, 1) := dk_27 (by decide +kernel)
theorem dX9_pivotal_5 : decode cX9_pivotal 5 = .ok (.invokevirtual 71, 3) := dk_182 (x := 0) (y := 71) (by decide +kernel) rfl
theorem dX9_pivotal_8 : decode cX9_pivotal 8 = .ok (.ifCond .ne 5, 3) := dk_154 (x := 0) (y := 5) (by decide +kernel) rfl
theorem dX9_pivotal_11 : decode cX9_pivotal 11 = .ok (.iconst (-1), 1) := dk_2 (by decide +kernel)
theorem dX9_pivotal_12 : decode cX9_pivotal 12 = .ok (.ireturn, 1) := dk_172 (by decide +kernel)
theorem dX9_pivotal_13 : decode cX9_pivotal 13 = .ok (.aload_n 0, 1) := dk_42 (by decide +kernel)
theorem dX9_pivotal_14 : decode cX9_pivotal 14 = .ok (.invokevirtual 122, 3) := dk_182 (x := 0) (y := 122) (by decide +kernel) rfl
theorem dX9_pivotal_17 : decode cX9_pivotal 17 = .ok (.aload_n 0, 1) := dk_42 (by decide +kernel)
theorem dX9_pivotal_18 : decode cX9_pivotal 18 = .ok (.getfield 19, 3) := dk_180 (x := 0) (y := 19) (by decide +kernel) rfl
theorem dX9_pivotal_21 : decode cX9_pivotal 21 = .ok (.getfield 155, 3) := dk_180 (x := 0) (y := 155) (by decide +kernel) rfl
theorem dX9_pivotal_24 : decode cX9_pivotal 24 = .ok (.iload_n 1, 1) := dk_27 (by decide +kernel)
theorem dX9_pivotal_25 : decode cX9_pivotal 25 = .ok (.invokevirtual 158, 3) := dk_182 (x := 0) (y := 158) (by decide +kernel) rfl
theorem dX9_pivotal_28 : decode cX9_pivotal 28 = .ok (.ireturn, 1) := dk_172 (by decide +kernel)
def f_X9_pivotal (n : Nat) (o : Nat) (a1 : Int32) (M : Mem) : Option (Int32 × Mem) :=
  chk (isO M 9 o) <|
  bnd (mR M o 0) fun o2 =>
  chk (isO M 7 o2) <|
  obd (f_X7_isNode o2 a1 M) fun r6 =>
  if r6 = 0 then (
    some ((-1 : Int32), M)
    ) else (
    obd (f_X9_surveyOnce n o M) fun M10 =>
    chk (isO M10 9 o) <|
    bnd (mR M10 o 1) fun o12 =>
    chk (isO M10 8 o12) <|
    bnd (mR M10 o12 0) fun o15 =>
    chk (isO M10 1 o15) <|
    obd (f_X1_turnedBy n o15 a1 M10) fun r19 =>
    some (r19, M10)
    )
theorem cd_X9_pivotal : (yX9_pivotal.cls ≠ "java/lang/invoke/MethodHandle" ∧ yX9_pivotal.cls ≠ "java/lang/invoke/VarHandle") ∧ (parseMethodDescriptor yX9_pivotal.desc).map (fun d => d.parameters.length) = some 1 := ⟨⟨by decide +kernel, by decide +kernel⟩, by decide +kernel⟩
theorem k_X9_pivotal (G : Gam) {n : Nat} {o : Nat} {a1 : Int32} {M : Mem} {rv : (Int32 × Mem)} (hf : f_X9_pivotal n o a1 M = some rv) : Kt yX9_pivotal cX9_pivotal 2 (some .int) 5 110 G [.ref (gB G + o), .int a1] M rv.2 (some (.int rv.1)) := by
  refine Kt.of (by decide) (Nat.le_of_ble_eq_true rfl) ?_
  intro p l e R s m args below meth c X hr hlk hnm
  refine s_drop [0, 1] (vs' := [(0, .ref (gB G + o)), (1, .int a1)]) rfl ?_
  rw [f_X9_pivotal] at hf
  refine s_aload_n X 0 dX9_pivotal_0 rfl rfl ?_
  obtain ⟨h1, hf⟩ := pk_chk hf
  obtain ⟨o2, e3, hf⟩ := pk_bnd hf
  obtain ⟨h4, hf⟩ := pk_chk hf
  refine s_getR X (ci := 9) (k := 0) rfl (Nat.le_of_ble_eq_true rfl) h1 wd627 (fun _ _ _ => rfl) (e3 ▸ h4) dX9_pivotal_1 (e3 ▸ ?_)
  refine s_iload_n X 1 dX9_pivotal_4 rfl rfl ?_
  obtain ⟨r6, hc5, hf⟩ := pk_obd hf
  refine s_callV X (ci := 7) (k_X7_isNode G hc5) rfl h4 wd699 wd700 wd701 wd702 wd127 cd_X7_isNode ⟨Nat.le_of_ble_eq_true rfl, Nat.le_of_ble_eq_true rfl⟩ (Nat.le_of_ble_eq_true rfl) dX9_pivotal_5 ?_
  have hs7 := pk_ite hf
  clear hf
  refine s_if_ne X (tgt := 13) dX9_pivotal_8 rfl (fun c8 => ?_) (fun c8 => ?_)
  · have hf := hs7.2 c8
    refine s_aload_n X 0 dX9_pivotal_13 rfl rfl ?_
    obtain ⟨M10, hc9, hf⟩ := pk_obd hf
    refine s_callV X (ci := 9) (k_X9_surveyOnce G hc9) rfl h1 wd784 wd786 wd5 wd787 wd126 cd_X9_surveyOnce ⟨Nat.le_of_ble_eq_true rfl, Nat.le_of_ble_eq_true rfl⟩ (Nat.le_of_ble_eq_true rfl) dX9_pivotal_14 ?_
    refine s_aload_n X 0 dX9_pivotal_17 rfl rfl ?_
    obtain ⟨h11, hf⟩ := pk_chk hf
    obtain ⟨o12, e13, hf⟩ := pk_bnd hf
    obtain ⟨h14, hf⟩ := pk_chk hf
    refine s_getR X (ci := 9) (k := 1) rfl (Nat.le_of_ble_eq_true rfl) h11 wd628 (fun _ _ _ => rfl) (e13 ▸ h14) dX9_pivotal_18 (e13 ▸ ?_)
    obtain ⟨o15, e16, hf⟩ := pk_bnd hf
    obtain ⟨h17, hf⟩ := pk_chk hf
    refine s_getR X (ci := 8) (k := 0) rfl (Nat.le_of_ble_eq_true rfl) h14 wd209 (fun _ _ _ => rfl) (e16 ▸ h17) dX9_pivotal_21 (e16 ▸ ?_)
    refine s_iload_n X 1 dX9_pivotal_24 rfl rfl ?_
    obtain ⟨r19, hc18, hf⟩ := pk_obd hf
    refine s_callV X (ci := 1) (k_X1_turnedBy G hc18) rfl h17 wd906 wd907 wd908 wd909 wd129 cd_X1_turnedBy ⟨Nat.le_of_ble_eq_true rfl, Nat.le_of_ble_eq_true rfl⟩ (Nat.le_of_ble_eq_true rfl) dX9_pivotal_25 ?_
    cases hf
    exact s_iret X hr hlk dX9_pivotal_28
  · have hf := hs7.1 c8
    refine s_iconst X (v := (-1 : Int32)) dX9_pivotal_11 rfl ?_
    cases hf
    exact s_iret X hr hlk dX9_pivotal_12
