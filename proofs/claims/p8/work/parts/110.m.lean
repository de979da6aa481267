theorem dX6_save_0 : decode cX6_save 0 = .ok (.aload_n 0, 1) := dk_42 (by decide +kernel)
theorem dX6_save_1 : decode cX6_save 1 = .ok (.aload_n 0, 1) := dk_42 (by decide +kernel)
theorem dX6_save_2 : decode cX6_save 2 = .ok (.getfield 9, 3) := dk_180 (x := 0) (y := 9) (by decide +kernel) rfl
theorem dX6_save_5 : decode cX6_save 5 = .ok (.aload_n 0, 1) := dk_42 (by decide +kernel)
theorem dX6_save_6 : decode cX6_save 6 = .ok (.getfield 39, 3) := dk_180 (x := 0) (y := 39) (by decide +kernel) rfl
theorem dX6_save_9 : decode cX6_save 9 = .ok (.iaload, 1) := dk_46 (by decide +kernel)
theorem dX6_save_10 : decode cX6_save 10 = .ok (.putfield 153, 3) := dk_181 (x := 0) (y := 153) (by decide +kernel) rfl
theorem dX6_save_13 : decode cX6_save 13 = .ok (.aload_n 0, 1) := dk_42 (by decide +kernel)
theorem dX6_save_14 : decode cX6_save 14 = .ok (.aload_n 0, 1) := dk_42 (by decide +kernel)
theorem dX6_save_15 : decode cX6_save 15 = .ok (.getfield 27, 3) := dk_180 (x := 0) (y := 27) (by decide +kernel) rfl
theorem dX6_save_18 : decode cX6_save 18 = .ok (.getfield 135, 3) := dk_180 (x := 0) (y := 135) (by decide +kernel) rfl
theorem dX6_save_21 : decode cX6_save 21 = .ok (.invokevirtual 159, 3) := dk_182 (x := 0) (y := 159) (by decide +kernel) rfl
theorem dX6_save_24 : decode cX6_save 24 = .ok (.aload_n 0, 1) := dk_42 (by decide +kernel)
theorem dX6_save_25 : decode cX6_save 25 = .ok (.aload_n 0, 1) := dk_42 (by decide +kernel)
theorem dX6_save_26 : decode cX6_save 26 = .ok (.getfield 27, 3) := dk_180 (x := 0) (y := 27) (by decide +kernel) rfl
theorem dX6_save_29 : decode cX6_save 29 = .ok (.getfield 150, 3) := dk_180 (x := 0) (y := 150) (by decide +kernel) rfl
theorem dX6_save_32 : decode cX6_save 32 = .ok (.invokevirtual 159, 3) := dk_182 (x := 0) (y := 159) (by decide +kernel) rfl
theorem dX6_save_35 : decode cX6_save 35 = .ok (.iconst 0, 1) := dk_3 (by decide +kernel)
theorem dX6_save_36 : decode cX6_save 36 = .ok (.istore_n 1, 1) := dk_60 (by decide +kernel)
theorem dX6_save_37 : decode cX6_save 37 = .ok (.iload_n 1, 1) := dk_27 (by decide +kernel)
theorem dX6_save_38 : decode cX6_save 38 = .ok (.aload_n 0, 1) := dk_42 (by decide +kernel)
theorem dX6_save_39 : decode cX6_save 39 = .ok (.getfield 27, 3) := dk_180 (x := 0) (y := 27) (by decide +kernel) rfl
theorem dX6_save_42 : decode cX6_save 42 = .ok (.getfield 111, 3) := dk_180 (x := 0) (y := 111) (by decide +kernel) rfl
theorem dX6_save_45 : decode cX6_save 45 = .ok (.getfield 115, 3) := dk_180 (x := 0) (y := 115) (by decide +kernel) rfl
theorem dX6_save_48 : decode cX6_save 48 = .ok (.if_icmp .ge 22, 3) := dk_162 (x := 0) (y := 22) (by decide +kernel) rfl
theorem dX6_save_51 : decode cX6_save 51 = .ok (.aload_n 0, 1) := dk_42 (by decide +kernel)
theorem dX6_save_52 : decode cX6_save 52 = .ok (.aload_n 0, 1) := dk_42 (by decide +kernel)
theorem dX6_save_53 : decode cX6_save 53 = .ok (.getfield 27, 3) := dk_180 (x := 0) (y := 27) (by decide +kernel) rfl
theorem dX6_save_56 : decode cX6_save 56 = .ok (.getfield 79, 3) := dk_180 (x := 0) (y := 79) (by decide +kernel) rfl
theorem dX6_save_59 : decode cX6_save 59 = .ok (.iload_n 1, 1) := dk_27 (by decide +kernel)
theorem dX6_save_60 : decode cX6_save 60 = .ok (.aaload, 1) := dk_50 (by decide +kernel)
theorem dX6_save_61 : decode cX6_save 61 = .ok (.invokevirtual 162, 3) := dk_182 (x := 0) (y := 162) (by decide +kernel) rfl
theorem dX6_save_64 : decode cX6_save 64 = .ok (.iinc 1 1, 3) := dk_132 (x := 1) (y := 1) (by decide +kernel) rfl
theorem dX6_save_67 : decode cX6_save 67 = .ok (.goto (-30), 3) := dk_167 (x := 255) (y := 226) (by decide +kernel) rfl
theorem dX6_save_70 : decode cX6_save 70 = .ok (.iconst 0, 1) := dk_3 (by decide +kernel)
theorem dX6_save_71 : decode cX6_save 71 = .ok (.istore_n 1, 1) := dk_60 (by decide +kernel)
theorem dX6_save_72 : decode cX6_save 72 = .ok (.iload_n 1, 1) := dk_27 (by decide +kernel)
theorem dX6_save_73 : decode cX6_save 73 = .ok (.aload_n 0, 1) := dk_42 (by decide +kernel)
theorem dX6_save_74 : decode cX6_save 74 = .ok (.getfield 27, 3) := dk_180 (x := 0) (y := 27) (by decide +kernel) rfl
theorem dX6_save_77 : decode cX6_save 77 = .ok (.getfield 111, 3) := dk_180 (x := 0) (y := 111) (by decide +kernel) rfl
theorem dX6_save_80 : decode cX6_save 80 = .ok (.getfield 115, 3) := dk_180 (x := 0) (y := 115) (by decide +kernel) rfl
theorem dX6_save_83 : decode cX6_save 83 = .ok (.if_icmp .ge 83, 3) := dk_162 (x := 0) (y := 83) (by decide +kernel) rfl
theorem dX6_save_86 : decode cX6_save 86 = .ok (.aload_n 0, 1) := dk_42 (by decide +kernel)
theorem dX6_save_87 : decode cX6_save 87 = .ok (.aload_n 0, 1) := dk_42 (by decide +kernel)
theorem dX6_save_88 : decode cX6_save 88 = .ok (.getfield 27, 3) := dk_180 (x := 0) (y := 27) (by decide +kernel) rfl
theorem dX6_save_91 : decode cX6_save 91 = .ok (.getfield 141, 3) := dk_180 (x := 0) (y := 141) (by decide +kernel) rfl
theorem dX6_save_94 : decode cX6_save 94 = .ok (.getfield 166, 3) := dk_180 (x := 0) (y := 166) (by decide +kernel) rfl
theorem dX6_save_97 : decode cX6_save 97 = .ok (.iload_n 1, 1) := dk_27 (by decide +kernel)
theorem dX6_save_98 : decode cX6_save 98 = .ok (.iaload, 1) := dk_46 (by decide +kernel)
theorem dX6_save_99 : decode cX6_save 99 = .ok (.invokevirtual 159, 3) := dk_182 (x := 0) (y := 159) (by decide +kernel) rfl
theorem dX6_save_102 : decode cX6_save 102 = .ok (.iconst 0, 1) := dk_3 (by decide +kernel)
theorem dX6_save_103 : decode cX6_save 103 = .ok (.istore_n 2, 1) := dk_61 (by decide +kernel)
theorem dX6_save_104 : decode cX6_save 104 = .ok (.iload_n 2, 1) := dk_28 (by decide +kernel)
theorem dX6_save_105 : decode cX6_save 105 = .ok (.aload_n 0, 1) := dk_42 (by decide +kernel)
theorem dX6_save_106 : decode cX6_save 106 = .ok (.getfield 27, 3) := dk_180 (x := 0) (y := 27) (by decide +kernel) rfl
theorem dX6_save_109 : decode cX6_save 109 = .ok (.getfield 111, 3) := dk_180 (x := 0) (y := 111) (by decide +kernel) rfl
theorem dX6_save_112 : decode cX6_save 112 = .ok (.getfield 115, 3) := dk_180 (x := 0) (y := 115) (by decide +kernel) rfl
theorem dX6_save_115 : decode cX6_save 115 = .ok (.if_icmp .ge 45, 3) := dk_162 (x := 0) (y := 45) (by decide +kernel) rfl
theorem dX6_save_118 : decode cX6_save 118 = .ok (.aload_n 0, 1) := dk_42 (by decide +kernel)
theorem dX6_save_119 : decode cX6_save 119 = .ok (.getfield 27, 3) := dk_180 (x := 0) (y := 27) (by decide +kernel) rfl
theorem dX6_save_122 : decode cX6_save 122 = .ok (.getfield 141, 3) := dk_180 (x := 0) (y := 141) (by decide +kernel) rfl
theorem dX6_save_125 : decode cX6_save 125 = .ok (.getfield 166, 3) := dk_180 (x := 0) (y := 166) (by decide +kernel) rfl
theorem dX6_save_128 : decode cX6_save 128 = .ok (.iload_n 1, 1) := dk_27 (by decide +kernel)
theorem dX6_save_129 : decode cX6_save 129 = .ok (.iaload, 1) := dk_46 (by decide +kernel)
theorem dX6_save_130 : decode cX6_save 130 = .ok (.iload_n 2, 1) := dk_28 (by decide +kernel)
theorem dX6_save_131 : decode cX6_save 131 = .ok (.invokestatic 120, 3) := dk_184 (x := 0) (y := 120) (by decide +kernel) rfl
theorem dX6_save_134 : decode cX6_save 134 = .ok (.ifCond .eq 20, 3) := dk_153 (x := 0) (y := 20) (by decide +kernel) rfl
theorem dX6_save_137 : decode cX6_save 137 = .ok (.aload_n 0, 1) := dk_42 (by decide +kernel)
theorem dX6_save_138 : decode cX6_save 138 = .ok (.aload_n 0, 1) := dk_42 (by decide +kernel)
theorem dX6_save_139 : decode cX6_save 139 = .ok (.getfield 27, 3) := dk_180 (x := 0) (y := 27) (by decide +kernel) rfl
theorem dX6_save_142 : decode cX6_save 142 = .ok (.getfield 141, 3) := dk_180 (x := 0) (y := 141) (by decide +kernel) rfl
theorem dX6_save_145 : decode cX6_save 145 = .ok (.iload_n 1, 1) := dk_27 (by decide +kernel)
theorem dX6_save_146 : decode cX6_save 146 = .ok (.bipush 16, 2) := dk_16 (x := 16) (by decide +kernel) rfl
theorem dX6_save_148 : decode cX6_save 148 = .ok (.imul, 1) := dk_104 (by decide +kernel)
theorem dX6_save_149 : decode cX6_save 149 = .ok (.iload_n 2, 1) := dk_28 (by decide +kernel)
theorem dX6_save_150 : decode cX6_save 150 = .ok (.iadd, 1) := dk_96 (by decide +kernel)
theorem dX6_save_151 : decode cX6_save 151 = .ok (.invokevirtual 169, 3) := dk_182 (x := 0) (y := 169) (by decide +kernel) rfl
theorem dX6_save_154 : decode cX6_save 154 = .ok (.iinc 2 1, 3) := dk_132 (x := 2) (y := 1) (by decide +kernel) rfl
theorem dX6_save_157 : decode cX6_save 157 = .ok (.goto (-53), 3) := dk_167 (x := 255) (y := 203) (by decide +kernel) rfl
theorem dX6_save_160 : decode cX6_save 160 = .ok (.iinc 1 1, 3) := dk_132 (x := 1) (y := 1) (by decide +kernel) rfl
theorem dX6_save_163 : decode cX6_save 163 = .ok (.goto (-91), 3) := dk_167 (x := 255) (y := 165) (by decide +kernel) rfl
theorem dX6_save_166 : decode cX6_save 166 = .ok (.return_, 1) := dk_177 (by decide +kernel)
def f_X6_save_104 (k_72 : Nat → Int32 → Mem → Option Mem) : Nat → Nat → Int32 → Int32 → Mem → Option Mem
  | 0, _, _, _, _ => none
  | n + 1, v0, v1, v2, M =>
    chk (isO M 6 v0) <|
    bnd (mR M v0 0) fun o2 =>
    chk (isO M 2 o2) <|
    bnd (mR M o2 0) fun o5 =>
    chk (isO M 7 o5) <|
    if (mI M o5 3) ≤ v2 then (
      bnd (v1 + (1 : Int32)) fun x10 =>
      k_72 v0 x10 M
      ) else (
      bnd (mR M v0 0) fun o12 =>
      chk (isO M 2 o12) <|
      bnd (mR M o12 1) fun o15 =>
      chk (isO M 5 o15) <|
      bnd (mR M o15 3) fun o18 =>
      chk (isO M 100 o18) <|
      chk (inB v1 (mLn M o18)) <|
      obd (f_X9_has (mI M o18 (v1).toNatClampNeg) v2 M) fun r23 =>
      if r23 = 0 then (
        bnd (v2 + (1 : Int32)) fun x26 =>
        f_X6_save_104 k_72 n v0 v1 x26 M
        ) else (
        bnd (mR M v0 0) fun o28 =>
        chk (isO M 2 o28) <|
        bnd (mR M o28 1) fun o31 =>
        chk (isO M 5 o31) <|
        obd (f_X6_saveLane n v0 o31 ((v1 * (16 : Int32)) + v2) M) fun M35 =>
        bnd (v2 + (1 : Int32)) fun x36 =>
        f_X6_save_104 k_72 n v0 v1 x36 M35
        )
      )
def f_X6_save_72 : Nat → Nat → Int32 → Mem → Option Mem
  | 0, _, _, _ => none
  | n + 1, v0, v1, M =>
    chk (isO M 6 v0) <|
    bnd (mR M v0 0) fun o2 =>
    chk (isO M 2 o2) <|
    bnd (mR M o2 0) fun o5 =>
    chk (isO M 7 o5) <|
    if (mI M o5 3) ≤ v1 then (
      some M
      ) else (
      bnd (mR M v0 0) fun o10 =>
      chk (isO M 2 o10) <|
      bnd (mR M o10 1) fun o13 =>
      chk (isO M 5 o13) <|
      bnd (mR M o13 3) fun o16 =>
      chk (isO M 100 o16) <|
      chk (inB v1 (mLn M o16)) <|
      obd (f_X6_push v0 (mI M o16 (v1).toNatClampNeg) M) fun M21 =>
      f_X6_save_104 (f_X6_save_72 n) n v0 v1 (0 : Int32) M21
      )
def f_X6_save_37 : Nat → Nat → Int32 → Mem → Option Mem
  | 0, _, _, _ => none
  | n + 1, v0, v1, M =>
    chk (isO M 6 v0) <|
    bnd (mR M v0 0) fun o2 =>
    chk (isO M 2 o2) <|
    bnd (mR M o2 0) fun o5 =>
    chk (isO M 7 o5) <|
    if (mI M o5 3) ≤ v1 then (
      f_X6_save_72 n v0 (0 : Int32) M
      ) else (
      bnd (mR M v0 0) fun o10 =>
      chk (isO M 2 o10) <|
      bnd (mR M o10 2) fun o13 =>
      chk (isO M 102 o13) <|
      chk (inB v1 (mLn M o13)) <|
      bnd (mR M o13 (v1).toNatClampNeg) fun o17 =>
      chk (isO M 4 o17) <|
      obd (f_X6_savePlace n v0 o17 M) fun M21 =>
      bnd (v1 + (1 : Int32)) fun x22 =>
      f_X6_save_37 n v0 x22 M21
      )
def f_X6_save (n : Nat) (o : Nat) (M : Mem) : Option Mem :=
  chk (isO M 6 o) <|
  bnd (mR M o 1) fun o2 =>
  chk (isO M 100 o2) <|
  chk (inB (mI M o 10) (mLn M o2)) <|
  bnd (sI M o 6 (mI M o2 ((mI M o 10)).toNatClampNeg)) fun M6 =>
  bnd (mR M6 o 0) fun o10 =>
  chk (isO M6 2 o10) <|
  obd (f_X6_push o (mI M6 o10 7) M6) fun M14 =>
  chk (isO M14 6 o) <|
  bnd (mR M14 o 0) fun o16 =>
  chk (isO M14 2 o16) <|
  obd (f_X6_push o (mI M14 o16 8) M14) fun M20 =>
  f_X6_save_37 n o (0 : Int32) M20
theorem cd_X6_save : (yX6_save.cls ≠ "java/lang/invoke/MethodHandle" ∧ yX6_save.cls ≠ "java/lang/invoke/VarHandle") ∧ (parseMethodDescriptor yX6_save.desc).map (fun d => d.parameters.length) = some 0 := ⟨⟨by decide +kernel, by decide +kernel⟩, by decide +kernel⟩
section
variable {p : Program} {l : Launch} {e : Env} {R : Room} {s : State} {m : MethodId} {args : Array Value} {below : List Frame} {meth : Method} {c : Code} {G : Gam} {M0 : Mem}
theorem l_X6_save_104 {k_72 : Nat → Int32 → Mem → Option Mem} {rv : Mem} (X : Cx p R s m args c G M0 cX6_save yX6_save.cls 3 4 95) (hr : meth.sig.returnType = none) (hlk : meth.locks = false) (hnm : meth.name = "save") (hk_72 : ∀ (v0 : Nat), ∀ (v1 : Int32), ∀ M : Mem, k_72 v0 v1 M = some rv → Sg p l e R s m args below meth c (Qm below G args s none M0 rv) G M0 3 72 [(0, .ref (gB G + v0)), (1, .int v1)] [] M) : ∀ {n : Nat} (v0 : Nat) (v1 : Int32) (v2 : Int32) (M : Mem), f_X6_save_104 k_72 n v0 v1 v2 M = some rv → Sg p l e R s m args below meth c (Qm below G args s none M0 rv) G M0 3 104 [(0, .ref (gB G + v0)), (1, .int v1), (2, .int v2)] [] M := by
  intro n
  induction n with
  | zero => intro v0 v1 v2 M hf; exact (pk_none hf).elim
  | succ n ih =>
    intro v0 v1 v2 M hf
    rw [f_X6_save_104] at hf
    refine s_iload_n X 2 dX6_save_104 rfl rfl ?_
    refine s_aload_n X 0 dX6_save_105 rfl rfl ?_
    obtain ⟨h1, hf⟩ := pk_chk hf
    obtain ⟨o2, e3, hf⟩ := pk_bnd hf
    obtain ⟨h4, hf⟩ := pk_chk hf
    refine s_getR X (ci := 6) (k := 0) rfl (Nat.le_of_ble_eq_true rfl) h1 wd522 (fun _ _ _ => rfl) (e3 ▸ h4) dX6_save_106 (e3 ▸ ?_)
    obtain ⟨o5, e6, hf⟩ := pk_bnd hf
    obtain ⟨h7, hf⟩ := pk_chk hf
    refine s_getR X (ci := 2) (k := 0) rfl (Nat.le_of_ble_eq_true rfl) h4 wd418 (fun _ _ _ => rfl) (e6 ▸ h7) dX6_save_109 (e6 ▸ ?_)
    refine s_getI X (ci := 7) (k := 3) rfl (Nat.le_of_ble_eq_true rfl) h7 wd168 (fun _ _ _ => rfl) dX6_save_112 ?_
    have hs8 := pk_ite hf
    clear hf
    refine s_icmp_ge X (tgt := 160) dX6_save_115 rfl (fun c9 => ?_) (fun c9 => ?_)
    · have hf := hs8.1 c9
      obtain ⟨x10, e11, hf⟩ := pk_bnd hf
      refine s_iinc X (vs' := [(0, .ref (gB G + v0)), (1, .int x10), (2, .int v2)]) 1 dX6_save_160 rfl (v := x10) e11.symm (Nat.le_of_ble_eq_true rfl) [1, 0, 2] rfl ?_
      refine s_goto X (tgt := 72) dX6_save_163 rfl ?_
      refine s_drop [0, 1] (vs' := [(0, .ref (gB G + v0)), (1, .int x10)]) rfl ?_
      exact hk_72 _ _ _ hf
    · have hf := hs8.2 c9
      refine s_aload_n X 0 dX6_save_118 rfl rfl ?_
      obtain ⟨o12, e13, hf⟩ := pk_bnd hf
      obtain ⟨h14, hf⟩ := pk_chk hf
      refine s_getR X (ci := 6) (k := 0) rfl (Nat.le_of_ble_eq_true rfl) h1 wd522 (fun _ _ _ => rfl) (e13 ▸ h14) dX6_save_119 (e13 ▸ ?_)
      obtain ⟨o15, e16, hf⟩ := pk_bnd hf
      obtain ⟨h17, hf⟩ := pk_chk hf
      refine s_getR X (ci := 2) (k := 1) rfl (Nat.le_of_ble_eq_true rfl) h14 wd421 (fun _ _ _ => rfl) (e16 ▸ h17) dX6_save_122 (e16 ▸ ?_)
      obtain ⟨o18, e19, hf⟩ := pk_bnd hf
      obtain ⟨h20, hf⟩ := pk_chk hf
      refine s_getR X (ci := 5) (k := 3) rfl (Nat.le_of_ble_eq_true rfl) h17 wd255 (fun _ _ _ => rfl) (e19 ▸ h20) dX6_save_125 (e19 ▸ ?_)
      refine s_iload_n X 1 dX6_save_128 rfl rfl ?_
      obtain ⟨h21, hf⟩ := pk_chk hf
      refine s_iald X h20 h21 dX6_save_129 ?_
      refine s_iload_n X 2 dX6_save_130 rfl rfl ?_
      obtain ⟨r23, hc22, hf⟩ := pk_obd hf
      refine s_callSN X (k_X9_has G hc22) (host := "QuorumGate") ns_13 wd712 wd713 wd126 cd_X9_has ⟨Nat.le_of_ble_eq_true rfl, Nat.le_of_ble_eq_true rfl⟩ (Nat.le_of_ble_eq_true rfl) dX6_save_131 ?_
      have hs24 := pk_ite hf
      clear hf
      refine s_if_eq X (tgt := 154) dX6_save_134 rfl (fun c25 => ?_) (fun c25 => ?_)
      · have hf := hs24.1 c25
        obtain ⟨x26, e27, hf⟩ := pk_bnd hf
        refine s_iinc X (vs' := [(0, .ref (gB G + v0)), (1, .int v1), (2, .int x26)]) 2 dX6_save_154 rfl (v := x26) e27.symm (Nat.le_of_ble_eq_true rfl) [1, 2, 0] rfl ?_
        refine s_goto X (tgt := 104) dX6_save_157 rfl ?_
        exact ih _ _ _ _ hf
      · have hf := hs24.2 c25
        refine s_aload_n X 0 dX6_save_137 rfl rfl ?_
        refine s_aload_n X 0 dX6_save_138 rfl rfl ?_
        obtain ⟨o28, e29, hf⟩ := pk_bnd hf
        obtain ⟨h30, hf⟩ := pk_chk hf
        refine s_getR X (ci := 6) (k := 0) rfl (Nat.le_of_ble_eq_true rfl) h1 wd522 (fun _ _ _ => rfl) (e29 ▸ h30) dX6_save_139 (e29 ▸ ?_)
        obtain ⟨o31, e32, hf⟩ := pk_bnd hf
        obtain ⟨h33, hf⟩ := pk_chk hf
        refine s_getR X (ci := 2) (k := 1) rfl (Nat.le_of_ble_eq_true rfl) h30 wd421 (fun _ _ _ => rfl) (e32 ▸ h33) dX6_save_142 (e32 ▸ ?_)
        refine s_iload_n X 1 dX6_save_145 rfl rfl ?_
        refine s_bipush X (v := (16 : Int32)) dX6_save_146 rfl ?_
        refine s_imul X dX6_save_148 ?_
        refine s_iload_n X 2 dX6_save_149 rfl rfl ?_
        refine s_iadd X dX6_save_150 ?_
        obtain ⟨M35, hc34, hf⟩ := pk_obd hf
        refine s_callV X (ci := 6) (k_X6_saveLane G hc34) rfl h1 wd1281 wd1283 wd34 wd1284 wd135 cd_X6_saveLane ⟨Nat.le_of_ble_eq_true rfl, Nat.le_of_ble_eq_true rfl⟩ (Nat.le_of_ble_eq_true rfl) dX6_save_151 ?_
        obtain ⟨x36, e37, hf⟩ := pk_bnd hf
        refine s_iinc X (vs' := [(0, .ref (gB G + v0)), (1, .int v1), (2, .int x36)]) 2 dX6_save_154 rfl (v := x36) e37.symm (Nat.le_of_ble_eq_true rfl) [1, 2, 0] rfl ?_
        refine s_goto X (tgt := 104) dX6_save_157 rfl ?_
        exact ih _ _ _ _ hf
theorem l_X6_save_72 {rv : Mem} (X : Cx p R s m args c G M0 cX6_save yX6_save.cls 3 4 95) (hr : meth.sig.returnType = none) (hlk : meth.locks = false) (hnm : meth.name = "save") : ∀ {n : Nat} (v0 : Nat) (v1 : Int32) (M : Mem), f_X6_save_72 n v0 v1 M = some rv → Sg p l e R s m args below meth c (Qm below G args s none M0 rv) G M0 3 72 [(0, .ref (gB G + v0)), (1, .int v1)] [] M := by
  intro n
  induction n with
  | zero => intro v0 v1 M hf; exact (pk_none hf).elim
  | succ n ih =>
    intro v0 v1 M hf
    rw [f_X6_save_72] at hf
    refine s_iload_n X 1 dX6_save_72 rfl rfl ?_
    refine s_aload_n X 0 dX6_save_73 rfl rfl ?_
    obtain ⟨h1, hf⟩ := pk_chk hf
    obtain ⟨o2, e3, hf⟩ := pk_bnd hf
    obtain ⟨h4, hf⟩ := pk_chk hf
    refine s_getR X (ci := 6) (k := 0) rfl (Nat.le_of_ble_eq_true rfl) h1 wd522 (fun _ _ _ => rfl) (e3 ▸ h4) dX6_save_74 (e3 ▸ ?_)
    obtain ⟨o5, e6, hf⟩ := pk_bnd hf
    obtain ⟨h7, hf⟩ := pk_chk hf
    refine s_getR X (ci := 2) (k := 0) rfl (Nat.le_of_ble_eq_true rfl) h4 wd418 (fun _ _ _ => rfl) (e6 ▸ h7) dX6_save_77 (e6 ▸ ?_)
    refine s_getI X (ci := 7) (k := 3) rfl (Nat.le_of_ble_eq_true rfl) h7 wd168 (fun _ _ _ => rfl) dX6_save_80 ?_
    have hs8 := pk_ite hf
    clear hf
    refine s_icmp_ge X (tgt := 166) dX6_save_83 rfl (fun c9 => ?_) (fun c9 => ?_)
    · have hf := hs8.1 c9
      cases hf
      exact s_vret X hr hlk dX6_save_166
    · have hf := hs8.2 c9
      refine s_aload_n X 0 dX6_save_86 rfl rfl ?_
      refine s_aload_n X 0 dX6_save_87 rfl rfl ?_
      obtain ⟨o10, e11, hf⟩ := pk_bnd hf
      obtain ⟨h12, hf⟩ := pk_chk hf
      refine s_getR X (ci := 6) (k := 0) rfl (Nat.le_of_ble_eq_true rfl) h1 wd522 (fun _ _ _ => rfl) (e11 ▸ h12) dX6_save_88 (e11 ▸ ?_)
      obtain ⟨o13, e14, hf⟩ := pk_bnd hf
      obtain ⟨h15, hf⟩ := pk_chk hf
      refine s_getR X (ci := 2) (k := 1) rfl (Nat.le_of_ble_eq_true rfl) h12 wd421 (fun _ _ _ => rfl) (e14 ▸ h15) dX6_save_91 (e14 ▸ ?_)
      obtain ⟨o16, e17, hf⟩ := pk_bnd hf
      obtain ⟨h18, hf⟩ := pk_chk hf
      refine s_getR X (ci := 5) (k := 3) rfl (Nat.le_of_ble_eq_true rfl) h15 wd255 (fun _ _ _ => rfl) (e17 ▸ h18) dX6_save_94 (e17 ▸ ?_)
      refine s_iload_n X 1 dX6_save_97 rfl rfl ?_
      obtain ⟨h19, hf⟩ := pk_chk hf
      refine s_iald X h18 h19 dX6_save_98 ?_
      obtain ⟨M21, hc20, hf⟩ := pk_obd hf
      refine s_callV X (ci := 6) (k_X6_push G hc20) rfl h1 wd1271 wd1273 wd32 wd1274 wd135 cd_X6_push ⟨Nat.le_of_ble_eq_true rfl, Nat.le_of_ble_eq_true rfl⟩ (Nat.le_of_ble_eq_true rfl) dX6_save_99 ?_
      refine s_iconst X (v := (0 : Int32)) dX6_save_102 rfl ?_
      refine s_istore_n X (vs' := [(0, .ref (gB G + v0)), (1, .int v1), (2, .int (0 : Int32))]) dX6_save_103 rfl (Nat.le_of_ble_eq_true rfl) [1, 2, 0] rfl ?_
      exact l_X6_save_104 X hr hlk hnm ih _ _ _ _ hf
theorem l_X6_save_37 {rv : Mem} (X : Cx p R s m args c G M0 cX6_save yX6_save.cls 3 4 95) (hr : meth.sig.returnType = none) (hlk : meth.locks = false) (hnm : meth.name = "save") : ∀ {n : Nat} (v0 : Nat) (v1 : Int32) (M : Mem), f_X6_save_37 n v0 v1 M = some rv → Sg p l e R s m args below meth c (Qm below G args s none M0 rv) G M0 3 37 [(0, .ref (gB G + v0)), (1, .int v1)] [] M := by
  intro n
  induction n with
  | zero => intro v0 v1 M hf; exact (pk_none hf).elim
  | succ n ih =>
    intro v0 v1 M hf
    rw [f_X6_save_37] at hf
    refine s_iload_n X 1 dX6_save_37 rfl rfl ?_
    refine s_aload_n X 0 dX6_save_38 rfl rfl ?_
    obtain ⟨h1, hf⟩ := pk_chk hf
    obtain ⟨o2, e3, hf⟩ := pk_bnd hf
    obtain ⟨h4, hf⟩ := pk_chk hf
    refine s_getR X (ci := 6) (k := 0) rfl (Nat.le_of_ble_eq_true rfl) h1 wd522 (fun _ _ _ => rfl) (e3 ▸ h4) dX6_save_39 (e3 ▸ ?_)
    obtain ⟨o5, e6, hf⟩ := pk_bnd hf
    obtain ⟨h7, hf⟩ := pk_chk hf
    refine s_getR X (ci := 2) (k := 0) rfl (Nat.le_of_ble_eq_true rfl) h4 wd418 (fun _ _ _ => rfl) (e6 ▸ h7) dX6_save_42 (e6 ▸ ?_)
    refine s_getI X (ci := 7) (k := 3) rfl (Nat.le_of_ble_eq_true rfl) h7 wd168 (fun _ _ _ => rfl) dX6_save_45 ?_
    have hs8 := pk_ite hf
    clear hf
    refine s_icmp_ge X (tgt := 70) dX6_save_48 rfl (fun c9 => ?_) (fun c9 => ?_)
    · have hf := hs8.1 c9
      refine s_iconst X (v := (0 : Int32)) dX6_save_70 rfl ?_
      refine s_istore_n X (vs' := [(0, .ref (gB G + v0)), (1, .int (0 : Int32))]) dX6_save_71 rfl (Nat.le_of_ble_eq_true rfl) [1, 0] rfl ?_
      exact l_X6_save_72 X hr hlk hnm _ _ _ hf
    · have hf := hs8.2 c9
      refine s_aload_n X 0 dX6_save_51 rfl rfl ?_
      refine s_aload_n X 0 dX6_save_52 rfl rfl ?_
      obtain ⟨o10, e11, hf⟩ := pk_bnd hf
      obtain ⟨h12, hf⟩ := pk_chk hf
      refine s_getR X (ci := 6) (k := 0) rfl (Nat.le_of_ble_eq_true rfl) h1 wd522 (fun _ _ _ => rfl) (e11 ▸ h12) dX6_save_53 (e11 ▸ ?_)
      obtain ⟨o13, e14, hf⟩ := pk_bnd hf
      obtain ⟨h15, hf⟩ := pk_chk hf
      refine s_getR X (ci := 2) (k := 2) rfl (Nat.le_of_ble_eq_true rfl) h12 wd424 (fun _ _ _ => rfl) (e14 ▸ h15) dX6_save_56 (e14 ▸ ?_)
      refine s_iload_n X 1 dX6_save_59 rfl rfl ?_
      obtain ⟨h16, hf⟩ := pk_chk hf
      obtain ⟨o17, e18, hf⟩ := pk_bnd hf
      obtain ⟨h19, hf⟩ := pk_chk hf
      refine s_aald X h15 h16 (e18 ▸ h19) dX6_save_60 (e18 ▸ ?_)
      obtain ⟨M21, hc20, hf⟩ := pk_obd hf
      refine s_callV X (ci := 6) (k_X6_savePlace G hc20) rfl h1 wd1276 wd1278 wd33 wd1279 wd135 cd_X6_savePlace ⟨Nat.le_of_ble_eq_true rfl, Nat.le_of_ble_eq_true rfl⟩ (Nat.le_of_ble_eq_true rfl) dX6_save_61 ?_
      obtain ⟨x22, e23, hf⟩ := pk_bnd hf
      refine s_iinc X (vs' := [(0, .ref (gB G + v0)), (1, .int x22)]) 1 dX6_save_64 rfl (v := x22) e23.symm (Nat.le_of_ble_eq_true rfl) [1, 0] rfl ?_
      refine s_goto X (tgt := 37) dX6_save_67 rfl ?_
      exact ih _ _ _ hf
end
theorem k_X6_save (G : Gam) {n : Nat} {o : Nat} {M : Mem} {rv : Mem} (hf : f_X6_save n o M = some rv) : Kt yX6_save cX6_save 3 none 4 95 G [.ref (gB G + o)] M rv none := by
  refine Kt.of (by decide) (Nat.le_of_ble_eq_true rfl) ?_
  intro p l e R s m args below meth c X hr hlk hnm
  refine s_drop [0] (vs' := [(0, .ref (gB G + o))]) rfl ?_
  rw [f_X6_save] at hf
  refine s_aload_n X 0 dX6_save_0 rfl rfl ?_
  refine s_aload_n X 0 dX6_save_1 rfl rfl ?_
  obtain ⟨h1, hf⟩ := pk_chk hf
  obtain ⟨o2, e3, hf⟩ := pk_bnd hf
  obtain ⟨h4, hf⟩ := pk_chk hf
  refine s_getR X (ci := 6) (k := 1) rfl (Nat.le_of_ble_eq_true rfl) h1 wd523 (fun _ _ _ => rfl) (e3 ▸ h4) dX6_save_2 (e3 ▸ ?_)
  refine s_aload_n X 0 dX6_save_5 rfl rfl ?_
  refine s_getI X (ci := 6) (k := 10) rfl (Nat.le_of_ble_eq_true rfl) h1 wd532 (fun _ _ _ => rfl) dX6_save_6 ?_
  obtain ⟨h5, hf⟩ := pk_chk hf
  refine s_iald X h4 h5 dX6_save_9 ?_
  obtain ⟨M6, e7, hf⟩ := pk_bnd hf
  refine s_putI X (ci := 6) (k := 6) rfl (Nat.le_of_ble_eq_true rfl) h1 wd528 (fun _ _ _ => rfl) rfl rfl e7 dX6_save_10 ?_
  have h8 := io_sI e7 h1
  have h9 := io_sI e7 h4
  refine s_aload_n X 0 dX6_save_13 rfl rfl ?_
  refine s_aload_n X 0 dX6_save_14 rfl rfl ?_
  obtain ⟨o10, e11, hf⟩ := pk_bnd hf
  obtain ⟨h12, hf⟩ := pk_chk hf
  refine s_getR X (ci := 6) (k := 0) rfl (Nat.le_of_ble_eq_true rfl) h8 wd522 (fun _ _ _ => rfl) (e11 ▸ h12) dX6_save_15 (e11 ▸ ?_)
  refine s_getI X (ci := 2) (k := 7) rfl (Nat.le_of_ble_eq_true rfl) h12 wd436 (fun _ _ _ => rfl) dX6_save_18 ?_
  obtain ⟨M14, hc13, hf⟩ := pk_obd hf
  refine s_callV X (ci := 6) (k_X6_push G hc13) rfl h8 wd1271 wd1273 wd32 wd1274 wd135 cd_X6_push ⟨Nat.le_of_ble_eq_true rfl, Nat.le_of_ble_eq_true rfl⟩ (Nat.le_of_ble_eq_true rfl) dX6_save_21 ?_
  refine s_aload_n X 0 dX6_save_24 rfl rfl ?_
  refine s_aload_n X 0 dX6_save_25 rfl rfl ?_
  obtain ⟨h15, hf⟩ := pk_chk hf
  obtain ⟨o16, e17, hf⟩ := pk_bnd hf
  obtain ⟨h18, hf⟩ := pk_chk hf
  refine s_getR X (ci := 6) (k := 0) rfl (Nat.le_of_ble_eq_true rfl) h15 wd522 (fun _ _ _ => rfl) (e17 ▸ h18) dX6_save_26 (e17 ▸ ?_)
  refine s_getI X (ci := 2) (k := 8) rfl (Nat.le_of_ble_eq_true rfl) h18 wd439 (fun _ _ _ => rfl) dX6_save_29 ?_
  obtain ⟨M20, hc19, hf⟩ := pk_obd hf
  refine s_callV X (ci := 6) (k_X6_push G hc19) rfl h15 wd1271 wd1273 wd32 wd1274 wd135 cd_X6_push ⟨Nat.le_of_ble_eq_true rfl, Nat.le_of_ble_eq_true rfl⟩ (Nat.le_of_ble_eq_true rfl) dX6_save_32 ?_
  refine s_iconst X (v := (0 : Int32)) dX6_save_35 rfl ?_
  refine s_istore_n X (vs' := [(0, .ref (gB G + o)), (1, .int (0 : Int32))]) dX6_save_36 rfl (Nat.le_of_ble_eq_true rfl) [1, 0] rfl ?_
  exact l_X6_save_37 X hr hlk hnm _ _ _ hf
theorem dX6_isLike_0 : decode cX6_isLike 0 = .ok (.aload_n 0, 1) := dk_42 (by decide +kernel)
theorem dX6_isLike_1 : decode cX6_isLike 1 = .ok (.getfield 153, 3) := dk_180 (x := 0) (y := 153) (by decide +kernel) rfl
theorem dX6_isLike_4 : decode cX6_isLike 4 = .ok (.aload_n 0, 1) := dk_42 (by decide +kernel)
theorem dX6_isLike_5 : decode cX6_isLike 5 = .ok (.getfield 9, 3) := dk_180 (x := 0) (y := 9) (by decide +kernel) rfl
theorem dX6_isLike_8 : decode cX6_isLike 8 = .ok (.aload_n 0, 1) := dk_42 (by decide +kernel)
theorem dX6_isLike_9 : decode cX6_isLike 9 = .ok (.getfield 39, 3) := dk_180 (x := 0) (y := 39) (by decide +kernel) rfl
theorem dX6_isLike_12 : decode cX6_isLike 12 = .ok (.iaload, 1) := dk_46 (by decide +kernel)
theorem dX6_isLike_13 : decode cX6_isLike 13 = .ok (.isub, 1) := dk_100 (by decide +kernel)
theorem dX6_isLike_14 : decode cX6_isLike 14 = .ok (.istore_n 2, 1) := dk_61 (by decide +kernel)
theorem dX6_isLike_15 : decode cX6_isLike 15 = .ok (.aload_n 0, 1) := dk_42 (by decide +kernel)
theorem dX6_isLike_16 : decode cX6_isLike 16 = .ok (.getfield 9, 3) := dk_180 (x := 0) (y := 9) (by decide +kernel) rfl
theorem dX6_isLike_19 : decode cX6_isLike 19 = .ok (.iload_n 1, 1) := dk_27 (by decide +kernel)
theorem dX6_isLike_20 : decode cX6_isLike 20 = .ok (.iconst 1, 1) := dk_4 (by decide +kernel)
theorem dX6_isLike_21 : decode cX6_isLike 21 = .ok (.iadd, 1) := dk_96 (by decide +kernel)
theorem dX6_isLike_22 : decode cX6_isLike 22 = .ok (.iaload, 1) := dk_46 (by decide +kernel)
theorem dX6_isLike_23 : decode cX6_isLike 23 = .ok (.aload_n 0, 1) := dk_42 (by decide +kernel)
theorem dX6_isLike_24 : decode cX6_isLike 24 = .ok (.getfield 9, 3) := dk_180 (x := 0) (y := 9) (by decide +kernel) rfl
theorem dX6_isLike_27 : decode cX6_isLike 27 = .ok (.iload_n 1, 1) := dk_27 (by decide +kernel)
theorem dX6_isLike_28 : decode cX6_isLike 28 = .ok (.iaload, 1) := dk_46 (by decide +kernel)
theorem dX6_isLike_29 : decode cX6_isLike 29 = .ok (.isub, 1) := dk_100 (by decide +kernel)
theorem dX6_isLike_30 : decode cX6_isLike 30 = .ok (.iload_n 2, 1) := dk_28 (by decide +kernel)
theorem dX6_isLike_31 : decode cX6_isLike 31 = .ok (.if_icmp .eq 5, 3) := dk_159 (x := 0) (y := 5) (by decide +kernel) rfl
theorem dX6_isLike_34 : decode cX6_isLike 34 = .ok (.iconst 0, 1) := dk_3 (by decide +kernel)
theorem dX6_isLike_35 : decode cX6_isLike 35 = .ok (.ireturn, 1) := dk_172 (by decide +kernel)
theorem dX6_isLike_36 : decode cX6_isLike 36 = .ok (.iconst 0, 1) := dk_3 (by decide +kernel)
theorem dX6_isLike_37 : decode cX6_isLike 37 = .ok (.istore_n 3, 1) := dk_62 (by decide +kernel)
theorem dX6_isLike_38 : decode cX6_isLike 38 = .ok (.iload_n 3, 1) := dk_29 (by decide +kernel)
theorem dX6_isLike_39 : decode cX6_isLike 39 = .ok (.iload_n 2, 1) := dk_28 (by decide +kernel)
theorem dX6_isLike_40 : decode cX6_isLike 40 = .ok (.if_icmp .ge 43, 3) := dk_162 (x := 0) (y := 43) (by decide +kernel) rfl
theorem dX6_isLike_43 : decode cX6_isLike 43 = .ok (.aload_n 0, 1) := dk_42 (by decide +kernel)
theorem dX6_isLike_44 : decode cX6_isLike 44 = .ok (.getfield 24, 3) := dk_180 (x := 0) (y := 24) (by decide +kernel) rfl
theorem dX6_isLike_47 : decode cX6_isLike 47 = .ok (.aload_n 0, 1) := dk_42 (by decide +kernel)
theorem dX6_isLike_48 : decode cX6_isLike 48 = .ok (.getfield 9, 3) := dk_180 (x := 0) (y := 9) (by decide +kernel) rfl
theorem dX6_isLike_51 : decode cX6_isLike 51 = .ok (.iload_n 1, 1) := dk_27 (by decide +kernel)
theorem dX6_isLike_52 : decode cX6_isLike 52 = .ok (.iaload, 1) := dk_46 (by decide +kernel)
theorem dX6_isLike_53 : decode cX6_isLike 53 = .ok (.iload_n 3, 1) := dk_29 (by decide +kernel)
theorem dX6_isLike_54 : decode cX6_isLike 54 = .ok (.iadd, 1) := dk_96 (by decide +kernel)
theorem dX6_isLike_55 : decode cX6_isLike 55 = .ok (.iaload, 1) := dk_46 (by decide +kernel)
theorem dX6_isLike_56 : decode cX6_isLike 56 = .ok (.aload_n 0, 1) := dk_42 (by decide +kernel)
theorem dX6_isLike_57 : decode cX6_isLike 57 = .ok (.getfield 24, 3) := dk_180 (x := 0) (y := 24) (by decide +kernel) rfl
theorem dX6_isLike_60 : decode cX6_isLike 60 = .ok (.aload_n 0, 1) := dk_42 (by decide +kernel)
theorem dX6_isLike_61 : decode cX6_isLike 61 = .ok (.getfield 9, 3) := dk_180 (x := 0) (y := 9) (by decide +kernel) rfl
theorem dX6_isLike_64 : decode cX6_isLike 64 = .ok (.aload_n 0, 1) := dk_42 (by decide +kernel)
theorem dX6_isLike_65 : decode cX6_isLike 65 = .ok (.getfield 39, 3) := dk_180 (x := 0) (y := 39) (by decide +kernel) rfl
theorem dX6_isLike_68 : decode cX6_isLike 68 = .ok (.iaload, 1) := dk_46 (by decide +kernel)
theorem dX6_isLike_69 : decode cX6_isLike 69 = .ok (.iload_n 3, 1) := dk_29 (by decide +kernel)
theorem dX6_isLike_70 : decode cX6_isLike 70 = .ok (.iadd, 1) := dk_96 (by decide +kernel)
theorem dX6_isLike_71 : decode cX6_isLike 71 = .ok (.iaload, 1) := dk_46 (by decide +kernel)
theorem dX6_isLike_72 : decode cX6_isLike 72 = .ok (.if_icmp .eq 5, 3) := dk_159 (x := 0) (y := 5) (by decide +kernel) rfl
theorem dX6_isLike_75 : decode cX6_isLike 75 = .ok (.iconst 0, 1) := dk_3 (by decide +kernel)
theorem dX6_isLike_76 : decode cX6_isLike 76 = .ok (.ireturn, 1) := dk_172 (by decide +kernel)
theorem dX6_isLike_77 : decode cX6_isLike 77 = .ok (.iinc 3 1, 3) := dk_132 (x := 3) (y := 1) (by decide +kernel) rfl
theorem dX6_isLike_80 : decode cX6_isLike 80 = .ok (.goto (-42), 3) := dk_167 (x := 255) (y := 214) (by decide +kernel) rfl
theorem dX6_isLike_83 : decode cX6_isLike 83 = .ok (.iconst 1, 1) := dk_4 (by decide +kernel)
theorem dX6_isLike_84 : decode cX6_isLike 84 = .ok (.ireturn, 1) := dk_172 (by decide +kernel)
def f_X6_isLike_38 (M : Mem) : Nat → Nat → Int32 → Int32 → Int32 → Option Int32
  | 0, _, _, _, _ => none
  | n + 1, v0, v1, v2, v3 =>
    if v2 ≤ v3 then (
      some (1 : Int32)
      ) else (
      chk (isO M 6 v0) <|
      bnd (mR M v0 5) fun o4 =>
      chk (isO M 100 o4) <|
      bnd (mR M v0 1) fun o7 =>
      chk (isO M 100 o7) <|
      chk (inB v1 (mLn M o7)) <|
      chk (inB ((mI M o7 (v1).toNatClampNeg) + v3) (mLn M o4)) <|
      bnd (mR M v0 5) fun o12 =>
      chk (isO M 100 o12) <|
      bnd (mR M v0 1) fun o15 =>
      chk (isO M 100 o15) <|
      chk (inB (mI M v0 10) (mLn M o15)) <|
      chk (inB ((mI M o15 ((mI M v0 10)).toNatClampNeg) + v3) (mLn M o12)) <|
      if (mI M o4 (((mI M o7 (v1).toNatClampNeg) + v3)).toNatClampNeg) = (mI M o12 (((mI M o15 ((mI M v0 10)).toNatClampNeg) + v3)).toNatClampNeg) then (
        bnd (v3 + (1 : Int32)) fun x22 =>
        f_X6_isLike_38 M n v0 v1 v2 x22
        ) else (
        some (0 : Int32)
        )
      )
def f_X6_isLike (n : Nat) (o : Nat) (a1 : Int32) (M : Mem) : Option Int32 :=
  chk (isO M 6 o) <|
  bnd (mR M o 1) fun o2 =>
  chk (isO M 100 o2) <|
  chk (inB (mI M o 10) (mLn M o2)) <|
  bnd ((mI M o 6) - (mI M o2 ((mI M o 10)).toNatClampNeg)) fun x6 =>
  bnd (mR M o 1) fun o8 =>
  chk (isO M 100 o8) <|
  chk (inB (a1 + (1 : Int32)) (mLn M o8)) <|
  bnd (mR M o 1) fun o12 =>
  chk (isO M 100 o12) <|
  chk (inB a1 (mLn M o12)) <|
  if ((mI M o8 ((a1 + (1 : Int32))).toNatClampNeg) - (mI M o12 (a1).toNatClampNeg)) = x6 then (
    f_X6_isLike_38 M n o a1 x6 (0 : Int32)
    ) else (
    some (0 : Int32)
    )
theorem cd_X6_isLike : (yX6_isLike.cls ≠ "java/lang/invoke/MethodHandle" ∧ yX6_isLike.cls ≠ "java/lang/invoke/VarHandle") ∧ (parseMethodDescriptor yX6_isLike.desc).map (fun d => d.parameters.length) = some 1 := ⟨⟨by decide +kernel, by decide +kernel⟩, by decide +kernel⟩
section
variable {p : Program} {l : Launch} {e : Env} {R : Room} {s : State} {m : MethodId} {args : Array Value} {below : List Frame} {meth : Method} {c : Code} {G : Gam} {M0 : Mem}
theorem l_X6_isLike_38 {M : Mem} {rv : Int32} (X : Cx p R s m args c G M0 cX6_isLike yX6_isLike.cls 4 0 0) (hr : meth.sig.returnType = (some .boolean)) (hlk : meth.locks = false) (hnm : meth.name = "isLike") : ∀ {n : Nat} (v0 : Nat) (v1 : Int32) (v2 : Int32) (v3 : Int32), f_X6_isLike_38 M n v0 v1 v2 v3 = some rv → Sg p l e R s m args below meth c (Qm below G args s (some (.int rv)) M0 M) G M0 4 38 [(0, .ref (gB G + v0)), (1, .int v1), (2, .int v2), (3, .int v3)] [] M := by
  intro n
  induction n with
  | zero => intro v0 v1 v2 v3 hf; exact (pk_none hf).elim
  | succ n ih =>
    intro v0 v1 v2 v3 hf
    rw [f_X6_isLike_38] at hf
    refine s_iload_n X 3 dX6_isLike_38 rfl rfl ?_
    refine s_iload_n X 2 dX6_isLike_39 rfl rfl ?_
    have hs1 := pk_ite hf
    clear hf
    refine s_icmp_ge X (tgt := 83) dX6_isLike_40 rfl (fun c2 => ?_) (fun c2 => ?_)
    · have hf := hs1.1 c2
      refine s_iconst X (v := (1 : Int32)) dX6_isLike_83 rfl ?_
      cases hf
      exact s_zret X hr (bz_n (Or.inr rfl)) hlk dX6_isLike_84
    · have hf := hs1.2 c2
      refine s_aload_n X 0 dX6_isLike_43 rfl rfl ?_
      obtain ⟨h3, hf⟩ := pk_chk hf
      obtain ⟨o4, e5, hf⟩ := pk_bnd hf
      obtain ⟨h6, hf⟩ := pk_chk hf
      refine s_getR X (ci := 6) (k := 5) rfl (Nat.le_of_ble_eq_true rfl) h3 wd527 (fun _ _ _ => rfl) (e5 ▸ h6) dX6_isLike_44 (e5 ▸ ?_)
      refine s_aload_n X 0 dX6_isLike_47 rfl rfl ?_
      obtain ⟨o7, e8, hf⟩ := pk_bnd hf
      obtain ⟨h9, hf⟩ := pk_chk hf
      refine s_getR X (ci := 6) (k := 1) rfl (Nat.le_of_ble_eq_true rfl) h3 wd523 (fun _ _ _ => rfl) (e8 ▸ h9) dX6_isLike_48 (e8 ▸ ?_)
      refine s_iload_n X 1 dX6_isLike_51 rfl rfl ?_
      obtain ⟨h10, hf⟩ := pk_chk hf
      refine s_iald X h9 h10 dX6_isLike_52 ?_
      refine s_iload_n X 3 dX6_isLike_53 rfl rfl ?_
      refine s_iadd X dX6_isLike_54 ?_
      obtain ⟨h11, hf⟩ := pk_chk hf
      refine s_iald X h6 h11 dX6_isLike_55 ?_
      refine s_aload_n X 0 dX6_isLike_56 rfl rfl ?_
      obtain ⟨o12, e13, hf⟩ := pk_bnd hf
      obtain ⟨h14, hf⟩ := pk_chk hf
      refine s_getR X (ci := 6) (k := 5) rfl (Nat.le_of_ble_eq_true rfl) h3 wd527 (fun _ _ _ => rfl) (e13 ▸ h14) dX6_isLike_57 (e13 ▸ ?_)
      refine s_aload_n X 0 dX6_isLike_60 rfl rfl ?_
      obtain ⟨o15, e16, hf⟩ := pk_bnd hf
      obtain ⟨h17, hf⟩ := pk_chk hf
      refine s_getR X (ci := 6) (k := 1) rfl (Nat.le_of_ble_eq_true rfl) h3 wd523 (fun _ _ _ => rfl) (e16 ▸ h17) dX6_isLike_61 (e16 ▸ ?_)
      refine s_aload_n X 0 dX6_isLike_64 rfl rfl ?_
      refine s_getI X (ci := 6) (k := 10) rfl (Nat.le_of_ble_eq_true rfl) h3 wd532 (fun _ _ _ => rfl) dX6_isLike_65 ?_
      obtain ⟨h18, hf⟩ := pk_chk hf
      refine s_iald X h17 h18 dX6_isLike_68 ?_
      refine s_iload_n X 3 dX6_isLike_69 rfl rfl ?_
      refine s_iadd X dX6_isLike_70 ?_
      obtain ⟨h19, hf⟩ := pk_chk hf
      refine s_iald X h14 h19 dX6_isLike_71 ?_
      have hs20 := pk_ite hf
      clear hf
      refine s_icmp_eq X (tgt := 77) dX6_isLike_72 rfl (fun c21 => ?_) (fun c21 => ?_)
      · have hf := hs20.1 c21
        obtain ⟨x22, e23, hf⟩ := pk_bnd hf
        refine s_iinc X (vs' := [(0, .ref (gB G + v0)), (1, .int v1), (2, .int v2), (3, .int x22)]) 3 dX6_isLike_77 rfl (v := x22) e23.symm (Nat.le_of_ble_eq_true rfl) [1, 2, 3, 0] rfl ?_
        refine s_goto X (tgt := 38) dX6_isLike_80 rfl ?_
        exact ih _ _ _ _ hf
      · have hf := hs20.2 c21
        refine s_iconst X (v := (0 : Int32)) dX6_isLike_75 rfl ?_
        cases hf
        exact s_zret X hr (bz_n (Or.inl rfl)) hlk dX6_isLike_76
end
theorem k_X6_isLike (G : Gam) {n : Nat} {o : Nat} {a1 : Int32} {M : Mem} {rv : Int32} (hf : f_X6_isLike n o a1 M = some rv) : Kt yX6_isLike cX6_isLike 4 (some .boolean) 0 0 G [.ref (gB G + o), .int a1] M M (some (.int rv)) := by
  refine Kt.of (by decide) (Nat.le_of_ble_eq_true rfl) ?_
  intro p l e R s m args below meth c X hr hlk hnm
  refine s_drop [0, 1] (vs' := [(0, .ref (gB G + o)), (1, .int a1)]) rfl ?_
  rw [f_X6_isLike] at hf
  refine s_aload_n X 0 dX6_isLike_0 rfl rfl ?_
  obtain ⟨h1, hf⟩ := pk_chk hf
  refine s_getI X (ci := 6) (k := 6) rfl (Nat.le_of_ble_eq_true rfl) h1 wd528 (fun _ _ _ => rfl) dX6_isLike_1 ?_
  refine s_aload_n X 0 dX6_isLike_4 rfl rfl ?_
  obtain ⟨o2, e3, hf⟩ := pk_bnd hf
  obtain ⟨h4, hf⟩ := pk_chk hf
  refine s_getR X (ci := 6) (k := 1) rfl (Nat.le_of_ble_eq_true rfl) h1 wd523 (fun _ _ _ => rfl) (e3 ▸ h4) dX6_isLike_5 (e3 ▸ ?_)
  refine s_aload_n X 0 dX6_isLike_8 rfl rfl ?_
  refine s_getI X (ci := 6) (k := 10) rfl (Nat.le_of_ble_eq_true rfl) h1 wd532 (fun _ _ _ => rfl) dX6_isLike_9 ?_
  obtain ⟨h5, hf⟩ := pk_chk hf
  refine s_iald X h4 h5 dX6_isLike_12 ?_
  refine s_isub X dX6_isLike_13 ?_
  obtain ⟨x6, e7, hf⟩ := pk_bnd hf
  refine s_nmI e7 ?_
  refine s_istore_n X (vs' := [(0, .ref (gB G + o)), (1, .int a1), (2, .int x6)]) dX6_isLike_14 rfl (Nat.le_of_ble_eq_true rfl) [1, 2, 0] rfl ?_
  refine s_aload_n X 0 dX6_isLike_15 rfl rfl ?_
  obtain ⟨o8, e9, hf⟩ := pk_bnd hf
  obtain ⟨h10, hf⟩ := pk_chk hf
  refine s_getR X (ci := 6) (k := 1) rfl (Nat.le_of_ble_eq_true rfl) h1 wd523 (fun _ _ _ => rfl) (e9 ▸ h10) dX6_isLike_16 (e9 ▸ ?_)
  refine s_iload_n X 1 dX6_isLike_19 rfl rfl ?_
  refine s_iconst X (v := (1 : Int32)) dX6_isLike_20 rfl ?_
  refine s_iadd X dX6_isLike_21 ?_
  obtain ⟨h11, hf⟩ := pk_chk hf
  refine s_iald X h10 h11 dX6_isLike_22 ?_
  refine s_aload_n X 0 dX6_isLike_23 rfl rfl ?_
  obtain ⟨o12, e13, hf⟩ := pk_bnd hf
  obtain ⟨h14, hf⟩ := pk_chk hf
  refine s_getR X (ci := 6) (k := 1) rfl (Nat.le_of_ble_eq_true rfl) h1 wd523 (fun _ _ _ => rfl) (e13 ▸ h14) dX6_isLike_24 (e13 ▸ ?_)
  refine s_iload_n X 1 dX6_isLike_27 rfl rfl ?_
  obtain ⟨h15, hf⟩ := pk_chk hf
  refine s_iald X h14 h15 dX6_isLike_28 ?_
  refine s_isub X dX6_isLike_29 ?_
  refine s_iload_n X 2 dX6_isLike_30 rfl rfl ?_
  have hs16 := pk_ite hf
  clear hf
  refine s_icmp_eq X (tgt := 36) dX6_isLike_31 rfl (fun c17 => ?_) (fun c17 => ?_)
  · have hf := hs16.1 c17
    refine s_iconst X (v := (0 : Int32)) dX6_isLike_36 rfl ?_
    refine s_istore_n X (vs' := [(0, .ref (gB G + o)), (1, .int a1), (2, .int x6), (3, .int (0 : Int32))]) dX6_isLike_37 rfl (Nat.le_of_ble_eq_true rfl) [1, 2, 3, 0] rfl ?_
    exact l_X6_isLike_38 X hr hlk hnm _ _ _ _ hf
  · have hf := hs16.2 c17
    refine s_iconst X (v := (0 : Int32)) dX6_isLike_34 rfl ?_
    cases hf
    exact s_zret X hr (bz_n (Or.inl rfl)) hlk dX6_isLike_35
theorem dX6_isKnown_0 : decode cX6_isKnown 0 = .ok (.iconst 0, 1) := dk_3 (by decide +kernel)
theorem dX6_isKnown_1 : decode cX6_isKnown 1 = .ok (.istore_n 1, 1) := dk_60 (by decide +kernel)
theorem dX6_isKnown_2 : decode cX6_isKnown 2 = .ok (.iload_n 1, 1) := dk_27 (by decide +kernel)
theorem dX6_isKnown_3 : decode cX6_isKnown 3 = .ok (.aload_n 0, 1) := dk_42 (by decide +kernel)
theorem dX6_isKnown_4 : decode cX6_isKnown 4 = .ok (.getfield 39, 3) := dk_180 (x := 0) (y := 39) (by decide +kernel) rfl
theorem dX6_isKnown_7 : decode cX6_isKnown 7 = .ok (.if_icmp .ge 19, 3) := dk_162 (x := 0) (y := 19) (by decide +kernel) rfl
theorem dX6_isKnown_10 : decode cX6_isKnown 10 = .ok (.aload_n 0, 1) := dk_42 (by decide +kernel)
theorem dX6_isKnown_11 : decode cX6_isKnown 11 = .ok (.iload_n 1, 1) := dk_27 (by decide +kernel)
theorem dX6_isKnown_12 : decode cX6_isKnown 12 = .ok (.invokevirtual 156, 3) := dk_182 (x := 0) (y := 156) (by decide +kernel) rfl
theorem dX6_isKnown_15 : decode cX6_isKnown 15 = .ok (.ifCond .eq 5, 3) := dk_153 (x := 0) (y := 5) (by decide +kernel) rfl
theorem dX6_isKnown_18 : decode cX6_isKnown 18 = .ok (.iconst 1, 1) := dk_4 (by decide +kernel)
theorem dX6_isKnown_19 : decode cX6_isKnown 19 = .ok (.ireturn, 1) := dk_172 (by decide +kernel)
theorem dX6_isKnown_20 : decode cX6_isKnown 20 = .ok (.iinc 1 1, 3) := dk_132 (x := 1) (y := 1) (by decide +kernel) rfl
theorem dX6_isKnown_23 : decode cX6_isKnown 23 = .ok (.goto (-21), 3) := dk_167 (x := 255) (y := 235) (by decide +kernel) rfl
theorem dX6_isKnown_26 : decode cX6_isKnown 26 = .ok (.iconst 0, 1) := dk_3 (by decide +kernel)
theorem dX6_isKnown_27 : decode cX6_isKnown 27 = .ok (.ireturn, 1) := dk_172 (by decide +kernel)
def f_X6_isKnown_2 (M : Mem) : Nat → Nat → Int32 → Option Int32
  | 0, _, _ => none
  | n + 1, v0, v1 =>
    chk (isO M 6 v0) <|
    if (mI M v0 10) ≤ v1 then (
      some (0 : Int32)
      ) else (
      obd (f_X6_isLike n v0 v1 M) fun r5 =>
      if r5 = 0 then (
        bnd (v1 + (1 : Int32)) fun x8 =>
        f_X6_isKnown_2 M n v0 x8
        ) else (
        some (1 : Int32)
        )
      )
def f_X6_isKnown (n : Nat) (o : Nat) (M : Mem) : Option Int32 :=
  f_X6_isKnown_2 M n o (0 : Int32)
theorem cd_X6_isKnown : (yX6_isKnown.cls ≠ "java/lang/invoke/MethodHandle" ∧ yX6_isKnown.cls ≠ "java/lang/invoke/VarHandle") ∧ (parseMethodDescriptor yX6_isKnown.desc).map (fun d => d.parameters.length) = some 0 := ⟨⟨by decide +kernel, by decide +kernel⟩, by decide +kernel⟩
section
variable {p : Program} {l : Launch} {e : Env} {R : Room} {s : State} {m : MethodId} {args : Array Value} {below : List Frame} {meth : Method} {c : Code} {G : Gam} {M0 : Mem}
theorem l_X6_isKnown_2 {M : Mem} {rv : Int32} (X : Cx p R s m args c G M0 cX6_isKnown yX6_isKnown.cls 2 1 23) (hr : meth.sig.returnType = (some .boolean)) (hlk : meth.locks = false) (hnm : meth.name = "isKnown") : ∀ {n : Nat} (v0 : Nat) (v1 : Int32), f_X6_isKnown_2 M n v0 v1 = some rv → Sg p l e R s m args below meth c (Qm below G args s (some (.int rv)) M0 M) G M0 2 2 [(0, .ref (gB G + v0)), (1, .int v1)] [] M := by
  intro n
  induction n with
  | zero => intro v0 v1 hf; exact (pk_none hf).elim
  | succ n ih =>
    intro v0 v1 hf
    rw [f_X6_isKnown_2] at hf
    refine s_iload_n X 1 dX6_isKnown_2 rfl rfl ?_
    refine s_aload_n X 0 dX6_isKnown_3 rfl rfl ?_
    obtain ⟨h1, hf⟩ := pk_chk hf
    refine s_getI X (ci := 6) (k := 10) rfl (Nat.le_of_ble_eq_true rfl) h1 wd532 (fun _ _ _ => rfl) dX6_isKnown_4 ?_
    have hs2 := pk_ite hf
    clear hf
    refine s_icmp_ge X (tgt := 26) dX6_isKnown_7 rfl (fun c3 => ?_) (fun c3 => ?_)
    · have hf := hs2.1 c3
      refine s_iconst X (v := (0 : Int32)) dX6_isKnown_26 rfl ?_
      cases hf
      exact s_zret X hr (bz_n (Or.inl rfl)) hlk dX6_isKnown_27
    · have hf := hs2.2 c3
      refine s_aload_n X 0 dX6_isKnown_10 rfl rfl ?_
      refine s_iload_n X 1 dX6_isKnown_11 rfl rfl ?_
      obtain ⟨r5, hc4, hf⟩ := pk_obd hf
      refine s_callV X (ci := 6) (k_X6_isLike G hc4) rfl h1 wd1289 wd1291 wd36 wd1292 wd135 cd_X6_isLike ⟨Nat.le_of_ble_eq_true rfl, Nat.le_of_ble_eq_true rfl⟩ (Nat.le_of_ble_eq_true rfl) dX6_isKnown_12 ?_
      have hs6 := pk_ite hf
      clear hf
      refine s_if_eq X (tgt := 20) dX6_isKnown_15 rfl (fun c7 => ?_) (fun c7 => ?_)
      · have hf := hs6.1 c7
        obtain ⟨x8, e9, hf⟩ := pk_bnd hf
        refine s_iinc X (vs' := [(0, .ref (gB G + v0)), (1, .int x8)]) 1 dX6_isKnown_20 rfl (v := x8) e9.symm (Nat.le_of_ble_eq_true rfl) [1, 0] rfl ?_
        refine s_goto X (tgt := 2) dX6_isKnown_23 rfl ?_
        exact ih _ _ hf
      · have hf := hs6.2 c7
        refine s_iconst X (v := (1 : Int32)) dX6_isKnown_18 rfl ?_
        cases hf
        exact s_zret X hr (bz_n (Or.inr rfl)) hlk dX6_isKnown_19
end
theorem k_X6_isKnown (G : Gam) {n : Nat} {o : Nat} {M : Mem} {rv : Int32} (hf : f_X6_isKnown n o M = some rv) : Kt yX6_isKnown cX6_isKnown 2 (some .boolean) 1 23 G [.ref (gB G + o)] M M (some (.int rv)) := by
  refine Kt.of (by decide) (Nat.le_of_ble_eq_true rfl) ?_
  intro p l e R s m args below meth c X hr hlk hnm
  refine s_drop [0] (vs' := [(0, .ref (gB G + o))]) rfl ?_
  rw [f_X6_isKnown] at hf
  refine s_iconst X (v := (0 : Int32)) dX6_isKnown_0 rfl ?_
  refine s_istore_n X (vs' := [(0, .ref (gB G + o)), (1, .int (0 : Int32))]) dX6_isKnown_1 rfl (Nat.le_of_ble_eq_true rfl) [1, 0] rfl ?_
  exact l_X6_isKnown_2 X hr hlk hnm _ _ hf
theorem dX6_asksNow_0 : decode cX6_asksNow 0 = .ok (.iconst 0, 1) := dk_3 (by decide +kernel)
theorem dX6_asksNow_1 : decode cX6_asksNow 1 = .ok (.istore_n 1, 1) := dk_60 (by decide +kernel)
theorem dX6_asksNow_2 : decode cX6_asksNow 2 = .ok (.iconst 0, 1) := dk_3 (by decide +kernel)
theorem dX6_asksNow_3 : decode cX6_asksNow 3 = .ok (.istore_n 2, 1) := dk_61 (by decide +kernel)
theorem dX6_asksNow_4 : decode cX6_asksNow 4 = .ok (.iload_n 2, 1) := dk_28 (by decide +kernel)
theorem dX6_asksNow_5 : decode cX6_asksNow 5 = .ok (.aload_n 0, 1) := dk_42 (by decide +kernel)
theorem dX6_asksNow_6 : decode cX6_asksNow 6 = .ok (.getfield 27, 3) := dk_180 (x := 0) (y := 27) (by decide +kernel) rfl
theorem dX6_asksNow_9 : decode cX6_asksNow 9 = .ok (.getfield 111, 3) := dk_180 (x := 0) (y := 111) (by decide +kernel) rfl
theorem dX6_asksNow_12 : decode cX6_asksNow 12 = .ok (.getfield 115, 3) := dk_180 (x := 0) (y := 115) (by decide +kernel) rfl
theorem dX6_asksNow_15 : decode cX6_asksNow 15 = .ok (.if_icmp .ge 68, 3) := dk_162 (x := 0) (y := 68) (by decide +kernel) rfl
theorem dX6_asksNow_18 : decode cX6_asksNow 18 = .ok (.aload_n 0, 1) := dk_42 (by decide +kernel)
theorem dX6_asksNow_19 : decode cX6_asksNow 19 = .ok (.getfield 27, 3) := dk_180 (x := 0) (y := 27) (by decide +kernel) rfl
theorem dX6_asksNow_22 : decode cX6_asksNow 22 = .ok (.getfield 79, 3) := dk_180 (x := 0) (y := 79) (by decide +kernel) rfl
theorem dX6_asksNow_25 : decode cX6_asksNow 25 = .ok (.iload_n 2, 1) := dk_28 (by decide +kernel)
theorem dX6_asksNow_26 : decode cX6_asksNow 26 = .ok (.aaload, 1) := dk_50 (by decide +kernel)
theorem dX6_asksNow_27 : decode cX6_asksNow 27 = .ok (.getfield 83, 3) := dk_180 (x := 0) (y := 83) (by decide +kernel) rfl
theorem dX6_asksNow_30 : decode cX6_asksNow 30 = .ok (.aload_n 0, 1) := dk_42 (by decide +kernel)
theorem dX6_asksNow_31 : decode cX6_asksNow 31 = .ok (.getfield 21, 3) := dk_180 (x := 0) (y := 21) (by decide +kernel) rfl
theorem dX6_asksNow_34 : decode cX6_asksNow 34 = .ok (.iload_n 2, 1) := dk_28 (by decide +kernel)
theorem dX6_asksNow_35 : decode cX6_asksNow 35 = .ok (.iaload, 1) := dk_46 (by decide +kernel)
theorem dX6_asksNow_36 : decode cX6_asksNow 36 = .ok (.if_icmp .ne 7, 3) := dk_160 (x := 0) (y := 7) (by decide +kernel) rfl
theorem dX6_asksNow_39 : decode cX6_asksNow 39 = .ok (.iconst 1, 1) := dk_4 (by decide +kernel)
theorem dX6_asksNow_40 : decode cX6_asksNow 40 = .ok (.goto 4, 3) := dk_167 (x := 0) (y := 4) (by decide +kernel) rfl
theorem dX6_asksNow_43 : decode cX6_asksNow 43 = .ok (.iconst 0, 1) := dk_3 (by decide +kernel)
theorem dX6_asksNow_44 : decode cX6_asksNow 44 = .ok (.istore_n 3, 1) := dk_62 (by decide +kernel)
theorem dX6_asksNow_45 : decode cX6_asksNow 45 = .ok (.aload_n 0, 1) := dk_42 (by decide +kernel)
theorem dX6_asksNow_46 : decode cX6_asksNow 46 = .ok (.getfield 88, 3) := dk_180 (x := 0) (y := 88) (by decide +kernel) rfl
theorem dX6_asksNow_49 : decode cX6_asksNow 49 = .ok (.iload_n 2, 1) := dk_28 (by decide +kernel)
theorem dX6_asksNow_50 : decode cX6_asksNow 50 = .ok (.invokestatic 120, 3) := dk_184 (x := 0) (y := 120) (by decide +kernel) rfl
theorem dX6_asksNow_53 : decode cX6_asksNow 53 = .ok (.ifCond .eq 24, 3) := dk_153 (x := 0) (y := 24) (by decide +kernel) rfl
theorem dX6_asksNow_56 : decode cX6_asksNow 56 = .ok (.iload_n 3, 1) := dk_29 (by decide +kernel)
theorem dX6_asksNow_57 : decode cX6_asksNow 57 = .ok (.ifCond .eq 20, 3) := dk_153 (x := 0) (y := 20) (by decide +kernel) rfl
theorem dX6_asksNow_60 : decode cX6_asksNow 60 = .ok (.aload_n 0, 1) := dk_42 (by decide +kernel)
theorem dX6_asksNow_61 : decode cX6_asksNow 61 = .ok (.getfield 27, 3) := dk_180 (x := 0) (y := 27) (by decide +kernel) rfl
theorem dX6_asksNow_64 : decode cX6_asksNow 64 = .ok (.iload_n 2, 1) := dk_28 (by decide +kernel)
theorem dX6_asksNow_65 : decode cX6_asksNow 65 = .ok (.invokevirtual 124, 3) := dk_182 (x := 0) (y := 124) (by decide +kernel) rfl
theorem dX6_asksNow_68 : decode cX6_asksNow 68 = .ok (.ifCond .eq 9, 3) := dk_153 (x := 0) (y := 9) (by decide +kernel) rfl
theorem dX6_asksNow_71 : decode cX6_asksNow 71 = .ok (.iload_n 1, 1) := dk_27 (by decide +kernel)
theorem dX6_asksNow_72 : decode cX6_asksNow 72 = .ok (.iconst 1, 1) := dk_4 (by decide +kernel)
theorem dX6_asksNow_73 : decode cX6_asksNow 73 = .ok (.iload_n 2, 1) := dk_28 (by decide +kernel)
theorem dX6_asksNow_74 : decode cX6_asksNow 74 = .ok (.ishl, 1) := dk_120 (by decide +kernel)
theorem dX6_asksNow_75 : decode cX6_asksNow 75 = .ok (.ior, 1) := dk_128 (by decide +kernel)
theorem dX6_asksNow_76 : decode cX6_asksNow 76 = .ok (.istore_n 1, 1) := dk_60 (by decide +kernel)
theorem dX6_asksNow_77 : decode cX6_asksNow 77 = .ok (.iinc 2 1, 3) := dk_132 (x := 2) (y := 1) (by decide +kernel) rfl
theorem dX6_asksNow_80 : decode cX6_asksNow 80 = .ok (.goto (-76), 3) := dk_167 (x := 255) (y := 180) (by decide +kernel) rfl
theorem dX6_asksNow_83 : decode cX6_asksNow 83 = .ok (.iload_n 1, 1) := dk_27 (by decide +kernel)
theorem dX6_asksNow_84 : decode cX6_asksNow 84 = .ok (.ireturn, 1) := dk_172 (by decide +kernel)
def f_X6_asksNow_44 (k_4 : Nat → Int32 → Int32 → Option Int32) (M : Mem) (n : Nat) (v0 : Nat) (v1 : Int32) (v2 : Int32) (u0 : Int32) : Option Int32 :=
    chk (isO M 6 v0) <|
    obd (f_X9_has (mI M v0 9) v2 M) fun r3 =>
    if r3 = 0 then (
      bnd (v2 + (1 : Int32)) fun x6 =>
      k_4 v0 v1 x6
      ) else (
      if u0 = 0 then (
        bnd (v2 + (1 : Int32)) fun x10 =>
        k_4 v0 v1 x10
        ) else (
        bnd (mR M v0 0) fun o12 =>
        chk (isO M 2 o12) <|
        obd (f_X2_mayAsk o12 v2 M) fun r16 =>
        if r16 = 0 then (
          bnd (v2 + (1 : Int32)) fun x19 =>
          k_4 v0 v1 x19
          ) else (
          bnd (v1 ||| ((1 : Int32) <<< (v2 &&& 31))) fun x21 =>
          bnd (v2 + (1 : Int32)) fun x23 =>
          k_4 v0 x21 x23
          )
        )
      )
def f_X6_asksNow_4 (M : Mem) : Nat → Nat → Int32 → Int32 → Option Int32
  | 0, _, _, _ => none
  | n + 1, v0, v1, v2 =>
    chk (isO M 6 v0) <|
    bnd (mR M v0 0) fun o2 =>
    chk (isO M 2 o2) <|
    bnd (mR M o2 0) fun o5 =>
    chk (isO M 7 o5) <|
    if (mI M o5 3) ≤ v2 then (
      some v1
      ) else (
      bnd (mR M v0 0) fun o10 =>
      chk (isO M 2 o10) <|
      bnd (mR M o10 2) fun o13 =>
      chk (isO M 102 o13) <|
      chk (inB v2 (mLn M o13)) <|
      bnd (mR M o13 (v2).toNatClampNeg) fun o17 =>
      chk (isO M 4 o17) <|
      bnd (mR M v0 4) fun o20 =>
      chk (isO M 100 o20) <|
      chk (inB v2 (mLn M o20)) <|
      if (mI M o17 1) = (mI M o20 (v2).toNatClampNeg) then (
        f_X6_asksNow_44 (f_X6_asksNow_4 M n) M n v0 v1 v2 (1 : Int32)
        ) else (
        f_X6_asksNow_44 (f_X6_asksNow_4 M n) M n v0 v1 v2 (0 : Int32)
        )
      )
def f_X6_asksNow (n : Nat) (o : Nat) (M : Mem) : Option Int32 :=
  f_X6_asksNow_4 M n o (0 : Int32) (0 : Int32)
theorem cd_X6_asksNow : (yX6_asksNow.cls ≠ "java/lang/invoke/MethodHandle" ∧ yX6_asksNow.cls ≠ "java/lang/invoke/VarHandle") ∧ (parseMethodDescriptor yX6_asksNow.desc).map (fun d => d.parameters.length) = some 0 := ⟨⟨by decide +kernel, by decide +kernel⟩, by decide +kernel⟩
section
variable {p : Program} {l : Launch} {e : Env} {R : Room} {s : State} {m : MethodId} {args : Array Value} {below : List Frame} {meth : Method} {c : Code} {G : Gam} {M0 : Mem}
theorem l_X6_asksNow_44 {k_4 : Nat → Int32 → Int32 → Option Int32} {M : Mem} {rv : Int32} {n : Nat} {v0 : Nat} {v1 : Int32} {v2 : Int32} {u0 : Int32} (X : Cx p R s m args c G M0 cX6_asksNow yX6_asksNow.cls 4 2 42) (hr : meth.sig.returnType = (some .int)) (hlk : meth.locks = false) (hnm : meth.name = "asksNow") (hk_4 : ∀ (v0 : Nat), ∀ (v1 : Int32), ∀ (v2 : Int32), k_4 v0 v1 v2 = some rv → Sg p l e R s m args below meth c (Qm below G args s (some (.int rv)) M0 M) G M0 4 4 [(0, .ref (gB G + v0)), (1, .int v1), (2, .int v2)] [] M) (hf : f_X6_asksNow_44 k_4 M n v0 v1 v2 u0 = some rv) : Sg p l e R s m args below meth c (Qm below G args s (some (.int rv)) M0 M) G M0 4 44 [(0, .ref (gB G + v0)), (1, .int v1), (2, .int v2)] [.int u0] M := by
  rw [f_X6_asksNow_44] at hf
  refine s_istore_n X (vs' := [(0, .ref (gB G + v0)), (1, .int v1), (2, .int v2), (3, .int u0)]) dX6_asksNow_44 rfl (Nat.le_of_ble_eq_true rfl) [1, 2, 3, 0] rfl ?_
  refine s_aload_n X 0 dX6_asksNow_45 rfl rfl ?_
  obtain ⟨h1, hf⟩ := pk_chk hf
  refine s_getI X (ci := 6) (k := 9) rfl (Nat.le_of_ble_eq_true rfl) h1 wd531 (fun _ _ _ => rfl) dX6_asksNow_46 ?_
  refine s_iload_n X 2 dX6_asksNow_49 rfl rfl ?_
  obtain ⟨r3, hc2, hf⟩ := pk_obd hf
  refine s_callSN X (k_X9_has G hc2) (host := "QuorumGate") ns_13 wd712 wd713 wd126 cd_X9_has ⟨Nat.le_of_ble_eq_true rfl, Nat.le_of_ble_eq_true rfl⟩ (Nat.le_of_ble_eq_true rfl) dX6_asksNow_50 ?_
  have hs4 := pk_ite hf
  clear hf
  refine s_if_eq X (tgt := 77) dX6_asksNow_53 rfl (fun c5 => ?_) (fun c5 => ?_)
  · have hf := hs4.1 c5
    obtain ⟨x6, e7, hf⟩ := pk_bnd hf
    refine s_iinc X (vs' := [(0, .ref (gB G + v0)), (1, .int v1), (2, .int x6), (3, .int u0)]) 2 dX6_asksNow_77 rfl (v := x6) e7.symm (Nat.le_of_ble_eq_true rfl) [1, 2, 0, 3] rfl ?_
    refine s_goto X (tgt := 4) dX6_asksNow_80 rfl ?_
    refine s_drop [0, 1, 2] (vs' := [(0, .ref (gB G + v0)), (1, .int v1), (2, .int x6)]) rfl ?_
    exact hk_4 _ _ _ hf
  · have hf := hs4.2 c5
    refine s_iload_n X 3 dX6_asksNow_56 rfl rfl ?_
    have hs8 := pk_ite hf
    clear hf
    refine s_if_eq X (tgt := 77) dX6_asksNow_57 rfl (fun c9 => ?_) (fun c9 => ?_)
    · have hf := hs8.1 c9
      obtain ⟨x10, e11, hf⟩ := pk_bnd hf
      refine s_iinc X (vs' := [(0, .ref (gB G + v0)), (1, .int v1), (2, .int x10), (3, .int u0)]) 2 dX6_asksNow_77 rfl (v := x10) e11.symm (Nat.le_of_ble_eq_true rfl) [1, 2, 0, 3] rfl ?_
      refine s_goto X (tgt := 4) dX6_asksNow_80 rfl ?_
      refine s_drop [0, 1, 2] (vs' := [(0, .ref (gB G + v0)), (1, .int v1), (2, .int x10)]) rfl ?_
      exact hk_4 _ _ _ hf
    · have hf := hs8.2 c9
      refine s_aload_n X 0 dX6_asksNow_60 rfl rfl ?_
      obtain ⟨o12, e13, hf⟩ := pk_bnd hf
      obtain ⟨h14, hf⟩ := pk_chk hf
      refine s_getR X (ci := 6) (k := 0) rfl (Nat.le_of_ble_eq_true rfl) h1 wd522 (fun _ _ _ => rfl) (e13 ▸ h14) dX6_asksNow_61 (e13 ▸ ?_)
      refine s_iload_n X 2 dX6_asksNow_64 rfl rfl ?_
      obtain ⟨r16, hc15, hf⟩ := pk_obd hf
      refine s_callV X (ci := 2) (k_X2_mayAsk G hc15) rfl h14 wd1300 wd932 wd933 wd934 wd130 cd_X2_mayAsk ⟨Nat.le_of_ble_eq_true rfl, Nat.le_of_ble_eq_true rfl⟩ (Nat.le_of_ble_eq_true rfl) dX6_asksNow_65 ?_
      have hs17 := pk_ite hf
      clear hf
      refine s_if_eq X (tgt := 77) dX6_asksNow_68 rfl (fun c18 => ?_) (fun c18 => ?_)
      · have hf := hs17.1 c18
        obtain ⟨x19, e20, hf⟩ := pk_bnd hf
        refine s_iinc X (vs' := [(0, .ref (gB G + v0)), (1, .int v1), (2, .int x19), (3, .int u0)]) 2 dX6_asksNow_77 rfl (v := x19) e20.symm (Nat.le_of_ble_eq_true rfl) [1, 2, 0, 3] rfl ?_
        refine s_goto X (tgt := 4) dX6_asksNow_80 rfl ?_
        refine s_drop [0, 1, 2] (vs' := [(0, .ref (gB G + v0)), (1, .int v1), (2, .int x19)]) rfl ?_
        exact hk_4 _ _ _ hf
      · have hf := hs17.2 c18
        refine s_iload_n X 1 dX6_asksNow_71 rfl rfl ?_
        refine s_iconst X (v := (1 : Int32)) dX6_asksNow_72 rfl ?_
        refine s_iload_n X 2 dX6_asksNow_73 rfl rfl ?_
        refine s_ishl X dX6_asksNow_74 ?_
        refine s_ior X dX6_asksNow_75 ?_
        obtain ⟨x21, e22, hf⟩ := pk_bnd hf
        refine s_nmI e22 ?_
        refine s_istore_n X (vs' := [(0, .ref (gB G + v0)), (1, .int x21), (2, .int v2), (3, .int u0)]) dX6_asksNow_76 rfl (Nat.le_of_ble_eq_true rfl) [1, 0, 2, 3] rfl ?_
        obtain ⟨x23, e24, hf⟩ := pk_bnd hf
        refine s_iinc X (vs' := [(0, .ref (gB G + v0)), (1, .int x21), (2, .int x23), (3, .int u0)]) 2 dX6_asksNow_77 rfl (v := x23) e24.symm (Nat.le_of_ble_eq_true rfl) [1, 2, 0, 3] rfl ?_
        refine s_goto X (tgt := 4) dX6_asksNow_80 rfl ?_
        refine s_drop [0, 1, 2] (vs' := [(0, .ref (gB G + v0)), (1, .int x21), (2, .int x23)]) rfl ?_
        exact hk_4 _ _ _ hf
theorem l_X6_asksNow_4 {M : Mem} {rv : Int32} (X : Cx p R s m args c G M0 cX6_asksNow yX6_asksNow.cls 4 2 42) (hr : meth.sig.returnType = (some .int)) (hlk : meth.locks = false) (hnm : meth.name = "asksNow") : ∀ {n : Nat} (v0 : Nat) (v1 : Int32) (v2 : Int32), f_X6_asksNow_4 M n v0 v1 v2 = some rv → Sg p l e R s m args below meth c (Qm below G args s (some (.int rv)) M0 M) G M0 4 4 [(0, .ref (gB G + v0)), (1, .int v1), (2, .int v2)] [] M := by
  intro n
  induction n with
  | zero => intro v0 v1 v2 hf; exact (pk_none hf).elim
  | succ n ih =>
    intro v0 v1 v2 hf
    rw [f_X6_asksNow_4] at hf
    refine s_iload_n X 2 dX6_asksNow_4 rfl rfl ?_
    refine s_aload_n X 0 dX6_asksNow_5 rfl rfl ?_
    obtain ⟨h1, hf⟩ := pk_chk hf
    obtain ⟨o2, e3, hf⟩ := pk_bnd hf
    obtain ⟨h4, hf⟩ := pk_chk hf
    refine s_getR X (ci := 6) (k := 0) rfl (Nat.le_of_ble_eq_true rfl) h1 wd522 (fun _ _ _ => rfl) (e3 ▸ h4) dX6_asksNow_6 (e3 ▸ ?_)
    obtain ⟨o5, e6, hf⟩ := pk_bnd hf
    obtain ⟨h7, hf⟩ := pk_chk hf
    refine s_getR X (ci := 2) (k := 0) rfl (Nat.le_of_ble_eq_true rfl) h4 wd418 (fun _ _ _ => rfl) (e6 ▸ h7) dX6_asksNow_9 (e6 ▸ ?_)
    refine s_getI X (ci := 7) (k := 3) rfl (Nat.le_of_ble_eq_true rfl) h7 wd168 (fun _ _ _ => rfl) dX6_asksNow_12 ?_
    have hs8 := pk_ite hf
    clear hf
    refine s_icmp_ge X (tgt := 83) dX6_asksNow_15 rfl (fun c9 => ?_) (fun c9 => ?_)
    · have hf := hs8.1 c9
      refine s_iload_n X 1 dX6_asksNow_83 rfl rfl ?_
      cases hf
      exact s_iret X hr hlk dX6_asksNow_84
    · have hf := hs8.2 c9
      refine s_aload_n X 0 dX6_asksNow_18 rfl rfl ?_
      obtain ⟨o10, e11, hf⟩ := pk_bnd hf
      obtain ⟨h12, hf⟩ := pk_chk hf
      refine s_getR X (ci := 6) (k := 0) rfl (Nat.le_of_ble_eq_true rfl) h1 wd522 (fun _ _ _ => rfl) (e11 ▸ h12) dX6_asksNow_19 (e11 ▸ ?_)
      obtain ⟨o13, e14, hf⟩ := pk_bnd hf
      obtain ⟨h15, hf⟩ := pk_chk hf
      refine s_getR X (ci := 2) (k := 2) rfl (Nat.le_of_ble_eq_true rfl) h12 wd424 (fun _ _ _ => rfl) (e14 ▸ h15) dX6_asksNow_22 (e14 ▸ ?_)
      refine s_iload_n X 2 dX6_asksNow_25 rfl rfl ?_
      obtain ⟨h16, hf⟩ := pk_chk hf
      obtain ⟨o17, e18, hf⟩ := pk_bnd hf
      obtain ⟨h19, hf⟩ := pk_chk hf
      refine s_aald X h15 h16 (e18 ▸ h19) dX6_asksNow_26 (e18 ▸ ?_)
      refine s_getI X (ci := 4) (k := 1) rfl (Nat.le_of_ble_eq_true rfl) h19 wd330 (fun _ _ _ => rfl) dX6_asksNow_27 ?_
      refine s_aload_n X 0 dX6_asksNow_30 rfl rfl ?_
      obtain ⟨o20, e21, hf⟩ := pk_bnd hf
      obtain ⟨h22, hf⟩ := pk_chk hf
      refine s_getR X (ci := 6) (k := 4) rfl (Nat.le_of_ble_eq_true rfl) h1 wd526 (fun _ _ _ => rfl) (e21 ▸ h22) dX6_asksNow_31 (e21 ▸ ?_)
      refine s_iload_n X 2 dX6_asksNow_34 rfl rfl ?_
      obtain ⟨h23, hf⟩ := pk_chk hf
      refine s_iald X h22 h23 dX6_asksNow_35 ?_
      have hs24 := pk_ite hf
      clear hf
      refine s_icmp_ne X (tgt := 43) dX6_asksNow_36 rfl (fun c25 => ?_) (fun c25 => ?_)
      · have hf := hs24.2 c25
        refine s_iconst X (v := (0 : Int32)) dX6_asksNow_43 rfl ?_
        exact l_X6_asksNow_44 X hr hlk hnm ih hf
      · have hf := hs24.1 c25
        refine s_iconst X (v := (1 : Int32)) dX6_asksNow_39 rfl ?_
        refine s_goto X (tgt := 44) dX6_asksNow_40 rfl ?_
        exact l_X6_asksNow_44 X hr hlk hnm ih hf
end
theorem k_X6_asksNow (G : Gam) {n : Nat} {o : Nat} {M : Mem} {rv : Int32} (hf : f_X6_asksNow n o M = some rv) : Kt yX6_asksNow cX6_asksNow 4 (some .int) 2 42 G [.ref (gB G + o)] M M (some (.int rv)) := by
  refine Kt.of (by decide) (Nat.le_of_ble_eq_true rfl) ?_
  intro p l e R s m args below meth c X hr hlk hnm
  refine s_drop [0] (vs' := [(0, .ref (gB G + o))]) rfl ?_
  rw [f_X6_asksNow] at hf
  refine s_iconst X (v := (0 : Int32)) dX6_asksNow_0 rfl ?_
  refine s_istore_n X (vs' := [(0, .ref (gB G + o)), (1, .int (0 : Int32))]) dX6_asksNow_1 rfl (Nat.le_of_ble_eq_true rfl) [1, 0] rfl ?_
  refine s_iconst X (v := (0 : Int32)) dX6_asksNow_2 rfl ?_
  refine s_istore_n X (vs' := [(0, .ref (gB G + o)), (1, .int (0 : Int32)), (2, .int (0 : Int32))]) dX6_asksNow_3 rfl (Nat.le_of_ble_eq_true rfl) [1, 2, 0] rfl ?_
  exact l_X6_asksNow_4 X hr hlk hnm _ _ _ hf
theorem dX6_meet_0 : decode cX6_meet 0 = .ok (.aload_n 0, 1) := dk_42 (by decide +kernel)
theorem dX6_meet_1 : decode cX6_meet 1 = .ok (.invokevirtual 128, 3) := dk_182 (x := 0) (y := 128) (by decide +kernel) rfl
theorem dX6_meet_4 : decode cX6_meet 4 = .ok (.aload_n 0, 1) := dk_42 (by decide +kernel)
theorem dX6_meet_5 : decode cX6_meet 5 = .ok (.invokevirtual 131, 3) := dk_182 (x := 0) (y := 131) (by decide +kernel) rfl
theorem dX6_meet_8 : decode cX6_meet 8 = .ok (.ifCond .eq 4, 3) := dk_153 (x := 0) (y := 4) (by decide +kernel) rfl
theorem dX6_meet_11 : decode cX6_meet 11 = .ok (.return_, 1) := dk_177 (by decide +kernel)
theorem dX6_meet_12 : decode cX6_meet 12 = .ok (.aload_n 0, 1) := dk_42 (by decide +kernel)
theorem dX6_meet_13 : decode cX6_meet 13 = .ok (.getfield 39, 3) := dk_180 (x := 0) (y := 39) (by decide +kernel) rfl
theorem dX6_meet_16 : decode cX6_meet 16 = .ok (.aload_n 0, 1) := dk_42 (by decide +kernel)
theorem dX6_meet_17 : decode cX6_meet 17 = .ok (.getfield 96, 3) := dk_180 (x := 0) (y := 96) (by decide +kernel) rfl
theorem dX6_meet_20 : decode cX6_meet 20 = .ok (.if_icmp .lt 9, 3) := dk_161 (x := 0) (y := 9) (by decide +kernel) rfl
theorem dX6_meet_23 : decode cX6_meet 23 = .ok (.aload_n 0, 1) := dk_42 (by decide +kernel)
theorem dX6_meet_24 : decode cX6_meet 24 = .ok (.iconst 1, 1) := dk_4 (by decide +kernel)
theorem dX6_meet_25 : decode cX6_meet 25 = .ok (.putfield 43, 3) := dk_181 (x := 0) (y := 43) (by decide +kernel) rfl
theorem dX6_meet_28 : decode cX6_meet 28 = .ok (.return_, 1) := dk_177 (by decide +kernel)
theorem dX6_meet_29 : decode cX6_meet 29 = .ok (.aload_n 0, 1) := dk_42 (by decide +kernel)
theorem dX6_meet_30 : decode cX6_meet 30 = .ok (.getfield 15, 3) := dk_180 (x := 0) (y := 15) (by decide +kernel) rfl
theorem dX6_meet_33 : decode cX6_meet 33 = .ok (.aload_n 0, 1) := dk_42 (by decide +kernel)
theorem dX6_meet_34 : decode cX6_meet 34 = .ok (.getfield 39, 3) := dk_180 (x := 0) (y := 39) (by decide +kernel) rfl
theorem dX6_meet_37 : decode cX6_meet 37 = .ok (.iload_n 1, 1) := dk_27 (by decide +kernel)
theorem dX6_meet_38 : decode cX6_meet 38 = .ok (.iastore, 1) := dk_79 (by decide +kernel)
theorem dX6_meet_39 : decode cX6_meet 39 = .ok (.aload_n 0, 1) := dk_42 (by decide +kernel)
theorem dX6_meet_40 : decode cX6_meet 40 = .ok (.getfield 18, 3) := dk_180 (x := 0) (y := 18) (by decide +kernel) rfl
theorem dX6_meet_43 : decode cX6_meet 43 = .ok (.aload_n 0, 1) := dk_42 (by decide +kernel)
theorem dX6_meet_44 : decode cX6_meet 44 = .ok (.getfield 39, 3) := dk_180 (x := 0) (y := 39) (by decide +kernel) rfl
theorem dX6_meet_47 : decode cX6_meet 47 = .ok (.aload_n 0, 1) := dk_42 (by decide +kernel)
theorem dX6_meet_48 : decode cX6_meet 48 = .ok (.getfield 27, 3) := dk_180 (x := 0) (y := 27) (by decide +kernel) rfl
theorem dX6_meet_51 : decode cX6_meet 51 = .ok (.getfield 135, 3) := dk_180 (x := 0) (y := 135) (by decide +kernel) rfl
theorem dX6_meet_54 : decode cX6_meet 54 = .ok (.iastore, 1) := dk_79 (by decide +kernel)
theorem dX6_meet_55 : decode cX6_meet 55 = .ok (.aload_n 0, 1) := dk_42 (by decide +kernel)
theorem dX6_meet_56 : decode cX6_meet 56 = .ok (.aload_n 0, 1) := dk_42 (by decide +kernel)
theorem dX6_meet_57 : decode cX6_meet 57 = .ok (.getfield 108, 3) := dk_180 (x := 0) (y := 108) (by decide +kernel) rfl
theorem dX6_meet_60 : decode cX6_meet 60 = .ok (.iload_n 1, 1) := dk_27 (by decide +kernel)
theorem dX6_meet_61 : decode cX6_meet 61 = .ok (.invokestatic 138, 3) := dk_184 (x := 0) (y := 138) (by decide +kernel) rfl
theorem dX6_meet_64 : decode cX6_meet 64 = .ok (.putfield 108, 3) := dk_181 (x := 0) (y := 108) (by decide +kernel) rfl
theorem dX6_meet_67 : decode cX6_meet 67 = .ok (.aload_n 0, 1) := dk_42 (by decide +kernel)
theorem dX6_meet_68 : decode cX6_meet 68 = .ok (.aload_n 0, 1) := dk_42 (by decide +kernel)
theorem dX6_meet_69 : decode cX6_meet 69 = .ok (.getfield 105, 3) := dk_180 (x := 0) (y := 105) (by decide +kernel) rfl
theorem dX6_meet_72 : decode cX6_meet 72 = .ok (.aload_n 0, 1) := dk_42 (by decide +kernel)
theorem dX6_meet_73 : decode cX6_meet 73 = .ok (.getfield 27, 3) := dk_180 (x := 0) (y := 27) (by decide +kernel) rfl
theorem dX6_meet_76 : decode cX6_meet 76 = .ok (.getfield 141, 3) := dk_180 (x := 0) (y := 141) (by decide +kernel) rfl
theorem dX6_meet_79 : decode cX6_meet 79 = .ok (.getfield 145, 3) := dk_180 (x := 0) (y := 145) (by decide +kernel) rfl
theorem dX6_meet_82 : decode cX6_meet 82 = .ok (.invokestatic 138, 3) := dk_184 (x := 0) (y := 138) (by decide +kernel) rfl
theorem dX6_meet_85 : decode cX6_meet 85 = .ok (.putfield 105, 3) := dk_181 (x := 0) (y := 105) (by decide +kernel) rfl
theorem dX6_meet_88 : decode cX6_meet 88 = .ok (.aload_n 0, 1) := dk_42 (by decide +kernel)
theorem dX6_meet_89 : decode cX6_meet 89 = .ok (.dup, 1) := dk_89 (by decide +kernel)
theorem dX6_meet_90 : decode cX6_meet 90 = .ok (.getfield 99, 3) := dk_180 (x := 0) (y := 99) (by decide +kernel) rfl
theorem dX6_meet_93 : decode cX6_meet 93 = .ok (.aload_n 0, 1) := dk_42 (by decide +kernel)
theorem dX6_meet_94 : decode cX6_meet 94 = .ok (.getfield 27, 3) := dk_180 (x := 0) (y := 27) (by decide +kernel) rfl
theorem dX6_meet_97 : decode cX6_meet 97 = .ok (.getfield 135, 3) := dk_180 (x := 0) (y := 135) (by decide +kernel) rfl
theorem dX6_meet_100 : decode cX6_meet 100 = .ok (.invokestatic 59, 3) := dk_184 (x := 0) (y := 59) (by decide +kernel) rfl
theorem dX6_meet_103 : decode cX6_meet 103 = .ok (.iconst 2, 1) := dk_5 (by decide +kernel)
theorem dX6_meet_104 : decode cX6_meet 104 = .ok (.if_icmp .lt 7, 3) := dk_161 (x := 0) (y := 7) (by decide +kernel) rfl
theorem dX6_meet_107 : decode cX6_meet 107 = .ok (.iconst 1, 1) := dk_4 (by decide +kernel)
theorem dX6_meet_108 : decode cX6_meet 108 = .ok (.goto 4, 3) := dk_167 (x := 0) (y := 4) (by decide +kernel) rfl
theorem dX6_meet_111 : decode cX6_meet 111 = .ok (.iconst 0, 1) := dk_3 (by decide +kernel)
theorem dX6_meet_112 : decode cX6_meet 112 = .ok (.iadd, 1) := dk_96 (by decide +kernel)
theorem dX6_meet_113 : decode cX6_meet 113 = .ok (.putfield 99, 3) := dk_181 (x := 0) (y := 99) (by decide +kernel) rfl
theorem dX6_meet_116 : decode cX6_meet 116 = .ok (.aload_n 0, 1) := dk_42 (by decide +kernel)
theorem dX6_meet_117 : decode cX6_meet 117 = .ok (.getfield 27, 3) := dk_180 (x := 0) (y := 27) (by decide +kernel) rfl
theorem dX6_meet_120 : decode cX6_meet 120 = .ok (.getfield 150, 3) := dk_180 (x := 0) (y := 150) (by decide +kernel) rfl
theorem dX6_meet_123 : decode cX6_meet 123 = .ok (.ifCond .eq 24, 3) := dk_153 (x := 0) (y := 24) (by decide +kernel) rfl
theorem dX6_meet_126 : decode cX6_meet 126 = .ok (.aload_n 0, 1) := dk_42 (by decide +kernel)
theorem dX6_meet_127 : decode cX6_meet 127 = .ok (.getfield 27, 3) := dk_180 (x := 0) (y := 27) (by decide +kernel) rfl
theorem dX6_meet_130 : decode cX6_meet 130 = .ok (.invokevirtual 50, 3) := dk_182 (x := 0) (y := 50) (by decide +kernel) rfl
theorem dX6_meet_133 : decode cX6_meet 133 = .ok (.ifCond .ne 14, 3) := dk_154 (x := 0) (y := 14) (by decide +kernel) rfl
theorem dX6_meet_136 : decode cX6_meet 136 = .ok (.aload_n 0, 1) := dk_42 (by decide +kernel)
theorem dX6_meet_137 : decode cX6_meet 137 = .ok (.invokevirtual 56, 3) := dk_182 (x := 0) (y := 56) (by decide +kernel) rfl
theorem dX6_meet_140 : decode cX6_meet 140 = .ok (.ifCond .ne 7, 3) := dk_154 (x := 0) (y := 7) (by decide +kernel) rfl
theorem dX6_meet_143 : decode cX6_meet 143 = .ok (.iconst 1, 1) := dk_4 (by decide +kernel)
theorem dX6_meet_144 : decode cX6_meet 144 = .ok (.goto 4, 3) := dk_167 (x := 0) (y := 4) (by decide +kernel) rfl
theorem dX6_meet_147 : decode cX6_meet 147 = .ok (.iconst 0, 1) := dk_3 (by decide +kernel)
theorem dX6_meet_148 : decode cX6_meet 148 = .ok (.istore_n 2, 1) := dk_61 (by decide +kernel)
theorem dX6_meet_149 : decode cX6_meet 149 = .ok (.aload_n 0, 1) := dk_42 (by decide +kernel)
theorem dX6_meet_150 : decode cX6_meet 150 = .ok (.dup, 1) := dk_89 (by decide +kernel)
theorem dX6_meet_151 : decode cX6_meet 151 = .ok (.getfield 102, 3) := dk_180 (x := 0) (y := 102) (by decide +kernel) rfl
theorem dX6_meet_154 : decode cX6_meet 154 = .ok (.iload_n 2, 1) := dk_28 (by decide +kernel)
theorem dX6_meet_155 : decode cX6_meet 155 = .ok (.ifCond .eq 7, 3) := dk_153 (x := 0) (y := 7) (by decide +kernel) rfl
theorem dX6_meet_158 : decode cX6_meet 158 = .ok (.iconst 1, 1) := dk_4 (by decide +kernel)
theorem dX6_meet_159 : decode cX6_meet 159 = .ok (.goto 4, 3) := dk_167 (x := 0) (y := 4) (by decide +kernel) rfl
theorem dX6_meet_162 : decode cX6_meet 162 = .ok (.iconst 0, 1) := dk_3 (by decide +kernel)
theorem dX6_meet_163 : decode cX6_meet 163 = .ok (.iadd, 1) := dk_96 (by decide +kernel)
theorem dX6_meet_164 : decode cX6_meet 164 = .ok (.putfield 102, 3) := dk_181 (x := 0) (y := 102) (by decide +kernel) rfl
theorem dX6_meet_167 : decode cX6_meet 167 = .ok (.aload_n 0, 1) := dk_42 (by decide +kernel)
theorem dX6_meet_168 : decode cX6_meet 168 = .ok (.dup, 1) := dk_89 (by decide +kernel)
theorem dX6_meet_169 : decode cX6_meet 169 = .ok (.getfield 39, 3) := dk_180 (x := 0) (y := 39) (by decide +kernel) rfl
theorem dX6_meet_172 : decode cX6_meet 172 = .ok (.iconst 1, 1) := dk_4 (by decide +kernel)
theorem dX6_meet_173 : decode cX6_meet 173 = .ok (.iadd, 1) := dk_96 (by decide +kernel)
theorem dX6_meet_174 : decode cX6_meet 174 = .ok (.putfield 39, 3) := dk_181 (x := 0) (y := 39) (by decide +kernel) rfl
theorem dX6_meet_177 : decode cX6_meet 177 = .ok (.aload_n 0, 1) := dk_42 (by decide +kernel)
theorem dX6_meet_178 : decode cX6_meet 178 = .ok (.getfield 9, 3) := dk_180 (x := 0) (y := 9) (by decide +kernel) rfl
theorem dX6_meet_181 : decode cX6_meet 181 = .ok (.aload_n 0, 1) := dk_42 (by decide +kernel)
theorem dX6_meet_182 : decode cX6_meet 182 = .ok (.getfield 39, 3) := dk_180 (x := 0) (y := 39) (by decide +kernel) rfl
theorem dX6_meet_185 : decode cX6_meet 185 = .ok (.aload_n 0, 1) := dk_42 (by decide +kernel)
theorem dX6_meet_186 : decode cX6_meet 186 = .ok (.getfield 153, 3) := dk_180 (x := 0) (y := 153) (by decide +kernel) rfl
theorem dX6_meet_189 : decode cX6_meet 189 = .ok (.iastore, 1) := dk_79 (by decide +kernel)
theorem dX6_meet_190 : decode cX6_meet 190 = .ok (.return_, 1) := dk_177 (by decide +kernel)
def f_X6_meet_163 (n : Nat) (v0 : Nat) (u0 : Int32) (u1 : Int32) (u2 : Nat) (M : Mem) : Option Mem :=
    chk (isO M 6 u2) <|
    bnd (sI M u2 12 (u1 + u0)) fun M2 =>
    chk (isO M2 6 v0) <|
    bnd (sI M2 v0 10 ((mI M2 v0 10) + (1 : Int32))) fun M6 =>
    bnd (mR M6 v0 1) fun o10 =>
    chk (isO M6 100 o10) <|
    chk (inB (mI M6 v0 10) (mLn M6 o10)) <|
    bnd (sI M6 o10 ((mI M6 v0 10)).toNatClampNeg (mI M6 v0 6)) fun M14 =>
    some M14
def f_X6_meet_148 (n : Nat) (v0 : Nat) (u0 : Int32) (M : Mem) : Option Mem :=
    chk (isO M 6 v0) <|
    if u0 = 0 then (
      f_X6_meet_163 n v0 (0 : Int32) (mI M v0 12) v0 M
      ) else (
      f_X6_meet_163 n v0 (1 : Int32) (mI M v0 12) v0 M
      )
def f_X6_meet_112 (n : Nat) (v0 : Nat) (u0 : Int32) (u1 : Int32) (u2 : Nat) (M : Mem) : Option Mem :=
    chk (isO M 6 u2) <|
    bnd (sI M u2 11 (u1 + u0)) fun M2 =>
    chk (isO M2 6 v0) <|
    bnd (mR M2 v0 0) fun o6 =>
    chk (isO M2 2 o6) <|
    if (mI M2 o6 8) = 0 then (
      f_X6_meet_148 n v0 (0 : Int32) M2
      ) else (
      bnd (mR M2 v0 0) fun o11 =>
      chk (isO M2 2 o11) <|
      obd (f_X2_countMoves n o11 M2) fun r15 =>
      if r15 = 0 then (
        obd (f_X6_asksNow n v0 M2) fun r19 =>
        if r19 = 0 then (
          f_X6_meet_148 n v0 (1 : Int32) M2
          ) else (
          f_X6_meet_148 n v0 (0 : Int32) M2
          )
        ) else (
        f_X6_meet_148 n v0 (0 : Int32) M2
        )
      )
def f_X6_meet (n : Nat) (o : Nat) (a1 : Int32) (M : Mem) : Option Mem :=
  chk (isO M 6 o) <|
  obd (f_X6_save n o M) fun M3 =>
  chk (isO M3 6 o) <|
  obd (f_X6_isKnown n o M3) fun r6 =>
  if r6 = 0 then (
    if (mI M3 o 10) < (mI M3 o 8) then (
      bnd (mR M3 o 2) fun o11 =>
      chk (isO M3 100 o11) <|
      chk (inB (mI M3 o 10) (mLn M3 o11)) <|
      bnd (sI M3 o11 ((mI M3 o 10)).toNatClampNeg a1) fun M15 =>
      bnd (mR M15 o 3) fun o19 =>
      chk (isO M15 100 o19) <|
      bnd (mR M15 o 0) fun o22 =>
      chk (isO M15 2 o22) <|
      chk (inB (mI M15 o 10) (mLn M15 o19)) <|
      bnd (sI M15 o19 ((mI M15 o 10)).toNatClampNeg (mI M15 o22 7)) fun M26 =>
      bnd (sI M26 o 14 (if (mI M26 o 14) < a1 then a1 else (mI M26 o 14))) fun M32 =>
      bnd (mR M32 o 0) fun o38 =>
      chk (isO M32 2 o38) <|
      bnd (mR M32 o38 1) fun o41 =>
      chk (isO M32 5 o41) <|
      bnd (sI M32 o 13 (if (mI M32 o 13) < (mI M32 o41 10) then (mI M32 o41 10) else (mI M32 o 13))) fun M44 =>
      bnd (mR M44 o 0) fun o52 =>
      chk (isO M44 2 o52) <|
      obd (f_J6_bitCount_0f7a4 (mI M44 o52 7) M44) fun r56 =>
      if r56 < (2 : Int32) then (
        f_X6_meet_112 n o (0 : Int32) (mI M44 o 11) o M44
        ) else (
        f_X6_meet_112 n o (1 : Int32) (mI M44 o 11) o M44
        )
      ) else (
      chk (bz (1 : Int32)) <|
      bnd (sI M3 o 15 (1 : Int32)) fun M59 =>
      some M59
      )
    ) else (
    some M3
    )
theorem cd_X6_meet : (yX6_meet.cls ≠ "java/lang/invoke/MethodHandle" ∧ yX6_meet.cls ≠ "java/lang/invoke/VarHandle") ∧ (parseMethodDescriptor yX6_meet.desc).map (fun d => d.parameters.length) = some 1 := ⟨⟨by decide +kernel, by decide +kernel⟩, by decide +kernel⟩
section
variable {p : Program} {l : Launch} {e : Env} {R : Room} {s : State} {m : MethodId} {args : Array Value} {below : List Frame} {meth : Method} {c : Code} {G : Gam} {M0 : Mem}
theorem l_X6_meet_163 {rv : Mem} {n : Nat} {v0 : Nat} {u0 : Int32} {u1 : Int32} {u2 : Nat} {M : Mem} (X : Cx p R s m args c G M0 cX6_meet yX6_meet.cls 3 5 117) (hr : meth.sig.returnType = none) (hlk : meth.locks = false) (hnm : meth.name = "meet") (hf : f_X6_meet_163 n v0 u0 u1 u2 M = some rv) : Sg p l e R s m args below meth c (Qm below G args s none M0 rv) G M0 3 163 [(0, .ref (gB G + v0))] [.int u0, .int u1, .ref (gB G + u2)] M := by
  rw [f_X6_meet_163] at hf
  refine s_iadd X dX6_meet_163 ?_
  obtain ⟨h1, hf⟩ := pk_chk hf
  obtain ⟨M2, e3, hf⟩ := pk_bnd hf
  refine s_putI X (ci := 6) (k := 12) rfl (Nat.le_of_ble_eq_true rfl) h1 wd534 (fun _ _ _ => rfl) rfl rfl e3 dX6_meet_164 ?_
  have h4 := io_sI e3 h1
  refine s_aload_n X 0 dX6_meet_167 rfl rfl ?_
  refine s_dup X dX6_meet_168 rfl ?_
  obtain ⟨h5, hf⟩ := pk_chk hf
  refine s_getI X (ci := 6) (k := 10) rfl (Nat.le_of_ble_eq_true rfl) h5 wd532 (fun _ _ _ => rfl) dX6_meet_169 ?_
  refine s_iconst X (v := (1 : Int32)) dX6_meet_172 rfl ?_
  refine s_iadd X dX6_meet_173 ?_
  obtain ⟨M6, e7, hf⟩ := pk_bnd hf
  refine s_putI X (ci := 6) (k := 10) rfl (Nat.le_of_ble_eq_true rfl) h5 wd532 (fun _ _ _ => rfl) rfl rfl e7 dX6_meet_174 ?_
  have h8 := io_sI e7 h4
  have h9 := io_sI e7 h5
  refine s_aload_n X 0 dX6_meet_177 rfl rfl ?_
  obtain ⟨o10, e11, hf⟩ := pk_bnd hf
  obtain ⟨h12, hf⟩ := pk_chk hf
  refine s_getR X (ci := 6) (k := 1) rfl (Nat.le_of_ble_eq_true rfl) h9 wd523 (fun _ _ _ => rfl) (e11 ▸ h12) dX6_meet_178 (e11 ▸ ?_)
  refine s_aload_n X 0 dX6_meet_181 rfl rfl ?_
  refine s_getI X (ci := 6) (k := 10) rfl (Nat.le_of_ble_eq_true rfl) h9 wd532 (fun _ _ _ => rfl) dX6_meet_182 ?_
  refine s_aload_n X 0 dX6_meet_185 rfl rfl ?_
  refine s_getI X (ci := 6) (k := 6) rfl (Nat.le_of_ble_eq_true rfl) h9 wd528 (fun _ _ _ => rfl) dX6_meet_186 ?_
  obtain ⟨h13, hf⟩ := pk_chk hf
  obtain ⟨M14, e15, hf⟩ := pk_bnd hf
  refine s_iast X h12 h13 e15 dX6_meet_189 ?_
  have h16 := io_sI e15 h8
  have h17 := io_sI e15 h9
  have h18 := io_sI e15 h12
  cases hf
  exact s_vret X hr hlk dX6_meet_190
theorem l_X6_meet_148 {rv : Mem} {n : Nat} {v0 : Nat} {u0 : Int32} {M : Mem} (X : Cx p R s m args c G M0 cX6_meet yX6_meet.cls 3 5 117) (hr : meth.sig.returnType = none) (hlk : meth.locks = false) (hnm : meth.name = "meet") (hf : f_X6_meet_148 n v0 u0 M = some rv) : Sg p l e R s m args below meth c (Qm below G args s none M0 rv) G M0 3 148 [(0, .ref (gB G + v0))] [.int u0] M := by
  rw [f_X6_meet_148] at hf
  refine s_istore_n X (vs' := [(0, .ref (gB G + v0)), (2, .int u0)]) dX6_meet_148 rfl (Nat.le_of_ble_eq_true rfl) [1, 0] rfl ?_
  refine s_aload_n X 0 dX6_meet_149 rfl rfl ?_
  refine s_dup X dX6_meet_150 rfl ?_
  obtain ⟨h1, hf⟩ := pk_chk hf
  refine s_getI X (ci := 6) (k := 12) rfl (Nat.le_of_ble_eq_true rfl) h1 wd534 (fun _ _ _ => rfl) dX6_meet_151 ?_
  refine s_iload_n X 1 dX6_meet_154 rfl rfl ?_
  have hs2 := pk_ite hf
  clear hf
  refine s_if_eq X (tgt := 162) dX6_meet_155 rfl (fun c3 => ?_) (fun c3 => ?_)
  · have hf := hs2.1 c3
    refine s_iconst X (v := (0 : Int32)) dX6_meet_162 rfl ?_
    refine s_drop [0] (vs' := [(0, .ref (gB G + v0))]) rfl ?_
    exact l_X6_meet_163 X hr hlk hnm hf
  · have hf := hs2.2 c3
    refine s_iconst X (v := (1 : Int32)) dX6_meet_158 rfl ?_
    refine s_goto X (tgt := 163) dX6_meet_159 rfl ?_
    refine s_drop [0] (vs' := [(0, .ref (gB G + v0))]) rfl ?_
    exact l_X6_meet_163 X hr hlk hnm hf
theorem l_X6_meet_112 {rv : Mem} {n : Nat} {v0 : Nat} {u0 : Int32} {u1 : Int32} {u2 : Nat} {M : Mem} (X : Cx p R s m args c G M0 cX6_meet yX6_meet.cls 3 5 117) (hr : meth.sig.returnType = none) (hlk : meth.locks = false) (hnm : meth.name = "meet") (hf : f_X6_meet_112 n v0 u0 u1 u2 M = some rv) : Sg p l e R s m args below meth c (Qm below G args s none M0 rv) G M0 3 112 [(0, .ref (gB G + v0))] [.int u0, .int u1, .ref (gB G + u2)] M := by
  rw [f_X6_meet_112] at hf
  refine s_iadd X dX6_meet_112 ?_
  obtain ⟨h1, hf⟩ := pk_chk hf
  obtain ⟨M2, e3, hf⟩ := pk_bnd hf
  refine s_putI X (ci := 6) (k := 11) rfl (Nat.le_of_ble_eq_true rfl) h1 wd533 (fun _ _ _ => rfl) rfl rfl e3 dX6_meet_113 ?_
  have h4 := io_sI e3 h1
  refine s_aload_n X 0 dX6_meet_116 rfl rfl ?_
  obtain ⟨h5, hf⟩ := pk_chk hf
  obtain ⟨o6, e7, hf⟩ := pk_bnd hf
  obtain ⟨h8, hf⟩ := pk_chk hf
  refine s_getR X (ci := 6) (k := 0) rfl (Nat.le_of_ble_eq_true rfl) h5 wd522 (fun _ _ _ => rfl) (e7 ▸ h8) dX6_meet_117 (e7 ▸ ?_)
  refine s_getI X (ci := 2) (k := 8) rfl (Nat.le_of_ble_eq_true rfl) h8 wd439 (fun _ _ _ => rfl) dX6_meet_120 ?_
  have hs9 := pk_ite hf
  clear hf
  refine s_if_eq X (tgt := 147) dX6_meet_123 rfl (fun c10 => ?_) (fun c10 => ?_)
  · have hf := hs9.1 c10
    refine s_iconst X (v := (0 : Int32)) dX6_meet_147 rfl ?_
    exact l_X6_meet_148 X hr hlk hnm hf
  · have hf := hs9.2 c10
    refine s_aload_n X 0 dX6_meet_126 rfl rfl ?_
    obtain ⟨o11, e12, hf⟩ := pk_bnd hf
    obtain ⟨h13, hf⟩ := pk_chk hf
    refine s_getR X (ci := 6) (k := 0) rfl (Nat.le_of_ble_eq_true rfl) h5 wd522 (fun _ _ _ => rfl) (e12 ▸ h13) dX6_meet_127 (e12 ▸ ?_)
    obtain ⟨r15, hc14, hf⟩ := pk_obd hf
    refine s_callV X (ci := 2) (k_X2_countMoves G hc14) rfl h13 wd1295 wd1161 wd1162 wd1163 wd130 cd_X2_countMoves ⟨Nat.le_of_ble_eq_true rfl, Nat.le_of_ble_eq_true rfl⟩ (Nat.le_of_ble_eq_true rfl) dX6_meet_130 ?_
    have hs16 := pk_ite hf
    clear hf
    refine s_if_ne X (tgt := 147) dX6_meet_133 rfl (fun c17 => ?_) (fun c17 => ?_)
    · have hf := hs16.2 c17
      refine s_iconst X (v := (0 : Int32)) dX6_meet_147 rfl ?_
      exact l_X6_meet_148 X hr hlk hnm hf
    · have hf := hs16.1 c17
      refine s_aload_n X 0 dX6_meet_136 rfl rfl ?_
      obtain ⟨r19, hc18, hf⟩ := pk_obd hf
      refine s_callV X (ci := 6) (k_X6_asksNow G hc18) rfl h5 wd1296 wd1298 wd37 wd1299 wd135 cd_X6_asksNow ⟨Nat.le_of_ble_eq_true rfl, Nat.le_of_ble_eq_true rfl⟩ (Nat.le_of_ble_eq_true rfl) dX6_meet_137 ?_
      have hs20 := pk_ite hf
      clear hf
      refine s_if_ne X (tgt := 147) dX6_meet_140 rfl (fun c21 => ?_) (fun c21 => ?_)
      · have hf := hs20.2 c21
        refine s_iconst X (v := (0 : Int32)) dX6_meet_147 rfl ?_
        exact l_X6_meet_148 X hr hlk hnm hf
      · have hf := hs20.1 c21
        refine s_iconst X (v := (1 : Int32)) dX6_meet_143 rfl ?_
        refine s_goto X (tgt := 148) dX6_meet_144 rfl ?_
        exact l_X6_meet_148 X hr hlk hnm hf
end
theorem k_X6_meet (G : Gam) {n : Nat} {o : Nat} {a1 : Int32} {M : Mem} {rv : Mem} (hf : f_X6_meet n o a1 M = some rv) : Kt yX6_meet cX6_meet 3 none 5 117 G [.ref (gB G + o), .int a1] M rv none := by
  refine Kt.of (by decide) (Nat.le_of_ble_eq_true rfl) ?_
  intro p l e R s m args below meth c X hr hlk hnm
  refine s_drop [0, 1] (vs' := [(0, .ref (gB G + o)), (1, .int a1)]) rfl ?_
  rw [f_X6_meet] at hf
  refine s_aload_n X 0 dX6_meet_0 rfl rfl ?_
  obtain ⟨h1, hf⟩ := pk_chk hf
  obtain ⟨M3, hc2, hf⟩ := pk_obd hf
  refine s_callV X (ci := 6) (k_X6_save G hc2) rfl h1 wd1267 wd1269 wd31 wd1270 wd135 cd_X6_save ⟨Nat.le_of_ble_eq_true rfl, Nat.le_of_ble_eq_true rfl⟩ (Nat.le_of_ble_eq_true rfl) dX6_meet_1 ?_
  refine s_aload_n X 0 dX6_meet_4 rfl rfl ?_
  obtain ⟨h4, hf⟩ := pk_chk hf
  obtain ⟨r6, hc5, hf⟩ := pk_obd hf
  refine s_callV X (ci := 6) (k_X6_isKnown G hc5) rfl h4 wd1285 wd1287 wd35 wd1288 wd135 cd_X6_isKnown ⟨Nat.le_of_ble_eq_true rfl, Nat.le_of_ble_eq_true rfl⟩ (Nat.le_of_ble_eq_true rfl) dX6_meet_5 ?_
  have hs7 := pk_ite hf
  clear hf
  refine s_if_eq X (tgt := 12) dX6_meet_8 rfl (fun c8 => ?_) (fun c8 => ?_)
  · have hf := hs7.1 c8
    refine s_aload_n X 0 dX6_meet_12 rfl rfl ?_
    refine s_getI X (ci := 6) (k := 10) rfl (Nat.le_of_ble_eq_true rfl) h4 wd532 (fun _ _ _ => rfl) dX6_meet_13 ?_
    refine s_aload_n X 0 dX6_meet_16 rfl rfl ?_
    refine s_getI X (ci := 6) (k := 8) rfl (Nat.le_of_ble_eq_true rfl) h4 wd530 (fun _ _ _ => rfl) dX6_meet_17 ?_
    have hs9 := pk_ite hf
    clear hf
    refine s_icmp_lt X (tgt := 29) dX6_meet_20 rfl (fun c10 => ?_) (fun c10 => ?_)
    · have hf := hs9.1 c10
      refine s_aload_n X 0 dX6_meet_29 rfl rfl ?_
      obtain ⟨o11, e12, hf⟩ := pk_bnd hf
      obtain ⟨h13, hf⟩ := pk_chk hf
      refine s_getR X (ci := 6) (k := 2) rfl (Nat.le_of_ble_eq_true rfl) h4 wd524 (fun _ _ _ => rfl) (e12 ▸ h13) dX6_meet_30 (e12 ▸ ?_)
      refine s_aload_n X 0 dX6_meet_33 rfl rfl ?_
      refine s_getI X (ci := 6) (k := 10) rfl (Nat.le_of_ble_eq_true rfl) h4 wd532 (fun _ _ _ => rfl) dX6_meet_34 ?_
      refine s_iload_n X 1 dX6_meet_37 rfl rfl ?_
      obtain ⟨h14, hf⟩ := pk_chk hf
      obtain ⟨M15, e16, hf⟩ := pk_bnd hf
      refine s_iast X h13 h14 e16 dX6_meet_38 ?_
      have h17 := io_sI e16 h4
      have h18 := io_sI e16 h13
      refine s_aload_n X 0 dX6_meet_39 rfl rfl ?_
      obtain ⟨o19, e20, hf⟩ := pk_bnd hf
      obtain ⟨h21, hf⟩ := pk_chk hf
      refine s_getR X (ci := 6) (k := 3) rfl (Nat.le_of_ble_eq_true rfl) h17 wd525 (fun _ _ _ => rfl) (e20 ▸ h21) dX6_meet_40 (e20 ▸ ?_)
      refine s_aload_n X 0 dX6_meet_43 rfl rfl ?_
      refine s_getI X (ci := 6) (k := 10) rfl (Nat.le_of_ble_eq_true rfl) h17 wd532 (fun _ _ _ => rfl) dX6_meet_44 ?_
      refine s_aload_n X 0 dX6_meet_47 rfl rfl ?_
      obtain ⟨o22, e23, hf⟩ := pk_bnd hf
      obtain ⟨h24, hf⟩ := pk_chk hf
      refine s_getR X (ci := 6) (k := 0) rfl (Nat.le_of_ble_eq_true rfl) h17 wd522 (fun _ _ _ => rfl) (e23 ▸ h24) dX6_meet_48 (e23 ▸ ?_)
      refine s_getI X (ci := 2) (k := 7) rfl (Nat.le_of_ble_eq_true rfl) h24 wd436 (fun _ _ _ => rfl) dX6_meet_51 ?_
      obtain ⟨h25, hf⟩ := pk_chk hf
      obtain ⟨M26, e27, hf⟩ := pk_bnd hf
      refine s_iast X h21 h25 e27 dX6_meet_54 ?_
      have h28 := io_sI e27 h17
      have h29 := io_sI e27 h18
      have h30 := io_sI e27 h21
      have h31 := io_sI e27 h24
      refine s_aload_n X 0 dX6_meet_55 rfl rfl ?_
      refine s_aload_n X 0 dX6_meet_56 rfl rfl ?_
      refine s_getI X (ci := 6) (k := 14) rfl (Nat.le_of_ble_eq_true rfl) h28 wd536 (fun _ _ _ => rfl) dX6_meet_57 ?_
      refine s_iload_n X 1 dX6_meet_60 rfl rfl ?_
      refine s_mmax X wd1293 wd896 wd142 wd897 ⟨Nat.le_of_ble_eq_true rfl, Nat.le_of_ble_eq_true rfl⟩ dX6_meet_61 ?_
      obtain ⟨M32, e33, hf⟩ := pk_bnd hf
      refine s_putI X (ci := 6) (k := 14) rfl (Nat.le_of_ble_eq_true rfl) h28 wd536 (fun _ _ _ => rfl) rfl rfl e33 dX6_meet_64 ?_
      have h34 := io_sI e33 h28
      have h35 := io_sI e33 h29
      have h36 := io_sI e33 h30
      have h37 := io_sI e33 h31
      refine s_aload_n X 0 dX6_meet_67 rfl rfl ?_
      refine s_aload_n X 0 dX6_meet_68 rfl rfl ?_
      refine s_getI X (ci := 6) (k := 13) rfl (Nat.le_of_ble_eq_true rfl) h34 wd535 (fun _ _ _ => rfl) dX6_meet_69 ?_
      refine s_aload_n X 0 dX6_meet_72 rfl rfl ?_
      obtain ⟨o38, e39, hf⟩ := pk_bnd hf
      obtain ⟨h40, hf⟩ := pk_chk hf
      refine s_getR X (ci := 6) (k := 0) rfl (Nat.le_of_ble_eq_true rfl) h34 wd522 (fun _ _ _ => rfl) (e39 ▸ h40) dX6_meet_73 (e39 ▸ ?_)
      obtain ⟨o41, e42, hf⟩ := pk_bnd hf
      obtain ⟨h43, hf⟩ := pk_chk hf
      refine s_getR X (ci := 2) (k := 1) rfl (Nat.le_of_ble_eq_true rfl) h40 wd421 (fun _ _ _ => rfl) (e42 ▸ h43) dX6_meet_76 (e42 ▸ ?_)
      refine s_getI X (ci := 5) (k := 10) rfl (Nat.le_of_ble_eq_true rfl) h43 wd268 (fun _ _ _ => rfl) dX6_meet_79 ?_
      refine s_mmax X wd1293 wd896 wd142 wd897 ⟨Nat.le_of_ble_eq_true rfl, Nat.le_of_ble_eq_true rfl⟩ dX6_meet_82 ?_
      obtain ⟨M44, e45, hf⟩ := pk_bnd hf
      refine s_putI X (ci := 6) (k := 13) rfl (Nat.le_of_ble_eq_true rfl) h34 wd535 (fun _ _ _ => rfl) rfl rfl e45 dX6_meet_85 ?_
      have h46 := io_sI e45 h34
      have h47 := io_sI e45 h35
      have h48 := io_sI e45 h36
      have h49 := io_sI e45 h37
      have h50 := io_sI e45 h40
      have h51 := io_sI e45 h43
      refine s_aload_n X 0 dX6_meet_88 rfl rfl ?_
      refine s_dup X dX6_meet_89 rfl ?_
      refine s_getI X (ci := 6) (k := 11) rfl (Nat.le_of_ble_eq_true rfl) h46 wd533 (fun _ _ _ => rfl) dX6_meet_90 ?_
      refine s_aload_n X 0 dX6_meet_93 rfl rfl ?_
      obtain ⟨o52, e53, hf⟩ := pk_bnd hf
      obtain ⟨h54, hf⟩ := pk_chk hf
      refine s_getR X (ci := 6) (k := 0) rfl (Nat.le_of_ble_eq_true rfl) h46 wd522 (fun _ _ _ => rfl) (e53 ▸ h54) dX6_meet_94 (e53 ▸ ?_)
      refine s_getI X (ci := 2) (k := 7) rfl (Nat.le_of_ble_eq_true rfl) h54 wd436 (fun _ _ _ => rfl) dX6_meet_97 ?_
      obtain ⟨r56, hc55, hf⟩ := pk_obd hf
      refine s_callS X (k_J6_bitCount_0f7a4 G hc55) wd1294 wd831 wd832 wd141 cd_J6_bitCount_0f7a4 ⟨Nat.le_of_ble_eq_true rfl, Nat.le_of_ble_eq_true rfl⟩ (Nat.le_of_ble_eq_true rfl) dX6_meet_100 ?_
      refine s_iconst X (v := (2 : Int32)) dX6_meet_103 rfl ?_
      have hs57 := pk_ite hf
      clear hf
      refine s_icmp_lt X (tgt := 111) dX6_meet_104 rfl (fun c58 => ?_) (fun c58 => ?_)
      · have hf := hs57.1 c58
        refine s_iconst X (v := (0 : Int32)) dX6_meet_111 rfl ?_
        refine s_drop [0] (vs' := [(0, .ref (gB G + o))]) rfl ?_
        exact l_X6_meet_112 X hr hlk hnm hf
      · have hf := hs57.2 c58
        refine s_iconst X (v := (1 : Int32)) dX6_meet_107 rfl ?_
        refine s_goto X (tgt := 112) dX6_meet_108 rfl ?_
        refine s_drop [0] (vs' := [(0, .ref (gB G + o))]) rfl ?_
        exact l_X6_meet_112 X hr hlk hnm hf
    · have hf := hs9.2 c10
      refine s_aload_n X 0 dX6_meet_23 rfl rfl ?_
      refine s_iconst X (v := (1 : Int32)) dX6_meet_24 rfl ?_
      obtain ⟨h61, hf⟩ := pk_chk hf
      obtain ⟨M59, e60, hf⟩ := pk_bnd hf
      refine s_putZ X (ci := 6) (k := 15) rfl (Nat.le_of_ble_eq_true rfl) h4 wd537 (fun _ _ _ => rfl) rfl (bz_n h61) (bz_f h61) rfl e60 dX6_meet_25 ?_
      have h62 := io_sI e60 h4
      cases hf
      exact s_vret X hr hlk dX6_meet_28
  · have hf := hs7.2 c8
    cases hf
    exact s_vret X hr hlk dX6_meet_11
theorem dX6_pull_0 : decode cX6_pull 0 = .ok (.aload_n 0, 1) := dk_42 (by decide +kernel)
theorem dX6_pull_1 : decode cX6_pull 1 = .ok (.getfield 221, 3) := dk_180 (x := 0) (y := 221) (by decide +kernel) rfl
theorem dX6_pull_4 : decode cX6_pull 4 = .ok (.aload_n 0, 1) := dk_42 (by decide +kernel)
theorem dX6_pull_5 : decode cX6_pull 5 = .ok (.getfield 153, 3) := dk_180 (x := 0) (y := 153) (by decide +kernel) rfl
theorem dX6_pull_8 : decode cX6_pull 8 = .ok (.if_icmp .ge 15, 3) := dk_162 (x := 0) (y := 15) (by decide +kernel) rfl
theorem dX6_pull_11 : decode cX6_pull 11 = .ok (.aload_n 0, 1) := dk_42 (by decide +kernel)
theorem dX6_pull_12 : decode cX6_pull 12 = .ok (.getfield 24, 3) := dk_180 (x := 0) (y := 24) (by decide +kernel) rfl
theorem dX6_pull_15 : decode cX6_pull 15 = .ok (.aload_n 0, 1) := dk_42 (by decide +kernel)
theorem dX6_pull_16 : decode cX6_pull 16 = .ok (.getfield 221, 3) := dk_180 (x := 0) (y := 221) (by decide +kernel) rfl
theorem dX6_pull_19 : decode cX6_pull 19 = .ok (.iaload, 1) := dk_46 (by decide +kernel)
theorem dX6_pull_20 : decode cX6_pull 20 = .ok (.goto 4, 3) := dk_167 (x := 0) (y := 4) (by decide +kernel) rfl
theorem dX6_pull_23 : decode cX6_pull 23 = .ok (.iconst 0, 1) := dk_3 (by decide +kernel)
theorem dX6_pull_24 : decode cX6_pull 24 = .ok (.istore_n 1, 1) := dk_60 (by decide +kernel)
theorem dX6_pull_25 : decode cX6_pull 25 = .ok (.aload_n 0, 1) := dk_42 (by decide +kernel)
theorem dX6_pull_26 : decode cX6_pull 26 = .ok (.dup, 1) := dk_89 (by decide +kernel)
theorem dX6_pull_27 : decode cX6_pull 27 = .ok (.getfield 221, 3) := dk_180 (x := 0) (y := 221) (by decide +kernel) rfl
theorem dX6_pull_30 : decode cX6_pull 30 = .ok (.iconst 1, 1) := dk_4 (by decide +kernel)
theorem dX6_pull_31 : decode cX6_pull 31 = .ok (.iadd, 1) := dk_96 (by decide +kernel)
theorem dX6_pull_32 : decode cX6_pull 32 = .ok (.putfield 221, 3) := dk_181 (x := 0) (y := 221) (by decide +kernel) rfl
theorem dX6_pull_35 : decode cX6_pull 35 = .ok (.iload_n 1, 1) := dk_27 (by decide +kernel)
theorem dX6_pull_36 : decode cX6_pull 36 = .ok (.ireturn, 1) := dk_172 (by decide +kernel)
def f_X6_pull (o : Nat) (M : Mem) : Option (Int32 × Mem) :=
  chk (isO M 6 o) <|
  if (mI M o 6) ≤ (mI M o 7) then (
    bnd (sI M o 7 ((mI M o 7) + (1 : Int32))) fun M4 =>
    some ((0 : Int32), M4)
    ) else (
    bnd (mR M o 5) fun o7 =>
    chk (isO M 100 o7) <|
    chk (inB (mI M o 7) (mLn M o7)) <|
    bnd (mI M o7 ((mI M o 7)).toNatClampNeg) fun x11 =>
    bnd (sI M o 7 ((mI M o 7) + (1 : Int32))) fun M13 =>
    some (x11, M13)
    )
theorem cd_X6_pull : (yX6_pull.cls ≠ "java/lang/invoke/MethodHandle" ∧ yX6_pull.cls ≠ "java/lang/invoke/VarHandle") ∧ (parseMethodDescriptor yX6_pull.desc).map (fun d => d.parameters.length) = some 0 := ⟨⟨by decide +kernel, by decide +kernel⟩, by decide +kernel⟩
theorem k_X6_pull (G : Gam) {o : Nat} {M : Mem} {rv : (Int32 × Mem)} (hf : f_X6_pull o M = some rv) : Kt yX6_pull cX6_pull 2 (some .int) 0 0 G [.ref (gB G + o)] M rv.2 (some (.int rv.1)) := by
  refine Kt.of (by decide) (Nat.le_of_ble_eq_true rfl) ?_
  intro p l e R s m args below meth c X hr hlk hnm
  refine s_drop [0] (vs' := [(0, .ref (gB G + o))]) rfl ?_
  rw [f_X6_pull] at hf
  refine s_aload_n X 0 dX6_pull_0 rfl rfl ?_
  obtain ⟨h1, hf⟩ := pk_chk hf
  refine s_getI X (ci := 6) (k := 7) rfl (Nat.le_of_ble_eq_true rfl) h1 wd529 (fun _ _ _ => rfl) dX6_pull_1 ?_
  refine s_aload_n X 0 dX6_pull_4 rfl rfl ?_
  refine s_getI X (ci := 6) (k := 6) rfl (Nat.le_of_ble_eq_true rfl) h1 wd528 (fun _ _ _ => rfl) dX6_pull_5 ?_
  have hs2 := pk_ite hf
  clear hf
  refine s_icmp_ge X (tgt := 23) dX6_pull_8 rfl (fun c3 => ?_) (fun c3 => ?_)
  · have hf := hs2.1 c3
    refine s_iconst X (v := (0 : Int32)) dX6_pull_23 rfl ?_
    refine s_istore_n X (vs' := [(0, .ref (gB G + o)), (1, .int (0 : Int32))]) dX6_pull_24 rfl (Nat.le_of_ble_eq_true rfl) [1, 0] rfl ?_
    refine s_aload_n X 0 dX6_pull_25 rfl rfl ?_
    refine s_dup X dX6_pull_26 rfl ?_
    refine s_getI X (ci := 6) (k := 7) rfl (Nat.le_of_ble_eq_true rfl) h1 wd529 (fun _ _ _ => rfl) dX6_pull_27 ?_
    refine s_iconst X (v := (1 : Int32)) dX6_pull_30 rfl ?_
    refine s_iadd X dX6_pull_31 ?_
    obtain ⟨M4, e5, hf⟩ := pk_bnd hf
    refine s_putI X (ci := 6) (k := 7) rfl (Nat.le_of_ble_eq_true rfl) h1 wd529 (fun _ _ _ => rfl) rfl rfl e5 dX6_pull_32 ?_
    have h6 := io_sI e5 h1
    refine s_iload_n X 1 dX6_pull_35 rfl rfl ?_
    cases hf
    exact s_iret X hr hlk dX6_pull_36
  · have hf := hs2.2 c3
    refine s_aload_n X 0 dX6_pull_11 rfl rfl ?_
    obtain ⟨o7, e8, hf⟩ := pk_bnd hf
    obtain ⟨h9, hf⟩ := pk_chk hf
    refine s_getR X (ci := 6) (k := 5) rfl (Nat.le_of_ble_eq_true rfl) h1 wd527 (fun _ _ _ => rfl) (e8 ▸ h9) dX6_pull_12 (e8 ▸ ?_)
    refine s_aload_n X 0 dX6_pull_15 rfl rfl ?_
    refine s_getI X (ci := 6) (k := 7) rfl (Nat.le_of_ble_eq_true rfl) h1 wd529 (fun _ _ _ => rfl) dX6_pull_16 ?_
    obtain ⟨h10, hf⟩ := pk_chk hf
    refine s_iald X h9 h10 dX6_pull_19 ?_
    refine s_goto X (tgt := 24) dX6_pull_20 rfl ?_
    obtain ⟨x11, e12, hf⟩ := pk_bnd hf
    refine s_nmI e12 ?_
    refine s_istore_n X (vs' := [(0, .ref (gB G + o)), (1, .int x11)]) dX6_pull_24 rfl (Nat.le_of_ble_eq_true rfl) [1, 0] rfl ?_
    refine s_aload_n X 0 dX6_pull_25 rfl rfl ?_
    refine s_dup X dX6_pull_26 rfl ?_
    refine s_getI X (ci := 6) (k := 7) rfl (Nat.le_of_ble_eq_true rfl) h1 wd529 (fun _ _ _ => rfl) dX6_pull_27 ?_
    refine s_iconst X (v := (1 : Int32)) dX6_pull_30 rfl ?_
    refine s_iadd X dX6_pull_31 ?_
    obtain ⟨M13, e14, hf⟩ := pk_bnd hf
    refine s_putI X (ci := 6) (k := 7) rfl (Nat.le_of_ble_eq_true rfl) h1 wd529 (fun _ _ _ => rfl) rfl rfl e14 dX6_pull_32 ?_
    have h15 := io_sI e14 h1
    have h16 := io_sI e14 h9
    refine s_iload_n X 1 dX6_pull_35 rfl rfl ?_
    cases hf
    exact s_iret X hr hlk dX6_pull_36
theorem dX6_recallPlace_0 : decode cX6_recallPlace 0 = .ok (.aload_n 1, 1) := dk_43 (by decide +kernel)
theorem dX6_recallPlace_1 : decode cX6_recallPlace 1 = .ok (.aload_n 0, 1) := dk_42 (by decide +kernel)
theorem dX6_recallPlace_2 : decode cX6_recallPlace 2 = .ok (.invokevirtual 224, 3) := dk_182 (x := 0) (y := 224) (by decide +kernel) rfl
theorem dX6_recallPlace_5 : decode cX6_recallPlace 5 = .ok (.putfield 173, 3) := dk_181 (x := 0) (y := 173) (by decide +kernel) rfl
theorem dX6_recallPlace_8 : decode cX6_recallPlace 8 = .ok (.aload_n 1, 1) := dk_43 (by decide +kernel)
theorem dX6_recallPlace_9 : decode cX6_recallPlace 9 = .ok (.aload_n 0, 1) := dk_42 (by decide +kernel)
theorem dX6_recallPlace_10 : decode cX6_recallPlace 10 = .ok (.invokevirtual 224, 3) := dk_182 (x := 0) (y := 224) (by decide +kernel) rfl
theorem dX6_recallPlace_13 : decode cX6_recallPlace 13 = .ok (.putfield 83, 3) := dk_181 (x := 0) (y := 83) (by decide +kernel) rfl
theorem dX6_recallPlace_16 : decode cX6_recallPlace 16 = .ok (.aload_n 1, 1) := dk_43 (by decide +kernel)
theorem dX6_recallPlace_17 : decode cX6_recallPlace 17 = .ok (.aload_n 0, 1) := dk_42 (by decide +kernel)
theorem dX6_recallPlace_18 : decode cX6_recallPlace 18 = .ok (.invokevirtual 224, 3) := dk_182 (x := 0) (y := 224) (by decide +kernel) rfl
theorem dX6_recallPlace_21 : decode cX6_recallPlace 21 = .ok (.putfield 176, 3) := dk_181 (x := 0) (y := 176) (by decide +kernel) rfl
theorem dX6_recallPlace_24 : decode cX6_recallPlace 24 = .ok (.aload_n 1, 1) := dk_43 (by decide +kernel)
theorem dX6_recallPlace_25 : decode cX6_recallPlace 25 = .ok (.aload_n 0, 1) := dk_42 (by decide +kernel)
theorem dX6_recallPlace_26 : decode cX6_recallPlace 26 = .ok (.invokevirtual 224, 3) := dk_182 (x := 0) (y := 224) (by decide +kernel) rfl
theorem dX6_recallPlace_29 : decode cX6_recallPlace 29 = .ok (.putfield 179, 3) := dk_181 (x := 0) (y := 179) (by decide +kernel) rfl
theorem dX6_recallPlace_32 : decode cX6_recallPlace 32 = .ok (.aload_n 1, 1) := dk_43 (by decide +kernel)
theorem dX6_recallPlace_33 : decode cX6_recallPlace 33 = .ok (.aload_n 0, 1) := dk_42 (by decide +kernel)
theorem dX6_recallPlace_34 : decode cX6_recallPlace 34 = .ok (.invokevirtual 224, 3) := dk_182 (x := 0) (y := 224) (by decide +kernel) rfl
theorem dX6_recallPlace_37 : decode cX6_recallPlace 37 = .ok (.putfield 182, 3) := dk_181 (x := 0) (y := 182) (by decide +kernel) rfl
theorem dX6_recallPlace_40 : decode cX6_recallPlace 40 = .ok (.aload_n 1, 1) := dk_43 (by decide +kernel)
theorem dX6_recallPlace_41 : decode cX6_recallPlace 41 = .ok (.aload_n 0, 1) := dk_42 (by decide +kernel)
theorem dX6_recallPlace_42 : decode cX6_recallPlace 42 = .ok (.invokevirtual 224, 3) := dk_182 (x := 0) (y := 224) (by decide +kernel) rfl
theorem dX6_recallPlace_45 : decode cX6_recallPlace 45 = .ok (.putfield 185, 3) := dk_181 (x := 0) (y := 185) (by decide +kernel) rfl
theorem dX6_recallPlace_48 : decode cX6_recallPlace 48 = .ok (.aload_n 1, 1) := dk_43 (by decide +kernel)
theorem dX6_recallPlace_49 : decode cX6_recallPlace 49 = .ok (.aload_n 0, 1) := dk_42 (by decide +kernel)
theorem dX6_recallPlace_50 : decode cX6_recallPlace 50 = .ok (.invokevirtual 224, 3) := dk_182 (x := 0) (y := 224) (by decide +kernel) rfl
theorem dX6_recallPlace_53 : decode cX6_recallPlace 53 = .ok (.putfield 188, 3) := dk_181 (x := 0) (y := 188) (by decide +kernel) rfl
theorem dX6_recallPlace_56 : decode cX6_recallPlace 56 = .ok (.aload_n 1, 1) := dk_43 (by decide +kernel)
theorem dX6_recallPlace_57 : decode cX6_recallPlace 57 = .ok (.aload_n 0, 1) := dk_42 (by decide +kernel)
theorem dX6_recallPlace_58 : decode cX6_recallPlace 58 = .ok (.invokevirtual 224, 3) := dk_182 (x := 0) (y := 224) (by decide +kernel) rfl
theorem dX6_recallPlace_61 : decode cX6_recallPlace 61 = .ok (.putfield 191, 3) := dk_181 (x := 0) (y := 191) (by decide +kernel) rfl
theorem dX6_recallPlace_64 : decode cX6_recallPlace 64 = .ok (.aload_n 1, 1) := dk_43 (by decide +kernel)
theorem dX6_recallPlace_65 : decode cX6_recallPlace 65 = .ok (.aload_n 0, 1) := dk_42 (by decide +kernel)
theorem dX6_recallPlace_66 : decode cX6_recallPlace 66 = .ok (.invokevirtual 224, 3) := dk_182 (x := 0) (y := 224) (by decide +kernel) rfl
theorem dX6_recallPlace_69 : decode cX6_recallPlace 69 = .ok (.ifCond .eq 7, 3) := dk_153 (x := 0) (y := 7) (by decide +kernel) rfl
theorem dX6_recallPlace_72 : decode cX6_recallPlace 72 = .ok (.iconst 1, 1) := dk_4 (by decide +kernel)
theorem dX6_recallPlace_73 : decode cX6_recallPlace 73 = .ok (.goto 4, 3) := dk_167 (x := 0) (y := 4) (by decide +kernel) rfl
theorem dX6_recallPlace_76 : decode cX6_recallPlace 76 = .ok (.iconst 0, 1) := dk_3 (by decide +kernel)
theorem dX6_recallPlace_77 : decode cX6_recallPlace 77 = .ok (.putfield 194, 3) := dk_181 (x := 0) (y := 194) (by decide +kernel) rfl
theorem dX6_recallPlace_80 : decode cX6_recallPlace 80 = .ok (.aload_n 1, 1) := dk_43 (by decide +kernel)
theorem dX6_recallPlace_81 : decode cX6_recallPlace 81 = .ok (.aload_n 0, 1) := dk_42 (by decide +kernel)
theorem dX6_recallPlace_82 : decode cX6_recallPlace 82 = .ok (.invokevirtual 224, 3) := dk_182 (x := 0) (y := 224) (by decide +kernel) rfl
theorem dX6_recallPlace_85 : decode cX6_recallPlace 85 = .ok (.putfield 197, 3) := dk_181 (x := 0) (y := 197) (by decide +kernel) rfl
theorem dX6_recallPlace_88 : decode cX6_recallPlace 88 = .ok (.iconst 0, 1) := dk_3 (by decide +kernel)
theorem dX6_recallPlace_89 : decode cX6_recallPlace 89 = .ok (.istore_n 2, 1) := dk_61 (by decide +kernel)
theorem dX6_recallPlace_90 : decode cX6_recallPlace 90 = .ok (.iload_n 2, 1) := dk_28 (by decide +kernel)
theorem dX6_recallPlace_91 : decode cX6_recallPlace 91 = .ok (.bipush 16, 2) := dk_16 (x := 16) (by decide +kernel) rfl
theorem dX6_recallPlace_93 : decode cX6_recallPlace 93 = .ok (.if_icmp .ge 30, 3) := dk_162 (x := 0) (y := 30) (by decide +kernel) rfl
theorem dX6_recallPlace_96 : decode cX6_recallPlace 96 = .ok (.aload_n 1, 1) := dk_43 (by decide +kernel)
theorem dX6_recallPlace_97 : decode cX6_recallPlace 97 = .ok (.getfield 197, 3) := dk_180 (x := 0) (y := 197) (by decide +kernel) rfl
theorem dX6_recallPlace_100 : decode cX6_recallPlace 100 = .ok (.iload_n 2, 1) := dk_28 (by decide +kernel)
theorem dX6_recallPlace_101 : decode cX6_recallPlace 101 = .ok (.invokestatic 120, 3) := dk_184 (x := 0) (y := 120) (by decide +kernel) rfl
theorem dX6_recallPlace_104 : decode cX6_recallPlace 104 = .ok (.ifCond .eq 13, 3) := dk_153 (x := 0) (y := 13) (by decide +kernel) rfl
theorem dX6_recallPlace_107 : decode cX6_recallPlace 107 = .ok (.aload_n 1, 1) := dk_43 (by decide +kernel)
theorem dX6_recallPlace_108 : decode cX6_recallPlace 108 = .ok (.getfield 200, 3) := dk_180 (x := 0) (y := 200) (by decide +kernel) rfl
theorem dX6_recallPlace_111 : decode cX6_recallPlace 111 = .ok (.iload_n 2, 1) := dk_28 (by decide +kernel)
theorem dX6_recallPlace_112 : decode cX6_recallPlace 112 = .ok (.aload_n 0, 1) := dk_42 (by decide +kernel)
theorem dX6_recallPlace_113 : decode cX6_recallPlace 113 = .ok (.invokevirtual 224, 3) := dk_182 (x := 0) (y := 224) (by decide +kernel) rfl
theorem dX6_recallPlace_116 : decode cX6_recallPlace 116 = .ok (.iastore, 1) := dk_79 (by decide +kernel)
theorem dX6_recallPlace_117 : decode cX6_recallPlace 117 = .ok (.iinc 2 1, 3) := dk_132 (x := 2) (y := 1) (by decide +kernel) rfl
theorem dX6_recallPlace_120 : decode cX6_recallPlace 120 = .ok (.goto (-30), 3) := dk_167 (x := 255) (y := 226) (by decide +kernel) rfl
theorem dX6_recallPlace_123 : decode cX6_recallPlace 123 = .ok (.return_, 1) := dk_177 (by decide +kernel)
def f_X6_recallPlace_90 : Nat → Nat → Nat → Int32 → Mem → Option Mem
  | 0, _, _, _, _ => none
  | n + 1, v0, v1, v2, M =>
    if (16 : Int32) ≤ v2 then (
      some M
      ) else (
      chk (isO M 4 v1) <|
      obd (f_X9_has (mI M v1 9) v2 M) fun r5 =>
      if r5 = 0 then (
        bnd (v2 + (1 : Int32)) fun x8 =>
        f_X6_recallPlace_90 n v0 v1 x8 M
        ) else (
        bnd (mR M v1 10) fun o10 =>
        chk (isO M 100 o10) <|
        chk (isO M 6 v0) <|
        obd2 (f_X6_pull v0 M) fun r15 M16 =>
        chk (isO M16 100 o10) <|
        chk (inB v2 (mLn M16 o10)) <|
        bnd (sI M16 o10 (v2).toNatClampNeg r15) fun M19 =>
        bnd (v2 + (1 : Int32)) fun x22 =>
        f_X6_recallPlace_90 n v0 v1 x22 M19
        )
      )
def f_X6_recallPlace_77 (n : Nat) (v0 : Nat) (v1 : Nat) (u0 : Int32) (u1 : Nat) (M : Mem) : Option Mem :=
    chk (isO M 4 u1) <|
    chk (bz u0) <|
    bnd (sI M u1 8 u0) fun M2 =>
    chk (isO M2 6 v0) <|
    obd2 (f_X6_pull v0 M2) fun r8 M9 =>
    chk (isO M9 4 v1) <|
    bnd (sI M9 v1 9 r8) fun M11 =>
    f_X6_recallPlace_90 n v0 v1 (0 : Int32) M11
def f_X6_recallPlace (n : Nat) (o : Nat) (a1 : Nat) (M : Mem) : Option Mem :=
  chk (isO M 6 o) <|
  obd2 (f_X6_pull o M) fun r3 M4 =>
  chk (isO M4 4 a1) <|
  bnd (sI M4 a1 0 r3) fun M6 =>
  chk (isO M6 6 o) <|
  obd2 (f_X6_pull o M6) fun r11 M12 =>
  chk (isO M12 4 a1) <|
  bnd (sI M12 a1 1 r11) fun M14 =>
  chk (isO M14 6 o) <|
  obd2 (f_X6_pull o M14) fun r19 M20 =>
  chk (isO M20 4 a1) <|
  bnd (sI M20 a1 2 r19) fun M22 =>
  chk (isO M22 6 o) <|
  obd2 (f_X6_pull o M22) fun r27 M28 =>
  chk (isO M28 4 a1) <|
  bnd (sI M28 a1 3 r27) fun M30 =>
  chk (isO M30 6 o) <|
  obd2 (f_X6_pull o M30) fun r35 M36 =>
  chk (isO M36 4 a1) <|
  bnd (sI M36 a1 4 r35) fun M38 =>
  chk (isO M38 6 o) <|
  obd2 (f_X6_pull o M38) fun r43 M44 =>
  chk (isO M44 4 a1) <|
  bnd (sI M44 a1 5 r43) fun M46 =>
  chk (isO M46 6 o) <|
  obd2 (f_X6_pull o M46) fun r51 M52 =>
  chk (isO M52 4 a1) <|
  bnd (sI M52 a1 6 r51) fun M54 =>
  chk (isO M54 6 o) <|
  obd2 (f_X6_pull o M54) fun r59 M60 =>
  chk (isO M60 4 a1) <|
  bnd (sI M60 a1 7 r59) fun M62 =>
  chk (isO M62 6 o) <|
  obd2 (f_X6_pull o M62) fun r67 M68 =>
  if r67 = 0 then (
    f_X6_recallPlace_77 n o a1 (0 : Int32) a1 M68
    ) else (
    f_X6_recallPlace_77 n o a1 (1 : Int32) a1 M68
    )
theorem cd_X6_recallPlace : (yX6_recallPlace.cls ≠ "java/lang/invoke/MethodHandle" ∧ yX6_recallPlace.cls ≠ "java/lang/invoke/VarHandle") ∧ (parseMethodDescriptor yX6_recallPlace.desc).map (fun d => d.parameters.length) = some 1 := ⟨⟨by decide +kernel, by decide +kernel⟩, by decide +kernel⟩
section
variable {p : Program} {l : Launch} {e : Env} {R : Room} {s : State} {m : MethodId} {args : Array Value} {below : List Frame} {meth : Method} {c : Code} {G : Gam} {M0 : Mem}
theorem l_X6_recallPlace_90 {rv : Mem} (X : Cx p R s m args c G M0 cX6_recallPlace yX6_recallPlace.cls 3 1 21) (hr : meth.sig.returnType = none) (hlk : meth.locks = false) (hnm : meth.name = "recallPlace") : ∀ {n : Nat} (v0 : Nat) (v1 : Nat) (v2 : Int32) (M : Mem), f_X6_recallPlace_90 n v0 v1 v2 M = some rv → Sg p l e R s m args below meth c (Qm below G args s none M0 rv) G M0 3 90 [(0, .ref (gB G + v0)), (1, .ref (gB G + v1)), (2, .int v2)] [] M := by
  intro n
  induction n with
  | zero => intro v0 v1 v2 M hf; exact (pk_none hf).elim
  | succ n ih =>
    intro v0 v1 v2 M hf
    rw [f_X6_recallPlace_90] at hf
    refine s_iload_n X 2 dX6_recallPlace_90 rfl rfl ?_
    refine s_bipush X (v := (16 : Int32)) dX6_recallPlace_91 rfl ?_
    have hs1 := pk_ite hf
    clear hf
    refine s_icmp_ge X (tgt := 123) dX6_recallPlace_93 rfl (fun c2 => ?_) (fun c2 => ?_)
    · have hf := hs1.1 c2
      cases hf
      exact s_vret X hr hlk dX6_recallPlace_123
    · have hf := hs1.2 c2
      refine s_aload_n X 1 dX6_recallPlace_96 rfl rfl ?_
      obtain ⟨h3, hf⟩ := pk_chk hf
      refine s_getI X (ci := 4) (k := 9) rfl (Nat.le_of_ble_eq_true rfl) h3 wd362 (fun _ _ _ => rfl) dX6_recallPlace_97 ?_
      refine s_iload_n X 2 dX6_recallPlace_100 rfl rfl ?_
      obtain ⟨r5, hc4, hf⟩ := pk_obd hf
      refine s_callSN X (k_X9_has G hc4) (host := "QuorumGate") ns_13 wd712 wd713 wd126 cd_X9_has ⟨Nat.le_of_ble_eq_true rfl, Nat.le_of_ble_eq_true rfl⟩ (Nat.le_of_ble_eq_true rfl) dX6_recallPlace_101 ?_
      have hs6 := pk_ite hf
      clear hf
      refine s_if_eq X (tgt := 117) dX6_recallPlace_104 rfl (fun c7 => ?_) (fun c7 => ?_)
      · have hf := hs6.1 c7
        obtain ⟨x8, e9, hf⟩ := pk_bnd hf
        refine s_iinc X (vs' := [(0, .ref (gB G + v0)), (1, .ref (gB G + v1)), (2, .int x8)]) 2 dX6_recallPlace_117 rfl (v := x8) e9.symm (Nat.le_of_ble_eq_true rfl) [1, 2, 0] rfl ?_
        refine s_goto X (tgt := 90) dX6_recallPlace_120 rfl ?_
        exact ih _ _ _ _ hf
      · have hf := hs6.2 c7
        refine s_aload_n X 1 dX6_recallPlace_107 rfl rfl ?_
        obtain ⟨o10, e11, hf⟩ := pk_bnd hf
        obtain ⟨h12, hf⟩ := pk_chk hf
        refine s_getR X (ci := 4) (k := 10) rfl (Nat.le_of_ble_eq_true rfl) h3 wd366 (fun _ _ _ => rfl) (e11 ▸ h12) dX6_recallPlace_108 (e11 ▸ ?_)
        refine s_iload_n X 2 dX6_recallPlace_111 rfl rfl ?_
        refine s_aload_n X 0 dX6_recallPlace_112 rfl rfl ?_
        obtain ⟨h13, hf⟩ := pk_chk hf
        obtain ⟨r15, M16, hc14, hf⟩ := pk_obd2 hf
        refine s_callV X (ci := 6) (k_X6_pull G hc14) rfl h13 wd1305 wd1307 wd39 wd1308 wd135 cd_X6_pull ⟨Nat.le_of_ble_eq_true rfl, Nat.le_of_ble_eq_true rfl⟩ (Nat.le_of_ble_eq_true rfl) dX6_recallPlace_113 ?_
        obtain ⟨h17, hf⟩ := pk_chk hf
        obtain ⟨h18, hf⟩ := pk_chk hf
        obtain ⟨M19, e20, hf⟩ := pk_bnd hf
        refine s_iast X h17 h18 e20 dX6_recallPlace_116 ?_
        have h21 := io_sI e20 h17
        obtain ⟨x22, e23, hf⟩ := pk_bnd hf
        refine s_iinc X (vs' := [(0, .ref (gB G + v0)), (1, .ref (gB G + v1)), (2, .int x22)]) 2 dX6_recallPlace_117 rfl (v := x22) e23.symm (Nat.le_of_ble_eq_true rfl) [1, 2, 0] rfl ?_
        refine s_goto X (tgt := 90) dX6_recallPlace_120 rfl ?_
        exact ih _ _ _ _ hf
theorem l_X6_recallPlace_77 {rv : Mem} {n : Nat} {v0 : Nat} {v1 : Nat} {u0 : Int32} {u1 : Nat} {M : Mem} (X : Cx p R s m args c G M0 cX6_recallPlace yX6_recallPlace.cls 3 1 21) (hr : meth.sig.returnType = none) (hlk : meth.locks = false) (hnm : meth.name = "recallPlace") (hf : f_X6_recallPlace_77 n v0 v1 u0 u1 M = some rv) : Sg p l e R s m args below meth c (Qm below G args s none M0 rv) G M0 3 77 [(0, .ref (gB G + v0)), (1, .ref (gB G + v1))] [.int u0, .ref (gB G + u1)] M := by
  rw [f_X6_recallPlace_77] at hf
  obtain ⟨h1, hf⟩ := pk_chk hf
  obtain ⟨h4, hf⟩ := pk_chk hf
  obtain ⟨M2, e3, hf⟩ := pk_bnd hf
  refine s_putZ X (ci := 4) (k := 8) rfl (Nat.le_of_ble_eq_true rfl) h1 wd358 (fun _ _ _ => rfl) rfl (bz_n h4) (bz_f h4) rfl e3 dX6_recallPlace_77 ?_
  have h5 := io_sI e3 h1
  refine s_aload_n X 1 dX6_recallPlace_80 rfl rfl ?_
  refine s_aload_n X 0 dX6_recallPlace_81 rfl rfl ?_
  obtain ⟨h6, hf⟩ := pk_chk hf
  obtain ⟨r8, M9, hc7, hf⟩ := pk_obd2 hf
  refine s_callV X (ci := 6) (k_X6_pull G hc7) rfl h6 wd1305 wd1307 wd39 wd1308 wd135 cd_X6_pull ⟨Nat.le_of_ble_eq_true rfl, Nat.le_of_ble_eq_true rfl⟩ (Nat.le_of_ble_eq_true rfl) dX6_recallPlace_82 ?_
  obtain ⟨h10, hf⟩ := pk_chk hf
  obtain ⟨M11, e12, hf⟩ := pk_bnd hf
  refine s_putI X (ci := 4) (k := 9) rfl (Nat.le_of_ble_eq_true rfl) h10 wd362 (fun _ _ _ => rfl) rfl rfl e12 dX6_recallPlace_85 ?_
  have h13 := io_sI e12 h10
  refine s_iconst X (v := (0 : Int32)) dX6_recallPlace_88 rfl ?_
  refine s_istore_n X (vs' := [(0, .ref (gB G + v0)), (1, .ref (gB G + v1)), (2, .int (0 : Int32))]) dX6_recallPlace_89 rfl (Nat.le_of_ble_eq_true rfl) [1, 2, 0] rfl ?_
  exact l_X6_recallPlace_90 X hr hlk hnm _ _ _ _ hf
end
theorem k_X6_recallPlace (G : Gam) {n : Nat} {o : Nat} {a1 : Nat} {M : Mem} {rv : Mem} (hf : f_X6_recallPlace n o a1 M = some rv) : Kt yX6_recallPlace cX6_recallPlace 3 none 1 21 G [.ref (gB G + o), .ref (gB G + a1)] M rv none := by
  refine Kt.of (by decide) (Nat.le_of_ble_eq_true rfl) ?_
  intro p l e R s m args below meth c X hr hlk hnm
  refine s_drop [0, 1] (vs' := [(0, .ref (gB G + o)), (1, .ref (gB G + a1))]) rfl ?_
  rw [f_X6_recallPlace] at hf
  refine s_aload_n X 1 dX6_recallPlace_0 rfl rfl ?_
  refine s_aload_n X 0 dX6_recallPlace_1 rfl rfl ?_
  obtain ⟨h1, hf⟩ := pk_chk hf
  obtain ⟨r3, M4, hc2, hf⟩ := pk_obd2 hf
  refine s_callV X (ci := 6) (k_X6_pull G hc2) rfl h1 wd1305 wd1307 wd39 wd1308 wd135 cd_X6_pull ⟨Nat.le_of_ble_eq_true rfl, Nat.le_of_ble_eq_true rfl⟩ (Nat.le_of_ble_eq_true rfl) dX6_recallPlace_2 ?_
  obtain ⟨h5, hf⟩ := pk_chk hf
  obtain ⟨M6, e7, hf⟩ := pk_bnd hf
  refine s_putI X (ci := 4) (k := 0) rfl (Nat.le_of_ble_eq_true rfl) h5 wd327 (fun _ _ _ => rfl) rfl rfl e7 dX6_recallPlace_5 ?_
  have h8 := io_sI e7 h5
  refine s_aload_n X 1 dX6_recallPlace_8 rfl rfl ?_
  refine s_aload_n X 0 dX6_recallPlace_9 rfl rfl ?_
  obtain ⟨h9, hf⟩ := pk_chk hf
  obtain ⟨r11, M12, hc10, hf⟩ := pk_obd2 hf
  refine s_callV X (ci := 6) (k_X6_pull G hc10) rfl h9 wd1305 wd1307 wd39 wd1308 wd135 cd_X6_pull ⟨Nat.le_of_ble_eq_true rfl, Nat.le_of_ble_eq_true rfl⟩ (Nat.le_of_ble_eq_true rfl) dX6_recallPlace_10 ?_
  obtain ⟨h13, hf⟩ := pk_chk hf
  obtain ⟨M14, e15, hf⟩ := pk_bnd hf
  refine s_putI X (ci := 4) (k := 1) rfl (Nat.le_of_ble_eq_true rfl) h13 wd330 (fun _ _ _ => rfl) rfl rfl e15 dX6_recallPlace_13 ?_
  have h16 := io_sI e15 h13
  refine s_aload_n X 1 dX6_recallPlace_16 rfl rfl ?_
  refine s_aload_n X 0 dX6_recallPlace_17 rfl rfl ?_
  obtain ⟨h17, hf⟩ := pk_chk hf
  obtain ⟨r19, M20, hc18, hf⟩ := pk_obd2 hf
  refine s_callV X (ci := 6) (k_X6_pull G hc18) rfl h17 wd1305 wd1307 wd39 wd1308 wd135 cd_X6_pull ⟨Nat.le_of_ble_eq_true rfl, Nat.le_of_ble_eq_true rfl⟩ (Nat.le_of_ble_eq_true rfl) dX6_recallPlace_18 ?_
  obtain ⟨h21, hf⟩ := pk_chk hf
  obtain ⟨M22, e23, hf⟩ := pk_bnd hf
  refine s_putI X (ci := 4) (k := 2) rfl (Nat.le_of_ble_eq_true rfl) h21 wd336 (fun _ _ _ => rfl) rfl rfl e23 dX6_recallPlace_21 ?_
  have h24 := io_sI e23 h21
  refine s_aload_n X 1 dX6_recallPlace_24 rfl rfl ?_
  refine s_aload_n X 0 dX6_recallPlace_25 rfl rfl ?_
  obtain ⟨h25, hf⟩ := pk_chk hf
  obtain ⟨r27, M28, hc26, hf⟩ := pk_obd2 hf
  refine s_callV X (ci := 6) (k_X6_pull G hc26) rfl h25 wd1305 wd1307 wd39 wd1308 wd135 cd_X6_pull ⟨Nat.le_of_ble_eq_true rfl, Nat.le_of_ble_eq_true rfl⟩ (Nat.le_of_ble_eq_true rfl) dX6_recallPlace_26 ?_
  obtain ⟨h29, hf⟩ := pk_chk hf
  obtain ⟨M30, e31, hf⟩ := pk_bnd hf
  refine s_putI X (ci := 4) (k := 3) rfl (Nat.le_of_ble_eq_true rfl) h29 wd338 (fun _ _ _ => rfl) rfl rfl e31 dX6_recallPlace_29 ?_
  have h32 := io_sI e31 h29
  refine s_aload_n X 1 dX6_recallPlace_32 rfl rfl ?_
  refine s_aload_n X 0 dX6_recallPlace_33 rfl rfl ?_
  obtain ⟨h33, hf⟩ := pk_chk hf
  obtain ⟨r35, M36, hc34, hf⟩ := pk_obd2 hf
  refine s_callV X (ci := 6) (k_X6_pull G hc34) rfl h33 wd1305 wd1307 wd39 wd1308 wd135 cd_X6_pull ⟨Nat.le_of_ble_eq_true rfl, Nat.le_of_ble_eq_true rfl⟩ (Nat.le_of_ble_eq_true rfl) dX6_recallPlace_34 ?_
  obtain ⟨h37, hf⟩ := pk_chk hf
  obtain ⟨M38, e39, hf⟩ := pk_bnd hf
  refine s_putI X (ci := 4) (k := 4) rfl (Nat.le_of_ble_eq_true rfl) h37 wd342 (fun _ _ _ => rfl) rfl rfl e39 dX6_recallPlace_37 ?_
  have h40 := io_sI e39 h37
  refine s_aload_n X 1 dX6_recallPlace_40 rfl rfl ?_
  refine s_aload_n X 0 dX6_recallPlace_41 rfl rfl ?_
  obtain ⟨h41, hf⟩ := pk_chk hf
  obtain ⟨r43, M44, hc42, hf⟩ := pk_obd2 hf
  refine s_callV X (ci := 6) (k_X6_pull G hc42) rfl h41 wd1305 wd1307 wd39 wd1308 wd135 cd_X6_pull ⟨Nat.le_of_ble_eq_true rfl, Nat.le_of_ble_eq_true rfl⟩ (Nat.le_of_ble_eq_true rfl) dX6_recallPlace_42 ?_
  obtain ⟨h45, hf⟩ := pk_chk hf
  obtain ⟨M46, e47, hf⟩ := pk_bnd hf
  refine s_putI X (ci := 4) (k := 5) rfl (Nat.le_of_ble_eq_true rfl) h45 wd346 (fun _ _ _ => rfl) rfl rfl e47 dX6_recallPlace_45 ?_
  have h48 := io_sI e47 h45
  refine s_aload_n X 1 dX6_recallPlace_48 rfl rfl ?_
  refine s_aload_n X 0 dX6_recallPlace_49 rfl rfl ?_
  obtain ⟨h49, hf⟩ := pk_chk hf
  obtain ⟨r51, M52, hc50, hf⟩ := pk_obd2 hf
  refine s_callV X (ci := 6) (k_X6_pull G hc50) rfl h49 wd1305 wd1307 wd39 wd1308 wd135 cd_X6_pull ⟨Nat.le_of_ble_eq_true rfl, Nat.le_of_ble_eq_true rfl⟩ (Nat.le_of_ble_eq_true rfl) dX6_recallPlace_50 ?_
  obtain ⟨h53, hf⟩ := pk_chk hf
  obtain ⟨M54, e55, hf⟩ := pk_bnd hf
  refine s_putI X (ci := 4) (k := 6) rfl (Nat.le_of_ble_eq_true rfl) h53 wd350 (fun _ _ _ => rfl) rfl rfl e55 dX6_recallPlace_53 ?_
  have h56 := io_sI e55 h53
  refine s_aload_n X 1 dX6_recallPlace_56 rfl rfl ?_
  refine s_aload_n X 0 dX6_recallPlace_57 rfl rfl ?_
  obtain ⟨h57, hf⟩ := pk_chk hf
  obtain ⟨r59, M60, hc58, hf⟩ := pk_obd2 hf
  refine s_callV X (ci := 6) (k_X6_pull G hc58) rfl h57 wd1305 wd1307 wd39 wd1308 wd135 cd_X6_pull ⟨Nat.le_of_ble_eq_true rfl, Nat.le_of_ble_eq_true rfl⟩ (Nat.le_of_ble_eq_true rfl) dX6_recallPlace_58 ?_
  obtain ⟨h61, hf⟩ := pk_chk hf
  obtain ⟨M62, e63, hf⟩ := pk_bnd hf
  refine s_putI X (ci := 4) (k := 7) rfl (Nat.le_of_ble_eq_true rfl) h61 wd354 (fun _ _ _ => rfl) rfl rfl e63 dX6_recallPlace_61 ?_
  have h64 := io_sI e63 h61
  refine s_aload_n X 1 dX6_recallPlace_64 rfl rfl ?_
  refine s_aload_n X 0 dX6_recallPlace_65 rfl rfl ?_
  obtain ⟨h65, hf⟩ := pk_chk hf
  obtain ⟨r67, M68, hc66, hf⟩ := pk_obd2 hf
  refine s_callV X (ci := 6) (k_X6_pull G hc66) rfl h65 wd1305 wd1307 wd39 wd1308 wd135 cd_X6_pull ⟨Nat.le_of_ble_eq_true rfl, Nat.le_of_ble_eq_true rfl⟩ (Nat.le_of_ble_eq_true rfl) dX6_recallPlace_66 ?_
  have hs69 := pk_ite hf
  clear hf
  refine s_if_eq X (tgt := 76) dX6_recallPlace_69 rfl (fun c70 => ?_) (fun c70 => ?_)
  · have hf := hs69.1 c70
    refine s_iconst X (v := (0 : Int32)) dX6_recallPlace_76 rfl ?_
    exact l_X6_recallPlace_77 X hr hlk hnm hf
  · have hf := hs69.2 c70
    refine s_iconst X (v := (1 : Int32)) dX6_recallPlace_72 rfl ?_
    refine s_goto X (tgt := 77) dX6_recallPlace_73 rfl ?_
    exact l_X6_recallPlace_77 X hr hlk hnm hf
theorem dX6_recallLane_0 : decode cX6_recallLane 0 = .ok (.aload_n 0, 1) := dk_42 (by decide +kernel)
theorem dX6_recallLane_1 : decode cX6_recallLane 1 = .ok (.invokevirtual 224, 3) := dk_182 (x := 0) (y := 224) (by decide +kernel) rfl
theorem dX6_recallLane_4 : decode cX6_recallLane 4 = .ok (.istore_n 3, 1) := dk_62 (by decide +kernel)
theorem dX6_recallLane_5 : decode cX6_recallLane 5 = .ok (.iload_n 3, 1) := dk_29 (by decide +kernel)
theorem dX6_recallLane_6 : decode cX6_recallLane 6 = .ok (.ifCond .le 37, 3) := dk_158 (x := 0) (y := 37) (by decide +kernel) rfl
theorem dX6_recallLane_9 : decode cX6_recallLane 9 = .ok (.aload_n 0, 1) := dk_42 (by decide +kernel)
theorem dX6_recallLane_10 : decode cX6_recallLane 10 = .ok (.invokevirtual 224, 3) := dk_182 (x := 0) (y := 224) (by decide +kernel) rfl
theorem dX6_recallLane_13 : decode cX6_recallLane 13 = .ok (.istore 4, 2) := dk_54 (x := 4) (by decide +kernel)
theorem dX6_recallLane_15 : decode cX6_recallLane 15 = .ok (.aload_n 0, 1) := dk_42 (by decide +kernel)
theorem dX6_recallLane_16 : decode cX6_recallLane 16 = .ok (.getfield 27, 3) := dk_180 (x := 0) (y := 27) (by decide +kernel) rfl
theorem dX6_recallLane_19 : decode cX6_recallLane 19 = .ok (.getfield 141, 3) := dk_180 (x := 0) (y := 141) (by decide +kernel) rfl
theorem dX6_recallLane_22 : decode cX6_recallLane 22 = .ok (.iload 4, 2) := dk_21 (x := 4) (by decide +kernel)
theorem dX6_recallLane_24 : decode cX6_recallLane 24 = .ok (.invokestatic 237, 3) := dk_184 (x := 0) (y := 237) (by decide +kernel) rfl
theorem dX6_recallLane_27 : decode cX6_recallLane 27 = .ok (.iload_n 1, 1) := dk_27 (by decide +kernel)
theorem dX6_recallLane_28 : decode cX6_recallLane 28 = .ok (.iload_n 2, 1) := dk_28 (by decide +kernel)
theorem dX6_recallLane_29 : decode cX6_recallLane 29 = .ok (.iload 4, 2) := dk_21 (x := 4) (by decide +kernel)
theorem dX6_recallLane_31 : decode cX6_recallLane 31 = .ok (.invokestatic 240, 3) := dk_184 (x := 0) (y := 240) (by decide +kernel) rfl
theorem dX6_recallLane_34 : decode cX6_recallLane 34 = .ok (.invokevirtual 243, 3) := dk_182 (x := 0) (y := 243) (by decide +kernel) rfl
theorem dX6_recallLane_37 : decode cX6_recallLane 37 = .ok (.iinc 3 (-1), 3) := dk_132 (x := 3) (y := 255) (by decide +kernel) rfl
theorem dX6_recallLane_40 : decode cX6_recallLane 40 = .ok (.goto (-35), 3) := dk_167 (x := 255) (y := 221) (by decide +kernel) rfl
theorem dX6_recallLane_43 : decode cX6_recallLane 43 = .ok (.return_, 1) := dk_177 (by decide +kernel)
def f_X6_recallLane_5 : Nat → Nat → Int32 → Int32 → Int32 → Mem → Option Mem
  | 0, _, _, _, _, _ => none
  | n + 1, v0, v1, v2, v3, M =>
    if v3 ≤ 0 then (
      some M
      ) else (
      chk (isO M 6 v0) <|
      obd2 (f_X6_pull v0 M) fun r5 M6 =>
      chk (isO M6 6 v0) <|
      bnd (mR M6 v0 0) fun o8 =>
      chk (isO M6 2 o8) <|
      bnd (mR M6 o8 1) fun o11 =>
      chk (isO M6 5 o11) <|
      obd (f_X5_kindOf r5 M6) fun r15 =>
      obd (f_X5_stampOf r5 M6) fun r17 =>
      obd (f_X5_put o11 r15 v1 v2 r17 M6) fun M19 =>
      bnd (v3 + (-1 : Int32)) fun x20 =>
      f_X6_recallLane_5 n v0 v1 v2 x20 M19
      )
def f_X6_recallLane (n : Nat) (o : Nat) (a1 : Int32) (a2 : Int32) (M : Mem) : Option Mem :=
  chk (isO M 6 o) <|
  obd2 (f_X6_pull o M) fun r3 M4 =>
  f_X6_recallLane_5 n o a1 a2 r3 M4
theorem cd_X6_recallLane : (yX6_recallLane.cls ≠ "java/lang/invoke/MethodHandle" ∧ yX6_recallLane.cls ≠ "java/lang/invoke/VarHandle") ∧ (parseMethodDescriptor yX6_recallLane.desc).map (fun d => d.parameters.length) = some 2 := ⟨⟨by decide +kernel, by decide +kernel⟩, by decide +kernel⟩
section
variable {p : Program} {l : Launch} {e : Env} {R : Room} {s : State} {m : MethodId} {args : Array Value} {below : List Frame} {meth : Method} {c : Code} {G : Gam} {M0 : Mem}
theorem l_X6_recallLane_5 {rv : Mem} (X : Cx p R s m args c G M0 cX6_recallLane yX6_recallLane.cls 5 3 76) (hr : meth.sig.returnType = none) (hlk : meth.locks = false) (hnm : meth.name = "recallLane") : ∀ {n : Nat} (v0 : Nat) (v1 : Int32) (v2 : Int32) (v3 : Int32) (M : Mem), f_X6_recallLane_5 n v0 v1 v2 v3 M = some rv → Sg p l e R s m args below meth c (Qm below G args s none M0 rv) G M0 5 5 [(0, .ref (gB G + v0)), (1, .int v1), (2, .int v2), (3, .int v3)] [] M := by
  intro n
  induction n with
  | zero => intro v0 v1 v2 v3 M hf; exact (pk_none hf).elim
  | succ n ih =>
    intro v0 v1 v2 v3 M hf
    rw [f_X6_recallLane_5] at hf
    refine s_iload_n X 3 dX6_recallLane_5 rfl rfl ?_
    have hs1 := pk_ite hf
    clear hf
    refine s_if_le X (tgt := 43) dX6_recallLane_6 rfl (fun c2 => ?_) (fun c2 => ?_)
    · have hf := hs1.1 c2
      cases hf
      exact s_vret X hr hlk dX6_recallLane_43
    · have hf := hs1.2 c2
      refine s_aload_n X 0 dX6_recallLane_9 rfl rfl ?_
      obtain ⟨h3, hf⟩ := pk_chk hf
      obtain ⟨r5, M6, hc4, hf⟩ := pk_obd2 hf
      refine s_callV X (ci := 6) (k_X6_pull G hc4) rfl h3 wd1305 wd1307 wd39 wd1308 wd135 cd_X6_pull ⟨Nat.le_of_ble_eq_true rfl, Nat.le_of_ble_eq_true rfl⟩ (Nat.le_of_ble_eq_true rfl) dX6_recallLane_10 ?_
      refine s_istore X (vs' := [(0, .ref (gB G + v0)), (1, .int v1), (2, .int v2), (3, .int v3), (4, .int r5)]) dX6_recallLane_13 (Nat.le_of_ble_eq_true rfl) [1, 2, 3, 4, 0] rfl ?_
      refine s_aload_n X 0 dX6_recallLane_15 rfl rfl ?_
      obtain ⟨h7, hf⟩ := pk_chk hf
      obtain ⟨o8, e9, hf⟩ := pk_bnd hf
      obtain ⟨h10, hf⟩ := pk_chk hf
      refine s_getR X (ci := 6) (k := 0) rfl (Nat.le_of_ble_eq_true rfl) h7 wd522 (fun _ _ _ => rfl) (e9 ▸ h10) dX6_recallLane_16 (e9 ▸ ?_)
      obtain ⟨o11, e12, hf⟩ := pk_bnd hf
      obtain ⟨h13, hf⟩ := pk_chk hf
      refine s_getR X (ci := 2) (k := 1) rfl (Nat.le_of_ble_eq_true rfl) h10 wd421 (fun _ _ _ => rfl) (e12 ▸ h13) dX6_recallLane_19 (e12 ▸ ?_)
      refine s_iload X 4 dX6_recallLane_22 rfl ?_
      obtain ⟨r15, hc14, hf⟩ := pk_obd hf
      refine s_callS X (k_X5_kindOf G hc14) wd1318 wd989 wd990 wd131 cd_X5_kindOf ⟨Nat.le_of_ble_eq_true rfl, Nat.le_of_ble_eq_true rfl⟩ (Nat.le_of_ble_eq_true rfl) dX6_recallLane_24 ?_
      refine s_iload_n X 1 dX6_recallLane_27 rfl rfl ?_
      refine s_iload_n X 2 dX6_recallLane_28 rfl rfl ?_
      refine s_iload X 4 dX6_recallLane_29 rfl ?_
      obtain ⟨r17, hc16, hf⟩ := pk_obd hf
      refine s_callS X (k_X5_stampOf G hc16) wd1319 wd992 wd993 wd131 cd_X5_stampOf ⟨Nat.le_of_ble_eq_true rfl, Nat.le_of_ble_eq_true rfl⟩ (Nat.le_of_ble_eq_true rfl) dX6_recallLane_31 ?_
      obtain ⟨M19, hc18, hf⟩ := pk_obd hf
      refine s_callV X (ci := 5) (k_X5_put G hc18) rfl h13 wd1320 wd946 wd947 wd948 wd131 cd_X5_put ⟨Nat.le_of_ble_eq_true rfl, Nat.le_of_ble_eq_true rfl⟩ (Nat.le_of_ble_eq_true rfl) dX6_recallLane_34 ?_
      obtain ⟨x20, e21, hf⟩ := pk_bnd hf
      refine s_iinc X (vs' := [(0, .ref (gB G + v0)), (1, .int v1), (2, .int v2), (3, .int x20), (4, .int r5)]) 3 dX6_recallLane_37 rfl (v := x20) e21.symm (Nat.le_of_ble_eq_true rfl) [1, 2, 3, 0, 4] rfl ?_
      refine s_goto X (tgt := 5) dX6_recallLane_40 rfl ?_
      refine s_drop [0, 1, 2, 3] (vs' := [(0, .ref (gB G + v0)), (1, .int v1), (2, .int v2), (3, .int x20)]) rfl ?_
      exact ih _ _ _ _ _ hf
end
theorem k_X6_recallLane (G : Gam) {n : Nat} {o : Nat} {a1 : Int32} {a2 : Int32} {M : Mem} {rv : Mem} (hf : f_X6_recallLane n o a1 a2 M = some rv) : Kt yX6_recallLane cX6_recallLane 5 none 3 76 G [.ref (gB G + o), .int a1, .int a2] M rv none := by
  refine Kt.of (by decide) (Nat.le_of_ble_eq_true rfl) ?_
  intro p l e R s m args below meth c X hr hlk hnm
  refine s_drop [0, 1, 2] (vs' := [(0, .ref (gB G + o)), (1, .int a1), (2, .int a2)]) rfl ?_
  rw [f_X6_recallLane] at hf
  refine s_aload_n X 0 dX6_recallLane_0 rfl rfl ?_
  obtain ⟨h1, hf⟩ := pk_chk hf
  obtain ⟨r3, M4, hc2, hf⟩ := pk_obd2 hf
  refine s_callV X (ci := 6) (k_X6_pull G hc2) rfl h1 wd1305 wd1307 wd39 wd1308 wd135 cd_X6_pull ⟨Nat.le_of_ble_eq_true rfl, Nat.le_of_ble_eq_true rfl⟩ (Nat.le_of_ble_eq_true rfl) dX6_recallLane_1 ?_
  refine s_istore_n X (vs' := [(0, .ref (gB G + o)), (1, .int a1), (2, .int a2), (3, .int r3)]) dX6_recallLane_4 rfl (Nat.le_of_ble_eq_true rfl) [1, 2, 3, 0] rfl ?_
  exact l_X6_recallLane_5 X hr hlk hnm _ _ _ _ _ hf
theorem dX6_recall_0 : decode cX6_recall 0 = .ok (.aload_n 0, 1) := dk_42 (by decide +kernel)
theorem dX6_recall_1 : decode cX6_recall 1 = .ok (.aload_n 0, 1) := dk_42 (by decide +kernel)
theorem dX6_recall_2 : decode cX6_recall 2 = .ok (.getfield 9, 3) := dk_180 (x := 0) (y := 9) (by decide +kernel) rfl
theorem dX6_recall_5 : decode cX6_recall 5 = .ok (.iload_n 1, 1) := dk_27 (by decide +kernel)
theorem dX6_recall_6 : decode cX6_recall 6 = .ok (.iaload, 1) := dk_46 (by decide +kernel)
theorem dX6_recall_7 : decode cX6_recall 7 = .ok (.putfield 221, 3) := dk_181 (x := 0) (y := 221) (by decide +kernel) rfl
theorem dX6_recall_10 : decode cX6_recall 10 = .ok (.aload_n 0, 1) := dk_42 (by decide +kernel)
theorem dX6_recall_11 : decode cX6_recall 11 = .ok (.getfield 27, 3) := dk_180 (x := 0) (y := 27) (by decide +kernel) rfl
theorem dX6_recall_14 : decode cX6_recall 14 = .ok (.aload_n 0, 1) := dk_42 (by decide +kernel)
theorem dX6_recall_15 : decode cX6_recall 15 = .ok (.invokevirtual 224, 3) := dk_182 (x := 0) (y := 224) (by decide +kernel) rfl
theorem dX6_recall_18 : decode cX6_recall 18 = .ok (.putfield 135, 3) := dk_181 (x := 0) (y := 135) (by decide +kernel) rfl
theorem dX6_recall_21 : decode cX6_recall 21 = .ok (.aload_n 0, 1) := dk_42 (by decide +kernel)
theorem dX6_recall_22 : decode cX6_recall 22 = .ok (.getfield 27, 3) := dk_180 (x := 0) (y := 27) (by decide +kernel) rfl
theorem dX6_recall_25 : decode cX6_recall 25 = .ok (.aload_n 0, 1) := dk_42 (by decide +kernel)
theorem dX6_recall_26 : decode cX6_recall 26 = .ok (.invokevirtual 224, 3) := dk_182 (x := 0) (y := 224) (by decide +kernel) rfl
theorem dX6_recall_29 : decode cX6_recall 29 = .ok (.putfield 150, 3) := dk_181 (x := 0) (y := 150) (by decide +kernel) rfl
theorem dX6_recall_32 : decode cX6_recall 32 = .ok (.iconst 0, 1) := dk_3 (by decide +kernel)
theorem dX6_recall_33 : decode cX6_recall 33 = .ok (.istore_n 2, 1) := dk_61 (by decide +kernel)
theorem dX6_recall_34 : decode cX6_recall 34 = .ok (.iload_n 2, 1) := dk_28 (by decide +kernel)
theorem dX6_recall_35 : decode cX6_recall 35 = .ok (.aload_n 0, 1) := dk_42 (by decide +kernel)
theorem dX6_recall_36 : decode cX6_recall 36 = .ok (.getfield 27, 3) := dk_180 (x := 0) (y := 27) (by decide +kernel) rfl
theorem dX6_recall_39 : decode cX6_recall 39 = .ok (.getfield 111, 3) := dk_180 (x := 0) (y := 111) (by decide +kernel) rfl
theorem dX6_recall_42 : decode cX6_recall 42 = .ok (.getfield 115, 3) := dk_180 (x := 0) (y := 115) (by decide +kernel) rfl
theorem dX6_recall_45 : decode cX6_recall 45 = .ok (.if_icmp .ge 22, 3) := dk_162 (x := 0) (y := 22) (by decide +kernel) rfl
theorem dX6_recall_48 : decode cX6_recall 48 = .ok (.aload_n 0, 1) := dk_42 (by decide +kernel)
theorem dX6_recall_49 : decode cX6_recall 49 = .ok (.aload_n 0, 1) := dk_42 (by decide +kernel)
theorem dX6_recall_50 : decode cX6_recall 50 = .ok (.getfield 27, 3) := dk_180 (x := 0) (y := 27) (by decide +kernel) rfl
theorem dX6_recall_53 : decode cX6_recall 53 = .ok (.getfield 79, 3) := dk_180 (x := 0) (y := 79) (by decide +kernel) rfl
theorem dX6_recall_56 : decode cX6_recall 56 = .ok (.iload_n 2, 1) := dk_28 (by decide +kernel)
theorem dX6_recall_57 : decode cX6_recall 57 = .ok (.aaload, 1) := dk_50 (by decide +kernel)
theorem dX6_recall_58 : decode cX6_recall 58 = .ok (.invokevirtual 227, 3) := dk_182 (x := 0) (y := 227) (by decide +kernel) rfl
theorem dX6_recall_61 : decode cX6_recall 61 = .ok (.iinc 2 1, 3) := dk_132 (x := 2) (y := 1) (by decide +kernel) rfl
theorem dX6_recall_64 : decode cX6_recall 64 = .ok (.goto (-30), 3) := dk_167 (x := 255) (y := 226) (by decide +kernel) rfl
theorem dX6_recall_67 : decode cX6_recall 67 = .ok (.aload_n 0, 1) := dk_42 (by decide +kernel)
theorem dX6_recall_68 : decode cX6_recall 68 = .ok (.getfield 27, 3) := dk_180 (x := 0) (y := 27) (by decide +kernel) rfl
theorem dX6_recall_71 : decode cX6_recall 71 = .ok (.getfield 141, 3) := dk_180 (x := 0) (y := 141) (by decide +kernel) rfl
theorem dX6_recall_74 : decode cX6_recall 74 = .ok (.invokevirtual 230, 3) := dk_182 (x := 0) (y := 230) (by decide +kernel) rfl
theorem dX6_recall_77 : decode cX6_recall 77 = .ok (.iconst 0, 1) := dk_3 (by decide +kernel)
theorem dX6_recall_78 : decode cX6_recall 78 = .ok (.istore_n 2, 1) := dk_61 (by decide +kernel)
theorem dX6_recall_79 : decode cX6_recall 79 = .ok (.iload_n 2, 1) := dk_28 (by decide +kernel)
theorem dX6_recall_80 : decode cX6_recall 80 = .ok (.aload_n 0, 1) := dk_42 (by decide +kernel)
theorem dX6_recall_81 : decode cX6_recall 81 = .ok (.getfield 27, 3) := dk_180 (x := 0) (y := 27) (by decide +kernel) rfl
theorem dX6_recall_84 : decode cX6_recall 84 = .ok (.getfield 111, 3) := dk_180 (x := 0) (y := 111) (by decide +kernel) rfl
theorem dX6_recall_87 : decode cX6_recall 87 = .ok (.getfield 115, 3) := dk_180 (x := 0) (y := 115) (by decide +kernel) rfl
theorem dX6_recall_90 : decode cX6_recall 90 = .ok (.if_icmp .ge 54, 3) := dk_162 (x := 0) (y := 54) (by decide +kernel) rfl
theorem dX6_recall_93 : decode cX6_recall 93 = .ok (.aload_n 0, 1) := dk_42 (by decide +kernel)
theorem dX6_recall_94 : decode cX6_recall 94 = .ok (.invokevirtual 224, 3) := dk_182 (x := 0) (y := 224) (by decide +kernel) rfl
theorem dX6_recall_97 : decode cX6_recall 97 = .ok (.istore_n 3, 1) := dk_62 (by decide +kernel)
theorem dX6_recall_98 : decode cX6_recall 98 = .ok (.iconst 0, 1) := dk_3 (by decide +kernel)
theorem dX6_recall_99 : decode cX6_recall 99 = .ok (.istore 4, 2) := dk_54 (x := 4) (by decide +kernel)
theorem dX6_recall_101 : decode cX6_recall 101 = .ok (.iload 4, 2) := dk_21 (x := 4) (by decide +kernel)
theorem dX6_recall_103 : decode cX6_recall 103 = .ok (.aload_n 0, 1) := dk_42 (by decide +kernel)
theorem dX6_recall_104 : decode cX6_recall 104 = .ok (.getfield 27, 3) := dk_180 (x := 0) (y := 27) (by decide +kernel) rfl
theorem dX6_recall_107 : decode cX6_recall 107 = .ok (.getfield 111, 3) := dk_180 (x := 0) (y := 111) (by decide +kernel) rfl
theorem dX6_recall_110 : decode cX6_recall 110 = .ok (.getfield 115, 3) := dk_180 (x := 0) (y := 115) (by decide +kernel) rfl
theorem dX6_recall_113 : decode cX6_recall 113 = .ok (.if_icmp .ge 25, 3) := dk_162 (x := 0) (y := 25) (by decide +kernel) rfl
theorem dX6_recall_116 : decode cX6_recall 116 = .ok (.iload_n 3, 1) := dk_29 (by decide +kernel)
theorem dX6_recall_117 : decode cX6_recall 117 = .ok (.iload 4, 2) := dk_21 (x := 4) (by decide +kernel)
theorem dX6_recall_119 : decode cX6_recall 119 = .ok (.invokestatic 120, 3) := dk_184 (x := 0) (y := 120) (by decide +kernel) rfl
theorem dX6_recall_122 : decode cX6_recall 122 = .ok (.ifCond .eq 10, 3) := dk_153 (x := 0) (y := 10) (by decide +kernel) rfl
theorem dX6_recall_125 : decode cX6_recall 125 = .ok (.aload_n 0, 1) := dk_42 (by decide +kernel)
theorem dX6_recall_126 : decode cX6_recall 126 = .ok (.iload_n 2, 1) := dk_28 (by decide +kernel)
theorem dX6_recall_127 : decode cX6_recall 127 = .ok (.iload 4, 2) := dk_21 (x := 4) (by decide +kernel)
theorem dX6_recall_129 : decode cX6_recall 129 = .ok (.invokevirtual 233, 3) := dk_182 (x := 0) (y := 233) (by decide +kernel) rfl
theorem dX6_recall_132 : decode cX6_recall 132 = .ok (.iinc 4 1, 3) := dk_132 (x := 4) (y := 1) (by decide +kernel) rfl
theorem dX6_recall_135 : decode cX6_recall 135 = .ok (.goto (-34), 3) := dk_167 (x := 255) (y := 222) (by decide +kernel) rfl
theorem dX6_recall_138 : decode cX6_recall 138 = .ok (.iinc 2 1, 3) := dk_132 (x := 2) (y := 1) (by decide +kernel) rfl
theorem dX6_recall_141 : decode cX6_recall 141 = .ok (.goto (-62), 3) := dk_167 (x := 255) (y := 194) (by decide +kernel) rfl
theorem dX6_recall_144 : decode cX6_recall 144 = .ok (.return_, 1) := dk_177 (by decide +kernel)
def f_X6_recall_101 (k_79 : Nat → Int32 → Mem → Option Mem) : Nat → Nat → Int32 → Int32 → Int32 → Mem → Option Mem
  | 0, _, _, _, _, _ => none
  | n + 1, v0, v2, v3, v4, M =>
    chk (isO M 6 v0) <|
    bnd (mR M v0 0) fun o2 =>
    chk (isO M 2 o2) <|
    bnd (mR M o2 0) fun o5 =>
    chk (isO M 7 o5) <|
    if (mI M o5 3) ≤ v4 then (
      bnd (v2 + (1 : Int32)) fun x10 =>
      k_79 v0 x10 M
      ) else (
      obd (f_X9_has v3 v4 M) fun r13 =>
      if r13 = 0 then (
        bnd (v4 + (1 : Int32)) fun x16 =>
        f_X6_recall_101 k_79 n v0 v2 v3 x16 M
        ) else (
        obd (f_X6_recallLane n v0 v2 v4 M) fun M19 =>
        bnd (v4 + (1 : Int32)) fun x20 =>
        f_X6_recall_101 k_79 n v0 v2 v3 x20 M19
        )
      )
def f_X6_recall_79 : Nat → Nat → Int32 → Mem → Option Mem
  | 0, _, _, _ => none
  | n + 1, v0, v2, M =>
    chk (isO M 6 v0) <|
    bnd (mR M v0 0) fun o2 =>
    chk (isO M 2 o2) <|
    bnd (mR M o2 0) fun o5 =>
    chk (isO M 7 o5) <|
    if (mI M o5 3) ≤ v2 then (
      some M
      ) else (
      obd2 (f_X6_pull v0 M) fun r11 M12 =>
      f_X6_recall_101 (f_X6_recall_79 n) n v0 v2 r11 (0 : Int32) M12
      )
def f_X6_recall_34 : Nat → Nat → Int32 → Mem → Option Mem
  | 0, _, _, _ => none
  | n + 1, v0, v2, M =>
    chk (isO M 6 v0) <|
    bnd (mR M v0 0) fun o2 =>
    chk (isO M 2 o2) <|
    bnd (mR M o2 0) fun o5 =>
    chk (isO M 7 o5) <|
    if (mI M o5 3) ≤ v2 then (
      bnd (mR M v0 0) fun o10 =>
      chk (isO M 2 o10) <|
      bnd (mR M o10 1) fun o13 =>
      chk (isO M 5 o13) <|
      obd (f_X5_clearLanes n o13 M) fun M17 =>
      f_X6_recall_79 n v0 (0 : Int32) M17
      ) else (
      bnd (mR M v0 0) fun o18 =>
      chk (isO M 2 o18) <|
      bnd (mR M o18 2) fun o21 =>
      chk (isO M 102 o21) <|
      chk (inB v2 (mLn M o21)) <|
      bnd (mR M o21 (v2).toNatClampNeg) fun o25 =>
      chk (isO M 4 o25) <|
      obd (f_X6_recallPlace n v0 o25 M) fun M29 =>
      bnd (v2 + (1 : Int32)) fun x30 =>
      f_X6_recall_34 n v0 x30 M29
      )
def f_X6_recall (n : Nat) (o : Nat) (a1 : Int32) (M : Mem) : Option Mem :=
  chk (isO M 6 o) <|
  bnd (mR M o 1) fun o2 =>
  chk (isO M 100 o2) <|
  chk (inB a1 (mLn M o2)) <|
  bnd (sI M o 7 (mI M o2 (a1).toNatClampNeg)) fun M6 =>
  bnd (mR M6 o 0) fun o10 =>
  chk (isO M6 2 o10) <|
  obd2 (f_X6_pull o M6) fun r14 M15 =>
  chk (isO M15 2 o10) <|
  bnd (sI M15 o10 7 r14) fun M17 =>
  chk (isO M17 6 o) <|
  bnd (mR M17 o 0) fun o21 =>
  chk (isO M17 2 o21) <|
  obd2 (f_X6_pull o M17) fun r25 M26 =>
  chk (isO M26 2 o21) <|
  bnd (sI M26 o21 8 r25) fun M28 =>
  f_X6_recall_34 n o (0 : Int32) M28
theorem cd_X6_recall : (yX6_recall.cls ≠ "java/lang/invoke/MethodHandle" ∧ yX6_recall.cls ≠ "java/lang/invoke/VarHandle") ∧ (parseMethodDescriptor yX6_recall.desc).map (fun d => d.parameters.length) = some 1 := ⟨⟨by decide +kernel, by decide +kernel⟩, by decide +kernel⟩
section
variable {p : Program} {l : Launch} {e : Env} {R : Room} {s : State} {m : MethodId} {args : Array Value} {below : List Frame} {meth : Method} {c : Code} {G : Gam} {M0 : Mem}
theorem l_X6_recall_101 {k_79 : Nat → Int32 → Mem → Option Mem} {rv : Mem} (X : Cx p R s m args c G M0 cX6_recall yX6_recall.cls 5 4 100) (hr : meth.sig.returnType = none) (hlk : meth.locks = false) (hnm : meth.name = "recall") (hk_79 : ∀ (v0 : Nat), ∀ (v2 : Int32), ∀ M : Mem, k_79 v0 v2 M = some rv → Sg p l e R s m args below meth c (Qm below G args s none M0 rv) G M0 5 79 [(0, .ref (gB G + v0)), (2, .int v2)] [] M) : ∀ {n : Nat} (v0 : Nat) (v2 : Int32) (v3 : Int32) (v4 : Int32) (M : Mem), f_X6_recall_101 k_79 n v0 v2 v3 v4 M = some rv → Sg p l e R s m args below meth c (Qm below G args s none M0 rv) G M0 5 101 [(0, .ref (gB G + v0)), (2, .int v2), (3, .int v3), (4, .int v4)] [] M := by
  intro n
  induction n with
  | zero => intro v0 v2 v3 v4 M hf; exact (pk_none hf).elim
  | succ n ih =>
    intro v0 v2 v3 v4 M hf
    rw [f_X6_recall_101] at hf
    refine s_iload X 3 dX6_recall_101 rfl ?_
    refine s_aload_n X 0 dX6_recall_103 rfl rfl ?_
    obtain ⟨h1, hf⟩ := pk_chk hf
    obtain ⟨o2, e3, hf⟩ := pk_bnd hf
    obtain ⟨h4, hf⟩ := pk_chk hf
    refine s_getR X (ci := 6) (k := 0) rfl (Nat.le_of_ble_eq_true rfl) h1 wd522 (fun _ _ _ => rfl) (e3 ▸ h4) dX6_recall_104 (e3 ▸ ?_)
    obtain ⟨o5, e6, hf⟩ := pk_bnd hf
    obtain ⟨h7, hf⟩ := pk_chk hf
    refine s_getR X (ci := 2) (k := 0) rfl (Nat.le_of_ble_eq_true rfl) h4 wd418 (fun _ _ _ => rfl) (e6 ▸ h7) dX6_recall_107 (e6 ▸ ?_)
    refine s_getI X (ci := 7) (k := 3) rfl (Nat.le_of_ble_eq_true rfl) h7 wd168 (fun _ _ _ => rfl) dX6_recall_110 ?_
    have hs8 := pk_ite hf
    clear hf
    refine s_icmp_ge X (tgt := 138) dX6_recall_113 rfl (fun c9 => ?_) (fun c9 => ?_)
    · have hf := hs8.1 c9
      obtain ⟨x10, e11, hf⟩ := pk_bnd hf
      refine s_iinc X (vs' := [(0, .ref (gB G + v0)), (2, .int x10), (3, .int v3), (4, .int v4)]) 1 dX6_recall_138 rfl (v := x10) e11.symm (Nat.le_of_ble_eq_true rfl) [1, 0, 2, 3] rfl ?_
      refine s_goto X (tgt := 79) dX6_recall_141 rfl ?_
      refine s_drop [0, 1] (vs' := [(0, .ref (gB G + v0)), (2, .int x10)]) rfl ?_
      exact hk_79 _ _ _ hf
    · have hf := hs8.2 c9
      refine s_iload_n X 2 dX6_recall_116 rfl rfl ?_
      refine s_iload X 3 dX6_recall_117 rfl ?_
      obtain ⟨r13, hc12, hf⟩ := pk_obd hf
      refine s_callSN X (k_X9_has G hc12) (host := "QuorumGate") ns_13 wd712 wd713 wd126 cd_X9_has ⟨Nat.le_of_ble_eq_true rfl, Nat.le_of_ble_eq_true rfl⟩ (Nat.le_of_ble_eq_true rfl) dX6_recall_119 ?_
      have hs14 := pk_ite hf
      clear hf
      refine s_if_eq X (tgt := 132) dX6_recall_122 rfl (fun c15 => ?_) (fun c15 => ?_)
      · have hf := hs14.1 c15
        obtain ⟨x16, e17, hf⟩ := pk_bnd hf
        refine s_iinc X (vs' := [(0, .ref (gB G + v0)), (2, .int v2), (3, .int v3), (4, .int x16)]) 3 dX6_recall_132 rfl (v := x16) e17.symm (Nat.le_of_ble_eq_true rfl) [1, 2, 3, 0] rfl ?_
        refine s_goto X (tgt := 101) dX6_recall_135 rfl ?_
        exact ih _ _ _ _ _ hf
      · have hf := hs14.2 c15
        refine s_aload_n X 0 dX6_recall_125 rfl rfl ?_
        refine s_iload_n X 1 dX6_recall_126 rfl rfl ?_
        refine s_iload X 3 dX6_recall_127 rfl ?_
        obtain ⟨M19, hc18, hf⟩ := pk_obd hf
        refine s_callV X (ci := 6) (k_X6_recallLane G hc18) rfl h1 wd1314 wd1316 wd41 wd1317 wd135 cd_X6_recallLane ⟨Nat.le_of_ble_eq_true rfl, Nat.le_of_ble_eq_true rfl⟩ (Nat.le_of_ble_eq_true rfl) dX6_recall_129 ?_
        obtain ⟨x20, e21, hf⟩ := pk_bnd hf
        refine s_iinc X (vs' := [(0, .ref (gB G + v0)), (2, .int v2), (3, .int v3), (4, .int x20)]) 3 dX6_recall_132 rfl (v := x20) e21.symm (Nat.le_of_ble_eq_true rfl) [1, 2, 3, 0] rfl ?_
        refine s_goto X (tgt := 101) dX6_recall_135 rfl ?_
        exact ih _ _ _ _ _ hf
theorem l_X6_recall_79 {rv : Mem} (X : Cx p R s m args c G M0 cX6_recall yX6_recall.cls 5 4 100) (hr : meth.sig.returnType = none) (hlk : meth.locks = false) (hnm : meth.name = "recall") : ∀ {n : Nat} (v0 : Nat) (v2 : Int32) (M : Mem), f_X6_recall_79 n v0 v2 M = some rv → Sg p l e R s m args below meth c (Qm below G args s none M0 rv) G M0 5 79 [(0, .ref (gB G + v0)), (2, .int v2)] [] M := by
  intro n
  induction n with
  | zero => intro v0 v2 M hf; exact (pk_none hf).elim
  | succ n ih =>
    intro v0 v2 M hf
    rw [f_X6_recall_79] at hf
    refine s_iload_n X 1 dX6_recall_79 rfl rfl ?_
    refine s_aload_n X 0 dX6_recall_80 rfl rfl ?_
    obtain ⟨h1, hf⟩ := pk_chk hf
    obtain ⟨o2, e3, hf⟩ := pk_bnd hf
    obtain ⟨h4, hf⟩ := pk_chk hf
    refine s_getR X (ci := 6) (k := 0) rfl (Nat.le_of_ble_eq_true rfl) h1 wd522 (fun _ _ _ => rfl) (e3 ▸ h4) dX6_recall_81 (e3 ▸ ?_)
    obtain ⟨o5, e6, hf⟩ := pk_bnd hf
    obtain ⟨h7, hf⟩ := pk_chk hf
    refine s_getR X (ci := 2) (k := 0) rfl (Nat.le_of_ble_eq_true rfl) h4 wd418 (fun _ _ _ => rfl) (e6 ▸ h7) dX6_recall_84 (e6 ▸ ?_)
    refine s_getI X (ci := 7) (k := 3) rfl (Nat.le_of_ble_eq_true rfl) h7 wd168 (fun _ _ _ => rfl) dX6_recall_87 ?_
    have hs8 := pk_ite hf
    clear hf
    refine s_icmp_ge X (tgt := 144) dX6_recall_90 rfl (fun c9 => ?_) (fun c9 => ?_)
    · have hf := hs8.1 c9
      cases hf
      exact s_vret X hr hlk dX6_recall_144
    · have hf := hs8.2 c9
      refine s_aload_n X 0 dX6_recall_93 rfl rfl ?_
      obtain ⟨r11, M12, hc10, hf⟩ := pk_obd2 hf
      refine s_callV X (ci := 6) (k_X6_pull G hc10) rfl h1 wd1305 wd1307 wd39 wd1308 wd135 cd_X6_pull ⟨Nat.le_of_ble_eq_true rfl, Nat.le_of_ble_eq_true rfl⟩ (Nat.le_of_ble_eq_true rfl) dX6_recall_94 ?_
      refine s_istore_n X (vs' := [(0, .ref (gB G + v0)), (2, .int v2), (3, .int r11)]) dX6_recall_97 rfl (Nat.le_of_ble_eq_true rfl) [1, 2, 0] rfl ?_
      refine s_iconst X (v := (0 : Int32)) dX6_recall_98 rfl ?_
      refine s_istore X (vs' := [(0, .ref (gB G + v0)), (2, .int v2), (3, .int r11), (4, .int (0 : Int32))]) dX6_recall_99 (Nat.le_of_ble_eq_true rfl) [1, 2, 3, 0] rfl ?_
      exact l_X6_recall_101 X hr hlk hnm ih _ _ _ _ _ hf
theorem l_X6_recall_34 {rv : Mem} (X : Cx p R s m args c G M0 cX6_recall yX6_recall.cls 5 4 100) (hr : meth.sig.returnType = none) (hlk : meth.locks = false) (hnm : meth.name = "recall") : ∀ {n : Nat} (v0 : Nat) (v2 : Int32) (M : Mem), f_X6_recall_34 n v0 v2 M = some rv → Sg p l e R s m args below meth c (Qm below G args s none M0 rv) G M0 5 34 [(0, .ref (gB G + v0)), (2, .int v2)] [] M := by
  intro n
  induction n with
  | zero => intro v0 v2 M hf; exact (pk_none hf).elim
  | succ n ih =>
    intro v0 v2 M hf
    rw [f_X6_recall_34] at hf
    refine s_iload_n X 1 dX6_recall_34 rfl rfl ?_
    refine s_aload_n X 0 dX6_recall_35 rfl rfl ?_
    obtain ⟨h1, hf⟩ := pk_chk hf
    obtain ⟨o2, e3, hf⟩ := pk_bnd hf
    obtain ⟨h4, hf⟩ := pk_chk hf
    refine s_getR X (ci := 6) (k := 0) rfl (Nat.le_of_ble_eq_true rfl) h1 wd522 (fun _ _ _ => rfl) (e3 ▸ h4) dX6_recall_36 (e3 ▸ ?_)
    obtain ⟨o5, e6, hf⟩ := pk_bnd hf
    obtain ⟨h7, hf⟩ := pk_chk hf
    refine s_getR X (ci := 2) (k := 0) rfl (Nat.le_of_ble_eq_true rfl) h4 wd418 (fun _ _ _ => rfl) (e6 ▸ h7) dX6_recall_39 (e6 ▸ ?_)
    refine s_getI X (ci := 7) (k := 3) rfl (Nat.le_of_ble_eq_true rfl) h7 wd168 (fun _ _ _ => rfl) dX6_recall_42 ?_
    have hs8 := pk_ite hf
    clear hf
    refine s_icmp_ge X (tgt := 67) dX6_recall_45 rfl (fun c9 => ?_) (fun c9 => ?_)
    · have hf := hs8.1 c9
      refine s_aload_n X 0 dX6_recall_67 rfl rfl ?_
      obtain ⟨o10, e11, hf⟩ := pk_bnd hf
      obtain ⟨h12, hf⟩ := pk_chk hf
      refine s_getR X (ci := 6) (k := 0) rfl (Nat.le_of_ble_eq_true rfl) h1 wd522 (fun _ _ _ => rfl) (e11 ▸ h12) dX6_recall_68 (e11 ▸ ?_)
      obtain ⟨o13, e14, hf⟩ := pk_bnd hf
      obtain ⟨h15, hf⟩ := pk_chk hf
      refine s_getR X (ci := 2) (k := 1) rfl (Nat.le_of_ble_eq_true rfl) h12 wd421 (fun _ _ _ => rfl) (e14 ▸ h15) dX6_recall_71 (e14 ▸ ?_)
      obtain ⟨M17, hc16, hf⟩ := pk_obd hf
      refine s_callV X (ci := 5) (k_X5_clearLanes G hc16) rfl h15 wd1313 wd595 wd596 wd597 wd131 cd_X5_clearLanes ⟨Nat.le_of_ble_eq_true rfl, Nat.le_of_ble_eq_true rfl⟩ (Nat.le_of_ble_eq_true rfl) dX6_recall_74 ?_
      refine s_iconst X (v := (0 : Int32)) dX6_recall_77 rfl ?_
      refine s_istore_n X (vs' := [(0, .ref (gB G + v0)), (2, .int (0 : Int32))]) dX6_recall_78 rfl (Nat.le_of_ble_eq_true rfl) [1, 0] rfl ?_
      exact l_X6_recall_79 X hr hlk hnm _ _ _ hf
    · have hf := hs8.2 c9
      refine s_aload_n X 0 dX6_recall_48 rfl rfl ?_
      refine s_aload_n X 0 dX6_recall_49 rfl rfl ?_
      obtain ⟨o18, e19, hf⟩ := pk_bnd hf
      obtain ⟨h20, hf⟩ := pk_chk hf
      refine s_getR X (ci := 6) (k := 0) rfl (Nat.le_of_ble_eq_true rfl) h1 wd522 (fun _ _ _ => rfl) (e19 ▸ h20) dX6_recall_50 (e19 ▸ ?_)
      obtain ⟨o21, e22, hf⟩ := pk_bnd hf
      obtain ⟨h23, hf⟩ := pk_chk hf
      refine s_getR X (ci := 2) (k := 2) rfl (Nat.le_of_ble_eq_true rfl) h20 wd424 (fun _ _ _ => rfl) (e22 ▸ h23) dX6_recall_53 (e22 ▸ ?_)
      refine s_iload_n X 1 dX6_recall_56 rfl rfl ?_
      obtain ⟨h24, hf⟩ := pk_chk hf
      obtain ⟨o25, e26, hf⟩ := pk_bnd hf
      obtain ⟨h27, hf⟩ := pk_chk hf
      refine s_aald X h23 h24 (e26 ▸ h27) dX6_recall_57 (e26 ▸ ?_)
      obtain ⟨M29, hc28, hf⟩ := pk_obd hf
      refine s_callV X (ci := 6) (k_X6_recallPlace G hc28) rfl h1 wd1309 wd1311 wd40 wd1312 wd135 cd_X6_recallPlace ⟨Nat.le_of_ble_eq_true rfl, Nat.le_of_ble_eq_true rfl⟩ (Nat.le_of_ble_eq_true rfl) dX6_recall_58 ?_
      obtain ⟨x30, e31, hf⟩ := pk_bnd hf
      refine s_iinc X (vs' := [(0, .ref (gB G + v0)), (2, .int x30)]) 1 dX6_recall_61 rfl (v := x30) e31.symm (Nat.le_of_ble_eq_true rfl) [1, 0] rfl ?_
      refine s_goto X (tgt := 34) dX6_recall_64 rfl ?_
      exact ih _ _ _ hf
end
theorem k_X6_recall (G : Gam) {n : Nat} {o : Nat} {a1 : Int32} {M : Mem} {rv : Mem} (hf : f_X6_recall n o a1 M = some rv) : Kt yX6_recall cX6_recall 5 none 4 100 G [.ref (gB G + o), .int a1] M rv none := by
  refine Kt.of (by decide) (Nat.le_of_ble_eq_true rfl) ?_
  intro p l e R s m args below meth c X hr hlk hnm
  refine s_drop [0, 1] (vs' := [(0, .ref (gB G + o)), (1, .int a1)]) rfl ?_
  rw [f_X6_recall] at hf
  refine s_aload_n X 0 dX6_recall_0 rfl rfl ?_
  refine s_aload_n X 0 dX6_recall_1 rfl rfl ?_
  obtain ⟨h1, hf⟩ := pk_chk hf
  obtain ⟨o2, e3, hf⟩ := pk_bnd hf
  obtain ⟨h4, hf⟩ := pk_chk hf
  refine s_getR X (ci := 6) (k := 1) rfl (Nat.le_of_ble_eq_true rfl) h1 wd523 (fun _ _ _ => rfl) (e3 ▸ h4) dX6_recall_2 (e3 ▸ ?_)
  refine s_iload_n X 1 dX6_recall_5 rfl rfl ?_
  obtain ⟨h5, hf⟩ := pk_chk hf
  refine s_iald X h4 h5 dX6_recall_6 ?_
  obtain ⟨M6, e7, hf⟩ := pk_bnd hf
  refine s_putI X (ci := 6) (k := 7) rfl (Nat.le_of_ble_eq_true rfl) h1 wd529 (fun _ _ _ => rfl) rfl rfl e7 dX6_recall_7 ?_
  have h8 := io_sI e7 h1
  have h9 := io_sI e7 h4
  refine s_aload_n X 0 dX6_recall_10 rfl rfl ?_
  obtain ⟨o10, e11, hf⟩ := pk_bnd hf
  obtain ⟨h12, hf⟩ := pk_chk hf
  refine s_getR X (ci := 6) (k := 0) rfl (Nat.le_of_ble_eq_true rfl) h8 wd522 (fun _ _ _ => rfl) (e11 ▸ h12) dX6_recall_11 (e11 ▸ ?_)
  refine s_aload_n X 0 dX6_recall_14 rfl rfl ?_
  obtain ⟨r14, M15, hc13, hf⟩ := pk_obd2 hf
  refine s_callV X (ci := 6) (k_X6_pull G hc13) rfl h8 wd1305 wd1307 wd39 wd1308 wd135 cd_X6_pull ⟨Nat.le_of_ble_eq_true rfl, Nat.le_of_ble_eq_true rfl⟩ (Nat.le_of_ble_eq_true rfl) dX6_recall_15 ?_
  obtain ⟨h16, hf⟩ := pk_chk hf
  obtain ⟨M17, e18, hf⟩ := pk_bnd hf
  refine s_putI X (ci := 2) (k := 7) rfl (Nat.le_of_ble_eq_true rfl) h16 wd436 (fun _ _ _ => rfl) rfl rfl e18 dX6_recall_18 ?_
  have h19 := io_sI e18 h16
  refine s_aload_n X 0 dX6_recall_21 rfl rfl ?_
  obtain ⟨h20, hf⟩ := pk_chk hf
  obtain ⟨o21, e22, hf⟩ := pk_bnd hf
  obtain ⟨h23, hf⟩ := pk_chk hf
  refine s_getR X (ci := 6) (k := 0) rfl (Nat.le_of_ble_eq_true rfl) h20 wd522 (fun _ _ _ => rfl) (e22 ▸ h23) dX6_recall_22 (e22 ▸ ?_)
  refine s_aload_n X 0 dX6_recall_25 rfl rfl ?_
  obtain ⟨r25, M26, hc24, hf⟩ := pk_obd2 hf
  refine s_callV X (ci := 6) (k_X6_pull G hc24) rfl h20 wd1305 wd1307 wd39 wd1308 wd135 cd_X6_pull ⟨Nat.le_of_ble_eq_true rfl, Nat.le_of_ble_eq_true rfl⟩ (Nat.le_of_ble_eq_true rfl) dX6_recall_26 ?_
  obtain ⟨h27, hf⟩ := pk_chk hf
  obtain ⟨M28, e29, hf⟩ := pk_bnd hf
  refine s_putI X (ci := 2) (k := 8) rfl (Nat.le_of_ble_eq_true rfl) h27 wd439 (fun _ _ _ => rfl) rfl rfl e29 dX6_recall_29 ?_
  have h30 := io_sI e29 h27
  refine s_iconst X (v := (0 : Int32)) dX6_recall_32 rfl ?_
  refine s_istore_n X (vs' := [(0, .ref (gB G + o)), (1, .int a1), (2, .int (0 : Int32))]) dX6_recall_33 rfl (Nat.le_of_ble_eq_true rfl) [1, 2, 0] rfl ?_
  refine s_drop [0, 2] (vs' := [(0, .ref (gB G + o)), (2, .int (0 : Int32))]) rfl ?_
  exact l_X6_recall_34 X hr hlk hnm _ _ _ hf
theorem dX6_run_0 : decode cX6_run 0 = .ok (.aload_n 0, 1) := dk_42 (by decide +kernel)
theorem dX6_run_1 : decode cX6_run 1 = .ok (.aload_n 1, 1) := dk_43 (by decide +kernel)
theorem dX6_run_2 : decode cX6_run 2 = .ok (.iload_n 2, 1) := dk_28 (by decide +kernel)
theorem dX6_run_3 : decode cX6_run 3 = .ok (.iload_n 3, 1) := dk_29 (by decide +kernel)
theorem dX6_run_4 : decode cX6_run 4 = .ok (.invokevirtual 31, 3) := dk_182 (x := 0) (y := 31) (by decide +kernel) rfl
theorem dX6_run_7 : decode cX6_run 7 = .ok (.aload_n 0, 1) := dk_42 (by decide +kernel)
theorem dX6_run_8 : decode cX6_run 8 = .ok (.iconst 0, 1) := dk_3 (by decide +kernel)
theorem dX6_run_9 : decode cX6_run 9 = .ok (.invokevirtual 35, 3) := dk_182 (x := 0) (y := 35) (by decide +kernel) rfl
theorem dX6_run_12 : decode cX6_run 12 = .ok (.iconst 0, 1) := dk_3 (by decide +kernel)
theorem dX6_run_13 : decode cX6_run 13 = .ok (.istore 4, 2) := dk_54 (x := 4) (by decide +kernel)
theorem dX6_run_15 : decode cX6_run 15 = .ok (.iload 4, 2) := dk_21 (x := 4) (by decide +kernel)
theorem dX6_run_17 : decode cX6_run 17 = .ok (.aload_n 0, 1) := dk_42 (by decide +kernel)
theorem dX6_run_18 : decode cX6_run 18 = .ok (.getfield 39, 3) := dk_180 (x := 0) (y := 39) (by decide +kernel) rfl
theorem dX6_run_21 : decode cX6_run 21 = .ok (.if_icmp .ge 125, 3) := dk_162 (x := 0) (y := 125) (by decide +kernel) rfl
theorem dX6_run_24 : decode cX6_run 24 = .ok (.aload_n 0, 1) := dk_42 (by decide +kernel)
theorem dX6_run_25 : decode cX6_run 25 = .ok (.getfield 43, 3) := dk_180 (x := 0) (y := 43) (by decide +kernel) rfl
theorem dX6_run_28 : decode cX6_run 28 = .ok (.ifCond .ne 118, 3) := dk_154 (x := 0) (y := 118) (by decide +kernel) rfl
theorem dX6_run_31 : decode cX6_run 31 = .ok (.aload_n 0, 1) := dk_42 (by decide +kernel)
theorem dX6_run_32 : decode cX6_run 32 = .ok (.iload 4, 2) := dk_21 (x := 4) (by decide +kernel)
theorem dX6_run_34 : decode cX6_run 34 = .ok (.invokevirtual 47, 3) := dk_182 (x := 0) (y := 47) (by decide +kernel) rfl
theorem dX6_run_37 : decode cX6_run 37 = .ok (.aload_n 0, 1) := dk_42 (by decide +kernel)
theorem dX6_run_38 : decode cX6_run 38 = .ok (.getfield 27, 3) := dk_180 (x := 0) (y := 27) (by decide +kernel) rfl
theorem dX6_run_41 : decode cX6_run 41 = .ok (.invokevirtual 50, 3) := dk_182 (x := 0) (y := 50) (by decide +kernel) rfl
theorem dX6_run_44 : decode cX6_run 44 = .ok (.istore 5, 2) := dk_54 (x := 5) (by decide +kernel)
theorem dX6_run_46 : decode cX6_run 46 = .ok (.aload_n 0, 1) := dk_42 (by decide +kernel)
theorem dX6_run_47 : decode cX6_run 47 = .ok (.invokevirtual 56, 3) := dk_182 (x := 0) (y := 56) (by decide +kernel) rfl
theorem dX6_run_50 : decode cX6_run 50 = .ok (.istore 6, 2) := dk_54 (x := 6) (by decide +kernel)
theorem dX6_run_52 : decode cX6_run 52 = .ok (.iload 5, 2) := dk_21 (x := 5) (by decide +kernel)
theorem dX6_run_54 : decode cX6_run 54 = .ok (.iload 6, 2) := dk_21 (x := 6) (by decide +kernel)
theorem dX6_run_56 : decode cX6_run 56 = .ok (.invokestatic 59, 3) := dk_184 (x := 0) (y := 59) (by decide +kernel) rfl
theorem dX6_run_59 : decode cX6_run 59 = .ok (.iadd, 1) := dk_96 (by decide +kernel)
theorem dX6_run_60 : decode cX6_run 60 = .ok (.istore 7, 2) := dk_54 (x := 7) (by decide +kernel)
theorem dX6_run_62 : decode cX6_run 62 = .ok (.iconst 0, 1) := dk_3 (by decide +kernel)
theorem dX6_run_63 : decode cX6_run 63 = .ok (.istore 8, 2) := dk_54 (x := 8) (by decide +kernel)
theorem dX6_run_65 : decode cX6_run 65 = .ok (.iload 8, 2) := dk_21 (x := 8) (by decide +kernel)
theorem dX6_run_67 : decode cX6_run 67 = .ok (.iload 7, 2) := dk_21 (x := 7) (by decide +kernel)
theorem dX6_run_69 : decode cX6_run 69 = .ok (.if_icmp .ge 71, 3) := dk_162 (x := 0) (y := 71) (by decide +kernel) rfl
theorem dX6_run_72 : decode cX6_run 72 = .ok (.aload_n 0, 1) := dk_42 (by decide +kernel)
theorem dX6_run_73 : decode cX6_run 73 = .ok (.getfield 43, 3) := dk_180 (x := 0) (y := 43) (by decide +kernel) rfl
theorem dX6_run_76 : decode cX6_run 76 = .ok (.ifCond .ne 64, 3) := dk_154 (x := 0) (y := 64) (by decide +kernel) rfl
theorem dX6_run_79 : decode cX6_run 79 = .ok (.aload_n 0, 1) := dk_42 (by decide +kernel)
theorem dX6_run_80 : decode cX6_run 80 = .ok (.iload 4, 2) := dk_21 (x := 4) (by decide +kernel)
theorem dX6_run_82 : decode cX6_run 82 = .ok (.invokevirtual 47, 3) := dk_182 (x := 0) (y := 47) (by decide +kernel) rfl
theorem dX6_run_85 : decode cX6_run 85 = .ok (.iload 8, 2) := dk_21 (x := 8) (by decide +kernel)
theorem dX6_run_87 : decode cX6_run 87 = .ok (.iload 5, 2) := dk_21 (x := 5) (by decide +kernel)
theorem dX6_run_89 : decode cX6_run 89 = .ok (.if_icmp .ge 15, 3) := dk_162 (x := 0) (y := 15) (by decide +kernel) rfl
theorem dX6_run_92 : decode cX6_run 92 = .ok (.aload_n 0, 1) := dk_42 (by decide +kernel)
theorem dX6_run_93 : decode cX6_run 93 = .ok (.getfield 27, 3) := dk_180 (x := 0) (y := 27) (by decide +kernel) rfl
theorem dX6_run_96 : decode cX6_run 96 = .ok (.iload 8, 2) := dk_21 (x := 8) (by decide +kernel)
theorem dX6_run_98 : decode cX6_run 98 = .ok (.invokevirtual 65, 3) := dk_182 (x := 0) (y := 65) (by decide +kernel) rfl
theorem dX6_run_101 : decode cX6_run 101 = .ok (.goto 20, 3) := dk_167 (x := 0) (y := 20) (by decide +kernel) rfl
theorem dX6_run_104 : decode cX6_run 104 = .ok (.aload_n 0, 1) := dk_42 (by decide +kernel)
theorem dX6_run_105 : decode cX6_run 105 = .ok (.getfield 27, 3) := dk_180 (x := 0) (y := 27) (by decide +kernel) rfl
theorem dX6_run_108 : decode cX6_run 108 = .ok (.iload 6, 2) := dk_21 (x := 6) (by decide +kernel)
theorem dX6_run_110 : decode cX6_run 110 = .ok (.iload 8, 2) := dk_21 (x := 8) (by decide +kernel)
theorem dX6_run_112 : decode cX6_run 112 = .ok (.iload 5, 2) := dk_21 (x := 5) (by decide +kernel)
theorem dX6_run_114 : decode cX6_run 114 = .ok (.isub, 1) := dk_100 (by decide +kernel)
theorem dX6_run_115 : decode cX6_run 115 = .ok (.invokestatic 68, 3) := dk_184 (x := 0) (y := 68) (by decide +kernel) rfl
theorem dX6_run_118 : decode cX6_run 118 = .ok (.invokevirtual 72, 3) := dk_182 (x := 0) (y := 72) (by decide +kernel) rfl
theorem dX6_run_121 : decode cX6_run 121 = .ok (.aload_n 0, 1) := dk_42 (by decide +kernel)
theorem dX6_run_122 : decode cX6_run 122 = .ok (.aload_n 0, 1) := dk_42 (by decide +kernel)
theorem dX6_run_123 : decode cX6_run 123 = .ok (.getfield 15, 3) := dk_180 (x := 0) (y := 15) (by decide +kernel) rfl
theorem dX6_run_126 : decode cX6_run 126 = .ok (.iload 4, 2) := dk_21 (x := 4) (by decide +kernel)
theorem dX6_run_128 : decode cX6_run 128 = .ok (.iaload, 1) := dk_46 (by decide +kernel)
theorem dX6_run_129 : decode cX6_run 129 = .ok (.iconst 1, 1) := dk_4 (by decide +kernel)
theorem dX6_run_130 : decode cX6_run 130 = .ok (.iadd, 1) := dk_96 (by decide +kernel)
theorem dX6_run_131 : decode cX6_run 131 = .ok (.invokevirtual 35, 3) := dk_182 (x := 0) (y := 35) (by decide +kernel) rfl
theorem dX6_run_134 : decode cX6_run 134 = .ok (.iinc 8 1, 3) := dk_132 (x := 8) (y := 1) (by decide +kernel) rfl
theorem dX6_run_137 : decode cX6_run 137 = .ok (.goto (-72), 3) := dk_167 (x := 255) (y := 184) (by decide +kernel) rfl
theorem dX6_run_140 : decode cX6_run 140 = .ok (.iinc 4 1, 3) := dk_132 (x := 4) (y := 1) (by decide +kernel) rfl
theorem dX6_run_143 : decode cX6_run 143 = .ok (.goto (-128), 3) := dk_167 (x := 255) (y := 128) (by decide +kernel) rfl
theorem dX6_run_146 : decode cX6_run 146 = .ok (.return_, 1) := dk_177 (by decide +kernel)
def f_X6_run_121 (k_15 : Nat → Int32 → Mem → Option Mem) (k_65 : Nat → Int32 → Int32 → Int32 → Int32 → Int32 → Mem → Option Mem) (n : Nat) (v0 : Nat) (v4 : Int32) (v5 : Int32) (v6 : Int32) (v7 : Int32) (v8 : Int32) (M : Mem) : Option Mem :=
    chk (isO M 6 v0) <|
    bnd (mR M v0 2) fun o2 =>
    chk (isO M 100 o2) <|
    chk (inB v4 (mLn M o2)) <|
    obd (f_X6_meet n v0 ((mI M o2 (v4).toNatClampNeg) + (1 : Int32)) M) fun M7 =>
    bnd (v8 + (1 : Int32)) fun x8 =>
    k_65 v0 v4 v5 v6 v7 x8 M7
def f_X6_run_65 (k_15 : Nat → Int32 → Mem → Option Mem) : Nat → Nat → Int32 → Int32 → Int32 → Int32 → Int32 → Mem → Option Mem
  | 0, _, _, _, _, _, _, _ => none
  | n + 1, v0, v4, v5, v6, v7, v8, M =>
    if v7 ≤ v8 then (
      bnd (v4 + (1 : Int32)) fun x3 =>
      k_15 v0 x3 M
      ) else (
      chk (isO M 6 v0) <|
      if (mI M v0 15) = 0 then (
        obd (f_X6_recall n v0 v4 M) fun M11 =>
        if v5 ≤ v8 then (
          chk (isO M11 6 v0) <|
          bnd (mR M11 v0 0) fun o15 =>
          chk (isO M11 2 o15) <|
          obd (f_X9_memberAt n v6 (v8 - v5) M11) fun r19 =>
          obd (f_X2_startAsking n o15 r19 M11) fun M21 =>
          f_X6_run_121 k_15 (f_X6_run_65 k_15 n) n v0 v4 v5 v6 v7 v8 M21
          ) else (
          chk (isO M11 6 v0) <|
          bnd (mR M11 v0 0) fun o23 =>
          chk (isO M11 2 o23) <|
          obd (f_X2_makeMove n o23 v8 M11) fun M27 =>
          f_X6_run_121 k_15 (f_X6_run_65 k_15 n) n v0 v4 v5 v6 v7 v8 M27
          )
        ) else (
        bnd (v4 + (1 : Int32)) fun x8 =>
        k_15 v0 x8 M
        )
      )
def f_X6_run_15 : Nat → Nat → Int32 → Mem → Option Mem
  | 0, _, _, _ => none
  | n + 1, v0, v4, M =>
    chk (isO M 6 v0) <|
    if (mI M v0 10) ≤ v4 then (
      some M
      ) else (
      if (mI M v0 15) = 0 then (
        obd (f_X6_recall n v0 v4 M) fun M7 =>
        chk (isO M7 6 v0) <|
        bnd (mR M7 v0 0) fun o9 =>
        chk (isO M7 2 o9) <|
        obd (f_X2_countMoves n o9 M7) fun r13 =>
        obd (f_X6_asksNow n v0 M7) fun r15 =>
        obd (f_J6_bitCount_0f7a4 r15 M7) fun r17 =>
        bnd (r13 + r17) fun x18 =>
        f_X6_run_65 (f_X6_run_15 n) n v0 v4 r13 r15 x18 (0 : Int32) M7
        ) else (
        some M
        )
      )
def f_X6_run (n : Nat) (o : Nat) (a1 : Nat) (a2 : Int32) (a3 : Int32) (M : Mem) : Option Mem :=
  chk (isO M 6 o) <|
  obd (f_X6_begin n o a1 a2 a3 M) fun M3 =>
  chk (isO M3 6 o) <|
  obd (f_X6_meet n o (0 : Int32) M3) fun M6 =>
  f_X6_run_15 n o (0 : Int32) M6
theorem cd_X6_run : (yX6_run.cls ≠ "java/lang/invoke/MethodHandle" ∧ yX6_run.cls ≠ "java/lang/invoke/VarHandle") ∧ (parseMethodDescriptor yX6_run.desc).map (fun d => d.parameters.length) = some 3 := ⟨⟨by decide +kernel, by decide +kernel⟩, by decide +kernel⟩
section
variable {p : Program} {l : Launch} {e : Env} {R : Room} {s : State} {m : MethodId} {args : Array Value} {below : List Frame} {meth : Method} {c : Code} {G : Gam} {M0 : Mem}
theorem l_X6_run_121 {k_15 : Nat → Int32 → Mem → Option Mem} {k_65 : Nat → Int32 → Int32 → Int32 → Int32 → Int32 → Mem → Option Mem} {rv : Mem} {n : Nat} {v0 : Nat} {v4 : Int32} {v5 : Int32} {v6 : Int32} {v7 : Int32} {v8 : Int32} {M : Mem} (X : Cx p R s m args c G M0 cX6_run yX6_run.cls 9 7 173) (hr : meth.sig.returnType = none) (hlk : meth.locks = false) (hnm : meth.name = "run") (hk_15 : ∀ (v0 : Nat), ∀ (v4 : Int32), ∀ M : Mem, k_15 v0 v4 M = some rv → Sg p l e R s m args below meth c (Qm below G args s none M0 rv) G M0 9 15 [(0, .ref (gB G + v0)), (4, .int v4)] [] M) (hk_65 : ∀ (v0 : Nat), ∀ (v4 : Int32), ∀ (v5 : Int32), ∀ (v6 : Int32), ∀ (v7 : Int32), ∀ (v8 : Int32), ∀ M : Mem, k_65 v0 v4 v5 v6 v7 v8 M = some rv → Sg p l e R s m args below meth c (Qm below G args s none M0 rv) G M0 9 65 [(0, .ref (gB G + v0)), (4, .int v4), (5, .int v5), (6, .int v6), (7, .int v7), (8, .int v8)] [] M) (hf : f_X6_run_121 k_15 k_65 n v0 v4 v5 v6 v7 v8 M = some rv) : Sg p l e R s m args below meth c (Qm below G args s none M0 rv) G M0 9 121 [(0, .ref (gB G + v0)), (4, .int v4), (5, .int v5), (6, .int v6), (7, .int v7), (8, .int v8)] [] M := by
  rw [f_X6_run_121] at hf
  refine s_aload_n X 0 dX6_run_121 rfl rfl ?_
  refine s_aload_n X 0 dX6_run_122 rfl rfl ?_
  obtain ⟨h1, hf⟩ := pk_chk hf
  obtain ⟨o2, e3, hf⟩ := pk_bnd hf
  obtain ⟨h4, hf⟩ := pk_chk hf
  refine s_getR X (ci := 6) (k := 2) rfl (Nat.le_of_ble_eq_true rfl) h1 wd524 (fun _ _ _ => rfl) (e3 ▸ h4) dX6_run_123 (e3 ▸ ?_)
  refine s_iload X 1 dX6_run_126 rfl ?_
  obtain ⟨h5, hf⟩ := pk_chk hf
  refine s_iald X h4 h5 dX6_run_128 ?_
  refine s_iconst X (v := (1 : Int32)) dX6_run_129 rfl ?_
  refine s_iadd X dX6_run_130 ?_
  obtain ⟨M7, hc6, hf⟩ := pk_obd hf
  refine s_callV X (ci := 6) (k_X6_meet G hc6) rfl h1 wd1263 wd1265 wd30 wd1266 wd135 cd_X6_meet ⟨Nat.le_of_ble_eq_true rfl, Nat.le_of_ble_eq_true rfl⟩ (Nat.le_of_ble_eq_true rfl) dX6_run_131 ?_
  obtain ⟨x8, e9, hf⟩ := pk_bnd hf
  refine s_iinc X (vs' := [(0, .ref (gB G + v0)), (4, .int v4), (5, .int v5), (6, .int v6), (7, .int v7), (8, .int x8)]) 5 dX6_run_134 rfl (v := x8) e9.symm (Nat.le_of_ble_eq_true rfl) [1, 2, 3, 4, 5, 0] rfl ?_
  refine s_goto X (tgt := 65) dX6_run_137 rfl ?_
  exact hk_65 _ _ _ _ _ _ _ hf
theorem l_X6_run_65 {k_15 : Nat → Int32 → Mem → Option Mem} {rv : Mem} (X : Cx p R s m args c G M0 cX6_run yX6_run.cls 9 7 173) (hr : meth.sig.returnType = none) (hlk : meth.locks = false) (hnm : meth.name = "run") (hk_15 : ∀ (v0 : Nat), ∀ (v4 : Int32), ∀ M : Mem, k_15 v0 v4 M = some rv → Sg p l e R s m args below meth c (Qm below G args s none M0 rv) G M0 9 15 [(0, .ref (gB G + v0)), (4, .int v4)] [] M) : ∀ {n : Nat} (v0 : Nat) (v4 : Int32) (v5 : Int32) (v6 : Int32) (v7 : Int32) (v8 : Int32) (M : Mem), f_X6_run_65 k_15 n v0 v4 v5 v6 v7 v8 M = some rv → Sg p l e R s m args below meth c (Qm below G args s none M0 rv) G M0 9 65 [(0, .ref (gB G + v0)), (4, .int v4), (5, .int v5), (6, .int v6), (7, .int v7), (8, .int v8)] [] M := by
  intro n
  induction n with
  | zero => intro v0 v4 v5 v6 v7 v8 M hf; exact (pk_none hf).elim
  | succ n ih =>
    intro v0 v4 v5 v6 v7 v8 M hf
    rw [f_X6_run_65] at hf
    refine s_iload X 5 dX6_run_65 rfl ?_
    refine s_iload X 4 dX6_run_67 rfl ?_
    have hs1 := pk_ite hf
    clear hf
    refine s_icmp_ge X (tgt := 140) dX6_run_69 rfl (fun c2 => ?_) (fun c2 => ?_)
    · have hf := hs1.1 c2
      obtain ⟨x3, e4, hf⟩ := pk_bnd hf
      refine s_iinc X (vs' := [(0, .ref (gB G + v0)), (4, .int x3), (5, .int v5), (6, .int v6), (7, .int v7), (8, .int v8)]) 1 dX6_run_140 rfl (v := x3) e4.symm (Nat.le_of_ble_eq_true rfl) [1, 0, 2, 3, 4, 5] rfl ?_
      refine s_goto X (tgt := 15) dX6_run_143 rfl ?_
      refine s_drop [0, 1] (vs' := [(0, .ref (gB G + v0)), (4, .int x3)]) rfl ?_
      exact hk_15 _ _ _ hf
    · have hf := hs1.2 c2
      refine s_aload_n X 0 dX6_run_72 rfl rfl ?_
      obtain ⟨h5, hf⟩ := pk_chk hf
      refine s_getI X (ci := 6) (k := 15) rfl (Nat.le_of_ble_eq_true rfl) h5 wd537 (fun _ _ _ => rfl) dX6_run_73 ?_
      have hs6 := pk_ite hf
      clear hf
      refine s_if_ne X (tgt := 140) dX6_run_76 rfl (fun c7 => ?_) (fun c7 => ?_)
      · have hf := hs6.2 c7
        obtain ⟨x8, e9, hf⟩ := pk_bnd hf
        refine s_iinc X (vs' := [(0, .ref (gB G + v0)), (4, .int x8), (5, .int v5), (6, .int v6), (7, .int v7), (8, .int v8)]) 1 dX6_run_140 rfl (v := x8) e9.symm (Nat.le_of_ble_eq_true rfl) [1, 0, 2, 3, 4, 5] rfl ?_
        refine s_goto X (tgt := 15) dX6_run_143 rfl ?_
        refine s_drop [0, 1] (vs' := [(0, .ref (gB G + v0)), (4, .int x8)]) rfl ?_
        exact hk_15 _ _ _ hf
      · have hf := hs6.1 c7
        refine s_aload_n X 0 dX6_run_79 rfl rfl ?_
        refine s_iload X 1 dX6_run_80 rfl ?_
        obtain ⟨M11, hc10, hf⟩ := pk_obd hf
        refine s_callV X (ci := 6) (k_X6_recall G hc10) rfl h5 wd1301 wd1303 wd38 wd1304 wd135 cd_X6_recall ⟨Nat.le_of_ble_eq_true rfl, Nat.le_of_ble_eq_true rfl⟩ (Nat.le_of_ble_eq_true rfl) dX6_run_82 ?_
        refine s_iload X 5 dX6_run_85 rfl ?_
        refine s_iload X 2 dX6_run_87 rfl ?_
        have hs12 := pk_ite hf
        clear hf
        refine s_icmp_ge X (tgt := 104) dX6_run_89 rfl (fun c13 => ?_) (fun c13 => ?_)
        · have hf := hs12.1 c13
          refine s_aload_n X 0 dX6_run_104 rfl rfl ?_
          obtain ⟨h14, hf⟩ := pk_chk hf
          obtain ⟨o15, e16, hf⟩ := pk_bnd hf
          obtain ⟨h17, hf⟩ := pk_chk hf
          refine s_getR X (ci := 6) (k := 0) rfl (Nat.le_of_ble_eq_true rfl) h14 wd522 (fun _ _ _ => rfl) (e16 ▸ h17) dX6_run_105 (e16 ▸ ?_)
          refine s_iload X 3 dX6_run_108 rfl ?_
          refine s_iload X 5 dX6_run_110 rfl ?_
          refine s_iload X 2 dX6_run_112 rfl ?_
          refine s_isub X dX6_run_114 ?_
          obtain ⟨r19, hc18, hf⟩ := pk_obd hf
          refine s_callSN X (k_X9_memberAt G hc18) (host := "QuorumGate") ns_14 wd1227 wd1228 wd126 cd_X9_memberAt ⟨Nat.le_of_ble_eq_true rfl, Nat.le_of_ble_eq_true rfl⟩ (Nat.le_of_ble_eq_true rfl) dX6_run_115 ?_
          obtain ⟨M21, hc20, hf⟩ := pk_obd hf
          refine s_callV X (ci := 2) (k_X2_startAsking G hc20) rfl h17 wd1323 wd937 wd938 wd939 wd130 cd_X2_startAsking ⟨Nat.le_of_ble_eq_true rfl, Nat.le_of_ble_eq_true rfl⟩ (Nat.le_of_ble_eq_true rfl) dX6_run_118 ?_
          exact l_X6_run_121 X hr hlk hnm hk_15 ih hf
        · have hf := hs12.2 c13
          refine s_aload_n X 0 dX6_run_92 rfl rfl ?_
          obtain ⟨h22, hf⟩ := pk_chk hf
          obtain ⟨o23, e24, hf⟩ := pk_bnd hf
          obtain ⟨h25, hf⟩ := pk_chk hf
          refine s_getR X (ci := 6) (k := 0) rfl (Nat.le_of_ble_eq_true rfl) h22 wd522 (fun _ _ _ => rfl) (e24 ▸ h25) dX6_run_93 (e24 ▸ ?_)
          refine s_iload X 5 dX6_run_96 rfl ?_
          obtain ⟨M27, hc26, hf⟩ := pk_obd hf
          refine s_callV X (ci := 2) (k_X2_makeMove G hc26) rfl h25 wd1321 wd1223 wd1224 wd1225 wd130 cd_X2_makeMove ⟨Nat.le_of_ble_eq_true rfl, Nat.le_of_ble_eq_true rfl⟩ (Nat.le_of_ble_eq_true rfl) dX6_run_98 ?_
          refine s_goto X (tgt := 121) dX6_run_101 rfl ?_
          exact l_X6_run_121 X hr hlk hnm hk_15 ih hf
theorem l_X6_run_15 {rv : Mem} (X : Cx p R s m args c G M0 cX6_run yX6_run.cls 9 7 173) (hr : meth.sig.returnType = none) (hlk : meth.locks = false) (hnm : meth.name = "run") : ∀ {n : Nat} (v0 : Nat) (v4 : Int32) (M : Mem), f_X6_run_15 n v0 v4 M = some rv → Sg p l e R s m args below meth c (Qm below G args s none M0 rv) G M0 9 15 [(0, .ref (gB G + v0)), (4, .int v4)] [] M := by
  intro n
  induction n with
  | zero => intro v0 v4 M hf; exact (pk_none hf).elim
  | succ n ih =>
    intro v0 v4 M hf
    rw [f_X6_run_15] at hf
    refine s_iload X 1 dX6_run_15 rfl ?_
    refine s_aload_n X 0 dX6_run_17 rfl rfl ?_
    obtain ⟨h1, hf⟩ := pk_chk hf
    refine s_getI X (ci := 6) (k := 10) rfl (Nat.le_of_ble_eq_true rfl) h1 wd532 (fun _ _ _ => rfl) dX6_run_18 ?_
    have hs2 := pk_ite hf
    clear hf
    refine s_icmp_ge X (tgt := 146) dX6_run_21 rfl (fun c3 => ?_) (fun c3 => ?_)
    · have hf := hs2.1 c3
      cases hf
      exact s_vret X hr hlk dX6_run_146
    · have hf := hs2.2 c3
      refine s_aload_n X 0 dX6_run_24 rfl rfl ?_
      refine s_getI X (ci := 6) (k := 15) rfl (Nat.le_of_ble_eq_true rfl) h1 wd537 (fun _ _ _ => rfl) dX6_run_25 ?_
      have hs4 := pk_ite hf
      clear hf
      refine s_if_ne X (tgt := 146) dX6_run_28 rfl (fun c5 => ?_) (fun c5 => ?_)
      · have hf := hs4.2 c5
        cases hf
        exact s_vret X hr hlk dX6_run_146
      · have hf := hs4.1 c5
        refine s_aload_n X 0 dX6_run_31 rfl rfl ?_
        refine s_iload X 1 dX6_run_32 rfl ?_
        obtain ⟨M7, hc6, hf⟩ := pk_obd hf
        refine s_callV X (ci := 6) (k_X6_recall G hc6) rfl h1 wd1301 wd1303 wd38 wd1304 wd135 cd_X6_recall ⟨Nat.le_of_ble_eq_true rfl, Nat.le_of_ble_eq_true rfl⟩ (Nat.le_of_ble_eq_true rfl) dX6_run_34 ?_
        refine s_aload_n X 0 dX6_run_37 rfl rfl ?_
        obtain ⟨h8, hf⟩ := pk_chk hf
        obtain ⟨o9, e10, hf⟩ := pk_bnd hf
        obtain ⟨h11, hf⟩ := pk_chk hf
        refine s_getR X (ci := 6) (k := 0) rfl (Nat.le_of_ble_eq_true rfl) h8 wd522 (fun _ _ _ => rfl) (e10 ▸ h11) dX6_run_38 (e10 ▸ ?_)
        obtain ⟨r13, hc12, hf⟩ := pk_obd hf
        refine s_callV X (ci := 2) (k_X2_countMoves G hc12) rfl h11 wd1295 wd1161 wd1162 wd1163 wd130 cd_X2_countMoves ⟨Nat.le_of_ble_eq_true rfl, Nat.le_of_ble_eq_true rfl⟩ (Nat.le_of_ble_eq_true rfl) dX6_run_41 ?_
        refine s_istore X (vs' := [(0, .ref (gB G + v0)), (4, .int v4), (5, .int r13)]) dX6_run_44 (Nat.le_of_ble_eq_true rfl) [1, 2, 0] rfl ?_
        refine s_aload_n X 0 dX6_run_46 rfl rfl ?_
        obtain ⟨r15, hc14, hf⟩ := pk_obd hf
        refine s_callV X (ci := 6) (k_X6_asksNow G hc14) rfl h8 wd1296 wd1298 wd37 wd1299 wd135 cd_X6_asksNow ⟨Nat.le_of_ble_eq_true rfl, Nat.le_of_ble_eq_true rfl⟩ (Nat.le_of_ble_eq_true rfl) dX6_run_47 ?_
        refine s_istore X (vs' := [(0, .ref (gB G + v0)), (4, .int v4), (5, .int r13), (6, .int r15)]) dX6_run_50 (Nat.le_of_ble_eq_true rfl) [1, 2, 3, 0] rfl ?_
        refine s_iload X 2 dX6_run_52 rfl ?_
        refine s_iload X 3 dX6_run_54 rfl ?_
        obtain ⟨r17, hc16, hf⟩ := pk_obd hf
        refine s_callS X (k_J6_bitCount_0f7a4 G hc16) wd1294 wd831 wd832 wd141 cd_J6_bitCount_0f7a4 ⟨Nat.le_of_ble_eq_true rfl, Nat.le_of_ble_eq_true rfl⟩ (Nat.le_of_ble_eq_true rfl) dX6_run_56 ?_
        refine s_iadd X dX6_run_59 ?_
        obtain ⟨x18, e19, hf⟩ := pk_bnd hf
        refine s_nmI e19 ?_
        refine s_istore X (vs' := [(0, .ref (gB G + v0)), (4, .int v4), (5, .int r13), (6, .int r15), (7, .int x18)]) dX6_run_60 (Nat.le_of_ble_eq_true rfl) [1, 2, 3, 4, 0] rfl ?_
        refine s_iconst X (v := (0 : Int32)) dX6_run_62 rfl ?_
        refine s_istore X (vs' := [(0, .ref (gB G + v0)), (4, .int v4), (5, .int r13), (6, .int r15), (7, .int x18), (8, .int (0 : Int32))]) dX6_run_63 (Nat.le_of_ble_eq_true rfl) [1, 2, 3, 4, 5, 0] rfl ?_
        exact l_X6_run_65 X hr hlk hnm ih _ _ _ _ _ _ _ hf
end
theorem k_X6_run (G : Gam) {n : Nat} {o : Nat} {a1 : Nat} {a2 : Int32} {a3 : Int32} {M : Mem} {rv : Mem} (hf : f_X6_run n o a1 a2 a3 M = some rv) : Kt yX6_run cX6_run 9 none 7 173 G [.ref (gB G + o), .ref (gB G + a1), .int a2, .int a3] M rv none := by
  refine Kt.of (by decide) (Nat.le_of_ble_eq_true rfl) ?_
  intro p l e R s m args below meth c X hr hlk hnm
  refine s_drop [0, 1, 2, 3] (vs' := [(0, .ref (gB G + o)), (1, .ref (gB G + a1)), (2, .int a2), (3, .int a3)]) rfl ?_
  rw [f_X6_run] at hf
  refine s_aload_n X 0 dX6_run_0 rfl rfl ?_
  refine s_aload_n X 1 dX6_run_1 rfl rfl ?_
  refine s_iload_n X 2 dX6_run_2 rfl rfl ?_
  refine s_iload_n X 3 dX6_run_3 rfl rfl ?_
  obtain ⟨h1, hf⟩ := pk_chk hf
  obtain ⟨M3, hc2, hf⟩ := pk_obd hf
  refine s_callV X (ci := 6) (k_X6_begin G hc2) rfl h1 wd1257 wd1259 wd29 wd1260 wd135 cd_X6_begin ⟨Nat.le_of_ble_eq_true rfl, Nat.le_of_ble_eq_true rfl⟩ (Nat.le_of_ble_eq_true rfl) dX6_run_4 ?_
  refine s_aload_n X 0 dX6_run_7 rfl rfl ?_
  refine s_iconst X (v := (0 : Int32)) dX6_run_8 rfl ?_
  obtain ⟨h4, hf⟩ := pk_chk hf
  obtain ⟨M6, hc5, hf⟩ := pk_obd hf
  refine s_callV X (ci := 6) (k_X6_meet G hc5) rfl h4 wd1263 wd1265 wd30 wd1266 wd135 cd_X6_meet ⟨Nat.le_of_ble_eq_true rfl, Nat.le_of_ble_eq_true rfl⟩ (Nat.le_of_ble_eq_true rfl) dX6_run_9 ?_
  refine s_iconst X (v := (0 : Int32)) dX6_run_12 rfl ?_
  refine s_istore X (vs' := [(0, .ref (gB G + o)), (1, .ref (gB G + a1)), (2, .int a2), (3, .int a3), (4, .int (0 : Int32))]) dX6_run_13 (Nat.le_of_ble_eq_true rfl) [1, 2, 3, 4, 0] rfl ?_
  refine s_drop [0, 4] (vs' := [(0, .ref (gB G + o)), (4, .int (0 : Int32))]) rfl ?_
  exact l_X6_run_15 X hr hlk hnm _ _ _ hf
theorem dX6_tell_0 : decode cX6_tell 0 = .ok (.iload_n 1, 1) := dk_27 (by decide +kernel)
theorem dX6_tell_1 : decode cX6_tell 1 = .ok (.tableswitch 77 0 5 #[39, 44, 49, 54, 59, 72], 39) := by decide +kernel
theorem dX6_tell_40 : decode cX6_tell 40 = .ok (.aload_n 0, 1) := dk_42 (by decide +kernel)
theorem dX6_tell_41 : decode cX6_tell 41 = .ok (.getfield 39, 3) := dk_180 (x := 0) (y := 39) (by decide +kernel) rfl
theorem dX6_tell_44 : decode cX6_tell 44 = .ok (.ireturn, 1) := dk_172 (by decide +kernel)
theorem dX6_tell_45 : decode cX6_tell 45 = .ok (.aload_n 0, 1) := dk_42 (by decide +kernel)
theorem dX6_tell_46 : decode cX6_tell 46 = .ok (.getfield 99, 3) := dk_180 (x := 0) (y := 99) (by decide +kernel) rfl
theorem dX6_tell_49 : decode cX6_tell 49 = .ok (.ireturn, 1) := dk_172 (by decide +kernel)
theorem dX6_tell_50 : decode cX6_tell 50 = .ok (.aload_n 0, 1) := dk_42 (by decide +kernel)
theorem dX6_tell_51 : decode cX6_tell 51 = .ok (.getfield 102, 3) := dk_180 (x := 0) (y := 102) (by decide +kernel) rfl
theorem dX6_tell_54 : decode cX6_tell 54 = .ok (.ireturn, 1) := dk_172 (by decide +kernel)
theorem dX6_tell_55 : decode cX6_tell 55 = .ok (.aload_n 0, 1) := dk_42 (by decide +kernel)
theorem dX6_tell_56 : decode cX6_tell 56 = .ok (.getfield 105, 3) := dk_180 (x := 0) (y := 105) (by decide +kernel) rfl
theorem dX6_tell_59 : decode cX6_tell 59 = .ok (.ireturn, 1) := dk_172 (by decide +kernel)
theorem dX6_tell_60 : decode cX6_tell 60 = .ok (.aload_n 0, 1) := dk_42 (by decide +kernel)
theorem dX6_tell_61 : decode cX6_tell 61 = .ok (.getfield 43, 3) := dk_180 (x := 0) (y := 43) (by decide +kernel) rfl
theorem dX6_tell_64 : decode cX6_tell 64 = .ok (.ifCond .eq 7, 3) := dk_153 (x := 0) (y := 7) (by decide +kernel) rfl
theorem dX6_tell_67 : decode cX6_tell 67 = .ok (.iconst 0, 1) := dk_3 (by decide +kernel)
theorem dX6_tell_68 : decode cX6_tell 68 = .ok (.goto 4, 3) := dk_167 (x := 0) (y := 4) (by decide +kernel) rfl
theorem dX6_tell_71 : decode cX6_tell 71 = .ok (.iconst 1, 1) := dk_4 (by decide +kernel)
theorem dX6_tell_72 : decode cX6_tell 72 = .ok (.ireturn, 1) := dk_172 (by decide +kernel)
theorem dX6_tell_73 : decode cX6_tell 73 = .ok (.aload_n 0, 1) := dk_42 (by decide +kernel)
theorem dX6_tell_74 : decode cX6_tell 74 = .ok (.getfield 108, 3) := dk_180 (x := 0) (y := 108) (by decide +kernel) rfl
theorem dX6_tell_77 : decode cX6_tell 77 = .ok (.ireturn, 1) := dk_172 (by decide +kernel)
theorem dX6_tell_78 : decode cX6_tell 78 = .ok (.iconst (-1), 1) := dk_2 (by decide +kernel)
theorem dX6_tell_79 : decode cX6_tell 79 = .ok (.ireturn, 1) := dk_172 (by decide +kernel)
def f_X6_tell (o : Nat) (a1 : Int32) (M : Mem) : Option Int32 :=
  if a1 = (0 : Int32) then (
    chk (isO M 6 o) <|
    some (mI M o 10)
    ) else (
  if a1 = (1 : Int32) then (
    chk (isO M 6 o) <|
    some (mI M o 11)
    ) else (
  if a1 = (2 : Int32) then (
    chk (isO M 6 o) <|
    some (mI M o 12)
    ) else (
  if a1 = (3 : Int32) then (
    chk (isO M 6 o) <|
    some (mI M o 13)
    ) else (
  if a1 = (4 : Int32) then (
    chk (isO M 6 o) <|
    if (mI M o 15) = 0 then (
      some (1 : Int32)
      ) else (
      some (0 : Int32)
      )
    ) else (
  if a1 = (5 : Int32) then (
    chk (isO M 6 o) <|
    some (mI M o 14)
    ) else (
  some (-1 : Int32)
  )
  )
  )
  )
  )
  )
theorem cd_X6_tell : (yX6_tell.cls ≠ "java/lang/invoke/MethodHandle" ∧ yX6_tell.cls ≠ "java/lang/invoke/VarHandle") ∧ (parseMethodDescriptor yX6_tell.desc).map (fun d => d.parameters.length) = some 1 := ⟨⟨by decide +kernel, by decide +kernel⟩, by decide +kernel⟩
theorem k_X6_tell (G : Gam) {o : Nat} {a1 : Int32} {M : Mem} {rv : Int32} (hf : f_X6_tell o a1 M = some rv) : Kt yX6_tell cX6_tell 2 (some .int) 0 0 G [.ref (gB G + o), .int a1] M M (some (.int rv)) := by
  refine Kt.of (by decide) (Nat.le_of_ble_eq_true rfl) ?_
  intro p l e R s m args below meth c X hr hlk hnm
  refine s_drop [0, 1] (vs' := [(0, .ref (gB G + o)), (1, .int a1)]) rfl ?_
  rw [f_X6_tell] at hf
  refine s_iload_n X 1 dX6_tell_0 rfl rfl ?_
  have hs1 := pk_ite hf
  clear hf
  by_cases c2 : a1 = (0 : Int32)
  · have hf := hs1.1 c2
    refine s_swC X (v := (0 : Int32)) (tgt := 40) dX6_tell_1 c2 (by decide) (by decide) rfl rfl ?_
    refine s_aload_n X 0 dX6_tell_40 rfl rfl ?_
    obtain ⟨h3, hf⟩ := pk_chk hf
    refine s_getI X (ci := 6) (k := 10) rfl (Nat.le_of_ble_eq_true rfl) h3 wd532 (fun _ _ _ => rfl) dX6_tell_41 ?_
    cases hf
    exact s_iret X hr hlk dX6_tell_44
  have hf := hs1.2 c2
  have hs4 := pk_ite hf
  clear hf
  by_cases c5 : a1 = (1 : Int32)
  · have hf := hs4.1 c5
    refine s_swC X (v := (1 : Int32)) (tgt := 45) dX6_tell_1 c5 (by decide) (by decide) rfl rfl ?_
    refine s_aload_n X 0 dX6_tell_45 rfl rfl ?_
    obtain ⟨h6, hf⟩ := pk_chk hf
    refine s_getI X (ci := 6) (k := 11) rfl (Nat.le_of_ble_eq_true rfl) h6 wd533 (fun _ _ _ => rfl) dX6_tell_46 ?_
    cases hf
    exact s_iret X hr hlk dX6_tell_49
  have hf := hs4.2 c5
  have hs7 := pk_ite hf
  clear hf
  by_cases c8 : a1 = (2 : Int32)
  · have hf := hs7.1 c8
    refine s_swC X (v := (2 : Int32)) (tgt := 50) dX6_tell_1 c8 (by decide) (by decide) rfl rfl ?_
    refine s_aload_n X 0 dX6_tell_50 rfl rfl ?_
    obtain ⟨h9, hf⟩ := pk_chk hf
    refine s_getI X (ci := 6) (k := 12) rfl (Nat.le_of_ble_eq_true rfl) h9 wd534 (fun _ _ _ => rfl) dX6_tell_51 ?_
    cases hf
    exact s_iret X hr hlk dX6_tell_54
  have hf := hs7.2 c8
  have hs10 := pk_ite hf
  clear hf
  by_cases c11 : a1 = (3 : Int32)
  · have hf := hs10.1 c11
    refine s_swC X (v := (3 : Int32)) (tgt := 55) dX6_tell_1 c11 (by decide) (by decide) rfl rfl ?_
    refine s_aload_n X 0 dX6_tell_55 rfl rfl ?_
    obtain ⟨h12, hf⟩ := pk_chk hf
    refine s_getI X (ci := 6) (k := 13) rfl (Nat.le_of_ble_eq_true rfl) h12 wd535 (fun _ _ _ => rfl) dX6_tell_56 ?_
    cases hf
    exact s_iret X hr hlk dX6_tell_59
  have hf := hs10.2 c11
  have hs13 := pk_ite hf
  clear hf
  by_cases c14 : a1 = (4 : Int32)
  · have hf := hs13.1 c14
    refine s_swC X (v := (4 : Int32)) (tgt := 60) dX6_tell_1 c14 (by decide) (by decide) rfl rfl ?_
    refine s_aload_n X 0 dX6_tell_60 rfl rfl ?_
    obtain ⟨h15, hf⟩ := pk_chk hf
    refine s_getI X (ci := 6) (k := 15) rfl (Nat.le_of_ble_eq_true rfl) h15 wd537 (fun _ _ _ => rfl) dX6_tell_61 ?_
    have hs16 := pk_ite hf
    clear hf
    refine s_if_eq X (tgt := 71) dX6_tell_64 rfl (fun c17 => ?_) (fun c17 => ?_)
    · have hf := hs16.1 c17
      refine s_iconst X (v := (1 : Int32)) dX6_tell_71 rfl ?_
      cases hf
      exact s_iret X hr hlk dX6_tell_72
    · have hf := hs16.2 c17
      refine s_iconst X (v := (0 : Int32)) dX6_tell_67 rfl ?_
      refine s_goto X (tgt := 72) dX6_tell_68 rfl ?_
      cases hf
      exact s_iret X hr hlk dX6_tell_72
  have hf := hs13.2 c14
  have hs18 := pk_ite hf
  clear hf
  by_cases c19 : a1 = (5 : Int32)
  · have hf := hs18.1 c19
    refine s_swC X (v := (5 : Int32)) (tgt := 73) dX6_tell_1 c19 (by decide) (by decide) rfl rfl ?_
    refine s_aload_n X 0 dX6_tell_73 rfl rfl ?_
    obtain ⟨h20, hf⟩ := pk_chk hf
    refine s_getI X (ci := 6) (k := 14) rfl (Nat.le_of_ble_eq_true rfl) h20 wd536 (fun _ _ _ => rfl) dX6_tell_74 ?_
    cases hf
    exact s_iret X hr hlk dX6_tell_77
  have hf := hs18.2 c19
  refine s_swOut X (tgt := 78) dX6_tell_1 (by have := sw_ne (v := (0 : Int32)) (z := 0) c2 (by decide); have := sw_ne (v := (1 : Int32)) (z := 1) c5 (by decide); have := sw_ne (v := (2 : Int32)) (z := 2) c8 (by decide); have := sw_ne (v := (3 : Int32)) (z := 3) c11 (by decide); have := sw_ne (v := (4 : Int32)) (z := 4) c14 (by decide); have := sw_ne (v := (5 : Int32)) (z := 5) c19 (by decide); omega) rfl ?_
  refine s_iconst X (v := (-1 : Int32)) dX6_tell_78 rfl ?_
  cases hf
  exact s_iret X hr hlk dX6_tell_79
theorem dX9_searched_0 : decode cX9_searched 0 = .ok (.iload_n 1, 1) := dk_27 (by decide +kernel)
theorem dX9_searched_1 : decode cX9_searched 1 = .ok (.iconst 1, 1) := dk_4 (by decide +kernel)
theorem dX9_searched_2 : decode cX9_searched 2 = .ok (.if_icmp .lt 9, 3) := dk_161 (x := 0) (y := 9) (by decide +kernel) rfl
theorem dX9_searched_5 : decode cX9_searched 5 = .ok (.iload_n 1, 1) := dk_27 (by decide +kernel)
theorem dX9_searched_6 : decode cX9_searched 6 = .ok (.bipush 40, 2) := dk_16 (x := 40) (by decide +kernel) rfl
theorem dX9_searched_8 : decode cX9_searched 8 = .ok (.if_icmp .le 5, 3) := dk_164 (x := 0) (y := 5) (by decide +kernel) rfl
theorem dX9_searched_11 : decode cX9_searched 11 = .ok (.iconst (-1), 1) := dk_2 (by decide +kernel)
theorem dX9_searched_12 : decode cX9_searched 12 = .ok (.ireturn, 1) := dk_172 (by decide +kernel)
theorem dX9_searched_13 : decode cX9_searched 13 = .ok (.aload_n 0, 1) := dk_42 (by decide +kernel)
theorem dX9_searched_14 : decode cX9_searched 14 = .ok (.getfield 47, 3) := dk_180 (x := 0) (y := 47) (by decide +kernel) rfl
theorem dX9_searched_17 : decode cX9_searched 17 = .ok (.aload_n 0, 1) := dk_42 (by decide +kernel)
theorem dX9_searched_18 : decode cX9_searched 18 = .ok (.getfield 28, 3) := dk_180 (x := 0) (y := 28) (by decide +kernel) rfl
theorem dX9_searched_21 : decode cX9_searched 21 = .ok (.iconst 0, 1) := dk_3 (by decide +kernel)
theorem dX9_searched_22 : decode cX9_searched 22 = .ok (.iload_n 1, 1) := dk_27 (by decide +kernel)
theorem dX9_searched_23 : decode cX9_searched 23 = .ok (.invokevirtual 314, 3) := dk_182 (x := 1) (y := 58) (by decide +kernel) rfl
theorem dX9_searched_26 : decode cX9_searched 26 = .ok (.aload_n 0, 1) := dk_42 (by decide +kernel)
theorem dX9_searched_27 : decode cX9_searched 27 = .ok (.getfield 47, 3) := dk_180 (x := 0) (y := 47) (by decide +kernel) rfl
theorem dX9_searched_30 : decode cX9_searched 30 = .ok (.iload_n 2, 1) := dk_28 (by decide +kernel)
theorem dX9_searched_31 : decode cX9_searched 31 = .ok (.invokevirtual 318, 3) := dk_182 (x := 1) (y := 62) (by decide +kernel) rfl
theorem dX9_searched_34 : decode cX9_searched 34 = .ok (.ireturn, 1) := dk_172 (by decide +kernel)
def f_X9_searched (n : Nat) (o : Nat) (a1 : Int32) (a2 : Int32) (M : Mem) : Option (Int32 × Mem) :=
  if a1 < (1 : Int32) then (
    some ((-1 : Int32), M)
    ) else (
    if a1 ≤ (40 : Int32) then (
      chk (isO M 9 o) <|
      bnd (mR M o 5) fun o6 =>
      chk (isO M 6 o6) <|
      bnd (mR M o 2) fun o9 =>
      chk (isO M 2 o9) <|
      obd (f_X6_run n o6 o9 (0 : Int32) a1 M) fun M13 =>
      chk (isO M13 9 o) <|
      bnd (mR M13 o 5) fun o15 =>
      chk (isO M13 6 o15) <|
      obd (f_X6_tell o15 a2 M13) fun r19 =>
      some (r19, M13)
      ) else (
      some ((-1 : Int32), M)
      )
    )
theorem cd_X9_searched : (yX9_searched.cls ≠ "java/lang/invoke/MethodHandle" ∧ yX9_searched.cls ≠ "java/lang/invoke/VarHandle") ∧ (parseMethodDescriptor yX9_searched.desc).map (fun d => d.parameters.length) = some 2 := ⟨⟨by decide +kernel, by decide +kernel⟩, by decide +kernel⟩
theorem k_X9_searched (G : Gam) {n : Nat} {o : Nat} {a1 : Int32} {a2 : Int32} {M : Mem} {rv : (Int32 × Mem)} (hf : f_X9_searched n o a1 a2 M = some rv) : Kt yX9_searched cX9_searched 3 (some .int) 8 201 G [.ref (gB G + o), .int a1, .int a2] M rv.2 (some (.int rv.1)) := by
  refine Kt.of (by decide) (Nat.le_of_ble_eq_true rfl) ?_
  intro p l e R s m args below meth c X hr hlk hnm
  refine s_drop [0, 1, 2] (vs' := [(0, .ref (gB G + o)), (1, .int a1), (2, .int a2)]) rfl ?_
  rw [f_X9_searched] at hf
  refine s_iload_n X 1 dX9_searched_0 rfl rfl ?_
  refine s_iconst X (v := (1 : Int32)) dX9_searched_1 rfl ?_
  have hs1 := pk_ite hf
  clear hf
  refine s_icmp_lt X (tgt := 11) dX9_searched_2 rfl (fun c2 => ?_) (fun c2 => ?_)
  · have hf := hs1.1 c2
    refine s_iconst X (v := (-1 : Int32)) dX9_searched_11 rfl ?_
    cases hf
    exact s_iret X hr hlk dX9_searched_12
  · have hf := hs1.2 c2
    refine s_iload_n X 1 dX9_searched_5 rfl rfl ?_
    refine s_bipush X (v := (40 : Int32)) dX9_searched_6 rfl ?_
    have hs3 := pk_ite hf
    clear hf
    refine s_icmp_le X (tgt := 13) dX9_searched_8 rfl (fun c4 => ?_) (fun c4 => ?_)
    · have hf := hs3.1 c4
      refine s_aload_n X 0 dX9_searched_13 rfl rfl ?_
      obtain ⟨h5, hf⟩ := pk_chk hf
      obtain ⟨o6, e7, hf⟩ := pk_bnd hf
      obtain ⟨h8, hf⟩ := pk_chk hf
      refine s_getR X (ci := 9) (k := 5) rfl (Nat.le_of_ble_eq_true rfl) h5 wd632 (fun _ _ _ => rfl) (e7 ▸ h8) dX9_searched_14 (e7 ▸ ?_)
      refine s_aload_n X 0 dX9_searched_17 rfl rfl ?_
      obtain ⟨o9, e10, hf⟩ := pk_bnd hf
      obtain ⟨h11, hf⟩ := pk_chk hf
      refine s_getR X (ci := 9) (k := 2) rfl (Nat.le_of_ble_eq_true rfl) h5 wd629 (fun _ _ _ => rfl) (e10 ▸ h11) dX9_searched_18 (e10 ▸ ?_)
      refine s_iconst X (v := (0 : Int32)) dX9_searched_21 rfl ?_
      refine s_iload_n X 1 dX9_searched_22 rfl rfl ?_
      obtain ⟨M13, hc12, hf⟩ := pk_obd hf
      refine s_callV X (ci := 6) (k_X6_run G hc12) rfl h8 wd1253 wd1254 wd1255 wd1256 wd135 cd_X6_run ⟨Nat.le_of_ble_eq_true rfl, Nat.le_of_ble_eq_true rfl⟩ (Nat.le_of_ble_eq_true rfl) dX9_searched_23 ?_
      refine s_aload_n X 0 dX9_searched_26 rfl rfl ?_
      obtain ⟨h14, hf⟩ := pk_chk hf
      obtain ⟨o15, e16, hf⟩ := pk_bnd hf
      obtain ⟨h17, hf⟩ := pk_chk hf
      refine s_getR X (ci := 9) (k := 5) rfl (Nat.le_of_ble_eq_true rfl) h14 wd632 (fun _ _ _ => rfl) (e16 ▸ h17) dX9_searched_27 (e16 ▸ ?_)
      refine s_iload_n X 2 dX9_searched_30 rfl rfl ?_
      obtain ⟨r19, hc18, hf⟩ := pk_obd hf
      refine s_callV X (ci := 6) (k_X6_tell G hc18) rfl h17 wd1324 wd1325 wd1326 wd1327 wd135 cd_X6_tell ⟨Nat.le_of_ble_eq_true rfl, Nat.le_of_ble_eq_true rfl⟩ (Nat.le_of_ble_eq_true rfl) dX9_searched_31 ?_
      cases hf
      exact s_iret X hr hlk dX9_searched_34
    · have hf := hs3.2 c4
      refine s_iconst X (v := (-1 : Int32)) dX9_searched_11 rfl ?_
      cases hf
      exact s_iret X hr hlk dX9_searched_12
theorem dX10_sizeNow_0 : decode cX10_sizeNow 0 = .ok (.sipush 833, 3) := dk_17 (x := 3) (y := 65) (by decide +kernel) rfl
theorem dX10_sizeNow_3 : decode cX10_sizeNow 3 = .ok (.aload_n 0, 1) := dk_42 (by decide +kernel)
theorem dX10_sizeNow_4 : decode cX10_sizeNow 4 = .ok (.getfield 7, 3) := dk_180 (x := 0) (y := 7) (by decide +kernel) rfl
theorem dX10_sizeNow_7 : decode cX10_sizeNow 7 = .ok (.sipush 850, 3) := dk_17 (x := 3) (y := 82) (by decide +kernel) rfl
theorem dX10_sizeNow_10 : decode cX10_sizeNow 10 = .ok (.iaload, 1) := dk_46 (by decide +kernel)
theorem dX10_sizeNow_11 : decode cX10_sizeNow 11 = .ok (.iadd, 1) := dk_96 (by decide +kernel)
theorem dX10_sizeNow_12 : decode cX10_sizeNow 12 = .ok (.ireturn, 1) := dk_172 (by decide +kernel)
def f_X10_sizeNow (o : Nat) (M : Mem) : Option Int32 :=
  chk (isO M 10 o) <|
  bnd (mR M o 0) fun o2 =>
  chk (isO M 100 o2) <|
  chk (inB (850 : Int32) (mLn M o2)) <|
  some ((833 : Int32) + (mI M o2 ((850 : Int32)).toNatClampNeg))
theorem cd_X10_sizeNow : (yX10_sizeNow.cls ≠ "java/lang/invoke/MethodHandle" ∧ yX10_sizeNow.cls ≠ "java/lang/invoke/VarHandle") ∧ (parseMethodDescriptor yX10_sizeNow.desc).map (fun d => d.parameters.length) = some 0 := ⟨⟨by decide +kernel, by decide +kernel⟩, by decide +kernel⟩
theorem k_X10_sizeNow (G : Gam) {o : Nat} {M : Mem} {rv : Int32} (hf : f_X10_sizeNow o M = some rv) : Kt yX10_sizeNow cX10_sizeNow 1 (some .int) 0 0 G [.ref (gB G + o)] M M (some (.int rv)) := by
  refine Kt.of (by decide) (Nat.le_of_ble_eq_true rfl) ?_
  intro p l e R s m args below meth c X hr hlk hnm
  refine s_drop [0] (vs' := [(0, .ref (gB G + o))]) rfl ?_
  rw [f_X10_sizeNow] at hf
  refine s_sipush X (v := (833 : Int32)) dX10_sizeNow_0 rfl ?_
  refine s_aload_n X 0 dX10_sizeNow_3 rfl rfl ?_
  obtain ⟨h1, hf⟩ := pk_chk hf
  obtain ⟨o2, e3, hf⟩ := pk_bnd hf
  obtain ⟨h4, hf⟩ := pk_chk hf
  refine s_getR X (ci := 10) (k := 0) rfl (Nat.le_of_ble_eq_true rfl) h1 wd1440 (fun _ _ _ => rfl) (e3 ▸ h4) dX10_sizeNow_4 (e3 ▸ ?_)
  refine s_sipush X (v := (850 : Int32)) dX10_sizeNow_7 rfl ?_
  obtain ⟨h5, hf⟩ := pk_chk hf
  refine s_iald X h4 h5 dX10_sizeNow_10 ?_
  refine s_iadd X dX10_sizeNow_11 ?_
  cases hf
  exact s_iret X hr hlk dX10_sizeNow_12
theorem dX10_isState_0 : decode cX10_isState 0 = .ok (.aload_n 0, 1) := dk_42 (by decide +kernel)
theorem dX10_isState_1 : decode cX10_isState 1 = .ok (.invokevirtual 332, 3) := dk_182 (x := 1) (y := 76) (by decide +kernel) rfl
theorem dX10_isState_4 : decode cX10_isState 4 = .ok (.istore_n 2, 1) := dk_61 (by decide +kernel)
theorem dX10_isState_5 : decode cX10_isState 5 = .ok (.iconst 0, 1) := dk_3 (by decide +kernel)
theorem dX10_isState_6 : decode cX10_isState 6 = .ok (.istore_n 3, 1) := dk_62 (by decide +kernel)
theorem dX10_isState_7 : decode cX10_isState 7 = .ok (.iload_n 3, 1) := dk_29 (by decide +kernel)
theorem dX10_isState_8 : decode cX10_isState 8 = .ok (.iload_n 2, 1) := dk_28 (by decide +kernel)
theorem dX10_isState_9 : decode cX10_isState 9 = .ok (.if_icmp .ge 35, 3) := dk_162 (x := 0) (y := 35) (by decide +kernel) rfl
theorem dX10_isState_12 : decode cX10_isState 12 = .ok (.aload_n 0, 1) := dk_42 (by decide +kernel)
theorem dX10_isState_13 : decode cX10_isState 13 = .ok (.getfield 32, 3) := dk_180 (x := 0) (y := 32) (by decide +kernel) rfl
theorem dX10_isState_16 : decode cX10_isState 16 = .ok (.sipush 9833, 3) := dk_17 (x := 38) (y := 105) (by decide +kernel) rfl
theorem dX10_isState_19 : decode cX10_isState 19 = .ok (.iload_n 1, 1) := dk_27 (by decide +kernel)
theorem dX10_isState_20 : decode cX10_isState 20 = .ok (.imul, 1) := dk_104 (by decide +kernel)
theorem dX10_isState_21 : decode cX10_isState 21 = .ok (.iload_n 3, 1) := dk_29 (by decide +kernel)
theorem dX10_isState_22 : decode cX10_isState 22 = .ok (.iadd, 1) := dk_96 (by decide +kernel)
theorem dX10_isState_23 : decode cX10_isState 23 = .ok (.iaload, 1) := dk_46 (by decide +kernel)
theorem dX10_isState_24 : decode cX10_isState 24 = .ok (.aload_n 0, 1) := dk_42 (by decide +kernel)
theorem dX10_isState_25 : decode cX10_isState 25 = .ok (.getfield 7, 3) := dk_180 (x := 0) (y := 7) (by decide +kernel) rfl
theorem dX10_isState_28 : decode cX10_isState 28 = .ok (.bipush 18, 2) := dk_16 (x := 18) (by decide +kernel) rfl
theorem dX10_isState_30 : decode cX10_isState 30 = .ok (.iload_n 3, 1) := dk_29 (by decide +kernel)
theorem dX10_isState_31 : decode cX10_isState 31 = .ok (.iadd, 1) := dk_96 (by decide +kernel)
theorem dX10_isState_32 : decode cX10_isState 32 = .ok (.iaload, 1) := dk_46 (by decide +kernel)
theorem dX10_isState_33 : decode cX10_isState 33 = .ok (.if_icmp .eq 5, 3) := dk_159 (x := 0) (y := 5) (by decide +kernel) rfl
theorem dX10_isState_36 : decode cX10_isState 36 = .ok (.iconst 0, 1) := dk_3 (by decide +kernel)
theorem dX10_isState_37 : decode cX10_isState 37 = .ok (.ireturn, 1) := dk_172 (by decide +kernel)
theorem dX10_isState_38 : decode cX10_isState 38 = .ok (.iinc 3 1, 3) := dk_132 (x := 3) (y := 1) (by decide +kernel) rfl
theorem dX10_isState_41 : decode cX10_isState 41 = .ok (.goto (-34), 3) := dk_167 (x := 255) (y := 222) (by decide +kernel) rfl
theorem dX10_isState_44 : decode cX10_isState 44 = .ok (.iconst 1, 1) := dk_4 (by decide +kernel)
theorem dX10_isState_45 : decode cX10_isState 45 = .ok (.ireturn, 1) := dk_172 (by decide +kernel)
def f_X10_isState_7 (M : Mem) : Nat → Nat → Int32 → Int32 → Int32 → Option Int32
  | 0, _, _, _, _ => none
  | n + 1, v0, v1, v2, v3 =>
    if v2 ≤ v3 then (
      some (1 : Int32)
      ) else (
      chk (isO M 10 v0) <|
      bnd (mR M v0 11) fun o4 =>
      chk (isO M 100 o4) <|
      chk (inB (((9833 : Int32) * v1) + v3) (mLn M o4)) <|
      bnd (mR M v0 0) fun o8 =>
      chk (isO M 100 o8) <|
      chk (inB ((18 : Int32) + v3) (mLn M o8)) <|
      if (mI M o4 ((((9833 : Int32) * v1) + v3)).toNatClampNeg) = (mI M o8 (((18 : Int32) + v3)).toNatClampNeg) then (
        bnd (v3 + (1 : Int32)) fun x14 =>
        f_X10_isState_7 M n v0 v1 v2 x14
        ) else (
        some (0 : Int32)
        )
      )
def f_X10_isState (n : Nat) (o : Nat) (a1 : Int32) (M : Mem) : Option Int32 :=
  chk (isO M 10 o) <|
  obd (f_X10_sizeNow o M) fun r3 =>
  f_X10_isState_7 M n o a1 r3 (0 : Int32)
theorem cd_X10_isState : (yX10_isState.cls ≠ "java/lang/invoke/MethodHandle" ∧ yX10_isState.cls ≠ "java/lang/invoke/VarHandle") ∧ (parseMethodDescriptor yX10_isState.desc).map (fun d => d.parameters.length) = some 1 := ⟨⟨by decide +kernel, by decide +kernel⟩, by decide +kernel⟩
section
variable {p : Program} {l : Launch} {e : Env} {R : Room} {s : State} {m : MethodId} {args : Array Value} {below : List Frame} {meth : Method} {c : Code} {G : Gam} {M0 : Mem}
theorem l_X10_isState_7 {M : Mem} {rv : Int32} (X : Cx p R s m args c G M0 cX10_isState yX10_isState.cls 4 1 20) (hr : meth.sig.returnType = (some .boolean)) (hlk : meth.locks = false) (hnm : meth.name = "isState") : ∀ {n : Nat} (v0 : Nat) (v1 : Int32) (v2 : Int32) (v3 : Int32), f_X10_isState_7 M n v0 v1 v2 v3 = some rv → Sg p l e R s m args below meth c (Qm below G args s (some (.int rv)) M0 M) G M0 4 7 [(0, .ref (gB G + v0)), (1, .int v1), (2, .int v2), (3, .int v3)] [] M := by
  intro n
  induction n with
  | zero => intro v0 v1 v2 v3 hf; exact (pk_none hf).elim
  | succ n ih =>
    intro v0 v1 v2 v3 hf
    rw [f_X10_isState_7] at hf
    refine s_iload_n X 3 dX10_isState_7 rfl rfl ?_
    refine s_iload_n X 2 dX10_isState_8 rfl rfl ?_
    have hs1 := pk_ite hf
    clear hf
    refine s_icmp_ge X (tgt := 44) dX10_isState_9 rfl (fun c2 => ?_) (fun c2 => ?_)
    · have hf := hs1.1 c2
      refine s_iconst X (v := (1 : Int32)) dX10_isState_44 rfl ?_
      cases hf
      exact s_zret X hr (bz_n (Or.inr rfl)) hlk dX10_isState_45
    · have hf := hs1.2 c2
      refine s_aload_n X 0 dX10_isState_12 rfl rfl ?_
      obtain ⟨h3, hf⟩ := pk_chk hf
      obtain ⟨o4, e5, hf⟩ := pk_bnd hf
      obtain ⟨h6, hf⟩ := pk_chk hf
      refine s_getR X (ci := 10) (k := 11) rfl (Nat.le_of_ble_eq_true rfl) h3 wd1451 (fun _ _ _ => rfl) (e5 ▸ h6) dX10_isState_13 (e5 ▸ ?_)
      refine s_sipush X (v := (9833 : Int32)) dX10_isState_16 rfl ?_
      refine s_iload_n X 1 dX10_isState_19 rfl rfl ?_
      refine s_imul X dX10_isState_20 ?_
      refine s_iload_n X 3 dX10_isState_21 rfl rfl ?_
      refine s_iadd X dX10_isState_22 ?_
      obtain ⟨h7, hf⟩ := pk_chk hf
      refine s_iald X h6 h7 dX10_isState_23 ?_
      refine s_aload_n X 0 dX10_isState_24 rfl rfl ?_
      obtain ⟨o8, e9, hf⟩ := pk_bnd hf
      obtain ⟨h10, hf⟩ := pk_chk hf
      refine s_getR X (ci := 10) (k := 0) rfl (Nat.le_of_ble_eq_true rfl) h3 wd1440 (fun _ _ _ => rfl) (e9 ▸ h10) dX10_isState_25 (e9 ▸ ?_)
      refine s_bipush X (v := (18 : Int32)) dX10_isState_28 rfl ?_
      refine s_iload_n X 3 dX10_isState_30 rfl rfl ?_
      refine s_iadd X dX10_isState_31 ?_
      obtain ⟨h11, hf⟩ := pk_chk hf
      refine s_iald X h10 h11 dX10_isState_32 ?_
      have hs12 := pk_ite hf
      clear hf
      refine s_icmp_eq X (tgt := 38) dX10_isState_33 rfl (fun c13 => ?_) (fun c13 => ?_)
      · have hf := hs12.1 c13
        obtain ⟨x14, e15, hf⟩ := pk_bnd hf
        refine s_iinc X (vs' := [(0, .ref (gB G + v0)), (1, .int v1), (2, .int v2), (3, .int x14)]) 3 dX10_isState_38 rfl (v := x14) e15.symm (Nat.le_of_ble_eq_true rfl) [1, 2, 3, 0] rfl ?_
        refine s_goto X (tgt := 7) dX10_isState_41 rfl ?_
        exact ih _ _ _ _ hf
      · have hf := hs12.2 c13
        refine s_iconst X (v := (0 : Int32)) dX10_isState_36 rfl ?_
        cases hf
        exact s_zret X hr (bz_n (Or.inl rfl)) hlk dX10_isState_37
end
theorem k_X10_isState (G : Gam) {n : Nat} {o : Nat} {a1 : Int32} {M : Mem} {rv : Int32} (hf : f_X10_isState n o a1 M = some rv) : Kt yX10_isState cX10_isState 4 (some .boolean) 1 20 G [.ref (gB G + o), .int a1] M M (some (.int rv)) := by
  refine Kt.of (by decide) (Nat.le_of_ble_eq_true rfl) ?_
  intro p l e R s m args below meth c X hr hlk hnm
  refine s_drop [0, 1] (vs' := [(0, .ref (gB G + o)), (1, .int a1)]) rfl ?_
  rw [f_X10_isState] at hf
  refine s_aload_n X 0 dX10_isState_0 rfl rfl ?_
  obtain ⟨h1, hf⟩ := pk_chk hf
  obtain ⟨r3, hc2, hf⟩ := pk_obd hf
  refine s_callV X (ci := 10) (k_X10_sizeNow G hc2) rfl h1 wd2002 wd2004 wd118 wd2005 wd138 cd_X10_sizeNow ⟨Nat.le_of_ble_eq_true rfl, Nat.le_of_ble_eq_true rfl⟩ (Nat.le_of_ble_eq_true rfl) dX10_isState_1 ?_
  refine s_istore_n X (vs' := [(0, .ref (gB G + o)), (1, .int a1), (2, .int r3)]) dX10_isState_4 rfl (Nat.le_of_ble_eq_true rfl) [1, 2, 0] rfl ?_
  refine s_iconst X (v := (0 : Int32)) dX10_isState_5 rfl ?_
  refine s_istore_n X (vs' := [(0, .ref (gB G + o)), (1, .int a1), (2, .int r3), (3, .int (0 : Int32))]) dX10_isState_6 rfl (Nat.le_of_ble_eq_true rfl) [1, 2, 3, 0] rfl ?_
  exact l_X10_isState_7 X hr hlk hnm _ _ _ _ hf
theorem dX10_keepState_0 : decode cX10_keepState 0 = .ok (.aload_n 0, 1) := dk_42 (by decide +kernel)
theorem dX10_keepState_1 : decode cX10_keepState 1 = .ok (.invokevirtual 332, 3) := dk_182 (x := 1) (y := 76) (by decide +kernel) rfl
theorem dX10_keepState_4 : decode cX10_keepState 4 = .ok (.istore_n 2, 1) := dk_61 (by decide +kernel)
theorem dX10_keepState_5 : decode cX10_keepState 5 = .ok (.iconst 0, 1) := dk_3 (by decide +kernel)
theorem dX10_keepState_6 : decode cX10_keepState 6 = .ok (.istore_n 3, 1) := dk_62 (by decide +kernel)
theorem dX10_keepState_7 : decode cX10_keepState 7 = .ok (.iload_n 3, 1) := dk_29 (by decide +kernel)
theorem dX10_keepState_8 : decode cX10_keepState 8 = .ok (.iload_n 2, 1) := dk_28 (by decide +kernel)
theorem dX10_keepState_9 : decode cX10_keepState 9 = .ok (.if_icmp .ge 30, 3) := dk_162 (x := 0) (y := 30) (by decide +kernel) rfl
theorem dX10_keepState_12 : decode cX10_keepState 12 = .ok (.aload_n 0, 1) := dk_42 (by decide +kernel)
theorem dX10_keepState_13 : decode cX10_keepState 13 = .ok (.getfield 32, 3) := dk_180 (x := 0) (y := 32) (by decide +kernel) rfl
theorem dX10_keepState_16 : decode cX10_keepState 16 = .ok (.sipush 9833, 3) := dk_17 (x := 38) (y := 105) (by decide +kernel) rfl
theorem dX10_keepState_19 : decode cX10_keepState 19 = .ok (.iload_n 1, 1) := dk_27 (by decide +kernel)
theorem dX10_keepState_20 : decode cX10_keepState 20 = .ok (.imul, 1) := dk_104 (by decide +kernel)
theorem dX10_keepState_21 : decode cX10_keepState 21 = .ok (.iload_n 3, 1) := dk_29 (by decide +kernel)
theorem dX10_keepState_22 : decode cX10_keepState 22 = .ok (.iadd, 1) := dk_96 (by decide +kernel)
theorem dX10_keepState_23 : decode cX10_keepState 23 = .ok (.aload_n 0, 1) := dk_42 (by decide +kernel)
theorem dX10_keepState_24 : decode cX10_keepState 24 = .ok (.getfield 7, 3) := dk_180 (x := 0) (y := 7) (by decide +kernel) rfl
theorem dX10_keepState_27 : decode cX10_keepState 27 = .ok (.bipush 18, 2) := dk_16 (x := 18) (by decide +kernel) rfl
theorem dX10_keepState_29 : decode cX10_keepState 29 = .ok (.iload_n 3, 1) := dk_29 (by decide +kernel)
theorem dX10_keepState_30 : decode cX10_keepState 30 = .ok (.iadd, 1) := dk_96 (by decide +kernel)
theorem dX10_keepState_31 : decode cX10_keepState 31 = .ok (.iaload, 1) := dk_46 (by decide +kernel)
theorem dX10_keepState_32 : decode cX10_keepState 32 = .ok (.iastore, 1) := dk_79 (by decide +kernel)
theorem dX10_keepState_33 : decode cX10_keepState 33 = .ok (.iinc 3 1, 3) := dk_132 (x := 3) (y := 1) (by decide +kernel) rfl
theorem dX10_keepState_36 : decode cX10_keepState 36 = .ok (.goto (-29), 3) := dk_167 (x := 255) (y := 227) (by decide +kernel) rfl
theorem dX10_keepState_39 : decode cX10_keepState 39 = .ok (.return_, 1) := dk_177 (by decide +kernel)
def f_X10_keepState_7 : Nat → Nat → Int32 → Int32 → Int32 → Mem → Option Mem
  | 0, _, _, _, _, _ => none
  | n + 1, v0, v1, v2, v3, M =>
    if v2 ≤ v3 then (
      some M
      ) else (
      chk (isO M 10 v0) <|
      bnd (mR M v0 11) fun o4 =>
      chk (isO M 100 o4) <|
      bnd (mR M v0 0) fun o7 =>
      chk (isO M 100 o7) <|
      chk (inB ((18 : Int32) + v3) (mLn M o7)) <|
      chk (inB (((9833 : Int32) * v1) + v3) (mLn M o4)) <|
      bnd (sI M o4 ((((9833 : Int32) * v1) + v3)).toNatClampNeg (mI M o7 (((18 : Int32) + v3)).toNatClampNeg)) fun M12 =>
      bnd (v3 + (1 : Int32)) fun x17 =>
      f_X10_keepState_7 n v0 v1 v2 x17 M12
      )
def f_X10_keepState (n : Nat) (o : Nat) (a1 : Int32) (M : Mem) : Option Mem :=
  chk (isO M 10 o) <|
  obd (f_X10_sizeNow o M) fun r3 =>
  f_X10_keepState_7 n o a1 r3 (0 : Int32) M
theorem cd_X10_keepState : (yX10_keepState.cls ≠ "java/lang/invoke/MethodHandle" ∧ yX10_keepState.cls ≠ "java/lang/invoke/VarHandle") ∧ (parseMethodDescriptor yX10_keepState.desc).map (fun d => d.parameters.length) = some 1 := ⟨⟨by decide +kernel, by decide +kernel⟩, by decide +kernel⟩
section
variable {p : Program} {l : Launch} {e : Env} {R : Room} {s : State} {m : MethodId} {args : Array Value} {below : List Frame} {meth : Method} {c : Code} {G : Gam} {M0 : Mem}
theorem l_X10_keepState_7 {rv : Mem} (X : Cx p R s m args c G M0 cX10_keepState yX10_keepState.cls 4 1 20) (hr : meth.sig.returnType = none) (hlk : meth.locks = false) (hnm : meth.name = "keepState") : ∀ {n : Nat} (v0 : Nat) (v1 : Int32) (v2 : Int32) (v3 : Int32) (M : Mem), f_X10_keepState_7 n v0 v1 v2 v3 M = some rv → Sg p l e R s m args below meth c (Qm below G args s none M0 rv) G M0 4 7 [(0, .ref (gB G + v0)), (1, .int v1), (2, .int v2), (3, .int v3)] [] M := by
  intro n
  induction n with
  | zero => intro v0 v1 v2 v3 M hf; exact (pk_none hf).elim
  | succ n ih =>
    intro v0 v1 v2 v3 M hf
    rw [f_X10_keepState_7] at hf
    refine s_iload_n X 3 dX10_keepState_7 rfl rfl ?_
    refine s_iload_n X 2 dX10_keepState_8 rfl rfl ?_
    have hs1 := pk_ite hf
    clear hf
    refine s_icmp_ge X (tgt := 39) dX10_keepState_9 rfl (fun c2 => ?_) (fun c2 => ?_)
    · have hf := hs1.1 c2
      cases hf
      exact s_vret X hr hlk dX10_keepState_39
    · have hf := hs1.2 c2
      refine s_aload_n X 0 dX10_keepState_12 rfl rfl ?_
      obtain ⟨h3, hf⟩ := pk_chk hf
      obtain ⟨o4, e5, hf⟩ := pk_bnd hf
      obtain ⟨h6, hf⟩ := pk_chk hf
      refine s_getR X (ci := 10) (k := 11) rfl (Nat.le_of_ble_eq_true rfl) h3 wd1451 (fun _ _ _ => rfl) (e5 ▸ h6) dX10_keepState_13 (e5 ▸ ?_)
      refine s_sipush X (v := (9833 : Int32)) dX10_keepState_16 rfl ?_
      refine s_iload_n X 1 dX10_keepState_19 rfl rfl ?_
      refine s_imul X dX10_keepState_20 ?_
      refine s_iload_n X 3 dX10_keepState_21 rfl rfl ?_
      refine s_iadd X dX10_keepState_22 ?_
      refine s_aload_n X 0 dX10_keepState_23 rfl rfl ?_
      obtain ⟨o7, e8, hf⟩ := pk_bnd hf
      obtain ⟨h9, hf⟩ := pk_chk hf
      refine s_getR X (ci := 10) (k := 0) rfl (Nat.le_of_ble_eq_true rfl) h3 wd1440 (fun _ _ _ => rfl) (e8 ▸ h9) dX10_keepState_24 (e8 ▸ ?_)
      refine s_bipush X (v := (18 : Int32)) dX10_keepState_27 rfl ?_
      refine s_iload_n X 3 dX10_keepState_29 rfl rfl ?_
      refine s_iadd X dX10_keepState_30 ?_
      obtain ⟨h10, hf⟩ := pk_chk hf
      refine s_iald X h9 h10 dX10_keepState_31 ?_
      obtain ⟨h11, hf⟩ := pk_chk hf
      obtain ⟨M12, e13, hf⟩ := pk_bnd hf
      refine s_iast X h6 h11 e13 dX10_keepState_32 ?_
      have h14 := io_sI e13 h3
      have h15 := io_sI e13 h6
      have h16 := io_sI e13 h9
      obtain ⟨x17, e18, hf⟩ := pk_bnd hf
      refine s_iinc X (vs' := [(0, .ref (gB G + v0)), (1, .int v1), (2, .int v2), (3, .int x17)]) 3 dX10_keepState_33 rfl (v := x17) e18.symm (Nat.le_of_ble_eq_true rfl) [1, 2, 3, 0] rfl ?_
      refine s_goto X (tgt := 7) dX10_keepState_36 rfl ?_
      exact ih _ _ _ _ _ hf
end
theorem k_X10_keepState (G : Gam) {n : Nat} {o : Nat} {a1 : Int32} {M : Mem} {rv : Mem} (hf : f_X10_keepState n o a1 M = some rv) : Kt yX10_keepState cX10_keepState 4 none 1 20 G [.ref (gB G + o), .int a1] M rv none := by
  refine Kt.of (by decide) (Nat.le_of_ble_eq_true rfl) ?_
  intro p l e R s m args below meth c X hr hlk hnm
  refine s_drop [0, 1] (vs' := [(0, .ref (gB G + o)), (1, .int a1)]) rfl ?_
  rw [f_X10_keepState] at hf
  refine s_aload_n X 0 dX10_keepState_0 rfl rfl ?_
  obtain ⟨h1, hf⟩ := pk_chk hf
  obtain ⟨r3, hc2, hf⟩ := pk_obd hf
  refine s_callV X (ci := 10) (k_X10_sizeNow G hc2) rfl h1 wd2002 wd2004 wd118 wd2005 wd138 cd_X10_sizeNow ⟨Nat.le_of_ble_eq_true rfl, Nat.le_of_ble_eq_true rfl⟩ (Nat.le_of_ble_eq_true rfl) dX10_keepState_1 ?_
  refine s_istore_n X (vs' := [(0, .ref (gB G + o)), (1, .int a1), (2, .int r3)]) dX10_keepState_4 rfl (Nat.le_of_ble_eq_true rfl) [1, 2, 0] rfl ?_
  refine s_iconst X (v := (0 : Int32)) dX10_keepState_5 rfl ?_
  refine s_istore_n X (vs' := [(0, .ref (gB G + o)), (1, .int a1), (2, .int r3), (3, .int (0 : Int32))]) dX10_keepState_6 rfl (Nat.le_of_ble_eq_true rfl) [1, 2, 3, 0] rfl ?_
  exact l_X10_keepState_7 X hr hlk hnm _ _ _ _ _ hf
theorem dX10_meet_0 : decode cX10_meet 0 = .ok (.iconst 0, 1) := dk_3 (by decide +kernel)
theorem dX10_meet_1 : decode cX10_meet 1 = .ok (.istore_n 3, 1) := dk_62 (by decide +kernel)
theorem dX10_meet_2 : decode cX10_meet 2 = .ok (.iload_n 3, 1) := dk_29 (by decide +kernel)
theorem dX10_meet_3 : decode cX10_meet 3 = .ok (.aload_n 0, 1) := dk_42 (by decide +kernel)
theorem dX10_meet_4 : decode cX10_meet 4 = .ok (.getfield 335, 3) := dk_180 (x := 1) (y := 79) (by decide +kernel) rfl
theorem dX10_meet_7 : decode cX10_meet 7 = .ok (.if_icmp .ge 18, 3) := dk_162 (x := 0) (y := 18) (by decide +kernel) rfl
theorem dX10_meet_10 : decode cX10_meet 10 = .ok (.aload_n 0, 1) := dk_42 (by decide +kernel)
theorem dX10_meet_11 : decode cX10_meet 11 = .ok (.iload_n 3, 1) := dk_29 (by decide +kernel)
theorem dX10_meet_12 : decode cX10_meet 12 = .ok (.invokevirtual 338, 3) := dk_182 (x := 1) (y := 82) (by decide +kernel) rfl
theorem dX10_meet_15 : decode cX10_meet 15 = .ok (.ifCond .eq 4, 3) := dk_153 (x := 0) (y := 4) (by decide +kernel) rfl
theorem dX10_meet_18 : decode cX10_meet 18 = .ok (.return_, 1) := dk_177 (by decide +kernel)
theorem dX10_meet_19 : decode cX10_meet 19 = .ok (.iinc 3 1, 3) := dk_132 (x := 3) (y := 1) (by decide +kernel) rfl
theorem dX10_meet_22 : decode cX10_meet 22 = .ok (.goto (-20), 3) := dk_167 (x := 255) (y := 236) (by decide +kernel) rfl
theorem dX10_meet_25 : decode cX10_meet 25 = .ok (.aload_n 0, 1) := dk_42 (by decide +kernel)
theorem dX10_meet_26 : decode cX10_meet 26 = .ok (.getfield 335, 3) := dk_180 (x := 1) (y := 79) (by decide +kernel) rfl
theorem dX10_meet_29 : decode cX10_meet 29 = .ok (.iload_n 1, 1) := dk_27 (by decide +kernel)
theorem dX10_meet_30 : decode cX10_meet 30 = .ok (.if_icmp .ne 9, 3) := dk_160 (x := 0) (y := 9) (by decide +kernel) rfl
theorem dX10_meet_33 : decode cX10_meet 33 = .ok (.aload_n 0, 1) := dk_42 (by decide +kernel)
theorem dX10_meet_34 : decode cX10_meet 34 = .ok (.iconst 1, 1) := dk_4 (by decide +kernel)
theorem dX10_meet_35 : decode cX10_meet 35 = .ok (.putfield 341, 3) := dk_181 (x := 1) (y := 85) (by decide +kernel) rfl
theorem dX10_meet_38 : decode cX10_meet 38 = .ok (.return_, 1) := dk_177 (by decide +kernel)
theorem dX10_meet_39 : decode cX10_meet 39 = .ok (.aload_n 0, 1) := dk_42 (by decide +kernel)
theorem dX10_meet_40 : decode cX10_meet 40 = .ok (.aload_n 0, 1) := dk_42 (by decide +kernel)
theorem dX10_meet_41 : decode cX10_meet 41 = .ok (.getfield 335, 3) := dk_180 (x := 1) (y := 79) (by decide +kernel) rfl
theorem dX10_meet_44 : decode cX10_meet 44 = .ok (.invokevirtual 345, 3) := dk_182 (x := 1) (y := 89) (by decide +kernel) rfl
theorem dX10_meet_47 : decode cX10_meet 47 = .ok (.aload_n 0, 1) := dk_42 (by decide +kernel)
theorem dX10_meet_48 : decode cX10_meet 48 = .ok (.getfield 35, 3) := dk_180 (x := 0) (y := 35) (by decide +kernel) rfl
theorem dX10_meet_51 : decode cX10_meet 51 = .ok (.aload_n 0, 1) := dk_42 (by decide +kernel)
theorem dX10_meet_52 : decode cX10_meet 52 = .ok (.getfield 335, 3) := dk_180 (x := 1) (y := 79) (by decide +kernel) rfl
theorem dX10_meet_55 : decode cX10_meet 55 = .ok (.iload_n 2, 1) := dk_28 (by decide +kernel)
theorem dX10_meet_56 : decode cX10_meet 56 = .ok (.iastore, 1) := dk_79 (by decide +kernel)
theorem dX10_meet_57 : decode cX10_meet 57 = .ok (.aload_n 0, 1) := dk_42 (by decide +kernel)
theorem dX10_meet_58 : decode cX10_meet 58 = .ok (.dup, 1) := dk_89 (by decide +kernel)
theorem dX10_meet_59 : decode cX10_meet 59 = .ok (.getfield 335, 3) := dk_180 (x := 1) (y := 79) (by decide +kernel) rfl
theorem dX10_meet_62 : decode cX10_meet 62 = .ok (.iconst 1, 1) := dk_4 (by decide +kernel)
theorem dX10_meet_63 : decode cX10_meet 63 = .ok (.iadd, 1) := dk_96 (by decide +kernel)
theorem dX10_meet_64 : decode cX10_meet 64 = .ok (.putfield 335, 3) := dk_181 (x := 1) (y := 79) (by decide +kernel) rfl
theorem dX10_meet_67 : decode cX10_meet 67 = .ok (.return_, 1) := dk_177 (by decide +kernel)
def f_X10_meet_2 : Nat → Nat → Int32 → Int32 → Int32 → Mem → Option Mem
  | 0, _, _, _, _, _ => none
  | n + 1, v0, v1, v2, v3, M =>
    chk (isO M 10 v0) <|
    if (mI M v0 13) ≤ v3 then (
      if (mI M v0 13) = v1 then (
        chk (bz (1 : Int32)) <|
        bnd (sI M v0 14 (1 : Int32)) fun M21 =>
        some M21
        ) else (
        obd (f_X10_keepState n v0 (mI M v0 13) M) fun M7 =>
        chk (isO M7 10 v0) <|
        bnd (mR M7 v0 12) fun o9 =>
        chk (isO M7 100 o9) <|
        chk (inB (mI M7 v0 13) (mLn M7 o9)) <|
        bnd (sI M7 o9 ((mI M7 v0 13)).toNatClampNeg v2) fun M13 =>
        bnd (sI M13 v0 13 ((mI M13 v0 13) + (1 : Int32))) fun M17 =>
        some M17
        )
      ) else (
      obd (f_X10_isState n v0 v3 M) fun r26 =>
      if r26 = 0 then (
        bnd (v3 + (1 : Int32)) fun x29 =>
        f_X10_meet_2 n v0 v1 v2 x29 M
        ) else (
        some M
        )
      )
def f_X10_meet (n : Nat) (o : Nat) (a1 : Int32) (a2 : Int32) (M : Mem) : Option Mem :=
  f_X10_meet_2 n o a1 a2 (0 : Int32) M
theorem cd_X10_meet : (yX10_meet.cls ≠ "java/lang/invoke/MethodHandle" ∧ yX10_meet.cls ≠ "java/lang/invoke/VarHandle") ∧ (parseMethodDescriptor yX10_meet.desc).map (fun d => d.parameters.length) = some 2 := ⟨⟨by decide +kernel, by decide +kernel⟩, by decide +kernel⟩
section
variable {p : Program} {l : Launch} {e : Env} {R : Room} {s : State} {m : MethodId} {args : Array Value} {below : List Frame} {meth : Method} {c : Code} {G : Gam} {M0 : Mem}
theorem l_X10_meet_2 {rv : Mem} (X : Cx p R s m args c G M0 cX10_meet yX10_meet.cls 4 2 43) (hr : meth.sig.returnType = none) (hlk : meth.locks = false) (hnm : meth.name = "meet") : ∀ {n : Nat} (v0 : Nat) (v1 : Int32) (v2 : Int32) (v3 : Int32) (M : Mem), f_X10_meet_2 n v0 v1 v2 v3 M = some rv → Sg p l e R s m args below meth c (Qm below G args s none M0 rv) G M0 4 2 [(0, .ref (gB G + v0)), (1, .int v1), (2, .int v2), (3, .int v3)] [] M := by
  intro n
  induction n with
  | zero => intro v0 v1 v2 v3 M hf; exact (pk_none hf).elim
  | succ n ih =>
    intro v0 v1 v2 v3 M hf
    rw [f_X10_meet_2] at hf
    refine s_iload_n X 3 dX10_meet_2 rfl rfl ?_
    refine s_aload_n X 0 dX10_meet_3 rfl rfl ?_
    obtain ⟨h1, hf⟩ := pk_chk hf
    refine s_getI X (ci := 10) (k := 13) rfl (Nat.le_of_ble_eq_true rfl) h1 wd1453 (fun _ _ _ => rfl) dX10_meet_4 ?_
    have hs2 := pk_ite hf
    clear hf
    refine s_icmp_ge X (tgt := 25) dX10_meet_7 rfl (fun c3 => ?_) (fun c3 => ?_)
    · have hf := hs2.1 c3
      refine s_aload_n X 0 dX10_meet_25 rfl rfl ?_
      refine s_getI X (ci := 10) (k := 13) rfl (Nat.le_of_ble_eq_true rfl) h1 wd1453 (fun _ _ _ => rfl) dX10_meet_26 ?_
      refine s_iload_n X 1 dX10_meet_29 rfl rfl ?_
      have hs4 := pk_ite hf
      clear hf
      refine s_icmp_ne X (tgt := 39) dX10_meet_30 rfl (fun c5 => ?_) (fun c5 => ?_)
      · have hf := hs4.2 c5
        refine s_aload_n X 0 dX10_meet_39 rfl rfl ?_
        refine s_aload_n X 0 dX10_meet_40 rfl rfl ?_
        refine s_getI X (ci := 10) (k := 13) rfl (Nat.le_of_ble_eq_true rfl) h1 wd1453 (fun _ _ _ => rfl) dX10_meet_41 ?_
        obtain ⟨M7, hc6, hf⟩ := pk_obd hf
        refine s_callV X (ci := 10) (k_X10_keepState G hc6) rfl h1 wd2006 wd2008 wd119 wd2009 wd138 cd_X10_keepState ⟨Nat.le_of_ble_eq_true rfl, Nat.le_of_ble_eq_true rfl⟩ (Nat.le_of_ble_eq_true rfl) dX10_meet_44 ?_
        refine s_aload_n X 0 dX10_meet_47 rfl rfl ?_
        obtain ⟨h8, hf⟩ := pk_chk hf
        obtain ⟨o9, e10, hf⟩ := pk_bnd hf
        obtain ⟨h11, hf⟩ := pk_chk hf
        refine s_getR X (ci := 10) (k := 12) rfl (Nat.le_of_ble_eq_true rfl) h8 wd1452 (fun _ _ _ => rfl) (e10 ▸ h11) dX10_meet_48 (e10 ▸ ?_)
        refine s_aload_n X 0 dX10_meet_51 rfl rfl ?_
        refine s_getI X (ci := 10) (k := 13) rfl (Nat.le_of_ble_eq_true rfl) h8 wd1453 (fun _ _ _ => rfl) dX10_meet_52 ?_
        refine s_iload_n X 2 dX10_meet_55 rfl rfl ?_
        obtain ⟨h12, hf⟩ := pk_chk hf
        obtain ⟨M13, e14, hf⟩ := pk_bnd hf
        refine s_iast X h11 h12 e14 dX10_meet_56 ?_
        have h15 := io_sI e14 h8
        have h16 := io_sI e14 h11
        refine s_aload_n X 0 dX10_meet_57 rfl rfl ?_
        refine s_dup X dX10_meet_58 rfl ?_
        refine s_getI X (ci := 10) (k := 13) rfl (Nat.le_of_ble_eq_true rfl) h15 wd1453 (fun _ _ _ => rfl) dX10_meet_59 ?_
        refine s_iconst X (v := (1 : Int32)) dX10_meet_62 rfl ?_
        refine s_iadd X dX10_meet_63 ?_
        obtain ⟨M17, e18, hf⟩ := pk_bnd hf
        refine s_putI X (ci := 10) (k := 13) rfl (Nat.le_of_ble_eq_true rfl) h15 wd1453 (fun _ _ _ => rfl) rfl rfl e18 dX10_meet_64 ?_
        have h19 := io_sI e18 h15
        have h20 := io_sI e18 h16
        cases hf
        exact s_vret X hr hlk dX10_meet_67
      · have hf := hs4.1 c5
        refine s_aload_n X 0 dX10_meet_33 rfl rfl ?_
        refine s_iconst X (v := (1 : Int32)) dX10_meet_34 rfl ?_
        obtain ⟨h23, hf⟩ := pk_chk hf
        obtain ⟨M21, e22, hf⟩ := pk_bnd hf
        refine s_putZ X (ci := 10) (k := 14) rfl (Nat.le_of_ble_eq_true rfl) h1 wd1454 (fun _ _ _ => rfl) rfl (bz_n h23) (bz_f h23) rfl e22 dX10_meet_35 ?_
        have h24 := io_sI e22 h1
        cases hf
        exact s_vret X hr hlk dX10_meet_38
    · have hf := hs2.2 c3
      refine s_aload_n X 0 dX10_meet_10 rfl rfl ?_
      refine s_iload_n X 3 dX10_meet_11 rfl rfl ?_
      obtain ⟨r26, hc25, hf⟩ := pk_obd hf
      refine s_callV X (ci := 10) (k_X10_isState G hc25) rfl h1 wd1998 wd2000 wd117 wd2001 wd138 cd_X10_isState ⟨Nat.le_of_ble_eq_true rfl, Nat.le_of_ble_eq_true rfl⟩ (Nat.le_of_ble_eq_true rfl) dX10_meet_12 ?_
      have hs27 := pk_ite hf
      clear hf
      refine s_if_eq X (tgt := 19) dX10_meet_15 rfl (fun c28 => ?_) (fun c28 => ?_)
      · have hf := hs27.1 c28
        obtain ⟨x29, e30, hf⟩ := pk_bnd hf
        refine s_iinc X (vs' := [(0, .ref (gB G + v0)), (1, .int v1), (2, .int v2), (3, .int x29)]) 3 dX10_meet_19 rfl (v := x29) e30.symm (Nat.le_of_ble_eq_true rfl) [1, 2, 3, 0] rfl ?_
        refine s_goto X (tgt := 2) dX10_meet_22 rfl ?_
        exact ih _ _ _ _ _ hf
      · have hf := hs27.2 c28
        cases hf
        exact s_vret X hr hlk dX10_meet_18
end
theorem k_X10_meet (G : Gam) {n : Nat} {o : Nat} {a1 : Int32} {a2 : Int32} {M : Mem} {rv : Mem} (hf : f_X10_meet n o a1 a2 M = some rv) : Kt yX10_meet cX10_meet 4 none 2 43 G [.ref (gB G + o), .int a1, .int a2] M rv none := by
  refine Kt.of (by decide) (Nat.le_of_ble_eq_true rfl) ?_
  intro p l e R s m args below meth c X hr hlk hnm
  refine s_drop [0, 1, 2] (vs' := [(0, .ref (gB G + o)), (1, .int a1), (2, .int a2)]) rfl ?_
  rw [f_X10_meet] at hf
  refine s_iconst X (v := (0 : Int32)) dX10_meet_0 rfl ?_
  refine s_istore_n X (vs' := [(0, .ref (gB G + o)), (1, .int a1), (2, .int a2), (3, .int (0 : Int32))]) dX10_meet_1 rfl (Nat.le_of_ble_eq_true rfl) [1, 2, 3, 0] rfl ?_
  exact l_X10_meet_2 X hr hlk hnm _ _ _ _ _ hf
theorem dX10_laysState_0 : decode cX10_laysState 0 = .ok (.sipush 833, 3) := dk_17 (x := 3) (y := 65) (by decide +kernel) rfl
theorem dX10_laysState_3 : decode cX10_laysState 3 = .ok (.aload_n 0, 1) := dk_42 (by decide +kernel)
theorem dX10_laysState_4 : decode cX10_laysState 4 = .ok (.getfield 32, 3) := dk_180 (x := 0) (y := 32) (by decide +kernel) rfl
theorem dX10_laysState_7 : decode cX10_laysState 7 = .ok (.sipush 9833, 3) := dk_17 (x := 38) (y := 105) (by decide +kernel) rfl
theorem dX10_laysState_10 : decode cX10_laysState 10 = .ok (.iload_n 1, 1) := dk_27 (by decide +kernel)
theorem dX10_laysState_11 : decode cX10_laysState 11 = .ok (.imul, 1) := dk_104 (by decide +kernel)
theorem dX10_laysState_12 : decode cX10_laysState 12 = .ok (.sipush 850, 3) := dk_17 (x := 3) (y := 82) (by decide +kernel) rfl
theorem dX10_laysState_15 : decode cX10_laysState 15 = .ok (.iadd, 1) := dk_96 (by decide +kernel)
theorem dX10_laysState_16 : decode cX10_laysState 16 = .ok (.bipush 18, 2) := dk_16 (x := 18) (by decide +kernel) rfl
theorem dX10_laysState_18 : decode cX10_laysState 18 = .ok (.isub, 1) := dk_100 (by decide +kernel)
theorem dX10_laysState_19 : decode cX10_laysState 19 = .ok (.iaload, 1) := dk_46 (by decide +kernel)
theorem dX10_laysState_20 : decode cX10_laysState 20 = .ok (.iadd, 1) := dk_96 (by decide +kernel)
theorem dX10_laysState_21 : decode cX10_laysState 21 = .ok (.istore_n 2, 1) := dk_61 (by decide +kernel)
theorem dX10_laysState_22 : decode cX10_laysState 22 = .ok (.iconst 0, 1) := dk_3 (by decide +kernel)
theorem dX10_laysState_23 : decode cX10_laysState 23 = .ok (.istore_n 3, 1) := dk_62 (by decide +kernel)
theorem dX10_laysState_24 : decode cX10_laysState 24 = .ok (.iload_n 3, 1) := dk_29 (by decide +kernel)
theorem dX10_laysState_25 : decode cX10_laysState 25 = .ok (.iload_n 2, 1) := dk_28 (by decide +kernel)
theorem dX10_laysState_26 : decode cX10_laysState 26 = .ok (.if_icmp .ge 30, 3) := dk_162 (x := 0) (y := 30) (by decide +kernel) rfl
theorem dX10_laysState_29 : decode cX10_laysState 29 = .ok (.aload_n 0, 1) := dk_42 (by decide +kernel)
theorem dX10_laysState_30 : decode cX10_laysState 30 = .ok (.getfield 7, 3) := dk_180 (x := 0) (y := 7) (by decide +kernel) rfl
theorem dX10_laysState_33 : decode cX10_laysState 33 = .ok (.bipush 18, 2) := dk_16 (x := 18) (by decide +kernel) rfl
theorem dX10_laysState_35 : decode cX10_laysState 35 = .ok (.iload_n 3, 1) := dk_29 (by decide +kernel)
theorem dX10_laysState_36 : decode cX10_laysState 36 = .ok (.iadd, 1) := dk_96 (by decide +kernel)
theorem dX10_laysState_37 : decode cX10_laysState 37 = .ok (.aload_n 0, 1) := dk_42 (by decide +kernel)
theorem dX10_laysState_38 : decode cX10_laysState 38 = .ok (.getfield 32, 3) := dk_180 (x := 0) (y := 32) (by decide +kernel) rfl
theorem dX10_laysState_41 : decode cX10_laysState 41 = .ok (.sipush 9833, 3) := dk_17 (x := 38) (y := 105) (by decide +kernel) rfl
theorem dX10_laysState_44 : decode cX10_laysState 44 = .ok (.iload_n 1, 1) := dk_27 (by decide +kernel)
theorem dX10_laysState_45 : decode cX10_laysState 45 = .ok (.imul, 1) := dk_104 (by decide +kernel)
theorem dX10_laysState_46 : decode cX10_laysState 46 = .ok (.iload_n 3, 1) := dk_29 (by decide +kernel)
theorem dX10_laysState_47 : decode cX10_laysState 47 = .ok (.iadd, 1) := dk_96 (by decide +kernel)
theorem dX10_laysState_48 : decode cX10_laysState 48 = .ok (.iaload, 1) := dk_46 (by decide +kernel)
theorem dX10_laysState_49 : decode cX10_laysState 49 = .ok (.iastore, 1) := dk_79 (by decide +kernel)
theorem dX10_laysState_50 : decode cX10_laysState 50 = .ok (.iinc 3 1, 3) := dk_132 (x := 3) (y := 1) (by decide +kernel) rfl
theorem dX10_laysState_53 : decode cX10_laysState 53 = .ok (.goto (-29), 3) := dk_167 (x := 255) (y := 227) (by decide +kernel) rfl
theorem dX10_laysState_56 : decode cX10_laysState 56 = .ok (.return_, 1) := dk_177 (by decide +kernel)
def f_X10_laysState_24 : Nat → Nat → Int32 → Int32 → Int32 → Mem → Option Mem
  | 0, _, _, _, _, _ => none
  | n + 1, v0, v1, v2, v3, M =>
    if v2 ≤ v3 then (
      some M
      ) else (
      chk (isO M 10 v0) <|
      bnd (mR M v0 0) fun o4 =>
      chk (isO M 100 o4) <|
      bnd (mR M v0 11) fun o7 =>
      chk (isO M 100 o7) <|
      chk (inB (((9833 : Int32) * v1) + v3) (mLn M o7)) <|
      chk (inB ((18 : Int32) + v3) (mLn M o4)) <|
      bnd (sI M o4 (((18 : Int32) + v3)).toNatClampNeg (mI M o7 ((((9833 : Int32) * v1) + v3)).toNatClampNeg)) fun M12 =>
      bnd (v3 + (1 : Int32)) fun x17 =>
      f_X10_laysState_24 n v0 v1 v2 x17 M12
      )
def f_X10_laysState (n : Nat) (o : Nat) (a1 : Int32) (M : Mem) : Option Mem :=
  chk (isO M 10 o) <|
  bnd (mR M o 11) fun o2 =>
  chk (isO M 100 o2) <|
  chk (inB ((((9833 : Int32) * a1) + (850 : Int32)) - (18 : Int32)) (mLn M o2)) <|
  bnd ((833 : Int32) + (mI M o2 (((((9833 : Int32) * a1) + (850 : Int32)) - (18 : Int32))).toNatClampNeg)) fun x6 =>
  f_X10_laysState_24 n o a1 x6 (0 : Int32) M
theorem cd_X10_laysState : (yX10_laysState.cls ≠ "java/lang/invoke/MethodHandle" ∧ yX10_laysState.cls ≠ "java/lang/invoke/VarHandle") ∧ (parseMethodDescriptor yX10_laysState.desc).map (fun d => d.parameters.length) = some 1 := ⟨⟨by decide +kernel, by decide +kernel⟩, by decide +kernel⟩
section
variable {p : Program} {l : Launch} {e : Env} {R : Room} {s : State} {m : MethodId} {args : Array Value} {below : List Frame} {meth : Method} {c : Code} {G : Gam} {M0 : Mem}
theorem l_X10_laysState_24 {rv : Mem} (X : Cx p R s m args c G M0 cX10_laysState yX10_laysState.cls 4 0 0) (hr : meth.sig.returnType = none) (hlk : meth.locks = false) (hnm : meth.name = "laysState") : ∀ {n : Nat} (v0 : Nat) (v1 : Int32) (v2 : Int32) (v3 : Int32) (M : Mem), f_X10_laysState_24 n v0 v1 v2 v3 M = some rv → Sg p l e R s m args below meth c (Qm below G args s none M0 rv) G M0 4 24 [(0, .ref (gB G + v0)), (1, .int v1), (2, .int v2), (3, .int v3)] [] M := by
  intro n
  induction n with
  | zero => intro v0 v1 v2 v3 M hf; exact (pk_none hf).elim
  | succ n ih =>
    intro v0 v1 v2 v3 M hf
    rw [f_X10_laysState_24] at hf
    refine s_iload_n X 3 dX10_laysState_24 rfl rfl ?_
    refine s_iload_n X 2 dX10_laysState_25 rfl rfl ?_
    have hs1 := pk_ite hf
    clear hf
    refine s_icmp_ge X (tgt := 56) dX10_laysState_26 rfl (fun c2 => ?_) (fun c2 => ?_)
    · have hf := hs1.1 c2
      cases hf
      exact s_vret X hr hlk dX10_laysState_56
    · have hf := hs1.2 c2
      refine s_aload_n X 0 dX10_laysState_29 rfl rfl ?_
      obtain ⟨h3, hf⟩ := pk_chk hf
      obtain ⟨o4, e5, hf⟩ := pk_bnd hf
      obtain ⟨h6, hf⟩ := pk_chk hf
      refine s_getR X (ci := 10) (k := 0) rfl (Nat.le_of_ble_eq_true rfl) h3 wd1440 (fun _ _ _ => rfl) (e5 ▸ h6) dX10_laysState_30 (e5 ▸ ?_)
      refine s_bipush X (v := (18 : Int32)) dX10_laysState_33 rfl ?_
      refine s_iload_n X 3 dX10_laysState_35 rfl rfl ?_
      refine s_iadd X dX10_laysState_36 ?_
      refine s_aload_n X 0 dX10_laysState_37 rfl rfl ?_
      obtain ⟨o7, e8, hf⟩ := pk_bnd hf
      obtain ⟨h9, hf⟩ := pk_chk hf
      refine s_getR X (ci := 10) (k := 11) rfl (Nat.le_of_ble_eq_true rfl) h3 wd1451 (fun _ _ _ => rfl) (e8 ▸ h9) dX10_laysState_38 (e8 ▸ ?_)
      refine s_sipush X (v := (9833 : Int32)) dX10_laysState_41 rfl ?_
      refine s_iload_n X 1 dX10_laysState_44 rfl rfl ?_
      refine s_imul X dX10_laysState_45 ?_
      refine s_iload_n X 3 dX10_laysState_46 rfl rfl ?_
      refine s_iadd X dX10_laysState_47 ?_
      obtain ⟨h10, hf⟩ := pk_chk hf
      refine s_iald X h9 h10 dX10_laysState_48 ?_
      obtain ⟨h11, hf⟩ := pk_chk hf
      obtain ⟨M12, e13, hf⟩ := pk_bnd hf
      refine s_iast X h6 h11 e13 dX10_laysState_49 ?_
      have h14 := io_sI e13 h3
      have h15 := io_sI e13 h6
      have h16 := io_sI e13 h9
      obtain ⟨x17, e18, hf⟩ := pk_bnd hf
      refine s_iinc X (vs' := [(0, .ref (gB G + v0)), (1, .int v1), (2, .int v2), (3, .int x17)]) 3 dX10_laysState_50 rfl (v := x17) e18.symm (Nat.le_of_ble_eq_true rfl) [1, 2, 3, 0] rfl ?_
      refine s_goto X (tgt := 24) dX10_laysState_53 rfl ?_
      exact ih _ _ _ _ _ hf
end
theorem k_X10_laysState (G : Gam) {n : Nat} {o : Nat} {a1 : Int32} {M : Mem} {rv : Mem} (hf : f_X10_laysState n o a1 M = some rv) : Kt yX10_laysState cX10_laysState 4 none 0 0 G [.ref (gB G + o), .int a1] M rv none := by
  refine Kt.of (by decide) (Nat.le_of_ble_eq_true rfl) ?_
  intro p l e R s m args below meth c X hr hlk hnm
  refine s_drop [0, 1] (vs' := [(0, .ref (gB G + o)), (1, .int a1)]) rfl ?_
  rw [f_X10_laysState] at hf
  refine s_sipush X (v := (833 : Int32)) dX10_laysState_0 rfl ?_
  refine s_aload_n X 0 dX10_laysState_3 rfl rfl ?_
  obtain ⟨h1, hf⟩ := pk_chk hf
  obtain ⟨o2, e3, hf⟩ := pk_bnd hf
  obtain ⟨h4, hf⟩ := pk_chk hf
  refine s_getR X (ci := 10) (k := 11) rfl (Nat.le_of_ble_eq_true rfl) h1 wd1451 (fun _ _ _ => rfl) (e3 ▸ h4) dX10_laysState_4 (e3 ▸ ?_)
  refine s_sipush X (v := (9833 : Int32)) dX10_laysState_7 rfl ?_
  refine s_iload_n X 1 dX10_laysState_10 rfl rfl ?_
  refine s_imul X dX10_laysState_11 ?_
  refine s_sipush X (v := (850 : Int32)) dX10_laysState_12 rfl ?_
  refine s_iadd X dX10_laysState_15 ?_
  refine s_bipush X (v := (18 : Int32)) dX10_laysState_16 rfl ?_
  refine s_isub X dX10_laysState_18 ?_
  obtain ⟨h5, hf⟩ := pk_chk hf
  refine s_iald X h4 h5 dX10_laysState_19 ?_
  refine s_iadd X dX10_laysState_20 ?_
  obtain ⟨x6, e7, hf⟩ := pk_bnd hf
  refine s_nmI e7 ?_
  refine s_istore_n X (vs' := [(0, .ref (gB G + o)), (1, .int a1), (2, .int x6)]) dX10_laysState_21 rfl (Nat.le_of_ble_eq_true rfl) [1, 2, 0] rfl ?_
  refine s_iconst X (v := (0 : Int32)) dX10_laysState_22 rfl ?_
  refine s_istore_n X (vs' := [(0, .ref (gB G + o)), (1, .int a1), (2, .int x6), (3, .int (0 : Int32))]) dX10_laysState_23 rfl (Nat.le_of_ble_eq_true rfl) [1, 2, 3, 0] rfl ?_
  exact l_X10_laysState_24 X hr hlk hnm _ _ _ _ _ hf
theorem dX10_look_0 : decode cX10_look 0 = .ok (.aload_n 0, 1) := dk_42 (by decide +kernel)
theorem dX10_look_1 : decode cX10_look 1 = .ok (.invokevirtual 196, 3) := dk_182 (x := 0) (y := 196) (by decide +kernel) rfl
theorem dX10_look_4 : decode cX10_look 4 = .ok (.invokestatic 111, 3) := dk_184 (x := 0) (y := 111) (by decide +kernel) rfl
theorem dX10_look_7 : decode cX10_look 7 = .ok (.iconst 1, 1) := dk_4 (by decide +kernel)
theorem dX10_look_8 : decode cX10_look 8 = .ok (.if_icmp .le 13, 3) := dk_164 (x := 0) (y := 13) (by decide +kernel) rfl
theorem dX10_look_11 : decode cX10_look 11 = .ok (.aload_n 0, 1) := dk_42 (by decide +kernel)
theorem dX10_look_12 : decode cX10_look 12 = .ok (.dup, 1) := dk_89 (by decide +kernel)
theorem dX10_look_13 : decode cX10_look 13 = .ok (.getfield 348, 3) := dk_180 (x := 1) (y := 92) (by decide +kernel) rfl
theorem dX10_look_16 : decode cX10_look 16 = .ok (.iconst 1, 1) := dk_4 (by decide +kernel)
theorem dX10_look_17 : decode cX10_look 17 = .ok (.iadd, 1) := dk_96 (by decide +kernel)
theorem dX10_look_18 : decode cX10_look 18 = .ok (.putfield 348, 3) := dk_181 (x := 1) (y := 92) (by decide +kernel) rfl
theorem dX10_look_21 : decode cX10_look 21 = .ok (.aload_n 0, 1) := dk_42 (by decide +kernel)
theorem dX10_look_22 : decode cX10_look 22 = .ok (.invokevirtual 289, 3) := dk_182 (x := 1) (y := 33) (by decide +kernel) rfl
theorem dX10_look_25 : decode cX10_look 25 = .ok (.ifCond .ne 20, 3) := dk_154 (x := 0) (y := 20) (by decide +kernel) rfl
theorem dX10_look_28 : decode cX10_look 28 = .ok (.aload_n 0, 1) := dk_42 (by decide +kernel)
theorem dX10_look_29 : decode cX10_look 29 = .ok (.invokevirtual 268, 3) := dk_182 (x := 1) (y := 12) (by decide +kernel) rfl
theorem dX10_look_32 : decode cX10_look 32 = .ok (.ifCond .eq 13, 3) := dk_153 (x := 0) (y := 13) (by decide +kernel) rfl
theorem dX10_look_35 : decode cX10_look 35 = .ok (.aload_n 0, 1) := dk_42 (by decide +kernel)
theorem dX10_look_36 : decode cX10_look 36 = .ok (.dup, 1) := dk_89 (by decide +kernel)
theorem dX10_look_37 : decode cX10_look 37 = .ok (.getfield 351, 3) := dk_180 (x := 1) (y := 95) (by decide +kernel) rfl
theorem dX10_look_40 : decode cX10_look 40 = .ok (.iconst 1, 1) := dk_4 (by decide +kernel)
theorem dX10_look_41 : decode cX10_look 41 = .ok (.iadd, 1) := dk_96 (by decide +kernel)
theorem dX10_look_42 : decode cX10_look 42 = .ok (.putfield 351, 3) := dk_181 (x := 1) (y := 95) (by decide +kernel) rfl
theorem dX10_look_45 : decode cX10_look 45 = .ok (.aload_n 0, 1) := dk_42 (by decide +kernel)
theorem dX10_look_46 : decode cX10_look 46 = .ok (.getfield 7, 3) := dk_180 (x := 0) (y := 7) (by decide +kernel) rfl
theorem dX10_look_49 : decode cX10_look 49 = .ok (.sipush 850, 3) := dk_17 (x := 3) (y := 82) (by decide +kernel) rfl
theorem dX10_look_52 : decode cX10_look 52 = .ok (.iaload, 1) := dk_46 (by decide +kernel)
theorem dX10_look_53 : decode cX10_look 53 = .ok (.aload_n 0, 1) := dk_42 (by decide +kernel)
theorem dX10_look_54 : decode cX10_look 54 = .ok (.getfield 354, 3) := dk_180 (x := 1) (y := 98) (by decide +kernel) rfl
theorem dX10_look_57 : decode cX10_look 57 = .ok (.if_icmp .le 15, 3) := dk_164 (x := 0) (y := 15) (by decide +kernel) rfl
theorem dX10_look_60 : decode cX10_look 60 = .ok (.aload_n 0, 1) := dk_42 (by decide +kernel)
theorem dX10_look_61 : decode cX10_look 61 = .ok (.aload_n 0, 1) := dk_42 (by decide +kernel)
theorem dX10_look_62 : decode cX10_look 62 = .ok (.getfield 7, 3) := dk_180 (x := 0) (y := 7) (by decide +kernel) rfl
theorem dX10_look_65 : decode cX10_look 65 = .ok (.sipush 850, 3) := dk_17 (x := 3) (y := 82) (by decide +kernel) rfl
theorem dX10_look_68 : decode cX10_look 68 = .ok (.iaload, 1) := dk_46 (by decide +kernel)
theorem dX10_look_69 : decode cX10_look 69 = .ok (.putfield 354, 3) := dk_181 (x := 1) (y := 98) (by decide +kernel) rfl
theorem dX10_look_72 : decode cX10_look 72 = .ok (.iload_n 1, 1) := dk_27 (by decide +kernel)
theorem dX10_look_73 : decode cX10_look 73 = .ok (.iconst (-1), 1) := dk_2 (by decide +kernel)
theorem dX10_look_74 : decode cX10_look 74 = .ok (.if_icmp .eq 31, 3) := dk_159 (x := 0) (y := 31) (by decide +kernel) rfl
theorem dX10_look_77 : decode cX10_look 77 = .ok (.aload_n 0, 1) := dk_42 (by decide +kernel)
theorem dX10_look_78 : decode cX10_look 78 = .ok (.getfield 357, 3) := dk_180 (x := 1) (y := 101) (by decide +kernel) rfl
theorem dX10_look_81 : decode cX10_look 81 = .ok (.iconst (-1), 1) := dk_2 (by decide +kernel)
theorem dX10_look_82 : decode cX10_look 82 = .ok (.if_icmp .ne 23, 3) := dk_160 (x := 0) (y := 23) (by decide +kernel) rfl
theorem dX10_look_85 : decode cX10_look 85 = .ok (.aload_n 0, 1) := dk_42 (by decide +kernel)
theorem dX10_look_86 : decode cX10_look 86 = .ok (.iload_n 1, 1) := dk_27 (by decide +kernel)
theorem dX10_look_87 : decode cX10_look 87 = .ok (.iconst 0, 1) := dk_3 (by decide +kernel)
theorem dX10_look_88 : decode cX10_look 88 = .ok (.invokevirtual 93, 3) := dk_182 (x := 0) (y := 93) (by decide +kernel) rfl
theorem dX10_look_91 : decode cX10_look 91 = .ok (.iconst 2, 1) := dk_5 (by decide +kernel)
theorem dX10_look_92 : decode cX10_look 92 = .ok (.if_icmp .ne 13, 3) := dk_160 (x := 0) (y := 13) (by decide +kernel) rfl
theorem dX10_look_95 : decode cX10_look 95 = .ok (.aload_n 0, 1) := dk_42 (by decide +kernel)
theorem dX10_look_96 : decode cX10_look 96 = .ok (.aload_n 0, 1) := dk_42 (by decide +kernel)
theorem dX10_look_97 : decode cX10_look 97 = .ok (.getfield 35, 3) := dk_180 (x := 0) (y := 35) (by decide +kernel) rfl
theorem dX10_look_100 : decode cX10_look 100 = .ok (.iload_n 2, 1) := dk_28 (by decide +kernel)
theorem dX10_look_101 : decode cX10_look 101 = .ok (.iaload, 1) := dk_46 (by decide +kernel)
theorem dX10_look_102 : decode cX10_look 102 = .ok (.putfield 357, 3) := dk_181 (x := 1) (y := 101) (by decide +kernel) rfl
theorem dX10_look_105 : decode cX10_look 105 = .ok (.return_, 1) := dk_177 (by decide +kernel)
def f_X10_look_72 (n : Nat) (v0 : Nat) (v1 : Int32) (v2 : Int32) (M : Mem) : Option Mem :=
    if v1 = (-1 : Int32) then (
      some M
      ) else (
      chk (isO M 10 v0) <|
      if (mI M v0 18) = (-1 : Int32) then (
        obd (f_X10_get v0 v1 (0 : Int32) M) fun r7 =>
        if r7 = (2 : Int32) then (
          bnd (mR M v0 12) fun o10 =>
          chk (isO M 100 o10) <|
          chk (inB v2 (mLn M o10)) <|
          bnd (sI M v0 18 (mI M o10 (v2).toNatClampNeg)) fun M14 =>
          some M14
          ) else (
          some M
          )
        ) else (
        some M
        )
      )
def f_X10_look_45 (n : Nat) (v0 : Nat) (v1 : Int32) (v2 : Int32) (M : Mem) : Option Mem :=
    chk (isO M 10 v0) <|
    bnd (mR M v0 0) fun o2 =>
    chk (isO M 100 o2) <|
    chk (inB (850 : Int32) (mLn M o2)) <|
    if (mI M o2 ((850 : Int32)).toNatClampNeg) ≤ (mI M v0 17) then (
      f_X10_look_72 n v0 v1 v2 M
      ) else (
      bnd (mR M v0 0) fun o8 =>
      chk (isO M 100 o8) <|
      chk (inB (850 : Int32) (mLn M o8)) <|
      bnd (sI M v0 17 (mI M o8 ((850 : Int32)).toNatClampNeg)) fun M12 =>
      f_X10_look_72 n v0 v1 v2 M12
      )
def f_X10_look_21 (n : Nat) (v0 : Nat) (v1 : Int32) (v2 : Int32) (M : Mem) : Option Mem :=
    chk (isO M 10 v0) <|
    obd2 (f_X10_movesNow n v0 M) fun r3 M4 =>
    if r3 = 0 then (
      chk (isO M4 10 v0) <|
      obd (f_X10_askings n v0 M4) fun r9 =>
      if r9 = 0 then (
        f_X10_look_45 n v0 v1 v2 M4
        ) else (
        bnd (sI M4 v0 16 ((mI M4 v0 16) + (1 : Int32))) fun M12 =>
        f_X10_look_45 n v0 v1 v2 M12
        )
      ) else (
      f_X10_look_45 n v0 v1 v2 M4
      )
def f_X10_look (n : Nat) (o : Nat) (a1 : Int32) (a2 : Int32) (M : Mem) : Option Mem :=
  chk (isO M 10 o) <|
  obd (f_X10_insides n o M) fun r3 =>
  obd (f_X10_many n r3 M) fun r5 =>
  if r5 ≤ (1 : Int32) then (
    f_X10_look_21 n o a1 a2 M
    ) else (
    bnd (sI M o 15 ((mI M o 15) + (1 : Int32))) fun M8 =>
    f_X10_look_21 n o a1 a2 M8
    )
theorem cd_X10_look : (yX10_look.cls ≠ "java/lang/invoke/MethodHandle" ∧ yX10_look.cls ≠ "java/lang/invoke/VarHandle") ∧ (parseMethodDescriptor yX10_look.desc).map (fun d => d.parameters.length) = some 2 := ⟨⟨by decide +kernel, by decide +kernel⟩, by decide +kernel⟩
section
variable {p : Program} {l : Launch} {e : Env} {R : Room} {s : State} {m : MethodId} {args : Array Value} {below : List Frame} {meth : Method} {c : Code} {G : Gam} {M0 : Mem}
theorem l_X10_look_72 {rv : Mem} {n : Nat} {v0 : Nat} {v1 : Int32} {v2 : Int32} {M : Mem} (X : Cx p R s m args c G M0 cX10_look yX10_look.cls 3 7 153) (hr : meth.sig.returnType = none) (hlk : meth.locks = false) (hnm : meth.name = "look") (hf : f_X10_look_72 n v0 v1 v2 M = some rv) : Sg p l e R s m args below meth c (Qm below G args s none M0 rv) G M0 3 72 [(0, .ref (gB G + v0)), (1, .int v1), (2, .int v2)] [] M := by
  rw [f_X10_look_72] at hf
  refine s_iload_n X 1 dX10_look_72 rfl rfl ?_
  refine s_iconst X (v := (-1 : Int32)) dX10_look_73 rfl ?_
  have hs1 := pk_ite hf
  clear hf
  refine s_icmp_eq X (tgt := 105) dX10_look_74 rfl (fun c2 => ?_) (fun c2 => ?_)
  · have hf := hs1.1 c2
    cases hf
    exact s_vret X hr hlk dX10_look_105
  · have hf := hs1.2 c2
    refine s_aload_n X 0 dX10_look_77 rfl rfl ?_
    obtain ⟨h3, hf⟩ := pk_chk hf
    refine s_getI X (ci := 10) (k := 18) rfl (Nat.le_of_ble_eq_true rfl) h3 wd1458 (fun _ _ _ => rfl) dX10_look_78 ?_
    refine s_iconst X (v := (-1 : Int32)) dX10_look_81 rfl ?_
    have hs4 := pk_ite hf
    clear hf
    refine s_icmp_ne X (tgt := 105) dX10_look_82 rfl (fun c5 => ?_) (fun c5 => ?_)
    · have hf := hs4.2 c5
      cases hf
      exact s_vret X hr hlk dX10_look_105
    · have hf := hs4.1 c5
      refine s_aload_n X 0 dX10_look_85 rfl rfl ?_
      refine s_iload_n X 1 dX10_look_86 rfl rfl ?_
      refine s_iconst X (v := (0 : Int32)) dX10_look_87 rfl ?_
      obtain ⟨r7, hc6, hf⟩ := pk_obd hf
      refine s_callV X (ci := 10) (k_X10_get G hc6) rfl h3 wd1588 wd1590 wd57 wd1591 wd138 cd_X10_get ⟨Nat.le_of_ble_eq_true rfl, Nat.le_of_ble_eq_true rfl⟩ (Nat.le_of_ble_eq_true rfl) dX10_look_88 ?_
      refine s_iconst X (v := (2 : Int32)) dX10_look_91 rfl ?_
      have hs8 := pk_ite hf
      clear hf
      refine s_icmp_ne X (tgt := 105) dX10_look_92 rfl (fun c9 => ?_) (fun c9 => ?_)
      · have hf := hs8.2 c9
        cases hf
        exact s_vret X hr hlk dX10_look_105
      · have hf := hs8.1 c9
        refine s_aload_n X 0 dX10_look_95 rfl rfl ?_
        refine s_aload_n X 0 dX10_look_96 rfl rfl ?_
        obtain ⟨o10, e11, hf⟩ := pk_bnd hf
        obtain ⟨h12, hf⟩ := pk_chk hf
        refine s_getR X (ci := 10) (k := 12) rfl (Nat.le_of_ble_eq_true rfl) h3 wd1452 (fun _ _ _ => rfl) (e11 ▸ h12) dX10_look_97 (e11 ▸ ?_)
        refine s_iload_n X 2 dX10_look_100 rfl rfl ?_
        obtain ⟨h13, hf⟩ := pk_chk hf
        refine s_iald X h12 h13 dX10_look_101 ?_
        obtain ⟨M14, e15, hf⟩ := pk_bnd hf
        refine s_putI X (ci := 10) (k := 18) rfl (Nat.le_of_ble_eq_true rfl) h3 wd1458 (fun _ _ _ => rfl) rfl rfl e15 dX10_look_102 ?_
        have h16 := io_sI e15 h3
        have h17 := io_sI e15 h12
        cases hf
        exact s_vret X hr hlk dX10_look_105
theorem l_X10_look_45 {rv : Mem} {n : Nat} {v0 : Nat} {v1 : Int32} {v2 : Int32} {M : Mem} (X : Cx p R s m args c G M0 cX10_look yX10_look.cls 3 7 153) (hr : meth.sig.returnType = none) (hlk : meth.locks = false) (hnm : meth.name = "look") (hf : f_X10_look_45 n v0 v1 v2 M = some rv) : Sg p l e R s m args below meth c (Qm below G args s none M0 rv) G M0 3 45 [(0, .ref (gB G + v0)), (1, .int v1), (2, .int v2)] [] M := by
  rw [f_X10_look_45] at hf
  refine s_aload_n X 0 dX10_look_45 rfl rfl ?_
  obtain ⟨h1, hf⟩ := pk_chk hf
  obtain ⟨o2, e3, hf⟩ := pk_bnd hf
  obtain ⟨h4, hf⟩ := pk_chk hf
  refine s_getR X (ci := 10) (k := 0) rfl (Nat.le_of_ble_eq_true rfl) h1 wd1440 (fun _ _ _ => rfl) (e3 ▸ h4) dX10_look_46 (e3 ▸ ?_)
  refine s_sipush X (v := (850 : Int32)) dX10_look_49 rfl ?_
  obtain ⟨h5, hf⟩ := pk_chk hf
  refine s_iald X h4 h5 dX10_look_52 ?_
  refine s_aload_n X 0 dX10_look_53 rfl rfl ?_
  refine s_getI X (ci := 10) (k := 17) rfl (Nat.le_of_ble_eq_true rfl) h1 wd1457 (fun _ _ _ => rfl) dX10_look_54 ?_
  have hs6 := pk_ite hf
  clear hf
  refine s_icmp_le X (tgt := 72) dX10_look_57 rfl (fun c7 => ?_) (fun c7 => ?_)
  · have hf := hs6.1 c7
    exact l_X10_look_72 X hr hlk hnm hf
  · have hf := hs6.2 c7
    refine s_aload_n X 0 dX10_look_60 rfl rfl ?_
    refine s_aload_n X 0 dX10_look_61 rfl rfl ?_
    obtain ⟨o8, e9, hf⟩ := pk_bnd hf
    obtain ⟨h10, hf⟩ := pk_chk hf
    refine s_getR X (ci := 10) (k := 0) rfl (Nat.le_of_ble_eq_true rfl) h1 wd1440 (fun _ _ _ => rfl) (e9 ▸ h10) dX10_look_62 (e9 ▸ ?_)
    refine s_sipush X (v := (850 : Int32)) dX10_look_65 rfl ?_
    obtain ⟨h11, hf⟩ := pk_chk hf
    refine s_iald X h10 h11 dX10_look_68 ?_
    obtain ⟨M12, e13, hf⟩ := pk_bnd hf
    refine s_putI X (ci := 10) (k := 17) rfl (Nat.le_of_ble_eq_true rfl) h1 wd1457 (fun _ _ _ => rfl) rfl rfl e13 dX10_look_69 ?_
    have h14 := io_sI e13 h1
    have h15 := io_sI e13 h4
    have h16 := io_sI e13 h10
    exact l_X10_look_72 X hr hlk hnm hf
theorem l_X10_look_21 {rv : Mem} {n : Nat} {v0 : Nat} {v1 : Int32} {v2 : Int32} {M : Mem} (X : Cx p R s m args c G M0 cX10_look yX10_look.cls 3 7 153) (hr : meth.sig.returnType = none) (hlk : meth.locks = false) (hnm : meth.name = "look") (hf : f_X10_look_21 n v0 v1 v2 M = some rv) : Sg p l e R s m args below meth c (Qm below G args s none M0 rv) G M0 3 21 [(0, .ref (gB G + v0)), (1, .int v1), (2, .int v2)] [] M := by
  rw [f_X10_look_21] at hf
  refine s_aload_n X 0 dX10_look_21 rfl rfl ?_
  obtain ⟨h1, hf⟩ := pk_chk hf
  obtain ⟨r3, M4, hc2, hf⟩ := pk_obd2 hf
  refine s_callV X (ci := 10) (k_X10_movesNow G hc2) rfl h1 wd1902 wd1904 wd102 wd1905 wd138 cd_X10_movesNow ⟨Nat.le_of_ble_eq_true rfl, Nat.le_of_ble_eq_true rfl⟩ (Nat.le_of_ble_eq_true rfl) dX10_look_22 ?_
  have hs5 := pk_ite hf
  clear hf
  refine s_if_ne X (tgt := 45) dX10_look_25 rfl (fun c6 => ?_) (fun c6 => ?_)
  · have hf := hs5.2 c6
    exact l_X10_look_45 X hr hlk hnm hf
  · have hf := hs5.1 c6
    refine s_aload_n X 0 dX10_look_28 rfl rfl ?_
    obtain ⟨h7, hf⟩ := pk_chk hf
    obtain ⟨r9, hc8, hf⟩ := pk_obd hf
    refine s_callV X (ci := 10) (k_X10_askings G hc8) rfl h7 wd1862 wd1864 wd100 wd1865 wd138 cd_X10_askings ⟨Nat.le_of_ble_eq_true rfl, Nat.le_of_ble_eq_true rfl⟩ (Nat.le_of_ble_eq_true rfl) dX10_look_29 ?_
    have hs10 := pk_ite hf
    clear hf
    refine s_if_eq X (tgt := 45) dX10_look_32 rfl (fun c11 => ?_) (fun c11 => ?_)
    · have hf := hs10.1 c11
      exact l_X10_look_45 X hr hlk hnm hf
    · have hf := hs10.2 c11
      refine s_aload_n X 0 dX10_look_35 rfl rfl ?_
      refine s_dup X dX10_look_36 rfl ?_
      refine s_getI X (ci := 10) (k := 16) rfl (Nat.le_of_ble_eq_true rfl) h7 wd1456 (fun _ _ _ => rfl) dX10_look_37 ?_
      refine s_iconst X (v := (1 : Int32)) dX10_look_40 rfl ?_
      refine s_iadd X dX10_look_41 ?_
      obtain ⟨M12, e13, hf⟩ := pk_bnd hf
      refine s_putI X (ci := 10) (k := 16) rfl (Nat.le_of_ble_eq_true rfl) h7 wd1456 (fun _ _ _ => rfl) rfl rfl e13 dX10_look_42 ?_
      have h14 := io_sI e13 h7
      exact l_X10_look_45 X hr hlk hnm hf
end
theorem k_X10_look (G : Gam) {n : Nat} {o : Nat} {a1 : Int32} {a2 : Int32} {M : Mem} {rv : Mem} (hf : f_X10_look n o a1 a2 M = some rv) : Kt yX10_look cX10_look 3 none 7 153 G [.ref (gB G + o), .int a1, .int a2] M rv none := by
  refine Kt.of (by decide) (Nat.le_of_ble_eq_true rfl) ?_
  intro p l e R s m args below meth c X hr hlk hnm
  refine s_drop [0, 1, 2] (vs' := [(0, .ref (gB G + o)), (1, .int a1), (2, .int a2)]) rfl ?_
  rw [f_X10_look] at hf
  refine s_aload_n X 0 dX10_look_0 rfl rfl ?_
  obtain ⟨h1, hf⟩ := pk_chk hf
  obtain ⟨r3, hc2, hf⟩ := pk_obd hf
  refine s_callV X (ci := 10) (k_X10_insides G hc2) rfl h1 wd1826 wd1828 wd93 wd1829 wd138 cd_X10_insides ⟨Nat.le_of_ble_eq_true rfl, Nat.le_of_ble_eq_true rfl⟩ (Nat.le_of_ble_eq_true rfl) dX10_look_1 ?_
  obtain ⟨r5, hc4, hf⟩ := pk_obd hf
  refine s_callS X (k_X10_many G hc4) wd1624 wd1625 wd1626 wd138 cd_X10_many ⟨Nat.le_of_ble_eq_true rfl, Nat.le_of_ble_eq_true rfl⟩ (Nat.le_of_ble_eq_true rfl) dX10_look_4 ?_
  refine s_iconst X (v := (1 : Int32)) dX10_look_7 rfl ?_
  have hs6 := pk_ite hf
  clear hf
  refine s_icmp_le X (tgt := 21) dX10_look_8 rfl (fun c7 => ?_) (fun c7 => ?_)
  · have hf := hs6.1 c7
    exact l_X10_look_21 X hr hlk hnm hf
  · have hf := hs6.2 c7
    refine s_aload_n X 0 dX10_look_11 rfl rfl ?_
    refine s_dup X dX10_look_12 rfl ?_
    refine s_getI X (ci := 10) (k := 15) rfl (Nat.le_of_ble_eq_true rfl) h1 wd1455 (fun _ _ _ => rfl) dX10_look_13 ?_
    refine s_iconst X (v := (1 : Int32)) dX10_look_16 rfl ?_
    refine s_iadd X dX10_look_17 ?_
    obtain ⟨M8, e9, hf⟩ := pk_bnd hf
    refine s_putI X (ci := 10) (k := 15) rfl (Nat.le_of_ble_eq_true rfl) h1 wd1455 (fun _ _ _ => rfl) rfl rfl e9 dX10_look_18 ?_
    have h10 := io_sI e9 h1
    exact l_X10_look_21 X hr hlk hnm hf
theorem dX10_search_0 : decode cX10_search 0 = .ok (.aload_n 0, 1) := dk_42 (by decide +kernel)
theorem dX10_search_1 : decode cX10_search 1 = .ok (.invokevirtual 320, 3) := dk_182 (x := 1) (y := 64) (by decide +kernel) rfl
theorem dX10_search_4 : decode cX10_search 4 = .ok (.iconst 0, 1) := dk_3 (by decide +kernel)
theorem dX10_search_5 : decode cX10_search 5 = .ok (.istore_n 3, 1) := dk_62 (by decide +kernel)
theorem dX10_search_6 : decode cX10_search 6 = .ok (.iload_n 3, 1) := dk_29 (by decide +kernel)
theorem dX10_search_7 : decode cX10_search 7 = .ok (.aload_n 0, 1) := dk_42 (by decide +kernel)
theorem dX10_search_8 : decode cX10_search 8 = .ok (.getfield 7, 3) := dk_180 (x := 0) (y := 7) (by decide +kernel) rfl
theorem dX10_search_11 : decode cX10_search 11 = .ok (.iconst 0, 1) := dk_3 (by decide +kernel)
theorem dX10_search_12 : decode cX10_search 12 = .ok (.iaload, 1) := dk_46 (by decide +kernel)
theorem dX10_search_13 : decode cX10_search 13 = .ok (.if_icmp .ge 21, 3) := dk_162 (x := 0) (y := 21) (by decide +kernel) rfl
theorem dX10_search_16 : decode cX10_search 16 = .ok (.aload_n 0, 1) := dk_42 (by decide +kernel)
theorem dX10_search_17 : decode cX10_search 17 = .ok (.getfield 22, 3) := dk_180 (x := 0) (y := 22) (by decide +kernel) rfl
theorem dX10_search_20 : decode cX10_search 20 = .ok (.iload_n 3, 1) := dk_29 (by decide +kernel)
theorem dX10_search_21 : decode cX10_search 21 = .ok (.aload_n 0, 1) := dk_42 (by decide +kernel)
theorem dX10_search_22 : decode cX10_search 22 = .ok (.iload_n 3, 1) := dk_29 (by decide +kernel)
theorem dX10_search_23 : decode cX10_search 23 = .ok (.iconst 2, 1) := dk_5 (by decide +kernel)
theorem dX10_search_24 : decode cX10_search 24 = .ok (.invokevirtual 93, 3) := dk_182 (x := 0) (y := 93) (by decide +kernel) rfl
theorem dX10_search_27 : decode cX10_search 27 = .ok (.iastore, 1) := dk_79 (by decide +kernel)
theorem dX10_search_28 : decode cX10_search 28 = .ok (.iinc 3 1, 3) := dk_132 (x := 3) (y := 1) (by decide +kernel) rfl
theorem dX10_search_31 : decode cX10_search 31 = .ok (.goto (-25), 3) := dk_167 (x := 255) (y := 231) (by decide +kernel) rfl
theorem dX10_search_34 : decode cX10_search 34 = .ok (.aload_n 0, 1) := dk_42 (by decide +kernel)
theorem dX10_search_35 : decode cX10_search 35 = .ok (.iconst 0, 1) := dk_3 (by decide +kernel)
theorem dX10_search_36 : decode cX10_search 36 = .ok (.putfield 335, 3) := dk_181 (x := 1) (y := 79) (by decide +kernel) rfl
theorem dX10_search_39 : decode cX10_search 39 = .ok (.aload_n 0, 1) := dk_42 (by decide +kernel)
theorem dX10_search_40 : decode cX10_search 40 = .ok (.iconst 0, 1) := dk_3 (by decide +kernel)
theorem dX10_search_41 : decode cX10_search 41 = .ok (.putfield 341, 3) := dk_181 (x := 1) (y := 85) (by decide +kernel) rfl
theorem dX10_search_44 : decode cX10_search 44 = .ok (.aload_n 0, 1) := dk_42 (by decide +kernel)
theorem dX10_search_45 : decode cX10_search 45 = .ok (.iconst 0, 1) := dk_3 (by decide +kernel)
theorem dX10_search_46 : decode cX10_search 46 = .ok (.putfield 348, 3) := dk_181 (x := 1) (y := 92) (by decide +kernel) rfl
theorem dX10_search_49 : decode cX10_search 49 = .ok (.aload_n 0, 1) := dk_42 (by decide +kernel)
theorem dX10_search_50 : decode cX10_search 50 = .ok (.iconst 0, 1) := dk_3 (by decide +kernel)
theorem dX10_search_51 : decode cX10_search 51 = .ok (.putfield 351, 3) := dk_181 (x := 1) (y := 95) (by decide +kernel) rfl
theorem dX10_search_54 : decode cX10_search 54 = .ok (.aload_n 0, 1) := dk_42 (by decide +kernel)
theorem dX10_search_55 : decode cX10_search 55 = .ok (.iconst 0, 1) := dk_3 (by decide +kernel)
theorem dX10_search_56 : decode cX10_search 56 = .ok (.putfield 354, 3) := dk_181 (x := 1) (y := 98) (by decide +kernel) rfl
theorem dX10_search_59 : decode cX10_search 59 = .ok (.aload_n 0, 1) := dk_42 (by decide +kernel)
theorem dX10_search_60 : decode cX10_search 60 = .ok (.iconst (-1), 1) := dk_2 (by decide +kernel)
theorem dX10_search_61 : decode cX10_search 61 = .ok (.putfield 357, 3) := dk_181 (x := 1) (y := 101) (by decide +kernel) rfl
theorem dX10_search_64 : decode cX10_search 64 = .ok (.aload_n 0, 1) := dk_42 (by decide +kernel)
theorem dX10_search_65 : decode cX10_search 65 = .ok (.iload_n 1, 1) := dk_27 (by decide +kernel)
theorem dX10_search_66 : decode cX10_search 66 = .ok (.iconst 0, 1) := dk_3 (by decide +kernel)
theorem dX10_search_67 : decode cX10_search 67 = .ok (.invokevirtual 360, 3) := dk_182 (x := 1) (y := 104) (by decide +kernel) rfl
theorem dX10_search_70 : decode cX10_search 70 = .ok (.iconst 0, 1) := dk_3 (by decide +kernel)
theorem dX10_search_71 : decode cX10_search 71 = .ok (.istore_n 3, 1) := dk_62 (by decide +kernel)
theorem dX10_search_72 : decode cX10_search 72 = .ok (.iload_n 3, 1) := dk_29 (by decide +kernel)
theorem dX10_search_73 : decode cX10_search 73 = .ok (.aload_n 0, 1) := dk_42 (by decide +kernel)
theorem dX10_search_74 : decode cX10_search 74 = .ok (.getfield 335, 3) := dk_180 (x := 1) (y := 79) (by decide +kernel) rfl
theorem dX10_search_77 : decode cX10_search 77 = .ok (.if_icmp .ge 70, 3) := dk_162 (x := 0) (y := 70) (by decide +kernel) rfl
theorem dX10_search_80 : decode cX10_search 80 = .ok (.aload_n 0, 1) := dk_42 (by decide +kernel)
theorem dX10_search_81 : decode cX10_search 81 = .ok (.iload_n 3, 1) := dk_29 (by decide +kernel)
theorem dX10_search_82 : decode cX10_search 82 = .ok (.invokevirtual 363, 3) := dk_182 (x := 1) (y := 107) (by decide +kernel) rfl
theorem dX10_search_85 : decode cX10_search 85 = .ok (.aload_n 0, 1) := dk_42 (by decide +kernel)
theorem dX10_search_86 : decode cX10_search 86 = .ok (.iload_n 2, 1) := dk_28 (by decide +kernel)
theorem dX10_search_87 : decode cX10_search 87 = .ok (.iload_n 3, 1) := dk_29 (by decide +kernel)
theorem dX10_search_88 : decode cX10_search 88 = .ok (.invokevirtual 366, 3) := dk_182 (x := 1) (y := 110) (by decide +kernel) rfl
theorem dX10_search_91 : decode cX10_search 91 = .ok (.aload_n 0, 1) := dk_42 (by decide +kernel)
theorem dX10_search_92 : decode cX10_search 92 = .ok (.invokevirtual 289, 3) := dk_182 (x := 1) (y := 33) (by decide +kernel) rfl
theorem dX10_search_95 : decode cX10_search 95 = .ok (.istore 4, 2) := dk_54 (x := 4) (by decide +kernel)
theorem dX10_search_97 : decode cX10_search 97 = .ok (.iconst 0, 1) := dk_3 (by decide +kernel)
theorem dX10_search_98 : decode cX10_search 98 = .ok (.istore 5, 2) := dk_54 (x := 5) (by decide +kernel)
theorem dX10_search_100 : decode cX10_search 100 = .ok (.iload 5, 2) := dk_21 (x := 5) (by decide +kernel)
theorem dX10_search_102 : decode cX10_search 102 = .ok (.iload 4, 2) := dk_21 (x := 4) (by decide +kernel)
theorem dX10_search_104 : decode cX10_search 104 = .ok (.if_icmp .ge 37, 3) := dk_162 (x := 0) (y := 37) (by decide +kernel) rfl
theorem dX10_search_107 : decode cX10_search 107 = .ok (.aload_n 0, 1) := dk_42 (by decide +kernel)
theorem dX10_search_108 : decode cX10_search 108 = .ok (.iload_n 3, 1) := dk_29 (by decide +kernel)
theorem dX10_search_109 : decode cX10_search 109 = .ok (.invokevirtual 363, 3) := dk_182 (x := 1) (y := 107) (by decide +kernel) rfl
theorem dX10_search_112 : decode cX10_search 112 = .ok (.aload_n 0, 1) := dk_42 (by decide +kernel)
theorem dX10_search_113 : decode cX10_search 113 = .ok (.invokevirtual 280, 3) := dk_182 (x := 1) (y := 24) (by decide +kernel) rfl
theorem dX10_search_116 : decode cX10_search 116 = .ok (.aload_n 0, 1) := dk_42 (by decide +kernel)
theorem dX10_search_117 : decode cX10_search 117 = .ok (.iload 5, 2) := dk_21 (x := 5) (by decide +kernel)
theorem dX10_search_119 : decode cX10_search 119 = .ok (.invokevirtual 313, 3) := dk_182 (x := 1) (y := 57) (by decide +kernel) rfl
theorem dX10_search_122 : decode cX10_search 122 = .ok (.aload_n 0, 1) := dk_42 (by decide +kernel)
theorem dX10_search_123 : decode cX10_search 123 = .ok (.iload_n 1, 1) := dk_27 (by decide +kernel)
theorem dX10_search_124 : decode cX10_search 124 = .ok (.aload_n 0, 1) := dk_42 (by decide +kernel)
theorem dX10_search_125 : decode cX10_search 125 = .ok (.getfield 35, 3) := dk_180 (x := 0) (y := 35) (by decide +kernel) rfl
theorem dX10_search_128 : decode cX10_search 128 = .ok (.iload_n 3, 1) := dk_29 (by decide +kernel)
theorem dX10_search_129 : decode cX10_search 129 = .ok (.iaload, 1) := dk_46 (by decide +kernel)
theorem dX10_search_130 : decode cX10_search 130 = .ok (.iconst 1, 1) := dk_4 (by decide +kernel)
theorem dX10_search_131 : decode cX10_search 131 = .ok (.iadd, 1) := dk_96 (by decide +kernel)
theorem dX10_search_132 : decode cX10_search 132 = .ok (.invokevirtual 360, 3) := dk_182 (x := 1) (y := 104) (by decide +kernel) rfl
theorem dX10_search_135 : decode cX10_search 135 = .ok (.iinc 5 1, 3) := dk_132 (x := 5) (y := 1) (by decide +kernel) rfl
theorem dX10_search_138 : decode cX10_search 138 = .ok (.goto (-38), 3) := dk_167 (x := 255) (y := 218) (by decide +kernel) rfl
theorem dX10_search_141 : decode cX10_search 141 = .ok (.iinc 3 1, 3) := dk_132 (x := 3) (y := 1) (by decide +kernel) rfl
theorem dX10_search_144 : decode cX10_search 144 = .ok (.goto (-72), 3) := dk_167 (x := 255) (y := 184) (by decide +kernel) rfl
theorem dX10_search_147 : decode cX10_search 147 = .ok (.aload_n 0, 1) := dk_42 (by decide +kernel)
theorem dX10_search_148 : decode cX10_search 148 = .ok (.iconst 0, 1) := dk_3 (by decide +kernel)
theorem dX10_search_149 : decode cX10_search 149 = .ok (.putfield 274, 3) := dk_181 (x := 1) (y := 18) (by decide +kernel) rfl
theorem dX10_search_152 : decode cX10_search 152 = .ok (.aload_n 0, 1) := dk_42 (by decide +kernel)
theorem dX10_search_153 : decode cX10_search 153 = .ok (.invokevirtual 323, 3) := dk_182 (x := 1) (y := 67) (by decide +kernel) rfl
theorem dX10_search_156 : decode cX10_search 156 = .ok (.return_, 1) := dk_177 (by decide +kernel)
def f_X10_search_100 (k_72 : Nat → Int32 → Int32 → Int32 → Mem → Option Mem) : Nat → Nat → Int32 → Int32 → Int32 → Int32 → Int32 → Mem → Option Mem
  | 0, _, _, _, _, _, _, _ => none
  | n + 1, v0, v1, v2, v3, v4, v5, M =>
    if v4 ≤ v5 then (
      bnd (v3 + (1 : Int32)) fun x3 =>
      k_72 v0 v1 v2 x3 M
      ) else (
      chk (isO M 10 v0) <|
      obd (f_X10_laysState n v0 v3 M) fun M7 =>
      chk (isO M7 10 v0) <|
      obd (f_X10_layMoves n v0 M7) fun M10 =>
      chk (isO M10 10 v0) <|
      obd (f_X10_doMove n v0 v5 M10) fun M13 =>
      chk (isO M13 10 v0) <|
      bnd (mR M13 v0 12) fun o15 =>
      chk (isO M13 100 o15) <|
      chk (inB v3 (mLn M13 o15)) <|
      obd (f_X10_meet n v0 v1 ((mI M13 o15 (v3).toNatClampNeg) + (1 : Int32)) M13) fun M20 =>
      bnd (v5 + (1 : Int32)) fun x21 =>
      f_X10_search_100 k_72 n v0 v1 v2 v3 v4 x21 M20
      )
def f_X10_search_72 : Nat → Nat → Int32 → Int32 → Int32 → Mem → Option Mem
  | 0, _, _, _, _, _ => none
  | n + 1, v0, v1, v2, v3, M =>
    chk (isO M 10 v0) <|
    if (mI M v0 13) ≤ v3 then (
      bnd (sI M v0 7 (0 : Int32)) fun M4 =>
      obd (f_X10_bringBack n v0 M4) fun M8 =>
      some M8
      ) else (
      obd (f_X10_laysState n v0 v3 M) fun M10 =>
      chk (isO M10 10 v0) <|
      obd (f_X10_look n v0 v2 v3 M10) fun M13 =>
      chk (isO M13 10 v0) <|
      obd2 (f_X10_movesNow n v0 M13) fun r16 M17 =>
      f_X10_search_100 (f_X10_search_72 n) n v0 v1 v2 v3 r16 (0 : Int32) M17
      )
def f_X10_search_6 : Nat → Nat → Int32 → Int32 → Int32 → Mem → Option Mem
  | 0, _, _, _, _, _ => none
  | n + 1, v0, v1, v2, v3, M =>
    chk (isO M 10 v0) <|
    bnd (mR M v0 0) fun o2 =>
    chk (isO M 100 o2) <|
    chk (inB (0 : Int32) (mLn M o2)) <|
    if (mI M o2 ((0 : Int32)).toNatClampNeg) ≤ v3 then (
      bnd (sI M v0 13 (0 : Int32)) fun M8 =>
      chk (bz (0 : Int32)) <|
      bnd (sI M8 v0 14 (0 : Int32)) fun M12 =>
      bnd (sI M12 v0 15 (0 : Int32)) fun M17 =>
      bnd (sI M17 v0 16 (0 : Int32)) fun M21 =>
      bnd (sI M21 v0 17 (0 : Int32)) fun M25 =>
      bnd (sI M25 v0 18 (-1 : Int32)) fun M29 =>
      obd (f_X10_meet n v0 v1 (0 : Int32) M29) fun M34 =>
      f_X10_search_72 n v0 v1 v2 (0 : Int32) M34
      ) else (
      bnd (mR M v0 5) fun o35 =>
      chk (isO M 100 o35) <|
      obd (f_X10_get v0 v3 (2 : Int32) M) fun r39 =>
      chk (inB v3 (mLn M o35)) <|
      bnd (sI M o35 (v3).toNatClampNeg r39) fun M41 =>
      bnd (v3 + (1 : Int32)) fun x46 =>
      f_X10_search_6 n v0 v1 v2 x46 M41
      )
def f_X10_search (n : Nat) (o : Nat) (a1 : Int32) (a2 : Int32) (M : Mem) : Option Mem :=
  chk (isO M 10 o) <|
  obd (f_X10_putAside n o M) fun M3 =>
  f_X10_search_6 n o a1 a2 (0 : Int32) M3
theorem cd_X10_search : (yX10_search.cls ≠ "java/lang/invoke/MethodHandle" ∧ yX10_search.cls ≠ "java/lang/invoke/VarHandle") ∧ (parseMethodDescriptor yX10_search.desc).map (fun d => d.parameters.length) = some 2 := ⟨⟨by decide +kernel, by decide +kernel⟩, by decide +kernel⟩
section
variable {p : Program} {l : Launch} {e : Env} {R : Room} {s : State} {m : MethodId} {args : Array Value} {below : List Frame} {meth : Method} {c : Code} {G : Gam} {M0 : Mem}
theorem l_X10_search_100 {k_72 : Nat → Int32 → Int32 → Int32 → Mem → Option Mem} {rv : Mem} (X : Cx p R s m args c G M0 cX10_search yX10_search.cls 6 8 187) (hr : meth.sig.returnType = none) (hlk : meth.locks = false) (hnm : meth.name = "search") (hk_72 : ∀ (v0 : Nat), ∀ (v1 : Int32), ∀ (v2 : Int32), ∀ (v3 : Int32), ∀ M : Mem, k_72 v0 v1 v2 v3 M = some rv → Sg p l e R s m args below meth c (Qm below G args s none M0 rv) G M0 6 72 [(0, .ref (gB G + v0)), (1, .int v1), (2, .int v2), (3, .int v3)] [] M) : ∀ {n : Nat} (v0 : Nat) (v1 : Int32) (v2 : Int32) (v3 : Int32) (v4 : Int32) (v5 : Int32) (M : Mem), f_X10_search_100 k_72 n v0 v1 v2 v3 v4 v5 M = some rv → Sg p l e R s m args below meth c (Qm below G args s none M0 rv) G M0 6 100 [(0, .ref (gB G + v0)), (1, .int v1), (2, .int v2), (3, .int v3), (4, .int v4), (5, .int v5)] [] M := by
  intro n
  induction n with
  | zero => intro v0 v1 v2 v3 v4 v5 M hf; exact (pk_none hf).elim
  | succ n ih =>
    intro v0 v1 v2 v3 v4 v5 M hf
    rw [f_X10_search_100] at hf
    refine s_iload X 5 dX10_search_100 rfl ?_
    refine s_iload X 4 dX10_search_102 rfl ?_
    have hs1 := pk_ite hf
    clear hf
    refine s_icmp_ge X (tgt := 141) dX10_search_104 rfl (fun c2 => ?_) (fun c2 => ?_)
    · have hf := hs1.1 c2
      obtain ⟨x3, e4, hf⟩ := pk_bnd hf
      refine s_iinc X (vs' := [(0, .ref (gB G + v0)), (1, .int v1), (2, .int v2), (3, .int x3), (4, .int v4), (5, .int v5)]) 3 dX10_search_141 rfl (v := x3) e4.symm (Nat.le_of_ble_eq_true rfl) [1, 2, 3, 0, 4, 5] rfl ?_
      refine s_goto X (tgt := 72) dX10_search_144 rfl ?_
      refine s_drop [0, 1, 2, 3] (vs' := [(0, .ref (gB G + v0)), (1, .int v1), (2, .int v2), (3, .int x3)]) rfl ?_
      exact hk_72 _ _ _ _ _ hf
    · have hf := hs1.2 c2
      refine s_aload_n X 0 dX10_search_107 rfl rfl ?_
      refine s_iload_n X 3 dX10_search_108 rfl rfl ?_
      obtain ⟨h5, hf⟩ := pk_chk hf
      obtain ⟨M7, hc6, hf⟩ := pk_obd hf
      refine s_callV X (ci := 10) (k_X10_laysState G hc6) rfl h5 wd2010 wd2012 wd120 wd2013 wd138 cd_X10_laysState ⟨Nat.le_of_ble_eq_true rfl, Nat.le_of_ble_eq_true rfl⟩ (Nat.le_of_ble_eq_true rfl) dX10_search_109 ?_
      refine s_aload_n X 0 dX10_search_112 rfl rfl ?_
      obtain ⟨h8, hf⟩ := pk_chk hf
      obtain ⟨M10, hc9, hf⟩ := pk_obd hf
      refine s_callV X (ci := 10) (k_X10_layMoves G hc9) rfl h8 wd1906 wd1908 wd103 wd1909 wd138 cd_X10_layMoves ⟨Nat.le_of_ble_eq_true rfl, Nat.le_of_ble_eq_true rfl⟩ (Nat.le_of_ble_eq_true rfl) dX10_search_113 ?_
      refine s_aload_n X 0 dX10_search_116 rfl rfl ?_
      refine s_iload X 5 dX10_search_117 rfl ?_
      obtain ⟨h11, hf⟩ := pk_chk hf
      obtain ⟨M13, hc12, hf⟩ := pk_obd hf
      refine s_callV X (ci := 10) (k_X10_doMove G hc12) rfl h11 wd1950 wd1952 wd109 wd1953 wd138 cd_X10_doMove ⟨Nat.le_of_ble_eq_true rfl, Nat.le_of_ble_eq_true rfl⟩ (Nat.le_of_ble_eq_true rfl) dX10_search_119 ?_
      refine s_aload_n X 0 dX10_search_122 rfl rfl ?_
      refine s_iload_n X 1 dX10_search_123 rfl rfl ?_
      refine s_aload_n X 0 dX10_search_124 rfl rfl ?_
      obtain ⟨h14, hf⟩ := pk_chk hf
      obtain ⟨o15, e16, hf⟩ := pk_bnd hf
      obtain ⟨h17, hf⟩ := pk_chk hf
      refine s_getR X (ci := 10) (k := 12) rfl (Nat.le_of_ble_eq_true rfl) h14 wd1452 (fun _ _ _ => rfl) (e16 ▸ h17) dX10_search_125 (e16 ▸ ?_)
      refine s_iload_n X 3 dX10_search_128 rfl rfl ?_
      obtain ⟨h18, hf⟩ := pk_chk hf
      refine s_iald X h17 h18 dX10_search_129 ?_
      refine s_iconst X (v := (1 : Int32)) dX10_search_130 rfl ?_
      refine s_iadd X dX10_search_131 ?_
      obtain ⟨M20, hc19, hf⟩ := pk_obd hf
      refine s_callV X (ci := 10) (k_X10_meet G hc19) rfl h14 wd1994 wd1996 wd116 wd1997 wd138 cd_X10_meet ⟨Nat.le_of_ble_eq_true rfl, Nat.le_of_ble_eq_true rfl⟩ (Nat.le_of_ble_eq_true rfl) dX10_search_132 ?_
      obtain ⟨x21, e22, hf⟩ := pk_bnd hf
      refine s_iinc X (vs' := [(0, .ref (gB G + v0)), (1, .int v1), (2, .int v2), (3, .int v3), (4, .int v4), (5, .int x21)]) 5 dX10_search_135 rfl (v := x21) e22.symm (Nat.le_of_ble_eq_true rfl) [1, 2, 3, 4, 5, 0] rfl ?_
      refine s_goto X (tgt := 100) dX10_search_138 rfl ?_
      exact ih _ _ _ _ _ _ _ hf
theorem l_X10_search_72 {rv : Mem} (X : Cx p R s m args c G M0 cX10_search yX10_search.cls 6 8 187) (hr : meth.sig.returnType = none) (hlk : meth.locks = false) (hnm : meth.name = "search") : ∀ {n : Nat} (v0 : Nat) (v1 : Int32) (v2 : Int32) (v3 : Int32) (M : Mem), f_X10_search_72 n v0 v1 v2 v3 M = some rv → Sg p l e R s m args below meth c (Qm below G args s none M0 rv) G M0 6 72 [(0, .ref (gB G + v0)), (1, .int v1), (2, .int v2), (3, .int v3)] [] M := by
  intro n
  induction n with
  | zero => intro v0 v1 v2 v3 M hf; exact (pk_none hf).elim
  | succ n ih =>
    intro v0 v1 v2 v3 M hf
    rw [f_X10_search_72] at hf
    refine s_iload_n X 3 dX10_search_72 rfl rfl ?_
    refine s_aload_n X 0 dX10_search_73 rfl rfl ?_
    obtain ⟨h1, hf⟩ := pk_chk hf
    refine s_getI X (ci := 10) (k := 13) rfl (Nat.le_of_ble_eq_true rfl) h1 wd1453 (fun _ _ _ => rfl) dX10_search_74 ?_
    have hs2 := pk_ite hf
    clear hf
    refine s_icmp_ge X (tgt := 147) dX10_search_77 rfl (fun c3 => ?_) (fun c3 => ?_)
    · have hf := hs2.1 c3
      refine s_aload_n X 0 dX10_search_147 rfl rfl ?_
      refine s_iconst X (v := (0 : Int32)) dX10_search_148 rfl ?_
      obtain ⟨M4, e5, hf⟩ := pk_bnd hf
      refine s_putI X (ci := 10) (k := 7) rfl (Nat.le_of_ble_eq_true rfl) h1 wd1447 (fun _ _ _ => rfl) rfl rfl e5 dX10_search_149 ?_
      have h6 := io_sI e5 h1
      refine s_aload_n X 0 dX10_search_152 rfl rfl ?_
      obtain ⟨M8, hc7, hf⟩ := pk_obd hf
      refine s_callV X (ci := 10) (k_X10_bringBack G hc7) rfl h6 wd1966 wd1968 wd112 wd1969 wd138 cd_X10_bringBack ⟨Nat.le_of_ble_eq_true rfl, Nat.le_of_ble_eq_true rfl⟩ (Nat.le_of_ble_eq_true rfl) dX10_search_153 ?_
      cases hf
      exact s_vret X hr hlk dX10_search_156
    · have hf := hs2.2 c3
      refine s_aload_n X 0 dX10_search_80 rfl rfl ?_
      refine s_iload_n X 3 dX10_search_81 rfl rfl ?_
      obtain ⟨M10, hc9, hf⟩ := pk_obd hf
      refine s_callV X (ci := 10) (k_X10_laysState G hc9) rfl h1 wd2010 wd2012 wd120 wd2013 wd138 cd_X10_laysState ⟨Nat.le_of_ble_eq_true rfl, Nat.le_of_ble_eq_true rfl⟩ (Nat.le_of_ble_eq_true rfl) dX10_search_82 ?_
      refine s_aload_n X 0 dX10_search_85 rfl rfl ?_
      refine s_iload_n X 2 dX10_search_86 rfl rfl ?_
      refine s_iload_n X 3 dX10_search_87 rfl rfl ?_
      obtain ⟨h11, hf⟩ := pk_chk hf
      obtain ⟨M13, hc12, hf⟩ := pk_obd hf
      refine s_callV X (ci := 10) (k_X10_look G hc12) rfl h11 wd2014 wd2016 wd121 wd2017 wd138 cd_X10_look ⟨Nat.le_of_ble_eq_true rfl, Nat.le_of_ble_eq_true rfl⟩ (Nat.le_of_ble_eq_true rfl) dX10_search_88 ?_
      refine s_aload_n X 0 dX10_search_91 rfl rfl ?_
      obtain ⟨h14, hf⟩ := pk_chk hf
      obtain ⟨r16, M17, hc15, hf⟩ := pk_obd2 hf
      refine s_callV X (ci := 10) (k_X10_movesNow G hc15) rfl h14 wd1902 wd1904 wd102 wd1905 wd138 cd_X10_movesNow ⟨Nat.le_of_ble_eq_true rfl, Nat.le_of_ble_eq_true rfl⟩ (Nat.le_of_ble_eq_true rfl) dX10_search_92 ?_
      refine s_istore X (vs' := [(0, .ref (gB G + v0)), (1, .int v1), (2, .int v2), (3, .int v3), (4, .int r16)]) dX10_search_95 (Nat.le_of_ble_eq_true rfl) [1, 2, 3, 4, 0] rfl ?_
      refine s_iconst X (v := (0 : Int32)) dX10_search_97 rfl ?_
      refine s_istore X (vs' := [(0, .ref (gB G + v0)), (1, .int v1), (2, .int v2), (3, .int v3), (4, .int r16), (5, .int (0 : Int32))]) dX10_search_98 (Nat.le_of_ble_eq_true rfl) [1, 2, 3, 4, 5, 0] rfl ?_
      exact l_X10_search_100 X hr hlk hnm ih _ _ _ _ _ _ _ hf
theorem l_X10_search_6 {rv : Mem} (X : Cx p R s m args c G M0 cX10_search yX10_search.cls 6 8 187) (hr : meth.sig.returnType = none) (hlk : meth.locks = false) (hnm : meth.name = "search") : ∀ {n : Nat} (v0 : Nat) (v1 : Int32) (v2 : Int32) (v3 : Int32) (M : Mem), f_X10_search_6 n v0 v1 v2 v3 M = some rv → Sg p l e R s m args below meth c (Qm below G args s none M0 rv) G M0 6 6 [(0, .ref (gB G + v0)), (1, .int v1), (2, .int v2), (3, .int v3)] [] M := by
  intro n
  induction n with
  | zero => intro v0 v1 v2 v3 M hf; exact (pk_none hf).elim
  | succ n ih =>
    intro v0 v1 v2 v3 M hf
    rw [f_X10_search_6] at hf
    refine s_iload_n X 3 dX10_search_6 rfl rfl ?_
    refine s_aload_n X 0 dX10_search_7 rfl rfl ?_
    obtain ⟨h1, hf⟩ := pk_chk hf
    obtain ⟨o2, e3, hf⟩ := pk_bnd hf
    obtain ⟨h4, hf⟩ := pk_chk hf
    refine s_getR X (ci := 10) (k := 0) rfl (Nat.le_of_ble_eq_true rfl) h1 wd1440 (fun _ _ _ => rfl) (e3 ▸ h4) dX10_search_8 (e3 ▸ ?_)
    refine s_iconst X (v := (0 : Int32)) dX10_search_11 rfl ?_
    obtain ⟨h5, hf⟩ := pk_chk hf
    refine s_iald X h4 h5 dX10_search_12 ?_
    have hs6 := pk_ite hf
    clear hf
    refine s_icmp_ge X (tgt := 34) dX10_search_13 rfl (fun c7 => ?_) (fun c7 => ?_)
    · have hf := hs6.1 c7
      refine s_aload_n X 0 dX10_search_34 rfl rfl ?_
      refine s_iconst X (v := (0 : Int32)) dX10_search_35 rfl ?_
      obtain ⟨M8, e9, hf⟩ := pk_bnd hf
      refine s_putI X (ci := 10) (k := 13) rfl (Nat.le_of_ble_eq_true rfl) h1 wd1453 (fun _ _ _ => rfl) rfl rfl e9 dX10_search_36 ?_
      have h10 := io_sI e9 h1
      have h11 := io_sI e9 h4
      refine s_aload_n X 0 dX10_search_39 rfl rfl ?_
      refine s_iconst X (v := (0 : Int32)) dX10_search_40 rfl ?_
      obtain ⟨h14, hf⟩ := pk_chk hf
      obtain ⟨M12, e13, hf⟩ := pk_bnd hf
      refine s_putZ X (ci := 10) (k := 14) rfl (Nat.le_of_ble_eq_true rfl) h10 wd1454 (fun _ _ _ => rfl) rfl (bz_n h14) (bz_f h14) rfl e13 dX10_search_41 ?_
      have h15 := io_sI e13 h10
      have h16 := io_sI e13 h11
      refine s_aload_n X 0 dX10_search_44 rfl rfl ?_
      refine s_iconst X (v := (0 : Int32)) dX10_search_45 rfl ?_
      obtain ⟨M17, e18, hf⟩ := pk_bnd hf
      refine s_putI X (ci := 10) (k := 15) rfl (Nat.le_of_ble_eq_true rfl) h15 wd1455 (fun _ _ _ => rfl) rfl rfl e18 dX10_search_46 ?_
      have h19 := io_sI e18 h15
      have h20 := io_sI e18 h16
      refine s_aload_n X 0 dX10_search_49 rfl rfl ?_
      refine s_iconst X (v := (0 : Int32)) dX10_search_50 rfl ?_
      obtain ⟨M21, e22, hf⟩ := pk_bnd hf
      refine s_putI X (ci := 10) (k := 16) rfl (Nat.le_of_ble_eq_true rfl) h19 wd1456 (fun _ _ _ => rfl) rfl rfl e22 dX10_search_51 ?_
      have h23 := io_sI e22 h19
      have h24 := io_sI e22 h20
      refine s_aload_n X 0 dX10_search_54 rfl rfl ?_
      refine s_iconst X (v := (0 : Int32)) dX10_search_55 rfl ?_
      obtain ⟨M25, e26, hf⟩ := pk_bnd hf
      refine s_putI X (ci := 10) (k := 17) rfl (Nat.le_of_ble_eq_true rfl) h23 wd1457 (fun _ _ _ => rfl) rfl rfl e26 dX10_search_56 ?_
      have h27 := io_sI e26 h23
      have h28 := io_sI e26 h24
      refine s_aload_n X 0 dX10_search_59 rfl rfl ?_
      refine s_iconst X (v := (-1 : Int32)) dX10_search_60 rfl ?_
      obtain ⟨M29, e30, hf⟩ := pk_bnd hf
      refine s_putI X (ci := 10) (k := 18) rfl (Nat.le_of_ble_eq_true rfl) h27 wd1458 (fun _ _ _ => rfl) rfl rfl e30 dX10_search_61 ?_
      have h31 := io_sI e30 h27
      have h32 := io_sI e30 h28
      refine s_aload_n X 0 dX10_search_64 rfl rfl ?_
      refine s_iload_n X 1 dX10_search_65 rfl rfl ?_
      refine s_iconst X (v := (0 : Int32)) dX10_search_66 rfl ?_
      obtain ⟨M34, hc33, hf⟩ := pk_obd hf
      refine s_callV X (ci := 10) (k_X10_meet G hc33) rfl h31 wd1994 wd1996 wd116 wd1997 wd138 cd_X10_meet ⟨Nat.le_of_ble_eq_true rfl, Nat.le_of_ble_eq_true rfl⟩ (Nat.le_of_ble_eq_true rfl) dX10_search_67 ?_
      refine s_iconst X (v := (0 : Int32)) dX10_search_70 rfl ?_
      refine s_istore_n X (vs' := [(0, .ref (gB G + v0)), (1, .int v1), (2, .int v2), (3, .int (0 : Int32))]) dX10_search_71 rfl (Nat.le_of_ble_eq_true rfl) [1, 2, 3, 0] rfl ?_
      exact l_X10_search_72 X hr hlk hnm _ _ _ _ _ hf
    · have hf := hs6.2 c7
      refine s_aload_n X 0 dX10_search_16 rfl rfl ?_
      obtain ⟨o35, e36, hf⟩ := pk_bnd hf
      obtain ⟨h37, hf⟩ := pk_chk hf
      refine s_getR X (ci := 10) (k := 5) rfl (Nat.le_of_ble_eq_true rfl) h1 wd1445 (fun _ _ _ => rfl) (e36 ▸ h37) dX10_search_17 (e36 ▸ ?_)
      refine s_iload_n X 3 dX10_search_20 rfl rfl ?_
      refine s_aload_n X 0 dX10_search_21 rfl rfl ?_
      refine s_iload_n X 3 dX10_search_22 rfl rfl ?_
      refine s_iconst X (v := (2 : Int32)) dX10_search_23 rfl ?_
      obtain ⟨r39, hc38, hf⟩ := pk_obd hf
      refine s_callV X (ci := 10) (k_X10_get G hc38) rfl h1 wd1588 wd1590 wd57 wd1591 wd138 cd_X10_get ⟨Nat.le_of_ble_eq_true rfl, Nat.le_of_ble_eq_true rfl⟩ (Nat.le_of_ble_eq_true rfl) dX10_search_24 ?_
      obtain ⟨h40, hf⟩ := pk_chk hf
      obtain ⟨M41, e42, hf⟩ := pk_bnd hf
      refine s_iast X h37 h40 e42 dX10_search_27 ?_
      have h43 := io_sI e42 h1
      have h44 := io_sI e42 h4
      have h45 := io_sI e42 h37
      obtain ⟨x46, e47, hf⟩ := pk_bnd hf
      refine s_iinc X (vs' := [(0, .ref (gB G + v0)), (1, .int v1), (2, .int v2), (3, .int x46)]) 3 dX10_search_28 rfl (v := x46) e47.symm (Nat.le_of_ble_eq_true rfl) [1, 2, 3, 0] rfl ?_
      refine s_goto X (tgt := 6) dX10_search_31 rfl ?_
      exact ih _ _ _ _ _ hf
end
theorem k_X10_search (G : Gam) {n : Nat} {o : Nat} {a1 : Int32} {a2 : Int32} {M : Mem} {rv : Mem} (hf : f_X10_search n o a1 a2 M = some rv) : Kt yX10_search cX10_search 6 none 8 187 G [.ref (gB G + o), .int a1, .int a2] M rv none := by
  refine Kt.of (by decide) (Nat.le_of_ble_eq_true rfl) ?_
  intro p l e R s m args below meth c X hr hlk hnm
  refine s_drop [0, 1, 2] (vs' := [(0, .ref (gB G + o)), (1, .int a1), (2, .int a2)]) rfl ?_
  rw [f_X10_search] at hf
  refine s_aload_n X 0 dX10_search_0 rfl rfl ?_
  obtain ⟨h1, hf⟩ := pk_chk hf
  obtain ⟨M3, hc2, hf⟩ := pk_obd hf
  refine s_callV X (ci := 10) (k_X10_putAside G hc2) rfl h1 wd1962 wd1964 wd111 wd1965 wd138 cd_X10_putAside ⟨Nat.le_of_ble_eq_true rfl, Nat.le_of_ble_eq_true rfl⟩ (Nat.le_of_ble_eq_true rfl) dX10_search_1 ?_
  refine s_iconst X (v := (0 : Int32)) dX10_search_4 rfl ?_
  refine s_istore_n X (vs' := [(0, .ref (gB G + o)), (1, .int a1), (2, .int a2), (3, .int (0 : Int32))]) dX10_search_5 rfl (Nat.le_of_ble_eq_true rfl) [1, 2, 3, 0] rfl ?_
  exact l_X10_search_6 X hr hlk hnm _ _ _ _ _ hf
