theorem dX9_fewestNewEntries_0 : decode cX9_fewestNewEntries 0 = .ok (.iconst (-1), 1) := dk_2 (by decide +kernel)
theorem dX9_fewestNewEntries_1 : decode cX9_fewestNewEntries 1 = .ok (.istore_n 1, 1) := dk_60 (by decide +kernel)
theorem dX9_fewestNewEntries_2 : decode cX9_fewestNewEntries 2 = .ok (.iconst 0, 1) := dk_3 (by decide +kernel)
theorem dX9_fewestNewEntries_3 : decode cX9_fewestNewEntries 3 = .ok (.istore_n 2, 1) := dk_61 (by decide +kernel)
theorem dX9_fewestNewEntries_4 : decode cX9_fewestNewEntries 4 = .ok (.iload_n 2, 1) := dk_28 (by decide +kernel)
theorem dX9_fewestNewEntries_5 : decode cX9_fewestNewEntries 5 = .ok (.aload_n 0, 1) := dk_42 (by decide +kernel)
theorem dX9_fewestNewEntries_6 : decode cX9_fewestNewEntries 6 = .ok (.getfield 10, 3) := dk_180 (x := 0) (y := 10) (by decide +kernel) rfl
theorem dX9_fewestNewEntries_9 : decode cX9_fewestNewEntries 9 = .ok (.getfield 75, 3) := dk_180 (x := 0) (y := 75) (by decide +kernel) rfl
theorem dX9_fewestNewEntries_12 : decode cX9_fewestNewEntries 12 = .ok (.if_icmp .ge 43, 3) := dk_162 (x := 0) (y := 43) (by decide +kernel) rfl
theorem dX9_fewestNewEntries_15 : decode cX9_fewestNewEntries 15 = .ok (.aload_n 0, 1) := dk_42 (by decide +kernel)
theorem dX9_fewestNewEntries_16 : decode cX9_fewestNewEntries 16 = .ok (.getfield 28, 3) := dk_180 (x := 0) (y := 28) (by decide +kernel) rfl
theorem dX9_fewestNewEntries_19 : decode cX9_fewestNewEntries 19 = .ok (.getfield 197, 3) := dk_180 (x := 0) (y := 197) (by decide +kernel) rfl
theorem dX9_fewestNewEntries_22 : decode cX9_fewestNewEntries 22 = .ok (.iload_n 2, 1) := dk_28 (by decide +kernel)
theorem dX9_fewestNewEntries_23 : decode cX9_fewestNewEntries 23 = .ok (.invokestatic 180, 3) := dk_184 (x := 0) (y := 180) (by decide +kernel) rfl
theorem dX9_fewestNewEntries_26 : decode cX9_fewestNewEntries 26 = .ok (.ifCond .ne 23, 3) := dk_154 (x := 0) (y := 23) (by decide +kernel) rfl
theorem dX9_fewestNewEntries_29 : decode cX9_fewestNewEntries 29 = .ok (.iload_n 1, 1) := dk_27 (by decide +kernel)
theorem dX9_fewestNewEntries_30 : decode cX9_fewestNewEntries 30 = .ok (.iconst (-1), 1) := dk_2 (by decide +kernel)
theorem dX9_fewestNewEntries_31 : decode cX9_fewestNewEntries 31 = .ok (.if_icmp .eq 12, 3) := dk_159 (x := 0) (y := 12) (by decide +kernel) rfl
theorem dX9_fewestNewEntries_34 : decode cX9_fewestNewEntries 34 = .ok (.aload_n 0, 1) := dk_42 (by decide +kernel)
theorem dX9_fewestNewEntries_35 : decode cX9_fewestNewEntries 35 = .ok (.iload_n 2, 1) := dk_28 (by decide +kernel)
theorem dX9_fewestNewEntries_36 : decode cX9_fewestNewEntries 36 = .ok (.invokevirtual 374, 3) := dk_182 (x := 1) (y := 118) (by decide +kernel) rfl
theorem dX9_fewestNewEntries_39 : decode cX9_fewestNewEntries 39 = .ok (.iload_n 1, 1) := dk_27 (by decide +kernel)
theorem dX9_fewestNewEntries_40 : decode cX9_fewestNewEntries 40 = .ok (.if_icmp .ge 9, 3) := dk_162 (x := 0) (y := 9) (by decide +kernel) rfl
theorem dX9_fewestNewEntries_43 : decode cX9_fewestNewEntries 43 = .ok (.aload_n 0, 1) := dk_42 (by decide +kernel)
theorem dX9_fewestNewEntries_44 : decode cX9_fewestNewEntries 44 = .ok (.iload_n 2, 1) := dk_28 (by decide +kernel)
theorem dX9_fewestNewEntries_45 : decode cX9_fewestNewEntries 45 = .ok (.invokevirtual 374, 3) := dk_182 (x := 1) (y := 118) (by decide +kernel) rfl
theorem dX9_fewestNewEntries_48 : decode cX9_fewestNewEntries 48 = .ok (.istore_n 1, 1) := dk_60 (by decide +kernel)
theorem dX9_fewestNewEntries_49 : decode cX9_fewestNewEntries 49 = .ok (.iinc 2 1, 3) := dk_132 (x := 2) (y := 1) (by decide +kernel) rfl
theorem dX9_fewestNewEntries_52 : decode cX9_fewestNewEntries 52 = .ok (.goto (-48), 3) := dk_167 (x := 255) (y := 208) (by decide +kernel) rfl
theorem dX9_fewestNewEntries_55 : decode cX9_fewestNewEntries 55 = .ok (.iload_n 1, 1) := dk_27 (by decide +kernel)
theorem dX9_fewestNewEntries_56 : decode cX9_fewestNewEntries 56 = .ok (.ireturn, 1) := dk_172 (by decide +kernel)
def f_X9_fewestNewEntries_43 (k_4 : Nat → Int32 → Int32 → Option Int32) (M : Mem) (n : Nat) (v0 : Nat) (v2 : Int32) : Option Int32 :=
    chk (isO M 9 v0) <|
    obd (f_X9_newEntries v0 v2 M) fun r3 =>
    bnd (v2 + (1 : Int32)) fun x4 =>
    k_4 v0 r3 x4
def f_X9_fewestNewEntries_4 (M : Mem) : Nat → Nat → Int32 → Int32 → Option Int32
  | 0, _, _, _ => none
  | n + 1, v0, v1, v2 =>
    chk (isO M 9 v0) <|
    bnd (mR M v0 0) fun o2 =>
    chk (isO M 7 o2) <|
    if (mI M o2 3) ≤ v2 then (
      some v1
      ) else (
      bnd (mR M v0 2) fun o7 =>
      chk (isO M 2 o7) <|
      obd (f_X9_has (mI M o7 9) v2 M) fun r11 =>
      if r11 = 0 then (
        if v1 = (-1 : Int32) then (
          f_X9_fewestNewEntries_43 (f_X9_fewestNewEntries_4 M n) M n v0 v2
          ) else (
          obd (f_X9_newEntries v0 v2 M) fun r19 =>
          if v1 ≤ r19 then (
            bnd (v2 + (1 : Int32)) fun x22 =>
            f_X9_fewestNewEntries_4 M n v0 v1 x22
            ) else (
            f_X9_fewestNewEntries_43 (f_X9_fewestNewEntries_4 M n) M n v0 v2
            )
          )
        ) else (
        bnd (v2 + (1 : Int32)) fun x14 =>
        f_X9_fewestNewEntries_4 M n v0 v1 x14
        )
      )
def f_X9_fewestNewEntries (n : Nat) (o : Nat) (M : Mem) : Option Int32 :=
  f_X9_fewestNewEntries_4 M n o (-1 : Int32) (0 : Int32)
theorem cd_X9_fewestNewEntries : (yX9_fewestNewEntries.cls ≠ "java/lang/invoke/MethodHandle" ∧ yX9_fewestNewEntries.cls ≠ "java/lang/invoke/VarHandle") ∧ (parseMethodDescriptor yX9_fewestNewEntries.desc).map (fun d => d.parameters.length) = some 0 := ⟨⟨by decide +kernel, by decide +kernel⟩, by decide +kernel⟩
section
variable {p : Program} {l : Launch} {e : Env} {R : Room} {s : State} {m : MethodId} {args : Array Value} {below : List Frame} {meth : Method} {c : Code} {G : Gam} {M0 : Mem}
theorem l_X9_fewestNewEntries_43 {k_4 : Nat → Int32 → Int32 → Option Int32} {M : Mem} {rv : Int32} {n : Nat} {v0 : Nat} {v2 : Int32} (X : Cx p R s m args c G M0 cX9_fewestNewEntries yX9_fewestNewEntries.cls 3 1 21) (hr : meth.sig.returnType = (some .int)) (hlk : meth.locks = false) (hnm : meth.name = "fewestNewEntries") (hk_4 : ∀ (v0 : Nat), ∀ (v1 : Int32), ∀ (v2 : Int32), k_4 v0 v1 v2 = some rv → Sg p l e R s m args below meth c (Qm below G args s (some (.int rv)) M0 M) G M0 3 4 [(0, .ref (gB G + v0)), (1, .int v1), (2, .int v2)] [] M) (hf : f_X9_fewestNewEntries_43 k_4 M n v0 v2 = some rv) : Sg p l e R s m args below meth c (Qm below G args s (some (.int rv)) M0 M) G M0 3 43 [(0, .ref (gB G + v0)), (2, .int v2)] [] M := by
  rw [f_X9_fewestNewEntries_43] at hf
  refine s_aload_n X 0 dX9_fewestNewEntries_43 rfl rfl ?_
  refine s_iload_n X 1 dX9_fewestNewEntries_44 rfl rfl ?_
  obtain ⟨h1, hf⟩ := pk_chk hf
  obtain ⟨r3, hc2, hf⟩ := pk_obd hf
  refine s_callV X (ci := 9) (k_X9_newEntries G hc2) rfl h1 wd1385 wd1387 wd46 wd1388 wd126 cd_X9_newEntries ⟨Nat.le_of_ble_eq_true rfl, Nat.le_of_ble_eq_true rfl⟩ (Nat.le_of_ble_eq_true rfl) dX9_fewestNewEntries_45 ?_
  refine s_istore_n X (vs' := [(0, .ref (gB G + v0)), (1, .int r3), (2, .int v2)]) dX9_fewestNewEntries_48 rfl (Nat.le_of_ble_eq_true rfl) [1, 0, 2] rfl ?_
  obtain ⟨x4, e5, hf⟩ := pk_bnd hf
  refine s_iinc X (vs' := [(0, .ref (gB G + v0)), (1, .int r3), (2, .int x4)]) 2 dX9_fewestNewEntries_49 rfl (v := x4) e5.symm (Nat.le_of_ble_eq_true rfl) [1, 2, 0] rfl ?_
  refine s_goto X (tgt := 4) dX9_fewestNewEntries_52 rfl ?_
  exact hk_4 _ _ _ hf
theorem l_X9_fewestNewEntries_4 {M : Mem} {rv : Int32} (X : Cx p R s m args c G M0 cX9_fewestNewEntries yX9_fewestNewEntries.cls 3 1 21) (hr : meth.sig.returnType = (some .int)) (hlk : meth.locks = false) (hnm : meth.name = "fewestNewEntries") : ∀ {n : Nat} (v0 : Nat) (v1 : Int32) (v2 : Int32), f_X9_fewestNewEntries_4 M n v0 v1 v2 = some rv → Sg p l e R s m args below meth c (Qm below G args s (some (.int rv)) M0 M) G M0 3 4 [(0, .ref (gB G + v0)), (1, .int v1), (2, .int v2)] [] M := by
  intro n
  induction n with
  | zero => intro v0 v1 v2 hf; exact (pk_none hf).elim
  | succ n ih =>
    intro v0 v1 v2 hf
    rw [f_X9_fewestNewEntries_4] at hf
    refine s_iload_n X 2 dX9_fewestNewEntries_4 rfl rfl ?_
    refine s_aload_n X 0 dX9_fewestNewEntries_5 rfl rfl ?_
    obtain ⟨h1, hf⟩ := pk_chk hf
    obtain ⟨o2, e3, hf⟩ := pk_bnd hf
    obtain ⟨h4, hf⟩ := pk_chk hf
    refine s_getR X (ci := 9) (k := 0) rfl (Nat.le_of_ble_eq_true rfl) h1 wd627 (fun _ _ _ => rfl) (e3 ▸ h4) dX9_fewestNewEntries_6 (e3 ▸ ?_)
    refine s_getI X (ci := 7) (k := 3) rfl (Nat.le_of_ble_eq_true rfl) h4 wd170 (fun _ _ _ => rfl) dX9_fewestNewEntries_9 ?_
    have hs5 := pk_ite hf
    clear hf
    refine s_icmp_ge X (tgt := 55) dX9_fewestNewEntries_12 rfl (fun c6 => ?_) (fun c6 => ?_)
    · have hf := hs5.1 c6
      refine s_iload_n X 1 dX9_fewestNewEntries_55 rfl rfl ?_
      cases hf
      exact s_iret X hr hlk dX9_fewestNewEntries_56
    · have hf := hs5.2 c6
      refine s_aload_n X 0 dX9_fewestNewEntries_15 rfl rfl ?_
      obtain ⟨o7, e8, hf⟩ := pk_bnd hf
      obtain ⟨h9, hf⟩ := pk_chk hf
      refine s_getR X (ci := 9) (k := 2) rfl (Nat.le_of_ble_eq_true rfl) h1 wd629 (fun _ _ _ => rfl) (e8 ▸ h9) dX9_fewestNewEntries_16 (e8 ▸ ?_)
      refine s_getI X (ci := 2) (k := 9) rfl (Nat.le_of_ble_eq_true rfl) h9 wd442 (fun _ _ _ => rfl) dX9_fewestNewEntries_19 ?_
      refine s_iload_n X 2 dX9_fewestNewEntries_22 rfl rfl ?_
      obtain ⟨r11, hc10, hf⟩ := pk_obd hf
      refine s_callS X (k_X9_has G hc10) wd966 wd712 wd713 wd126 cd_X9_has ⟨Nat.le_of_ble_eq_true rfl, Nat.le_of_ble_eq_true rfl⟩ (Nat.le_of_ble_eq_true rfl) dX9_fewestNewEntries_23 ?_
      have hs12 := pk_ite hf
      clear hf
      refine s_if_ne X (tgt := 49) dX9_fewestNewEntries_26 rfl (fun c13 => ?_) (fun c13 => ?_)
      · have hf := hs12.2 c13
        obtain ⟨x14, e15, hf⟩ := pk_bnd hf
        refine s_iinc X (vs' := [(0, .ref (gB G + v0)), (1, .int v1), (2, .int x14)]) 2 dX9_fewestNewEntries_49 rfl (v := x14) e15.symm (Nat.le_of_ble_eq_true rfl) [1, 2, 0] rfl ?_
        refine s_goto X (tgt := 4) dX9_fewestNewEntries_52 rfl ?_
        exact ih _ _ _ hf
      · have hf := hs12.1 c13
        refine s_iload_n X 1 dX9_fewestNewEntries_29 rfl rfl ?_
        refine s_iconst X (v := (-1 : Int32)) dX9_fewestNewEntries_30 rfl ?_
        have hs16 := pk_ite hf
        clear hf
        refine s_icmp_eq X (tgt := 43) dX9_fewestNewEntries_31 rfl (fun c17 => ?_) (fun c17 => ?_)
        · have hf := hs16.1 c17
          refine s_drop [0, 2] (vs' := [(0, .ref (gB G + v0)), (2, .int v2)]) rfl ?_
          exact l_X9_fewestNewEntries_43 X hr hlk hnm ih hf
        · have hf := hs16.2 c17
          refine s_aload_n X 0 dX9_fewestNewEntries_34 rfl rfl ?_
          refine s_iload_n X 2 dX9_fewestNewEntries_35 rfl rfl ?_
          obtain ⟨r19, hc18, hf⟩ := pk_obd hf
          refine s_callV X (ci := 9) (k_X9_newEntries G hc18) rfl h1 wd1385 wd1387 wd46 wd1388 wd126 cd_X9_newEntries ⟨Nat.le_of_ble_eq_true rfl, Nat.le_of_ble_eq_true rfl⟩ (Nat.le_of_ble_eq_true rfl) dX9_fewestNewEntries_36 ?_
          refine s_iload_n X 1 dX9_fewestNewEntries_39 rfl rfl ?_
          have hs20 := pk_ite hf
          clear hf
          refine s_icmp_ge X (tgt := 49) dX9_fewestNewEntries_40 rfl (fun c21 => ?_) (fun c21 => ?_)
          · have hf := hs20.1 c21
            obtain ⟨x22, e23, hf⟩ := pk_bnd hf
            refine s_iinc X (vs' := [(0, .ref (gB G + v0)), (1, .int v1), (2, .int x22)]) 2 dX9_fewestNewEntries_49 rfl (v := x22) e23.symm (Nat.le_of_ble_eq_true rfl) [1, 2, 0] rfl ?_
            refine s_goto X (tgt := 4) dX9_fewestNewEntries_52 rfl ?_
            exact ih _ _ _ hf
          · have hf := hs20.2 c21
            refine s_drop [0, 2] (vs' := [(0, .ref (gB G + v0)), (2, .int v2)]) rfl ?_
            exact l_X9_fewestNewEntries_43 X hr hlk hnm ih hf
end
theorem k_X9_fewestNewEntries (G : Gam) {n : Nat} {o : Nat} {M : Mem} {rv : Int32} (hf : f_X9_fewestNewEntries n o M = some rv) : Kt yX9_fewestNewEntries cX9_fewestNewEntries 3 (some .int) 1 21 G [.ref (gB G + o)] M M (some (.int rv)) := by
  refine Kt.of (by decide) (Nat.le_of_ble_eq_true rfl) ?_
  intro p l e R s m args below meth c X hr hlk hnm
  refine s_drop [0] (vs' := [(0, .ref (gB G + o))]) rfl ?_
  rw [f_X9_fewestNewEntries] at hf
  refine s_iconst X (v := (-1 : Int32)) dX9_fewestNewEntries_0 rfl ?_
  refine s_istore_n X (vs' := [(0, .ref (gB G + o)), (1, .int (-1 : Int32))]) dX9_fewestNewEntries_1 rfl (Nat.le_of_ble_eq_true rfl) [1, 0] rfl ?_
  refine s_iconst X (v := (0 : Int32)) dX9_fewestNewEntries_2 rfl ?_
  refine s_istore_n X (vs' := [(0, .ref (gB G + o)), (1, .int (-1 : Int32)), (2, .int (0 : Int32))]) dX9_fewestNewEntries_3 rfl (Nat.le_of_ble_eq_true rfl) [1, 2, 0] rfl ?_
  exact l_X9_fewestNewEntries_4 X hr hlk hnm _ _ _ hf
theorem dX9_mostNewEntries_0 : decode cX9_mostNewEntries 0 = .ok (.iconst 0, 1) := dk_3 (by decide +kernel)
theorem dX9_mostNewEntries_1 : decode cX9_mostNewEntries 1 = .ok (.istore_n 1, 1) := dk_60 (by decide +kernel)
theorem dX9_mostNewEntries_2 : decode cX9_mostNewEntries 2 = .ok (.iconst 0, 1) := dk_3 (by decide +kernel)
theorem dX9_mostNewEntries_3 : decode cX9_mostNewEntries 3 = .ok (.istore_n 2, 1) := dk_61 (by decide +kernel)
theorem dX9_mostNewEntries_4 : decode cX9_mostNewEntries 4 = .ok (.iload_n 2, 1) := dk_28 (by decide +kernel)
theorem dX9_mostNewEntries_5 : decode cX9_mostNewEntries 5 = .ok (.aload_n 0, 1) := dk_42 (by decide +kernel)
theorem dX9_mostNewEntries_6 : decode cX9_mostNewEntries 6 = .ok (.getfield 10, 3) := dk_180 (x := 0) (y := 10) (by decide +kernel) rfl
theorem dX9_mostNewEntries_9 : decode cX9_mostNewEntries 9 = .ok (.getfield 75, 3) := dk_180 (x := 0) (y := 75) (by decide +kernel) rfl
theorem dX9_mostNewEntries_12 : decode cX9_mostNewEntries 12 = .ok (.if_icmp .ge 19, 3) := dk_162 (x := 0) (y := 19) (by decide +kernel) rfl
theorem dX9_mostNewEntries_15 : decode cX9_mostNewEntries 15 = .ok (.iload_n 1, 1) := dk_27 (by decide +kernel)
theorem dX9_mostNewEntries_16 : decode cX9_mostNewEntries 16 = .ok (.aload_n 0, 1) := dk_42 (by decide +kernel)
theorem dX9_mostNewEntries_17 : decode cX9_mostNewEntries 17 = .ok (.iload_n 2, 1) := dk_28 (by decide +kernel)
theorem dX9_mostNewEntries_18 : decode cX9_mostNewEntries 18 = .ok (.invokevirtual 374, 3) := dk_182 (x := 1) (y := 118) (by decide +kernel) rfl
theorem dX9_mostNewEntries_21 : decode cX9_mostNewEntries 21 = .ok (.invokestatic 377, 3) := dk_184 (x := 1) (y := 121) (by decide +kernel) rfl
theorem dX9_mostNewEntries_24 : decode cX9_mostNewEntries 24 = .ok (.istore_n 1, 1) := dk_60 (by decide +kernel)
theorem dX9_mostNewEntries_25 : decode cX9_mostNewEntries 25 = .ok (.iinc 2 1, 3) := dk_132 (x := 2) (y := 1) (by decide +kernel) rfl
theorem dX9_mostNewEntries_28 : decode cX9_mostNewEntries 28 = .ok (.goto (-24), 3) := dk_167 (x := 255) (y := 232) (by decide +kernel) rfl
theorem dX9_mostNewEntries_31 : decode cX9_mostNewEntries 31 = .ok (.iload_n 1, 1) := dk_27 (by decide +kernel)
theorem dX9_mostNewEntries_32 : decode cX9_mostNewEntries 32 = .ok (.ireturn, 1) := dk_172 (by decide +kernel)
def f_X9_mostNewEntries_4 (M : Mem) : Nat → Nat → Int32 → Int32 → Option Int32
  | 0, _, _, _ => none
  | n + 1, v0, v1, v2 =>
    chk (isO M 9 v0) <|
    bnd (mR M v0 0) fun o2 =>
    chk (isO M 7 o2) <|
    if (mI M o2 3) ≤ v2 then (
      some v1
      ) else (
      obd (f_X9_newEntries v0 v2 M) fun r8 =>
      bnd (if v1 < r8 then r8 else v1) fun x9 =>
      bnd (v2 + (1 : Int32)) fun x11 =>
      f_X9_mostNewEntries_4 M n v0 x9 x11
      )
def f_X9_mostNewEntries (n : Nat) (o : Nat) (M : Mem) : Option Int32 :=
  f_X9_mostNewEntries_4 M n o (0 : Int32) (0 : Int32)
theorem cd_X9_mostNewEntries : (yX9_mostNewEntries.cls ≠ "java/lang/invoke/MethodHandle" ∧ yX9_mostNewEntries.cls ≠ "java/lang/invoke/VarHandle") ∧ (parseMethodDescriptor yX9_mostNewEntries.desc).map (fun d => d.parameters.length) = some 0 := ⟨⟨by decide +kernel, by decide +kernel⟩, by decide +kernel⟩
section
variable {p : Program} {l : Launch} {e : Env} {R : Room} {s : State} {m : MethodId} {args : Array Value} {below : List Frame} {meth : Method} {c : Code} {G : Gam} {M0 : Mem}
theorem l_X9_mostNewEntries_4 {M : Mem} {rv : Int32} (X : Cx p R s m args c G M0 cX9_mostNewEntries yX9_mostNewEntries.cls 3 1 24) (hr : meth.sig.returnType = (some .int)) (hlk : meth.locks = false) (hnm : meth.name = "mostNewEntries") : ∀ {n : Nat} (v0 : Nat) (v1 : Int32) (v2 : Int32), f_X9_mostNewEntries_4 M n v0 v1 v2 = some rv → Sg p l e R s m args below meth c (Qm below G args s (some (.int rv)) M0 M) G M0 3 4 [(0, .ref (gB G + v0)), (1, .int v1), (2, .int v2)] [] M := by
  intro n
  induction n with
  | zero => intro v0 v1 v2 hf; exact (pk_none hf).elim
  | succ n ih =>
    intro v0 v1 v2 hf
    rw [f_X9_mostNewEntries_4] at hf
    refine s_iload_n X 2 dX9_mostNewEntries_4 rfl rfl ?_
    refine s_aload_n X 0 dX9_mostNewEntries_5 rfl rfl ?_
    obtain ⟨h1, hf⟩ := pk_chk hf
    obtain ⟨o2, e3, hf⟩ := pk_bnd hf
    obtain ⟨h4, hf⟩ := pk_chk hf
    refine s_getR X (ci := 9) (k := 0) rfl (Nat.le_of_ble_eq_true rfl) h1 wd627 (fun _ _ _ => rfl) (e3 ▸ h4) dX9_mostNewEntries_6 (e3 ▸ ?_)
    refine s_getI X (ci := 7) (k := 3) rfl (Nat.le_of_ble_eq_true rfl) h4 wd170 (fun _ _ _ => rfl) dX9_mostNewEntries_9 ?_
    have hs5 := pk_ite hf
    clear hf
    refine s_icmp_ge X (tgt := 31) dX9_mostNewEntries_12 rfl (fun c6 => ?_) (fun c6 => ?_)
    · have hf := hs5.1 c6
      refine s_iload_n X 1 dX9_mostNewEntries_31 rfl rfl ?_
      cases hf
      exact s_iret X hr hlk dX9_mostNewEntries_32
    · have hf := hs5.2 c6
      refine s_iload_n X 1 dX9_mostNewEntries_15 rfl rfl ?_
      refine s_aload_n X 0 dX9_mostNewEntries_16 rfl rfl ?_
      refine s_iload_n X 2 dX9_mostNewEntries_17 rfl rfl ?_
      obtain ⟨r8, hc7, hf⟩ := pk_obd hf
      refine s_callV X (ci := 9) (k_X9_newEntries G hc7) rfl h1 wd1385 wd1387 wd46 wd1388 wd126 cd_X9_newEntries ⟨Nat.le_of_ble_eq_true rfl, Nat.le_of_ble_eq_true rfl⟩ (Nat.le_of_ble_eq_true rfl) dX9_mostNewEntries_18 ?_
      refine s_mmax X wd1393 wd896 wd142 wd897 ⟨Nat.le_of_ble_eq_true rfl, Nat.le_of_ble_eq_true rfl⟩ dX9_mostNewEntries_21 ?_
      obtain ⟨x9, e10, hf⟩ := pk_bnd hf
      refine s_nmI e10 ?_
      refine s_istore_n X (vs' := [(0, .ref (gB G + v0)), (1, .int x9), (2, .int v2)]) dX9_mostNewEntries_24 rfl (Nat.le_of_ble_eq_true rfl) [1, 0, 2] rfl ?_
      obtain ⟨x11, e12, hf⟩ := pk_bnd hf
      refine s_iinc X (vs' := [(0, .ref (gB G + v0)), (1, .int x9), (2, .int x11)]) 2 dX9_mostNewEntries_25 rfl (v := x11) e12.symm (Nat.le_of_ble_eq_true rfl) [1, 2, 0] rfl ?_
      refine s_goto X (tgt := 4) dX9_mostNewEntries_28 rfl ?_
      exact ih _ _ _ hf
end
theorem k_X9_mostNewEntries (G : Gam) {n : Nat} {o : Nat} {M : Mem} {rv : Int32} (hf : f_X9_mostNewEntries n o M = some rv) : Kt yX9_mostNewEntries cX9_mostNewEntries 3 (some .int) 1 24 G [.ref (gB G + o)] M M (some (.int rv)) := by
  refine Kt.of (by decide) (Nat.le_of_ble_eq_true rfl) ?_
  intro p l e R s m args below meth c X hr hlk hnm
  refine s_drop [0] (vs' := [(0, .ref (gB G + o))]) rfl ?_
  rw [f_X9_mostNewEntries] at hf
  refine s_iconst X (v := (0 : Int32)) dX9_mostNewEntries_0 rfl ?_
  refine s_istore_n X (vs' := [(0, .ref (gB G + o)), (1, .int (0 : Int32))]) dX9_mostNewEntries_1 rfl (Nat.le_of_ble_eq_true rfl) [1, 0] rfl ?_
  refine s_iconst X (v := (0 : Int32)) dX9_mostNewEntries_2 rfl ?_
  refine s_istore_n X (vs' := [(0, .ref (gB G + o)), (1, .int (0 : Int32)), (2, .int (0 : Int32))]) dX9_mostNewEntries_3 rfl (Nat.le_of_ble_eq_true rfl) [1, 2, 0] rfl ?_
  exact l_X9_mostNewEntries_4 X hr hlk hnm _ _ _ hf
theorem dX9_crowd_0 : decode cX9_crowd 0 = .ok (.iload_n 1, 1) := dk_27 (by decide +kernel)
theorem dX9_crowd_1 : decode cX9_crowd 1 = .ok (.ifCond .lt 23, 3) := dk_155 (x := 0) (y := 23) (by decide +kernel) rfl
theorem dX9_crowd_4 : decode cX9_crowd 4 = .ok (.iload_n 2, 1) := dk_28 (by decide +kernel)
theorem dX9_crowd_5 : decode cX9_crowd 5 = .ok (.ifCond .lt 19, 3) := dk_155 (x := 0) (y := 19) (by decide +kernel) rfl
theorem dX9_crowd_8 : decode cX9_crowd 8 = .ok (.iload_n 2, 1) := dk_28 (by decide +kernel)
theorem dX9_crowd_9 : decode cX9_crowd 9 = .ok (.sipush 500, 3) := dk_17 (x := 1) (y := 244) (by decide +kernel) rfl
theorem dX9_crowd_12 : decode cX9_crowd 12 = .ok (.if_icmp .gt 12, 3) := dk_163 (x := 0) (y := 12) (by decide +kernel) rfl
theorem dX9_crowd_15 : decode cX9_crowd 15 = .ok (.iload_n 3, 1) := dk_29 (by decide +kernel)
theorem dX9_crowd_16 : decode cX9_crowd 16 = .ok (.ifCond .lt 8, 3) := dk_155 (x := 0) (y := 8) (by decide +kernel) rfl
theorem dX9_crowd_19 : decode cX9_crowd 19 = .ok (.iload_n 3, 1) := dk_29 (by decide +kernel)
theorem dX9_crowd_20 : decode cX9_crowd 20 = .ok (.iconst 5, 1) := dk_8 (by decide +kernel)
theorem dX9_crowd_21 : decode cX9_crowd 21 = .ok (.if_icmp .le 5, 3) := dk_164 (x := 0) (y := 5) (by decide +kernel) rfl
theorem dX9_crowd_24 : decode cX9_crowd 24 = .ok (.iconst (-1), 1) := dk_2 (by decide +kernel)
theorem dX9_crowd_25 : decode cX9_crowd 25 = .ok (.ireturn, 1) := dk_172 (by decide +kernel)
theorem dX9_crowd_26 : decode cX9_crowd 26 = .ok (.aload_n 0, 1) := dk_42 (by decide +kernel)
theorem dX9_crowd_27 : decode cX9_crowd 27 = .ok (.getfield 32, 3) := dk_180 (x := 0) (y := 32) (by decide +kernel) rfl
theorem dX9_crowd_30 : decode cX9_crowd 30 = .ok (.aload_n 0, 1) := dk_42 (by decide +kernel)
theorem dX9_crowd_31 : decode cX9_crowd 31 = .ok (.getfield 28, 3) := dk_180 (x := 0) (y := 28) (by decide +kernel) rfl
theorem dX9_crowd_34 : decode cX9_crowd 34 = .ok (.invokevirtual 311, 3) := dk_182 (x := 1) (y := 55) (by decide +kernel) rfl
theorem dX9_crowd_37 : decode cX9_crowd 37 = .ok (.aload_n 0, 1) := dk_42 (by decide +kernel)
theorem dX9_crowd_38 : decode cX9_crowd 38 = .ok (.getfield 32, 3) := dk_180 (x := 0) (y := 32) (by decide +kernel) rfl
theorem dX9_crowd_41 : decode cX9_crowd 41 = .ok (.iload_n 1, 1) := dk_27 (by decide +kernel)
theorem dX9_crowd_42 : decode cX9_crowd 42 = .ok (.i2l, 1) := dk_133 (by decide +kernel)
theorem dX9_crowd_43 : decode cX9_crowd 43 = .ok (.putfield 304, 3) := dk_181 (x := 1) (y := 48) (by decide +kernel) rfl
theorem dX9_crowd_46 : decode cX9_crowd 46 = .ok (.iconst 1, 1) := dk_4 (by decide +kernel)
theorem dX9_crowd_47 : decode cX9_crowd 47 = .ok (.istore 4, 2) := dk_54 (x := 4) (by decide +kernel)
theorem dX9_crowd_49 : decode cX9_crowd 49 = .ok (.iconst 0, 1) := dk_3 (by decide +kernel)
theorem dX9_crowd_50 : decode cX9_crowd 50 = .ok (.istore 5, 2) := dk_54 (x := 5) (by decide +kernel)
theorem dX9_crowd_52 : decode cX9_crowd 52 = .ok (.iload 5, 2) := dk_21 (x := 5) (by decide +kernel)
theorem dX9_crowd_54 : decode cX9_crowd 54 = .ok (.iload_n 2, 1) := dk_28 (by decide +kernel)
theorem dX9_crowd_55 : decode cX9_crowd 55 = .ok (.if_icmp .ge 30, 3) := dk_162 (x := 0) (y := 30) (by decide +kernel) rfl
theorem dX9_crowd_58 : decode cX9_crowd 58 = .ok (.iload 4, 2) := dk_21 (x := 4) (by decide +kernel)
theorem dX9_crowd_60 : decode cX9_crowd 60 = .ok (.ifCond .eq 25, 3) := dk_153 (x := 0) (y := 25) (by decide +kernel) rfl
theorem dX9_crowd_63 : decode cX9_crowd 63 = .ok (.aload_n 0, 1) := dk_42 (by decide +kernel)
theorem dX9_crowd_64 : decode cX9_crowd 64 = .ok (.getfield 32, 3) := dk_180 (x := 0) (y := 32) (by decide +kernel) rfl
theorem dX9_crowd_67 : decode cX9_crowd 67 = .ok (.invokevirtual 341, 3) := dk_182 (x := 1) (y := 85) (by decide +kernel) rfl
theorem dX9_crowd_70 : decode cX9_crowd 70 = .ok (.aload_n 0, 1) := dk_42 (by decide +kernel)
theorem dX9_crowd_71 : decode cX9_crowd 71 = .ok (.getfield 32, 3) := dk_180 (x := 0) (y := 32) (by decide +kernel) rfl
theorem dX9_crowd_74 : decode cX9_crowd 74 = .ok (.invokevirtual 308, 3) := dk_182 (x := 1) (y := 52) (by decide +kernel) rfl
theorem dX9_crowd_77 : decode cX9_crowd 77 = .ok (.istore 4, 2) := dk_54 (x := 4) (by decide +kernel)
theorem dX9_crowd_79 : decode cX9_crowd 79 = .ok (.iinc 5 1, 3) := dk_132 (x := 5) (y := 1) (by decide +kernel) rfl
theorem dX9_crowd_82 : decode cX9_crowd 82 = .ok (.goto (-30), 3) := dk_167 (x := 255) (y := 226) (by decide +kernel) rfl
theorem dX9_crowd_85 : decode cX9_crowd 85 = .ok (.iload_n 3, 1) := dk_29 (by decide +kernel)
theorem dX9_crowd_86 : decode cX9_crowd 86 = .ok (.tableswitch 98 0 4 #[34, 50, 55, 60, 76], 34) := by decide +kernel
theorem dX9_crowd_120 : decode cX9_crowd 120 = .ok (.aload_n 0, 1) := dk_42 (by decide +kernel)
theorem dX9_crowd_121 : decode cX9_crowd 121 = .ok (.getfield 32, 3) := dk_180 (x := 0) (y := 32) (by decide +kernel) rfl
theorem dX9_crowd_124 : decode cX9_crowd 124 = .ok (.getfield 258, 3) := dk_180 (x := 1) (y := 2) (by decide +kernel) rfl
theorem dX9_crowd_127 : decode cX9_crowd 127 = .ok (.aload_n 0, 1) := dk_42 (by decide +kernel)
theorem dX9_crowd_128 : decode cX9_crowd 128 = .ok (.getfield 28, 3) := dk_180 (x := 0) (y := 28) (by decide +kernel) rfl
theorem dX9_crowd_131 : decode cX9_crowd 131 = .ok (.getfield 258, 3) := dk_180 (x := 1) (y := 2) (by decide +kernel) rfl
theorem dX9_crowd_134 : decode cX9_crowd 134 = .ok (.isub, 1) := dk_100 (by decide +kernel)
theorem dX9_crowd_135 : decode cX9_crowd 135 = .ok (.ireturn, 1) := dk_172 (by decide +kernel)
theorem dX9_crowd_136 : decode cX9_crowd 136 = .ok (.aload_n 0, 1) := dk_42 (by decide +kernel)
theorem dX9_crowd_137 : decode cX9_crowd 137 = .ok (.invokevirtual 344, 3) := dk_182 (x := 1) (y := 88) (by decide +kernel) rfl
theorem dX9_crowd_140 : decode cX9_crowd 140 = .ok (.ireturn, 1) := dk_172 (by decide +kernel)
theorem dX9_crowd_141 : decode cX9_crowd 141 = .ok (.aload_n 0, 1) := dk_42 (by decide +kernel)
theorem dX9_crowd_142 : decode cX9_crowd 142 = .ok (.invokevirtual 347, 3) := dk_182 (x := 1) (y := 91) (by decide +kernel) rfl
theorem dX9_crowd_145 : decode cX9_crowd 145 = .ok (.ireturn, 1) := dk_172 (by decide +kernel)
theorem dX9_crowd_146 : decode cX9_crowd 146 = .ok (.aload_n 0, 1) := dk_42 (by decide +kernel)
theorem dX9_crowd_147 : decode cX9_crowd 147 = .ok (.getfield 32, 3) := dk_180 (x := 0) (y := 32) (by decide +kernel) rfl
theorem dX9_crowd_150 : decode cX9_crowd 150 = .ok (.getfield 262, 3) := dk_180 (x := 1) (y := 6) (by decide +kernel) rfl
theorem dX9_crowd_153 : decode cX9_crowd 153 = .ok (.aload_n 0, 1) := dk_42 (by decide +kernel)
theorem dX9_crowd_154 : decode cX9_crowd 154 = .ok (.getfield 28, 3) := dk_180 (x := 0) (y := 28) (by decide +kernel) rfl
theorem dX9_crowd_157 : decode cX9_crowd 157 = .ok (.getfield 262, 3) := dk_180 (x := 1) (y := 6) (by decide +kernel) rfl
theorem dX9_crowd_160 : decode cX9_crowd 160 = .ok (.isub, 1) := dk_100 (by decide +kernel)
theorem dX9_crowd_161 : decode cX9_crowd 161 = .ok (.ireturn, 1) := dk_172 (by decide +kernel)
theorem dX9_crowd_162 : decode cX9_crowd 162 = .ok (.aload_n 0, 1) := dk_42 (by decide +kernel)
theorem dX9_crowd_163 : decode cX9_crowd 163 = .ok (.getfield 32, 3) := dk_180 (x := 0) (y := 32) (by decide +kernel) rfl
theorem dX9_crowd_166 : decode cX9_crowd 166 = .ok (.getfield 243, 3) := dk_180 (x := 0) (y := 243) (by decide +kernel) rfl
theorem dX9_crowd_169 : decode cX9_crowd 169 = .ok (.invokevirtual 283, 3) := dk_182 (x := 1) (y := 27) (by decide +kernel) rfl
theorem dX9_crowd_172 : decode cX9_crowd 172 = .ok (.aload_n 0, 1) := dk_42 (by decide +kernel)
theorem dX9_crowd_173 : decode cX9_crowd 173 = .ok (.getfield 28, 3) := dk_180 (x := 0) (y := 28) (by decide +kernel) rfl
theorem dX9_crowd_176 : decode cX9_crowd 176 = .ok (.getfield 243, 3) := dk_180 (x := 0) (y := 243) (by decide +kernel) rfl
theorem dX9_crowd_179 : decode cX9_crowd 179 = .ok (.invokevirtual 283, 3) := dk_182 (x := 1) (y := 27) (by decide +kernel) rfl
theorem dX9_crowd_182 : decode cX9_crowd 182 = .ok (.isub, 1) := dk_100 (by decide +kernel)
theorem dX9_crowd_183 : decode cX9_crowd 183 = .ok (.ireturn, 1) := dk_172 (by decide +kernel)
theorem dX9_crowd_184 : decode cX9_crowd 184 = .ok (.aload_n 0, 1) := dk_42 (by decide +kernel)
theorem dX9_crowd_185 : decode cX9_crowd 185 = .ok (.getfield 32, 3) := dk_180 (x := 0) (y := 32) (by decide +kernel) rfl
theorem dX9_crowd_188 : decode cX9_crowd 188 = .ok (.getfield 268, 3) := dk_180 (x := 1) (y := 12) (by decide +kernel) rfl
theorem dX9_crowd_191 : decode cX9_crowd 191 = .ok (.ireturn, 1) := dk_172 (by decide +kernel)
def f_X9_crowd_85 (n : Nat) (v0 : Nat) (v3 : Int32) (M : Mem) : Option (Int32 × Mem) :=
    if v3 = (0 : Int32) then (
      chk (isO M 9 v0) <|
      bnd (mR M v0 3) fun o4 =>
      chk (isO M 2 o4) <|
      bnd (mR M v0 2) fun o7 =>
      chk (isO M 2 o7) <|
      some (((mI M o4 11) - (mI M o7 11)), M)
      ) else (
    if v3 = (1 : Int32) then (
      chk (isO M 9 v0) <|
      obd (f_X9_fewestNewEntries n v0 M) fun r14 =>
      some (r14, M)
      ) else (
    if v3 = (2 : Int32) then (
      chk (isO M 9 v0) <|
      obd (f_X9_mostNewEntries n v0 M) fun r19 =>
      some (r19, M)
      ) else (
    if v3 = (3 : Int32) then (
      chk (isO M 9 v0) <|
      bnd (mR M v0 3) fun o23 =>
      chk (isO M 2 o23) <|
      bnd (mR M v0 2) fun o26 =>
      chk (isO M 2 o26) <|
      some (((mI M o23 12) - (mI M o26 12)), M)
      ) else (
    if v3 = (4 : Int32) then (
      chk (isO M 9 v0) <|
      bnd (mR M v0 3) fun o32 =>
      chk (isO M 2 o32) <|
      bnd (mR M o32 1) fun o35 =>
      chk (isO M 5 o35) <|
      obd (f_X5_sentInAll n o35 M) fun r39 =>
      bnd (mR M v0 2) fun o40 =>
      chk (isO M 2 o40) <|
      bnd (mR M o40 1) fun o43 =>
      chk (isO M 5 o43) <|
      obd (f_X5_sentInAll n o43 M) fun r47 =>
      some ((r39 - r47), M)
      ) else (
    chk (isO M 9 v0) <|
    bnd (mR M v0 3) fun o49 =>
    chk (isO M 2 o49) <|
    some ((mI M o49 15), M)
    )
    )
    )
    )
    )
def f_X9_crowd_52 : Nat → Nat → Int32 → Int32 → Int32 → Int32 → Mem → Option (Int32 × Mem)
  | 0, _, _, _, _, _, _ => none
  | n + 1, v0, v2, v3, v4, v5, M =>
    if v2 ≤ v5 then (
      f_X9_crowd_85 n v0 v3 M
      ) else (
      if v4 = 0 then (
        f_X9_crowd_85 n v0 v3 M
        ) else (
        chk (isO M 9 v0) <|
        bnd (mR M v0 3) fun o6 =>
        chk (isO M 2 o6) <|
        obd (f_X2_letAllAsk n o6 M) fun M10 =>
        chk (isO M10 9 v0) <|
        bnd (mR M10 v0 3) fun o12 =>
        chk (isO M10 2 o12) <|
        obd2 (f_X2_moveByDraw n o12 M10) fun r16 M17 =>
        bnd (v5 + (1 : Int32)) fun x18 =>
        f_X9_crowd_52 n v0 v2 v3 r16 x18 M17
        )
      )
def f_X9_crowd (n : Nat) (o : Nat) (a1 : Int32) (a2 : Int32) (a3 : Int32) (M : Mem) : Option (Int32 × Mem) :=
  if a1 < 0 then (
    some ((-1 : Int32), M)
    ) else (
    if a2 < 0 then (
      some ((-1 : Int32), M)
      ) else (
      if (500 : Int32) < a2 then (
        some ((-1 : Int32), M)
        ) else (
        if a3 < 0 then (
          some ((-1 : Int32), M)
          ) else (
          if a3 ≤ (5 : Int32) then (
            chk (isO M 9 o) <|
            bnd (mR M o 3) fun o12 =>
            chk (isO M 2 o12) <|
            bnd (mR M o 2) fun o15 =>
            chk (isO M 2 o15) <|
            obd (f_X2_copyFrom n o12 o15 M) fun M19 =>
            chk (isO M19 9 o) <|
            bnd (mR M19 o 3) fun o21 =>
            chk (isO M19 2 o21) <|
            bnd (sL M19 o21 16 ((a1).toInt64)) fun M24 =>
            f_X9_crowd_52 n o a2 a3 (1 : Int32) (0 : Int32) M24
            ) else (
            some ((-1 : Int32), M)
            )
          )
        )
      )
    )
theorem cd_X9_crowd : (yX9_crowd.cls ≠ "java/lang/invoke/MethodHandle" ∧ yX9_crowd.cls ≠ "java/lang/invoke/VarHandle") ∧ (parseMethodDescriptor yX9_crowd.desc).map (fun d => d.parameters.length) = some 3 := ⟨⟨by decide +kernel, by decide +kernel⟩, by decide +kernel⟩
section
variable {p : Program} {l : Launch} {e : Env} {R : Room} {s : State} {m : MethodId} {args : Array Value} {below : List Frame} {meth : Method} {c : Code} {G : Gam} {M0 : Mem}
theorem l_X9_crowd_85 {rv : (Int32 × Mem)} {n : Nat} {v0 : Nat} {v3 : Int32} {M : Mem} (X : Cx p R s m args c G M0 cX9_crowd yX9_crowd.cls 6 8 194) (hr : meth.sig.returnType = (some .int)) (hlk : meth.locks = false) (hnm : meth.name = "crowd") (hf : f_X9_crowd_85 n v0 v3 M = some rv) : Sg p l e R s m args below meth c (Qm below G args s (some (.int rv.1)) M0 rv.2) G M0 6 85 [(0, .ref (gB G + v0)), (3, .int v3)] [] M := by
  rw [f_X9_crowd_85] at hf
  refine s_iload_n X 1 dX9_crowd_85 rfl rfl ?_
  have hs1 := pk_ite hf
  clear hf
  by_cases c2 : v3 = (0 : Int32)
  · have hf := hs1.1 c2
    refine s_swC X (v := (0 : Int32)) (tgt := 120) dX9_crowd_86 c2 (by decide) (by decide) rfl rfl ?_
    refine s_aload_n X 0 dX9_crowd_120 rfl rfl ?_
    obtain ⟨h3, hf⟩ := pk_chk hf
    obtain ⟨o4, e5, hf⟩ := pk_bnd hf
    obtain ⟨h6, hf⟩ := pk_chk hf
    refine s_getR X (ci := 9) (k := 3) rfl (Nat.le_of_ble_eq_true rfl) h3 wd630 (fun _ _ _ => rfl) (e5 ▸ h6) dX9_crowd_121 (e5 ▸ ?_)
    refine s_getI X (ci := 2) (k := 11) rfl (Nat.le_of_ble_eq_true rfl) h6 wd447 (fun _ _ _ => rfl) dX9_crowd_124 ?_
    refine s_aload_n X 0 dX9_crowd_127 rfl rfl ?_
    obtain ⟨o7, e8, hf⟩ := pk_bnd hf
    obtain ⟨h9, hf⟩ := pk_chk hf
    refine s_getR X (ci := 9) (k := 2) rfl (Nat.le_of_ble_eq_true rfl) h3 wd629 (fun _ _ _ => rfl) (e8 ▸ h9) dX9_crowd_128 (e8 ▸ ?_)
    refine s_getI X (ci := 2) (k := 11) rfl (Nat.le_of_ble_eq_true rfl) h9 wd447 (fun _ _ _ => rfl) dX9_crowd_131 ?_
    refine s_isub X dX9_crowd_134 ?_
    cases hf
    exact s_iret X hr hlk dX9_crowd_135
  have hf := hs1.2 c2
  have hs10 := pk_ite hf
  clear hf
  by_cases c11 : v3 = (1 : Int32)
  · have hf := hs10.1 c11
    refine s_swC X (v := (1 : Int32)) (tgt := 136) dX9_crowd_86 c11 (by decide) (by decide) rfl rfl ?_
    refine s_aload_n X 0 dX9_crowd_136 rfl rfl ?_
    obtain ⟨h12, hf⟩ := pk_chk hf
    obtain ⟨r14, hc13, hf⟩ := pk_obd hf
    refine s_callV X (ci := 9) (k_X9_fewestNewEntries G hc13) rfl h12 wd1381 wd1383 wd45 wd1384 wd126 cd_X9_fewestNewEntries ⟨Nat.le_of_ble_eq_true rfl, Nat.le_of_ble_eq_true rfl⟩ (Nat.le_of_ble_eq_true rfl) dX9_crowd_137 ?_
    cases hf
    exact s_iret X hr hlk dX9_crowd_140
  have hf := hs10.2 c11
  have hs15 := pk_ite hf
  clear hf
  by_cases c16 : v3 = (2 : Int32)
  · have hf := hs15.1 c16
    refine s_swC X (v := (2 : Int32)) (tgt := 141) dX9_crowd_86 c16 (by decide) (by decide) rfl rfl ?_
    refine s_aload_n X 0 dX9_crowd_141 rfl rfl ?_
    obtain ⟨h17, hf⟩ := pk_chk hf
    obtain ⟨r19, hc18, hf⟩ := pk_obd hf
    refine s_callV X (ci := 9) (k_X9_mostNewEntries G hc18) rfl h17 wd1389 wd1391 wd47 wd1392 wd126 cd_X9_mostNewEntries ⟨Nat.le_of_ble_eq_true rfl, Nat.le_of_ble_eq_true rfl⟩ (Nat.le_of_ble_eq_true rfl) dX9_crowd_142 ?_
    cases hf
    exact s_iret X hr hlk dX9_crowd_145
  have hf := hs15.2 c16
  have hs20 := pk_ite hf
  clear hf
  by_cases c21 : v3 = (3 : Int32)
  · have hf := hs20.1 c21
    refine s_swC X (v := (3 : Int32)) (tgt := 146) dX9_crowd_86 c21 (by decide) (by decide) rfl rfl ?_
    refine s_aload_n X 0 dX9_crowd_146 rfl rfl ?_
    obtain ⟨h22, hf⟩ := pk_chk hf
    obtain ⟨o23, e24, hf⟩ := pk_bnd hf
    obtain ⟨h25, hf⟩ := pk_chk hf
    refine s_getR X (ci := 9) (k := 3) rfl (Nat.le_of_ble_eq_true rfl) h22 wd630 (fun _ _ _ => rfl) (e24 ▸ h25) dX9_crowd_147 (e24 ▸ ?_)
    refine s_getI X (ci := 2) (k := 12) rfl (Nat.le_of_ble_eq_true rfl) h25 wd449 (fun _ _ _ => rfl) dX9_crowd_150 ?_
    refine s_aload_n X 0 dX9_crowd_153 rfl rfl ?_
    obtain ⟨o26, e27, hf⟩ := pk_bnd hf
    obtain ⟨h28, hf⟩ := pk_chk hf
    refine s_getR X (ci := 9) (k := 2) rfl (Nat.le_of_ble_eq_true rfl) h22 wd629 (fun _ _ _ => rfl) (e27 ▸ h28) dX9_crowd_154 (e27 ▸ ?_)
    refine s_getI X (ci := 2) (k := 12) rfl (Nat.le_of_ble_eq_true rfl) h28 wd449 (fun _ _ _ => rfl) dX9_crowd_157 ?_
    refine s_isub X dX9_crowd_160 ?_
    cases hf
    exact s_iret X hr hlk dX9_crowd_161
  have hf := hs20.2 c21
  have hs29 := pk_ite hf
  clear hf
  by_cases c30 : v3 = (4 : Int32)
  · have hf := hs29.1 c30
    refine s_swC X (v := (4 : Int32)) (tgt := 162) dX9_crowd_86 c30 (by decide) (by decide) rfl rfl ?_
    refine s_aload_n X 0 dX9_crowd_162 rfl rfl ?_
    obtain ⟨h31, hf⟩ := pk_chk hf
    obtain ⟨o32, e33, hf⟩ := pk_bnd hf
    obtain ⟨h34, hf⟩ := pk_chk hf
    refine s_getR X (ci := 9) (k := 3) rfl (Nat.le_of_ble_eq_true rfl) h31 wd630 (fun _ _ _ => rfl) (e33 ▸ h34) dX9_crowd_163 (e33 ▸ ?_)
    obtain ⟨o35, e36, hf⟩ := pk_bnd hf
    obtain ⟨h37, hf⟩ := pk_chk hf
    refine s_getR X (ci := 2) (k := 1) rfl (Nat.le_of_ble_eq_true rfl) h34 wd422 (fun _ _ _ => rfl) (e36 ▸ h37) dX9_crowd_166 (e36 ▸ ?_)
    obtain ⟨r39, hc38, hf⟩ := pk_obd hf
    refine s_callV X (ci := 5) (k_X5_sentInAll G hc38) rfl h37 wd1180 wd1181 wd1182 wd1183 wd131 cd_X5_sentInAll ⟨Nat.le_of_ble_eq_true rfl, Nat.le_of_ble_eq_true rfl⟩ (Nat.le_of_ble_eq_true rfl) dX9_crowd_169 ?_
    refine s_aload_n X 0 dX9_crowd_172 rfl rfl ?_
    obtain ⟨o40, e41, hf⟩ := pk_bnd hf
    obtain ⟨h42, hf⟩ := pk_chk hf
    refine s_getR X (ci := 9) (k := 2) rfl (Nat.le_of_ble_eq_true rfl) h31 wd629 (fun _ _ _ => rfl) (e41 ▸ h42) dX9_crowd_173 (e41 ▸ ?_)
    obtain ⟨o43, e44, hf⟩ := pk_bnd hf
    obtain ⟨h45, hf⟩ := pk_chk hf
    refine s_getR X (ci := 2) (k := 1) rfl (Nat.le_of_ble_eq_true rfl) h42 wd422 (fun _ _ _ => rfl) (e44 ▸ h45) dX9_crowd_176 (e44 ▸ ?_)
    obtain ⟨r47, hc46, hf⟩ := pk_obd hf
    refine s_callV X (ci := 5) (k_X5_sentInAll G hc46) rfl h45 wd1180 wd1181 wd1182 wd1183 wd131 cd_X5_sentInAll ⟨Nat.le_of_ble_eq_true rfl, Nat.le_of_ble_eq_true rfl⟩ (Nat.le_of_ble_eq_true rfl) dX9_crowd_179 ?_
    refine s_isub X dX9_crowd_182 ?_
    cases hf
    exact s_iret X hr hlk dX9_crowd_183
  have hf := hs29.2 c30
  refine s_swOut X (tgt := 184) dX9_crowd_86 (by have := sw_ne (v := (0 : Int32)) (z := 0) c2 (by decide); have := sw_ne (v := (1 : Int32)) (z := 1) c11 (by decide); have := sw_ne (v := (2 : Int32)) (z := 2) c16 (by decide); have := sw_ne (v := (3 : Int32)) (z := 3) c21 (by decide); have := sw_ne (v := (4 : Int32)) (z := 4) c30 (by decide); omega) rfl ?_
  refine s_aload_n X 0 dX9_crowd_184 rfl rfl ?_
  obtain ⟨h48, hf⟩ := pk_chk hf
  obtain ⟨o49, e50, hf⟩ := pk_bnd hf
  obtain ⟨h51, hf⟩ := pk_chk hf
  refine s_getR X (ci := 9) (k := 3) rfl (Nat.le_of_ble_eq_true rfl) h48 wd630 (fun _ _ _ => rfl) (e50 ▸ h51) dX9_crowd_185 (e50 ▸ ?_)
  refine s_getI X (ci := 2) (k := 15) rfl (Nat.le_of_ble_eq_true rfl) h51 wd455 (fun _ _ _ => rfl) dX9_crowd_188 ?_
  cases hf
  exact s_iret X hr hlk dX9_crowd_191
theorem l_X9_crowd_52 {rv : (Int32 × Mem)} (X : Cx p R s m args c G M0 cX9_crowd yX9_crowd.cls 6 8 194) (hr : meth.sig.returnType = (some .int)) (hlk : meth.locks = false) (hnm : meth.name = "crowd") : ∀ {n : Nat} (v0 : Nat) (v2 : Int32) (v3 : Int32) (v4 : Int32) (v5 : Int32) (M : Mem), f_X9_crowd_52 n v0 v2 v3 v4 v5 M = some rv → Sg p l e R s m args below meth c (Qm below G args s (some (.int rv.1)) M0 rv.2) G M0 6 52 [(0, .ref (gB G + v0)), (2, .int v2), (3, .int v3), (4, .int v4), (5, .int v5)] [] M := by
  intro n
  induction n with
  | zero => intro v0 v2 v3 v4 v5 M hf; exact (pk_none hf).elim
  | succ n ih =>
    intro v0 v2 v3 v4 v5 M hf
    rw [f_X9_crowd_52] at hf
    refine s_iload X 4 dX9_crowd_52 rfl ?_
    refine s_iload_n X 1 dX9_crowd_54 rfl rfl ?_
    have hs1 := pk_ite hf
    clear hf
    refine s_icmp_ge X (tgt := 85) dX9_crowd_55 rfl (fun c2 => ?_) (fun c2 => ?_)
    · have hf := hs1.1 c2
      refine s_drop [0, 2] (vs' := [(0, .ref (gB G + v0)), (3, .int v3)]) rfl ?_
      exact l_X9_crowd_85 X hr hlk hnm hf
    · have hf := hs1.2 c2
      refine s_iload X 3 dX9_crowd_58 rfl ?_
      have hs3 := pk_ite hf
      clear hf
      refine s_if_eq X (tgt := 85) dX9_crowd_60 rfl (fun c4 => ?_) (fun c4 => ?_)
      · have hf := hs3.1 c4
        refine s_drop [0, 2] (vs' := [(0, .ref (gB G + v0)), (3, .int v3)]) rfl ?_
        exact l_X9_crowd_85 X hr hlk hnm hf
      · have hf := hs3.2 c4
        refine s_aload_n X 0 dX9_crowd_63 rfl rfl ?_
        obtain ⟨h5, hf⟩ := pk_chk hf
        obtain ⟨o6, e7, hf⟩ := pk_bnd hf
        obtain ⟨h8, hf⟩ := pk_chk hf
        refine s_getR X (ci := 9) (k := 3) rfl (Nat.le_of_ble_eq_true rfl) h5 wd630 (fun _ _ _ => rfl) (e7 ▸ h8) dX9_crowd_64 (e7 ▸ ?_)
        obtain ⟨M10, hc9, hf⟩ := pk_obd hf
        refine s_callV X (ci := 2) (k_X2_letAllAsk G hc9) rfl h8 wd1377 wd1378 wd1379 wd1380 wd130 cd_X2_letAllAsk ⟨Nat.le_of_ble_eq_true rfl, Nat.le_of_ble_eq_true rfl⟩ (Nat.le_of_ble_eq_true rfl) dX9_crowd_67 ?_
        refine s_aload_n X 0 dX9_crowd_70 rfl rfl ?_
        obtain ⟨h11, hf⟩ := pk_chk hf
        obtain ⟨o12, e13, hf⟩ := pk_bnd hf
        obtain ⟨h14, hf⟩ := pk_chk hf
        refine s_getR X (ci := 9) (k := 3) rfl (Nat.le_of_ble_eq_true rfl) h11 wd630 (fun _ _ _ => rfl) (e13 ▸ h14) dX9_crowd_71 (e13 ▸ ?_)
        obtain ⟨r16, M17, hc15, hf⟩ := pk_obd2 hf
        refine s_callV X (ci := 2) (k_X2_moveByDraw G hc15) rfl h14 wd1213 wd1214 wd1215 wd1216 wd130 cd_X2_moveByDraw ⟨Nat.le_of_ble_eq_true rfl, Nat.le_of_ble_eq_true rfl⟩ (Nat.le_of_ble_eq_true rfl) dX9_crowd_74 ?_
        refine s_istore X (vs' := [(0, .ref (gB G + v0)), (2, .int v2), (3, .int v3), (4, .int r16), (5, .int v5)]) dX9_crowd_77 (Nat.le_of_ble_eq_true rfl) [1, 2, 3, 0, 4] rfl ?_
        obtain ⟨x18, e19, hf⟩ := pk_bnd hf
        refine s_iinc X (vs' := [(0, .ref (gB G + v0)), (2, .int v2), (3, .int v3), (4, .int r16), (5, .int x18)]) 4 dX9_crowd_79 rfl (v := x18) e19.symm (Nat.le_of_ble_eq_true rfl) [1, 2, 3, 4, 0] rfl ?_
        refine s_goto X (tgt := 52) dX9_crowd_82 rfl ?_
        exact ih _ _ _ _ _ _ hf
end
theorem k_X9_crowd (G : Gam) {n : Nat} {o : Nat} {a1 : Int32} {a2 : Int32} {a3 : Int32} {M : Mem} {rv : (Int32 × Mem)} (hf : f_X9_crowd n o a1 a2 a3 M = some rv) : Kt yX9_crowd cX9_crowd 6 (some .int) 8 194 G [.ref (gB G + o), .int a1, .int a2, .int a3] M rv.2 (some (.int rv.1)) := by
  refine Kt.of (by decide) (Nat.le_of_ble_eq_true rfl) ?_
  intro p l e R s m args below meth c X hr hlk hnm
  refine s_drop [0, 1, 2, 3] (vs' := [(0, .ref (gB G + o)), (1, .int a1), (2, .int a2), (3, .int a3)]) rfl ?_
  rw [f_X9_crowd] at hf
  refine s_iload_n X 1 dX9_crowd_0 rfl rfl ?_
  have hs1 := pk_ite hf
  clear hf
  refine s_if_lt X (tgt := 24) dX9_crowd_1 rfl (fun c2 => ?_) (fun c2 => ?_)
  · have hf := hs1.1 c2
    refine s_iconst X (v := (-1 : Int32)) dX9_crowd_24 rfl ?_
    cases hf
    exact s_iret X hr hlk dX9_crowd_25
  · have hf := hs1.2 c2
    refine s_iload_n X 2 dX9_crowd_4 rfl rfl ?_
    have hs3 := pk_ite hf
    clear hf
    refine s_if_lt X (tgt := 24) dX9_crowd_5 rfl (fun c4 => ?_) (fun c4 => ?_)
    · have hf := hs3.1 c4
      refine s_iconst X (v := (-1 : Int32)) dX9_crowd_24 rfl ?_
      cases hf
      exact s_iret X hr hlk dX9_crowd_25
    · have hf := hs3.2 c4
      refine s_iload_n X 2 dX9_crowd_8 rfl rfl ?_
      refine s_sipush X (v := (500 : Int32)) dX9_crowd_9 rfl ?_
      have hs5 := pk_ite hf
      clear hf
      refine s_icmp_gt X (tgt := 24) dX9_crowd_12 rfl (fun c6 => ?_) (fun c6 => ?_)
      · have hf := hs5.1 c6
        refine s_iconst X (v := (-1 : Int32)) dX9_crowd_24 rfl ?_
        cases hf
        exact s_iret X hr hlk dX9_crowd_25
      · have hf := hs5.2 c6
        refine s_iload_n X 3 dX9_crowd_15 rfl rfl ?_
        have hs7 := pk_ite hf
        clear hf
        refine s_if_lt X (tgt := 24) dX9_crowd_16 rfl (fun c8 => ?_) (fun c8 => ?_)
        · have hf := hs7.1 c8
          refine s_iconst X (v := (-1 : Int32)) dX9_crowd_24 rfl ?_
          cases hf
          exact s_iret X hr hlk dX9_crowd_25
        · have hf := hs7.2 c8
          refine s_iload_n X 3 dX9_crowd_19 rfl rfl ?_
          refine s_iconst X (v := (5 : Int32)) dX9_crowd_20 rfl ?_
          have hs9 := pk_ite hf
          clear hf
          refine s_icmp_le X (tgt := 26) dX9_crowd_21 rfl (fun c10 => ?_) (fun c10 => ?_)
          · have hf := hs9.1 c10
            refine s_aload_n X 0 dX9_crowd_26 rfl rfl ?_
            obtain ⟨h11, hf⟩ := pk_chk hf
            obtain ⟨o12, e13, hf⟩ := pk_bnd hf
            obtain ⟨h14, hf⟩ := pk_chk hf
            refine s_getR X (ci := 9) (k := 3) rfl (Nat.le_of_ble_eq_true rfl) h11 wd630 (fun _ _ _ => rfl) (e13 ▸ h14) dX9_crowd_27 (e13 ▸ ?_)
            refine s_aload_n X 0 dX9_crowd_30 rfl rfl ?_
            obtain ⟨o15, e16, hf⟩ := pk_bnd hf
            obtain ⟨h17, hf⟩ := pk_chk hf
            refine s_getR X (ci := 9) (k := 2) rfl (Nat.le_of_ble_eq_true rfl) h11 wd629 (fun _ _ _ => rfl) (e16 ▸ h17) dX9_crowd_31 (e16 ▸ ?_)
            obtain ⟨M19, hc18, hf⟩ := pk_obd hf
            refine s_callV X (ci := 2) (k_X2_copyFrom G hc18) rfl h14 wd1235 wd1236 wd1237 wd1238 wd130 cd_X2_copyFrom ⟨Nat.le_of_ble_eq_true rfl, Nat.le_of_ble_eq_true rfl⟩ (Nat.le_of_ble_eq_true rfl) dX9_crowd_34 ?_
            refine s_aload_n X 0 dX9_crowd_37 rfl rfl ?_
            obtain ⟨h20, hf⟩ := pk_chk hf
            obtain ⟨o21, e22, hf⟩ := pk_bnd hf
            obtain ⟨h23, hf⟩ := pk_chk hf
            refine s_getR X (ci := 9) (k := 3) rfl (Nat.le_of_ble_eq_true rfl) h20 wd630 (fun _ _ _ => rfl) (e22 ▸ h23) dX9_crowd_38 (e22 ▸ ?_)
            refine s_iload_n X 1 dX9_crowd_41 rfl rfl ?_
            refine s_i2l X dX9_crowd_42 ?_
            obtain ⟨M24, e25, hf⟩ := pk_bnd hf
            refine s_putL X (ci := 2) (k := 16) rfl (Nat.le_of_ble_eq_true rfl) h23 wd457 (fun _ _ _ => rfl) rfl rfl e25 dX9_crowd_43 ?_
            have h26 := io_sL e25 h20
            have h27 := io_sL e25 h23
            refine s_iconst X (v := (1 : Int32)) dX9_crowd_46 rfl ?_
            refine s_istore X (vs' := [(0, .ref (gB G + o)), (1, .int a1), (2, .int a2), (3, .int a3), (4, .int (1 : Int32))]) dX9_crowd_47 (Nat.le_of_ble_eq_true rfl) [1, 2, 3, 4, 0] rfl ?_
            refine s_iconst X (v := (0 : Int32)) dX9_crowd_49 rfl ?_
            refine s_istore X (vs' := [(0, .ref (gB G + o)), (1, .int a1), (2, .int a2), (3, .int a3), (4, .int (1 : Int32)), (5, .int (0 : Int32))]) dX9_crowd_50 (Nat.le_of_ble_eq_true rfl) [1, 2, 3, 4, 5, 0] rfl ?_
            refine s_drop [0, 2, 3, 4, 5] (vs' := [(0, .ref (gB G + o)), (2, .int a2), (3, .int a3), (4, .int (1 : Int32)), (5, .int (0 : Int32))]) rfl ?_
            exact l_X9_crowd_52 X hr hlk hnm _ _ _ _ _ _ hf
          · have hf := hs9.2 c10
            refine s_iconst X (v := (-1 : Int32)) dX9_crowd_24 rfl ?_
            cases hf
            exact s_iret X hr hlk dX9_crowd_25
theorem dX10_askAll_0 : decode cX10_askAll 0 = .ok (.iconst 0, 1) := dk_3 (by decide +kernel)
theorem dX10_askAll_1 : decode cX10_askAll 1 = .ok (.istore_n 1, 1) := dk_60 (by decide +kernel)
theorem dX10_askAll_2 : decode cX10_askAll 2 = .ok (.iload_n 1, 1) := dk_27 (by decide +kernel)
theorem dX10_askAll_3 : decode cX10_askAll 3 = .ok (.aload_n 0, 1) := dk_42 (by decide +kernel)
theorem dX10_askAll_4 : decode cX10_askAll 4 = .ok (.getfield 7, 3) := dk_180 (x := 0) (y := 7) (by decide +kernel) rfl
theorem dX10_askAll_7 : decode cX10_askAll 7 = .ok (.iconst 0, 1) := dk_3 (by decide +kernel)
theorem dX10_askAll_8 : decode cX10_askAll 8 = .ok (.iaload, 1) := dk_46 (by decide +kernel)
theorem dX10_askAll_9 : decode cX10_askAll 9 = .ok (.if_icmp .ge 22, 3) := dk_162 (x := 0) (y := 22) (by decide +kernel) rfl
theorem dX10_askAll_12 : decode cX10_askAll 12 = .ok (.aload_n 0, 1) := dk_42 (by decide +kernel)
theorem dX10_askAll_13 : decode cX10_askAll 13 = .ok (.iload_n 1, 1) := dk_27 (by decide +kernel)
theorem dX10_askAll_14 : decode cX10_askAll 14 = .ok (.invokevirtual 208, 3) := dk_182 (x := 0) (y := 208) (by decide +kernel) rfl
theorem dX10_askAll_17 : decode cX10_askAll 17 = .ok (.ifCond .eq 8, 3) := dk_153 (x := 0) (y := 8) (by decide +kernel) rfl
theorem dX10_askAll_20 : decode cX10_askAll 20 = .ok (.aload_n 0, 1) := dk_42 (by decide +kernel)
theorem dX10_askAll_21 : decode cX10_askAll 21 = .ok (.iload_n 1, 1) := dk_27 (by decide +kernel)
theorem dX10_askAll_22 : decode cX10_askAll 22 = .ok (.invokevirtual 211, 3) := dk_182 (x := 0) (y := 211) (by decide +kernel) rfl
theorem dX10_askAll_25 : decode cX10_askAll 25 = .ok (.iinc 1 1, 3) := dk_132 (x := 1) (y := 1) (by decide +kernel) rfl
theorem dX10_askAll_28 : decode cX10_askAll 28 = .ok (.goto (-26), 3) := dk_167 (x := 255) (y := 230) (by decide +kernel) rfl
theorem dX10_askAll_31 : decode cX10_askAll 31 = .ok (.return_, 1) := dk_177 (by decide +kernel)
def f_X10_askAll_2 : Nat → Nat → Int32 → Mem → Option Mem
  | 0, _, _, _ => none
  | n + 1, v0, v1, M =>
    chk (isO M 10 v0) <|
    bnd (mR M v0 0) fun o2 =>
    chk (isO M 100 o2) <|
    chk (inB (0 : Int32) (mLn M o2)) <|
    if (mI M o2 ((0 : Int32)).toNatClampNeg) ≤ v1 then (
      some M
      ) else (
      obd2 (f_X10_canAsk n v0 v1 M) fun r9 M10 =>
      if r9 = 0 then (
        bnd (v1 + (1 : Int32)) fun x13 =>
        f_X10_askAll_2 n v0 x13 M10
        ) else (
        chk (isO M10 10 v0) <|
        obd (f_X10_askNow n v0 v1 M10) fun M17 =>
        bnd (v1 + (1 : Int32)) fun x18 =>
        f_X10_askAll_2 n v0 x18 M17
        )
      )
def f_X10_askAll (n : Nat) (o : Nat) (M : Mem) : Option Mem :=
  f_X10_askAll_2 n o (0 : Int32) M
theorem cd_X10_askAll : (yX10_askAll.cls ≠ "java/lang/invoke/MethodHandle" ∧ yX10_askAll.cls ≠ "java/lang/invoke/VarHandle") ∧ (parseMethodDescriptor yX10_askAll.desc).map (fun d => d.parameters.length) = some 0 := ⟨⟨by decide +kernel, by decide +kernel⟩, by decide +kernel⟩
section
variable {p : Program} {l : Launch} {e : Env} {R : Room} {s : State} {m : MethodId} {args : Array Value} {below : List Frame} {meth : Method} {c : Code} {G : Gam} {M0 : Mem}
theorem l_X10_askAll_2 {rv : Mem} (X : Cx p R s m args c G M0 cX10_askAll yX10_askAll.cls 2 5 111) (hr : meth.sig.returnType = none) (hlk : meth.locks = false) (hnm : meth.name = "askAll") : ∀ {n : Nat} (v0 : Nat) (v1 : Int32) (M : Mem), f_X10_askAll_2 n v0 v1 M = some rv → Sg p l e R s m args below meth c (Qm below G args s none M0 rv) G M0 2 2 [(0, .ref (gB G + v0)), (1, .int v1)] [] M := by
  intro n
  induction n with
  | zero => intro v0 v1 M hf; exact (pk_none hf).elim
  | succ n ih =>
    intro v0 v1 M hf
    rw [f_X10_askAll_2] at hf
    refine s_iload_n X 1 dX10_askAll_2 rfl rfl ?_
    refine s_aload_n X 0 dX10_askAll_3 rfl rfl ?_
    obtain ⟨h1, hf⟩ := pk_chk hf
    obtain ⟨o2, e3, hf⟩ := pk_bnd hf
    obtain ⟨h4, hf⟩ := pk_chk hf
    refine s_getR X (ci := 10) (k := 0) rfl (Nat.le_of_ble_eq_true rfl) h1 wd1440 (fun _ _ _ => rfl) (e3 ▸ h4) dX10_askAll_4 (e3 ▸ ?_)
    refine s_iconst X (v := (0 : Int32)) dX10_askAll_7 rfl ?_
    obtain ⟨h5, hf⟩ := pk_chk hf
    refine s_iald X h4 h5 dX10_askAll_8 ?_
    have hs6 := pk_ite hf
    clear hf
    refine s_icmp_ge X (tgt := 31) dX10_askAll_9 rfl (fun c7 => ?_) (fun c7 => ?_)
    · have hf := hs6.1 c7
      cases hf
      exact s_vret X hr hlk dX10_askAll_31
    · have hf := hs6.2 c7
      refine s_aload_n X 0 dX10_askAll_12 rfl rfl ?_
      refine s_iload_n X 1 dX10_askAll_13 rfl rfl ?_
      obtain ⟨r9, M10, hc8, hf⟩ := pk_obd2 hf
      refine s_callV X (ci := 10) (k_X10_canAsk G hc8) rfl h1 wd1684 wd1686 wd66 wd1687 wd138 cd_X10_canAsk ⟨Nat.le_of_ble_eq_true rfl, Nat.le_of_ble_eq_true rfl⟩ (Nat.le_of_ble_eq_true rfl) dX10_askAll_14 ?_
      have hs11 := pk_ite hf
      clear hf
      refine s_if_eq X (tgt := 25) dX10_askAll_17 rfl (fun c12 => ?_) (fun c12 => ?_)
      · have hf := hs11.1 c12
        obtain ⟨x13, e14, hf⟩ := pk_bnd hf
        refine s_iinc X (vs' := [(0, .ref (gB G + v0)), (1, .int x13)]) 1 dX10_askAll_25 rfl (v := x13) e14.symm (Nat.le_of_ble_eq_true rfl) [1, 0] rfl ?_
        refine s_goto X (tgt := 2) dX10_askAll_28 rfl ?_
        exact ih _ _ _ hf
      · have hf := hs11.2 c12
        refine s_aload_n X 0 dX10_askAll_20 rfl rfl ?_
        refine s_iload_n X 1 dX10_askAll_21 rfl rfl ?_
        obtain ⟨h15, hf⟩ := pk_chk hf
        obtain ⟨M17, hc16, hf⟩ := pk_obd hf
        refine s_callV X (ci := 10) (k_X10_askNow G hc16) rfl h15 wd1688 wd1690 wd67 wd1691 wd138 cd_X10_askNow ⟨Nat.le_of_ble_eq_true rfl, Nat.le_of_ble_eq_true rfl⟩ (Nat.le_of_ble_eq_true rfl) dX10_askAll_22 ?_
        obtain ⟨x18, e19, hf⟩ := pk_bnd hf
        refine s_iinc X (vs' := [(0, .ref (gB G + v0)), (1, .int x18)]) 1 dX10_askAll_25 rfl (v := x18) e19.symm (Nat.le_of_ble_eq_true rfl) [1, 0] rfl ?_
        refine s_goto X (tgt := 2) dX10_askAll_28 rfl ?_
        exact ih _ _ _ hf
end
theorem k_X10_askAll (G : Gam) {n : Nat} {o : Nat} {M : Mem} {rv : Mem} (hf : f_X10_askAll n o M = some rv) : Kt yX10_askAll cX10_askAll 2 none 5 111 G [.ref (gB G + o)] M rv none := by
  refine Kt.of (by decide) (Nat.le_of_ble_eq_true rfl) ?_
  intro p l e R s m args below meth c X hr hlk hnm
  refine s_drop [0] (vs' := [(0, .ref (gB G + o))]) rfl ?_
  rw [f_X10_askAll] at hf
  refine s_iconst X (v := (0 : Int32)) dX10_askAll_0 rfl ?_
  refine s_istore_n X (vs' := [(0, .ref (gB G + o)), (1, .int (0 : Int32))]) dX10_askAll_1 rfl (Nat.le_of_ble_eq_true rfl) [1, 0] rfl ?_
  exact l_X10_askAll_2 X hr hlk hnm _ _ _ hf
theorem dX10_crowdTold_0 : decode cX10_crowdTold 0 = .ok (.iconst (-1), 1) := dk_2 (by decide +kernel)
theorem dX10_crowdTold_1 : decode cX10_crowdTold 1 = .ok (.istore 5, 2) := dk_54 (x := 5) (by decide +kernel)
theorem dX10_crowdTold_3 : decode cX10_crowdTold 3 = .ok (.iconst 0, 1) := dk_3 (by decide +kernel)
theorem dX10_crowdTold_4 : decode cX10_crowdTold 4 = .ok (.istore 6, 2) := dk_54 (x := 6) (by decide +kernel)
theorem dX10_crowdTold_6 : decode cX10_crowdTold 6 = .ok (.iconst 0, 1) := dk_3 (by decide +kernel)
theorem dX10_crowdTold_7 : decode cX10_crowdTold 7 = .ok (.istore 7, 2) := dk_54 (x := 7) (by decide +kernel)
theorem dX10_crowdTold_9 : decode cX10_crowdTold 9 = .ok (.iload 7, 2) := dk_21 (x := 7) (by decide +kernel)
theorem dX10_crowdTold_11 : decode cX10_crowdTold 11 = .ok (.aload_n 0, 1) := dk_42 (by decide +kernel)
theorem dX10_crowdTold_12 : decode cX10_crowdTold 12 = .ok (.getfield 7, 3) := dk_180 (x := 0) (y := 7) (by decide +kernel) rfl
theorem dX10_crowdTold_15 : decode cX10_crowdTold 15 = .ok (.iconst 0, 1) := dk_3 (by decide +kernel)
theorem dX10_crowdTold_16 : decode cX10_crowdTold 16 = .ok (.iaload, 1) := dk_46 (by decide +kernel)
theorem dX10_crowdTold_17 : decode cX10_crowdTold 17 = .ok (.if_icmp .ge 70, 3) := dk_162 (x := 0) (y := 70) (by decide +kernel) rfl
theorem dX10_crowdTold_20 : decode cX10_crowdTold 20 = .ok (.aload_n 0, 1) := dk_42 (by decide +kernel)
theorem dX10_crowdTold_21 : decode cX10_crowdTold 21 = .ok (.iload 7, 2) := dk_21 (x := 7) (by decide +kernel)
theorem dX10_crowdTold_23 : decode cX10_crowdTold 23 = .ok (.iconst 0, 1) := dk_3 (by decide +kernel)
theorem dX10_crowdTold_24 : decode cX10_crowdTold 24 = .ok (.invokevirtual 193, 3) := dk_182 (x := 0) (y := 193) (by decide +kernel) rfl
theorem dX10_crowdTold_27 : decode cX10_crowdTold 27 = .ok (.aload_n 0, 1) := dk_42 (by decide +kernel)
theorem dX10_crowdTold_28 : decode cX10_crowdTold 28 = .ok (.getfield 28, 3) := dk_180 (x := 0) (y := 28) (by decide +kernel) rfl
theorem dX10_crowdTold_31 : decode cX10_crowdTold 31 = .ok (.iload 7, 2) := dk_21 (x := 7) (by decide +kernel)
theorem dX10_crowdTold_33 : decode cX10_crowdTold 33 = .ok (.iaload, 1) := dk_46 (by decide +kernel)
theorem dX10_crowdTold_34 : decode cX10_crowdTold 34 = .ok (.isub, 1) := dk_100 (by decide +kernel)
theorem dX10_crowdTold_35 : decode cX10_crowdTold 35 = .ok (.istore 8, 2) := dk_54 (x := 8) (by decide +kernel)
theorem dX10_crowdTold_37 : decode cX10_crowdTold 37 = .ok (.aload_n 0, 1) := dk_42 (by decide +kernel)
theorem dX10_crowdTold_38 : decode cX10_crowdTold 38 = .ok (.iload 7, 2) := dk_21 (x := 7) (by decide +kernel)
theorem dX10_crowdTold_40 : decode cX10_crowdTold 40 = .ok (.bipush 7, 2) := dk_16 (x := 7) (by decide +kernel) rfl
theorem dX10_crowdTold_42 : decode cX10_crowdTold 42 = .ok (.invokevirtual 93, 3) := dk_182 (x := 0) (y := 93) (by decide +kernel) rfl
theorem dX10_crowdTold_45 : decode cX10_crowdTold 45 = .ok (.ifCond .ne 20, 3) := dk_154 (x := 0) (y := 20) (by decide +kernel) rfl
theorem dX10_crowdTold_48 : decode cX10_crowdTold 48 = .ok (.iload 5, 2) := dk_21 (x := 5) (by decide +kernel)
theorem dX10_crowdTold_50 : decode cX10_crowdTold 50 = .ok (.iconst (-1), 1) := dk_2 (by decide +kernel)
theorem dX10_crowdTold_51 : decode cX10_crowdTold 51 = .ok (.if_icmp .eq 10, 3) := dk_159 (x := 0) (y := 10) (by decide +kernel) rfl
theorem dX10_crowdTold_54 : decode cX10_crowdTold 54 = .ok (.iload 8, 2) := dk_21 (x := 8) (by decide +kernel)
theorem dX10_crowdTold_56 : decode cX10_crowdTold 56 = .ok (.iload 5, 2) := dk_21 (x := 5) (by decide +kernel)
theorem dX10_crowdTold_58 : decode cX10_crowdTold 58 = .ok (.if_icmp .ge 7, 3) := dk_162 (x := 0) (y := 7) (by decide +kernel) rfl
theorem dX10_crowdTold_61 : decode cX10_crowdTold 61 = .ok (.iload 8, 2) := dk_21 (x := 8) (by decide +kernel)
theorem dX10_crowdTold_63 : decode cX10_crowdTold 63 = .ok (.istore 5, 2) := dk_54 (x := 5) (by decide +kernel)
theorem dX10_crowdTold_65 : decode cX10_crowdTold 65 = .ok (.iload 8, 2) := dk_21 (x := 8) (by decide +kernel)
theorem dX10_crowdTold_67 : decode cX10_crowdTold 67 = .ok (.iload 6, 2) := dk_21 (x := 6) (by decide +kernel)
theorem dX10_crowdTold_69 : decode cX10_crowdTold 69 = .ok (.if_icmp .le 8, 3) := dk_164 (x := 0) (y := 8) (by decide +kernel) rfl
theorem dX10_crowdTold_72 : decode cX10_crowdTold 72 = .ok (.iload 8, 2) := dk_21 (x := 8) (by decide +kernel)
theorem dX10_crowdTold_74 : decode cX10_crowdTold 74 = .ok (.goto 5, 3) := dk_167 (x := 0) (y := 5) (by decide +kernel) rfl
theorem dX10_crowdTold_77 : decode cX10_crowdTold 77 = .ok (.iload 6, 2) := dk_21 (x := 6) (by decide +kernel)
theorem dX10_crowdTold_79 : decode cX10_crowdTold 79 = .ok (.istore 6, 2) := dk_54 (x := 6) (by decide +kernel)
theorem dX10_crowdTold_81 : decode cX10_crowdTold 81 = .ok (.iinc 7 1, 3) := dk_132 (x := 7) (y := 1) (by decide +kernel) rfl
theorem dX10_crowdTold_84 : decode cX10_crowdTold 84 = .ok (.goto (-75), 3) := dk_167 (x := 255) (y := 181) (by decide +kernel) rfl
theorem dX10_crowdTold_87 : decode cX10_crowdTold 87 = .ok (.iload_n 1, 1) := dk_27 (by decide +kernel)
theorem dX10_crowdTold_88 : decode cX10_crowdTold 88 = .ok (.tableswitch 82 0 4 #[36, 47, 60, 63, 74], 36) := by decide +kernel
theorem dX10_crowdTold_124 : decode cX10_crowdTold 124 = .ok (.aload_n 0, 1) := dk_42 (by decide +kernel)
theorem dX10_crowdTold_125 : decode cX10_crowdTold 125 = .ok (.getfield 7, 3) := dk_180 (x := 0) (y := 7) (by decide +kernel) rfl
theorem dX10_crowdTold_128 : decode cX10_crowdTold 128 = .ok (.sipush 9851, 3) := dk_17 (x := 38) (y := 123) (by decide +kernel) rfl
theorem dX10_crowdTold_131 : decode cX10_crowdTold 131 = .ok (.iaload, 1) := dk_46 (by decide +kernel)
theorem dX10_crowdTold_132 : decode cX10_crowdTold 132 = .ok (.iload_n 2, 1) := dk_28 (by decide +kernel)
theorem dX10_crowdTold_133 : decode cX10_crowdTold 133 = .ok (.isub, 1) := dk_100 (by decide +kernel)
theorem dX10_crowdTold_134 : decode cX10_crowdTold 134 = .ok (.ireturn, 1) := dk_172 (by decide +kernel)
theorem dX10_crowdTold_135 : decode cX10_crowdTold 135 = .ok (.iload 5, 2) := dk_21 (x := 5) (by decide +kernel)
theorem dX10_crowdTold_137 : decode cX10_crowdTold 137 = .ok (.iconst (-1), 1) := dk_2 (by decide +kernel)
theorem dX10_crowdTold_138 : decode cX10_crowdTold 138 = .ok (.if_icmp .ne 7, 3) := dk_160 (x := 0) (y := 7) (by decide +kernel) rfl
theorem dX10_crowdTold_141 : decode cX10_crowdTold 141 = .ok (.iconst 0, 1) := dk_3 (by decide +kernel)
theorem dX10_crowdTold_142 : decode cX10_crowdTold 142 = .ok (.goto 5, 3) := dk_167 (x := 0) (y := 5) (by decide +kernel) rfl
theorem dX10_crowdTold_145 : decode cX10_crowdTold 145 = .ok (.iload 5, 2) := dk_21 (x := 5) (by decide +kernel)
theorem dX10_crowdTold_147 : decode cX10_crowdTold 147 = .ok (.ireturn, 1) := dk_172 (by decide +kernel)
theorem dX10_crowdTold_148 : decode cX10_crowdTold 148 = .ok (.iload 6, 2) := dk_21 (x := 6) (by decide +kernel)
theorem dX10_crowdTold_150 : decode cX10_crowdTold 150 = .ok (.ireturn, 1) := dk_172 (by decide +kernel)
theorem dX10_crowdTold_151 : decode cX10_crowdTold 151 = .ok (.aload_n 0, 1) := dk_42 (by decide +kernel)
theorem dX10_crowdTold_152 : decode cX10_crowdTold 152 = .ok (.getfield 7, 3) := dk_180 (x := 0) (y := 7) (by decide +kernel) rfl
theorem dX10_crowdTold_155 : decode cX10_crowdTold 155 = .ok (.sipush 9853, 3) := dk_17 (x := 38) (y := 125) (by decide +kernel) rfl
theorem dX10_crowdTold_158 : decode cX10_crowdTold 158 = .ok (.iaload, 1) := dk_46 (by decide +kernel)
theorem dX10_crowdTold_159 : decode cX10_crowdTold 159 = .ok (.iload_n 3, 1) := dk_29 (by decide +kernel)
theorem dX10_crowdTold_160 : decode cX10_crowdTold 160 = .ok (.isub, 1) := dk_100 (by decide +kernel)
theorem dX10_crowdTold_161 : decode cX10_crowdTold 161 = .ok (.ireturn, 1) := dk_172 (by decide +kernel)
theorem dX10_crowdTold_162 : decode cX10_crowdTold 162 = .ok (.aload_n 0, 1) := dk_42 (by decide +kernel)
theorem dX10_crowdTold_163 : decode cX10_crowdTold 163 = .ok (.invokevirtual 295, 3) := dk_182 (x := 1) (y := 39) (by decide +kernel) rfl
theorem dX10_crowdTold_166 : decode cX10_crowdTold 166 = .ok (.iload 4, 2) := dk_21 (x := 4) (by decide +kernel)
theorem dX10_crowdTold_168 : decode cX10_crowdTold 168 = .ok (.isub, 1) := dk_100 (by decide +kernel)
theorem dX10_crowdTold_169 : decode cX10_crowdTold 169 = .ok (.ireturn, 1) := dk_172 (by decide +kernel)
theorem dX10_crowdTold_170 : decode cX10_crowdTold 170 = .ok (.aload_n 0, 1) := dk_42 (by decide +kernel)
theorem dX10_crowdTold_171 : decode cX10_crowdTold 171 = .ok (.getfield 7, 3) := dk_180 (x := 0) (y := 7) (by decide +kernel) rfl
theorem dX10_crowdTold_174 : decode cX10_crowdTold 174 = .ok (.sipush 9855, 3) := dk_17 (x := 38) (y := 127) (by decide +kernel) rfl
theorem dX10_crowdTold_177 : decode cX10_crowdTold 177 = .ok (.iaload, 1) := dk_46 (by decide +kernel)
theorem dX10_crowdTold_178 : decode cX10_crowdTold 178 = .ok (.ireturn, 1) := dk_172 (by decide +kernel)
def f_X10_crowdTold_65 (k_9 : Nat → Int32 → Int32 → Int32 → Int32 → Int32 → Int32 → Int32 → Option Int32) (M : Mem) (n : Nat) (v0 : Nat) (v1 : Int32) (v2 : Int32) (v3 : Int32) (v4 : Int32) (v5 : Int32) (v6 : Int32) (v7 : Int32) (v8 : Int32) : Option Int32 :=
    if v8 ≤ v6 then (
      bnd (v7 + (1 : Int32)) fun x3 =>
      k_9 v0 v1 v2 v3 v4 v5 v6 x3
      ) else (
      bnd (v7 + (1 : Int32)) fun x5 =>
      k_9 v0 v1 v2 v3 v4 v5 v8 x5
      )
def f_X10_crowdTold_9 (M : Mem) : Nat → Nat → Int32 → Int32 → Int32 → Int32 → Int32 → Int32 → Int32 → Option Int32
  | 0, _, _, _, _, _, _, _, _ => none
  | n + 1, v0, v1, v2, v3, v4, v5, v6, v7 =>
    chk (isO M 10 v0) <|
    bnd (mR M v0 0) fun o2 =>
    chk (isO M 100 o2) <|
    chk (inB (0 : Int32) (mLn M o2)) <|
    if (mI M o2 ((0 : Int32)).toNatClampNeg) ≤ v7 then (
      if v1 = (0 : Int32) then (
        bnd (mR M v0 0) fun o10 =>
        chk (isO M 100 o10) <|
        chk (inB (9851 : Int32) (mLn M o10)) <|
        some ((mI M o10 ((9851 : Int32)).toNatClampNeg) - v2)
        ) else (
      if v1 = (1 : Int32) then (
        if v5 = (-1 : Int32) then (
          some (0 : Int32)
          ) else (
          some v5
          )
        ) else (
      if v1 = (2 : Int32) then (
        some v6
        ) else (
      if v1 = (3 : Int32) then (
        bnd (mR M v0 0) fun o22 =>
        chk (isO M 100 o22) <|
        chk (inB (9853 : Int32) (mLn M o22)) <|
        some ((mI M o22 ((9853 : Int32)).toNatClampNeg) - v3)
        ) else (
      if v1 = (4 : Int32) then (
        obd (f_X10_sentAll n v0 M) fun r29 =>
        some (r29 - v4)
        ) else (
      bnd (mR M v0 0) fun o30 =>
      chk (isO M 100 o30) <|
      chk (inB (9855 : Int32) (mLn M o30)) <|
      some (mI M o30 ((9855 : Int32)).toNatClampNeg)
      )
      )
      )
      )
      )
      ) else (
      obd (f_X10_countOf v0 v7 (0 : Int32) M) fun r35 =>
      bnd (mR M v0 10) fun o36 =>
      chk (isO M 100 o36) <|
      chk (inB v7 (mLn M o36)) <|
      bnd (r35 - (mI M o36 (v7).toNatClampNeg)) fun x40 =>
      obd (f_X10_get v0 v7 (7 : Int32) M) fun r43 =>
      if r43 = 0 then (
        if v5 = (-1 : Int32) then (
          f_X10_crowdTold_65 (f_X10_crowdTold_9 M n) M n v0 v1 v2 v3 v4 x40 v6 v7 x40
          ) else (
          if v5 ≤ x40 then (
            f_X10_crowdTold_65 (f_X10_crowdTold_9 M n) M n v0 v1 v2 v3 v4 v5 v6 v7 x40
            ) else (
            f_X10_crowdTold_65 (f_X10_crowdTold_9 M n) M n v0 v1 v2 v3 v4 x40 v6 v7 x40
            )
          )
        ) else (
        f_X10_crowdTold_65 (f_X10_crowdTold_9 M n) M n v0 v1 v2 v3 v4 v5 v6 v7 x40
        )
      )
def f_X10_crowdTold (n : Nat) (o : Nat) (a1 : Int32) (a2 : Int32) (a3 : Int32) (a4 : Int32) (M : Mem) : Option Int32 :=
  f_X10_crowdTold_9 M n o a1 a2 a3 a4 (-1 : Int32) (0 : Int32) (0 : Int32)
theorem cd_X10_crowdTold : (yX10_crowdTold.cls ≠ "java/lang/invoke/MethodHandle" ∧ yX10_crowdTold.cls ≠ "java/lang/invoke/VarHandle") ∧ (parseMethodDescriptor yX10_crowdTold.desc).map (fun d => d.parameters.length) = some 4 := ⟨⟨by decide +kernel, by decide +kernel⟩, by decide +kernel⟩
section
variable {p : Program} {l : Launch} {e : Env} {R : Room} {s : State} {m : MethodId} {args : Array Value} {below : List Frame} {meth : Method} {c : Code} {G : Gam} {M0 : Mem}
theorem l_X10_crowdTold_65 {k_9 : Nat → Int32 → Int32 → Int32 → Int32 → Int32 → Int32 → Int32 → Option Int32} {M : Mem} {rv : Int32} {n : Nat} {v0 : Nat} {v1 : Int32} {v2 : Int32} {v3 : Int32} {v4 : Int32} {v5 : Int32} {v6 : Int32} {v7 : Int32} {v8 : Int32} (X : Cx p R s m args c G M0 cX10_crowdTold yX10_crowdTold.cls 9 1 22) (hr : meth.sig.returnType = (some .int)) (hlk : meth.locks = false) (hnm : meth.name = "crowdTold") (hk_9 : ∀ (v0 : Nat), ∀ (v1 : Int32), ∀ (v2 : Int32), ∀ (v3 : Int32), ∀ (v4 : Int32), ∀ (v5 : Int32), ∀ (v6 : Int32), ∀ (v7 : Int32), k_9 v0 v1 v2 v3 v4 v5 v6 v7 = some rv → Sg p l e R s m args below meth c (Qm below G args s (some (.int rv)) M0 M) G M0 9 9 [(0, .ref (gB G + v0)), (1, .int v1), (2, .int v2), (3, .int v3), (4, .int v4), (5, .int v5), (6, .int v6), (7, .int v7)] [] M) (hf : f_X10_crowdTold_65 k_9 M n v0 v1 v2 v3 v4 v5 v6 v7 v8 = some rv) : Sg p l e R s m args below meth c (Qm below G args s (some (.int rv)) M0 M) G M0 9 65 [(0, .ref (gB G + v0)), (1, .int v1), (2, .int v2), (3, .int v3), (4, .int v4), (5, .int v5), (6, .int v6), (7, .int v7), (8, .int v8)] [] M := by
  rw [f_X10_crowdTold_65] at hf
  refine s_iload X 8 dX10_crowdTold_65 rfl ?_
  refine s_iload X 6 dX10_crowdTold_67 rfl ?_
  have hs1 := pk_ite hf
  clear hf
  refine s_icmp_le X (tgt := 77) dX10_crowdTold_69 rfl (fun c2 => ?_) (fun c2 => ?_)
  · have hf := hs1.1 c2
    refine s_iload X 6 dX10_crowdTold_77 rfl ?_
    refine s_istore X (vs' := [(0, .ref (gB G + v0)), (1, .int v1), (2, .int v2), (3, .int v3), (4, .int v4), (5, .int v5), (6, .int v6), (7, .int v7), (8, .int v8)]) dX10_crowdTold_79 (Nat.le_of_ble_eq_true rfl) [1, 2, 3, 4, 5, 6, 0, 7, 8] rfl ?_
    obtain ⟨x3, e4, hf⟩ := pk_bnd hf
    refine s_iinc X (vs' := [(0, .ref (gB G + v0)), (1, .int v1), (2, .int v2), (3, .int v3), (4, .int v4), (5, .int v5), (6, .int v6), (7, .int x3), (8, .int v8)]) 7 dX10_crowdTold_81 rfl (v := x3) e4.symm (Nat.le_of_ble_eq_true rfl) [1, 2, 3, 4, 5, 6, 7, 0, 8] rfl ?_
    refine s_goto X (tgt := 9) dX10_crowdTold_84 rfl ?_
    refine s_drop [0, 1, 2, 3, 4, 5, 6, 7] (vs' := [(0, .ref (gB G + v0)), (1, .int v1), (2, .int v2), (3, .int v3), (4, .int v4), (5, .int v5), (6, .int v6), (7, .int x3)]) rfl ?_
    exact hk_9 _ _ _ _ _ _ _ _ hf
  · have hf := hs1.2 c2
    refine s_iload X 8 dX10_crowdTold_72 rfl ?_
    refine s_goto X (tgt := 79) dX10_crowdTold_74 rfl ?_
    refine s_istore X (vs' := [(0, .ref (gB G + v0)), (1, .int v1), (2, .int v2), (3, .int v3), (4, .int v4), (5, .int v5), (6, .int v8), (7, .int v7), (8, .int v8)]) dX10_crowdTold_79 (Nat.le_of_ble_eq_true rfl) [1, 2, 3, 4, 5, 6, 0, 7, 8] rfl ?_
    obtain ⟨x5, e6, hf⟩ := pk_bnd hf
    refine s_iinc X (vs' := [(0, .ref (gB G + v0)), (1, .int v1), (2, .int v2), (3, .int v3), (4, .int v4), (5, .int v5), (6, .int v8), (7, .int x5), (8, .int v8)]) 7 dX10_crowdTold_81 rfl (v := x5) e6.symm (Nat.le_of_ble_eq_true rfl) [1, 2, 3, 4, 5, 6, 7, 0, 8] rfl ?_
    refine s_goto X (tgt := 9) dX10_crowdTold_84 rfl ?_
    refine s_drop [0, 1, 2, 3, 4, 5, 6, 7] (vs' := [(0, .ref (gB G + v0)), (1, .int v1), (2, .int v2), (3, .int v3), (4, .int v4), (5, .int v5), (6, .int v8), (7, .int x5)]) rfl ?_
    exact hk_9 _ _ _ _ _ _ _ _ hf
theorem l_X10_crowdTold_9 {M : Mem} {rv : Int32} (X : Cx p R s m args c G M0 cX10_crowdTold yX10_crowdTold.cls 9 1 22) (hr : meth.sig.returnType = (some .int)) (hlk : meth.locks = false) (hnm : meth.name = "crowdTold") : ∀ {n : Nat} (v0 : Nat) (v1 : Int32) (v2 : Int32) (v3 : Int32) (v4 : Int32) (v5 : Int32) (v6 : Int32) (v7 : Int32), f_X10_crowdTold_9 M n v0 v1 v2 v3 v4 v5 v6 v7 = some rv → Sg p l e R s m args below meth c (Qm below G args s (some (.int rv)) M0 M) G M0 9 9 [(0, .ref (gB G + v0)), (1, .int v1), (2, .int v2), (3, .int v3), (4, .int v4), (5, .int v5), (6, .int v6), (7, .int v7)] [] M := by
  intro n
  induction n with
  | zero => intro v0 v1 v2 v3 v4 v5 v6 v7 hf; exact (pk_none hf).elim
  | succ n ih =>
    intro v0 v1 v2 v3 v4 v5 v6 v7 hf
    rw [f_X10_crowdTold_9] at hf
    refine s_iload X 7 dX10_crowdTold_9 rfl ?_
    refine s_aload_n X 0 dX10_crowdTold_11 rfl rfl ?_
    obtain ⟨h1, hf⟩ := pk_chk hf
    obtain ⟨o2, e3, hf⟩ := pk_bnd hf
    obtain ⟨h4, hf⟩ := pk_chk hf
    refine s_getR X (ci := 10) (k := 0) rfl (Nat.le_of_ble_eq_true rfl) h1 wd1440 (fun _ _ _ => rfl) (e3 ▸ h4) dX10_crowdTold_12 (e3 ▸ ?_)
    refine s_iconst X (v := (0 : Int32)) dX10_crowdTold_15 rfl ?_
    obtain ⟨h5, hf⟩ := pk_chk hf
    refine s_iald X h4 h5 dX10_crowdTold_16 ?_
    have hs6 := pk_ite hf
    clear hf
    refine s_icmp_ge X (tgt := 87) dX10_crowdTold_17 rfl (fun c7 => ?_) (fun c7 => ?_)
    · have hf := hs6.1 c7
      refine s_iload_n X 1 dX10_crowdTold_87 rfl rfl ?_
      have hs8 := pk_ite hf
      clear hf
      by_cases c9 : v1 = (0 : Int32)
      · have hf := hs8.1 c9
        refine s_swC X (v := (0 : Int32)) (tgt := 124) dX10_crowdTold_88 c9 (by decide) (by decide) rfl rfl ?_
        refine s_aload_n X 0 dX10_crowdTold_124 rfl rfl ?_
        obtain ⟨o10, e11, hf⟩ := pk_bnd hf
        obtain ⟨h12, hf⟩ := pk_chk hf
        refine s_getR X (ci := 10) (k := 0) rfl (Nat.le_of_ble_eq_true rfl) h1 wd1440 (fun _ _ _ => rfl) (e11 ▸ h12) dX10_crowdTold_125 (e11 ▸ ?_)
        refine s_sipush X (v := (9851 : Int32)) dX10_crowdTold_128 rfl ?_
        obtain ⟨h13, hf⟩ := pk_chk hf
        refine s_iald X h12 h13 dX10_crowdTold_131 ?_
        refine s_iload_n X 2 dX10_crowdTold_132 rfl rfl ?_
        refine s_isub X dX10_crowdTold_133 ?_
        cases hf
        exact s_iret X hr hlk dX10_crowdTold_134
      have hf := hs8.2 c9
      have hs14 := pk_ite hf
      clear hf
      by_cases c15 : v1 = (1 : Int32)
      · have hf := hs14.1 c15
        refine s_swC X (v := (1 : Int32)) (tgt := 135) dX10_crowdTold_88 c15 (by decide) (by decide) rfl rfl ?_
        refine s_iload X 5 dX10_crowdTold_135 rfl ?_
        refine s_iconst X (v := (-1 : Int32)) dX10_crowdTold_137 rfl ?_
        have hs16 := pk_ite hf
        clear hf
        refine s_icmp_ne X (tgt := 145) dX10_crowdTold_138 rfl (fun c17 => ?_) (fun c17 => ?_)
        · have hf := hs16.2 c17
          refine s_iload X 5 dX10_crowdTold_145 rfl ?_
          cases hf
          exact s_iret X hr hlk dX10_crowdTold_147
        · have hf := hs16.1 c17
          refine s_iconst X (v := (0 : Int32)) dX10_crowdTold_141 rfl ?_
          refine s_goto X (tgt := 147) dX10_crowdTold_142 rfl ?_
          cases hf
          exact s_iret X hr hlk dX10_crowdTold_147
      have hf := hs14.2 c15
      have hs18 := pk_ite hf
      clear hf
      by_cases c19 : v1 = (2 : Int32)
      · have hf := hs18.1 c19
        refine s_swC X (v := (2 : Int32)) (tgt := 148) dX10_crowdTold_88 c19 (by decide) (by decide) rfl rfl ?_
        refine s_iload X 6 dX10_crowdTold_148 rfl ?_
        cases hf
        exact s_iret X hr hlk dX10_crowdTold_150
      have hf := hs18.2 c19
      have hs20 := pk_ite hf
      clear hf
      by_cases c21 : v1 = (3 : Int32)
      · have hf := hs20.1 c21
        refine s_swC X (v := (3 : Int32)) (tgt := 151) dX10_crowdTold_88 c21 (by decide) (by decide) rfl rfl ?_
        refine s_aload_n X 0 dX10_crowdTold_151 rfl rfl ?_
        obtain ⟨o22, e23, hf⟩ := pk_bnd hf
        obtain ⟨h24, hf⟩ := pk_chk hf
        refine s_getR X (ci := 10) (k := 0) rfl (Nat.le_of_ble_eq_true rfl) h1 wd1440 (fun _ _ _ => rfl) (e23 ▸ h24) dX10_crowdTold_152 (e23 ▸ ?_)
        refine s_sipush X (v := (9853 : Int32)) dX10_crowdTold_155 rfl ?_
        obtain ⟨h25, hf⟩ := pk_chk hf
        refine s_iald X h24 h25 dX10_crowdTold_158 ?_
        refine s_iload_n X 3 dX10_crowdTold_159 rfl rfl ?_
        refine s_isub X dX10_crowdTold_160 ?_
        cases hf
        exact s_iret X hr hlk dX10_crowdTold_161
      have hf := hs20.2 c21
      have hs26 := pk_ite hf
      clear hf
      by_cases c27 : v1 = (4 : Int32)
      · have hf := hs26.1 c27
        refine s_swC X (v := (4 : Int32)) (tgt := 162) dX10_crowdTold_88 c27 (by decide) (by decide) rfl rfl ?_
        refine s_aload_n X 0 dX10_crowdTold_162 rfl rfl ?_
        obtain ⟨r29, hc28, hf⟩ := pk_obd hf
        refine s_callV X (ci := 10) (k_X10_sentAll G hc28) rfl h1 wd1922 wd1924 wd106 wd1925 wd138 cd_X10_sentAll ⟨Nat.le_of_ble_eq_true rfl, Nat.le_of_ble_eq_true rfl⟩ (Nat.le_of_ble_eq_true rfl) dX10_crowdTold_163 ?_
        refine s_iload X 4 dX10_crowdTold_166 rfl ?_
        refine s_isub X dX10_crowdTold_168 ?_
        cases hf
        exact s_iret X hr hlk dX10_crowdTold_169
      have hf := hs26.2 c27
      refine s_swOut X (tgt := 170) dX10_crowdTold_88 (by have := sw_ne (v := (0 : Int32)) (z := 0) c9 (by decide); have := sw_ne (v := (1 : Int32)) (z := 1) c15 (by decide); have := sw_ne (v := (2 : Int32)) (z := 2) c19 (by decide); have := sw_ne (v := (3 : Int32)) (z := 3) c21 (by decide); have := sw_ne (v := (4 : Int32)) (z := 4) c27 (by decide); omega) rfl ?_
      refine s_aload_n X 0 dX10_crowdTold_170 rfl rfl ?_
      obtain ⟨o30, e31, hf⟩ := pk_bnd hf
      obtain ⟨h32, hf⟩ := pk_chk hf
      refine s_getR X (ci := 10) (k := 0) rfl (Nat.le_of_ble_eq_true rfl) h1 wd1440 (fun _ _ _ => rfl) (e31 ▸ h32) dX10_crowdTold_171 (e31 ▸ ?_)
      refine s_sipush X (v := (9855 : Int32)) dX10_crowdTold_174 rfl ?_
      obtain ⟨h33, hf⟩ := pk_chk hf
      refine s_iald X h32 h33 dX10_crowdTold_177 ?_
      cases hf
      exact s_iret X hr hlk dX10_crowdTold_178
    · have hf := hs6.2 c7
      refine s_aload_n X 0 dX10_crowdTold_20 rfl rfl ?_
      refine s_iload X 7 dX10_crowdTold_21 rfl ?_
      refine s_iconst X (v := (0 : Int32)) dX10_crowdTold_23 rfl ?_
      obtain ⟨r35, hc34, hf⟩ := pk_obd hf
      refine s_callV X (ci := 10) (k_X10_countOf G hc34) rfl h1 wd1822 wd1824 wd92 wd1825 wd138 cd_X10_countOf ⟨Nat.le_of_ble_eq_true rfl, Nat.le_of_ble_eq_true rfl⟩ (Nat.le_of_ble_eq_true rfl) dX10_crowdTold_24 ?_
      refine s_aload_n X 0 dX10_crowdTold_27 rfl rfl ?_
      obtain ⟨o36, e37, hf⟩ := pk_bnd hf
      obtain ⟨h38, hf⟩ := pk_chk hf
      refine s_getR X (ci := 10) (k := 10) rfl (Nat.le_of_ble_eq_true rfl) h1 wd1450 (fun _ _ _ => rfl) (e37 ▸ h38) dX10_crowdTold_28 (e37 ▸ ?_)
      refine s_iload X 7 dX10_crowdTold_31 rfl ?_
      obtain ⟨h39, hf⟩ := pk_chk hf
      refine s_iald X h38 h39 dX10_crowdTold_33 ?_
      refine s_isub X dX10_crowdTold_34 ?_
      obtain ⟨x40, e41, hf⟩ := pk_bnd hf
      refine s_nmI e41 ?_
      refine s_istore X (vs' := [(0, .ref (gB G + v0)), (1, .int v1), (2, .int v2), (3, .int v3), (4, .int v4), (5, .int v5), (6, .int v6), (7, .int v7), (8, .int x40)]) dX10_crowdTold_35 (Nat.le_of_ble_eq_true rfl) [1, 2, 3, 4, 5, 6, 7, 8, 0] rfl ?_
      refine s_aload_n X 0 dX10_crowdTold_37 rfl rfl ?_
      refine s_iload X 7 dX10_crowdTold_38 rfl ?_
      refine s_bipush X (v := (7 : Int32)) dX10_crowdTold_40 rfl ?_
      obtain ⟨r43, hc42, hf⟩ := pk_obd hf
      refine s_callV X (ci := 10) (k_X10_get G hc42) rfl h1 wd1588 wd1590 wd57 wd1591 wd138 cd_X10_get ⟨Nat.le_of_ble_eq_true rfl, Nat.le_of_ble_eq_true rfl⟩ (Nat.le_of_ble_eq_true rfl) dX10_crowdTold_42 ?_
      have hs44 := pk_ite hf
      clear hf
      refine s_if_ne X (tgt := 65) dX10_crowdTold_45 rfl (fun c45 => ?_) (fun c45 => ?_)
      · have hf := hs44.2 c45
        exact l_X10_crowdTold_65 X hr hlk hnm ih hf
      · have hf := hs44.1 c45
        refine s_iload X 5 dX10_crowdTold_48 rfl ?_
        refine s_iconst X (v := (-1 : Int32)) dX10_crowdTold_50 rfl ?_
        have hs46 := pk_ite hf
        clear hf
        refine s_icmp_eq X (tgt := 61) dX10_crowdTold_51 rfl (fun c47 => ?_) (fun c47 => ?_)
        · have hf := hs46.1 c47
          refine s_iload X 8 dX10_crowdTold_61 rfl ?_
          refine s_istore X (vs' := [(0, .ref (gB G + v0)), (1, .int v1), (2, .int v2), (3, .int v3), (4, .int v4), (5, .int x40), (6, .int v6), (7, .int v7), (8, .int x40)]) dX10_crowdTold_63 (Nat.le_of_ble_eq_true rfl) [1, 2, 3, 4, 5, 0, 6, 7, 8] rfl ?_
          exact l_X10_crowdTold_65 X hr hlk hnm ih hf
        · have hf := hs46.2 c47
          refine s_iload X 8 dX10_crowdTold_54 rfl ?_
          refine s_iload X 5 dX10_crowdTold_56 rfl ?_
          have hs48 := pk_ite hf
          clear hf
          refine s_icmp_ge X (tgt := 65) dX10_crowdTold_58 rfl (fun c49 => ?_) (fun c49 => ?_)
          · have hf := hs48.1 c49
            exact l_X10_crowdTold_65 X hr hlk hnm ih hf
          · have hf := hs48.2 c49
            refine s_iload X 8 dX10_crowdTold_61 rfl ?_
            refine s_istore X (vs' := [(0, .ref (gB G + v0)), (1, .int v1), (2, .int v2), (3, .int v3), (4, .int v4), (5, .int x40), (6, .int v6), (7, .int v7), (8, .int x40)]) dX10_crowdTold_63 (Nat.le_of_ble_eq_true rfl) [1, 2, 3, 4, 5, 0, 6, 7, 8] rfl ?_
            exact l_X10_crowdTold_65 X hr hlk hnm ih hf
end
theorem k_X10_crowdTold (G : Gam) {n : Nat} {o : Nat} {a1 : Int32} {a2 : Int32} {a3 : Int32} {a4 : Int32} {M : Mem} {rv : Int32} (hf : f_X10_crowdTold n o a1 a2 a3 a4 M = some rv) : Kt yX10_crowdTold cX10_crowdTold 9 (some .int) 1 22 G [.ref (gB G + o), .int a1, .int a2, .int a3, .int a4] M M (some (.int rv)) := by
  refine Kt.of (by decide) (Nat.le_of_ble_eq_true rfl) ?_
  intro p l e R s m args below meth c X hr hlk hnm
  refine s_drop [0, 1, 2, 3, 4] (vs' := [(0, .ref (gB G + o)), (1, .int a1), (2, .int a2), (3, .int a3), (4, .int a4)]) rfl ?_
  rw [f_X10_crowdTold] at hf
  refine s_iconst X (v := (-1 : Int32)) dX10_crowdTold_0 rfl ?_
  refine s_istore X (vs' := [(0, .ref (gB G + o)), (1, .int a1), (2, .int a2), (3, .int a3), (4, .int a4), (5, .int (-1 : Int32))]) dX10_crowdTold_1 (Nat.le_of_ble_eq_true rfl) [1, 2, 3, 4, 5, 0] rfl ?_
  refine s_iconst X (v := (0 : Int32)) dX10_crowdTold_3 rfl ?_
  refine s_istore X (vs' := [(0, .ref (gB G + o)), (1, .int a1), (2, .int a2), (3, .int a3), (4, .int a4), (5, .int (-1 : Int32)), (6, .int (0 : Int32))]) dX10_crowdTold_4 (Nat.le_of_ble_eq_true rfl) [1, 2, 3, 4, 5, 6, 0] rfl ?_
  refine s_iconst X (v := (0 : Int32)) dX10_crowdTold_6 rfl ?_
  refine s_istore X (vs' := [(0, .ref (gB G + o)), (1, .int a1), (2, .int a2), (3, .int a3), (4, .int a4), (5, .int (-1 : Int32)), (6, .int (0 : Int32)), (7, .int (0 : Int32))]) dX10_crowdTold_7 (Nat.le_of_ble_eq_true rfl) [1, 2, 3, 4, 5, 6, 7, 0] rfl ?_
  exact l_X10_crowdTold_9 X hr hlk hnm _ _ _ _ _ _ _ _ hf
theorem dX10_crowd_0 : decode cX10_crowd 0 = .ok (.iload_n 1, 1) := dk_27 (by decide +kernel)
theorem dX10_crowd_1 : decode cX10_crowd 1 = .ok (.ifCond .lt 23, 3) := dk_155 (x := 0) (y := 23) (by decide +kernel) rfl
theorem dX10_crowd_4 : decode cX10_crowd 4 = .ok (.iload_n 2, 1) := dk_28 (by decide +kernel)
theorem dX10_crowd_5 : decode cX10_crowd 5 = .ok (.iconst 0, 1) := dk_3 (by decide +kernel)
theorem dX10_crowd_6 : decode cX10_crowd 6 = .ok (.sipush 500, 3) := dk_17 (x := 1) (y := 244) (by decide +kernel) rfl
theorem dX10_crowd_9 : decode cX10_crowd 9 = .ok (.invokestatic 49, 3) := dk_184 (x := 0) (y := 49) (by decide +kernel) rfl
theorem dX10_crowd_12 : decode cX10_crowd 12 = .ok (.ifCond .eq 12, 3) := dk_153 (x := 0) (y := 12) (by decide +kernel) rfl
theorem dX10_crowd_15 : decode cX10_crowd 15 = .ok (.iload_n 3, 1) := dk_29 (by decide +kernel)
theorem dX10_crowd_16 : decode cX10_crowd 16 = .ok (.iconst 0, 1) := dk_3 (by decide +kernel)
theorem dX10_crowd_17 : decode cX10_crowd 17 = .ok (.iconst 5, 1) := dk_8 (by decide +kernel)
theorem dX10_crowd_18 : decode cX10_crowd 18 = .ok (.invokestatic 49, 3) := dk_184 (x := 0) (y := 49) (by decide +kernel) rfl
theorem dX10_crowd_21 : decode cX10_crowd 21 = .ok (.ifCond .ne 5, 3) := dk_154 (x := 0) (y := 5) (by decide +kernel) rfl
theorem dX10_crowd_24 : decode cX10_crowd 24 = .ok (.iconst (-1), 1) := dk_2 (by decide +kernel)
theorem dX10_crowd_25 : decode cX10_crowd 25 = .ok (.ireturn, 1) := dk_172 (by decide +kernel)
theorem dX10_crowd_26 : decode cX10_crowd 26 = .ok (.aload_n 0, 1) := dk_42 (by decide +kernel)
theorem dX10_crowd_27 : decode cX10_crowd 27 = .ok (.invokevirtual 320, 3) := dk_182 (x := 1) (y := 64) (by decide +kernel) rfl
theorem dX10_crowd_30 : decode cX10_crowd 30 = .ok (.aload_n 0, 1) := dk_42 (by decide +kernel)
theorem dX10_crowd_31 : decode cX10_crowd 31 = .ok (.getfield 7, 3) := dk_180 (x := 0) (y := 7) (by decide +kernel) rfl
theorem dX10_crowd_34 : decode cX10_crowd 34 = .ok (.sipush 9851, 3) := dk_17 (x := 38) (y := 123) (by decide +kernel) rfl
theorem dX10_crowd_37 : decode cX10_crowd 37 = .ok (.iaload, 1) := dk_46 (by decide +kernel)
theorem dX10_crowd_38 : decode cX10_crowd 38 = .ok (.istore 4, 2) := dk_54 (x := 4) (by decide +kernel)
theorem dX10_crowd_40 : decode cX10_crowd 40 = .ok (.aload_n 0, 1) := dk_42 (by decide +kernel)
theorem dX10_crowd_41 : decode cX10_crowd 41 = .ok (.getfield 7, 3) := dk_180 (x := 0) (y := 7) (by decide +kernel) rfl
theorem dX10_crowd_44 : decode cX10_crowd 44 = .ok (.sipush 9853, 3) := dk_17 (x := 38) (y := 125) (by decide +kernel) rfl
theorem dX10_crowd_47 : decode cX10_crowd 47 = .ok (.iaload, 1) := dk_46 (by decide +kernel)
theorem dX10_crowd_48 : decode cX10_crowd 48 = .ok (.istore 5, 2) := dk_54 (x := 5) (by decide +kernel)
theorem dX10_crowd_50 : decode cX10_crowd 50 = .ok (.aload_n 0, 1) := dk_42 (by decide +kernel)
theorem dX10_crowd_51 : decode cX10_crowd 51 = .ok (.invokevirtual 295, 3) := dk_182 (x := 1) (y := 39) (by decide +kernel) rfl
theorem dX10_crowd_54 : decode cX10_crowd 54 = .ok (.istore 6, 2) := dk_54 (x := 6) (by decide +kernel)
theorem dX10_crowd_56 : decode cX10_crowd 56 = .ok (.iconst 0, 1) := dk_3 (by decide +kernel)
theorem dX10_crowd_57 : decode cX10_crowd 57 = .ok (.istore 7, 2) := dk_54 (x := 7) (by decide +kernel)
theorem dX10_crowd_59 : decode cX10_crowd 59 = .ok (.iload 7, 2) := dk_21 (x := 7) (by decide +kernel)
theorem dX10_crowd_61 : decode cX10_crowd 61 = .ok (.aload_n 0, 1) := dk_42 (by decide +kernel)
theorem dX10_crowd_62 : decode cX10_crowd 62 = .ok (.getfield 7, 3) := dk_180 (x := 0) (y := 7) (by decide +kernel) rfl
theorem dX10_crowd_65 : decode cX10_crowd 65 = .ok (.iconst 0, 1) := dk_3 (by decide +kernel)
theorem dX10_crowd_66 : decode cX10_crowd 66 = .ok (.iaload, 1) := dk_46 (by decide +kernel)
theorem dX10_crowd_67 : decode cX10_crowd 67 = .ok (.if_icmp .ge 23, 3) := dk_162 (x := 0) (y := 23) (by decide +kernel) rfl
theorem dX10_crowd_70 : decode cX10_crowd 70 = .ok (.aload_n 0, 1) := dk_42 (by decide +kernel)
theorem dX10_crowd_71 : decode cX10_crowd 71 = .ok (.getfield 28, 3) := dk_180 (x := 0) (y := 28) (by decide +kernel) rfl
theorem dX10_crowd_74 : decode cX10_crowd 74 = .ok (.iload 7, 2) := dk_21 (x := 7) (by decide +kernel)
theorem dX10_crowd_76 : decode cX10_crowd 76 = .ok (.aload_n 0, 1) := dk_42 (by decide +kernel)
theorem dX10_crowd_77 : decode cX10_crowd 77 = .ok (.iload 7, 2) := dk_21 (x := 7) (by decide +kernel)
theorem dX10_crowd_79 : decode cX10_crowd 79 = .ok (.iconst 0, 1) := dk_3 (by decide +kernel)
theorem dX10_crowd_80 : decode cX10_crowd 80 = .ok (.invokevirtual 193, 3) := dk_182 (x := 0) (y := 193) (by decide +kernel) rfl
theorem dX10_crowd_83 : decode cX10_crowd 83 = .ok (.iastore, 1) := dk_79 (by decide +kernel)
theorem dX10_crowd_84 : decode cX10_crowd 84 = .ok (.iinc 7 1, 3) := dk_132 (x := 7) (y := 1) (by decide +kernel) rfl
theorem dX10_crowd_87 : decode cX10_crowd 87 = .ok (.goto (-28), 3) := dk_167 (x := 255) (y := 228) (by decide +kernel) rfl
theorem dX10_crowd_90 : decode cX10_crowd 90 = .ok (.aload_n 0, 1) := dk_42 (by decide +kernel)
theorem dX10_crowd_91 : decode cX10_crowd 91 = .ok (.iload_n 1, 1) := dk_27 (by decide +kernel)
theorem dX10_crowd_92 : decode cX10_crowd 92 = .ok (.i2l, 1) := dk_133 (by decide +kernel)
theorem dX10_crowd_93 : decode cX10_crowd 93 = .ok (.putfield 298, 3) := dk_181 (x := 1) (y := 42) (by decide +kernel) rfl
theorem dX10_crowd_96 : decode cX10_crowd 96 = .ok (.iconst 1, 1) := dk_4 (by decide +kernel)
theorem dX10_crowd_97 : decode cX10_crowd 97 = .ok (.istore 7, 2) := dk_54 (x := 7) (by decide +kernel)
theorem dX10_crowd_99 : decode cX10_crowd 99 = .ok (.iconst 0, 1) := dk_3 (by decide +kernel)
theorem dX10_crowd_100 : decode cX10_crowd 100 = .ok (.istore 8, 2) := dk_54 (x := 8) (by decide +kernel)
theorem dX10_crowd_102 : decode cX10_crowd 102 = .ok (.iload 8, 2) := dk_21 (x := 8) (by decide +kernel)
theorem dX10_crowd_104 : decode cX10_crowd 104 = .ok (.iload_n 2, 1) := dk_28 (by decide +kernel)
theorem dX10_crowd_105 : decode cX10_crowd 105 = .ok (.if_icmp .ge 24, 3) := dk_162 (x := 0) (y := 24) (by decide +kernel) rfl
theorem dX10_crowd_108 : decode cX10_crowd 108 = .ok (.iload 7, 2) := dk_21 (x := 7) (by decide +kernel)
theorem dX10_crowd_110 : decode cX10_crowd 110 = .ok (.ifCond .eq 19, 3) := dk_153 (x := 0) (y := 19) (by decide +kernel) rfl
theorem dX10_crowd_113 : decode cX10_crowd 113 = .ok (.aload_n 0, 1) := dk_42 (by decide +kernel)
theorem dX10_crowd_114 : decode cX10_crowd 114 = .ok (.invokevirtual 326, 3) := dk_182 (x := 1) (y := 70) (by decide +kernel) rfl
theorem dX10_crowd_117 : decode cX10_crowd 117 = .ok (.aload_n 0, 1) := dk_42 (by decide +kernel)
theorem dX10_crowd_118 : decode cX10_crowd 118 = .ok (.invokevirtual 316, 3) := dk_182 (x := 1) (y := 60) (by decide +kernel) rfl
theorem dX10_crowd_121 : decode cX10_crowd 121 = .ok (.istore 7, 2) := dk_54 (x := 7) (by decide +kernel)
theorem dX10_crowd_123 : decode cX10_crowd 123 = .ok (.iinc 8 1, 3) := dk_132 (x := 8) (y := 1) (by decide +kernel) rfl
theorem dX10_crowd_126 : decode cX10_crowd 126 = .ok (.goto (-24), 3) := dk_167 (x := 255) (y := 232) (by decide +kernel) rfl
theorem dX10_crowd_129 : decode cX10_crowd 129 = .ok (.aload_n 0, 1) := dk_42 (by decide +kernel)
theorem dX10_crowd_130 : decode cX10_crowd 130 = .ok (.iload_n 3, 1) := dk_29 (by decide +kernel)
theorem dX10_crowd_131 : decode cX10_crowd 131 = .ok (.iload 4, 2) := dk_21 (x := 4) (by decide +kernel)
theorem dX10_crowd_133 : decode cX10_crowd 133 = .ok (.iload 5, 2) := dk_21 (x := 5) (by decide +kernel)
theorem dX10_crowd_135 : decode cX10_crowd 135 = .ok (.iload 6, 2) := dk_21 (x := 6) (by decide +kernel)
theorem dX10_crowd_137 : decode cX10_crowd 137 = .ok (.invokevirtual 329, 3) := dk_182 (x := 1) (y := 73) (by decide +kernel) rfl
theorem dX10_crowd_140 : decode cX10_crowd 140 = .ok (.istore 8, 2) := dk_54 (x := 8) (by decide +kernel)
theorem dX10_crowd_142 : decode cX10_crowd 142 = .ok (.aload_n 0, 1) := dk_42 (by decide +kernel)
theorem dX10_crowd_143 : decode cX10_crowd 143 = .ok (.invokevirtual 323, 3) := dk_182 (x := 1) (y := 67) (by decide +kernel) rfl
theorem dX10_crowd_146 : decode cX10_crowd 146 = .ok (.iload 8, 2) := dk_21 (x := 8) (by decide +kernel)
theorem dX10_crowd_148 : decode cX10_crowd 148 = .ok (.ireturn, 1) := dk_172 (by decide +kernel)
def f_X10_crowd_129 (n : Nat) (v0 : Nat) (v3 : Int32) (v4 : Int32) (v5 : Int32) (v6 : Int32) (M : Mem) : Option (Int32 × Mem) :=
    chk (isO M 10 v0) <|
    obd (f_X10_crowdTold n v0 v3 v4 v5 v6 M) fun r3 =>
    obd (f_X10_bringBack n v0 M) fun M5 =>
    some (r3, M5)
def f_X10_crowd_102 : Nat → Nat → Int32 → Int32 → Int32 → Int32 → Int32 → Int32 → Int32 → Mem → Option (Int32 × Mem)
  | 0, _, _, _, _, _, _, _, _, _ => none
  | n + 1, v0, v2, v3, v4, v5, v6, v7, v8, M =>
    if v2 ≤ v8 then (
      f_X10_crowd_129 n v0 v3 v4 v5 v6 M
      ) else (
      if v7 = 0 then (
        f_X10_crowd_129 n v0 v3 v4 v5 v6 M
        ) else (
        chk (isO M 10 v0) <|
        obd (f_X10_askAll n v0 M) fun M7 =>
        chk (isO M7 10 v0) <|
        obd2 (f_X10_goOnce n v0 M7) fun r10 M11 =>
        bnd (v8 + (1 : Int32)) fun x12 =>
        f_X10_crowd_102 n v0 v2 v3 v4 v5 v6 r10 x12 M11
        )
      )
def f_X10_crowd_59 : Nat → Nat → Int32 → Int32 → Int32 → Int32 → Int32 → Int32 → Int32 → Mem → Option (Int32 × Mem)
  | 0, _, _, _, _, _, _, _, _, _ => none
  | n + 1, v0, v1, v2, v3, v4, v5, v6, v7, M =>
    chk (isO M 10 v0) <|
    bnd (mR M v0 0) fun o2 =>
    chk (isO M 100 o2) <|
    chk (inB (0 : Int32) (mLn M o2)) <|
    if (mI M o2 ((0 : Int32)).toNatClampNeg) ≤ v7 then (
      bnd (sL M v0 8 ((v1).toInt64)) fun M8 =>
      f_X10_crowd_102 n v0 v2 v3 v4 v5 v6 (1 : Int32) (0 : Int32) M8
      ) else (
      bnd (mR M v0 10) fun o12 =>
      chk (isO M 100 o12) <|
      obd (f_X10_countOf v0 v7 (0 : Int32) M) fun r16 =>
      chk (inB v7 (mLn M o12)) <|
      bnd (sI M o12 (v7).toNatClampNeg r16) fun M18 =>
      bnd (v7 + (1 : Int32)) fun x23 =>
      f_X10_crowd_59 n v0 v1 v2 v3 v4 v5 v6 x23 M18
      )
def f_X10_crowd (n : Nat) (o : Nat) (a1 : Int32) (a2 : Int32) (a3 : Int32) (M : Mem) : Option (Int32 × Mem) :=
  if a1 < 0 then (
    some ((-1 : Int32), M)
    ) else (
    obd (f_X10_isIn a2 (0 : Int32) (500 : Int32) M) fun r4 =>
    if r4 = 0 then (
      some ((-1 : Int32), M)
      ) else (
      obd (f_X10_isIn a3 (0 : Int32) (5 : Int32) M) fun r8 =>
      if r8 = 0 then (
        some ((-1 : Int32), M)
        ) else (
        chk (isO M 10 o) <|
        obd (f_X10_putAside n o M) fun M13 =>
        chk (isO M13 10 o) <|
        bnd (mR M13 o 0) fun o15 =>
        chk (isO M13 100 o15) <|
        chk (inB (9851 : Int32) (mLn M13 o15)) <|
        bnd (mI M13 o15 ((9851 : Int32)).toNatClampNeg) fun x19 =>
        bnd (mR M13 o 0) fun o21 =>
        chk (isO M13 100 o21) <|
        chk (inB (9853 : Int32) (mLn M13 o21)) <|
        bnd (mI M13 o21 ((9853 : Int32)).toNatClampNeg) fun x25 =>
        obd (f_X10_sentAll n o M13) fun r28 =>
        f_X10_crowd_59 n o a1 a2 a3 x19 x25 r28 (0 : Int32) M13
        )
      )
    )
theorem cd_X10_crowd : (yX10_crowd.cls ≠ "java/lang/invoke/MethodHandle" ∧ yX10_crowd.cls ≠ "java/lang/invoke/VarHandle") ∧ (parseMethodDescriptor yX10_crowd.desc).map (fun d => d.parameters.length) = some 3 := ⟨⟨by decide +kernel, by decide +kernel⟩, by decide +kernel⟩
section
variable {p : Program} {l : Launch} {e : Env} {R : Room} {s : State} {m : MethodId} {args : Array Value} {below : List Frame} {meth : Method} {c : Code} {G : Gam} {M0 : Mem}
theorem l_X10_crowd_129 {rv : (Int32 × Mem)} {n : Nat} {v0 : Nat} {v3 : Int32} {v4 : Int32} {v5 : Int32} {v6 : Int32} {M : Mem} (X : Cx p R s m args c G M0 cX10_crowd yX10_crowd.cls 9 9 207) (hr : meth.sig.returnType = (some .int)) (hlk : meth.locks = false) (hnm : meth.name = "crowd") (hf : f_X10_crowd_129 n v0 v3 v4 v5 v6 M = some rv) : Sg p l e R s m args below meth c (Qm below G args s (some (.int rv.1)) M0 rv.2) G M0 9 129 [(0, .ref (gB G + v0)), (3, .int v3), (4, .int v4), (5, .int v5), (6, .int v6)] [] M := by
  rw [f_X10_crowd_129] at hf
  refine s_aload_n X 0 dX10_crowd_129 rfl rfl ?_
  refine s_iload_n X 1 dX10_crowd_130 rfl rfl ?_
  refine s_iload X 2 dX10_crowd_131 rfl ?_
  refine s_iload X 3 dX10_crowd_133 rfl ?_
  refine s_iload X 4 dX10_crowd_135 rfl ?_
  obtain ⟨h1, hf⟩ := pk_chk hf
  obtain ⟨r3, hc2, hf⟩ := pk_obd hf
  refine s_callV X (ci := 10) (k_X10_crowdTold G hc2) rfl h1 wd1978 wd1980 wd114 wd1981 wd138 cd_X10_crowdTold ⟨Nat.le_of_ble_eq_true rfl, Nat.le_of_ble_eq_true rfl⟩ (Nat.le_of_ble_eq_true rfl) dX10_crowd_137 ?_
  refine s_istore X (vs' := [(0, .ref (gB G + v0)), (3, .int v3), (4, .int v4), (5, .int v5), (6, .int v6), (8, .int r3)]) dX10_crowd_140 (Nat.le_of_ble_eq_true rfl) [1, 2, 3, 4, 5, 0] rfl ?_
  refine s_aload_n X 0 dX10_crowd_142 rfl rfl ?_
  obtain ⟨M5, hc4, hf⟩ := pk_obd hf
  refine s_callV X (ci := 10) (k_X10_bringBack G hc4) rfl h1 wd1966 wd1968 wd112 wd1969 wd138 cd_X10_bringBack ⟨Nat.le_of_ble_eq_true rfl, Nat.le_of_ble_eq_true rfl⟩ (Nat.le_of_ble_eq_true rfl) dX10_crowd_143 ?_
  refine s_iload X 5 dX10_crowd_146 rfl ?_
  cases hf
  exact s_iret X hr hlk dX10_crowd_148
theorem l_X10_crowd_102 {rv : (Int32 × Mem)} (X : Cx p R s m args c G M0 cX10_crowd yX10_crowd.cls 9 9 207) (hr : meth.sig.returnType = (some .int)) (hlk : meth.locks = false) (hnm : meth.name = "crowd") : ∀ {n : Nat} (v0 : Nat) (v2 : Int32) (v3 : Int32) (v4 : Int32) (v5 : Int32) (v6 : Int32) (v7 : Int32) (v8 : Int32) (M : Mem), f_X10_crowd_102 n v0 v2 v3 v4 v5 v6 v7 v8 M = some rv → Sg p l e R s m args below meth c (Qm below G args s (some (.int rv.1)) M0 rv.2) G M0 9 102 [(0, .ref (gB G + v0)), (2, .int v2), (3, .int v3), (4, .int v4), (5, .int v5), (6, .int v6), (7, .int v7), (8, .int v8)] [] M := by
  intro n
  induction n with
  | zero => intro v0 v2 v3 v4 v5 v6 v7 v8 M hf; exact (pk_none hf).elim
  | succ n ih =>
    intro v0 v2 v3 v4 v5 v6 v7 v8 M hf
    rw [f_X10_crowd_102] at hf
    refine s_iload X 7 dX10_crowd_102 rfl ?_
    refine s_iload_n X 1 dX10_crowd_104 rfl rfl ?_
    have hs1 := pk_ite hf
    clear hf
    refine s_icmp_ge X (tgt := 129) dX10_crowd_105 rfl (fun c2 => ?_) (fun c2 => ?_)
    · have hf := hs1.1 c2
      refine s_drop [0, 2, 3, 4, 5] (vs' := [(0, .ref (gB G + v0)), (3, .int v3), (4, .int v4), (5, .int v5), (6, .int v6)]) rfl ?_
      exact l_X10_crowd_129 X hr hlk hnm hf
    · have hf := hs1.2 c2
      refine s_iload X 6 dX10_crowd_108 rfl ?_
      have hs3 := pk_ite hf
      clear hf
      refine s_if_eq X (tgt := 129) dX10_crowd_110 rfl (fun c4 => ?_) (fun c4 => ?_)
      · have hf := hs3.1 c4
        refine s_drop [0, 2, 3, 4, 5] (vs' := [(0, .ref (gB G + v0)), (3, .int v3), (4, .int v4), (5, .int v5), (6, .int v6)]) rfl ?_
        exact l_X10_crowd_129 X hr hlk hnm hf
      · have hf := hs3.2 c4
        refine s_aload_n X 0 dX10_crowd_113 rfl rfl ?_
        obtain ⟨h5, hf⟩ := pk_chk hf
        obtain ⟨M7, hc6, hf⟩ := pk_obd hf
        refine s_callV X (ci := 10) (k_X10_askAll G hc6) rfl h5 wd1974 wd1976 wd113 wd1977 wd138 cd_X10_askAll ⟨Nat.le_of_ble_eq_true rfl, Nat.le_of_ble_eq_true rfl⟩ (Nat.le_of_ble_eq_true rfl) dX10_crowd_114 ?_
        refine s_aload_n X 0 dX10_crowd_117 rfl rfl ?_
        obtain ⟨h8, hf⟩ := pk_chk hf
        obtain ⟨r10, M11, hc9, hf⟩ := pk_obd2 hf
        refine s_callV X (ci := 10) (k_X10_goOnce G hc9) rfl h8 wd1938 wd1940 wd107 wd1941 wd138 cd_X10_goOnce ⟨Nat.le_of_ble_eq_true rfl, Nat.le_of_ble_eq_true rfl⟩ (Nat.le_of_ble_eq_true rfl) dX10_crowd_118 ?_
        refine s_istore X (vs' := [(0, .ref (gB G + v0)), (2, .int v2), (3, .int v3), (4, .int v4), (5, .int v5), (6, .int v6), (7, .int r10), (8, .int v8)]) dX10_crowd_121 (Nat.le_of_ble_eq_true rfl) [1, 2, 3, 4, 5, 6, 0, 7] rfl ?_
        obtain ⟨x12, e13, hf⟩ := pk_bnd hf
        refine s_iinc X (vs' := [(0, .ref (gB G + v0)), (2, .int v2), (3, .int v3), (4, .int v4), (5, .int v5), (6, .int v6), (7, .int r10), (8, .int x12)]) 7 dX10_crowd_123 rfl (v := x12) e13.symm (Nat.le_of_ble_eq_true rfl) [1, 2, 3, 4, 5, 6, 7, 0] rfl ?_
        refine s_goto X (tgt := 102) dX10_crowd_126 rfl ?_
        exact ih _ _ _ _ _ _ _ _ _ hf
theorem l_X10_crowd_59 {rv : (Int32 × Mem)} (X : Cx p R s m args c G M0 cX10_crowd yX10_crowd.cls 9 9 207) (hr : meth.sig.returnType = (some .int)) (hlk : meth.locks = false) (hnm : meth.name = "crowd") : ∀ {n : Nat} (v0 : Nat) (v1 : Int32) (v2 : Int32) (v3 : Int32) (v4 : Int32) (v5 : Int32) (v6 : Int32) (v7 : Int32) (M : Mem), f_X10_crowd_59 n v0 v1 v2 v3 v4 v5 v6 v7 M = some rv → Sg p l e R s m args below meth c (Qm below G args s (some (.int rv.1)) M0 rv.2) G M0 9 59 [(0, .ref (gB G + v0)), (1, .int v1), (2, .int v2), (3, .int v3), (4, .int v4), (5, .int v5), (6, .int v6), (7, .int v7)] [] M := by
  intro n
  induction n with
  | zero => intro v0 v1 v2 v3 v4 v5 v6 v7 M hf; exact (pk_none hf).elim
  | succ n ih =>
    intro v0 v1 v2 v3 v4 v5 v6 v7 M hf
    rw [f_X10_crowd_59] at hf
    refine s_iload X 7 dX10_crowd_59 rfl ?_
    refine s_aload_n X 0 dX10_crowd_61 rfl rfl ?_
    obtain ⟨h1, hf⟩ := pk_chk hf
    obtain ⟨o2, e3, hf⟩ := pk_bnd hf
    obtain ⟨h4, hf⟩ := pk_chk hf
    refine s_getR X (ci := 10) (k := 0) rfl (Nat.le_of_ble_eq_true rfl) h1 wd1440 (fun _ _ _ => rfl) (e3 ▸ h4) dX10_crowd_62 (e3 ▸ ?_)
    refine s_iconst X (v := (0 : Int32)) dX10_crowd_65 rfl ?_
    obtain ⟨h5, hf⟩ := pk_chk hf
    refine s_iald X h4 h5 dX10_crowd_66 ?_
    have hs6 := pk_ite hf
    clear hf
    refine s_icmp_ge X (tgt := 90) dX10_crowd_67 rfl (fun c7 => ?_) (fun c7 => ?_)
    · have hf := hs6.1 c7
      refine s_aload_n X 0 dX10_crowd_90 rfl rfl ?_
      refine s_iload_n X 1 dX10_crowd_91 rfl rfl ?_
      refine s_i2l X dX10_crowd_92 ?_
      obtain ⟨M8, e9, hf⟩ := pk_bnd hf
      refine s_putL X (ci := 10) (k := 8) rfl (Nat.le_of_ble_eq_true rfl) h1 wd1448 (fun _ _ _ => rfl) rfl rfl e9 dX10_crowd_93 ?_
      have h10 := io_sL e9 h1
      have h11 := io_sL e9 h4
      refine s_iconst X (v := (1 : Int32)) dX10_crowd_96 rfl ?_
      refine s_istore X (vs' := [(0, .ref (gB G + v0)), (1, .int v1), (2, .int v2), (3, .int v3), (4, .int v4), (5, .int v5), (6, .int v6), (7, .int (1 : Int32))]) dX10_crowd_97 (Nat.le_of_ble_eq_true rfl) [1, 2, 3, 4, 5, 6, 7, 0] rfl ?_
      refine s_iconst X (v := (0 : Int32)) dX10_crowd_99 rfl ?_
      refine s_istore X (vs' := [(0, .ref (gB G + v0)), (1, .int v1), (2, .int v2), (3, .int v3), (4, .int v4), (5, .int v5), (6, .int v6), (7, .int (1 : Int32)), (8, .int (0 : Int32))]) dX10_crowd_100 (Nat.le_of_ble_eq_true rfl) [1, 2, 3, 4, 5, 6, 7, 8, 0] rfl ?_
      refine s_drop [0, 2, 3, 4, 5, 6, 7, 8] (vs' := [(0, .ref (gB G + v0)), (2, .int v2), (3, .int v3), (4, .int v4), (5, .int v5), (6, .int v6), (7, .int (1 : Int32)), (8, .int (0 : Int32))]) rfl ?_
      exact l_X10_crowd_102 X hr hlk hnm _ _ _ _ _ _ _ _ _ hf
    · have hf := hs6.2 c7
      refine s_aload_n X 0 dX10_crowd_70 rfl rfl ?_
      obtain ⟨o12, e13, hf⟩ := pk_bnd hf
      obtain ⟨h14, hf⟩ := pk_chk hf
      refine s_getR X (ci := 10) (k := 10) rfl (Nat.le_of_ble_eq_true rfl) h1 wd1450 (fun _ _ _ => rfl) (e13 ▸ h14) dX10_crowd_71 (e13 ▸ ?_)
      refine s_iload X 7 dX10_crowd_74 rfl ?_
      refine s_aload_n X 0 dX10_crowd_76 rfl rfl ?_
      refine s_iload X 7 dX10_crowd_77 rfl ?_
      refine s_iconst X (v := (0 : Int32)) dX10_crowd_79 rfl ?_
      obtain ⟨r16, hc15, hf⟩ := pk_obd hf
      refine s_callV X (ci := 10) (k_X10_countOf G hc15) rfl h1 wd1822 wd1824 wd92 wd1825 wd138 cd_X10_countOf ⟨Nat.le_of_ble_eq_true rfl, Nat.le_of_ble_eq_true rfl⟩ (Nat.le_of_ble_eq_true rfl) dX10_crowd_80 ?_
      obtain ⟨h17, hf⟩ := pk_chk hf
      obtain ⟨M18, e19, hf⟩ := pk_bnd hf
      refine s_iast X h14 h17 e19 dX10_crowd_83 ?_
      have h20 := io_sI e19 h1
      have h21 := io_sI e19 h4
      have h22 := io_sI e19 h14
      obtain ⟨x23, e24, hf⟩ := pk_bnd hf
      refine s_iinc X (vs' := [(0, .ref (gB G + v0)), (1, .int v1), (2, .int v2), (3, .int v3), (4, .int v4), (5, .int v5), (6, .int v6), (7, .int x23)]) 7 dX10_crowd_84 rfl (v := x23) e24.symm (Nat.le_of_ble_eq_true rfl) [1, 2, 3, 4, 5, 6, 7, 0] rfl ?_
      refine s_goto X (tgt := 59) dX10_crowd_87 rfl ?_
      exact ih _ _ _ _ _ _ _ _ _ hf
end
theorem k_X10_crowd (G : Gam) {n : Nat} {o : Nat} {a1 : Int32} {a2 : Int32} {a3 : Int32} {M : Mem} {rv : (Int32 × Mem)} (hf : f_X10_crowd n o a1 a2 a3 M = some rv) : Kt yX10_crowd cX10_crowd 9 (some .int) 9 207 G [.ref (gB G + o), .int a1, .int a2, .int a3] M rv.2 (some (.int rv.1)) := by
  refine Kt.of (by decide) (Nat.le_of_ble_eq_true rfl) ?_
  intro p l e R s m args below meth c X hr hlk hnm
  refine s_drop [0, 1, 2, 3] (vs' := [(0, .ref (gB G + o)), (1, .int a1), (2, .int a2), (3, .int a3)]) rfl ?_
  rw [f_X10_crowd] at hf
  refine s_iload_n X 1 dX10_crowd_0 rfl rfl ?_
  have hs1 := pk_ite hf
  clear hf
  refine s_if_lt X (tgt := 24) dX10_crowd_1 rfl (fun c2 => ?_) (fun c2 => ?_)
  · have hf := hs1.1 c2
    refine s_iconst X (v := (-1 : Int32)) dX10_crowd_24 rfl ?_
    cases hf
    exact s_iret X hr hlk dX10_crowd_25
  · have hf := hs1.2 c2
    refine s_iload_n X 2 dX10_crowd_4 rfl rfl ?_
    refine s_iconst X (v := (0 : Int32)) dX10_crowd_5 rfl ?_
    refine s_sipush X (v := (500 : Int32)) dX10_crowd_6 rfl ?_
    obtain ⟨r4, hc3, hf⟩ := pk_obd hf
    refine s_callS X (k_X10_isIn G hc3) wd1520 wd1521 wd1522 wd138 cd_X10_isIn ⟨Nat.le_of_ble_eq_true rfl, Nat.le_of_ble_eq_true rfl⟩ (Nat.le_of_ble_eq_true rfl) dX10_crowd_9 ?_
    have hs5 := pk_ite hf
    clear hf
    refine s_if_eq X (tgt := 24) dX10_crowd_12 rfl (fun c6 => ?_) (fun c6 => ?_)
    · have hf := hs5.1 c6
      refine s_iconst X (v := (-1 : Int32)) dX10_crowd_24 rfl ?_
      cases hf
      exact s_iret X hr hlk dX10_crowd_25
    · have hf := hs5.2 c6
      refine s_iload_n X 3 dX10_crowd_15 rfl rfl ?_
      refine s_iconst X (v := (0 : Int32)) dX10_crowd_16 rfl ?_
      refine s_iconst X (v := (5 : Int32)) dX10_crowd_17 rfl ?_
      obtain ⟨r8, hc7, hf⟩ := pk_obd hf
      refine s_callS X (k_X10_isIn G hc7) wd1520 wd1521 wd1522 wd138 cd_X10_isIn ⟨Nat.le_of_ble_eq_true rfl, Nat.le_of_ble_eq_true rfl⟩ (Nat.le_of_ble_eq_true rfl) dX10_crowd_18 ?_
      have hs9 := pk_ite hf
      clear hf
      refine s_if_ne X (tgt := 26) dX10_crowd_21 rfl (fun c10 => ?_) (fun c10 => ?_)
      · have hf := hs9.2 c10
        refine s_aload_n X 0 dX10_crowd_26 rfl rfl ?_
        obtain ⟨h11, hf⟩ := pk_chk hf
        obtain ⟨M13, hc12, hf⟩ := pk_obd hf
        refine s_callV X (ci := 10) (k_X10_putAside G hc12) rfl h11 wd1962 wd1964 wd111 wd1965 wd138 cd_X10_putAside ⟨Nat.le_of_ble_eq_true rfl, Nat.le_of_ble_eq_true rfl⟩ (Nat.le_of_ble_eq_true rfl) dX10_crowd_27 ?_
        refine s_aload_n X 0 dX10_crowd_30 rfl rfl ?_
        obtain ⟨h14, hf⟩ := pk_chk hf
        obtain ⟨o15, e16, hf⟩ := pk_bnd hf
        obtain ⟨h17, hf⟩ := pk_chk hf
        refine s_getR X (ci := 10) (k := 0) rfl (Nat.le_of_ble_eq_true rfl) h14 wd1440 (fun _ _ _ => rfl) (e16 ▸ h17) dX10_crowd_31 (e16 ▸ ?_)
        refine s_sipush X (v := (9851 : Int32)) dX10_crowd_34 rfl ?_
        obtain ⟨h18, hf⟩ := pk_chk hf
        refine s_iald X h17 h18 dX10_crowd_37 ?_
        obtain ⟨x19, e20, hf⟩ := pk_bnd hf
        refine s_nmI e20 ?_
        refine s_istore X (vs' := [(0, .ref (gB G + o)), (1, .int a1), (2, .int a2), (3, .int a3), (4, .int x19)]) dX10_crowd_38 (Nat.le_of_ble_eq_true rfl) [1, 2, 3, 4, 0] rfl ?_
        refine s_aload_n X 0 dX10_crowd_40 rfl rfl ?_
        obtain ⟨o21, e22, hf⟩ := pk_bnd hf
        obtain ⟨h23, hf⟩ := pk_chk hf
        refine s_getR X (ci := 10) (k := 0) rfl (Nat.le_of_ble_eq_true rfl) h14 wd1440 (fun _ _ _ => rfl) (e22 ▸ h23) dX10_crowd_41 (e22 ▸ ?_)
        refine s_sipush X (v := (9853 : Int32)) dX10_crowd_44 rfl ?_
        obtain ⟨h24, hf⟩ := pk_chk hf
        refine s_iald X h23 h24 dX10_crowd_47 ?_
        obtain ⟨x25, e26, hf⟩ := pk_bnd hf
        refine s_nmI e26 ?_
        refine s_istore X (vs' := [(0, .ref (gB G + o)), (1, .int a1), (2, .int a2), (3, .int a3), (4, .int x19), (5, .int x25)]) dX10_crowd_48 (Nat.le_of_ble_eq_true rfl) [1, 2, 3, 4, 5, 0] rfl ?_
        refine s_aload_n X 0 dX10_crowd_50 rfl rfl ?_
        obtain ⟨r28, hc27, hf⟩ := pk_obd hf
        refine s_callV X (ci := 10) (k_X10_sentAll G hc27) rfl h14 wd1922 wd1924 wd106 wd1925 wd138 cd_X10_sentAll ⟨Nat.le_of_ble_eq_true rfl, Nat.le_of_ble_eq_true rfl⟩ (Nat.le_of_ble_eq_true rfl) dX10_crowd_51 ?_
        refine s_istore X (vs' := [(0, .ref (gB G + o)), (1, .int a1), (2, .int a2), (3, .int a3), (4, .int x19), (5, .int x25), (6, .int r28)]) dX10_crowd_54 (Nat.le_of_ble_eq_true rfl) [1, 2, 3, 4, 5, 6, 0] rfl ?_
        refine s_iconst X (v := (0 : Int32)) dX10_crowd_56 rfl ?_
        refine s_istore X (vs' := [(0, .ref (gB G + o)), (1, .int a1), (2, .int a2), (3, .int a3), (4, .int x19), (5, .int x25), (6, .int r28), (7, .int (0 : Int32))]) dX10_crowd_57 (Nat.le_of_ble_eq_true rfl) [1, 2, 3, 4, 5, 6, 7, 0] rfl ?_
        exact l_X10_crowd_59 X hr hlk hnm _ _ _ _ _ _ _ _ _ hf
      · have hf := hs9.1 c10
        refine s_iconst X (v := (-1 : Int32)) dX10_crowd_24 rfl ?_
        cases hf
        exact s_iret X hr hlk dX10_crowd_25
theorem dX9_mean_0 : decode cX9_mean 0 = .ok (.aload_n 0, 1) := dk_42 (by decide +kernel)
theorem dX9_mean_1 : decode cX9_mean 1 = .ok (.getfield 28, 3) := dk_180 (x := 0) (y := 28) (by decide +kernel) rfl
theorem dX9_mean_4 : decode cX9_mean 4 = .ok (.getfield 258, 3) := dk_180 (x := 1) (y := 2) (by decide +kernel) rfl
theorem dX9_mean_7 : decode cX9_mean 7 = .ok (.iconst 1, 1) := dk_4 (by decide +kernel)
theorem dX9_mean_8 : decode cX9_mean 8 = .ok (.if_icmp .ge 5, 3) := dk_162 (x := 0) (y := 5) (by decide +kernel) rfl
theorem dX9_mean_11 : decode cX9_mean 11 = .ok (.iconst 0, 1) := dk_3 (by decide +kernel)
theorem dX9_mean_12 : decode cX9_mean 12 = .ok (.ireturn, 1) := dk_172 (by decide +kernel)
theorem dX9_mean_13 : decode cX9_mean 13 = .ok (.aload_n 0, 1) := dk_42 (by decide +kernel)
theorem dX9_mean_14 : decode cX9_mean 14 = .ok (.getfield 28, 3) := dk_180 (x := 0) (y := 28) (by decide +kernel) rfl
theorem dX9_mean_17 : decode cX9_mean 17 = .ok (.getfield 243, 3) := dk_180 (x := 0) (y := 243) (by decide +kernel) rfl
theorem dX9_mean_20 : decode cX9_mean 20 = .ok (.invokevirtual 283, 3) := dk_182 (x := 1) (y := 27) (by decide +kernel) rfl
theorem dX9_mean_23 : decode cX9_mean 23 = .ok (.i2f, 1) := dk_134 (by decide +kernel)
theorem dX9_mean_24 : decode cX9_mean 24 = .ok (.aload_n 0, 1) := dk_42 (by decide +kernel)
theorem dX9_mean_25 : decode cX9_mean 25 = .ok (.getfield 28, 3) := dk_180 (x := 0) (y := 28) (by decide +kernel) rfl
theorem dX9_mean_28 : decode cX9_mean 28 = .ok (.getfield 258, 3) := dk_180 (x := 1) (y := 2) (by decide +kernel) rfl
theorem dX9_mean_31 : decode cX9_mean 31 = .ok (.i2f, 1) := dk_134 (by decide +kernel)
theorem dX9_mean_32 : decode cX9_mean 32 = .ok (.fdiv, 1) := dk_110 (by decide +kernel)
theorem dX9_mean_33 : decode cX9_mean 33 = .ok (.invokestatic 350, 3) := dk_184 (x := 1) (y := 94) (by decide +kernel) rfl
theorem dX9_mean_36 : decode cX9_mean 36 = .ok (.ireturn, 1) := dk_172 (by decide +kernel)
def f_X9_mean (n : Nat) (o : Nat) (M : Mem) : Option Int32 :=
  chk (isO M 9 o) <|
  bnd (mR M o 2) fun o2 =>
  chk (isO M 2 o2) <|
  if (1 : Int32) ≤ (mI M o2 11) then (
    bnd (mR M o 2) fun o7 =>
    chk (isO M 2 o7) <|
    bnd (mR M o7 1) fun o10 =>
    chk (isO M 5 o10) <|
    obd (f_X5_sentInAll n o10 M) fun r14 =>
    none
    ) else (
    some (0 : Int32)
    )
theorem cd_X9_mean : (yX9_mean.cls ≠ "java/lang/invoke/MethodHandle" ∧ yX9_mean.cls ≠ "java/lang/invoke/VarHandle") ∧ (parseMethodDescriptor yX9_mean.desc).map (fun d => d.parameters.length) = some 0 := ⟨⟨by decide +kernel, by decide +kernel⟩, by decide +kernel⟩
theorem k_X9_mean (G : Gam) {n : Nat} {o : Nat} {M : Mem} {rv : Int32} (hf : f_X9_mean n o M = some rv) : Kt yX9_mean cX9_mean 1 (some .int) 1 22 G [.ref (gB G + o)] M M (some (.int rv)) := by
  refine Kt.of (by decide) (Nat.le_of_ble_eq_true rfl) ?_
  intro p l e R s m args below meth c X hr hlk hnm
  refine s_drop [0] (vs' := [(0, .ref (gB G + o))]) rfl ?_
  rw [f_X9_mean] at hf
  refine s_aload_n X 0 dX9_mean_0 rfl rfl ?_
  obtain ⟨h1, hf⟩ := pk_chk hf
  obtain ⟨o2, e3, hf⟩ := pk_bnd hf
  obtain ⟨h4, hf⟩ := pk_chk hf
  refine s_getR X (ci := 9) (k := 2) rfl (Nat.le_of_ble_eq_true rfl) h1 wd629 (fun _ _ _ => rfl) (e3 ▸ h4) dX9_mean_1 (e3 ▸ ?_)
  refine s_getI X (ci := 2) (k := 11) rfl (Nat.le_of_ble_eq_true rfl) h4 wd447 (fun _ _ _ => rfl) dX9_mean_4 ?_
  refine s_iconst X (v := (1 : Int32)) dX9_mean_7 rfl ?_
  have hs5 := pk_ite hf
  clear hf
  refine s_icmp_ge X (tgt := 13) dX9_mean_8 rfl (fun c6 => ?_) (fun c6 => ?_)
  · have hf := hs5.1 c6
    refine s_aload_n X 0 dX9_mean_13 rfl rfl ?_
    obtain ⟨o7, e8, hf⟩ := pk_bnd hf
    obtain ⟨h9, hf⟩ := pk_chk hf
    refine s_getR X (ci := 9) (k := 2) rfl (Nat.le_of_ble_eq_true rfl) h1 wd629 (fun _ _ _ => rfl) (e8 ▸ h9) dX9_mean_14 (e8 ▸ ?_)
    obtain ⟨o10, e11, hf⟩ := pk_bnd hf
    obtain ⟨h12, hf⟩ := pk_chk hf
    refine s_getR X (ci := 2) (k := 1) rfl (Nat.le_of_ble_eq_true rfl) h9 wd422 (fun _ _ _ => rfl) (e11 ▸ h12) dX9_mean_17 (e11 ▸ ?_)
    obtain ⟨r14, hc13, hf⟩ := pk_obd hf
    refine s_callV X (ci := 5) (k_X5_sentInAll G hc13) rfl h12 wd1180 wd1181 wd1182 wd1183 wd131 cd_X5_sentInAll ⟨Nat.le_of_ble_eq_true rfl, Nat.le_of_ble_eq_true rfl⟩ (Nat.le_of_ble_eq_true rfl) dX9_mean_20 ?_
    exact (pk_none hf).elim
  · have hf := hs5.2 c6
    refine s_iconst X (v := (0 : Int32)) dX9_mean_11 rfl ?_
    cases hf
    exact s_iret X hr hlk dX9_mean_12
theorem dX10_mean_0 : decode cX10_mean 0 = .ok (.aload_n 0, 1) := dk_42 (by decide +kernel)
theorem dX10_mean_1 : decode cX10_mean 1 = .ok (.getfield 7, 3) := dk_180 (x := 0) (y := 7) (by decide +kernel) rfl
theorem dX10_mean_4 : decode cX10_mean 4 = .ok (.sipush 9851, 3) := dk_17 (x := 38) (y := 123) (by decide +kernel) rfl
theorem dX10_mean_7 : decode cX10_mean 7 = .ok (.iaload, 1) := dk_46 (by decide +kernel)
theorem dX10_mean_8 : decode cX10_mean 8 = .ok (.ifCond .ne 7, 3) := dk_154 (x := 0) (y := 7) (by decide +kernel) rfl
theorem dX10_mean_11 : decode cX10_mean 11 = .ok (.iconst 0, 1) := dk_3 (by decide +kernel)
theorem dX10_mean_12 : decode cX10_mean 12 = .ok (.goto 21, 3) := dk_167 (x := 0) (y := 21) (by decide +kernel) rfl
theorem dX10_mean_15 : decode cX10_mean 15 = .ok (.aload_n 0, 1) := dk_42 (by decide +kernel)
theorem dX10_mean_16 : decode cX10_mean 16 = .ok (.invokevirtual 295, 3) := dk_182 (x := 1) (y := 39) (by decide +kernel) rfl
theorem dX10_mean_19 : decode cX10_mean 19 = .ok (.i2f, 1) := dk_134 (by decide +kernel)
theorem dX10_mean_20 : decode cX10_mean 20 = .ok (.aload_n 0, 1) := dk_42 (by decide +kernel)
theorem dX10_mean_21 : decode cX10_mean 21 = .ok (.getfield 7, 3) := dk_180 (x := 0) (y := 7) (by decide +kernel) rfl
theorem dX10_mean_24 : decode cX10_mean 24 = .ok (.sipush 9851, 3) := dk_17 (x := 38) (y := 123) (by decide +kernel) rfl
theorem dX10_mean_27 : decode cX10_mean 27 = .ok (.iaload, 1) := dk_46 (by decide +kernel)
theorem dX10_mean_28 : decode cX10_mean 28 = .ok (.i2f, 1) := dk_134 (by decide +kernel)
theorem dX10_mean_29 : decode cX10_mean 29 = .ok (.fdiv, 1) := dk_110 (by decide +kernel)
theorem dX10_mean_30 : decode cX10_mean 30 = .ok (.invokestatic 399, 3) := dk_184 (x := 1) (y := 143) (by decide +kernel) rfl
theorem dX10_mean_33 : decode cX10_mean 33 = .ok (.ireturn, 1) := dk_172 (by decide +kernel)
def f_X10_mean (n : Nat) (o : Nat) (M : Mem) : Option Int32 :=
  chk (isO M 10 o) <|
  bnd (mR M o 0) fun o2 =>
  chk (isO M 100 o2) <|
  chk (inB (9851 : Int32) (mLn M o2)) <|
  if (mI M o2 ((9851 : Int32)).toNatClampNeg) = 0 then (
    some (0 : Int32)
    ) else (
    obd (f_X10_sentAll n o M) fun r9 =>
    none
    )
theorem cd_X10_mean : (yX10_mean.cls ≠ "java/lang/invoke/MethodHandle" ∧ yX10_mean.cls ≠ "java/lang/invoke/VarHandle") ∧ (parseMethodDescriptor yX10_mean.desc).map (fun d => d.parameters.length) = some 0 := ⟨⟨by decide +kernel, by decide +kernel⟩, by decide +kernel⟩
theorem k_X10_mean (G : Gam) {n : Nat} {o : Nat} {M : Mem} {rv : Int32} (hf : f_X10_mean n o M = some rv) : Kt yX10_mean cX10_mean 1 (some .int) 2 40 G [.ref (gB G + o)] M M (some (.int rv)) := by
  refine Kt.of (by decide) (Nat.le_of_ble_eq_true rfl) ?_
  intro p l e R s m args below meth c X hr hlk hnm
  refine s_drop [0] (vs' := [(0, .ref (gB G + o))]) rfl ?_
  rw [f_X10_mean] at hf
  refine s_aload_n X 0 dX10_mean_0 rfl rfl ?_
  obtain ⟨h1, hf⟩ := pk_chk hf
  obtain ⟨o2, e3, hf⟩ := pk_bnd hf
  obtain ⟨h4, hf⟩ := pk_chk hf
  refine s_getR X (ci := 10) (k := 0) rfl (Nat.le_of_ble_eq_true rfl) h1 wd1440 (fun _ _ _ => rfl) (e3 ▸ h4) dX10_mean_1 (e3 ▸ ?_)
  refine s_sipush X (v := (9851 : Int32)) dX10_mean_4 rfl ?_
  obtain ⟨h5, hf⟩ := pk_chk hf
  refine s_iald X h4 h5 dX10_mean_7 ?_
  have hs6 := pk_ite hf
  clear hf
  refine s_if_ne X (tgt := 15) dX10_mean_8 rfl (fun c7 => ?_) (fun c7 => ?_)
  · have hf := hs6.2 c7
    refine s_aload_n X 0 dX10_mean_15 rfl rfl ?_
    obtain ⟨r9, hc8, hf⟩ := pk_obd hf
    refine s_callV X (ci := 10) (k_X10_sentAll G hc8) rfl h1 wd1922 wd1924 wd106 wd1925 wd138 cd_X10_sentAll ⟨Nat.le_of_ble_eq_true rfl, Nat.le_of_ble_eq_true rfl⟩ (Nat.le_of_ble_eq_true rfl) dX10_mean_16 ?_
    exact (pk_none hf).elim
  · have hf := hs6.1 c7
    refine s_iconst X (v := (0 : Int32)) dX10_mean_11 rfl ?_
    refine s_goto X (tgt := 33) dX10_mean_12 rfl ?_
    cases hf
    exact s_iret X hr hlk dX10_mean_33
theorem dX9_wholeRoot_0 : decode cX9_wholeRoot 0 = .ok (.iconst 1, 1) := dk_4 (by decide +kernel)
theorem dX9_wholeRoot_1 : decode cX9_wholeRoot 1 = .ok (.istore_n 1, 1) := dk_60 (by decide +kernel)
theorem dX9_wholeRoot_2 : decode cX9_wholeRoot 2 = .ok (.iload_n 1, 1) := dk_27 (by decide +kernel)
theorem dX9_wholeRoot_3 : decode cX9_wholeRoot 3 = .ok (.bipush 16, 2) := dk_16 (x := 16) (by decide +kernel) rfl
theorem dX9_wholeRoot_5 : decode cX9_wholeRoot 5 = .ok (.if_icmp .ge 20, 3) := dk_162 (x := 0) (y := 20) (by decide +kernel) rfl
theorem dX9_wholeRoot_8 : decode cX9_wholeRoot 8 = .ok (.iload_n 1, 1) := dk_27 (by decide +kernel)
theorem dX9_wholeRoot_9 : decode cX9_wholeRoot 9 = .ok (.iconst 1, 1) := dk_4 (by decide +kernel)
theorem dX9_wholeRoot_10 : decode cX9_wholeRoot 10 = .ok (.iadd, 1) := dk_96 (by decide +kernel)
theorem dX9_wholeRoot_11 : decode cX9_wholeRoot 11 = .ok (.iload_n 1, 1) := dk_27 (by decide +kernel)
theorem dX9_wholeRoot_12 : decode cX9_wholeRoot 12 = .ok (.iconst 1, 1) := dk_4 (by decide +kernel)
theorem dX9_wholeRoot_13 : decode cX9_wholeRoot 13 = .ok (.iadd, 1) := dk_96 (by decide +kernel)
theorem dX9_wholeRoot_14 : decode cX9_wholeRoot 14 = .ok (.imul, 1) := dk_104 (by decide +kernel)
theorem dX9_wholeRoot_15 : decode cX9_wholeRoot 15 = .ok (.iload_n 0, 1) := dk_26 (by decide +kernel)
theorem dX9_wholeRoot_16 : decode cX9_wholeRoot 16 = .ok (.if_icmp .gt 9, 3) := dk_163 (x := 0) (y := 9) (by decide +kernel) rfl
theorem dX9_wholeRoot_19 : decode cX9_wholeRoot 19 = .ok (.iinc 1 1, 3) := dk_132 (x := 1) (y := 1) (by decide +kernel) rfl
theorem dX9_wholeRoot_22 : decode cX9_wholeRoot 22 = .ok (.goto (-20), 3) := dk_167 (x := 255) (y := 236) (by decide +kernel) rfl
theorem dX9_wholeRoot_25 : decode cX9_wholeRoot 25 = .ok (.iload_n 1, 1) := dk_27 (by decide +kernel)
theorem dX9_wholeRoot_26 : decode cX9_wholeRoot 26 = .ok (.ireturn, 1) := dk_172 (by decide +kernel)
def f_X9_wholeRoot_2 (M : Mem) : Nat → Int32 → Int32 → Option Int32
  | 0, _, _ => none
  | n + 1, v0, v1 =>
    if (16 : Int32) ≤ v1 then (
      some v1
      ) else (
      if v0 < ((v1 + (1 : Int32)) * (v1 + (1 : Int32))) then (
        some v1
        ) else (
        bnd (v1 + (1 : Int32)) fun x5 =>
        f_X9_wholeRoot_2 M n v0 x5
        )
      )
def f_X9_wholeRoot (n : Nat) (a1 : Int32) (M : Mem) : Option Int32 :=
  f_X9_wholeRoot_2 M n a1 (1 : Int32)
theorem cd_X9_wholeRoot : (yX9_wholeRoot.cls ≠ "java/lang/invoke/MethodHandle" ∧ yX9_wholeRoot.cls ≠ "java/lang/invoke/VarHandle") ∧ (parseMethodDescriptor yX9_wholeRoot.desc).map (fun d => d.parameters.length) = some 1 := ⟨⟨by decide +kernel, by decide +kernel⟩, by decide +kernel⟩
section
variable {p : Program} {l : Launch} {e : Env} {R : Room} {s : State} {m : MethodId} {args : Array Value} {below : List Frame} {meth : Method} {c : Code} {G : Gam} {M0 : Mem}
theorem l_X9_wholeRoot_2 {M : Mem} {rv : Int32} (X : Cx p R s m args c G M0 cX9_wholeRoot yX9_wholeRoot.cls 2 0 0) (hr : meth.sig.returnType = (some .int)) (hlk : meth.locks = false) (hnm : meth.name = "wholeRoot") : ∀ {n : Nat} (v0 : Int32) (v1 : Int32), f_X9_wholeRoot_2 M n v0 v1 = some rv → Sg p l e R s m args below meth c (Qm below G args s (some (.int rv)) M0 M) G M0 2 2 [(0, .int v0), (1, .int v1)] [] M := by
  intro n
  induction n with
  | zero => intro v0 v1 hf; exact (pk_none hf).elim
  | succ n ih =>
    intro v0 v1 hf
    rw [f_X9_wholeRoot_2] at hf
    refine s_iload_n X 1 dX9_wholeRoot_2 rfl rfl ?_
    refine s_bipush X (v := (16 : Int32)) dX9_wholeRoot_3 rfl ?_
    have hs1 := pk_ite hf
    clear hf
    refine s_icmp_ge X (tgt := 25) dX9_wholeRoot_5 rfl (fun c2 => ?_) (fun c2 => ?_)
    · have hf := hs1.1 c2
      refine s_iload_n X 1 dX9_wholeRoot_25 rfl rfl ?_
      cases hf
      exact s_iret X hr hlk dX9_wholeRoot_26
    · have hf := hs1.2 c2
      refine s_iload_n X 1 dX9_wholeRoot_8 rfl rfl ?_
      refine s_iconst X (v := (1 : Int32)) dX9_wholeRoot_9 rfl ?_
      refine s_iadd X dX9_wholeRoot_10 ?_
      refine s_iload_n X 1 dX9_wholeRoot_11 rfl rfl ?_
      refine s_iconst X (v := (1 : Int32)) dX9_wholeRoot_12 rfl ?_
      refine s_iadd X dX9_wholeRoot_13 ?_
      refine s_imul X dX9_wholeRoot_14 ?_
      refine s_iload_n X 0 dX9_wholeRoot_15 rfl rfl ?_
      have hs3 := pk_ite hf
      clear hf
      refine s_icmp_gt X (tgt := 25) dX9_wholeRoot_16 rfl (fun c4 => ?_) (fun c4 => ?_)
      · have hf := hs3.1 c4
        refine s_iload_n X 1 dX9_wholeRoot_25 rfl rfl ?_
        cases hf
        exact s_iret X hr hlk dX9_wholeRoot_26
      · have hf := hs3.2 c4
        obtain ⟨x5, e6, hf⟩ := pk_bnd hf
        refine s_iinc X (vs' := [(0, .int v0), (1, .int x5)]) 1 dX9_wholeRoot_19 rfl (v := x5) e6.symm (Nat.le_of_ble_eq_true rfl) [1, 0] rfl ?_
        refine s_goto X (tgt := 2) dX9_wholeRoot_22 rfl ?_
        exact ih _ _ hf
end
theorem k_X9_wholeRoot (G : Gam) {n : Nat} {a1 : Int32} {M : Mem} {rv : Int32} (hf : f_X9_wholeRoot n a1 M = some rv) : Kt yX9_wholeRoot cX9_wholeRoot 2 (some .int) 0 0 G [.int a1] M M (some (.int rv)) := by
  refine Kt.of (by decide) (Nat.le_of_ble_eq_true rfl) ?_
  intro p l e R s m args below meth c X hr hlk hnm
  refine s_drop [0] (vs' := [(0, .int a1)]) rfl ?_
  rw [f_X9_wholeRoot] at hf
  refine s_iconst X (v := (1 : Int32)) dX9_wholeRoot_0 rfl ?_
  refine s_istore_n X (vs' := [(0, .int a1), (1, .int (1 : Int32))]) dX9_wholeRoot_1 rfl (Nat.le_of_ble_eq_true rfl) [1, 0] rfl ?_
  exact l_X9_wholeRoot_2 X hr hlk hnm _ _ hf
theorem dX9_byRoot_0 : decode cX9_byRoot 0 = .ok (.aload_n 0, 1) := dk_42 (by decide +kernel)
theorem dX9_byRoot_1 : decode cX9_byRoot 1 = .ok (.getfield 28, 3) := dk_180 (x := 0) (y := 28) (by decide +kernel) rfl
theorem dX9_byRoot_4 : decode cX9_byRoot 4 = .ok (.getfield 258, 3) := dk_180 (x := 1) (y := 2) (by decide +kernel) rfl
theorem dX9_byRoot_7 : decode cX9_byRoot 7 = .ok (.iconst 1, 1) := dk_4 (by decide +kernel)
theorem dX9_byRoot_8 : decode cX9_byRoot 8 = .ok (.if_icmp .ge 5, 3) := dk_162 (x := 0) (y := 5) (by decide +kernel) rfl
theorem dX9_byRoot_11 : decode cX9_byRoot 11 = .ok (.lconst 0, 1) := dk_9 (by decide +kernel)
theorem dX9_byRoot_12 : decode cX9_byRoot 12 = .ok (.lreturn, 1) := dk_173 (by decide +kernel)
theorem dX9_byRoot_13 : decode cX9_byRoot 13 = .ok (.aload_n 0, 1) := dk_42 (by decide +kernel)
theorem dX9_byRoot_14 : decode cX9_byRoot 14 = .ok (.getfield 28, 3) := dk_180 (x := 0) (y := 28) (by decide +kernel) rfl
theorem dX9_byRoot_17 : decode cX9_byRoot 17 = .ok (.getfield 243, 3) := dk_180 (x := 0) (y := 243) (by decide +kernel) rfl
theorem dX9_byRoot_20 : decode cX9_byRoot 20 = .ok (.invokevirtual 283, 3) := dk_182 (x := 1) (y := 27) (by decide +kernel) rfl
theorem dX9_byRoot_23 : decode cX9_byRoot 23 = .ok (.i2d, 1) := dk_135 (by decide +kernel)
theorem dX9_byRoot_24 : decode cX9_byRoot 24 = .ok (.aload_n 0, 1) := dk_42 (by decide +kernel)
theorem dX9_byRoot_25 : decode cX9_byRoot 25 = .ok (.getfield 28, 3) := dk_180 (x := 0) (y := 28) (by decide +kernel) rfl
theorem dX9_byRoot_28 : decode cX9_byRoot 28 = .ok (.getfield 258, 3) := dk_180 (x := 1) (y := 2) (by decide +kernel) rfl
theorem dX9_byRoot_31 : decode cX9_byRoot 31 = .ok (.i2d, 1) := dk_135 (by decide +kernel)
theorem dX9_byRoot_32 : decode cX9_byRoot 32 = .ok (.ddiv, 1) := dk_111 (by decide +kernel)
theorem dX9_byRoot_33 : decode cX9_byRoot 33 = .ok (.dstore_n 1, 1) := dk_72 (by decide +kernel)
theorem dX9_byRoot_34 : decode cX9_byRoot 34 = .ok (.dload_n 1, 1) := dk_39 (by decide +kernel)
theorem dX9_byRoot_35 : decode cX9_byRoot 35 = .ok (.aload_n 0, 1) := dk_42 (by decide +kernel)
theorem dX9_byRoot_36 : decode cX9_byRoot 36 = .ok (.getfield 10, 3) := dk_180 (x := 0) (y := 10) (by decide +kernel) rfl
theorem dX9_byRoot_39 : decode cX9_byRoot 39 = .ok (.getfield 75, 3) := dk_180 (x := 0) (y := 75) (by decide +kernel) rfl
theorem dX9_byRoot_42 : decode cX9_byRoot 42 = .ok (.invokestatic 354, 3) := dk_184 (x := 1) (y := 98) (by decide +kernel) rfl
theorem dX9_byRoot_45 : decode cX9_byRoot 45 = .ok (.i2d, 1) := dk_135 (by decide +kernel)
theorem dX9_byRoot_46 : decode cX9_byRoot 46 = .ok (.ddiv, 1) := dk_111 (by decide +kernel)
theorem dX9_byRoot_47 : decode cX9_byRoot 47 = .ok (.invokestatic 357, 3) := dk_184 (x := 1) (y := 101) (by decide +kernel) rfl
theorem dX9_byRoot_50 : decode cX9_byRoot 50 = .ok (.lreturn, 1) := dk_173 (by decide +kernel)
def f_X9_byRoot (n : Nat) (o : Nat) (M : Mem) : Option Int64 :=
  chk (isO M 9 o) <|
  bnd (mR M o 2) fun o2 =>
  chk (isO M 2 o2) <|
  if (1 : Int32) ≤ (mI M o2 11) then (
    bnd (mR M o 2) fun o7 =>
    chk (isO M 2 o7) <|
    bnd (mR M o7 1) fun o10 =>
    chk (isO M 5 o10) <|
    obd (f_X5_sentInAll n o10 M) fun r14 =>
    none
    ) else (
    some (0 : Int64)
    )
theorem cd_X9_byRoot : (yX9_byRoot.cls ≠ "java/lang/invoke/MethodHandle" ∧ yX9_byRoot.cls ≠ "java/lang/invoke/VarHandle") ∧ (parseMethodDescriptor yX9_byRoot.desc).map (fun d => d.parameters.length) = some 0 := ⟨⟨by decide +kernel, by decide +kernel⟩, by decide +kernel⟩
theorem k_X9_byRoot (G : Gam) {n : Nat} {o : Nat} {M : Mem} {rv : Int64} (hf : f_X9_byRoot n o M = some rv) : Kt yX9_byRoot cX9_byRoot 3 (some .long) 1 24 G [.ref (gB G + o)] M M (some (.long rv)) := by
  refine Kt.of (by decide) (Nat.le_of_ble_eq_true rfl) ?_
  intro p l e R s m args below meth c X hr hlk hnm
  refine s_drop [0] (vs' := [(0, .ref (gB G + o))]) rfl ?_
  rw [f_X9_byRoot] at hf
  refine s_aload_n X 0 dX9_byRoot_0 rfl rfl ?_
  obtain ⟨h1, hf⟩ := pk_chk hf
  obtain ⟨o2, e3, hf⟩ := pk_bnd hf
  obtain ⟨h4, hf⟩ := pk_chk hf
  refine s_getR X (ci := 9) (k := 2) rfl (Nat.le_of_ble_eq_true rfl) h1 wd629 (fun _ _ _ => rfl) (e3 ▸ h4) dX9_byRoot_1 (e3 ▸ ?_)
  refine s_getI X (ci := 2) (k := 11) rfl (Nat.le_of_ble_eq_true rfl) h4 wd447 (fun _ _ _ => rfl) dX9_byRoot_4 ?_
  refine s_iconst X (v := (1 : Int32)) dX9_byRoot_7 rfl ?_
  have hs5 := pk_ite hf
  clear hf
  refine s_icmp_ge X (tgt := 13) dX9_byRoot_8 rfl (fun c6 => ?_) (fun c6 => ?_)
  · have hf := hs5.1 c6
    refine s_aload_n X 0 dX9_byRoot_13 rfl rfl ?_
    obtain ⟨o7, e8, hf⟩ := pk_bnd hf
    obtain ⟨h9, hf⟩ := pk_chk hf
    refine s_getR X (ci := 9) (k := 2) rfl (Nat.le_of_ble_eq_true rfl) h1 wd629 (fun _ _ _ => rfl) (e8 ▸ h9) dX9_byRoot_14 (e8 ▸ ?_)
    obtain ⟨o10, e11, hf⟩ := pk_bnd hf
    obtain ⟨h12, hf⟩ := pk_chk hf
    refine s_getR X (ci := 2) (k := 1) rfl (Nat.le_of_ble_eq_true rfl) h9 wd422 (fun _ _ _ => rfl) (e11 ▸ h12) dX9_byRoot_17 (e11 ▸ ?_)
    obtain ⟨r14, hc13, hf⟩ := pk_obd hf
    refine s_callV X (ci := 5) (k_X5_sentInAll G hc13) rfl h12 wd1180 wd1181 wd1182 wd1183 wd131 cd_X5_sentInAll ⟨Nat.le_of_ble_eq_true rfl, Nat.le_of_ble_eq_true rfl⟩ (Nat.le_of_ble_eq_true rfl) dX9_byRoot_20 ?_
    exact (pk_none hf).elim
  · have hf := hs5.2 c6
    refine s_lconst X (v := (0 : Int64)) dX9_byRoot_11 rfl ?_
    cases hf
    exact s_lret X hr hlk dX9_byRoot_12
theorem dX10_byRoot_0 : decode cX10_byRoot 0 = .ok (.aload_n 0, 1) := dk_42 (by decide +kernel)
theorem dX10_byRoot_1 : decode cX10_byRoot 1 = .ok (.getfield 7, 3) := dk_180 (x := 0) (y := 7) (by decide +kernel) rfl
theorem dX10_byRoot_4 : decode cX10_byRoot 4 = .ok (.sipush 9851, 3) := dk_17 (x := 38) (y := 123) (by decide +kernel) rfl
theorem dX10_byRoot_7 : decode cX10_byRoot 7 = .ok (.iaload, 1) := dk_46 (by decide +kernel)
theorem dX10_byRoot_8 : decode cX10_byRoot 8 = .ok (.ifCond .ne 5, 3) := dk_154 (x := 0) (y := 5) (by decide +kernel) rfl
theorem dX10_byRoot_11 : decode cX10_byRoot 11 = .ok (.lconst 0, 1) := dk_9 (by decide +kernel)
theorem dX10_byRoot_12 : decode cX10_byRoot 12 = .ok (.lreturn, 1) := dk_173 (by decide +kernel)
theorem dX10_byRoot_13 : decode cX10_byRoot 13 = .ok (.iconst 1, 1) := dk_4 (by decide +kernel)
theorem dX10_byRoot_14 : decode cX10_byRoot 14 = .ok (.istore_n 1, 1) := dk_60 (by decide +kernel)
theorem dX10_byRoot_15 : decode cX10_byRoot 15 = .ok (.iload_n 1, 1) := dk_27 (by decide +kernel)
theorem dX10_byRoot_16 : decode cX10_byRoot 16 = .ok (.iconst 1, 1) := dk_4 (by decide +kernel)
theorem dX10_byRoot_17 : decode cX10_byRoot 17 = .ok (.iadd, 1) := dk_96 (by decide +kernel)
theorem dX10_byRoot_18 : decode cX10_byRoot 18 = .ok (.iload_n 1, 1) := dk_27 (by decide +kernel)
theorem dX10_byRoot_19 : decode cX10_byRoot 19 = .ok (.iconst 1, 1) := dk_4 (by decide +kernel)
theorem dX10_byRoot_20 : decode cX10_byRoot 20 = .ok (.iadd, 1) := dk_96 (by decide +kernel)
theorem dX10_byRoot_21 : decode cX10_byRoot 21 = .ok (.imul, 1) := dk_104 (by decide +kernel)
theorem dX10_byRoot_22 : decode cX10_byRoot 22 = .ok (.aload_n 0, 1) := dk_42 (by decide +kernel)
theorem dX10_byRoot_23 : decode cX10_byRoot 23 = .ok (.getfield 7, 3) := dk_180 (x := 0) (y := 7) (by decide +kernel) rfl
theorem dX10_byRoot_26 : decode cX10_byRoot 26 = .ok (.iconst 0, 1) := dk_3 (by decide +kernel)
theorem dX10_byRoot_27 : decode cX10_byRoot 27 = .ok (.iaload, 1) := dk_46 (by decide +kernel)
theorem dX10_byRoot_28 : decode cX10_byRoot 28 = .ok (.if_icmp .gt 9, 3) := dk_163 (x := 0) (y := 9) (by decide +kernel) rfl
theorem dX10_byRoot_31 : decode cX10_byRoot 31 = .ok (.iinc 1 1, 3) := dk_132 (x := 1) (y := 1) (by decide +kernel) rfl
theorem dX10_byRoot_34 : decode cX10_byRoot 34 = .ok (.goto (-19), 3) := dk_167 (x := 255) (y := 237) (by decide +kernel) rfl
theorem dX10_byRoot_37 : decode cX10_byRoot 37 = .ok (.aload_n 0, 1) := dk_42 (by decide +kernel)
theorem dX10_byRoot_38 : decode cX10_byRoot 38 = .ok (.invokevirtual 295, 3) := dk_182 (x := 1) (y := 39) (by decide +kernel) rfl
theorem dX10_byRoot_41 : decode cX10_byRoot 41 = .ok (.i2d, 1) := dk_135 (by decide +kernel)
theorem dX10_byRoot_42 : decode cX10_byRoot 42 = .ok (.aload_n 0, 1) := dk_42 (by decide +kernel)
theorem dX10_byRoot_43 : decode cX10_byRoot 43 = .ok (.getfield 7, 3) := dk_180 (x := 0) (y := 7) (by decide +kernel) rfl
theorem dX10_byRoot_46 : decode cX10_byRoot 46 = .ok (.sipush 9851, 3) := dk_17 (x := 38) (y := 123) (by decide +kernel) rfl
theorem dX10_byRoot_49 : decode cX10_byRoot 49 = .ok (.iaload, 1) := dk_46 (by decide +kernel)
theorem dX10_byRoot_50 : decode cX10_byRoot 50 = .ok (.i2d, 1) := dk_135 (by decide +kernel)
theorem dX10_byRoot_51 : decode cX10_byRoot 51 = .ok (.ddiv, 1) := dk_111 (by decide +kernel)
theorem dX10_byRoot_52 : decode cX10_byRoot 52 = .ok (.iload_n 1, 1) := dk_27 (by decide +kernel)
theorem dX10_byRoot_53 : decode cX10_byRoot 53 = .ok (.i2d, 1) := dk_135 (by decide +kernel)
theorem dX10_byRoot_54 : decode cX10_byRoot 54 = .ok (.ddiv, 1) := dk_111 (by decide +kernel)
theorem dX10_byRoot_55 : decode cX10_byRoot 55 = .ok (.invokestatic 405, 3) := dk_184 (x := 1) (y := 149) (by decide +kernel) rfl
theorem dX10_byRoot_58 : decode cX10_byRoot 58 = .ok (.lreturn, 1) := dk_173 (by decide +kernel)
def f_X10_byRoot_15 (M : Mem) : Nat → Nat → Int32 → Option Int64
  | 0, _, _ => none
  | n + 1, v0, v1 =>
    chk (isO M 10 v0) <|
    bnd (mR M v0 0) fun o2 =>
    chk (isO M 100 o2) <|
    chk (inB (0 : Int32) (mLn M o2)) <|
    if (mI M o2 ((0 : Int32)).toNatClampNeg) < ((v1 + (1 : Int32)) * (v1 + (1 : Int32))) then (
      obd (f_X10_sentAll n v0 M) fun r9 =>
      none
      ) else (
      bnd (v1 + (1 : Int32)) fun x10 =>
      f_X10_byRoot_15 M n v0 x10
      )
def f_X10_byRoot (n : Nat) (o : Nat) (M : Mem) : Option Int64 :=
  chk (isO M 10 o) <|
  bnd (mR M o 0) fun o2 =>
  chk (isO M 100 o2) <|
  chk (inB (9851 : Int32) (mLn M o2)) <|
  if (mI M o2 ((9851 : Int32)).toNatClampNeg) = 0 then (
    some (0 : Int64)
    ) else (
    f_X10_byRoot_15 M n o (1 : Int32)
    )
theorem cd_X10_byRoot : (yX10_byRoot.cls ≠ "java/lang/invoke/MethodHandle" ∧ yX10_byRoot.cls ≠ "java/lang/invoke/VarHandle") ∧ (parseMethodDescriptor yX10_byRoot.desc).map (fun d => d.parameters.length) = some 0 := ⟨⟨by decide +kernel, by decide +kernel⟩, by decide +kernel⟩
section
variable {p : Program} {l : Launch} {e : Env} {R : Room} {s : State} {m : MethodId} {args : Array Value} {below : List Frame} {meth : Method} {c : Code} {G : Gam} {M0 : Mem}
theorem l_X10_byRoot_15 {M : Mem} {rv : Int64} (X : Cx p R s m args c G M0 cX10_byRoot yX10_byRoot.cls 2 2 42) (hr : meth.sig.returnType = (some .long)) (hlk : meth.locks = false) (hnm : meth.name = "byRoot") : ∀ {n : Nat} (v0 : Nat) (v1 : Int32), f_X10_byRoot_15 M n v0 v1 = some rv → Sg p l e R s m args below meth c (Qm below G args s (some (.long rv)) M0 M) G M0 2 15 [(0, .ref (gB G + v0)), (1, .int v1)] [] M := by
  intro n
  induction n with
  | zero => intro v0 v1 hf; exact (pk_none hf).elim
  | succ n ih =>
    intro v0 v1 hf
    rw [f_X10_byRoot_15] at hf
    refine s_iload_n X 1 dX10_byRoot_15 rfl rfl ?_
    refine s_iconst X (v := (1 : Int32)) dX10_byRoot_16 rfl ?_
    refine s_iadd X dX10_byRoot_17 ?_
    refine s_iload_n X 1 dX10_byRoot_18 rfl rfl ?_
    refine s_iconst X (v := (1 : Int32)) dX10_byRoot_19 rfl ?_
    refine s_iadd X dX10_byRoot_20 ?_
    refine s_imul X dX10_byRoot_21 ?_
    refine s_aload_n X 0 dX10_byRoot_22 rfl rfl ?_
    obtain ⟨h1, hf⟩ := pk_chk hf
    obtain ⟨o2, e3, hf⟩ := pk_bnd hf
    obtain ⟨h4, hf⟩ := pk_chk hf
    refine s_getR X (ci := 10) (k := 0) rfl (Nat.le_of_ble_eq_true rfl) h1 wd1440 (fun _ _ _ => rfl) (e3 ▸ h4) dX10_byRoot_23 (e3 ▸ ?_)
    refine s_iconst X (v := (0 : Int32)) dX10_byRoot_26 rfl ?_
    obtain ⟨h5, hf⟩ := pk_chk hf
    refine s_iald X h4 h5 dX10_byRoot_27 ?_
    have hs6 := pk_ite hf
    clear hf
    refine s_icmp_gt X (tgt := 37) dX10_byRoot_28 rfl (fun c7 => ?_) (fun c7 => ?_)
    · have hf := hs6.1 c7
      refine s_aload_n X 0 dX10_byRoot_37 rfl rfl ?_
      obtain ⟨r9, hc8, hf⟩ := pk_obd hf
      refine s_callV X (ci := 10) (k_X10_sentAll G hc8) rfl h1 wd1922 wd1924 wd106 wd1925 wd138 cd_X10_sentAll ⟨Nat.le_of_ble_eq_true rfl, Nat.le_of_ble_eq_true rfl⟩ (Nat.le_of_ble_eq_true rfl) dX10_byRoot_38 ?_
      exact (pk_none hf).elim
    · have hf := hs6.2 c7
      obtain ⟨x10, e11, hf⟩ := pk_bnd hf
      refine s_iinc X (vs' := [(0, .ref (gB G + v0)), (1, .int x10)]) 1 dX10_byRoot_31 rfl (v := x10) e11.symm (Nat.le_of_ble_eq_true rfl) [1, 0] rfl ?_
      refine s_goto X (tgt := 15) dX10_byRoot_34 rfl ?_
      exact ih _ _ hf
end
theorem k_X10_byRoot (G : Gam) {n : Nat} {o : Nat} {M : Mem} {rv : Int64} (hf : f_X10_byRoot n o M = some rv) : Kt yX10_byRoot cX10_byRoot 2 (some .long) 2 42 G [.ref (gB G + o)] M M (some (.long rv)) := by
  refine Kt.of (by decide) (Nat.le_of_ble_eq_true rfl) ?_
  intro p l e R s m args below meth c X hr hlk hnm
  refine s_drop [0] (vs' := [(0, .ref (gB G + o))]) rfl ?_
  rw [f_X10_byRoot] at hf
  refine s_aload_n X 0 dX10_byRoot_0 rfl rfl ?_
  obtain ⟨h1, hf⟩ := pk_chk hf
  obtain ⟨o2, e3, hf⟩ := pk_bnd hf
  obtain ⟨h4, hf⟩ := pk_chk hf
  refine s_getR X (ci := 10) (k := 0) rfl (Nat.le_of_ble_eq_true rfl) h1 wd1440 (fun _ _ _ => rfl) (e3 ▸ h4) dX10_byRoot_1 (e3 ▸ ?_)
  refine s_sipush X (v := (9851 : Int32)) dX10_byRoot_4 rfl ?_
  obtain ⟨h5, hf⟩ := pk_chk hf
  refine s_iald X h4 h5 dX10_byRoot_7 ?_
  have hs6 := pk_ite hf
  clear hf
  refine s_if_ne X (tgt := 13) dX10_byRoot_8 rfl (fun c7 => ?_) (fun c7 => ?_)
  · have hf := hs6.2 c7
    refine s_iconst X (v := (1 : Int32)) dX10_byRoot_13 rfl ?_
    refine s_istore_n X (vs' := [(0, .ref (gB G + o)), (1, .int (1 : Int32))]) dX10_byRoot_14 rfl (Nat.le_of_ble_eq_true rfl) [1, 0] rfl ?_
    exact l_X10_byRoot_15 X hr hlk hnm _ _ hf
  · have hf := hs6.1 c7
    refine s_lconst X (v := (0 : Int64)) dX10_byRoot_11 rfl ?_
    cases hf
    exact s_lret X hr hlk dX10_byRoot_12
