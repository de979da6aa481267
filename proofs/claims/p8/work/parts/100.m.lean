theorem dX7_init_0 : decode cX7_init 0 = .ok (.aload_n 0, 1) := dk_42 (by decide +kernel)
theorem dX7_init_1 : decode cX7_init 1 = .ok (.invokespecial 3, 3) := dk_183 (x := 0) (y := 3) (by decide +kernel) rfl
theorem dX7_init_4 : decode cX7_init 4 = .ok (.aload_n 0, 1) := dk_42 (by decide +kernel)
theorem dX7_init_5 : decode cX7_init 5 = .ok (.bipush 16, 2) := dk_16 (x := 16) (by decide +kernel) rfl
theorem dX7_init_7 : decode cX7_init 7 = .ok (.newarray .int, 2) := dk_na_10 (by decide +kernel)
theorem dX7_init_9 : decode cX7_init 9 = .ok (.putfield 9, 3) := dk_181 (x := 0) (y := 9) (by decide +kernel) rfl
theorem dX7_init_12 : decode cX7_init 12 = .ok (.aload_n 0, 1) := dk_42 (by decide +kernel)
theorem dX7_init_13 : decode cX7_init 13 = .ok (.bipush 16, 2) := dk_16 (x := 16) (by decide +kernel) rfl
theorem dX7_init_15 : decode cX7_init 15 = .ok (.newarray .int, 2) := dk_na_10 (by decide +kernel)
theorem dX7_init_17 : decode cX7_init 17 = .ok (.putfield 15, 3) := dk_181 (x := 0) (y := 15) (by decide +kernel) rfl
theorem dX7_init_20 : decode cX7_init 20 = .ok (.aload_n 0, 1) := dk_42 (by decide +kernel)
theorem dX7_init_21 : decode cX7_init 21 = .ok (.bipush 16, 2) := dk_16 (x := 16) (by decide +kernel) rfl
theorem dX7_init_23 : decode cX7_init 23 = .ok (.newarray .int, 2) := dk_na_10 (by decide +kernel)
theorem dX7_init_25 : decode cX7_init 25 = .ok (.putfield 18, 3) := dk_181 (x := 0) (y := 18) (by decide +kernel) rfl
theorem dX7_init_28 : decode cX7_init 28 = .ok (.return_, 1) := dk_177 (by decide +kernel)
def f_X7_init (o : Nat) (M : Mem) : Option Mem :=
  chk (¬ (16 : Int32) < 0) <|
  chk (mN M + 1 ≤ CAP ∧ mU M + ((16 : Int32)).toNatClampNeg ≤ CAPU) <|
  bnd (mN M) fun o5 =>
  bnd (nw M 100 ((16 : Int32)).toNatClampNeg ((16 : Int32)).toNatClampNeg) fun M3 =>
  chk (isO M3 7 o) <|
  bnd (sR M3 o 0 o5) fun M9 =>
  chk (¬ (16 : Int32) < 0) <|
  chk (mN M9 + 1 ≤ CAP ∧ mU M9 + ((16 : Int32)).toNatClampNeg ≤ CAPU) <|
  bnd (mN M9) fun o17 =>
  bnd (nw M9 100 ((16 : Int32)).toNatClampNeg ((16 : Int32)).toNatClampNeg) fun M15 =>
  bnd (sR M15 o 1 o17) fun M22 =>
  chk (¬ (16 : Int32) < 0) <|
  chk (mN M22 + 1 ≤ CAP ∧ mU M22 + ((16 : Int32)).toNatClampNeg ≤ CAPU) <|
  bnd (mN M22) fun o31 =>
  bnd (nw M22 100 ((16 : Int32)).toNatClampNeg ((16 : Int32)).toNatClampNeg) fun M29 =>
  bnd (sR M29 o 2 o31) fun M37 =>
  some M37
theorem cd_X7_init : (yX7_init.cls ≠ "java/lang/invoke/MethodHandle" ∧ yX7_init.cls ≠ "java/lang/invoke/VarHandle") ∧ (parseMethodDescriptor yX7_init.desc).map (fun d => d.parameters.length) = some 0 := ⟨⟨by decide +kernel, by decide +kernel⟩, by decide +kernel⟩
theorem k_X7_init (G : Gam) {o : Nat} {M : Mem} {rv : Mem} (hf : f_X7_init o M = some rv) : Kt yX7_init cX7_init 1 none 1 24 G [.ref (gB G + o)] M rv none := by
  refine Kt.of (by decide) (Nat.le_of_ble_eq_true rfl) ?_
  intro p l e R s m args below meth c X hr hlk hnm
  refine s_drop [0] (vs' := [(0, .ref (gB G + o))]) rfl ?_
  rw [f_X7_init] at hf
  refine s_aload_n X 0 dX7_init_0 rfl rfl ?_
  refine s_objInit X (o := o) wd158 wd151 wd152 ⟨Nat.le_of_ble_eq_true rfl, Nat.le_of_ble_eq_true rfl⟩ dX7_init_1 ?_
  refine s_aload_n X 0 dX7_init_4 rfl rfl ?_
  refine s_bipush X (v := (16 : Int32)) dX7_init_5 rfl ?_
  obtain ⟨h1, hf⟩ := pk_chk hf
  obtain ⟨h2, hf⟩ := pk_chk hf
  obtain ⟨o5, e6, hf⟩ := pk_bnd hf
  obtain ⟨M3, e4, hf⟩ := pk_bnd hf
  refine s_newI X wd184 h1 h2 e4 dX7_init_7 (e6 ▸ ?_)
  have h7 := io_nwn e4 e6
  obtain ⟨h8, hf⟩ := pk_chk hf
  obtain ⟨M9, e10, hf⟩ := pk_bnd hf
  refine s_putRF X (ci := 7) (k := 0) rfl (Nat.le_of_ble_eq_true rfl) h8 wd159 (fun _ _ _ => rfl) h7 (fun _ => ⟨rfl, rfl⟩) rfl hnm rfl e10 dX7_init_9 ?_
  have h11 := io_sR e10 h7
  have h12 := io_sR e10 h8
  refine s_aload_n X 0 dX7_init_12 rfl rfl ?_
  refine s_bipush X (v := (16 : Int32)) dX7_init_13 rfl ?_
  obtain ⟨h13, hf⟩ := pk_chk hf
  obtain ⟨h14, hf⟩ := pk_chk hf
  obtain ⟨o17, e18, hf⟩ := pk_bnd hf
  obtain ⟨M15, e16, hf⟩ := pk_bnd hf
  refine s_newI X wd184 h13 h14 e16 dX7_init_15 (e18 ▸ ?_)
  have h19 := io_nw e16 h11
  have h20 := io_nw e16 h12
  have h21 := io_nwn e16 e18
  obtain ⟨M22, e23, hf⟩ := pk_bnd hf
  refine s_putRF X (ci := 7) (k := 1) rfl (Nat.le_of_ble_eq_true rfl) h20 wd163 (fun _ _ _ => rfl) h21 (fun _ => ⟨rfl, rfl⟩) rfl hnm rfl e23 dX7_init_17 ?_
  have h24 := io_sR e23 h19
  have h25 := io_sR e23 h20
  have h26 := io_sR e23 h21
  refine s_aload_n X 0 dX7_init_20 rfl rfl ?_
  refine s_bipush X (v := (16 : Int32)) dX7_init_21 rfl ?_
  obtain ⟨h27, hf⟩ := pk_chk hf
  obtain ⟨h28, hf⟩ := pk_chk hf
  obtain ⟨o31, e32, hf⟩ := pk_bnd hf
  obtain ⟨M29, e30, hf⟩ := pk_bnd hf
  refine s_newI X wd184 h27 h28 e30 dX7_init_23 (e32 ▸ ?_)
  have h33 := io_nw e30 h24
  have h34 := io_nw e30 h25
  have h35 := io_nw e30 h26
  have h36 := io_nwn e30 e32
  obtain ⟨M37, e38, hf⟩ := pk_bnd hf
  refine s_putRF X (ci := 7) (k := 2) rfl (Nat.le_of_ble_eq_true rfl) h34 wd164 (fun _ _ _ => rfl) h36 (fun _ => ⟨rfl, rfl⟩) rfl hnm rfl e38 dX7_init_25 ?_
  have h39 := io_sR e38 h33
  have h40 := io_sR e38 h34
  have h41 := io_sR e38 h35
  have h42 := io_sR e38 h36
  cases hf
  exact s_vret X hr hlk dX7_init_28
theorem dX1_init_0 : decode cX1_init 0 = .ok (.aload_n 0, 1) := dk_42 (by decide +kernel)
theorem dX1_init_1 : decode cX1_init 1 = .ok (.invokespecial 5, 3) := dk_183 (x := 0) (y := 5) (by decide +kernel) rfl
theorem dX1_init_4 : decode cX1_init 4 = .ok (.aload_n 0, 1) := dk_42 (by decide +kernel)
theorem dX1_init_5 : decode cX1_init 5 = .ok (.sipush 1024, 3) := dk_17 (x := 4) (y := 0) (by decide +kernel) rfl
theorem dX1_init_8 : decode cX1_init 8 = .ok (.newarray .long, 2) := dk_na_11 (by decide +kernel)
theorem dX1_init_10 : decode cX1_init 10 = .ok (.putfield 11, 3) := dk_181 (x := 0) (y := 11) (by decide +kernel) rfl
theorem dX1_init_13 : decode cX1_init 13 = .ok (.return_, 1) := dk_177 (by decide +kernel)
def f_X1_init (o : Nat) (M : Mem) : Option Mem :=
  chk (¬ (1024 : Int32) < 0) <|
  chk (mN M + 1 ≤ CAP ∧ mU M + ((1024 : Int32)).toNatClampNeg ≤ CAPU) <|
  bnd (mN M) fun o5 =>
  bnd (nw M 101 ((1024 : Int32)).toNatClampNeg ((1024 : Int32)).toNatClampNeg) fun M3 =>
  chk (isO M3 1 o) <|
  bnd (sR M3 o 0 o5) fun M9 =>
  some M9
theorem cd_X1_init : (yX1_init.cls ≠ "java/lang/invoke/MethodHandle" ∧ yX1_init.cls ≠ "java/lang/invoke/VarHandle") ∧ (parseMethodDescriptor yX1_init.desc).map (fun d => d.parameters.length) = some 0 := ⟨⟨by decide +kernel, by decide +kernel⟩, by decide +kernel⟩
theorem k_X1_init (G : Gam) {o : Nat} {M : Mem} {rv : Mem} (hf : f_X1_init o M = some rv) : Kt yX1_init cX1_init 1 none 1 24 G [.ref (gB G + o)] M rv none := by
  refine Kt.of (by decide) (Nat.le_of_ble_eq_true rfl) ?_
  intro p l e R s m args below meth c X hr hlk hnm
  refine s_drop [0] (vs' := [(0, .ref (gB G + o))]) rfl ?_
  rw [f_X1_init] at hf
  refine s_aload_n X 0 dX1_init_0 rfl rfl ?_
  refine s_objInit X (o := o) wd196 wd151 wd152 ⟨Nat.le_of_ble_eq_true rfl, Nat.le_of_ble_eq_true rfl⟩ dX1_init_1 ?_
  refine s_aload_n X 0 dX1_init_4 rfl rfl ?_
  refine s_sipush X (v := (1024 : Int32)) dX1_init_5 rfl ?_
  obtain ⟨h1, hf⟩ := pk_chk hf
  obtain ⟨h2, hf⟩ := pk_chk hf
  obtain ⟨o5, e6, hf⟩ := pk_bnd hf
  obtain ⟨M3, e4, hf⟩ := pk_bnd hf
  refine s_newL X wd207 h1 h2 e4 dX1_init_8 (e6 ▸ ?_)
  have h7 := io_nwn e4 e6
  obtain ⟨h8, hf⟩ := pk_chk hf
  obtain ⟨M9, e10, hf⟩ := pk_bnd hf
  refine s_putRF X (ci := 1) (k := 0) rfl (Nat.le_of_ble_eq_true rfl) h8 wd197 (fun _ _ _ => rfl) h7 (fun _ => ⟨rfl, rfl⟩) rfl hnm rfl e10 dX1_init_10 ?_
  have h11 := io_sR e10 h7
  have h12 := io_sR e10 h8
  cases hf
  exact s_vret X hr hlk dX1_init_13
theorem dX8_init_0 : decode cX8_init 0 = .ok (.aload_n 0, 1) := dk_42 (by decide +kernel)
theorem dX8_init_1 : decode cX8_init 1 = .ok (.invokespecial 3, 3) := dk_183 (x := 0) (y := 3) (by decide +kernel) rfl
theorem dX8_init_4 : decode cX8_init 4 = .ok (.aload_n 0, 1) := dk_42 (by decide +kernel)
theorem dX8_init_5 : decode cX8_init 5 = .ok (.new 9, 3) := dk_187 (x := 0) (y := 9) (by decide +kernel) rfl
theorem dX8_init_8 : decode cX8_init 8 = .ok (.dup, 1) := dk_89 (by decide +kernel)
theorem dX8_init_9 : decode cX8_init 9 = .ok (.invokespecial 11, 3) := dk_183 (x := 0) (y := 11) (by decide +kernel) rfl
theorem dX8_init_12 : decode cX8_init 12 = .ok (.putfield 12, 3) := dk_181 (x := 0) (y := 12) (by decide +kernel) rfl
theorem dX8_init_15 : decode cX8_init 15 = .ok (.aload_n 0, 1) := dk_42 (by decide +kernel)
theorem dX8_init_16 : decode cX8_init 16 = .ok (.new 9, 3) := dk_187 (x := 0) (y := 9) (by decide +kernel) rfl
theorem dX8_init_19 : decode cX8_init 19 = .ok (.dup, 1) := dk_89 (by decide +kernel)
theorem dX8_init_20 : decode cX8_init 20 = .ok (.invokespecial 11, 3) := dk_183 (x := 0) (y := 11) (by decide +kernel) rfl
theorem dX8_init_23 : decode cX8_init 23 = .ok (.putfield 18, 3) := dk_181 (x := 0) (y := 18) (by decide +kernel) rfl
theorem dX8_init_26 : decode cX8_init 26 = .ok (.aload_n 0, 1) := dk_42 (by decide +kernel)
theorem dX8_init_27 : decode cX8_init 27 = .ok (.bipush 17, 2) := dk_16 (x := 17) (by decide +kernel) rfl
theorem dX8_init_29 : decode cX8_init 29 = .ok (.newarray .long, 2) := dk_na_11 (by decide +kernel)
theorem dX8_init_31 : decode cX8_init 31 = .ok (.putfield 21, 3) := dk_181 (x := 0) (y := 21) (by decide +kernel) rfl
theorem dX8_init_34 : decode cX8_init 34 = .ok (.aload_n 0, 1) := dk_42 (by decide +kernel)
theorem dX8_init_35 : decode cX8_init 35 = .ok (.sipush 305, 3) := dk_17 (x := 1) (y := 49) (by decide +kernel) rfl
theorem dX8_init_38 : decode cX8_init 38 = .ok (.newarray .int, 2) := dk_na_10 (by decide +kernel)
theorem dX8_init_40 : decode cX8_init 40 = .ok (.putfield 25, 3) := dk_181 (x := 0) (y := 25) (by decide +kernel) rfl
theorem dX8_init_43 : decode cX8_init 43 = .ok (.aload_n 0, 1) := dk_42 (by decide +kernel)
theorem dX8_init_44 : decode cX8_init 44 = .ok (.bipush 16, 2) := dk_16 (x := 16) (by decide +kernel) rfl
theorem dX8_init_46 : decode cX8_init 46 = .ok (.newarray .int, 2) := dk_na_10 (by decide +kernel)
theorem dX8_init_48 : decode cX8_init 48 = .ok (.putfield 29, 3) := dk_181 (x := 0) (y := 29) (by decide +kernel) rfl
theorem dX8_init_51 : decode cX8_init 51 = .ok (.aload_n 0, 1) := dk_42 (by decide +kernel)
theorem dX8_init_52 : decode cX8_init 52 = .ok (.bipush 16, 2) := dk_16 (x := 16) (by decide +kernel) rfl
theorem dX8_init_54 : decode cX8_init 54 = .ok (.newarray .int, 2) := dk_na_10 (by decide +kernel)
theorem dX8_init_56 : decode cX8_init 56 = .ok (.putfield 32, 3) := dk_181 (x := 0) (y := 32) (by decide +kernel) rfl
theorem dX8_init_59 : decode cX8_init 59 = .ok (.return_, 1) := dk_177 (by decide +kernel)
def f_X8_init (o : Nat) (M : Mem) : Option Mem :=
  chk (mN M + 1 ≤ CAP ∧ mU M + 3 ≤ CAPU) <|
  bnd (mN M) fun o4 =>
  bnd (nw M 1 0 3) fun M2 =>
  obd (f_X1_init o4 M2) fun M8 =>
  chk (isO M8 8 o) <|
  chk (isO M8 1 o4) <|
  bnd (sR M8 o 0 o4) fun M10 =>
  chk (mN M10 + 1 ≤ CAP ∧ mU M10 + 3 ≤ CAPU) <|
  bnd (mN M10) fun o18 =>
  bnd (nw M10 1 0 3) fun M16 =>
  obd (f_X1_init o18 M16) fun M24 =>
  chk (isO M24 8 o) <|
  chk (isO M24 1 o18) <|
  bnd (sR M24 o 1 o18) fun M26 =>
  chk (¬ (17 : Int32) < 0) <|
  chk (mN M26 + 1 ≤ CAP ∧ mU M26 + ((17 : Int32)).toNatClampNeg ≤ CAPU) <|
  bnd (mN M26) fun o35 =>
  bnd (nw M26 101 ((17 : Int32)).toNatClampNeg ((17 : Int32)).toNatClampNeg) fun M33 =>
  bnd (sR M33 o 2 o35) fun M40 =>
  chk (¬ (305 : Int32) < 0) <|
  chk (mN M40 + 1 ≤ CAP ∧ mU M40 + ((305 : Int32)).toNatClampNeg ≤ CAPU) <|
  bnd (mN M40) fun o49 =>
  bnd (nw M40 100 ((305 : Int32)).toNatClampNeg ((305 : Int32)).toNatClampNeg) fun M47 =>
  bnd (sR M47 o 3 o49) fun M55 =>
  chk (¬ (16 : Int32) < 0) <|
  chk (mN M55 + 1 ≤ CAP ∧ mU M55 + ((16 : Int32)).toNatClampNeg ≤ CAPU) <|
  bnd (mN M55) fun o65 =>
  bnd (nw M55 100 ((16 : Int32)).toNatClampNeg ((16 : Int32)).toNatClampNeg) fun M63 =>
  bnd (sR M63 o 4 o65) fun M72 =>
  chk (¬ (16 : Int32) < 0) <|
  chk (mN M72 + 1 ≤ CAP ∧ mU M72 + ((16 : Int32)).toNatClampNeg ≤ CAPU) <|
  bnd (mN M72) fun o83 =>
  bnd (nw M72 100 ((16 : Int32)).toNatClampNeg ((16 : Int32)).toNatClampNeg) fun M81 =>
  bnd (sR M81 o 5 o83) fun M91 =>
  some M91
theorem cd_X8_init : (yX8_init.cls ≠ "java/lang/invoke/MethodHandle" ∧ yX8_init.cls ≠ "java/lang/invoke/VarHandle") ∧ (parseMethodDescriptor yX8_init.desc).map (fun d => d.parameters.length) = some 0 := ⟨⟨by decide +kernel, by decide +kernel⟩, by decide +kernel⟩
theorem k_X8_init (G : Gam) {o : Nat} {M : Mem} {rv : Mem} (hf : f_X8_init o M = some rv) : Kt yX8_init cX8_init 1 none 2 44 G [.ref (gB G + o)] M rv none := by
  refine Kt.of (by decide) (Nat.le_of_ble_eq_true rfl) ?_
  intro p l e R s m args below meth c X hr hlk hnm
  refine s_drop [0] (vs' := [(0, .ref (gB G + o))]) rfl ?_
  rw [f_X8_init] at hf
  refine s_aload_n X 0 dX8_init_0 rfl rfl ?_
  refine s_objInit X (o := o) wd190 wd151 wd152 ⟨Nat.le_of_ble_eq_true rfl, Nat.le_of_ble_eq_true rfl⟩ dX8_init_1 ?_
  refine s_aload_n X 0 dX8_init_4 rfl rfl ?_
  obtain ⟨h1, hf⟩ := pk_chk hf
  obtain ⟨o4, e5, hf⟩ := pk_bnd hf
  obtain ⟨M2, e3, hf⟩ := pk_bnd hf
  refine s_new X (ci := 1) rfl wd191 wd192 wd129 h1 e3 dX8_init_5 (e5 ▸ ?_)
  have h6 := io_nwn e3 e5
  refine s_dup X dX8_init_8 rfl ?_
  obtain ⟨M8, hc7, hf⟩ := pk_obd hf
  refine s_callIN X (k_X1_init G hc7) (host := "QuorumGate") ns_2 wd194 wd195 wd129 rfl cd_X1_init ⟨Nat.le_of_ble_eq_true rfl, Nat.le_of_ble_eq_true rfl⟩ (Nat.le_of_ble_eq_true rfl) dX8_init_9 ?_
  obtain ⟨h9, hf⟩ := pk_chk hf
  obtain ⟨h12, hf⟩ := pk_chk hf
  obtain ⟨M10, e11, hf⟩ := pk_bnd hf
  refine s_putRF X (ci := 8) (k := 0) rfl (Nat.le_of_ble_eq_true rfl) h9 wd208 (fun _ _ _ => rfl) h12 (fun _ => ⟨rfl, rfl⟩) rfl hnm rfl e11 dX8_init_12 ?_
  have h13 := io_sR e11 h9
  have h14 := io_sR e11 h12
  refine s_aload_n X 0 dX8_init_15 rfl rfl ?_
  obtain ⟨h15, hf⟩ := pk_chk hf
  obtain ⟨o18, e19, hf⟩ := pk_bnd hf
  obtain ⟨M16, e17, hf⟩ := pk_bnd hf
  refine s_new X (ci := 1) rfl wd191 wd192 wd129 h15 e17 dX8_init_16 (e19 ▸ ?_)
  have h20 := io_nw e17 h13
  have h21 := io_nw e17 h14
  have h22 := io_nwn e17 e19
  refine s_dup X dX8_init_19 rfl ?_
  obtain ⟨M24, hc23, hf⟩ := pk_obd hf
  refine s_callIN X (k_X1_init G hc23) (host := "QuorumGate") ns_2 wd194 wd195 wd129 rfl cd_X1_init ⟨Nat.le_of_ble_eq_true rfl, Nat.le_of_ble_eq_true rfl⟩ (Nat.le_of_ble_eq_true rfl) dX8_init_20 ?_
  obtain ⟨h25, hf⟩ := pk_chk hf
  obtain ⟨h28, hf⟩ := pk_chk hf
  obtain ⟨M26, e27, hf⟩ := pk_bnd hf
  refine s_putRF X (ci := 8) (k := 1) rfl (Nat.le_of_ble_eq_true rfl) h25 wd210 (fun _ _ _ => rfl) h28 (fun _ => ⟨rfl, rfl⟩) rfl hnm rfl e27 dX8_init_23 ?_
  have h29 := io_sR e27 h25
  have h30 := io_sR e27 h28
  refine s_aload_n X 0 dX8_init_26 rfl rfl ?_
  refine s_bipush X (v := (17 : Int32)) dX8_init_27 rfl ?_
  obtain ⟨h31, hf⟩ := pk_chk hf
  obtain ⟨h32, hf⟩ := pk_chk hf
  obtain ⟨o35, e36, hf⟩ := pk_bnd hf
  obtain ⟨M33, e34, hf⟩ := pk_bnd hf
  refine s_newL X wd207 h31 h32 e34 dX8_init_29 (e36 ▸ ?_)
  have h37 := io_nw e34 h29
  have h38 := io_nw e34 h30
  have h39 := io_nwn e34 e36
  obtain ⟨M40, e41, hf⟩ := pk_bnd hf
  refine s_putRF X (ci := 8) (k := 2) rfl (Nat.le_of_ble_eq_true rfl) h37 wd212 (fun _ _ _ => rfl) h39 (fun _ => ⟨rfl, rfl⟩) rfl hnm rfl e41 dX8_init_31 ?_
  have h42 := io_sR e41 h37
  have h43 := io_sR e41 h38
  have h44 := io_sR e41 h39
  refine s_aload_n X 0 dX8_init_34 rfl rfl ?_
  refine s_sipush X (v := (305 : Int32)) dX8_init_35 rfl ?_
  obtain ⟨h45, hf⟩ := pk_chk hf
  obtain ⟨h46, hf⟩ := pk_chk hf
  obtain ⟨o49, e50, hf⟩ := pk_bnd hf
  obtain ⟨M47, e48, hf⟩ := pk_bnd hf
  refine s_newI X wd184 h45 h46 e48 dX8_init_38 (e50 ▸ ?_)
  have h51 := io_nw e48 h42
  have h52 := io_nw e48 h43
  have h53 := io_nw e48 h44
  have h54 := io_nwn e48 e50
  obtain ⟨M55, e56, hf⟩ := pk_bnd hf
  refine s_putRF X (ci := 8) (k := 3) rfl (Nat.le_of_ble_eq_true rfl) h51 wd213 (fun _ _ _ => rfl) h54 (fun _ => ⟨rfl, rfl⟩) rfl hnm rfl e56 dX8_init_40 ?_
  have h57 := io_sR e56 h51
  have h58 := io_sR e56 h52
  have h59 := io_sR e56 h53
  have h60 := io_sR e56 h54
  refine s_aload_n X 0 dX8_init_43 rfl rfl ?_
  refine s_bipush X (v := (16 : Int32)) dX8_init_44 rfl ?_
  obtain ⟨h61, hf⟩ := pk_chk hf
  obtain ⟨h62, hf⟩ := pk_chk hf
  obtain ⟨o65, e66, hf⟩ := pk_bnd hf
  obtain ⟨M63, e64, hf⟩ := pk_bnd hf
  refine s_newI X wd184 h61 h62 e64 dX8_init_46 (e66 ▸ ?_)
  have h67 := io_nw e64 h57
  have h68 := io_nw e64 h58
  have h69 := io_nw e64 h59
  have h70 := io_nw e64 h60
  have h71 := io_nwn e64 e66
  obtain ⟨M72, e73, hf⟩ := pk_bnd hf
  refine s_putRF X (ci := 8) (k := 4) rfl (Nat.le_of_ble_eq_true rfl) h67 wd214 (fun _ _ _ => rfl) h71 (fun _ => ⟨rfl, rfl⟩) rfl hnm rfl e73 dX8_init_48 ?_
  have h74 := io_sR e73 h67
  have h75 := io_sR e73 h68
  have h76 := io_sR e73 h69
  have h77 := io_sR e73 h70
  have h78 := io_sR e73 h71
  refine s_aload_n X 0 dX8_init_51 rfl rfl ?_
  refine s_bipush X (v := (16 : Int32)) dX8_init_52 rfl ?_
  obtain ⟨h79, hf⟩ := pk_chk hf
  obtain ⟨h80, hf⟩ := pk_chk hf
  obtain ⟨o83, e84, hf⟩ := pk_bnd hf
  obtain ⟨M81, e82, hf⟩ := pk_bnd hf
  refine s_newI X wd184 h79 h80 e82 dX8_init_54 (e84 ▸ ?_)
  have h85 := io_nw e82 h74
  have h86 := io_nw e82 h75
  have h87 := io_nw e82 h76
  have h88 := io_nw e82 h77
  have h89 := io_nw e82 h78
  have h90 := io_nwn e82 e84
  obtain ⟨M91, e92, hf⟩ := pk_bnd hf
  refine s_putRF X (ci := 8) (k := 5) rfl (Nat.le_of_ble_eq_true rfl) h85 wd215 (fun _ _ _ => rfl) h90 (fun _ => ⟨rfl, rfl⟩) rfl hnm rfl e92 dX8_init_56 ?_
  have h93 := io_sR e92 h85
  have h94 := io_sR e92 h86
  have h95 := io_sR e92 h87
  have h96 := io_sR e92 h88
  have h97 := io_sR e92 h89
  have h98 := io_sR e92 h90
  cases hf
  exact s_vret X hr hlk dX8_init_59
theorem dX5_init_0 : decode cX5_init 0 = .ok (.aload_n 0, 1) := dk_42 (by decide +kernel)
theorem dX5_init_1 : decode cX5_init 1 = .ok (.invokespecial 3, 3) := dk_183 (x := 0) (y := 3) (by decide +kernel) rfl
theorem dX5_init_4 : decode cX5_init 4 = .ok (.aload_n 0, 1) := dk_42 (by decide +kernel)
theorem dX5_init_5 : decode cX5_init 5 = .ok (.sipush 256, 3) := dk_17 (x := 1) (y := 0) (by decide +kernel) rfl
theorem dX5_init_8 : decode cX5_init 8 = .ok (.newarray .int, 2) := dk_na_10 (by decide +kernel)
theorem dX5_init_10 : decode cX5_init 10 = .ok (.putfield 9, 3) := dk_181 (x := 0) (y := 9) (by decide +kernel) rfl
theorem dX5_init_13 : decode cX5_init 13 = .ok (.aload_n 0, 1) := dk_42 (by decide +kernel)
theorem dX5_init_14 : decode cX5_init 14 = .ok (.sipush 256, 3) := dk_17 (x := 1) (y := 0) (by decide +kernel) rfl
theorem dX5_init_17 : decode cX5_init 17 = .ok (.newarray .int, 2) := dk_na_10 (by decide +kernel)
theorem dX5_init_19 : decode cX5_init 19 = .ok (.putfield 15, 3) := dk_181 (x := 0) (y := 15) (by decide +kernel) rfl
theorem dX5_init_22 : decode cX5_init 22 = .ok (.aload_n 0, 1) := dk_42 (by decide +kernel)
theorem dX5_init_23 : decode cX5_init 23 = .ok (.sipush 256, 3) := dk_17 (x := 1) (y := 0) (by decide +kernel) rfl
theorem dX5_init_26 : decode cX5_init 26 = .ok (.newarray .int, 2) := dk_na_10 (by decide +kernel)
theorem dX5_init_28 : decode cX5_init 28 = .ok (.putfield 18, 3) := dk_181 (x := 0) (y := 18) (by decide +kernel) rfl
theorem dX5_init_31 : decode cX5_init 31 = .ok (.aload_n 0, 1) := dk_42 (by decide +kernel)
theorem dX5_init_32 : decode cX5_init 32 = .ok (.bipush 16, 2) := dk_16 (x := 16) (by decide +kernel) rfl
theorem dX5_init_34 : decode cX5_init 34 = .ok (.newarray .int, 2) := dk_na_10 (by decide +kernel)
theorem dX5_init_36 : decode cX5_init 36 = .ok (.putfield 21, 3) := dk_181 (x := 0) (y := 21) (by decide +kernel) rfl
theorem dX5_init_39 : decode cX5_init 39 = .ok (.aload_n 0, 1) := dk_42 (by decide +kernel)
theorem dX5_init_40 : decode cX5_init 40 = .ok (.bipush 6, 2) := dk_16 (x := 6) (by decide +kernel) rfl
theorem dX5_init_42 : decode cX5_init 42 = .ok (.newarray .int, 2) := dk_na_10 (by decide +kernel)
theorem dX5_init_44 : decode cX5_init 44 = .ok (.putfield 24, 3) := dk_181 (x := 0) (y := 24) (by decide +kernel) rfl
theorem dX5_init_47 : decode cX5_init 47 = .ok (.aload_n 0, 1) := dk_42 (by decide +kernel)
theorem dX5_init_48 : decode cX5_init 48 = .ok (.bipush 64, 2) := dk_16 (x := 64) (by decide +kernel) rfl
theorem dX5_init_50 : decode cX5_init 50 = .ok (.newarray .int, 2) := dk_na_10 (by decide +kernel)
theorem dX5_init_52 : decode cX5_init 52 = .ok (.putfield 27, 3) := dk_181 (x := 0) (y := 27) (by decide +kernel) rfl
theorem dX5_init_55 : decode cX5_init 55 = .ok (.aload_n 0, 1) := dk_42 (by decide +kernel)
theorem dX5_init_56 : decode cX5_init 56 = .ok (.bipush 64, 2) := dk_16 (x := 64) (by decide +kernel) rfl
theorem dX5_init_58 : decode cX5_init 58 = .ok (.newarray .int, 2) := dk_na_10 (by decide +kernel)
theorem dX5_init_60 : decode cX5_init 60 = .ok (.putfield 30, 3) := dk_181 (x := 0) (y := 30) (by decide +kernel) rfl
theorem dX5_init_63 : decode cX5_init 63 = .ok (.aload_n 0, 1) := dk_42 (by decide +kernel)
theorem dX5_init_64 : decode cX5_init 64 = .ok (.bipush 64, 2) := dk_16 (x := 64) (by decide +kernel) rfl
theorem dX5_init_66 : decode cX5_init 66 = .ok (.newarray .int, 2) := dk_na_10 (by decide +kernel)
theorem dX5_init_68 : decode cX5_init 68 = .ok (.putfield 33, 3) := dk_181 (x := 0) (y := 33) (by decide +kernel) rfl
theorem dX5_init_71 : decode cX5_init 71 = .ok (.aload_n 0, 1) := dk_42 (by decide +kernel)
theorem dX5_init_72 : decode cX5_init 72 = .ok (.iconst (-1), 1) := dk_2 (by decide +kernel)
theorem dX5_init_73 : decode cX5_init 73 = .ok (.putfield 36, 3) := dk_181 (x := 0) (y := 36) (by decide +kernel) rfl
theorem dX5_init_76 : decode cX5_init 76 = .ok (.return_, 1) := dk_177 (by decide +kernel)
def f_X5_init (o : Nat) (M : Mem) : Option Mem :=
  chk (¬ (256 : Int32) < 0) <|
  chk (mN M + 1 ≤ CAP ∧ mU M + ((256 : Int32)).toNatClampNeg ≤ CAPU) <|
  bnd (mN M) fun o5 =>
  bnd (nw M 100 ((256 : Int32)).toNatClampNeg ((256 : Int32)).toNatClampNeg) fun M3 =>
  chk (isO M3 5 o) <|
  bnd (sR M3 o 0 o5) fun M9 =>
  chk (¬ (256 : Int32) < 0) <|
  chk (mN M9 + 1 ≤ CAP ∧ mU M9 + ((256 : Int32)).toNatClampNeg ≤ CAPU) <|
  bnd (mN M9) fun o17 =>
  bnd (nw M9 100 ((256 : Int32)).toNatClampNeg ((256 : Int32)).toNatClampNeg) fun M15 =>
  bnd (sR M15 o 1 o17) fun M22 =>
  chk (¬ (256 : Int32) < 0) <|
  chk (mN M22 + 1 ≤ CAP ∧ mU M22 + ((256 : Int32)).toNatClampNeg ≤ CAPU) <|
  bnd (mN M22) fun o31 =>
  bnd (nw M22 100 ((256 : Int32)).toNatClampNeg ((256 : Int32)).toNatClampNeg) fun M29 =>
  bnd (sR M29 o 2 o31) fun M37 =>
  chk (¬ (16 : Int32) < 0) <|
  chk (mN M37 + 1 ≤ CAP ∧ mU M37 + ((16 : Int32)).toNatClampNeg ≤ CAPU) <|
  bnd (mN M37) fun o47 =>
  bnd (nw M37 100 ((16 : Int32)).toNatClampNeg ((16 : Int32)).toNatClampNeg) fun M45 =>
  bnd (sR M45 o 3 o47) fun M54 =>
  chk (¬ (6 : Int32) < 0) <|
  chk (mN M54 + 1 ≤ CAP ∧ mU M54 + ((6 : Int32)).toNatClampNeg ≤ CAPU) <|
  bnd (mN M54) fun o65 =>
  bnd (nw M54 100 ((6 : Int32)).toNatClampNeg ((6 : Int32)).toNatClampNeg) fun M63 =>
  bnd (sR M63 o 4 o65) fun M73 =>
  chk (¬ (64 : Int32) < 0) <|
  chk (mN M73 + 1 ≤ CAP ∧ mU M73 + ((64 : Int32)).toNatClampNeg ≤ CAPU) <|
  bnd (mN M73) fun o85 =>
  bnd (nw M73 100 ((64 : Int32)).toNatClampNeg ((64 : Int32)).toNatClampNeg) fun M83 =>
  bnd (sR M83 o 5 o85) fun M94 =>
  chk (¬ (64 : Int32) < 0) <|
  chk (mN M94 + 1 ≤ CAP ∧ mU M94 + ((64 : Int32)).toNatClampNeg ≤ CAPU) <|
  bnd (mN M94) fun o107 =>
  bnd (nw M94 100 ((64 : Int32)).toNatClampNeg ((64 : Int32)).toNatClampNeg) fun M105 =>
  bnd (sR M105 o 6 o107) fun M117 =>
  chk (¬ (64 : Int32) < 0) <|
  chk (mN M117 + 1 ≤ CAP ∧ mU M117 + ((64 : Int32)).toNatClampNeg ≤ CAPU) <|
  bnd (mN M117) fun o131 =>
  bnd (nw M117 100 ((64 : Int32)).toNatClampNeg ((64 : Int32)).toNatClampNeg) fun M129 =>
  bnd (sR M129 o 7 o131) fun M142 =>
  bnd (sI M142 o 9 (-1 : Int32)) fun M153 =>
  some M153
theorem cd_X5_init : (yX5_init.cls ≠ "java/lang/invoke/MethodHandle" ∧ yX5_init.cls ≠ "java/lang/invoke/VarHandle") ∧ (parseMethodDescriptor yX5_init.desc).map (fun d => d.parameters.length) = some 0 := ⟨⟨by decide +kernel, by decide +kernel⟩, by decide +kernel⟩
theorem k_X5_init (G : Gam) {o : Nat} {M : Mem} {rv : Mem} (hf : f_X5_init o M = some rv) : Kt yX5_init cX5_init 1 none 1 24 G [.ref (gB G + o)] M rv none := by
  refine Kt.of (by decide) (Nat.le_of_ble_eq_true rfl) ?_
  intro p l e R s m args below meth c X hr hlk hnm
  refine s_drop [0] (vs' := [(0, .ref (gB G + o))]) rfl ?_
  rw [f_X5_init] at hf
  refine s_aload_n X 0 dX5_init_0 rfl rfl ?_
  refine s_objInit X (o := o) wd247 wd151 wd152 ⟨Nat.le_of_ble_eq_true rfl, Nat.le_of_ble_eq_true rfl⟩ dX5_init_1 ?_
  refine s_aload_n X 0 dX5_init_4 rfl rfl ?_
  refine s_sipush X (v := (256 : Int32)) dX5_init_5 rfl ?_
  obtain ⟨h1, hf⟩ := pk_chk hf
  obtain ⟨h2, hf⟩ := pk_chk hf
  obtain ⟨o5, e6, hf⟩ := pk_bnd hf
  obtain ⟨M3, e4, hf⟩ := pk_bnd hf
  refine s_newI X wd184 h1 h2 e4 dX5_init_8 (e6 ▸ ?_)
  have h7 := io_nwn e4 e6
  obtain ⟨h8, hf⟩ := pk_chk hf
  obtain ⟨M9, e10, hf⟩ := pk_bnd hf
  refine s_putRF X (ci := 5) (k := 0) rfl (Nat.le_of_ble_eq_true rfl) h8 wd248 (fun _ _ _ => rfl) h7 (fun _ => ⟨rfl, rfl⟩) rfl hnm rfl e10 dX5_init_10 ?_
  have h11 := io_sR e10 h7
  have h12 := io_sR e10 h8
  refine s_aload_n X 0 dX5_init_13 rfl rfl ?_
  refine s_sipush X (v := (256 : Int32)) dX5_init_14 rfl ?_
  obtain ⟨h13, hf⟩ := pk_chk hf
  obtain ⟨h14, hf⟩ := pk_chk hf
  obtain ⟨o17, e18, hf⟩ := pk_bnd hf
  obtain ⟨M15, e16, hf⟩ := pk_bnd hf
  refine s_newI X wd184 h13 h14 e16 dX5_init_17 (e18 ▸ ?_)
  have h19 := io_nw e16 h11
  have h20 := io_nw e16 h12
  have h21 := io_nwn e16 e18
  obtain ⟨M22, e23, hf⟩ := pk_bnd hf
  refine s_putRF X (ci := 5) (k := 1) rfl (Nat.le_of_ble_eq_true rfl) h20 wd250 (fun _ _ _ => rfl) h21 (fun _ => ⟨rfl, rfl⟩) rfl hnm rfl e23 dX5_init_19 ?_
  have h24 := io_sR e23 h19
  have h25 := io_sR e23 h20
  have h26 := io_sR e23 h21
  refine s_aload_n X 0 dX5_init_22 rfl rfl ?_
  refine s_sipush X (v := (256 : Int32)) dX5_init_23 rfl ?_
  obtain ⟨h27, hf⟩ := pk_chk hf
  obtain ⟨h28, hf⟩ := pk_chk hf
  obtain ⟨o31, e32, hf⟩ := pk_bnd hf
  obtain ⟨M29, e30, hf⟩ := pk_bnd hf
  refine s_newI X wd184 h27 h28 e30 dX5_init_26 (e32 ▸ ?_)
  have h33 := io_nw e30 h24
  have h34 := io_nw e30 h25
  have h35 := io_nw e30 h26
  have h36 := io_nwn e30 e32
  obtain ⟨M37, e38, hf⟩ := pk_bnd hf
  refine s_putRF X (ci := 5) (k := 2) rfl (Nat.le_of_ble_eq_true rfl) h34 wd251 (fun _ _ _ => rfl) h36 (fun _ => ⟨rfl, rfl⟩) rfl hnm rfl e38 dX5_init_28 ?_
  have h39 := io_sR e38 h33
  have h40 := io_sR e38 h34
  have h41 := io_sR e38 h35
  have h42 := io_sR e38 h36
  refine s_aload_n X 0 dX5_init_31 rfl rfl ?_
  refine s_bipush X (v := (16 : Int32)) dX5_init_32 rfl ?_
  obtain ⟨h43, hf⟩ := pk_chk hf
  obtain ⟨h44, hf⟩ := pk_chk hf
  obtain ⟨o47, e48, hf⟩ := pk_bnd hf
  obtain ⟨M45, e46, hf⟩ := pk_bnd hf
  refine s_newI X wd184 h43 h44 e46 dX5_init_34 (e48 ▸ ?_)
  have h49 := io_nw e46 h39
  have h50 := io_nw e46 h40
  have h51 := io_nw e46 h41
  have h52 := io_nw e46 h42
  have h53 := io_nwn e46 e48
  obtain ⟨M54, e55, hf⟩ := pk_bnd hf
  refine s_putRF X (ci := 5) (k := 3) rfl (Nat.le_of_ble_eq_true rfl) h50 wd253 (fun _ _ _ => rfl) h53 (fun _ => ⟨rfl, rfl⟩) rfl hnm rfl e55 dX5_init_36 ?_
  have h56 := io_sR e55 h49
  have h57 := io_sR e55 h50
  have h58 := io_sR e55 h51
  have h59 := io_sR e55 h52
  have h60 := io_sR e55 h53
  refine s_aload_n X 0 dX5_init_39 rfl rfl ?_
  refine s_bipush X (v := (6 : Int32)) dX5_init_40 rfl ?_
  obtain ⟨h61, hf⟩ := pk_chk hf
  obtain ⟨h62, hf⟩ := pk_chk hf
  obtain ⟨o65, e66, hf⟩ := pk_bnd hf
  obtain ⟨M63, e64, hf⟩ := pk_bnd hf
  refine s_newI X wd184 h61 h62 e64 dX5_init_42 (e66 ▸ ?_)
  have h67 := io_nw e64 h56
  have h68 := io_nw e64 h57
  have h69 := io_nw e64 h58
  have h70 := io_nw e64 h59
  have h71 := io_nw e64 h60
  have h72 := io_nwn e64 e66
  obtain ⟨M73, e74, hf⟩ := pk_bnd hf
  refine s_putRF X (ci := 5) (k := 4) rfl (Nat.le_of_ble_eq_true rfl) h68 wd257 (fun _ _ _ => rfl) h72 (fun _ => ⟨rfl, rfl⟩) rfl hnm rfl e74 dX5_init_44 ?_
  have h75 := io_sR e74 h67
  have h76 := io_sR e74 h68
  have h77 := io_sR e74 h69
  have h78 := io_sR e74 h70
  have h79 := io_sR e74 h71
  have h80 := io_sR e74 h72
  refine s_aload_n X 0 dX5_init_47 rfl rfl ?_
  refine s_bipush X (v := (64 : Int32)) dX5_init_48 rfl ?_
  obtain ⟨h81, hf⟩ := pk_chk hf
  obtain ⟨h82, hf⟩ := pk_chk hf
  obtain ⟨o85, e86, hf⟩ := pk_bnd hf
  obtain ⟨M83, e84, hf⟩ := pk_bnd hf
  refine s_newI X wd184 h81 h82 e84 dX5_init_50 (e86 ▸ ?_)
  have h87 := io_nw e84 h75
  have h88 := io_nw e84 h76
  have h89 := io_nw e84 h77
  have h90 := io_nw e84 h78
  have h91 := io_nw e84 h79
  have h92 := io_nw e84 h80
  have h93 := io_nwn e84 e86
  obtain ⟨M94, e95, hf⟩ := pk_bnd hf
  refine s_putR X (ci := 5) (k := 5) rfl (Nat.le_of_ble_eq_true rfl) h88 wd259 (fun _ _ _ => rfl) h93 (fun _ => ⟨rfl, rfl⟩) rfl e95 dX5_init_52 ?_
  have h96 := io_sR e95 h87
  have h97 := io_sR e95 h88
  have h98 := io_sR e95 h89
  have h99 := io_sR e95 h90
  have h100 := io_sR e95 h91
  have h101 := io_sR e95 h92
  have h102 := io_sR e95 h93
  refine s_aload_n X 0 dX5_init_55 rfl rfl ?_
  refine s_bipush X (v := (64 : Int32)) dX5_init_56 rfl ?_
  obtain ⟨h103, hf⟩ := pk_chk hf
  obtain ⟨h104, hf⟩ := pk_chk hf
  obtain ⟨o107, e108, hf⟩ := pk_bnd hf
  obtain ⟨M105, e106, hf⟩ := pk_bnd hf
  refine s_newI X wd184 h103 h104 e106 dX5_init_58 (e108 ▸ ?_)
  have h109 := io_nw e106 h96
  have h110 := io_nw e106 h97
  have h111 := io_nw e106 h98
  have h112 := io_nw e106 h99
  have h113 := io_nw e106 h100
  have h114 := io_nw e106 h101
  have h115 := io_nw e106 h102
  have h116 := io_nwn e106 e108
  obtain ⟨M117, e118, hf⟩ := pk_bnd hf
  refine s_putR X (ci := 5) (k := 6) rfl (Nat.le_of_ble_eq_true rfl) h110 wd261 (fun _ _ _ => rfl) h116 (fun _ => ⟨rfl, rfl⟩) rfl e118 dX5_init_60 ?_
  have h119 := io_sR e118 h109
  have h120 := io_sR e118 h110
  have h121 := io_sR e118 h111
  have h122 := io_sR e118 h112
  have h123 := io_sR e118 h113
  have h124 := io_sR e118 h114
  have h125 := io_sR e118 h115
  have h126 := io_sR e118 h116
  refine s_aload_n X 0 dX5_init_63 rfl rfl ?_
  refine s_bipush X (v := (64 : Int32)) dX5_init_64 rfl ?_
  obtain ⟨h127, hf⟩ := pk_chk hf
  obtain ⟨h128, hf⟩ := pk_chk hf
  obtain ⟨o131, e132, hf⟩ := pk_bnd hf
  obtain ⟨M129, e130, hf⟩ := pk_bnd hf
  refine s_newI X wd184 h127 h128 e130 dX5_init_66 (e132 ▸ ?_)
  have h133 := io_nw e130 h119
  have h134 := io_nw e130 h120
  have h135 := io_nw e130 h121
  have h136 := io_nw e130 h122
  have h137 := io_nw e130 h123
  have h138 := io_nw e130 h124
  have h139 := io_nw e130 h125
  have h140 := io_nw e130 h126
  have h141 := io_nwn e130 e132
  obtain ⟨M142, e143, hf⟩ := pk_bnd hf
  refine s_putR X (ci := 5) (k := 7) rfl (Nat.le_of_ble_eq_true rfl) h134 wd262 (fun _ _ _ => rfl) h141 (fun _ => ⟨rfl, rfl⟩) rfl e143 dX5_init_68 ?_
  have h144 := io_sR e143 h133
  have h145 := io_sR e143 h134
  have h146 := io_sR e143 h135
  have h147 := io_sR e143 h136
  have h148 := io_sR e143 h137
  have h149 := io_sR e143 h138
  have h150 := io_sR e143 h139
  have h151 := io_sR e143 h140
  have h152 := io_sR e143 h141
  refine s_aload_n X 0 dX5_init_71 rfl rfl ?_
  refine s_iconst X (v := (-1 : Int32)) dX5_init_72 rfl ?_
  obtain ⟨M153, e154, hf⟩ := pk_bnd hf
  refine s_putI X (ci := 5) (k := 9) rfl (Nat.le_of_ble_eq_true rfl) h145 wd265 (fun _ _ _ => rfl) rfl rfl e154 dX5_init_73 ?_
  have h155 := io_sI e154 h144
  have h156 := io_sI e154 h145
  have h157 := io_sI e154 h146
  have h158 := io_sI e154 h147
  have h159 := io_sI e154 h148
  have h160 := io_sI e154 h149
  have h161 := io_sI e154 h150
  have h162 := io_sI e154 h151
  have h163 := io_sI e154 h152
  cases hf
  exact s_vret X hr hlk dX5_init_76
theorem dX3_init_0 : decode cX3_init 0 = .ok (.aload_n 0, 1) := dk_42 (by decide +kernel)
theorem dX3_init_1 : decode cX3_init 1 = .ok (.invokespecial 3, 3) := dk_183 (x := 0) (y := 3) (by decide +kernel) rfl
theorem dX3_init_4 : decode cX3_init 4 = .ok (.aload_n 0, 1) := dk_42 (by decide +kernel)
theorem dX3_init_5 : decode cX3_init 5 = .ok (.iload_n 1, 1) := dk_27 (by decide +kernel)
theorem dX3_init_6 : decode cX3_init 6 = .ok (.putfield 9, 3) := dk_181 (x := 0) (y := 9) (by decide +kernel) rfl
theorem dX3_init_9 : decode cX3_init 9 = .ok (.aload_n 0, 1) := dk_42 (by decide +kernel)
theorem dX3_init_10 : decode cX3_init 10 = .ok (.iload_n 1, 1) := dk_27 (by decide +kernel)
theorem dX3_init_11 : decode cX3_init 11 = .ok (.iconst 4, 1) := dk_7 (by decide +kernel)
theorem dX3_init_12 : decode cX3_init 12 = .ok (.imul, 1) := dk_104 (by decide +kernel)
theorem dX3_init_13 : decode cX3_init 13 = .ok (.newarray .int, 2) := dk_na_10 (by decide +kernel)
theorem dX3_init_15 : decode cX3_init 15 = .ok (.putfield 15, 3) := dk_181 (x := 0) (y := 15) (by decide +kernel) rfl
theorem dX3_init_18 : decode cX3_init 18 = .ok (.return_, 1) := dk_177 (by decide +kernel)
def f_X3_init (o : Nat) (a1 : Int32) (M : Mem) : Option Mem :=
  chk (isO M 3 o) <|
  bnd (sI M o 0 a1) fun M2 =>
  chk (¬ (a1 * (4 : Int32)) < 0) <|
  chk (mN M2 + 1 ≤ CAP ∧ mU M2 + ((a1 * (4 : Int32))).toNatClampNeg ≤ CAPU) <|
  bnd (mN M2) fun o9 =>
  bnd (nw M2 100 ((a1 * (4 : Int32))).toNatClampNeg ((a1 * (4 : Int32))).toNatClampNeg) fun M7 =>
  bnd (sR M7 o 1 o9) fun M13 =>
  some M13
theorem cd_X3_init : (yX3_init.cls ≠ "java/lang/invoke/MethodHandle" ∧ yX3_init.cls ≠ "java/lang/invoke/VarHandle") ∧ (parseMethodDescriptor yX3_init.desc).map (fun d => d.parameters.length) = some 1 := ⟨⟨by decide +kernel, by decide +kernel⟩, by decide +kernel⟩
theorem k_X3_init (G : Gam) {o : Nat} {a1 : Int32} {M : Mem} {rv : Mem} (hf : f_X3_init o a1 M = some rv) : Kt yX3_init cX3_init 2 none 1 24 G [.ref (gB G + o), .int a1] M rv none := by
  refine Kt.of (by decide) (Nat.le_of_ble_eq_true rfl) ?_
  intro p l e R s m args below meth c X hr hlk hnm
  refine s_drop [0, 1] (vs' := [(0, .ref (gB G + o)), (1, .int a1)]) rfl ?_
  rw [f_X3_init] at hf
  refine s_aload_n X 0 dX3_init_0 rfl rfl ?_
  refine s_objInit X (o := o) wd306 wd151 wd152 ⟨Nat.le_of_ble_eq_true rfl, Nat.le_of_ble_eq_true rfl⟩ dX3_init_1 ?_
  refine s_aload_n X 0 dX3_init_4 rfl rfl ?_
  refine s_iload_n X 1 dX3_init_5 rfl rfl ?_
  obtain ⟨h1, hf⟩ := pk_chk hf
  obtain ⟨M2, e3, hf⟩ := pk_bnd hf
  refine s_putIF X (ci := 3) (k := 0) rfl (Nat.le_of_ble_eq_true rfl) h1 wd307 (fun _ _ _ => rfl) rfl rfl hnm rfl e3 dX3_init_6 ?_
  have h4 := io_sI e3 h1
  refine s_aload_n X 0 dX3_init_9 rfl rfl ?_
  refine s_iload_n X 1 dX3_init_10 rfl rfl ?_
  refine s_iconst X (v := (4 : Int32)) dX3_init_11 rfl ?_
  refine s_imul X dX3_init_12 ?_
  obtain ⟨h5, hf⟩ := pk_chk hf
  obtain ⟨h6, hf⟩ := pk_chk hf
  obtain ⟨o9, e10, hf⟩ := pk_bnd hf
  obtain ⟨M7, e8, hf⟩ := pk_bnd hf
  refine s_newI X wd184 h5 h6 e8 dX3_init_13 (e10 ▸ ?_)
  have h11 := io_nw e8 h4
  have h12 := io_nwn e8 e10
  obtain ⟨M13, e14, hf⟩ := pk_bnd hf
  refine s_putRF X (ci := 3) (k := 1) rfl (Nat.le_of_ble_eq_true rfl) h11 wd308 (fun _ _ _ => rfl) h12 (fun _ => ⟨rfl, rfl⟩) rfl hnm rfl e14 dX3_init_15 ?_
  have h15 := io_sR e14 h11
  have h16 := io_sR e14 h12
  cases hf
  exact s_vret X hr hlk dX3_init_18
theorem dX4_init_0 : decode cX4_init 0 = .ok (.aload_n 0, 1) := dk_42 (by decide +kernel)
theorem dX4_init_1 : decode cX4_init 1 = .ok (.invokespecial 3, 3) := dk_183 (x := 0) (y := 3) (by decide +kernel) rfl
theorem dX4_init_4 : decode cX4_init 4 = .ok (.aload_n 0, 1) := dk_42 (by decide +kernel)
theorem dX4_init_5 : decode cX4_init 5 = .ok (.iconst (-1), 1) := dk_2 (by decide +kernel)
theorem dX4_init_6 : decode cX4_init 6 = .ok (.putfield 9, 3) := dk_181 (x := 0) (y := 9) (by decide +kernel) rfl
theorem dX4_init_9 : decode cX4_init 9 = .ok (.aload_n 0, 1) := dk_42 (by decide +kernel)
theorem dX4_init_10 : decode cX4_init 10 = .ok (.iconst (-1), 1) := dk_2 (by decide +kernel)
theorem dX4_init_11 : decode cX4_init 11 = .ok (.putfield 15, 3) := dk_181 (x := 0) (y := 15) (by decide +kernel) rfl
theorem dX4_init_14 : decode cX4_init 14 = .ok (.aload_n 0, 1) := dk_42 (by decide +kernel)
theorem dX4_init_15 : decode cX4_init 15 = .ok (.bipush 16, 2) := dk_16 (x := 16) (by decide +kernel) rfl
theorem dX4_init_17 : decode cX4_init 17 = .ok (.newarray .int, 2) := dk_na_10 (by decide +kernel)
theorem dX4_init_19 : decode cX4_init 19 = .ok (.putfield 18, 3) := dk_181 (x := 0) (y := 18) (by decide +kernel) rfl
theorem dX4_init_22 : decode cX4_init 22 = .ok (.return_, 1) := dk_177 (by decide +kernel)
def f_X4_init (o : Nat) (M : Mem) : Option Mem :=
  chk (isO M 4 o) <|
  bnd (sI M o 6 (-1 : Int32)) fun M2 =>
  bnd (sI M2 o 7 (-1 : Int32)) fun M5 =>
  chk (¬ (16 : Int32) < 0) <|
  chk (mN M5 + 1 ≤ CAP ∧ mU M5 + ((16 : Int32)).toNatClampNeg ≤ CAPU) <|
  bnd (mN M5) fun o12 =>
  bnd (nw M5 100 ((16 : Int32)).toNatClampNeg ((16 : Int32)).toNatClampNeg) fun M10 =>
  bnd (sR M10 o 10 o12) fun M16 =>
  some M16
theorem cd_X4_init : (yX4_init.cls ≠ "java/lang/invoke/MethodHandle" ∧ yX4_init.cls ≠ "java/lang/invoke/VarHandle") ∧ (parseMethodDescriptor yX4_init.desc).map (fun d => d.parameters.length) = some 0 := ⟨⟨by decide +kernel, by decide +kernel⟩, by decide +kernel⟩
theorem k_X4_init (G : Gam) {o : Nat} {M : Mem} {rv : Mem} (hf : f_X4_init o M = some rv) : Kt yX4_init cX4_init 1 none 1 24 G [.ref (gB G + o)] M rv none := by
  refine Kt.of (by decide) (Nat.le_of_ble_eq_true rfl) ?_
  intro p l e R s m args below meth c X hr hlk hnm
  refine s_drop [0] (vs' := [(0, .ref (gB G + o))]) rfl ?_
  rw [f_X4_init] at hf
  refine s_aload_n X 0 dX4_init_0 rfl rfl ?_
  refine s_objInit X (o := o) wd324 wd151 wd152 ⟨Nat.le_of_ble_eq_true rfl, Nat.le_of_ble_eq_true rfl⟩ dX4_init_1 ?_
  refine s_aload_n X 0 dX4_init_4 rfl rfl ?_
  refine s_iconst X (v := (-1 : Int32)) dX4_init_5 rfl ?_
  obtain ⟨h1, hf⟩ := pk_chk hf
  obtain ⟨M2, e3, hf⟩ := pk_bnd hf
  refine s_putI X (ci := 4) (k := 6) rfl (Nat.le_of_ble_eq_true rfl) h1 wd349 (fun _ _ _ => rfl) rfl rfl e3 dX4_init_6 ?_
  have h4 := io_sI e3 h1
  refine s_aload_n X 0 dX4_init_9 rfl rfl ?_
  refine s_iconst X (v := (-1 : Int32)) dX4_init_10 rfl ?_
  obtain ⟨M5, e6, hf⟩ := pk_bnd hf
  refine s_putI X (ci := 4) (k := 7) rfl (Nat.le_of_ble_eq_true rfl) h4 wd353 (fun _ _ _ => rfl) rfl rfl e6 dX4_init_11 ?_
  have h7 := io_sI e6 h4
  refine s_aload_n X 0 dX4_init_14 rfl rfl ?_
  refine s_bipush X (v := (16 : Int32)) dX4_init_15 rfl ?_
  obtain ⟨h8, hf⟩ := pk_chk hf
  obtain ⟨h9, hf⟩ := pk_chk hf
  obtain ⟨o12, e13, hf⟩ := pk_bnd hf
  obtain ⟨M10, e11, hf⟩ := pk_bnd hf
  refine s_newI X wd184 h8 h9 e11 dX4_init_17 (e13 ▸ ?_)
  have h14 := io_nw e11 h7
  have h15 := io_nwn e11 e13
  obtain ⟨M16, e17, hf⟩ := pk_bnd hf
  refine s_putRF X (ci := 4) (k := 10) rfl (Nat.le_of_ble_eq_true rfl) h14 wd365 (fun _ _ _ => rfl) h15 (fun _ => ⟨rfl, rfl⟩) rfl hnm rfl e17 dX4_init_19 ?_
  have h18 := io_sR e17 h14
  have h19 := io_sR e17 h15
  cases hf
  exact s_vret X hr hlk dX4_init_22
theorem dX2_init_0 : decode cX2_init 0 = .ok (.aload_n 0, 1) := dk_42 (by decide +kernel)
theorem dX2_init_1 : decode cX2_init 1 = .ok (.invokespecial 3, 3) := dk_183 (x := 0) (y := 3) (by decide +kernel) rfl
theorem dX2_init_4 : decode cX2_init 4 = .ok (.aload_n 0, 1) := dk_42 (by decide +kernel)
theorem dX2_init_5 : decode cX2_init 5 = .ok (.new 9, 3) := dk_187 (x := 0) (y := 9) (by decide +kernel) rfl
theorem dX2_init_8 : decode cX2_init 8 = .ok (.dup, 1) := dk_89 (by decide +kernel)
theorem dX2_init_9 : decode cX2_init 9 = .ok (.invokespecial 11, 3) := dk_183 (x := 0) (y := 11) (by decide +kernel) rfl
theorem dX2_init_12 : decode cX2_init 12 = .ok (.putfield 12, 3) := dk_181 (x := 0) (y := 12) (by decide +kernel) rfl
theorem dX2_init_15 : decode cX2_init 15 = .ok (.aload_n 0, 1) := dk_42 (by decide +kernel)
theorem dX2_init_16 : decode cX2_init 16 = .ok (.bipush 16, 2) := dk_16 (x := 16) (by decide +kernel) rfl
theorem dX2_init_18 : decode cX2_init 18 = .ok (.anewarray 18, 3) := dk_189 (x := 0) (y := 18) (by decide +kernel) rfl
theorem dX2_init_21 : decode cX2_init 21 = .ok (.putfield 20, 3) := dk_181 (x := 0) (y := 20) (by decide +kernel) rfl
theorem dX2_init_24 : decode cX2_init 24 = .ok (.aload_n 0, 1) := dk_42 (by decide +kernel)
theorem dX2_init_25 : decode cX2_init 25 = .ok (.new 24, 3) := dk_187 (x := 0) (y := 24) (by decide +kernel) rfl
theorem dX2_init_28 : decode cX2_init 28 = .ok (.dup, 1) := dk_89 (by decide +kernel)
theorem dX2_init_29 : decode cX2_init 29 = .ok (.bipush 30, 2) := dk_16 (x := 30) (by decide +kernel) rfl
theorem dX2_init_31 : decode cX2_init 31 = .ok (.invokespecial 26, 3) := dk_183 (x := 0) (y := 26) (by decide +kernel) rfl
theorem dX2_init_34 : decode cX2_init 34 = .ok (.putfield 29, 3) := dk_181 (x := 0) (y := 29) (by decide +kernel) rfl
theorem dX2_init_37 : decode cX2_init 37 = .ok (.aload_n 0, 1) := dk_42 (by decide +kernel)
theorem dX2_init_38 : decode cX2_init 38 = .ok (.new 24, 3) := dk_187 (x := 0) (y := 24) (by decide +kernel) rfl
theorem dX2_init_41 : decode cX2_init 41 = .ok (.dup, 1) := dk_89 (by decide +kernel)
theorem dX2_init_42 : decode cX2_init 42 = .ok (.bipush 40, 2) := dk_16 (x := 40) (by decide +kernel) rfl
theorem dX2_init_44 : decode cX2_init 44 = .ok (.invokespecial 26, 3) := dk_183 (x := 0) (y := 26) (by decide +kernel) rfl
theorem dX2_init_47 : decode cX2_init 47 = .ok (.putfield 33, 3) := dk_181 (x := 0) (y := 33) (by decide +kernel) rfl
theorem dX2_init_50 : decode cX2_init 50 = .ok (.aload_n 0, 1) := dk_42 (by decide +kernel)
theorem dX2_init_51 : decode cX2_init 51 = .ok (.bipush 16, 2) := dk_16 (x := 16) (by decide +kernel) rfl
theorem dX2_init_53 : decode cX2_init 53 = .ok (.newarray .int, 2) := dk_na_10 (by decide +kernel)
theorem dX2_init_55 : decode cX2_init 55 = .ok (.putfield 36, 3) := dk_181 (x := 0) (y := 36) (by decide +kernel) rfl
theorem dX2_init_58 : decode cX2_init 58 = .ok (.aload_n 0, 1) := dk_42 (by decide +kernel)
theorem dX2_init_59 : decode cX2_init 59 = .ok (.bipush 16, 2) := dk_16 (x := 16) (by decide +kernel) rfl
theorem dX2_init_61 : decode cX2_init 61 = .ok (.newarray .int, 2) := dk_na_10 (by decide +kernel)
theorem dX2_init_63 : decode cX2_init 63 = .ok (.putfield 40, 3) := dk_181 (x := 0) (y := 40) (by decide +kernel) rfl
theorem dX2_init_66 : decode cX2_init 66 = .ok (.aload_n 0, 1) := dk_42 (by decide +kernel)
theorem dX2_init_67 : decode cX2_init 67 = .ok (.aload_n 1, 1) := dk_43 (by decide +kernel)
theorem dX2_init_68 : decode cX2_init 68 = .ok (.putfield 43, 3) := dk_181 (x := 0) (y := 43) (by decide +kernel) rfl
theorem dX2_init_71 : decode cX2_init 71 = .ok (.iconst 0, 1) := dk_3 (by decide +kernel)
theorem dX2_init_72 : decode cX2_init 72 = .ok (.istore_n 2, 1) := dk_61 (by decide +kernel)
theorem dX2_init_73 : decode cX2_init 73 = .ok (.iload_n 2, 1) := dk_28 (by decide +kernel)
theorem dX2_init_74 : decode cX2_init 74 = .ok (.bipush 16, 2) := dk_16 (x := 16) (by decide +kernel) rfl
theorem dX2_init_76 : decode cX2_init 76 = .ok (.if_icmp .ge 22, 3) := dk_162 (x := 0) (y := 22) (by decide +kernel) rfl
theorem dX2_init_79 : decode cX2_init 79 = .ok (.aload_n 0, 1) := dk_42 (by decide +kernel)
theorem dX2_init_80 : decode cX2_init 80 = .ok (.getfield 20, 3) := dk_180 (x := 0) (y := 20) (by decide +kernel) rfl
theorem dX2_init_83 : decode cX2_init 83 = .ok (.iload_n 2, 1) := dk_28 (by decide +kernel)
theorem dX2_init_84 : decode cX2_init 84 = .ok (.new 18, 3) := dk_187 (x := 0) (y := 18) (by decide +kernel) rfl
theorem dX2_init_87 : decode cX2_init 87 = .ok (.dup, 1) := dk_89 (by decide +kernel)
theorem dX2_init_88 : decode cX2_init 88 = .ok (.invokespecial 47, 3) := dk_183 (x := 0) (y := 47) (by decide +kernel) rfl
theorem dX2_init_91 : decode cX2_init 91 = .ok (.aastore, 1) := dk_83 (by decide +kernel)
theorem dX2_init_92 : decode cX2_init 92 = .ok (.iinc 2 1, 3) := dk_132 (x := 2) (y := 1) (by decide +kernel) rfl
theorem dX2_init_95 : decode cX2_init 95 = .ok (.goto (-22), 3) := dk_167 (x := 255) (y := 234) (by decide +kernel) rfl
theorem dX2_init_98 : decode cX2_init 98 = .ok (.return_, 1) := dk_177 (by decide +kernel)
def f_X2_init_73 : Nat → Nat → Int32 → Mem → Option Mem
  | 0, _, _, _ => none
  | n + 1, v0, v2, M =>
    if (16 : Int32) ≤ v2 then (
      some M
      ) else (
      chk (isO M 2 v0) <|
      bnd (mR M v0 2) fun o4 =>
      chk (isO M 102 o4) <|
      chk (mN M + 1 ≤ CAP ∧ mU M + 16 ≤ CAPU) <|
      bnd (mN M) fun o10 =>
      bnd (nw M 4 0 16) fun M8 =>
      obd (f_X4_init o10 M8) fun M16 =>
      chk (isO M16 102 o4) <|
      chk (inB v2 (mLn M16 o4)) <|
      chk (isO M16 4 o10) <|
      bnd (sR M16 o4 (v2).toNatClampNeg o10) fun M20 =>
      bnd (v2 + (1 : Int32)) fun x24 =>
      f_X2_init_73 n v0 x24 M20
      )
def f_X2_init (n : Nat) (o : Nat) (a1 : Nat) (M : Mem) : Option Mem :=
  chk (mN M + 1 ≤ CAP ∧ mU M + 12 ≤ CAPU) <|
  bnd (mN M) fun o4 =>
  bnd (nw M 5 0 12) fun M2 =>
  obd (f_X5_init o4 M2) fun M8 =>
  chk (isO M8 2 o) <|
  chk (isO M8 5 o4) <|
  bnd (sR M8 o 1 o4) fun M10 =>
  chk (¬ (16 : Int32) < 0) <|
  chk (mN M10 + 1 ≤ CAP ∧ mU M10 + ((16 : Int32)).toNatClampNeg ≤ CAPU) <|
  bnd (mN M10) fun o19 =>
  bnd (nw M10 102 ((16 : Int32)).toNatClampNeg ((16 : Int32)).toNatClampNeg) fun M17 =>
  bnd (sR M17 o 2 o19) fun M24 =>
  chk (mN M24 + 1 ≤ CAP ∧ mU M24 + 4 ≤ CAPU) <|
  bnd (mN M24) fun o32 =>
  bnd (nw M24 3 0 4) fun M30 =>
  obd (f_X3_init o32 (30 : Int32) M30) fun M39 =>
  chk (isO M39 2 o) <|
  chk (isO M39 3 o32) <|
  bnd (sR M39 o 3 o32) fun M41 =>
  chk (mN M41 + 1 ≤ CAP ∧ mU M41 + 4 ≤ CAPU) <|
  bnd (mN M41) fun o49 =>
  bnd (nw M41 3 0 4) fun M47 =>
  obd (f_X3_init o49 (40 : Int32) M47) fun M55 =>
  chk (isO M55 2 o) <|
  chk (isO M55 3 o49) <|
  bnd (sR M55 o 4 o49) fun M57 =>
  chk (¬ (16 : Int32) < 0) <|
  chk (mN M57 + 1 ≤ CAP ∧ mU M57 + ((16 : Int32)).toNatClampNeg ≤ CAPU) <|
  bnd (mN M57) fun o66 =>
  bnd (nw M57 100 ((16 : Int32)).toNatClampNeg ((16 : Int32)).toNatClampNeg) fun M64 =>
  bnd (sR M64 o 5 o66) fun M71 =>
  chk (¬ (16 : Int32) < 0) <|
  chk (mN M71 + 1 ≤ CAP ∧ mU M71 + ((16 : Int32)).toNatClampNeg ≤ CAPU) <|
  bnd (mN M71) fun o80 =>
  bnd (nw M71 100 ((16 : Int32)).toNatClampNeg ((16 : Int32)).toNatClampNeg) fun M78 =>
  bnd (sR M78 o 6 o80) fun M86 =>
  chk (isO M86 7 a1) <|
  bnd (sR M86 o 0 a1) fun M92 =>
  f_X2_init_73 n o (0 : Int32) M92
theorem cd_X2_init : (yX2_init.cls ≠ "java/lang/invoke/MethodHandle" ∧ yX2_init.cls ≠ "java/lang/invoke/VarHandle") ∧ (parseMethodDescriptor yX2_init.desc).map (fun d => d.parameters.length) = some 1 := ⟨⟨by decide +kernel, by decide +kernel⟩, by decide +kernel⟩
section
variable {p : Program} {l : Launch} {e : Env} {R : Room} {s : State} {m : MethodId} {args : Array Value} {below : List Frame} {meth : Method} {c : Code} {G : Gam} {M0 : Mem}
theorem l_X2_init_73 {rv : Mem} (X : Cx p R s m args c G M0 cX2_init yX2_init.cls 3 2 45) (hr : meth.sig.returnType = none) (hlk : meth.locks = false) (hnm : meth.name = "<init>") : ∀ {n : Nat} (v0 : Nat) (v2 : Int32) (M : Mem), f_X2_init_73 n v0 v2 M = some rv → Sg p l e R s m args below meth c (Qm below G args s none M0 rv) G M0 3 73 [(0, .ref (gB G + v0)), (2, .int v2)] [] M := by
  intro n
  induction n with
  | zero => intro v0 v2 M hf; exact (pk_none hf).elim
  | succ n ih =>
    intro v0 v2 M hf
    rw [f_X2_init_73] at hf
    refine s_iload_n X 1 dX2_init_73 rfl rfl ?_
    refine s_bipush X (v := (16 : Int32)) dX2_init_74 rfl ?_
    have hs1 := pk_ite hf
    clear hf
    refine s_icmp_ge X (tgt := 98) dX2_init_76 rfl (fun c2 => ?_) (fun c2 => ?_)
    · have hf := hs1.1 c2
      cases hf
      exact s_vret X hr hlk dX2_init_98
    · have hf := hs1.2 c2
      refine s_aload_n X 0 dX2_init_79 rfl rfl ?_
      obtain ⟨h3, hf⟩ := pk_chk hf
      obtain ⟨o4, e5, hf⟩ := pk_bnd hf
      obtain ⟨h6, hf⟩ := pk_chk hf
      refine s_getR X (ci := 2) (k := 2) rfl (Nat.le_of_ble_eq_true rfl) h3 wd423 (fun _ _ _ => rfl) (e5 ▸ h6) dX2_init_80 (e5 ▸ ?_)
      refine s_iload_n X 1 dX2_init_83 rfl rfl ?_
      obtain ⟨h7, hf⟩ := pk_chk hf
      obtain ⟨o10, e11, hf⟩ := pk_bnd hf
      obtain ⟨M8, e9, hf⟩ := pk_bnd hf
      refine s_new X (ci := 4) rfl wd299 wd320 wd133 h7 e9 dX2_init_84 (e11 ▸ ?_)
      have h12 := io_nw e9 h3
      have h13 := io_nw e9 h6
      have h14 := io_nwn e9 e11
      refine s_dup X dX2_init_87 rfl ?_
      obtain ⟨M16, hc15, hf⟩ := pk_obd hf
      refine s_callIN X (k_X4_init G hc15) (host := "QuorumGate") ns_4 wd322 wd323 wd133 rfl cd_X4_init ⟨Nat.le_of_ble_eq_true rfl, Nat.le_of_ble_eq_true rfl⟩ (Nat.le_of_ble_eq_true rfl) dX2_init_88 ?_
      obtain ⟨h17, hf⟩ := pk_chk hf
      obtain ⟨h18, hf⟩ := pk_chk hf
      obtain ⟨h19, hf⟩ := pk_chk hf
      obtain ⟨M20, e21, hf⟩ := pk_bnd hf
      refine s_aast X h17 h18 h19 e21 dX2_init_91 ?_
      have h22 := io_sR e21 h17
      have h23 := io_sR e21 h19
      obtain ⟨x24, e25, hf⟩ := pk_bnd hf
      refine s_iinc X (vs' := [(0, .ref (gB G + v0)), (2, .int x24)]) 1 dX2_init_92 rfl (v := x24) e25.symm (Nat.le_of_ble_eq_true rfl) [1, 0] rfl ?_
      refine s_goto X (tgt := 73) dX2_init_95 rfl ?_
      exact ih _ _ _ hf
end
theorem k_X2_init (G : Gam) {n : Nat} {o : Nat} {a1 : Nat} {M : Mem} {rv : Mem} (hf : f_X2_init n o a1 M = some rv) : Kt yX2_init cX2_init 3 none 2 45 G [.ref (gB G + o), .ref (gB G + a1)] M rv none := by
  refine Kt.of (by decide) (Nat.le_of_ble_eq_true rfl) ?_
  intro p l e R s m args below meth c X hr hlk hnm
  refine s_drop [0, 1] (vs' := [(0, .ref (gB G + o)), (1, .ref (gB G + a1))]) rfl ?_
  rw [f_X2_init] at hf
  refine s_aload_n X 0 dX2_init_0 rfl rfl ?_
  refine s_objInit X (o := o) wd241 wd151 wd152 ⟨Nat.le_of_ble_eq_true rfl, Nat.le_of_ble_eq_true rfl⟩ dX2_init_1 ?_
  refine s_aload_n X 0 dX2_init_4 rfl rfl ?_
  obtain ⟨h1, hf⟩ := pk_chk hf
  obtain ⟨o4, e5, hf⟩ := pk_bnd hf
  obtain ⟨M2, e3, hf⟩ := pk_bnd hf
  refine s_new X (ci := 5) rfl wd242 wd243 wd131 h1 e3 dX2_init_5 (e5 ▸ ?_)
  have h6 := io_nwn e3 e5
  refine s_dup X dX2_init_8 rfl ?_
  obtain ⟨M8, hc7, hf⟩ := pk_obd hf
  refine s_callIN X (k_X5_init G hc7) (host := "QuorumGate") ns_3 wd245 wd246 wd131 rfl cd_X5_init ⟨Nat.le_of_ble_eq_true rfl, Nat.le_of_ble_eq_true rfl⟩ (Nat.le_of_ble_eq_true rfl) dX2_init_9 ?_
  obtain ⟨h9, hf⟩ := pk_chk hf
  obtain ⟨h12, hf⟩ := pk_chk hf
  obtain ⟨M10, e11, hf⟩ := pk_bnd hf
  refine s_putRF X (ci := 2) (k := 1) rfl (Nat.le_of_ble_eq_true rfl) h9 wd419 (fun _ _ _ => rfl) h12 (fun _ => ⟨rfl, rfl⟩) rfl hnm rfl e11 dX2_init_12 ?_
  have h13 := io_sR e11 h9
  have h14 := io_sR e11 h12
  refine s_aload_n X 0 dX2_init_15 rfl rfl ?_
  refine s_bipush X (v := (16 : Int32)) dX2_init_16 rfl ?_
  obtain ⟨h15, hf⟩ := pk_chk hf
  obtain ⟨h16, hf⟩ := pk_chk hf
  obtain ⟨o19, e20, hf⟩ := pk_bnd hf
  obtain ⟨M17, e18, hf⟩ := pk_bnd hf
  refine s_newP X wd299 h15 h16 e18 dX2_init_18 (e20 ▸ ?_)
  have h21 := io_nw e18 h13
  have h22 := io_nw e18 h14
  have h23 := io_nwn e18 e20
  obtain ⟨M24, e25, hf⟩ := pk_bnd hf
  refine s_putRF X (ci := 2) (k := 2) rfl (Nat.le_of_ble_eq_true rfl) h21 wd423 (fun _ _ _ => rfl) h23 (fun _ => ⟨rfl, rfl⟩) rfl hnm rfl e25 dX2_init_21 ?_
  have h26 := io_sR e25 h21
  have h27 := io_sR e25 h22
  have h28 := io_sR e25 h23
  refine s_aload_n X 0 dX2_init_24 rfl rfl ?_
  obtain ⟨h29, hf⟩ := pk_chk hf
  obtain ⟨o32, e33, hf⟩ := pk_bnd hf
  obtain ⟨M30, e31, hf⟩ := pk_bnd hf
  refine s_new X (ci := 3) rfl wd301 wd302 wd132 h29 e31 dX2_init_25 (e33 ▸ ?_)
  have h34 := io_nw e31 h26
  have h35 := io_nw e31 h27
  have h36 := io_nw e31 h28
  have h37 := io_nwn e31 e33
  refine s_dup X dX2_init_28 rfl ?_
  refine s_bipush X (v := (30 : Int32)) dX2_init_29 rfl ?_
  obtain ⟨M39, hc38, hf⟩ := pk_obd hf
  refine s_callI X (k_X3_init G hc38) wd303 wd304 wd305 wd132 rfl cd_X3_init ⟨Nat.le_of_ble_eq_true rfl, Nat.le_of_ble_eq_true rfl⟩ (Nat.le_of_ble_eq_true rfl) dX2_init_31 ?_
  obtain ⟨h40, hf⟩ := pk_chk hf
  obtain ⟨h43, hf⟩ := pk_chk hf
  obtain ⟨M41, e42, hf⟩ := pk_bnd hf
  refine s_putRF X (ci := 2) (k := 3) rfl (Nat.le_of_ble_eq_true rfl) h40 wd427 (fun _ _ _ => rfl) h43 (fun _ => ⟨rfl, rfl⟩) rfl hnm rfl e42 dX2_init_34 ?_
  have h44 := io_sR e42 h40
  have h45 := io_sR e42 h43
  refine s_aload_n X 0 dX2_init_37 rfl rfl ?_
  obtain ⟨h46, hf⟩ := pk_chk hf
  obtain ⟨o49, e50, hf⟩ := pk_bnd hf
  obtain ⟨M47, e48, hf⟩ := pk_bnd hf
  refine s_new X (ci := 3) rfl wd301 wd302 wd132 h46 e48 dX2_init_38 (e50 ▸ ?_)
  have h51 := io_nw e48 h44
  have h52 := io_nw e48 h45
  have h53 := io_nwn e48 e50
  refine s_dup X dX2_init_41 rfl ?_
  refine s_bipush X (v := (40 : Int32)) dX2_init_42 rfl ?_
  obtain ⟨M55, hc54, hf⟩ := pk_obd hf
  refine s_callI X (k_X3_init G hc54) wd303 wd304 wd305 wd132 rfl cd_X3_init ⟨Nat.le_of_ble_eq_true rfl, Nat.le_of_ble_eq_true rfl⟩ (Nat.le_of_ble_eq_true rfl) dX2_init_44 ?_
  obtain ⟨h56, hf⟩ := pk_chk hf
  obtain ⟨h59, hf⟩ := pk_chk hf
  obtain ⟨M57, e58, hf⟩ := pk_bnd hf
  refine s_putRF X (ci := 2) (k := 4) rfl (Nat.le_of_ble_eq_true rfl) h56 wd429 (fun _ _ _ => rfl) h59 (fun _ => ⟨rfl, rfl⟩) rfl hnm rfl e58 dX2_init_47 ?_
  have h60 := io_sR e58 h56
  have h61 := io_sR e58 h59
  refine s_aload_n X 0 dX2_init_50 rfl rfl ?_
  refine s_bipush X (v := (16 : Int32)) dX2_init_51 rfl ?_
  obtain ⟨h62, hf⟩ := pk_chk hf
  obtain ⟨h63, hf⟩ := pk_chk hf
  obtain ⟨o66, e67, hf⟩ := pk_bnd hf
  obtain ⟨M64, e65, hf⟩ := pk_bnd hf
  refine s_newI X wd184 h62 h63 e65 dX2_init_53 (e67 ▸ ?_)
  have h68 := io_nw e65 h60
  have h69 := io_nw e65 h61
  have h70 := io_nwn e65 e67
  obtain ⟨M71, e72, hf⟩ := pk_bnd hf
  refine s_putRF X (ci := 2) (k := 5) rfl (Nat.le_of_ble_eq_true rfl) h68 wd431 (fun _ _ _ => rfl) h70 (fun _ => ⟨rfl, rfl⟩) rfl hnm rfl e72 dX2_init_55 ?_
  have h73 := io_sR e72 h68
  have h74 := io_sR e72 h69
  have h75 := io_sR e72 h70
  refine s_aload_n X 0 dX2_init_58 rfl rfl ?_
  refine s_bipush X (v := (16 : Int32)) dX2_init_59 rfl ?_
  obtain ⟨h76, hf⟩ := pk_chk hf
  obtain ⟨h77, hf⟩ := pk_chk hf
  obtain ⟨o80, e81, hf⟩ := pk_bnd hf
  obtain ⟨M78, e79, hf⟩ := pk_bnd hf
  refine s_newI X wd184 h76 h77 e79 dX2_init_61 (e81 ▸ ?_)
  have h82 := io_nw e79 h73
  have h83 := io_nw e79 h74
  have h84 := io_nw e79 h75
  have h85 := io_nwn e79 e81
  obtain ⟨M86, e87, hf⟩ := pk_bnd hf
  refine s_putRF X (ci := 2) (k := 6) rfl (Nat.le_of_ble_eq_true rfl) h82 wd433 (fun _ _ _ => rfl) h85 (fun _ => ⟨rfl, rfl⟩) rfl hnm rfl e87 dX2_init_63 ?_
  have h88 := io_sR e87 h82
  have h89 := io_sR e87 h83
  have h90 := io_sR e87 h84
  have h91 := io_sR e87 h85
  refine s_aload_n X 0 dX2_init_66 rfl rfl ?_
  refine s_aload_n X 1 dX2_init_67 rfl rfl ?_
  obtain ⟨h94, hf⟩ := pk_chk hf
  obtain ⟨M92, e93, hf⟩ := pk_bnd hf
  refine s_putRF X (ci := 2) (k := 0) rfl (Nat.le_of_ble_eq_true rfl) h88 wd416 (fun _ _ _ => rfl) h94 (fun _ => ⟨rfl, rfl⟩) rfl hnm rfl e93 dX2_init_68 ?_
  have h95 := io_sR e93 h88
  have h96 := io_sR e93 h89
  have h97 := io_sR e93 h90
  have h98 := io_sR e93 h91
  have h99 := io_sR e93 h94
  refine s_iconst X (v := (0 : Int32)) dX2_init_71 rfl ?_
  refine s_istore_n X (vs' := [(0, .ref (gB G + o)), (1, .ref (gB G + a1)), (2, .int (0 : Int32))]) dX2_init_72 rfl (Nat.le_of_ble_eq_true rfl) [1, 2, 0] rfl ?_
  refine s_drop [0, 2] (vs' := [(0, .ref (gB G + o)), (2, .int (0 : Int32))]) rfl ?_
  exact l_X2_init_73 X hr hlk hnm _ _ _ hf
theorem dX0_init_0 : decode cX0_init 0 = .ok (.aload_n 0, 1) := dk_42 (by decide +kernel)
theorem dX0_init_1 : decode cX0_init 1 = .ok (.invokespecial 3, 3) := dk_183 (x := 0) (y := 3) (by decide +kernel) rfl
theorem dX0_init_4 : decode cX0_init 4 = .ok (.aload_n 0, 1) := dk_42 (by decide +kernel)
theorem dX0_init_5 : decode cX0_init 5 = .ok (.sipush 256, 3) := dk_17 (x := 1) (y := 0) (by decide +kernel) rfl
theorem dX0_init_8 : decode cX0_init 8 = .ok (.newarray .int, 2) := dk_na_10 (by decide +kernel)
theorem dX0_init_10 : decode cX0_init 10 = .ok (.putfield 9, 3) := dk_181 (x := 0) (y := 9) (by decide +kernel) rfl
theorem dX0_init_13 : decode cX0_init 13 = .ok (.return_, 1) := dk_177 (by decide +kernel)
def f_X0_init (o : Nat) (M : Mem) : Option Mem :=
  chk (¬ (256 : Int32) < 0) <|
  chk (mN M + 1 ≤ CAP ∧ mU M + ((256 : Int32)).toNatClampNeg ≤ CAPU) <|
  bnd (mN M) fun o5 =>
  bnd (nw M 100 ((256 : Int32)).toNatClampNeg ((256 : Int32)).toNatClampNeg) fun M3 =>
  chk (isO M3 0 o) <|
  bnd (sR M3 o 0 o5) fun M9 =>
  some M9
theorem cd_X0_init : (yX0_init.cls ≠ "java/lang/invoke/MethodHandle" ∧ yX0_init.cls ≠ "java/lang/invoke/VarHandle") ∧ (parseMethodDescriptor yX0_init.desc).map (fun d => d.parameters.length) = some 0 := ⟨⟨by decide +kernel, by decide +kernel⟩, by decide +kernel⟩
theorem k_X0_init (G : Gam) {o : Nat} {M : Mem} {rv : Mem} (hf : f_X0_init o M = some rv) : Kt yX0_init cX0_init 1 none 1 24 G [.ref (gB G + o)] M rv none := by
  refine Kt.of (by decide) (Nat.le_of_ble_eq_true rfl) ?_
  intro p l e R s m args below meth c X hr hlk hnm
  refine s_drop [0] (vs' := [(0, .ref (gB G + o))]) rfl ?_
  rw [f_X0_init] at hf
  refine s_aload_n X 0 dX0_init_0 rfl rfl ?_
  refine s_objInit X (o := o) wd498 wd151 wd152 ⟨Nat.le_of_ble_eq_true rfl, Nat.le_of_ble_eq_true rfl⟩ dX0_init_1 ?_
  refine s_aload_n X 0 dX0_init_4 rfl rfl ?_
  refine s_sipush X (v := (256 : Int32)) dX0_init_5 rfl ?_
  obtain ⟨h1, hf⟩ := pk_chk hf
  obtain ⟨h2, hf⟩ := pk_chk hf
  obtain ⟨o5, e6, hf⟩ := pk_bnd hf
  obtain ⟨M3, e4, hf⟩ := pk_bnd hf
  refine s_newI X wd184 h1 h2 e4 dX0_init_8 (e6 ▸ ?_)
  have h7 := io_nwn e4 e6
  obtain ⟨h8, hf⟩ := pk_chk hf
  obtain ⟨M9, e10, hf⟩ := pk_bnd hf
  refine s_putRF X (ci := 0) (k := 0) rfl (Nat.le_of_ble_eq_true rfl) h8 wd499 (fun _ _ _ => rfl) h7 (fun _ => ⟨rfl, rfl⟩) rfl hnm rfl e10 dX0_init_10 ?_
  have h11 := io_sR e10 h7
  have h12 := io_sR e10 h8
  cases hf
  exact s_vret X hr hlk dX0_init_13
theorem dX6_init_0 : decode cX6_init 0 = .ok (.aload_n 0, 1) := dk_42 (by decide +kernel)
theorem dX6_init_1 : decode cX6_init 1 = .ok (.invokespecial 3, 3) := dk_183 (x := 0) (y := 3) (by decide +kernel) rfl
theorem dX6_init_4 : decode cX6_init 4 = .ok (.aload_n 0, 1) := dk_42 (by decide +kernel)
theorem dX6_init_5 : decode cX6_init 5 = .ok (.bipush 41, 2) := dk_16 (x := 41) (by decide +kernel) rfl
theorem dX6_init_7 : decode cX6_init 7 = .ok (.newarray .int, 2) := dk_na_10 (by decide +kernel)
theorem dX6_init_9 : decode cX6_init 9 = .ok (.putfield 9, 3) := dk_181 (x := 0) (y := 9) (by decide +kernel) rfl
theorem dX6_init_12 : decode cX6_init 12 = .ok (.aload_n 0, 1) := dk_42 (by decide +kernel)
theorem dX6_init_13 : decode cX6_init 13 = .ok (.bipush 40, 2) := dk_16 (x := 40) (by decide +kernel) rfl
theorem dX6_init_15 : decode cX6_init 15 = .ok (.newarray .int, 2) := dk_na_10 (by decide +kernel)
theorem dX6_init_17 : decode cX6_init 17 = .ok (.putfield 15, 3) := dk_181 (x := 0) (y := 15) (by decide +kernel) rfl
theorem dX6_init_20 : decode cX6_init 20 = .ok (.aload_n 0, 1) := dk_42 (by decide +kernel)
theorem dX6_init_21 : decode cX6_init 21 = .ok (.bipush 40, 2) := dk_16 (x := 40) (by decide +kernel) rfl
theorem dX6_init_23 : decode cX6_init 23 = .ok (.newarray .int, 2) := dk_na_10 (by decide +kernel)
theorem dX6_init_25 : decode cX6_init 25 = .ok (.putfield 18, 3) := dk_181 (x := 0) (y := 18) (by decide +kernel) rfl
theorem dX6_init_28 : decode cX6_init 28 = .ok (.aload_n 0, 1) := dk_42 (by decide +kernel)
theorem dX6_init_29 : decode cX6_init 29 = .ok (.bipush 16, 2) := dk_16 (x := 16) (by decide +kernel) rfl
theorem dX6_init_31 : decode cX6_init 31 = .ok (.newarray .int, 2) := dk_na_10 (by decide +kernel)
theorem dX6_init_33 : decode cX6_init 33 = .ok (.putfield 21, 3) := dk_181 (x := 0) (y := 21) (by decide +kernel) rfl
theorem dX6_init_36 : decode cX6_init 36 = .ok (.aload_n 0, 1) := dk_42 (by decide +kernel)
theorem dX6_init_37 : decode cX6_init 37 = .ok (.sipush 1024, 3) := dk_17 (x := 4) (y := 0) (by decide +kernel) rfl
theorem dX6_init_40 : decode cX6_init 40 = .ok (.newarray .int, 2) := dk_na_10 (by decide +kernel)
theorem dX6_init_42 : decode cX6_init 42 = .ok (.putfield 24, 3) := dk_181 (x := 0) (y := 24) (by decide +kernel) rfl
theorem dX6_init_45 : decode cX6_init 45 = .ok (.aload_n 0, 1) := dk_42 (by decide +kernel)
theorem dX6_init_46 : decode cX6_init 46 = .ok (.aload_n 1, 1) := dk_43 (by decide +kernel)
theorem dX6_init_47 : decode cX6_init 47 = .ok (.putfield 27, 3) := dk_181 (x := 0) (y := 27) (by decide +kernel) rfl
theorem dX6_init_50 : decode cX6_init 50 = .ok (.return_, 1) := dk_177 (by decide +kernel)
def f_X6_init (o : Nat) (a1 : Nat) (M : Mem) : Option Mem :=
  chk (¬ (41 : Int32) < 0) <|
  chk (mN M + 1 ≤ CAP ∧ mU M + ((41 : Int32)).toNatClampNeg ≤ CAPU) <|
  bnd (mN M) fun o5 =>
  bnd (nw M 100 ((41 : Int32)).toNatClampNeg ((41 : Int32)).toNatClampNeg) fun M3 =>
  chk (isO M3 6 o) <|
  bnd (sR M3 o 1 o5) fun M9 =>
  chk (¬ (40 : Int32) < 0) <|
  chk (mN M9 + 1 ≤ CAP ∧ mU M9 + ((40 : Int32)).toNatClampNeg ≤ CAPU) <|
  bnd (mN M9) fun o17 =>
  bnd (nw M9 100 ((40 : Int32)).toNatClampNeg ((40 : Int32)).toNatClampNeg) fun M15 =>
  bnd (sR M15 o 2 o17) fun M22 =>
  chk (¬ (40 : Int32) < 0) <|
  chk (mN M22 + 1 ≤ CAP ∧ mU M22 + ((40 : Int32)).toNatClampNeg ≤ CAPU) <|
  bnd (mN M22) fun o31 =>
  bnd (nw M22 100 ((40 : Int32)).toNatClampNeg ((40 : Int32)).toNatClampNeg) fun M29 =>
  bnd (sR M29 o 3 o31) fun M37 =>
  chk (¬ (16 : Int32) < 0) <|
  chk (mN M37 + 1 ≤ CAP ∧ mU M37 + ((16 : Int32)).toNatClampNeg ≤ CAPU) <|
  bnd (mN M37) fun o47 =>
  bnd (nw M37 100 ((16 : Int32)).toNatClampNeg ((16 : Int32)).toNatClampNeg) fun M45 =>
  bnd (sR M45 o 4 o47) fun M54 =>
  chk (¬ (1024 : Int32) < 0) <|
  chk (mN M54 + 1 ≤ CAP ∧ mU M54 + ((1024 : Int32)).toNatClampNeg ≤ CAPU) <|
  bnd (mN M54) fun o65 =>
  bnd (nw M54 100 ((1024 : Int32)).toNatClampNeg ((1024 : Int32)).toNatClampNeg) fun M63 =>
  bnd (sR M63 o 5 o65) fun M73 =>
  chk (isO M73 2 a1) <|
  bnd (sR M73 o 0 a1) fun M81 =>
  some M81
theorem cd_X6_init : (yX6_init.cls ≠ "java/lang/invoke/MethodHandle" ∧ yX6_init.cls ≠ "java/lang/invoke/VarHandle") ∧ (parseMethodDescriptor yX6_init.desc).map (fun d => d.parameters.length) = some 1 := ⟨⟨by decide +kernel, by decide +kernel⟩, by decide +kernel⟩
theorem k_X6_init (G : Gam) {o : Nat} {a1 : Nat} {M : Mem} {rv : Mem} (hf : f_X6_init o a1 M = some rv) : Kt yX6_init cX6_init 2 none 1 24 G [.ref (gB G + o), .ref (gB G + a1)] M rv none := by
  refine Kt.of (by decide) (Nat.le_of_ble_eq_true rfl) ?_
  intro p l e R s m args below meth c X hr hlk hnm
  refine s_drop [0, 1] (vs' := [(0, .ref (gB G + o)), (1, .ref (gB G + a1))]) rfl ?_
  rw [f_X6_init] at hf
  refine s_aload_n X 0 dX6_init_0 rfl rfl ?_
  refine s_objInit X (o := o) wd521 wd151 wd152 ⟨Nat.le_of_ble_eq_true rfl, Nat.le_of_ble_eq_true rfl⟩ dX6_init_1 ?_
  refine s_aload_n X 0 dX6_init_4 rfl rfl ?_
  refine s_bipush X (v := (41 : Int32)) dX6_init_5 rfl ?_
  obtain ⟨h1, hf⟩ := pk_chk hf
  obtain ⟨h2, hf⟩ := pk_chk hf
  obtain ⟨o5, e6, hf⟩ := pk_bnd hf
  obtain ⟨M3, e4, hf⟩ := pk_bnd hf
  refine s_newI X wd184 h1 h2 e4 dX6_init_7 (e6 ▸ ?_)
  have h7 := io_nwn e4 e6
  obtain ⟨h8, hf⟩ := pk_chk hf
  obtain ⟨M9, e10, hf⟩ := pk_bnd hf
  refine s_putRF X (ci := 6) (k := 1) rfl (Nat.le_of_ble_eq_true rfl) h8 wd523 (fun _ _ _ => rfl) h7 (fun _ => ⟨rfl, rfl⟩) rfl hnm rfl e10 dX6_init_9 ?_
  have h11 := io_sR e10 h7
  have h12 := io_sR e10 h8
  refine s_aload_n X 0 dX6_init_12 rfl rfl ?_
  refine s_bipush X (v := (40 : Int32)) dX6_init_13 rfl ?_
  obtain ⟨h13, hf⟩ := pk_chk hf
  obtain ⟨h14, hf⟩ := pk_chk hf
  obtain ⟨o17, e18, hf⟩ := pk_bnd hf
  obtain ⟨M15, e16, hf⟩ := pk_bnd hf
  refine s_newI X wd184 h13 h14 e16 dX6_init_15 (e18 ▸ ?_)
  have h19 := io_nw e16 h11
  have h20 := io_nw e16 h12
  have h21 := io_nwn e16 e18
  obtain ⟨M22, e23, hf⟩ := pk_bnd hf
  refine s_putRF X (ci := 6) (k := 2) rfl (Nat.le_of_ble_eq_true rfl) h20 wd524 (fun _ _ _ => rfl) h21 (fun _ => ⟨rfl, rfl⟩) rfl hnm rfl e23 dX6_init_17 ?_
  have h24 := io_sR e23 h19
  have h25 := io_sR e23 h20
  have h26 := io_sR e23 h21
  refine s_aload_n X 0 dX6_init_20 rfl rfl ?_
  refine s_bipush X (v := (40 : Int32)) dX6_init_21 rfl ?_
  obtain ⟨h27, hf⟩ := pk_chk hf
  obtain ⟨h28, hf⟩ := pk_chk hf
  obtain ⟨o31, e32, hf⟩ := pk_bnd hf
  obtain ⟨M29, e30, hf⟩ := pk_bnd hf
  refine s_newI X wd184 h27 h28 e30 dX6_init_23 (e32 ▸ ?_)
  have h33 := io_nw e30 h24
  have h34 := io_nw e30 h25
  have h35 := io_nw e30 h26
  have h36 := io_nwn e30 e32
  obtain ⟨M37, e38, hf⟩ := pk_bnd hf
  refine s_putRF X (ci := 6) (k := 3) rfl (Nat.le_of_ble_eq_true rfl) h34 wd525 (fun _ _ _ => rfl) h36 (fun _ => ⟨rfl, rfl⟩) rfl hnm rfl e38 dX6_init_25 ?_
  have h39 := io_sR e38 h33
  have h40 := io_sR e38 h34
  have h41 := io_sR e38 h35
  have h42 := io_sR e38 h36
  refine s_aload_n X 0 dX6_init_28 rfl rfl ?_
  refine s_bipush X (v := (16 : Int32)) dX6_init_29 rfl ?_
  obtain ⟨h43, hf⟩ := pk_chk hf
  obtain ⟨h44, hf⟩ := pk_chk hf
  obtain ⟨o47, e48, hf⟩ := pk_bnd hf
  obtain ⟨M45, e46, hf⟩ := pk_bnd hf
  refine s_newI X wd184 h43 h44 e46 dX6_init_31 (e48 ▸ ?_)
  have h49 := io_nw e46 h39
  have h50 := io_nw e46 h40
  have h51 := io_nw e46 h41
  have h52 := io_nw e46 h42
  have h53 := io_nwn e46 e48
  obtain ⟨M54, e55, hf⟩ := pk_bnd hf
  refine s_putRF X (ci := 6) (k := 4) rfl (Nat.le_of_ble_eq_true rfl) h50 wd526 (fun _ _ _ => rfl) h53 (fun _ => ⟨rfl, rfl⟩) rfl hnm rfl e55 dX6_init_33 ?_
  have h56 := io_sR e55 h49
  have h57 := io_sR e55 h50
  have h58 := io_sR e55 h51
  have h59 := io_sR e55 h52
  have h60 := io_sR e55 h53
  refine s_aload_n X 0 dX6_init_36 rfl rfl ?_
  refine s_sipush X (v := (1024 : Int32)) dX6_init_37 rfl ?_
  obtain ⟨h61, hf⟩ := pk_chk hf
  obtain ⟨h62, hf⟩ := pk_chk hf
  obtain ⟨o65, e66, hf⟩ := pk_bnd hf
  obtain ⟨M63, e64, hf⟩ := pk_bnd hf
  refine s_newI X wd184 h61 h62 e64 dX6_init_40 (e66 ▸ ?_)
  have h67 := io_nw e64 h56
  have h68 := io_nw e64 h57
  have h69 := io_nw e64 h58
  have h70 := io_nw e64 h59
  have h71 := io_nw e64 h60
  have h72 := io_nwn e64 e66
  obtain ⟨M73, e74, hf⟩ := pk_bnd hf
  refine s_putR X (ci := 6) (k := 5) rfl (Nat.le_of_ble_eq_true rfl) h68 wd527 (fun _ _ _ => rfl) h72 (fun _ => ⟨rfl, rfl⟩) rfl e74 dX6_init_42 ?_
  have h75 := io_sR e74 h67
  have h76 := io_sR e74 h68
  have h77 := io_sR e74 h69
  have h78 := io_sR e74 h70
  have h79 := io_sR e74 h71
  have h80 := io_sR e74 h72
  refine s_aload_n X 0 dX6_init_45 rfl rfl ?_
  refine s_aload_n X 1 dX6_init_46 rfl rfl ?_
  obtain ⟨h83, hf⟩ := pk_chk hf
  obtain ⟨M81, e82, hf⟩ := pk_bnd hf
  refine s_putRF X (ci := 6) (k := 0) rfl (Nat.le_of_ble_eq_true rfl) h76 wd522 (fun _ _ _ => rfl) h83 (fun _ => ⟨rfl, rfl⟩) rfl hnm rfl e82 dX6_init_47 ?_
  have h84 := io_sR e82 h75
  have h85 := io_sR e82 h76
  have h86 := io_sR e82 h77
  have h87 := io_sR e82 h78
  have h88 := io_sR e82 h79
  have h89 := io_sR e82 h80
  have h90 := io_sR e82 h83
  cases hf
  exact s_vret X hr hlk dX6_init_50
theorem dJ7_fill_53178_0 : decode cJ7_fill_53178 0 = .ok (.iconst 0, 1) := dk_3 (by decide +kernel)
theorem dJ7_fill_53178_1 : decode cJ7_fill_53178 1 = .ok (.istore_n 2, 1) := dk_61 (by decide +kernel)
theorem dJ7_fill_53178_2 : decode cJ7_fill_53178 2 = .ok (.aload_n 0, 1) := dk_42 (by decide +kernel)
theorem dJ7_fill_53178_3 : decode cJ7_fill_53178 3 = .ok (.arraylength, 1) := dk_190 (by decide +kernel)
theorem dJ7_fill_53178_4 : decode cJ7_fill_53178 4 = .ok (.istore_n 3, 1) := dk_62 (by decide +kernel)
theorem dJ7_fill_53178_5 : decode cJ7_fill_53178 5 = .ok (.iload_n 2, 1) := dk_28 (by decide +kernel)
theorem dJ7_fill_53178_6 : decode cJ7_fill_53178 6 = .ok (.iload_n 3, 1) := dk_29 (by decide +kernel)
theorem dJ7_fill_53178_7 : decode cJ7_fill_53178 7 = .ok (.if_icmp .ge 13, 3) := dk_162 (x := 0) (y := 13) (by decide +kernel) rfl
theorem dJ7_fill_53178_10 : decode cJ7_fill_53178 10 = .ok (.aload_n 0, 1) := dk_42 (by decide +kernel)
theorem dJ7_fill_53178_11 : decode cJ7_fill_53178 11 = .ok (.iload_n 2, 1) := dk_28 (by decide +kernel)
theorem dJ7_fill_53178_12 : decode cJ7_fill_53178 12 = .ok (.iload_n 1, 1) := dk_27 (by decide +kernel)
theorem dJ7_fill_53178_13 : decode cJ7_fill_53178 13 = .ok (.iastore, 1) := dk_79 (by decide +kernel)
theorem dJ7_fill_53178_14 : decode cJ7_fill_53178 14 = .ok (.iinc 2 1, 3) := dk_132 (x := 2) (y := 1) (by decide +kernel) rfl
theorem dJ7_fill_53178_17 : decode cJ7_fill_53178 17 = .ok (.goto (-12), 3) := dk_167 (x := 255) (y := 244) (by decide +kernel) rfl
theorem dJ7_fill_53178_20 : decode cJ7_fill_53178 20 = .ok (.return_, 1) := dk_177 (by decide +kernel)
def f_J7_fill_53178_5 : Nat → Nat → Int32 → Int32 → Int32 → Mem → Option Mem
  | 0, _, _, _, _, _ => none
  | n + 1, v0, v1, v2, v3, M =>
    if v3 ≤ v2 then (
      some M
      ) else (
      chk (isO M 100 v0) <|
      chk (inB v2 (mLn M v0)) <|
      bnd (sI M v0 (v2).toNatClampNeg v1) fun M5 =>
      bnd (v2 + (1 : Int32)) fun x8 =>
      f_J7_fill_53178_5 n v0 v1 x8 v3 M5
      )
def f_J7_fill_53178 (n : Nat) (a1 : Nat) (a2 : Int32) (M : Mem) : Option Mem :=
  chk (isO M 100 a1) <|
  bnd (Int32.ofNat (mLn M a1)) fun x2 =>
  f_J7_fill_53178_5 n a1 a2 (0 : Int32) x2 M
theorem cd_J7_fill_53178 : (yJ7_fill_53178.cls ≠ "java/lang/invoke/MethodHandle" ∧ yJ7_fill_53178.cls ≠ "java/lang/invoke/VarHandle") ∧ (parseMethodDescriptor yJ7_fill_53178.desc).map (fun d => d.parameters.length) = some 2 := ⟨⟨by decide +kernel, by decide +kernel⟩, by decide +kernel⟩
section
variable {p : Program} {l : Launch} {e : Env} {R : Room} {s : State} {m : MethodId} {args : Array Value} {below : List Frame} {meth : Method} {c : Code} {G : Gam} {M0 : Mem}
theorem l_J7_fill_53178_5 {rv : Mem} (X : Cx p R s m args c G M0 cJ7_fill_53178 yJ7_fill_53178.cls 4 0 0) (hr : meth.sig.returnType = none) (hlk : meth.locks = false) (hnm : meth.name = "fill") : ∀ {n : Nat} (v0 : Nat) (v1 : Int32) (v2 : Int32) (v3 : Int32) (M : Mem), f_J7_fill_53178_5 n v0 v1 v2 v3 M = some rv → Sg p l e R s m args below meth c (Qm below G args s none M0 rv) G M0 4 5 [(0, .ref (gB G + v0)), (1, .int v1), (2, .int v2), (3, .int v3)] [] M := by
  intro n
  induction n with
  | zero => intro v0 v1 v2 v3 M hf; exact (pk_none hf).elim
  | succ n ih =>
    intro v0 v1 v2 v3 M hf
    rw [f_J7_fill_53178_5] at hf
    refine s_iload_n X 2 dJ7_fill_53178_5 rfl rfl ?_
    refine s_iload_n X 3 dJ7_fill_53178_6 rfl rfl ?_
    have hs1 := pk_ite hf
    clear hf
    refine s_icmp_ge X (tgt := 20) dJ7_fill_53178_7 rfl (fun c2 => ?_) (fun c2 => ?_)
    · have hf := hs1.1 c2
      cases hf
      exact s_vret X hr hlk dJ7_fill_53178_20
    · have hf := hs1.2 c2
      refine s_aload_n X 0 dJ7_fill_53178_10 rfl rfl ?_
      refine s_iload_n X 2 dJ7_fill_53178_11 rfl rfl ?_
      refine s_iload_n X 1 dJ7_fill_53178_12 rfl rfl ?_
      obtain ⟨h3, hf⟩ := pk_chk hf
      obtain ⟨h4, hf⟩ := pk_chk hf
      obtain ⟨M5, e6, hf⟩ := pk_bnd hf
      refine s_iast X h3 h4 e6 dJ7_fill_53178_13 ?_
      have h7 := io_sI e6 h3
      obtain ⟨x8, e9, hf⟩ := pk_bnd hf
      refine s_iinc X (vs' := [(0, .ref (gB G + v0)), (1, .int v1), (2, .int x8), (3, .int v3)]) 2 dJ7_fill_53178_14 rfl (v := x8) e9.symm (Nat.le_of_ble_eq_true rfl) [1, 2, 0, 3] rfl ?_
      refine s_goto X (tgt := 5) dJ7_fill_53178_17 rfl ?_
      exact ih _ _ _ _ _ hf
end
theorem k_J7_fill_53178 (G : Gam) {n : Nat} {a1 : Nat} {a2 : Int32} {M : Mem} {rv : Mem} (hf : f_J7_fill_53178 n a1 a2 M = some rv) : Kt yJ7_fill_53178 cJ7_fill_53178 4 none 0 0 G [.ref (gB G + a1), .int a2] M rv none := by
  refine Kt.of (by decide) (Nat.le_of_ble_eq_true rfl) ?_
  intro p l e R s m args below meth c X hr hlk hnm
  refine s_drop [0, 1] (vs' := [(0, .ref (gB G + a1)), (1, .int a2)]) rfl ?_
  rw [f_J7_fill_53178] at hf
  refine s_iconst X (v := (0 : Int32)) dJ7_fill_53178_0 rfl ?_
  refine s_istore_n X (vs' := [(0, .ref (gB G + a1)), (1, .int a2), (2, .int (0 : Int32))]) dJ7_fill_53178_1 rfl (Nat.le_of_ble_eq_true rfl) [1, 2, 0] rfl ?_
  refine s_aload_n X 0 dJ7_fill_53178_2 rfl rfl ?_
  obtain ⟨h1, hf⟩ := pk_chk hf
  refine s_alen X h1 rfl dJ7_fill_53178_3 ?_
  obtain ⟨x2, e3, hf⟩ := pk_bnd hf
  refine s_nmI e3 ?_
  refine s_istore_n X (vs' := [(0, .ref (gB G + a1)), (1, .int a2), (2, .int (0 : Int32)), (3, .int x2)]) dJ7_fill_53178_4 rfl (Nat.le_of_ble_eq_true rfl) [1, 2, 3, 0] rfl ?_
  exact l_J7_fill_53178_5 X hr hlk hnm _ _ _ _ _ hf
theorem dX7_begin_0 : decode cX7_begin 0 = .ok (.aload_n 0, 1) := dk_42 (by decide +kernel)
theorem dX7_begin_1 : decode cX7_begin 1 = .ok (.iload_n 1, 1) := dk_27 (by decide +kernel)
theorem dX7_begin_2 : decode cX7_begin 2 = .ok (.putfield 40, 3) := dk_181 (x := 0) (y := 40) (by decide +kernel) rfl
theorem dX7_begin_5 : decode cX7_begin 5 = .ok (.aload_n 0, 1) := dk_42 (by decide +kernel)
theorem dX7_begin_6 : decode cX7_begin 6 = .ok (.iconst 0, 1) := dk_3 (by decide +kernel)
theorem dX7_begin_7 : decode cX7_begin 7 = .ok (.putfield 36, 3) := dk_181 (x := 0) (y := 36) (by decide +kernel) rfl
theorem dX7_begin_10 : decode cX7_begin 10 = .ok (.aload_n 0, 1) := dk_42 (by decide +kernel)
theorem dX7_begin_11 : decode cX7_begin 11 = .ok (.getfield 9, 3) := dk_180 (x := 0) (y := 9) (by decide +kernel) rfl
theorem dX7_begin_14 : decode cX7_begin 14 = .ok (.iconst 0, 1) := dk_3 (by decide +kernel)
theorem dX7_begin_15 : decode cX7_begin 15 = .ok (.invokestatic 54, 3) := dk_184 (x := 0) (y := 54) (by decide +kernel) rfl
theorem dX7_begin_18 : decode cX7_begin 18 = .ok (.return_, 1) := dk_177 (by decide +kernel)
def f_X7_begin (n : Nat) (o : Nat) (a1 : Int32) (M : Mem) : Option Mem :=
  chk (isO M 7 o) <|
  bnd (sI M o 3 a1) fun M2 =>
  chk (bz (0 : Int32)) <|
  bnd (sI M2 o 4 (0 : Int32)) fun M5 =>
  bnd (mR M5 o 0) fun o9 =>
  chk (isO M5 100 o9) <|
  obd (f_J7_fill_53178 n o9 (0 : Int32) M5) fun M13 =>
  some M13
theorem cd_X7_begin : (yX7_begin.cls ≠ "java/lang/invoke/MethodHandle" ∧ yX7_begin.cls ≠ "java/lang/invoke/VarHandle") ∧ (parseMethodDescriptor yX7_begin.desc).map (fun d => d.parameters.length) = some 1 := ⟨⟨by decide +kernel, by decide +kernel⟩, by decide +kernel⟩
theorem k_X7_begin (G : Gam) {n : Nat} {o : Nat} {a1 : Int32} {M : Mem} {rv : Mem} (hf : f_X7_begin n o a1 M = some rv) : Kt yX7_begin cX7_begin 2 none 1 23 G [.ref (gB G + o), .int a1] M rv none := by
  refine Kt.of (by decide) (Nat.le_of_ble_eq_true rfl) ?_
  intro p l e R s m args below meth c X hr hlk hnm
  refine s_drop [0, 1] (vs' := [(0, .ref (gB G + o)), (1, .int a1)]) rfl ?_
  rw [f_X7_begin] at hf
  refine s_aload_n X 0 dX7_begin_0 rfl rfl ?_
  refine s_iload_n X 1 dX7_begin_1 rfl rfl ?_
  obtain ⟨h1, hf⟩ := pk_chk hf
  obtain ⟨M2, e3, hf⟩ := pk_bnd hf
  refine s_putI X (ci := 7) (k := 3) rfl (Nat.le_of_ble_eq_true rfl) h1 wd169 (fun _ _ _ => rfl) rfl rfl e3 dX7_begin_2 ?_
  have h4 := io_sI e3 h1
  refine s_aload_n X 0 dX7_begin_5 rfl rfl ?_
  refine s_iconst X (v := (0 : Int32)) dX7_begin_6 rfl ?_
  obtain ⟨h7, hf⟩ := pk_chk hf
  obtain ⟨M5, e6, hf⟩ := pk_bnd hf
  refine s_putZ X (ci := 7) (k := 4) rfl (Nat.le_of_ble_eq_true rfl) h4 wd172 (fun _ _ _ => rfl) rfl (bz_n h7) (bz_f h7) rfl e6 dX7_begin_7 ?_
  have h8 := io_sI e6 h4
  refine s_aload_n X 0 dX7_begin_10 rfl rfl ?_
  obtain ⟨o9, e10, hf⟩ := pk_bnd hf
  obtain ⟨h11, hf⟩ := pk_chk hf
  refine s_getR X (ci := 7) (k := 0) rfl (Nat.le_of_ble_eq_true rfl) h8 wd159 (fun _ _ _ => rfl) (e10 ▸ h11) dX7_begin_11 (e10 ▸ ?_)
  refine s_iconst X (v := (0 : Int32)) dX7_begin_14 rfl ?_
  obtain ⟨M13, hc12, hf⟩ := pk_obd hf
  refine s_callS X (k_J7_fill_53178 G hc12) wd579 wd580 wd581 wd136 cd_J7_fill_53178 ⟨Nat.le_of_ble_eq_true rfl, Nat.le_of_ble_eq_true rfl⟩ (Nat.le_of_ble_eq_true rfl) dX7_begin_15 ?_
  cases hf
  exact s_vret X hr hlk dX7_begin_18
theorem dX7_makeFilled_0 : decode cX7_makeFilled 0 = .ok (.iconst 2, 1) := dk_5 (by decide +kernel)
theorem dX7_makeFilled_1 : decode cX7_makeFilled 1 = .ok (.istore_n 2, 1) := dk_61 (by decide +kernel)
theorem dX7_makeFilled_2 : decode cX7_makeFilled 2 = .ok (.iload_n 2, 1) := dk_28 (by decide +kernel)
theorem dX7_makeFilled_3 : decode cX7_makeFilled 3 = .ok (.iconst 4, 1) := dk_7 (by decide +kernel)
theorem dX7_makeFilled_4 : decode cX7_makeFilled 4 = .ok (.if_icmp .ge 16, 3) := dk_162 (x := 0) (y := 16) (by decide +kernel) rfl
theorem dX7_makeFilled_7 : decode cX7_makeFilled 7 = .ok (.iload_n 2, 1) := dk_28 (by decide +kernel)
theorem dX7_makeFilled_8 : decode cX7_makeFilled 8 = .ok (.iload_n 2, 1) := dk_28 (by decide +kernel)
theorem dX7_makeFilled_9 : decode cX7_makeFilled 9 = .ok (.imul, 1) := dk_104 (by decide +kernel)
theorem dX7_makeFilled_10 : decode cX7_makeFilled 10 = .ok (.iload_n 1, 1) := dk_27 (by decide +kernel)
theorem dX7_makeFilled_11 : decode cX7_makeFilled 11 = .ok (.if_icmp .ge 9, 3) := dk_162 (x := 0) (y := 9) (by decide +kernel) rfl
theorem dX7_makeFilled_14 : decode cX7_makeFilled 14 = .ok (.iinc 2 1, 3) := dk_132 (x := 2) (y := 1) (by decide +kernel) rfl
theorem dX7_makeFilled_17 : decode cX7_makeFilled 17 = .ok (.goto (-15), 3) := dk_167 (x := 255) (y := 241) (by decide +kernel) rfl
theorem dX7_makeFilled_20 : decode cX7_makeFilled 20 = .ok (.aload_n 0, 1) := dk_42 (by decide +kernel)
theorem dX7_makeFilled_21 : decode cX7_makeFilled 21 = .ok (.iload_n 1, 1) := dk_27 (by decide +kernel)
theorem dX7_makeFilled_22 : decode cX7_makeFilled 22 = .ok (.invokevirtual 21, 3) := dk_182 (x := 0) (y := 21) (by decide +kernel) rfl
theorem dX7_makeFilled_25 : decode cX7_makeFilled 25 = .ok (.iconst 0, 1) := dk_3 (by decide +kernel)
theorem dX7_makeFilled_26 : decode cX7_makeFilled 26 = .ok (.istore_n 3, 1) := dk_62 (by decide +kernel)
theorem dX7_makeFilled_27 : decode cX7_makeFilled 27 = .ok (.iload_n 3, 1) := dk_29 (by decide +kernel)
theorem dX7_makeFilled_28 : decode cX7_makeFilled 28 = .ok (.iload_n 1, 1) := dk_27 (by decide +kernel)
theorem dX7_makeFilled_29 : decode cX7_makeFilled 29 = .ok (.if_icmp .ge 74, 3) := dk_162 (x := 0) (y := 74) (by decide +kernel) rfl
theorem dX7_makeFilled_32 : decode cX7_makeFilled 32 = .ok (.iload_n 3, 1) := dk_29 (by decide +kernel)
theorem dX7_makeFilled_33 : decode cX7_makeFilled 33 = .ok (.iload_n 2, 1) := dk_28 (by decide +kernel)
theorem dX7_makeFilled_34 : decode cX7_makeFilled 34 = .ok (.idiv, 1) := dk_108 (by decide +kernel)
theorem dX7_makeFilled_35 : decode cX7_makeFilled 35 = .ok (.istore 4, 2) := dk_54 (x := 4) (by decide +kernel)
theorem dX7_makeFilled_37 : decode cX7_makeFilled 37 = .ok (.iload_n 3, 1) := dk_29 (by decide +kernel)
theorem dX7_makeFilled_38 : decode cX7_makeFilled 38 = .ok (.iload_n 2, 1) := dk_28 (by decide +kernel)
theorem dX7_makeFilled_39 : decode cX7_makeFilled 39 = .ok (.irem, 1) := dk_112 (by decide +kernel)
theorem dX7_makeFilled_40 : decode cX7_makeFilled 40 = .ok (.istore 5, 2) := dk_54 (x := 5) (by decide +kernel)
theorem dX7_makeFilled_42 : decode cX7_makeFilled 42 = .ok (.iconst 0, 1) := dk_3 (by decide +kernel)
theorem dX7_makeFilled_43 : decode cX7_makeFilled 43 = .ok (.istore 6, 2) := dk_54 (x := 6) (by decide +kernel)
theorem dX7_makeFilled_45 : decode cX7_makeFilled 45 = .ok (.iload 6, 2) := dk_21 (x := 6) (by decide +kernel)
theorem dX7_makeFilled_47 : decode cX7_makeFilled 47 = .ok (.iload_n 2, 1) := dk_28 (by decide +kernel)
theorem dX7_makeFilled_48 : decode cX7_makeFilled 48 = .ok (.if_icmp .ge 49, 3) := dk_162 (x := 0) (y := 49) (by decide +kernel) rfl
theorem dX7_makeFilled_51 : decode cX7_makeFilled 51 = .ok (.aload_n 0, 1) := dk_42 (by decide +kernel)
theorem dX7_makeFilled_52 : decode cX7_makeFilled 52 = .ok (.getfield 9, 3) := dk_180 (x := 0) (y := 9) (by decide +kernel) rfl
theorem dX7_makeFilled_55 : decode cX7_makeFilled 55 = .ok (.iload_n 3, 1) := dk_29 (by decide +kernel)
theorem dX7_makeFilled_56 : decode cX7_makeFilled 56 = .ok (.dup2, 1) := dk_92 (by decide +kernel)
theorem dX7_makeFilled_57 : decode cX7_makeFilled 57 = .ok (.iaload, 1) := dk_46 (by decide +kernel)
theorem dX7_makeFilled_58 : decode cX7_makeFilled 58 = .ok (.iconst 1, 1) := dk_4 (by decide +kernel)
theorem dX7_makeFilled_59 : decode cX7_makeFilled 59 = .ok (.iload 4, 2) := dk_21 (x := 4) (by decide +kernel)
theorem dX7_makeFilled_61 : decode cX7_makeFilled 61 = .ok (.iload_n 2, 1) := dk_28 (by decide +kernel)
theorem dX7_makeFilled_62 : decode cX7_makeFilled 62 = .ok (.imul, 1) := dk_104 (by decide +kernel)
theorem dX7_makeFilled_63 : decode cX7_makeFilled 63 = .ok (.iload 6, 2) := dk_21 (x := 6) (by decide +kernel)
theorem dX7_makeFilled_65 : decode cX7_makeFilled 65 = .ok (.iadd, 1) := dk_96 (by decide +kernel)
theorem dX7_makeFilled_66 : decode cX7_makeFilled 66 = .ok (.iload_n 1, 1) := dk_27 (by decide +kernel)
theorem dX7_makeFilled_67 : decode cX7_makeFilled 67 = .ok (.irem, 1) := dk_112 (by decide +kernel)
theorem dX7_makeFilled_68 : decode cX7_makeFilled 68 = .ok (.ishl, 1) := dk_120 (by decide +kernel)
theorem dX7_makeFilled_69 : decode cX7_makeFilled 69 = .ok (.ior, 1) := dk_128 (by decide +kernel)
theorem dX7_makeFilled_70 : decode cX7_makeFilled 70 = .ok (.iastore, 1) := dk_79 (by decide +kernel)
theorem dX7_makeFilled_71 : decode cX7_makeFilled 71 = .ok (.aload_n 0, 1) := dk_42 (by decide +kernel)
theorem dX7_makeFilled_72 : decode cX7_makeFilled 72 = .ok (.getfield 9, 3) := dk_180 (x := 0) (y := 9) (by decide +kernel) rfl
theorem dX7_makeFilled_75 : decode cX7_makeFilled 75 = .ok (.iload_n 3, 1) := dk_29 (by decide +kernel)
theorem dX7_makeFilled_76 : decode cX7_makeFilled 76 = .ok (.dup2, 1) := dk_92 (by decide +kernel)
theorem dX7_makeFilled_77 : decode cX7_makeFilled 77 = .ok (.iaload, 1) := dk_46 (by decide +kernel)
theorem dX7_makeFilled_78 : decode cX7_makeFilled 78 = .ok (.iconst 1, 1) := dk_4 (by decide +kernel)
theorem dX7_makeFilled_79 : decode cX7_makeFilled 79 = .ok (.iload 6, 2) := dk_21 (x := 6) (by decide +kernel)
theorem dX7_makeFilled_81 : decode cX7_makeFilled 81 = .ok (.iload_n 2, 1) := dk_28 (by decide +kernel)
theorem dX7_makeFilled_82 : decode cX7_makeFilled 82 = .ok (.imul, 1) := dk_104 (by decide +kernel)
theorem dX7_makeFilled_83 : decode cX7_makeFilled 83 = .ok (.iload 5, 2) := dk_21 (x := 5) (by decide +kernel)
theorem dX7_makeFilled_85 : decode cX7_makeFilled 85 = .ok (.iadd, 1) := dk_96 (by decide +kernel)
theorem dX7_makeFilled_86 : decode cX7_makeFilled 86 = .ok (.iload_n 1, 1) := dk_27 (by decide +kernel)
theorem dX7_makeFilled_87 : decode cX7_makeFilled 87 = .ok (.irem, 1) := dk_112 (by decide +kernel)
theorem dX7_makeFilled_88 : decode cX7_makeFilled 88 = .ok (.ishl, 1) := dk_120 (by decide +kernel)
theorem dX7_makeFilled_89 : decode cX7_makeFilled 89 = .ok (.ior, 1) := dk_128 (by decide +kernel)
theorem dX7_makeFilled_90 : decode cX7_makeFilled 90 = .ok (.iastore, 1) := dk_79 (by decide +kernel)
theorem dX7_makeFilled_91 : decode cX7_makeFilled 91 = .ok (.iinc 6 1, 3) := dk_132 (x := 6) (y := 1) (by decide +kernel) rfl
theorem dX7_makeFilled_94 : decode cX7_makeFilled 94 = .ok (.goto (-49), 3) := dk_167 (x := 255) (y := 207) (by decide +kernel) rfl
theorem dX7_makeFilled_97 : decode cX7_makeFilled 97 = .ok (.iinc 3 1, 3) := dk_132 (x := 3) (y := 1) (by decide +kernel) rfl
theorem dX7_makeFilled_100 : decode cX7_makeFilled 100 = .ok (.goto (-73), 3) := dk_167 (x := 255) (y := 183) (by decide +kernel) rfl
theorem dX7_makeFilled_103 : decode cX7_makeFilled 103 = .ok (.return_, 1) := dk_177 (by decide +kernel)
def f_X7_makeFilled_45 (k_27 : Nat → Int32 → Int32 → Int32 → Mem → Option Mem) : Nat → Nat → Int32 → Int32 → Int32 → Int32 → Int32 → Int32 → Mem → Option Mem
  | 0, _, _, _, _, _, _, _, _ => none
  | n + 1, v0, v1, v2, v3, v4, v5, v6, M =>
    if v2 ≤ v6 then (
      bnd (v3 + (1 : Int32)) fun x3 =>
      k_27 v0 v1 v2 x3 M
      ) else (
      chk (isO M 7 v0) <|
      bnd (mR M v0 0) fun o6 =>
      chk (isO M 100 o6) <|
      chk (inB v3 (mLn M o6)) <|
      chk (¬ v1 = 0) <|
      chk (inB v3 (mLn M o6)) <|
      bnd (sI M o6 (v3).toNatClampNeg ((mI M o6 (v3).toNatClampNeg) ||| ((1 : Int32) <<< ((((v4 * v2) + v6) - ((v4 * v2) + v6) / v1 * v1) &&& 31)))) fun M12 =>
      bnd (mR M12 v0 0) fun o16 =>
      chk (isO M12 100 o16) <|
      chk (inB v3 (mLn M12 o16)) <|
      chk (¬ v1 = 0) <|
      chk (inB v3 (mLn M12 o16)) <|
      bnd (sI M12 o16 (v3).toNatClampNeg ((mI M12 o16 (v3).toNatClampNeg) ||| ((1 : Int32) <<< ((((v6 * v2) + v5) - ((v6 * v2) + v5) / v1 * v1) &&& 31)))) fun M22 =>
      bnd (v6 + (1 : Int32)) fun x27 =>
      f_X7_makeFilled_45 k_27 n v0 v1 v2 v3 v4 v5 x27 M22
      )
def f_X7_makeFilled_27 : Nat → Nat → Int32 → Int32 → Int32 → Mem → Option Mem
  | 0, _, _, _, _, _ => none
  | n + 1, v0, v1, v2, v3, M =>
    if v1 ≤ v3 then (
      some M
      ) else (
      chk (¬ v2 = 0) <|
      bnd (v3 / v2) fun x4 =>
      chk (¬ v2 = 0) <|
      bnd (v3 - v3 / v2 * v2) fun x7 =>
      f_X7_makeFilled_45 (f_X7_makeFilled_27 n) n v0 v1 v2 v3 x4 x7 (0 : Int32) M
      )
def f_X7_makeFilled_20 (n : Nat) (v0 : Nat) (v1 : Int32) (v2 : Int32) (M : Mem) : Option Mem :=
    chk (isO M 7 v0) <|
    obd (f_X7_begin n v0 v1 M) fun M3 =>
    f_X7_makeFilled_27 n v0 v1 v2 (0 : Int32) M3
def f_X7_makeFilled_2 : Nat → Nat → Int32 → Int32 → Mem → Option Mem
  | 0, _, _, _, _ => none
  | n + 1, v0, v1, v2, M =>
    if (4 : Int32) ≤ v2 then (
      f_X7_makeFilled_20 n v0 v1 v2 M
      ) else (
      if v1 ≤ (v2 * v2) then (
        f_X7_makeFilled_20 n v0 v1 v2 M
        ) else (
        bnd (v2 + (1 : Int32)) fun x5 =>
        f_X7_makeFilled_2 n v0 v1 x5 M
        )
      )
def f_X7_makeFilled (n : Nat) (o : Nat) (a1 : Int32) (M : Mem) : Option Mem :=
  f_X7_makeFilled_2 n o a1 (2 : Int32) M
theorem cd_X7_makeFilled : (yX7_makeFilled.cls ≠ "java/lang/invoke/MethodHandle" ∧ yX7_makeFilled.cls ≠ "java/lang/invoke/VarHandle") ∧ (parseMethodDescriptor yX7_makeFilled.desc).map (fun d => d.parameters.length) = some 1 := ⟨⟨by decide +kernel, by decide +kernel⟩, by decide +kernel⟩
section
variable {p : Program} {l : Launch} {e : Env} {R : Room} {s : State} {m : MethodId} {args : Array Value} {below : List Frame} {meth : Method} {c : Code} {G : Gam} {M0 : Mem}
theorem l_X7_makeFilled_45 {k_27 : Nat → Int32 → Int32 → Int32 → Mem → Option Mem} {rv : Mem} (X : Cx p R s m args c G M0 cX7_makeFilled yX7_makeFilled.cls 7 2 44) (hr : meth.sig.returnType = none) (hlk : meth.locks = false) (hnm : meth.name = "makeFilled") (hk_27 : ∀ (v0 : Nat), ∀ (v1 : Int32), ∀ (v2 : Int32), ∀ (v3 : Int32), ∀ M : Mem, k_27 v0 v1 v2 v3 M = some rv → Sg p l e R s m args below meth c (Qm below G args s none M0 rv) G M0 7 27 [(0, .ref (gB G + v0)), (1, .int v1), (2, .int v2), (3, .int v3)] [] M) : ∀ {n : Nat} (v0 : Nat) (v1 : Int32) (v2 : Int32) (v3 : Int32) (v4 : Int32) (v5 : Int32) (v6 : Int32) (M : Mem), f_X7_makeFilled_45 k_27 n v0 v1 v2 v3 v4 v5 v6 M = some rv → Sg p l e R s m args below meth c (Qm below G args s none M0 rv) G M0 7 45 [(0, .ref (gB G + v0)), (1, .int v1), (2, .int v2), (3, .int v3), (4, .int v4), (5, .int v5), (6, .int v6)] [] M := by
  intro n
  induction n with
  | zero => intro v0 v1 v2 v3 v4 v5 v6 M hf; exact (pk_none hf).elim
  | succ n ih =>
    intro v0 v1 v2 v3 v4 v5 v6 M hf
    rw [f_X7_makeFilled_45] at hf
    refine s_iload X 6 dX7_makeFilled_45 rfl ?_
    refine s_iload_n X 2 dX7_makeFilled_47 rfl rfl ?_
    have hs1 := pk_ite hf
    clear hf
    refine s_icmp_ge X (tgt := 97) dX7_makeFilled_48 rfl (fun c2 => ?_) (fun c2 => ?_)
    · have hf := hs1.1 c2
      obtain ⟨x3, e4, hf⟩ := pk_bnd hf
      refine s_iinc X (vs' := [(0, .ref (gB G + v0)), (1, .int v1), (2, .int v2), (3, .int x3), (4, .int v4), (5, .int v5), (6, .int v6)]) 3 dX7_makeFilled_97 rfl (v := x3) e4.symm (Nat.le_of_ble_eq_true rfl) [1, 2, 3, 0, 4, 5, 6] rfl ?_
      refine s_goto X (tgt := 27) dX7_makeFilled_100 rfl ?_
      refine s_drop [0, 1, 2, 3] (vs' := [(0, .ref (gB G + v0)), (1, .int v1), (2, .int v2), (3, .int x3)]) rfl ?_
      exact hk_27 _ _ _ _ _ hf
    · have hf := hs1.2 c2
      refine s_aload_n X 0 dX7_makeFilled_51 rfl rfl ?_
      obtain ⟨h5, hf⟩ := pk_chk hf
      obtain ⟨o6, e7, hf⟩ := pk_bnd hf
      obtain ⟨h8, hf⟩ := pk_chk hf
      refine s_getR X (ci := 7) (k := 0) rfl (Nat.le_of_ble_eq_true rfl) h5 wd159 (fun _ _ _ => rfl) (e7 ▸ h8) dX7_makeFilled_52 (e7 ▸ ?_)
      refine s_iload_n X 3 dX7_makeFilled_55 rfl rfl ?_
      refine s_dup2 X dX7_makeFilled_56 rfl rfl ?_
      obtain ⟨h9, hf⟩ := pk_chk hf
      refine s_iald X h8 h9 dX7_makeFilled_57 ?_
      refine s_iconst X (v := (1 : Int32)) dX7_makeFilled_58 rfl ?_
      refine s_iload X 4 dX7_makeFilled_59 rfl ?_
      refine s_iload_n X 2 dX7_makeFilled_61 rfl rfl ?_
      refine s_imul X dX7_makeFilled_62 ?_
      refine s_iload X 6 dX7_makeFilled_63 rfl ?_
      refine s_iadd X dX7_makeFilled_65 ?_
      refine s_iload_n X 1 dX7_makeFilled_66 rfl rfl ?_
      obtain ⟨h10, hf⟩ := pk_chk hf
      refine s_irem X dX7_makeFilled_67 h10 ?_
      refine s_ishl X dX7_makeFilled_68 ?_
      refine s_ior X dX7_makeFilled_69 ?_
      obtain ⟨h11, hf⟩ := pk_chk hf
      obtain ⟨M12, e13, hf⟩ := pk_bnd hf
      refine s_iast X h8 h11 e13 dX7_makeFilled_70 ?_
      have h14 := io_sI e13 h5
      have h15 := io_sI e13 h8
      refine s_aload_n X 0 dX7_makeFilled_71 rfl rfl ?_
      obtain ⟨o16, e17, hf⟩ := pk_bnd hf
      obtain ⟨h18, hf⟩ := pk_chk hf
      refine s_getR X (ci := 7) (k := 0) rfl (Nat.le_of_ble_eq_true rfl) h14 wd159 (fun _ _ _ => rfl) (e17 ▸ h18) dX7_makeFilled_72 (e17 ▸ ?_)
      refine s_iload_n X 3 dX7_makeFilled_75 rfl rfl ?_
      refine s_dup2 X dX7_makeFilled_76 rfl rfl ?_
      obtain ⟨h19, hf⟩ := pk_chk hf
      refine s_iald X h18 h19 dX7_makeFilled_77 ?_
      refine s_iconst X (v := (1 : Int32)) dX7_makeFilled_78 rfl ?_
      refine s_iload X 6 dX7_makeFilled_79 rfl ?_
      refine s_iload_n X 2 dX7_makeFilled_81 rfl rfl ?_
      refine s_imul X dX7_makeFilled_82 ?_
      refine s_iload X 5 dX7_makeFilled_83 rfl ?_
      refine s_iadd X dX7_makeFilled_85 ?_
      refine s_iload_n X 1 dX7_makeFilled_86 rfl rfl ?_
      obtain ⟨h20, hf⟩ := pk_chk hf
      refine s_irem X dX7_makeFilled_87 h20 ?_
      refine s_ishl X dX7_makeFilled_88 ?_
      refine s_ior X dX7_makeFilled_89 ?_
      obtain ⟨h21, hf⟩ := pk_chk hf
      obtain ⟨M22, e23, hf⟩ := pk_bnd hf
      refine s_iast X h18 h21 e23 dX7_makeFilled_90 ?_
      have h24 := io_sI e23 h14
      have h25 := io_sI e23 h15
      have h26 := io_sI e23 h18
      obtain ⟨x27, e28, hf⟩ := pk_bnd hf
      refine s_iinc X (vs' := [(0, .ref (gB G + v0)), (1, .int v1), (2, .int v2), (3, .int v3), (4, .int v4), (5, .int v5), (6, .int x27)]) 6 dX7_makeFilled_91 rfl (v := x27) e28.symm (Nat.le_of_ble_eq_true rfl) [1, 2, 3, 4, 5, 6, 0] rfl ?_
      refine s_goto X (tgt := 45) dX7_makeFilled_94 rfl ?_
      exact ih _ _ _ _ _ _ _ _ hf
theorem l_X7_makeFilled_27 {rv : Mem} (X : Cx p R s m args c G M0 cX7_makeFilled yX7_makeFilled.cls 7 2 44) (hr : meth.sig.returnType = none) (hlk : meth.locks = false) (hnm : meth.name = "makeFilled") : ∀ {n : Nat} (v0 : Nat) (v1 : Int32) (v2 : Int32) (v3 : Int32) (M : Mem), f_X7_makeFilled_27 n v0 v1 v2 v3 M = some rv → Sg p l e R s m args below meth c (Qm below G args s none M0 rv) G M0 7 27 [(0, .ref (gB G + v0)), (1, .int v1), (2, .int v2), (3, .int v3)] [] M := by
  intro n
  induction n with
  | zero => intro v0 v1 v2 v3 M hf; exact (pk_none hf).elim
  | succ n ih =>
    intro v0 v1 v2 v3 M hf
    rw [f_X7_makeFilled_27] at hf
    refine s_iload_n X 3 dX7_makeFilled_27 rfl rfl ?_
    refine s_iload_n X 1 dX7_makeFilled_28 rfl rfl ?_
    have hs1 := pk_ite hf
    clear hf
    refine s_icmp_ge X (tgt := 103) dX7_makeFilled_29 rfl (fun c2 => ?_) (fun c2 => ?_)
    · have hf := hs1.1 c2
      cases hf
      exact s_vret X hr hlk dX7_makeFilled_103
    · have hf := hs1.2 c2
      refine s_iload_n X 3 dX7_makeFilled_32 rfl rfl ?_
      refine s_iload_n X 2 dX7_makeFilled_33 rfl rfl ?_
      obtain ⟨h3, hf⟩ := pk_chk hf
      refine s_idiv X dX7_makeFilled_34 h3 ?_
      obtain ⟨x4, e5, hf⟩ := pk_bnd hf
      refine s_nmI e5 ?_
      refine s_istore X (vs' := [(0, .ref (gB G + v0)), (1, .int v1), (2, .int v2), (3, .int v3), (4, .int x4)]) dX7_makeFilled_35 (Nat.le_of_ble_eq_true rfl) [1, 2, 3, 4, 0] rfl ?_
      refine s_iload_n X 3 dX7_makeFilled_37 rfl rfl ?_
      refine s_iload_n X 2 dX7_makeFilled_38 rfl rfl ?_
      obtain ⟨h6, hf⟩ := pk_chk hf
      refine s_irem X dX7_makeFilled_39 h6 ?_
      obtain ⟨x7, e8, hf⟩ := pk_bnd hf
      refine s_nmI e8 ?_
      refine s_istore X (vs' := [(0, .ref (gB G + v0)), (1, .int v1), (2, .int v2), (3, .int v3), (4, .int x4), (5, .int x7)]) dX7_makeFilled_40 (Nat.le_of_ble_eq_true rfl) [1, 2, 3, 4, 5, 0] rfl ?_
      refine s_iconst X (v := (0 : Int32)) dX7_makeFilled_42 rfl ?_
      refine s_istore X (vs' := [(0, .ref (gB G + v0)), (1, .int v1), (2, .int v2), (3, .int v3), (4, .int x4), (5, .int x7), (6, .int (0 : Int32))]) dX7_makeFilled_43 (Nat.le_of_ble_eq_true rfl) [1, 2, 3, 4, 5, 6, 0] rfl ?_
      exact l_X7_makeFilled_45 X hr hlk hnm ih _ _ _ _ _ _ _ _ hf
theorem l_X7_makeFilled_20 {rv : Mem} {n : Nat} {v0 : Nat} {v1 : Int32} {v2 : Int32} {M : Mem} (X : Cx p R s m args c G M0 cX7_makeFilled yX7_makeFilled.cls 7 2 44) (hr : meth.sig.returnType = none) (hlk : meth.locks = false) (hnm : meth.name = "makeFilled") (hf : f_X7_makeFilled_20 n v0 v1 v2 M = some rv) : Sg p l e R s m args below meth c (Qm below G args s none M0 rv) G M0 7 20 [(0, .ref (gB G + v0)), (1, .int v1), (2, .int v2)] [] M := by
  rw [f_X7_makeFilled_20] at hf
  refine s_aload_n X 0 dX7_makeFilled_20 rfl rfl ?_
  refine s_iload_n X 1 dX7_makeFilled_21 rfl rfl ?_
  obtain ⟨h1, hf⟩ := pk_chk hf
  obtain ⟨M3, hc2, hf⟩ := pk_obd hf
  refine s_callV X (ci := 7) (k_X7_begin G hc2) rfl h1 wd575 wd577 wd0 wd578 wd127 cd_X7_begin ⟨Nat.le_of_ble_eq_true rfl, Nat.le_of_ble_eq_true rfl⟩ (Nat.le_of_ble_eq_true rfl) dX7_makeFilled_22 ?_
  refine s_iconst X (v := (0 : Int32)) dX7_makeFilled_25 rfl ?_
  refine s_istore_n X (vs' := [(0, .ref (gB G + v0)), (1, .int v1), (2, .int v2), (3, .int (0 : Int32))]) dX7_makeFilled_26 rfl (Nat.le_of_ble_eq_true rfl) [1, 2, 3, 0] rfl ?_
  exact l_X7_makeFilled_27 X hr hlk hnm _ _ _ _ _ hf
theorem l_X7_makeFilled_2 {rv : Mem} (X : Cx p R s m args c G M0 cX7_makeFilled yX7_makeFilled.cls 7 2 44) (hr : meth.sig.returnType = none) (hlk : meth.locks = false) (hnm : meth.name = "makeFilled") : ∀ {n : Nat} (v0 : Nat) (v1 : Int32) (v2 : Int32) (M : Mem), f_X7_makeFilled_2 n v0 v1 v2 M = some rv → Sg p l e R s m args below meth c (Qm below G args s none M0 rv) G M0 7 2 [(0, .ref (gB G + v0)), (1, .int v1), (2, .int v2)] [] M := by
  intro n
  induction n with
  | zero => intro v0 v1 v2 M hf; exact (pk_none hf).elim
  | succ n ih =>
    intro v0 v1 v2 M hf
    rw [f_X7_makeFilled_2] at hf
    refine s_iload_n X 2 dX7_makeFilled_2 rfl rfl ?_
    refine s_iconst X (v := (4 : Int32)) dX7_makeFilled_3 rfl ?_
    have hs1 := pk_ite hf
    clear hf
    refine s_icmp_ge X (tgt := 20) dX7_makeFilled_4 rfl (fun c2 => ?_) (fun c2 => ?_)
    · have hf := hs1.1 c2
      exact l_X7_makeFilled_20 X hr hlk hnm hf
    · have hf := hs1.2 c2
      refine s_iload_n X 2 dX7_makeFilled_7 rfl rfl ?_
      refine s_iload_n X 2 dX7_makeFilled_8 rfl rfl ?_
      refine s_imul X dX7_makeFilled_9 ?_
      refine s_iload_n X 1 dX7_makeFilled_10 rfl rfl ?_
      have hs3 := pk_ite hf
      clear hf
      refine s_icmp_ge X (tgt := 20) dX7_makeFilled_11 rfl (fun c4 => ?_) (fun c4 => ?_)
      · have hf := hs3.1 c4
        exact l_X7_makeFilled_20 X hr hlk hnm hf
      · have hf := hs3.2 c4
        obtain ⟨x5, e6, hf⟩ := pk_bnd hf
        refine s_iinc X (vs' := [(0, .ref (gB G + v0)), (1, .int v1), (2, .int x5)]) 2 dX7_makeFilled_14 rfl (v := x5) e6.symm (Nat.le_of_ble_eq_true rfl) [1, 2, 0] rfl ?_
        refine s_goto X (tgt := 2) dX7_makeFilled_17 rfl ?_
        exact ih _ _ _ _ hf
end
theorem k_X7_makeFilled (G : Gam) {n : Nat} {o : Nat} {a1 : Int32} {M : Mem} {rv : Mem} (hf : f_X7_makeFilled n o a1 M = some rv) : Kt yX7_makeFilled cX7_makeFilled 7 none 2 44 G [.ref (gB G + o), .int a1] M rv none := by
  refine Kt.of (by decide) (Nat.le_of_ble_eq_true rfl) ?_
  intro p l e R s m args below meth c X hr hlk hnm
  refine s_drop [0, 1] (vs' := [(0, .ref (gB G + o)), (1, .int a1)]) rfl ?_
  rw [f_X7_makeFilled] at hf
  refine s_iconst X (v := (2 : Int32)) dX7_makeFilled_0 rfl ?_
  refine s_istore_n X (vs' := [(0, .ref (gB G + o)), (1, .int a1), (2, .int (2 : Int32))]) dX7_makeFilled_1 rfl (Nat.le_of_ble_eq_true rfl) [1, 2, 0] rfl ?_
  exact l_X7_makeFilled_2 X hr hlk hnm _ _ _ _ hf
theorem dX5_clearLanes_0 : decode cX5_clearLanes 0 = .ok (.aload_n 0, 1) := dk_42 (by decide +kernel)
theorem dX5_clearLanes_1 : decode cX5_clearLanes 1 = .ok (.getfield 18, 3) := dk_180 (x := 0) (y := 18) (by decide +kernel) rfl
theorem dX5_clearLanes_4 : decode cX5_clearLanes 4 = .ok (.iconst 0, 1) := dk_3 (by decide +kernel)
theorem dX5_clearLanes_5 : decode cX5_clearLanes 5 = .ok (.invokestatic 70, 3) := dk_184 (x := 0) (y := 70) (by decide +kernel) rfl
theorem dX5_clearLanes_8 : decode cX5_clearLanes 8 = .ok (.aload_n 0, 1) := dk_42 (by decide +kernel)
theorem dX5_clearLanes_9 : decode cX5_clearLanes 9 = .ok (.getfield 21, 3) := dk_180 (x := 0) (y := 21) (by decide +kernel) rfl
theorem dX5_clearLanes_12 : decode cX5_clearLanes 12 = .ok (.iconst 0, 1) := dk_3 (by decide +kernel)
theorem dX5_clearLanes_13 : decode cX5_clearLanes 13 = .ok (.invokestatic 70, 3) := dk_184 (x := 0) (y := 70) (by decide +kernel) rfl
theorem dX5_clearLanes_16 : decode cX5_clearLanes 16 = .ok (.aload_n 0, 1) := dk_42 (by decide +kernel)
theorem dX5_clearLanes_17 : decode cX5_clearLanes 17 = .ok (.iconst 0, 1) := dk_3 (by decide +kernel)
theorem dX5_clearLanes_18 : decode cX5_clearLanes 18 = .ok (.putfield 44, 3) := dk_181 (x := 0) (y := 44) (by decide +kernel) rfl
theorem dX5_clearLanes_21 : decode cX5_clearLanes 21 = .ok (.aload_n 0, 1) := dk_42 (by decide +kernel)
theorem dX5_clearLanes_22 : decode cX5_clearLanes 22 = .ok (.iconst (-1), 1) := dk_2 (by decide +kernel)
theorem dX5_clearLanes_23 : decode cX5_clearLanes 23 = .ok (.putfield 36, 3) := dk_181 (x := 0) (y := 36) (by decide +kernel) rfl
theorem dX5_clearLanes_26 : decode cX5_clearLanes 26 = .ok (.aload_n 0, 1) := dk_42 (by decide +kernel)
theorem dX5_clearLanes_27 : decode cX5_clearLanes 27 = .ok (.iconst 0, 1) := dk_3 (by decide +kernel)
theorem dX5_clearLanes_28 : decode cX5_clearLanes 28 = .ok (.putfield 40, 3) := dk_181 (x := 0) (y := 40) (by decide +kernel) rfl
theorem dX5_clearLanes_31 : decode cX5_clearLanes 31 = .ok (.return_, 1) := dk_177 (by decide +kernel)
def f_X5_clearLanes (n : Nat) (o : Nat) (M : Mem) : Option Mem :=
  chk (isO M 5 o) <|
  bnd (mR M o 2) fun o2 =>
  chk (isO M 100 o2) <|
  obd (f_J7_fill_53178 n o2 (0 : Int32) M) fun M6 =>
  chk (isO M6 5 o) <|
  bnd (mR M6 o 3) fun o8 =>
  chk (isO M6 100 o8) <|
  obd (f_J7_fill_53178 n o8 (0 : Int32) M6) fun M12 =>
  chk (isO M12 5 o) <|
  bnd (sI M12 o 8 (0 : Int32)) fun M14 =>
  bnd (sI M14 o 9 (-1 : Int32)) fun M17 =>
  bnd (sI M17 o 10 (0 : Int32)) fun M20 =>
  some M20
theorem cd_X5_clearLanes : (yX5_clearLanes.cls ≠ "java/lang/invoke/MethodHandle" ∧ yX5_clearLanes.cls ≠ "java/lang/invoke/VarHandle") ∧ (parseMethodDescriptor yX5_clearLanes.desc).map (fun d => d.parameters.length) = some 0 := ⟨⟨by decide +kernel, by decide +kernel⟩, by decide +kernel⟩
theorem k_X5_clearLanes (G : Gam) {n : Nat} {o : Nat} {M : Mem} {rv : Mem} (hf : f_X5_clearLanes n o M = some rv) : Kt yX5_clearLanes cX5_clearLanes 1 none 1 23 G [.ref (gB G + o)] M rv none := by
  refine Kt.of (by decide) (Nat.le_of_ble_eq_true rfl) ?_
  intro p l e R s m args below meth c X hr hlk hnm
  refine s_drop [0] (vs' := [(0, .ref (gB G + o))]) rfl ?_
  rw [f_X5_clearLanes] at hf
  refine s_aload_n X 0 dX5_clearLanes_0 rfl rfl ?_
  obtain ⟨h1, hf⟩ := pk_chk hf
  obtain ⟨o2, e3, hf⟩ := pk_bnd hf
  obtain ⟨h4, hf⟩ := pk_chk hf
  refine s_getR X (ci := 5) (k := 2) rfl (Nat.le_of_ble_eq_true rfl) h1 wd251 (fun _ _ _ => rfl) (e3 ▸ h4) dX5_clearLanes_1 (e3 ▸ ?_)
  refine s_iconst X (v := (0 : Int32)) dX5_clearLanes_4 rfl ?_
  obtain ⟨M6, hc5, hf⟩ := pk_obd hf
  refine s_callS X (k_J7_fill_53178 G hc5) wd598 wd580 wd581 wd136 cd_J7_fill_53178 ⟨Nat.le_of_ble_eq_true rfl, Nat.le_of_ble_eq_true rfl⟩ (Nat.le_of_ble_eq_true rfl) dX5_clearLanes_5 ?_
  refine s_aload_n X 0 dX5_clearLanes_8 rfl rfl ?_
  obtain ⟨h7, hf⟩ := pk_chk hf
  obtain ⟨o8, e9, hf⟩ := pk_bnd hf
  obtain ⟨h10, hf⟩ := pk_chk hf
  refine s_getR X (ci := 5) (k := 3) rfl (Nat.le_of_ble_eq_true rfl) h7 wd253 (fun _ _ _ => rfl) (e9 ▸ h10) dX5_clearLanes_9 (e9 ▸ ?_)
  refine s_iconst X (v := (0 : Int32)) dX5_clearLanes_12 rfl ?_
  obtain ⟨M12, hc11, hf⟩ := pk_obd hf
  refine s_callS X (k_J7_fill_53178 G hc11) wd598 wd580 wd581 wd136 cd_J7_fill_53178 ⟨Nat.le_of_ble_eq_true rfl, Nat.le_of_ble_eq_true rfl⟩ (Nat.le_of_ble_eq_true rfl) dX5_clearLanes_13 ?_
  refine s_aload_n X 0 dX5_clearLanes_16 rfl rfl ?_
  refine s_iconst X (v := (0 : Int32)) dX5_clearLanes_17 rfl ?_
  obtain ⟨h13, hf⟩ := pk_chk hf
  obtain ⟨M14, e15, hf⟩ := pk_bnd hf
  refine s_putI X (ci := 5) (k := 8) rfl (Nat.le_of_ble_eq_true rfl) h13 wd264 (fun _ _ _ => rfl) rfl rfl e15 dX5_clearLanes_18 ?_
  have h16 := io_sI e15 h13
  refine s_aload_n X 0 dX5_clearLanes_21 rfl rfl ?_
  refine s_iconst X (v := (-1 : Int32)) dX5_clearLanes_22 rfl ?_
  obtain ⟨M17, e18, hf⟩ := pk_bnd hf
  refine s_putI X (ci := 5) (k := 9) rfl (Nat.le_of_ble_eq_true rfl) h16 wd265 (fun _ _ _ => rfl) rfl rfl e18 dX5_clearLanes_23 ?_
  have h19 := io_sI e18 h16
  refine s_aload_n X 0 dX5_clearLanes_26 rfl rfl ?_
  refine s_iconst X (v := (0 : Int32)) dX5_clearLanes_27 rfl ?_
  obtain ⟨M20, e21, hf⟩ := pk_bnd hf
  refine s_putI X (ci := 5) (k := 10) rfl (Nat.le_of_ble_eq_true rfl) h19 wd267 (fun _ _ _ => rfl) rfl rfl e21 dX5_clearLanes_28 ?_
  have h22 := io_sI e21 h19
  cases hf
  exact s_vret X hr hlk dX5_clearLanes_31
theorem dX5_clear_0 : decode cX5_clear 0 = .ok (.aload_n 0, 1) := dk_42 (by decide +kernel)
theorem dX5_clear_1 : decode cX5_clear 1 = .ok (.invokevirtual 67, 3) := dk_182 (x := 0) (y := 67) (by decide +kernel) rfl
theorem dX5_clear_4 : decode cX5_clear 4 = .ok (.aload_n 0, 1) := dk_42 (by decide +kernel)
theorem dX5_clear_5 : decode cX5_clear 5 = .ok (.getfield 24, 3) := dk_180 (x := 0) (y := 24) (by decide +kernel) rfl
theorem dX5_clear_8 : decode cX5_clear 8 = .ok (.iconst 0, 1) := dk_3 (by decide +kernel)
theorem dX5_clear_9 : decode cX5_clear 9 = .ok (.invokestatic 70, 3) := dk_184 (x := 0) (y := 70) (by decide +kernel) rfl
theorem dX5_clear_12 : decode cX5_clear 12 = .ok (.aload_n 0, 1) := dk_42 (by decide +kernel)
theorem dX5_clear_13 : decode cX5_clear 13 = .ok (.iconst 0, 1) := dk_3 (by decide +kernel)
theorem dX5_clear_14 : decode cX5_clear 14 = .ok (.putfield 53, 3) := dk_181 (x := 0) (y := 53) (by decide +kernel) rfl
theorem dX5_clear_17 : decode cX5_clear 17 = .ok (.return_, 1) := dk_177 (by decide +kernel)
def f_X5_clear (n : Nat) (o : Nat) (M : Mem) : Option Mem :=
  chk (isO M 5 o) <|
  obd (f_X5_clearLanes n o M) fun M3 =>
  chk (isO M3 5 o) <|
  bnd (mR M3 o 4) fun o5 =>
  chk (isO M3 100 o5) <|
  obd (f_J7_fill_53178 n o5 (0 : Int32) M3) fun M9 =>
  chk (isO M9 5 o) <|
  bnd (sI M9 o 11 (0 : Int32)) fun M11 =>
  some M11
theorem cd_X5_clear : (yX5_clear.cls ≠ "java/lang/invoke/MethodHandle" ∧ yX5_clear.cls ≠ "java/lang/invoke/VarHandle") ∧ (parseMethodDescriptor yX5_clear.desc).map (fun d => d.parameters.length) = some 0 := ⟨⟨by decide +kernel, by decide +kernel⟩, by decide +kernel⟩
theorem k_X5_clear (G : Gam) {n : Nat} {o : Nat} {M : Mem} {rv : Mem} (hf : f_X5_clear n o M = some rv) : Kt yX5_clear cX5_clear 1 none 2 43 G [.ref (gB G + o)] M rv none := by
  refine Kt.of (by decide) (Nat.le_of_ble_eq_true rfl) ?_
  intro p l e R s m args below meth c X hr hlk hnm
  refine s_drop [0] (vs' := [(0, .ref (gB G + o))]) rfl ?_
  rw [f_X5_clear] at hf
  refine s_aload_n X 0 dX5_clear_0 rfl rfl ?_
  obtain ⟨h1, hf⟩ := pk_chk hf
  obtain ⟨M3, hc2, hf⟩ := pk_obd hf
  refine s_callV X (ci := 5) (k_X5_clearLanes G hc2) rfl h1 wd594 wd595 wd596 wd597 wd131 cd_X5_clearLanes ⟨Nat.le_of_ble_eq_true rfl, Nat.le_of_ble_eq_true rfl⟩ (Nat.le_of_ble_eq_true rfl) dX5_clear_1 ?_
  refine s_aload_n X 0 dX5_clear_4 rfl rfl ?_
  obtain ⟨h4, hf⟩ := pk_chk hf
  obtain ⟨o5, e6, hf⟩ := pk_bnd hf
  obtain ⟨h7, hf⟩ := pk_chk hf
  refine s_getR X (ci := 5) (k := 4) rfl (Nat.le_of_ble_eq_true rfl) h4 wd257 (fun _ _ _ => rfl) (e6 ▸ h7) dX5_clear_5 (e6 ▸ ?_)
  refine s_iconst X (v := (0 : Int32)) dX5_clear_8 rfl ?_
  obtain ⟨M9, hc8, hf⟩ := pk_obd hf
  refine s_callS X (k_J7_fill_53178 G hc8) wd598 wd580 wd581 wd136 cd_J7_fill_53178 ⟨Nat.le_of_ble_eq_true rfl, Nat.le_of_ble_eq_true rfl⟩ (Nat.le_of_ble_eq_true rfl) dX5_clear_9 ?_
  refine s_aload_n X 0 dX5_clear_12 rfl rfl ?_
  refine s_iconst X (v := (0 : Int32)) dX5_clear_13 rfl ?_
  obtain ⟨h10, hf⟩ := pk_chk hf
  obtain ⟨M11, e12, hf⟩ := pk_bnd hf
  refine s_putI X (ci := 5) (k := 11) rfl (Nat.le_of_ble_eq_true rfl) h10 wd272 (fun _ _ _ => rfl) rfl rfl e12 dX5_clear_14 ?_
  have h13 := io_sI e12 h10
  cases hf
  exact s_vret X hr hlk dX5_clear_17
theorem dX4_rest_0 : decode cX4_rest 0 = .ok (.aload_n 0, 1) := dk_42 (by decide +kernel)
theorem dX4_rest_1 : decode cX4_rest 1 = .ok (.iconst 0, 1) := dk_3 (by decide +kernel)
theorem dX4_rest_2 : decode cX4_rest 2 = .ok (.putfield 49, 3) := dk_181 (x := 0) (y := 49) (by decide +kernel) rfl
theorem dX4_rest_5 : decode cX4_rest 5 = .ok (.aload_n 0, 1) := dk_42 (by decide +kernel)
theorem dX4_rest_6 : decode cX4_rest 6 = .ok (.iconst 0, 1) := dk_3 (by decide +kernel)
theorem dX4_rest_7 : decode cX4_rest 7 = .ok (.putfield 52, 3) := dk_181 (x := 0) (y := 52) (by decide +kernel) rfl
theorem dX4_rest_10 : decode cX4_rest 10 = .ok (.aload_n 0, 1) := dk_42 (by decide +kernel)
theorem dX4_rest_11 : decode cX4_rest 11 = .ok (.iconst 0, 1) := dk_3 (by decide +kernel)
theorem dX4_rest_12 : decode cX4_rest 12 = .ok (.putfield 55, 3) := dk_181 (x := 0) (y := 55) (by decide +kernel) rfl
theorem dX4_rest_15 : decode cX4_rest 15 = .ok (.aload_n 0, 1) := dk_42 (by decide +kernel)
theorem dX4_rest_16 : decode cX4_rest 16 = .ok (.iconst 0, 1) := dk_3 (by decide +kernel)
theorem dX4_rest_17 : decode cX4_rest 17 = .ok (.putfield 58, 3) := dk_181 (x := 0) (y := 58) (by decide +kernel) rfl
theorem dX4_rest_20 : decode cX4_rest 20 = .ok (.return_, 1) := dk_177 (by decide +kernel)
def f_X4_rest (o : Nat) (M : Mem) : Option Mem :=
  chk (isO M 4 o) <|
  bnd (sI M o 2 (0 : Int32)) fun M2 =>
  bnd (sI M2 o 3 (0 : Int32)) fun M5 =>
  bnd (sI M5 o 4 (0 : Int32)) fun M8 =>
  bnd (sI M8 o 5 (0 : Int32)) fun M11 =>
  some M11
theorem cd_X4_rest : (yX4_rest.cls ≠ "java/lang/invoke/MethodHandle" ∧ yX4_rest.cls ≠ "java/lang/invoke/VarHandle") ∧ (parseMethodDescriptor yX4_rest.desc).map (fun d => d.parameters.length) = some 0 := ⟨⟨by decide +kernel, by decide +kernel⟩, by decide +kernel⟩
theorem k_X4_rest (G : Gam) {o : Nat} {M : Mem} {rv : Mem} (hf : f_X4_rest o M = some rv) : Kt yX4_rest cX4_rest 1 none 0 0 G [.ref (gB G + o)] M rv none := by
  refine Kt.of (by decide) (Nat.le_of_ble_eq_true rfl) ?_
  intro p l e R s m args below meth c X hr hlk hnm
  refine s_drop [0] (vs' := [(0, .ref (gB G + o))]) rfl ?_
  rw [f_X4_rest] at hf
  refine s_aload_n X 0 dX4_rest_0 rfl rfl ?_
  refine s_iconst X (v := (0 : Int32)) dX4_rest_1 rfl ?_
  obtain ⟨h1, hf⟩ := pk_chk hf
  obtain ⟨M2, e3, hf⟩ := pk_bnd hf
  refine s_putI X (ci := 4) (k := 2) rfl (Nat.le_of_ble_eq_true rfl) h1 wd333 (fun _ _ _ => rfl) rfl rfl e3 dX4_rest_2 ?_
  have h4 := io_sI e3 h1
  refine s_aload_n X 0 dX4_rest_5 rfl rfl ?_
  refine s_iconst X (v := (0 : Int32)) dX4_rest_6 rfl ?_
  obtain ⟨M5, e6, hf⟩ := pk_bnd hf
  refine s_putI X (ci := 4) (k := 3) rfl (Nat.le_of_ble_eq_true rfl) h4 wd337 (fun _ _ _ => rfl) rfl rfl e6 dX4_rest_7 ?_
  have h7 := io_sI e6 h4
  refine s_aload_n X 0 dX4_rest_10 rfl rfl ?_
  refine s_iconst X (v := (0 : Int32)) dX4_rest_11 rfl ?_
  obtain ⟨M8, e9, hf⟩ := pk_bnd hf
  refine s_putI X (ci := 4) (k := 4) rfl (Nat.le_of_ble_eq_true rfl) h7 wd341 (fun _ _ _ => rfl) rfl rfl e9 dX4_rest_12 ?_
  have h10 := io_sI e9 h7
  refine s_aload_n X 0 dX4_rest_15 rfl rfl ?_
  refine s_iconst X (v := (0 : Int32)) dX4_rest_16 rfl ?_
  obtain ⟨M11, e12, hf⟩ := pk_bnd hf
  refine s_putI X (ci := 4) (k := 5) rfl (Nat.le_of_ble_eq_true rfl) h10 wd345 (fun _ _ _ => rfl) rfl rfl e12 dX4_rest_17 ?_
  have h13 := io_sI e12 h10
  cases hf
  exact s_vret X hr hlk dX4_rest_20
theorem dX4_forgetGranted_0 : decode cX4_forgetGranted 0 = .ok (.aload_n 0, 1) := dk_42 (by decide +kernel)
theorem dX4_forgetGranted_1 : decode cX4_forgetGranted 1 = .ok (.iconst (-1), 1) := dk_2 (by decide +kernel)
theorem dX4_forgetGranted_2 : decode cX4_forgetGranted 2 = .ok (.putfield 9, 3) := dk_181 (x := 0) (y := 9) (by decide +kernel) rfl
theorem dX4_forgetGranted_5 : decode cX4_forgetGranted 5 = .ok (.aload_n 0, 1) := dk_42 (by decide +kernel)
theorem dX4_forgetGranted_6 : decode cX4_forgetGranted 6 = .ok (.iconst (-1), 1) := dk_2 (by decide +kernel)
theorem dX4_forgetGranted_7 : decode cX4_forgetGranted 7 = .ok (.putfield 15, 3) := dk_181 (x := 0) (y := 15) (by decide +kernel) rfl
theorem dX4_forgetGranted_10 : decode cX4_forgetGranted 10 = .ok (.aload_n 0, 1) := dk_42 (by decide +kernel)
theorem dX4_forgetGranted_11 : decode cX4_forgetGranted 11 = .ok (.iconst 0, 1) := dk_3 (by decide +kernel)
theorem dX4_forgetGranted_12 : decode cX4_forgetGranted 12 = .ok (.putfield 67, 3) := dk_181 (x := 0) (y := 67) (by decide +kernel) rfl
theorem dX4_forgetGranted_15 : decode cX4_forgetGranted 15 = .ok (.return_, 1) := dk_177 (by decide +kernel)
def f_X4_forgetGranted (o : Nat) (M : Mem) : Option Mem :=
  chk (isO M 4 o) <|
  bnd (sI M o 6 (-1 : Int32)) fun M2 =>
  bnd (sI M2 o 7 (-1 : Int32)) fun M5 =>
  chk (bz (0 : Int32)) <|
  bnd (sI M5 o 8 (0 : Int32)) fun M8 =>
  some M8
theorem cd_X4_forgetGranted : (yX4_forgetGranted.cls ≠ "java/lang/invoke/MethodHandle" ∧ yX4_forgetGranted.cls ≠ "java/lang/invoke/VarHandle") ∧ (parseMethodDescriptor yX4_forgetGranted.desc).map (fun d => d.parameters.length) = some 0 := ⟨⟨by decide +kernel, by decide +kernel⟩, by decide +kernel⟩
theorem k_X4_forgetGranted (G : Gam) {o : Nat} {M : Mem} {rv : Mem} (hf : f_X4_forgetGranted o M = some rv) : Kt yX4_forgetGranted cX4_forgetGranted 1 none 0 0 G [.ref (gB G + o)] M rv none := by
  refine Kt.of (by decide) (Nat.le_of_ble_eq_true rfl) ?_
  intro p l e R s m args below meth c X hr hlk hnm
  refine s_drop [0] (vs' := [(0, .ref (gB G + o))]) rfl ?_
  rw [f_X4_forgetGranted] at hf
  refine s_aload_n X 0 dX4_forgetGranted_0 rfl rfl ?_
  refine s_iconst X (v := (-1 : Int32)) dX4_forgetGranted_1 rfl ?_
  obtain ⟨h1, hf⟩ := pk_chk hf
  obtain ⟨M2, e3, hf⟩ := pk_bnd hf
  refine s_putI X (ci := 4) (k := 6) rfl (Nat.le_of_ble_eq_true rfl) h1 wd349 (fun _ _ _ => rfl) rfl rfl e3 dX4_forgetGranted_2 ?_
  have h4 := io_sI e3 h1
  refine s_aload_n X 0 dX4_forgetGranted_5 rfl rfl ?_
  refine s_iconst X (v := (-1 : Int32)) dX4_forgetGranted_6 rfl ?_
  obtain ⟨M5, e6, hf⟩ := pk_bnd hf
  refine s_putI X (ci := 4) (k := 7) rfl (Nat.le_of_ble_eq_true rfl) h4 wd353 (fun _ _ _ => rfl) rfl rfl e6 dX4_forgetGranted_7 ?_
  have h7 := io_sI e6 h4
  refine s_aload_n X 0 dX4_forgetGranted_10 rfl rfl ?_
  refine s_iconst X (v := (0 : Int32)) dX4_forgetGranted_11 rfl ?_
  obtain ⟨h10, hf⟩ := pk_chk hf
  obtain ⟨M8, e9, hf⟩ := pk_bnd hf
  refine s_putZ X (ci := 4) (k := 8) rfl (Nat.le_of_ble_eq_true rfl) h7 wd357 (fun _ _ _ => rfl) rfl (bz_n h10) (bz_f h10) rfl e9 dX4_forgetGranted_12 ?_
  have h11 := io_sI e9 h7
  cases hf
  exact s_vret X hr hlk dX4_forgetGranted_15
theorem dX4_forgetAll_0 : decode cX4_forgetAll 0 = .ok (.aload_n 0, 1) := dk_42 (by decide +kernel)
theorem dX4_forgetAll_1 : decode cX4_forgetAll 1 = .ok (.invokevirtual 61, 3) := dk_182 (x := 0) (y := 61) (by decide +kernel) rfl
theorem dX4_forgetAll_4 : decode cX4_forgetAll 4 = .ok (.aload_n 0, 1) := dk_42 (by decide +kernel)
theorem dX4_forgetAll_5 : decode cX4_forgetAll 5 = .ok (.iconst 0, 1) := dk_3 (by decide +kernel)
theorem dX4_forgetAll_6 : decode cX4_forgetAll 6 = .ok (.putfield 64, 3) := dk_181 (x := 0) (y := 64) (by decide +kernel) rfl
theorem dX4_forgetAll_9 : decode cX4_forgetAll 9 = .ok (.return_, 1) := dk_177 (by decide +kernel)
def f_X4_forgetAll (o : Nat) (M : Mem) : Option Mem :=
  chk (isO M 4 o) <|
  obd (f_X4_forgetGranted o M) fun M3 =>
  chk (isO M3 4 o) <|
  bnd (sI M3 o 9 (0 : Int32)) fun M5 =>
  some M5
theorem cd_X4_forgetAll : (yX4_forgetAll.cls ≠ "java/lang/invoke/MethodHandle" ∧ yX4_forgetAll.cls ≠ "java/lang/invoke/VarHandle") ∧ (parseMethodDescriptor yX4_forgetAll.desc).map (fun d => d.parameters.length) = some 0 := ⟨⟨by decide +kernel, by decide +kernel⟩, by decide +kernel⟩
theorem k_X4_forgetAll (G : Gam) {o : Nat} {M : Mem} {rv : Mem} (hf : f_X4_forgetAll o M = some rv) : Kt yX4_forgetAll cX4_forgetAll 1 none 1 20 G [.ref (gB G + o)] M rv none := by
  refine Kt.of (by decide) (Nat.le_of_ble_eq_true rfl) ?_
  intro p l e R s m args below meth c X hr hlk hnm
  refine s_drop [0] (vs' := [(0, .ref (gB G + o))]) rfl ?_
  rw [f_X4_forgetAll] at hf
  refine s_aload_n X 0 dX4_forgetAll_0 rfl rfl ?_
  obtain ⟨h1, hf⟩ := pk_chk hf
  obtain ⟨M3, hc2, hf⟩ := pk_obd hf
  refine s_callV X (ci := 4) (k_X4_forgetGranted G hc2) rfl h1 wd611 wd612 wd613 wd614 wd133 cd_X4_forgetGranted ⟨Nat.le_of_ble_eq_true rfl, Nat.le_of_ble_eq_true rfl⟩ (Nat.le_of_ble_eq_true rfl) dX4_forgetAll_1 ?_
  refine s_aload_n X 0 dX4_forgetAll_4 rfl rfl ?_
  refine s_iconst X (v := (0 : Int32)) dX4_forgetAll_5 rfl ?_
  obtain ⟨h4, hf⟩ := pk_chk hf
  obtain ⟨M5, e6, hf⟩ := pk_bnd hf
  refine s_putI X (ci := 4) (k := 9) rfl (Nat.le_of_ble_eq_true rfl) h4 wd361 (fun _ _ _ => rfl) rfl rfl e6 dX4_forgetAll_6 ?_
  have h7 := io_sI e6 h4
  cases hf
  exact s_vret X hr hlk dX4_forgetAll_9
theorem dX4_clear_0 : decode cX4_clear 0 = .ok (.aload_n 0, 1) := dk_42 (by decide +kernel)
theorem dX4_clear_1 : decode cX4_clear 1 = .ok (.iconst 0, 1) := dk_3 (by decide +kernel)
theorem dX4_clear_2 : decode cX4_clear 2 = .ok (.putfield 22, 3) := dk_181 (x := 0) (y := 22) (by decide +kernel) rfl
theorem dX4_clear_5 : decode cX4_clear 5 = .ok (.aload_n 0, 1) := dk_42 (by decide +kernel)
theorem dX4_clear_6 : decode cX4_clear 6 = .ok (.iconst 0, 1) := dk_3 (by decide +kernel)
theorem dX4_clear_7 : decode cX4_clear 7 = .ok (.putfield 25, 3) := dk_181 (x := 0) (y := 25) (by decide +kernel) rfl
theorem dX4_clear_10 : decode cX4_clear 10 = .ok (.aload_n 0, 1) := dk_42 (by decide +kernel)
theorem dX4_clear_11 : decode cX4_clear 11 = .ok (.invokevirtual 28, 3) := dk_182 (x := 0) (y := 28) (by decide +kernel) rfl
theorem dX4_clear_14 : decode cX4_clear 14 = .ok (.aload_n 0, 1) := dk_42 (by decide +kernel)
theorem dX4_clear_15 : decode cX4_clear 15 = .ok (.invokevirtual 31, 3) := dk_182 (x := 0) (y := 31) (by decide +kernel) rfl
theorem dX4_clear_18 : decode cX4_clear 18 = .ok (.aload_n 0, 1) := dk_42 (by decide +kernel)
theorem dX4_clear_19 : decode cX4_clear 19 = .ok (.iconst 0, 1) := dk_3 (by decide +kernel)
theorem dX4_clear_20 : decode cX4_clear 20 = .ok (.putfield 34, 3) := dk_181 (x := 0) (y := 34) (by decide +kernel) rfl
theorem dX4_clear_23 : decode cX4_clear 23 = .ok (.aload_n 0, 1) := dk_42 (by decide +kernel)
theorem dX4_clear_24 : decode cX4_clear 24 = .ok (.iconst 0, 1) := dk_3 (by decide +kernel)
theorem dX4_clear_25 : decode cX4_clear 25 = .ok (.putfield 37, 3) := dk_181 (x := 0) (y := 37) (by decide +kernel) rfl
theorem dX4_clear_28 : decode cX4_clear 28 = .ok (.aload_n 0, 1) := dk_42 (by decide +kernel)
theorem dX4_clear_29 : decode cX4_clear 29 = .ok (.iconst 0, 1) := dk_3 (by decide +kernel)
theorem dX4_clear_30 : decode cX4_clear 30 = .ok (.putfield 40, 3) := dk_181 (x := 0) (y := 40) (by decide +kernel) rfl
theorem dX4_clear_33 : decode cX4_clear 33 = .ok (.aload_n 0, 1) := dk_42 (by decide +kernel)
theorem dX4_clear_34 : decode cX4_clear 34 = .ok (.iconst 0, 1) := dk_3 (by decide +kernel)
theorem dX4_clear_35 : decode cX4_clear 35 = .ok (.putfield 43, 3) := dk_181 (x := 0) (y := 43) (by decide +kernel) rfl
theorem dX4_clear_38 : decode cX4_clear 38 = .ok (.aload_n 0, 1) := dk_42 (by decide +kernel)
theorem dX4_clear_39 : decode cX4_clear 39 = .ok (.iconst 0, 1) := dk_3 (by decide +kernel)
theorem dX4_clear_40 : decode cX4_clear 40 = .ok (.putfield 46, 3) := dk_181 (x := 0) (y := 46) (by decide +kernel) rfl
theorem dX4_clear_43 : decode cX4_clear 43 = .ok (.return_, 1) := dk_177 (by decide +kernel)
def f_X4_clear (o : Nat) (M : Mem) : Option Mem :=
  chk (isO M 4 o) <|
  bnd (sI M o 0 (0 : Int32)) fun M2 =>
  bnd (sI M2 o 1 (0 : Int32)) fun M5 =>
  obd (f_X4_rest o M5) fun M9 =>
  chk (isO M9 4 o) <|
  obd (f_X4_forgetAll o M9) fun M12 =>
  chk (isO M12 4 o) <|
  bnd (sI M12 o 11 (0 : Int32)) fun M14 =>
  bnd (sI M14 o 12 (0 : Int32)) fun M17 =>
  bnd (sI M17 o 13 (0 : Int32)) fun M20 =>
  bnd (sI M20 o 14 (0 : Int32)) fun M23 =>
  bnd (sI M23 o 15 (0 : Int32)) fun M26 =>
  some M26
theorem cd_X4_clear : (yX4_clear.cls ≠ "java/lang/invoke/MethodHandle" ∧ yX4_clear.cls ≠ "java/lang/invoke/VarHandle") ∧ (parseMethodDescriptor yX4_clear.desc).map (fun d => d.parameters.length) = some 0 := ⟨⟨by decide +kernel, by decide +kernel⟩, by decide +kernel⟩
theorem k_X4_clear (G : Gam) {o : Nat} {M : Mem} {rv : Mem} (hf : f_X4_clear o M = some rv) : Kt yX4_clear cX4_clear 1 none 2 40 G [.ref (gB G + o)] M rv none := by
  refine Kt.of (by decide) (Nat.le_of_ble_eq_true rfl) ?_
  intro p l e R s m args below meth c X hr hlk hnm
  refine s_drop [0] (vs' := [(0, .ref (gB G + o))]) rfl ?_
  rw [f_X4_clear] at hf
  refine s_aload_n X 0 dX4_clear_0 rfl rfl ?_
  refine s_iconst X (v := (0 : Int32)) dX4_clear_1 rfl ?_
  obtain ⟨h1, hf⟩ := pk_chk hf
  obtain ⟨M2, e3, hf⟩ := pk_bnd hf
  refine s_putI X (ci := 4) (k := 0) rfl (Nat.le_of_ble_eq_true rfl) h1 wd325 (fun _ _ _ => rfl) rfl rfl e3 dX4_clear_2 ?_
  have h4 := io_sI e3 h1
  refine s_aload_n X 0 dX4_clear_5 rfl rfl ?_
  refine s_iconst X (v := (0 : Int32)) dX4_clear_6 rfl ?_
  obtain ⟨M5, e6, hf⟩ := pk_bnd hf
  refine s_putI X (ci := 4) (k := 1) rfl (Nat.le_of_ble_eq_true rfl) h4 wd329 (fun _ _ _ => rfl) rfl rfl e6 dX4_clear_7 ?_
  have h7 := io_sI e6 h4
  refine s_aload_n X 0 dX4_clear_10 rfl rfl ?_
  obtain ⟨M9, hc8, hf⟩ := pk_obd hf
  refine s_callV X (ci := 4) (k_X4_rest G hc8) rfl h7 wd603 wd604 wd605 wd606 wd133 cd_X4_rest ⟨Nat.le_of_ble_eq_true rfl, Nat.le_of_ble_eq_true rfl⟩ (Nat.le_of_ble_eq_true rfl) dX4_clear_11 ?_
  refine s_aload_n X 0 dX4_clear_14 rfl rfl ?_
  obtain ⟨h10, hf⟩ := pk_chk hf
  obtain ⟨M12, hc11, hf⟩ := pk_obd hf
  refine s_callV X (ci := 4) (k_X4_forgetAll G hc11) rfl h10 wd607 wd608 wd609 wd610 wd133 cd_X4_forgetAll ⟨Nat.le_of_ble_eq_true rfl, Nat.le_of_ble_eq_true rfl⟩ (Nat.le_of_ble_eq_true rfl) dX4_clear_15 ?_
  refine s_aload_n X 0 dX4_clear_18 rfl rfl ?_
  refine s_iconst X (v := (0 : Int32)) dX4_clear_19 rfl ?_
  obtain ⟨h13, hf⟩ := pk_chk hf
  obtain ⟨M14, e15, hf⟩ := pk_bnd hf
  refine s_putI X (ci := 4) (k := 11) rfl (Nat.le_of_ble_eq_true rfl) h13 wd369 (fun _ _ _ => rfl) rfl rfl e15 dX4_clear_20 ?_
  have h16 := io_sI e15 h13
  refine s_aload_n X 0 dX4_clear_23 rfl rfl ?_
  refine s_iconst X (v := (0 : Int32)) dX4_clear_24 rfl ?_
  obtain ⟨M17, e18, hf⟩ := pk_bnd hf
  refine s_putI X (ci := 4) (k := 12) rfl (Nat.le_of_ble_eq_true rfl) h16 wd372 (fun _ _ _ => rfl) rfl rfl e18 dX4_clear_25 ?_
  have h19 := io_sI e18 h16
  refine s_aload_n X 0 dX4_clear_28 rfl rfl ?_
  refine s_iconst X (v := (0 : Int32)) dX4_clear_29 rfl ?_
  obtain ⟨M20, e21, hf⟩ := pk_bnd hf
  refine s_putI X (ci := 4) (k := 13) rfl (Nat.le_of_ble_eq_true rfl) h19 wd375 (fun _ _ _ => rfl) rfl rfl e21 dX4_clear_30 ?_
  have h22 := io_sI e21 h19
  refine s_aload_n X 0 dX4_clear_33 rfl rfl ?_
  refine s_iconst X (v := (0 : Int32)) dX4_clear_34 rfl ?_
  obtain ⟨M23, e24, hf⟩ := pk_bnd hf
  refine s_putI X (ci := 4) (k := 14) rfl (Nat.le_of_ble_eq_true rfl) h22 wd377 (fun _ _ _ => rfl) rfl rfl e24 dX4_clear_35 ?_
  have h25 := io_sI e24 h22
  refine s_aload_n X 0 dX4_clear_38 rfl rfl ?_
  refine s_iconst X (v := (0 : Int32)) dX4_clear_39 rfl ?_
  obtain ⟨M26, e27, hf⟩ := pk_bnd hf
  refine s_putI X (ci := 4) (k := 15) rfl (Nat.le_of_ble_eq_true rfl) h25 wd379 (fun _ _ _ => rfl) rfl rfl e27 dX4_clear_40 ?_
  have h28 := io_sI e27 h25
  cases hf
  exact s_vret X hr hlk dX4_clear_43
theorem dX3_empty_0 : decode cX3_empty 0 = .ok (.aload_n 0, 1) := dk_42 (by decide +kernel)
theorem dX3_empty_1 : decode cX3_empty 1 = .ok (.iconst 0, 1) := dk_3 (by decide +kernel)
theorem dX3_empty_2 : decode cX3_empty 2 = .ok (.putfield 19, 3) := dk_181 (x := 0) (y := 19) (by decide +kernel) rfl
theorem dX3_empty_5 : decode cX3_empty 5 = .ok (.aload_n 0, 1) := dk_42 (by decide +kernel)
theorem dX3_empty_6 : decode cX3_empty 6 = .ok (.iconst 0, 1) := dk_3 (by decide +kernel)
theorem dX3_empty_7 : decode cX3_empty 7 = .ok (.putfield 22, 3) := dk_181 (x := 0) (y := 22) (by decide +kernel) rfl
theorem dX3_empty_10 : decode cX3_empty 10 = .ok (.return_, 1) := dk_177 (by decide +kernel)
def f_X3_empty (o : Nat) (M : Mem) : Option Mem :=
  chk (isO M 3 o) <|
  bnd (sI M o 2 (0 : Int32)) fun M2 =>
  bnd (sI M2 o 3 (0 : Int32)) fun M5 =>
  some M5
theorem cd_X3_empty : (yX3_empty.cls ≠ "java/lang/invoke/MethodHandle" ∧ yX3_empty.cls ≠ "java/lang/invoke/VarHandle") ∧ (parseMethodDescriptor yX3_empty.desc).map (fun d => d.parameters.length) = some 0 := ⟨⟨by decide +kernel, by decide +kernel⟩, by decide +kernel⟩
theorem k_X3_empty (G : Gam) {o : Nat} {M : Mem} {rv : Mem} (hf : f_X3_empty o M = some rv) : Kt yX3_empty cX3_empty 1 none 0 0 G [.ref (gB G + o)] M rv none := by
  refine Kt.of (by decide) (Nat.le_of_ble_eq_true rfl) ?_
  intro p l e R s m args below meth c X hr hlk hnm
  refine s_drop [0] (vs' := [(0, .ref (gB G + o))]) rfl ?_
  rw [f_X3_empty] at hf
  refine s_aload_n X 0 dX3_empty_0 rfl rfl ?_
  refine s_iconst X (v := (0 : Int32)) dX3_empty_1 rfl ?_
  obtain ⟨h1, hf⟩ := pk_chk hf
  obtain ⟨M2, e3, hf⟩ := pk_bnd hf
  refine s_putI X (ci := 3) (k := 2) rfl (Nat.le_of_ble_eq_true rfl) h1 wd309 (fun _ _ _ => rfl) rfl rfl e3 dX3_empty_2 ?_
  have h4 := io_sI e3 h1
  refine s_aload_n X 0 dX3_empty_5 rfl rfl ?_
  refine s_iconst X (v := (0 : Int32)) dX3_empty_6 rfl ?_
  obtain ⟨M5, e6, hf⟩ := pk_bnd hf
  refine s_putI X (ci := 3) (k := 3) rfl (Nat.le_of_ble_eq_true rfl) h4 wd310 (fun _ _ _ => rfl) rfl rfl e6 dX3_empty_7 ?_
  have h7 := io_sI e6 h4
  cases hf
  exact s_vret X hr hlk dX3_empty_10
theorem dX2_clear_0 : decode cX2_clear 0 = .ok (.aload_n 0, 1) := dk_42 (by decide +kernel)
theorem dX2_clear_1 : decode cX2_clear 1 = .ok (.getfield 12, 3) := dk_180 (x := 0) (y := 12) (by decide +kernel) rfl
theorem dX2_clear_4 : decode cX2_clear 4 = .ok (.invokevirtual 48, 3) := dk_182 (x := 0) (y := 48) (by decide +kernel) rfl
theorem dX2_clear_7 : decode cX2_clear 7 = .ok (.iconst 0, 1) := dk_3 (by decide +kernel)
theorem dX2_clear_8 : decode cX2_clear 8 = .ok (.istore_n 1, 1) := dk_60 (by decide +kernel)
theorem dX2_clear_9 : decode cX2_clear 9 = .ok (.iload_n 1, 1) := dk_27 (by decide +kernel)
theorem dX2_clear_10 : decode cX2_clear 10 = .ok (.bipush 16, 2) := dk_16 (x := 16) (by decide +kernel) rfl
theorem dX2_clear_12 : decode cX2_clear 12 = .ok (.if_icmp .ge 18, 3) := dk_162 (x := 0) (y := 18) (by decide +kernel) rfl
theorem dX2_clear_15 : decode cX2_clear 15 = .ok (.aload_n 0, 1) := dk_42 (by decide +kernel)
theorem dX2_clear_16 : decode cX2_clear 16 = .ok (.getfield 20, 3) := dk_180 (x := 0) (y := 20) (by decide +kernel) rfl
theorem dX2_clear_19 : decode cX2_clear 19 = .ok (.iload_n 1, 1) := dk_27 (by decide +kernel)
theorem dX2_clear_20 : decode cX2_clear 20 = .ok (.aaload, 1) := dk_50 (by decide +kernel)
theorem dX2_clear_21 : decode cX2_clear 21 = .ok (.invokevirtual 51, 3) := dk_182 (x := 0) (y := 51) (by decide +kernel) rfl
theorem dX2_clear_24 : decode cX2_clear 24 = .ok (.iinc 1 1, 3) := dk_132 (x := 1) (y := 1) (by decide +kernel) rfl
theorem dX2_clear_27 : decode cX2_clear 27 = .ok (.goto (-18), 3) := dk_167 (x := 255) (y := 238) (by decide +kernel) rfl
theorem dX2_clear_30 : decode cX2_clear 30 = .ok (.aload_n 0, 1) := dk_42 (by decide +kernel)
theorem dX2_clear_31 : decode cX2_clear 31 = .ok (.getfield 29, 3) := dk_180 (x := 0) (y := 29) (by decide +kernel) rfl
theorem dX2_clear_34 : decode cX2_clear 34 = .ok (.invokevirtual 52, 3) := dk_182 (x := 0) (y := 52) (by decide +kernel) rfl
theorem dX2_clear_37 : decode cX2_clear 37 = .ok (.aload_n 0, 1) := dk_42 (by decide +kernel)
theorem dX2_clear_38 : decode cX2_clear 38 = .ok (.getfield 33, 3) := dk_180 (x := 0) (y := 33) (by decide +kernel) rfl
theorem dX2_clear_41 : decode cX2_clear 41 = .ok (.invokevirtual 52, 3) := dk_182 (x := 0) (y := 52) (by decide +kernel) rfl
theorem dX2_clear_44 : decode cX2_clear 44 = .ok (.aload_n 0, 1) := dk_42 (by decide +kernel)
theorem dX2_clear_45 : decode cX2_clear 45 = .ok (.iconst 0, 1) := dk_3 (by decide +kernel)
theorem dX2_clear_46 : decode cX2_clear 46 = .ok (.putfield 55, 3) := dk_181 (x := 0) (y := 55) (by decide +kernel) rfl
theorem dX2_clear_49 : decode cX2_clear 49 = .ok (.aload_n 0, 1) := dk_42 (by decide +kernel)
theorem dX2_clear_50 : decode cX2_clear 50 = .ok (.iconst 0, 1) := dk_3 (by decide +kernel)
theorem dX2_clear_51 : decode cX2_clear 51 = .ok (.putfield 59, 3) := dk_181 (x := 0) (y := 59) (by decide +kernel) rfl
theorem dX2_clear_54 : decode cX2_clear 54 = .ok (.aload_n 0, 1) := dk_42 (by decide +kernel)
theorem dX2_clear_55 : decode cX2_clear 55 = .ok (.iconst 0, 1) := dk_3 (by decide +kernel)
theorem dX2_clear_56 : decode cX2_clear 56 = .ok (.putfield 62, 3) := dk_181 (x := 0) (y := 62) (by decide +kernel) rfl
theorem dX2_clear_59 : decode cX2_clear 59 = .ok (.aload_n 0, 1) := dk_42 (by decide +kernel)
theorem dX2_clear_60 : decode cX2_clear 60 = .ok (.iconst 0, 1) := dk_3 (by decide +kernel)
theorem dX2_clear_61 : decode cX2_clear 61 = .ok (.putfield 65, 3) := dk_181 (x := 0) (y := 65) (by decide +kernel) rfl
theorem dX2_clear_64 : decode cX2_clear 64 = .ok (.aload_n 0, 1) := dk_42 (by decide +kernel)
theorem dX2_clear_65 : decode cX2_clear 65 = .ok (.iconst 0, 1) := dk_3 (by decide +kernel)
theorem dX2_clear_66 : decode cX2_clear 66 = .ok (.putfield 68, 3) := dk_181 (x := 0) (y := 68) (by decide +kernel) rfl
theorem dX2_clear_69 : decode cX2_clear 69 = .ok (.aload_n 0, 1) := dk_42 (by decide +kernel)
theorem dX2_clear_70 : decode cX2_clear 70 = .ok (.iconst 0, 1) := dk_3 (by decide +kernel)
theorem dX2_clear_71 : decode cX2_clear 71 = .ok (.putfield 71, 3) := dk_181 (x := 0) (y := 71) (by decide +kernel) rfl
theorem dX2_clear_74 : decode cX2_clear 74 = .ok (.aload_n 0, 1) := dk_42 (by decide +kernel)
theorem dX2_clear_75 : decode cX2_clear 75 = .ok (.iconst 0, 1) := dk_3 (by decide +kernel)
theorem dX2_clear_76 : decode cX2_clear 76 = .ok (.putfield 74, 3) := dk_181 (x := 0) (y := 74) (by decide +kernel) rfl
theorem dX2_clear_79 : decode cX2_clear 79 = .ok (.aload_n 0, 1) := dk_42 (by decide +kernel)
theorem dX2_clear_80 : decode cX2_clear 80 = .ok (.iconst 0, 1) := dk_3 (by decide +kernel)
theorem dX2_clear_81 : decode cX2_clear 81 = .ok (.putfield 77, 3) := dk_181 (x := 0) (y := 77) (by decide +kernel) rfl
theorem dX2_clear_84 : decode cX2_clear 84 = .ok (.aload_n 0, 1) := dk_42 (by decide +kernel)
theorem dX2_clear_85 : decode cX2_clear 85 = .ok (.iconst 0, 1) := dk_3 (by decide +kernel)
theorem dX2_clear_86 : decode cX2_clear 86 = .ok (.putfield 80, 3) := dk_181 (x := 0) (y := 80) (by decide +kernel) rfl
theorem dX2_clear_89 : decode cX2_clear 89 = .ok (.aload_n 0, 1) := dk_42 (by decide +kernel)
theorem dX2_clear_90 : decode cX2_clear 90 = .ok (.getfield 43, 3) := dk_180 (x := 0) (y := 43) (by decide +kernel) rfl
theorem dX2_clear_93 : decode cX2_clear 93 = .ok (.getfield 83, 3) := dk_180 (x := 0) (y := 83) (by decide +kernel) rfl
theorem dX2_clear_96 : decode cX2_clear 96 = .ok (.iconst 0, 1) := dk_3 (by decide +kernel)
theorem dX2_clear_97 : decode cX2_clear 97 = .ok (.aload_n 0, 1) := dk_42 (by decide +kernel)
theorem dX2_clear_98 : decode cX2_clear 98 = .ok (.getfield 36, 3) := dk_180 (x := 0) (y := 36) (by decide +kernel) rfl
theorem dX2_clear_101 : decode cX2_clear 101 = .ok (.iconst 0, 1) := dk_3 (by decide +kernel)
theorem dX2_clear_102 : decode cX2_clear 102 = .ok (.bipush 16, 2) := dk_16 (x := 16) (by decide +kernel) rfl
theorem dX2_clear_104 : decode cX2_clear 104 = .ok (.invokestatic 88, 3) := dk_184 (x := 0) (y := 88) (by decide +kernel) rfl
theorem dX2_clear_107 : decode cX2_clear 107 = .ok (.return_, 1) := dk_177 (by decide +kernel)
def f_X2_clear_9 : Nat → Nat → Int32 → Mem → Option Mem
  | 0, _, _, _ => none
  | n + 1, v0, v1, M =>
    if (16 : Int32) ≤ v1 then (
      chk (isO M 2 v0) <|
      bnd (mR M v0 3) fun o4 =>
      chk (isO M 3 o4) <|
      obd (f_X3_empty o4 M) fun M8 =>
      chk (isO M8 2 v0) <|
      bnd (mR M8 v0 4) fun o10 =>
      chk (isO M8 3 o10) <|
      obd (f_X3_empty o10 M8) fun M14 =>
      chk (isO M14 2 v0) <|
      bnd (sI M14 v0 7 (0 : Int32)) fun M16 =>
      bnd (sI M16 v0 8 (0 : Int32)) fun M19 =>
      bnd (sI M19 v0 9 (0 : Int32)) fun M22 =>
      bnd (sI M22 v0 10 (0 : Int32)) fun M25 =>
      bnd (sI M25 v0 11 (0 : Int32)) fun M28 =>
      bnd (sI M28 v0 12 (0 : Int32)) fun M31 =>
      bnd (sI M31 v0 13 (0 : Int32)) fun M34 =>
      bnd (sI M34 v0 14 (0 : Int32)) fun M37 =>
      bnd (sI M37 v0 15 (0 : Int32)) fun M40 =>
      bnd (mR M40 v0 0) fun o43 =>
      chk (isO M40 7 o43) <|
      bnd (mR M40 o43 0) fun o46 =>
      chk (isO M40 100 o46) <|
      bnd (mR M40 v0 5) fun o49 =>
      chk (isO M40 100 o49) <|
      chk (cp_ok (0 : Int32) (0 : Int32) (16 : Int32) 0 (mLn M40 o46) (mLn M40 o49)) <|
      bnd (cpI M40 o46 ((0 : Int32)).toNatClampNeg o49 ((0 : Int32)).toNatClampNeg ((16 : Int32)).toNatClampNeg) fun M53 =>
      some M53
      ) else (
      chk (isO M 2 v0) <|
      bnd (mR M v0 2) fun o60 =>
      chk (isO M 102 o60) <|
      chk (inB v1 (mLn M o60)) <|
      bnd (mR M o60 (v1).toNatClampNeg) fun o64 =>
      chk (isO M 4 o64) <|
      obd (f_X4_clear o64 M) fun M68 =>
      bnd (v1 + (1 : Int32)) fun x69 =>
      f_X2_clear_9 n v0 x69 M68
      )
def f_X2_clear (n : Nat) (o : Nat) (M : Mem) : Option Mem :=
  chk (isO M 2 o) <|
  bnd (mR M o 1) fun o2 =>
  chk (isO M 5 o2) <|
  obd (f_X5_clear n o2 M) fun M6 =>
  f_X2_clear_9 n o (0 : Int32) M6
theorem cd_X2_clear : (yX2_clear.cls ≠ "java/lang/invoke/MethodHandle" ∧ yX2_clear.cls ≠ "java/lang/invoke/VarHandle") ∧ (parseMethodDescriptor yX2_clear.desc).map (fun d => d.parameters.length) = some 0 := ⟨⟨by decide +kernel, by decide +kernel⟩, by decide +kernel⟩
section
variable {p : Program} {l : Launch} {e : Env} {R : Room} {s : State} {m : MethodId} {args : Array Value} {below : List Frame} {meth : Method} {c : Code} {G : Gam} {M0 : Mem}
theorem l_X2_clear_9 {rv : Mem} (X : Cx p R s m args c G M0 cX2_clear yX2_clear.cls 2 3 63) (hr : meth.sig.returnType = none) (hlk : meth.locks = false) (hnm : meth.name = "clear") : ∀ {n : Nat} (v0 : Nat) (v1 : Int32) (M : Mem), f_X2_clear_9 n v0 v1 M = some rv → Sg p l e R s m args below meth c (Qm below G args s none M0 rv) G M0 2 9 [(0, .ref (gB G + v0)), (1, .int v1)] [] M := by
  intro n
  induction n with
  | zero => intro v0 v1 M hf; exact (pk_none hf).elim
  | succ n ih =>
    intro v0 v1 M hf
    rw [f_X2_clear_9] at hf
    refine s_iload_n X 1 dX2_clear_9 rfl rfl ?_
    refine s_bipush X (v := (16 : Int32)) dX2_clear_10 rfl ?_
    have hs1 := pk_ite hf
    clear hf
    refine s_icmp_ge X (tgt := 30) dX2_clear_12 rfl (fun c2 => ?_) (fun c2 => ?_)
    · have hf := hs1.1 c2
      refine s_aload_n X 0 dX2_clear_30 rfl rfl ?_
      obtain ⟨h3, hf⟩ := pk_chk hf
      obtain ⟨o4, e5, hf⟩ := pk_bnd hf
      obtain ⟨h6, hf⟩ := pk_chk hf
      refine s_getR X (ci := 2) (k := 3) rfl (Nat.le_of_ble_eq_true rfl) h3 wd427 (fun _ _ _ => rfl) (e5 ▸ h6) dX2_clear_31 (e5 ▸ ?_)
      obtain ⟨M8, hc7, hf⟩ := pk_obd hf
      refine s_callV X (ci := 3) (k_X3_empty G hc7) rfl h6 wd615 wd616 wd617 wd618 wd132 cd_X3_empty ⟨Nat.le_of_ble_eq_true rfl, Nat.le_of_ble_eq_true rfl⟩ (Nat.le_of_ble_eq_true rfl) dX2_clear_34 ?_
      refine s_aload_n X 0 dX2_clear_37 rfl rfl ?_
      obtain ⟨h9, hf⟩ := pk_chk hf
      obtain ⟨o10, e11, hf⟩ := pk_bnd hf
      obtain ⟨h12, hf⟩ := pk_chk hf
      refine s_getR X (ci := 2) (k := 4) rfl (Nat.le_of_ble_eq_true rfl) h9 wd429 (fun _ _ _ => rfl) (e11 ▸ h12) dX2_clear_38 (e11 ▸ ?_)
      obtain ⟨M14, hc13, hf⟩ := pk_obd hf
      refine s_callV X (ci := 3) (k_X3_empty G hc13) rfl h12 wd615 wd616 wd617 wd618 wd132 cd_X3_empty ⟨Nat.le_of_ble_eq_true rfl, Nat.le_of_ble_eq_true rfl⟩ (Nat.le_of_ble_eq_true rfl) dX2_clear_41 ?_
      refine s_aload_n X 0 dX2_clear_44 rfl rfl ?_
      refine s_iconst X (v := (0 : Int32)) dX2_clear_45 rfl ?_
      obtain ⟨h15, hf⟩ := pk_chk hf
      obtain ⟨M16, e17, hf⟩ := pk_bnd hf
      refine s_putI X (ci := 2) (k := 7) rfl (Nat.le_of_ble_eq_true rfl) h15 wd434 (fun _ _ _ => rfl) rfl rfl e17 dX2_clear_46 ?_
      have h18 := io_sI e17 h15
      refine s_aload_n X 0 dX2_clear_49 rfl rfl ?_
      refine s_iconst X (v := (0 : Int32)) dX2_clear_50 rfl ?_
      obtain ⟨M19, e20, hf⟩ := pk_bnd hf
      refine s_putI X (ci := 2) (k := 8) rfl (Nat.le_of_ble_eq_true rfl) h18 wd438 (fun _ _ _ => rfl) rfl rfl e20 dX2_clear_51 ?_
      have h21 := io_sI e20 h18
      refine s_aload_n X 0 dX2_clear_54 rfl rfl ?_
      refine s_iconst X (v := (0 : Int32)) dX2_clear_55 rfl ?_
      obtain ⟨M22, e23, hf⟩ := pk_bnd hf
      refine s_putI X (ci := 2) (k := 9) rfl (Nat.le_of_ble_eq_true rfl) h21 wd441 (fun _ _ _ => rfl) rfl rfl e23 dX2_clear_56 ?_
      have h24 := io_sI e23 h21
      refine s_aload_n X 0 dX2_clear_59 rfl rfl ?_
      refine s_iconst X (v := (0 : Int32)) dX2_clear_60 rfl ?_
      obtain ⟨M25, e26, hf⟩ := pk_bnd hf
      refine s_putI X (ci := 2) (k := 10) rfl (Nat.le_of_ble_eq_true rfl) h24 wd443 (fun _ _ _ => rfl) rfl rfl e26 dX2_clear_61 ?_
      have h27 := io_sI e26 h24
      refine s_aload_n X 0 dX2_clear_64 rfl rfl ?_
      refine s_iconst X (v := (0 : Int32)) dX2_clear_65 rfl ?_
      obtain ⟨M28, e29, hf⟩ := pk_bnd hf
      refine s_putI X (ci := 2) (k := 11) rfl (Nat.le_of_ble_eq_true rfl) h27 wd445 (fun _ _ _ => rfl) rfl rfl e29 dX2_clear_66 ?_
      have h30 := io_sI e29 h27
      refine s_aload_n X 0 dX2_clear_69 rfl rfl ?_
      refine s_iconst X (v := (0 : Int32)) dX2_clear_70 rfl ?_
      obtain ⟨M31, e32, hf⟩ := pk_bnd hf
      refine s_putI X (ci := 2) (k := 12) rfl (Nat.le_of_ble_eq_true rfl) h30 wd448 (fun _ _ _ => rfl) rfl rfl e32 dX2_clear_71 ?_
      have h33 := io_sI e32 h30
      refine s_aload_n X 0 dX2_clear_74 rfl rfl ?_
      refine s_iconst X (v := (0 : Int32)) dX2_clear_75 rfl ?_
      obtain ⟨M34, e35, hf⟩ := pk_bnd hf
      refine s_putI X (ci := 2) (k := 13) rfl (Nat.le_of_ble_eq_true rfl) h33 wd450 (fun _ _ _ => rfl) rfl rfl e35 dX2_clear_76 ?_
      have h36 := io_sI e35 h33
      refine s_aload_n X 0 dX2_clear_79 rfl rfl ?_
      refine s_iconst X (v := (0 : Int32)) dX2_clear_80 rfl ?_
      obtain ⟨M37, e38, hf⟩ := pk_bnd hf
      refine s_putI X (ci := 2) (k := 14) rfl (Nat.le_of_ble_eq_true rfl) h36 wd452 (fun _ _ _ => rfl) rfl rfl e38 dX2_clear_81 ?_
      have h39 := io_sI e38 h36
      refine s_aload_n X 0 dX2_clear_84 rfl rfl ?_
      refine s_iconst X (v := (0 : Int32)) dX2_clear_85 rfl ?_
      obtain ⟨M40, e41, hf⟩ := pk_bnd hf
      refine s_putI X (ci := 2) (k := 15) rfl (Nat.le_of_ble_eq_true rfl) h39 wd454 (fun _ _ _ => rfl) rfl rfl e41 dX2_clear_86 ?_
      have h42 := io_sI e41 h39
      refine s_aload_n X 0 dX2_clear_89 rfl rfl ?_
      obtain ⟨o43, e44, hf⟩ := pk_bnd hf
      obtain ⟨h45, hf⟩ := pk_chk hf
      refine s_getR X (ci := 2) (k := 0) rfl (Nat.le_of_ble_eq_true rfl) h42 wd416 (fun _ _ _ => rfl) (e44 ▸ h45) dX2_clear_90 (e44 ▸ ?_)
      obtain ⟨o46, e47, hf⟩ := pk_bnd hf
      obtain ⟨h48, hf⟩ := pk_chk hf
      refine s_getR X (ci := 7) (k := 0) rfl (Nat.le_of_ble_eq_true rfl) h45 wd161 (fun _ _ _ => rfl) (e47 ▸ h48) dX2_clear_93 (e47 ▸ ?_)
      refine s_iconst X (v := (0 : Int32)) dX2_clear_96 rfl ?_
      refine s_aload_n X 0 dX2_clear_97 rfl rfl ?_
      obtain ⟨o49, e50, hf⟩ := pk_bnd hf
      obtain ⟨h51, hf⟩ := pk_chk hf
      refine s_getR X (ci := 2) (k := 5) rfl (Nat.le_of_ble_eq_true rfl) h42 wd431 (fun _ _ _ => rfl) (e50 ▸ h51) dX2_clear_98 (e50 ▸ ?_)
      refine s_iconst X (v := (0 : Int32)) dX2_clear_101 rfl ?_
      refine s_bipush X (v := (16 : Int32)) dX2_clear_102 rfl ?_
      obtain ⟨h52, hf⟩ := pk_chk hf
      obtain ⟨M53, e54, hf⟩ := pk_bnd hf
      refine s_copy X wd619 wd621 wd620 wd137 h48 h51 h52.1 h52.2.1 h52.2.2.1 h52.2.2.2.1 h52.2.2.2.2 ⟨Nat.le_of_ble_eq_true rfl, Nat.le_of_ble_eq_true rfl⟩ e54 dX2_clear_104 ?_
      have h55 := io_cp e54 h42
      have h56 := io_cp e54 h45
      have h57 := io_cp e54 h48
      have h58 := io_cp e54 h51
      cases hf
      exact s_vret X hr hlk dX2_clear_107
    · have hf := hs1.2 c2
      refine s_aload_n X 0 dX2_clear_15 rfl rfl ?_
      obtain ⟨h59, hf⟩ := pk_chk hf
      obtain ⟨o60, e61, hf⟩ := pk_bnd hf
      obtain ⟨h62, hf⟩ := pk_chk hf
      refine s_getR X (ci := 2) (k := 2) rfl (Nat.le_of_ble_eq_true rfl) h59 wd423 (fun _ _ _ => rfl) (e61 ▸ h62) dX2_clear_16 (e61 ▸ ?_)
      refine s_iload_n X 1 dX2_clear_19 rfl rfl ?_
      obtain ⟨h63, hf⟩ := pk_chk hf
      obtain ⟨o64, e65, hf⟩ := pk_bnd hf
      obtain ⟨h66, hf⟩ := pk_chk hf
      refine s_aald X h62 h63 (e65 ▸ h66) dX2_clear_20 (e65 ▸ ?_)
      obtain ⟨M68, hc67, hf⟩ := pk_obd hf
      refine s_callV X (ci := 4) (k_X4_clear G hc67) rfl h66 wd599 wd600 wd601 wd602 wd133 cd_X4_clear ⟨Nat.le_of_ble_eq_true rfl, Nat.le_of_ble_eq_true rfl⟩ (Nat.le_of_ble_eq_true rfl) dX2_clear_21 ?_
      obtain ⟨x69, e70, hf⟩ := pk_bnd hf
      refine s_iinc X (vs' := [(0, .ref (gB G + v0)), (1, .int x69)]) 1 dX2_clear_24 rfl (v := x69) e70.symm (Nat.le_of_ble_eq_true rfl) [1, 0] rfl ?_
      refine s_goto X (tgt := 9) dX2_clear_27 rfl ?_
      exact ih _ _ _ hf
end
theorem k_X2_clear (G : Gam) {n : Nat} {o : Nat} {M : Mem} {rv : Mem} (hf : f_X2_clear n o M = some rv) : Kt yX2_clear cX2_clear 2 none 3 63 G [.ref (gB G + o)] M rv none := by
  refine Kt.of (by decide) (Nat.le_of_ble_eq_true rfl) ?_
  intro p l e R s m args below meth c X hr hlk hnm
  refine s_drop [0] (vs' := [(0, .ref (gB G + o))]) rfl ?_
  rw [f_X2_clear] at hf
  refine s_aload_n X 0 dX2_clear_0 rfl rfl ?_
  obtain ⟨h1, hf⟩ := pk_chk hf
  obtain ⟨o2, e3, hf⟩ := pk_bnd hf
  obtain ⟨h4, hf⟩ := pk_chk hf
  refine s_getR X (ci := 2) (k := 1) rfl (Nat.le_of_ble_eq_true rfl) h1 wd419 (fun _ _ _ => rfl) (e3 ▸ h4) dX2_clear_1 (e3 ▸ ?_)
  obtain ⟨M6, hc5, hf⟩ := pk_obd hf
  refine s_callV X (ci := 5) (k_X5_clear G hc5) rfl h4 wd590 wd591 wd592 wd593 wd131 cd_X5_clear ⟨Nat.le_of_ble_eq_true rfl, Nat.le_of_ble_eq_true rfl⟩ (Nat.le_of_ble_eq_true rfl) dX2_clear_4 ?_
  refine s_iconst X (v := (0 : Int32)) dX2_clear_7 rfl ?_
  refine s_istore_n X (vs' := [(0, .ref (gB G + o)), (1, .int (0 : Int32))]) dX2_clear_8 rfl (Nat.le_of_ble_eq_true rfl) [1, 0] rfl ?_
  exact l_X2_clear_9 X hr hlk hnm _ _ _ hf
theorem dX0_clear_0 : decode cX0_clear 0 = .ok (.aload_n 0, 1) := dk_42 (by decide +kernel)
theorem dX0_clear_1 : decode cX0_clear 1 = .ok (.getfield 9, 3) := dk_180 (x := 0) (y := 9) (by decide +kernel) rfl
theorem dX0_clear_4 : decode cX0_clear 4 = .ok (.iconst 1, 1) := dk_4 (by decide +kernel)
theorem dX0_clear_5 : decode cX0_clear 5 = .ok (.invokestatic 15, 3) := dk_184 (x := 0) (y := 15) (by decide +kernel) rfl
theorem dX0_clear_8 : decode cX0_clear 8 = .ok (.return_, 1) := dk_177 (by decide +kernel)
def f_X0_clear (n : Nat) (o : Nat) (M : Mem) : Option Mem :=
  chk (isO M 0 o) <|
  bnd (mR M o 0) fun o2 =>
  chk (isO M 100 o2) <|
  obd (f_J7_fill_53178 n o2 (1 : Int32) M) fun M6 =>
  some M6
theorem cd_X0_clear : (yX0_clear.cls ≠ "java/lang/invoke/MethodHandle" ∧ yX0_clear.cls ≠ "java/lang/invoke/VarHandle") ∧ (parseMethodDescriptor yX0_clear.desc).map (fun d => d.parameters.length) = some 0 := ⟨⟨by decide +kernel, by decide +kernel⟩, by decide +kernel⟩
theorem k_X0_clear (G : Gam) {n : Nat} {o : Nat} {M : Mem} {rv : Mem} (hf : f_X0_clear n o M = some rv) : Kt yX0_clear cX0_clear 1 none 1 23 G [.ref (gB G + o)] M rv none := by
  refine Kt.of (by decide) (Nat.le_of_ble_eq_true rfl) ?_
  intro p l e R s m args below meth c X hr hlk hnm
  refine s_drop [0] (vs' := [(0, .ref (gB G + o))]) rfl ?_
  rw [f_X0_clear] at hf
  refine s_aload_n X 0 dX0_clear_0 rfl rfl ?_
  obtain ⟨h1, hf⟩ := pk_chk hf
  obtain ⟨o2, e3, hf⟩ := pk_bnd hf
  obtain ⟨h4, hf⟩ := pk_chk hf
  refine s_getR X (ci := 0) (k := 0) rfl (Nat.le_of_ble_eq_true rfl) h1 wd499 (fun _ _ _ => rfl) (e3 ▸ h4) dX0_clear_1 (e3 ▸ ?_)
  refine s_iconst X (v := (1 : Int32)) dX0_clear_4 rfl ?_
  obtain ⟨M6, hc5, hf⟩ := pk_obd hf
  refine s_callS X (k_J7_fill_53178 G hc5) wd626 wd580 wd581 wd136 cd_J7_fill_53178 ⟨Nat.le_of_ble_eq_true rfl, Nat.le_of_ble_eq_true rfl⟩ (Nat.le_of_ble_eq_true rfl) dX0_clear_5 ?_
  cases hf
  exact s_vret X hr hlk dX0_clear_8
theorem dX9_startAnew_0 : decode cX9_startAnew 0 = .ok (.aload_n 0, 1) := dk_42 (by decide +kernel)
theorem dX9_startAnew_1 : decode cX9_startAnew 1 = .ok (.getfield 28, 3) := dk_180 (x := 0) (y := 28) (by decide +kernel) rfl
theorem dX9_startAnew_4 : decode cX9_startAnew 4 = .ok (.invokevirtual 361, 3) := dk_182 (x := 1) (y := 105) (by decide +kernel) rfl
theorem dX9_startAnew_7 : decode cX9_startAnew 7 = .ok (.aload_n 0, 1) := dk_42 (by decide +kernel)
theorem dX9_startAnew_8 : decode cX9_startAnew 8 = .ok (.getfield 38, 3) := dk_180 (x := 0) (y := 38) (by decide +kernel) rfl
theorem dX9_startAnew_11 : decode cX9_startAnew 11 = .ok (.invokevirtual 364, 3) := dk_182 (x := 1) (y := 108) (by decide +kernel) rfl
theorem dX9_startAnew_14 : decode cX9_startAnew 14 = .ok (.aload_n 0, 1) := dk_42 (by decide +kernel)
theorem dX9_startAnew_15 : decode cX9_startAnew 15 = .ok (.getfield 19, 3) := dk_180 (x := 0) (y := 19) (by decide +kernel) rfl
theorem dX9_startAnew_18 : decode cX9_startAnew 18 = .ok (.iconst 0, 1) := dk_3 (by decide +kernel)
theorem dX9_startAnew_19 : decode cX9_startAnew 19 = .ok (.putfield 365, 3) := dk_181 (x := 1) (y := 109) (by decide +kernel) rfl
theorem dX9_startAnew_22 : decode cX9_startAnew 22 = .ok (.aload_n 0, 1) := dk_42 (by decide +kernel)
theorem dX9_startAnew_23 : decode cX9_startAnew 23 = .ok (.getfield 10, 3) := dk_180 (x := 0) (y := 10) (by decide +kernel) rfl
theorem dX9_startAnew_26 : decode cX9_startAnew 26 = .ok (.getfield 75, 3) := dk_180 (x := 0) (y := 75) (by decide +kernel) rfl
theorem dX9_startAnew_29 : decode cX9_startAnew 29 = .ok (.ireturn, 1) := dk_172 (by decide +kernel)
def f_X9_startAnew (n : Nat) (o : Nat) (M : Mem) : Option (Int32 × Mem) :=
  chk (isO M 9 o) <|
  bnd (mR M o 2) fun o2 =>
  chk (isO M 2 o2) <|
  obd (f_X2_clear n o2 M) fun M6 =>
  chk (isO M6 9 o) <|
  bnd (mR M6 o 4) fun o8 =>
  chk (isO M6 0 o8) <|
  obd (f_X0_clear n o8 M6) fun M12 =>
  chk (isO M12 9 o) <|
  bnd (mR M12 o 1) fun o14 =>
  chk (isO M12 8 o14) <|
  chk (bz (0 : Int32)) <|
  bnd (sI M12 o14 7 (0 : Int32)) fun M17 =>
  bnd (mR M17 o 0) fun o22 =>
  chk (isO M17 7 o22) <|
  some ((mI M17 o22 3), M17)
theorem cd_X9_startAnew : (yX9_startAnew.cls ≠ "java/lang/invoke/MethodHandle" ∧ yX9_startAnew.cls ≠ "java/lang/invoke/VarHandle") ∧ (parseMethodDescriptor yX9_startAnew.desc).map (fun d => d.parameters.length) = some 0 := ⟨⟨by decide +kernel, by decide +kernel⟩, by decide +kernel⟩
theorem k_X9_startAnew (G : Gam) {n : Nat} {o : Nat} {M : Mem} {rv : (Int32 × Mem)} (hf : f_X9_startAnew n o M = some rv) : Kt yX9_startAnew cX9_startAnew 1 (some .int) 4 84 G [.ref (gB G + o)] M rv.2 (some (.int rv.1)) := by
  refine Kt.of (by decide) (Nat.le_of_ble_eq_true rfl) ?_
  intro p l e R s m args below meth c X hr hlk hnm
  refine s_drop [0] (vs' := [(0, .ref (gB G + o))]) rfl ?_
  rw [f_X9_startAnew] at hf
  refine s_aload_n X 0 dX9_startAnew_0 rfl rfl ?_
  obtain ⟨h1, hf⟩ := pk_chk hf
  obtain ⟨o2, e3, hf⟩ := pk_bnd hf
  obtain ⟨h4, hf⟩ := pk_chk hf
  refine s_getR X (ci := 9) (k := 2) rfl (Nat.le_of_ble_eq_true rfl) h1 wd629 (fun _ _ _ => rfl) (e3 ▸ h4) dX9_startAnew_1 (e3 ▸ ?_)
  obtain ⟨M6, hc5, hf⟩ := pk_obd hf
  refine s_callV X (ci := 2) (k_X2_clear G hc5) rfl h4 wd586 wd587 wd588 wd589 wd130 cd_X2_clear ⟨Nat.le_of_ble_eq_true rfl, Nat.le_of_ble_eq_true rfl⟩ (Nat.le_of_ble_eq_true rfl) dX9_startAnew_4 ?_
  refine s_aload_n X 0 dX9_startAnew_7 rfl rfl ?_
  obtain ⟨h7, hf⟩ := pk_chk hf
  obtain ⟨o8, e9, hf⟩ := pk_bnd hf
  obtain ⟨h10, hf⟩ := pk_chk hf
  refine s_getR X (ci := 9) (k := 4) rfl (Nat.le_of_ble_eq_true rfl) h7 wd631 (fun _ _ _ => rfl) (e9 ▸ h10) dX9_startAnew_8 (e9 ▸ ?_)
  obtain ⟨M12, hc11, hf⟩ := pk_obd hf
  refine s_callV X (ci := 0) (k_X0_clear G hc11) rfl h10 wd622 wd623 wd624 wd625 wd134 cd_X0_clear ⟨Nat.le_of_ble_eq_true rfl, Nat.le_of_ble_eq_true rfl⟩ (Nat.le_of_ble_eq_true rfl) dX9_startAnew_11 ?_
  refine s_aload_n X 0 dX9_startAnew_14 rfl rfl ?_
  obtain ⟨h13, hf⟩ := pk_chk hf
  obtain ⟨o14, e15, hf⟩ := pk_bnd hf
  obtain ⟨h16, hf⟩ := pk_chk hf
  refine s_getR X (ci := 9) (k := 1) rfl (Nat.le_of_ble_eq_true rfl) h13 wd628 (fun _ _ _ => rfl) (e15 ▸ h16) dX9_startAnew_15 (e15 ▸ ?_)
  refine s_iconst X (v := (0 : Int32)) dX9_startAnew_18 rfl ?_
  obtain ⟨h19, hf⟩ := pk_chk hf
  obtain ⟨M17, e18, hf⟩ := pk_bnd hf
  refine s_putZ X (ci := 8) (k := 7) rfl (Nat.le_of_ble_eq_true rfl) h16 wd218 (fun _ _ _ => rfl) rfl (bz_n h19) (bz_f h19) rfl e18 dX9_startAnew_19 ?_
  have h20 := io_sI e18 h13
  have h21 := io_sI e18 h16
  refine s_aload_n X 0 dX9_startAnew_22 rfl rfl ?_
  obtain ⟨o22, e23, hf⟩ := pk_bnd hf
  obtain ⟨h24, hf⟩ := pk_chk hf
  refine s_getR X (ci := 9) (k := 0) rfl (Nat.le_of_ble_eq_true rfl) h20 wd627 (fun _ _ _ => rfl) (e23 ▸ h24) dX9_startAnew_23 (e23 ▸ ?_)
  refine s_getI X (ci := 7) (k := 3) rfl (Nat.le_of_ble_eq_true rfl) h24 wd170 (fun _ _ _ => rfl) dX9_startAnew_26 ?_
  cases hf
  exact s_iret X hr hlk dX9_startAnew_29
theorem dX9_init_0 : decode cX9_init 0 = .ok (.aload_n 0, 1) := dk_42 (by decide +kernel)
theorem dX9_init_1 : decode cX9_init 1 = .ok (.invokespecial 1, 3) := dk_183 (x := 0) (y := 1) (by decide +kernel) rfl
theorem dX9_init_4 : decode cX9_init 4 = .ok (.aload_n 0, 1) := dk_42 (by decide +kernel)
theorem dX9_init_5 : decode cX9_init 5 = .ok (.new 7, 3) := dk_187 (x := 0) (y := 7) (by decide +kernel) rfl
theorem dX9_init_8 : decode cX9_init 8 = .ok (.dup, 1) := dk_89 (by decide +kernel)
theorem dX9_init_9 : decode cX9_init 9 = .ok (.invokespecial 9, 3) := dk_183 (x := 0) (y := 9) (by decide +kernel) rfl
theorem dX9_init_12 : decode cX9_init 12 = .ok (.putfield 10, 3) := dk_181 (x := 0) (y := 10) (by decide +kernel) rfl
theorem dX9_init_15 : decode cX9_init 15 = .ok (.aload_n 0, 1) := dk_42 (by decide +kernel)
theorem dX9_init_16 : decode cX9_init 16 = .ok (.new 16, 3) := dk_187 (x := 0) (y := 16) (by decide +kernel) rfl
theorem dX9_init_19 : decode cX9_init 19 = .ok (.dup, 1) := dk_89 (by decide +kernel)
theorem dX9_init_20 : decode cX9_init 20 = .ok (.invokespecial 18, 3) := dk_183 (x := 0) (y := 18) (by decide +kernel) rfl
theorem dX9_init_23 : decode cX9_init 23 = .ok (.putfield 19, 3) := dk_181 (x := 0) (y := 19) (by decide +kernel) rfl
theorem dX9_init_26 : decode cX9_init 26 = .ok (.aload_n 0, 1) := dk_42 (by decide +kernel)
theorem dX9_init_27 : decode cX9_init 27 = .ok (.new 23, 3) := dk_187 (x := 0) (y := 23) (by decide +kernel) rfl
theorem dX9_init_30 : decode cX9_init 30 = .ok (.dup, 1) := dk_89 (by decide +kernel)
theorem dX9_init_31 : decode cX9_init 31 = .ok (.aload_n 0, 1) := dk_42 (by decide +kernel)
theorem dX9_init_32 : decode cX9_init 32 = .ok (.getfield 10, 3) := dk_180 (x := 0) (y := 10) (by decide +kernel) rfl
theorem dX9_init_35 : decode cX9_init 35 = .ok (.invokespecial 25, 3) := dk_183 (x := 0) (y := 25) (by decide +kernel) rfl
theorem dX9_init_38 : decode cX9_init 38 = .ok (.putfield 28, 3) := dk_181 (x := 0) (y := 28) (by decide +kernel) rfl
theorem dX9_init_41 : decode cX9_init 41 = .ok (.aload_n 0, 1) := dk_42 (by decide +kernel)
theorem dX9_init_42 : decode cX9_init 42 = .ok (.new 23, 3) := dk_187 (x := 0) (y := 23) (by decide +kernel) rfl
theorem dX9_init_45 : decode cX9_init 45 = .ok (.dup, 1) := dk_89 (by decide +kernel)
theorem dX9_init_46 : decode cX9_init 46 = .ok (.aload_n 0, 1) := dk_42 (by decide +kernel)
theorem dX9_init_47 : decode cX9_init 47 = .ok (.getfield 10, 3) := dk_180 (x := 0) (y := 10) (by decide +kernel) rfl
theorem dX9_init_50 : decode cX9_init 50 = .ok (.invokespecial 25, 3) := dk_183 (x := 0) (y := 25) (by decide +kernel) rfl
theorem dX9_init_53 : decode cX9_init 53 = .ok (.putfield 32, 3) := dk_181 (x := 0) (y := 32) (by decide +kernel) rfl
theorem dX9_init_56 : decode cX9_init 56 = .ok (.aload_n 0, 1) := dk_42 (by decide +kernel)
theorem dX9_init_57 : decode cX9_init 57 = .ok (.new 35, 3) := dk_187 (x := 0) (y := 35) (by decide +kernel) rfl
theorem dX9_init_60 : decode cX9_init 60 = .ok (.dup, 1) := dk_89 (by decide +kernel)
theorem dX9_init_61 : decode cX9_init 61 = .ok (.invokespecial 37, 3) := dk_183 (x := 0) (y := 37) (by decide +kernel) rfl
theorem dX9_init_64 : decode cX9_init 64 = .ok (.putfield 38, 3) := dk_181 (x := 0) (y := 38) (by decide +kernel) rfl
theorem dX9_init_67 : decode cX9_init 67 = .ok (.aload_n 0, 1) := dk_42 (by decide +kernel)
theorem dX9_init_68 : decode cX9_init 68 = .ok (.new 42, 3) := dk_187 (x := 0) (y := 42) (by decide +kernel) rfl
theorem dX9_init_71 : decode cX9_init 71 = .ok (.dup, 1) := dk_89 (by decide +kernel)
theorem dX9_init_72 : decode cX9_init 72 = .ok (.aload_n 0, 1) := dk_42 (by decide +kernel)
theorem dX9_init_73 : decode cX9_init 73 = .ok (.getfield 32, 3) := dk_180 (x := 0) (y := 32) (by decide +kernel) rfl
theorem dX9_init_76 : decode cX9_init 76 = .ok (.invokespecial 44, 3) := dk_183 (x := 0) (y := 44) (by decide +kernel) rfl
theorem dX9_init_79 : decode cX9_init 79 = .ok (.putfield 47, 3) := dk_181 (x := 0) (y := 47) (by decide +kernel) rfl
theorem dX9_init_82 : decode cX9_init 82 = .ok (.aload_n 0, 1) := dk_42 (by decide +kernel)
theorem dX9_init_83 : decode cX9_init 83 = .ok (.getfield 10, 3) := dk_180 (x := 0) (y := 10) (by decide +kernel) rfl
theorem dX9_init_86 : decode cX9_init 86 = .ok (.iconst 4, 1) := dk_7 (by decide +kernel)
theorem dX9_init_87 : decode cX9_init 87 = .ok (.invokevirtual 51, 3) := dk_182 (x := 0) (y := 51) (by decide +kernel) rfl
theorem dX9_init_90 : decode cX9_init 90 = .ok (.aload_n 0, 1) := dk_42 (by decide +kernel)
theorem dX9_init_91 : decode cX9_init 91 = .ok (.invokevirtual 55, 3) := dk_182 (x := 0) (y := 55) (by decide +kernel) rfl
theorem dX9_init_94 : decode cX9_init 94 = .ok (.pop, 1) := dk_87 (by decide +kernel)
theorem dX9_init_95 : decode cX9_init 95 = .ok (.return_, 1) := dk_177 (by decide +kernel)
def f_X9_init (n : Nat) (o : Nat) (M : Mem) : Option Mem :=
  chk (mN M + 1 ≤ CAP ∧ mU M + 5 ≤ CAPU) <|
  bnd (mN M) fun o4 =>
  bnd (nw M 7 0 5) fun M2 =>
  obd (f_X7_init o4 M2) fun M8 =>
  chk (isO M8 9 o) <|
  chk (isO M8 7 o4) <|
  bnd (sR M8 o 0 o4) fun M10 =>
  chk (mN M10 + 1 ≤ CAP ∧ mU M10 + 8 ≤ CAPU) <|
  bnd (mN M10) fun o18 =>
  bnd (nw M10 8 0 8) fun M16 =>
  obd (f_X8_init o18 M16) fun M24 =>
  chk (isO M24 9 o) <|
  chk (isO M24 8 o18) <|
  bnd (sR M24 o 1 o18) fun M26 =>
  chk (mN M26 + 1 ≤ CAP ∧ mU M26 + 17 ≤ CAPU) <|
  bnd (mN M26) fun o34 =>
  bnd (nw M26 2 0 17) fun M32 =>
  bnd (mR M32 o 0) fun o39 =>
  chk (isO M32 7 o39) <|
  obd (f_X2_init n o34 o39 M32) fun M43 =>
  chk (isO M43 9 o) <|
  chk (isO M43 2 o34) <|
  bnd (sR M43 o 2 o34) fun M45 =>
  chk (mN M45 + 1 ≤ CAP ∧ mU M45 + 17 ≤ CAPU) <|
  bnd (mN M45) fun o53 =>
  bnd (nw M45 2 0 17) fun M51 =>
  bnd (mR M51 o 0) fun o58 =>
  chk (isO M51 7 o58) <|
  obd (f_X2_init n o53 o58 M51) fun M62 =>
  chk (isO M62 9 o) <|
  chk (isO M62 2 o53) <|
  bnd (sR M62 o 3 o53) fun M64 =>
  chk (mN M64 + 1 ≤ CAP ∧ mU M64 + 4 ≤ CAPU) <|
  bnd (mN M64) fun o72 =>
  bnd (nw M64 0 0 4) fun M70 =>
  obd (f_X0_init o72 M70) fun M78 =>
  chk (isO M78 9 o) <|
  chk (isO M78 0 o72) <|
  bnd (sR M78 o 4 o72) fun M80 =>
  chk (mN M80 + 1 ≤ CAP ∧ mU M80 + 16 ≤ CAPU) <|
  bnd (mN M80) fun o88 =>
  bnd (nw M80 6 0 16) fun M86 =>
  bnd (mR M86 o 3) fun o93 =>
  chk (isO M86 2 o93) <|
  obd (f_X6_init o88 o93 M86) fun M97 =>
  chk (isO M97 9 o) <|
  chk (isO M97 6 o88) <|
  bnd (sR M97 o 5 o88) fun M99 =>
  bnd (mR M99 o 0) fun o104 =>
  chk (isO M99 7 o104) <|
  obd (f_X7_makeFilled n o104 (4 : Int32) M99) fun M108 =>
  chk (isO M108 9 o) <|
  obd2 (f_X9_startAnew n o M108) fun r111 M112 =>
  some M112
theorem cd_X9_init : (yX9_init.cls ≠ "java/lang/invoke/MethodHandle" ∧ yX9_init.cls ≠ "java/lang/invoke/VarHandle") ∧ (parseMethodDescriptor yX9_init.desc).map (fun d => d.parameters.length) = some 0 := ⟨⟨by decide +kernel, by decide +kernel⟩, by decide +kernel⟩
theorem k_X9_init (G : Gam) {n : Nat} {o : Nat} {M : Mem} {rv : Mem} (hf : f_X9_init n o M = some rv) : Kt yX9_init cX9_init 1 none 5 104 G [.ref (gB G + o)] M rv none := by
  refine Kt.of (by decide) (Nat.le_of_ble_eq_true rfl) ?_
  intro p l e R s m args below meth c X hr hlk hnm
  refine s_drop [0] (vs' := [(0, .ref (gB G + o))]) rfl ?_
  rw [f_X9_init] at hf
  refine s_aload_n X 0 dX9_init_0 rfl rfl ?_
  refine s_objInit X (o := o) wd150 wd151 wd152 ⟨Nat.le_of_ble_eq_true rfl, Nat.le_of_ble_eq_true rfl⟩ dX9_init_1 ?_
  refine s_aload_n X 0 dX9_init_4 rfl rfl ?_
  obtain ⟨h1, hf⟩ := pk_chk hf
  obtain ⟨o4, e5, hf⟩ := pk_bnd hf
  obtain ⟨M2, e3, hf⟩ := pk_bnd hf
  refine s_new X (ci := 7) rfl wd153 wd154 wd127 h1 e3 dX9_init_5 (e5 ▸ ?_)
  have h6 := io_nwn e3 e5
  refine s_dup X dX9_init_8 rfl ?_
  obtain ⟨M8, hc7, hf⟩ := pk_obd hf
  refine s_callIN X (k_X7_init G hc7) (host := "QuorumGate") ns_0 wd156 wd157 wd127 rfl cd_X7_init ⟨Nat.le_of_ble_eq_true rfl, Nat.le_of_ble_eq_true rfl⟩ (Nat.le_of_ble_eq_true rfl) dX9_init_9 ?_
  obtain ⟨h9, hf⟩ := pk_chk hf
  obtain ⟨h12, hf⟩ := pk_chk hf
  obtain ⟨M10, e11, hf⟩ := pk_bnd hf
  refine s_putRF X (ci := 9) (k := 0) rfl (Nat.le_of_ble_eq_true rfl) h9 wd627 (fun _ _ _ => rfl) h12 (fun _ => ⟨rfl, rfl⟩) rfl hnm rfl e11 dX9_init_12 ?_
  have h13 := io_sR e11 h9
  have h14 := io_sR e11 h12
  refine s_aload_n X 0 dX9_init_15 rfl rfl ?_
  obtain ⟨h15, hf⟩ := pk_chk hf
  obtain ⟨o18, e19, hf⟩ := pk_bnd hf
  obtain ⟨M16, e17, hf⟩ := pk_bnd hf
  refine s_new X (ci := 8) rfl wd185 wd186 wd128 h15 e17 dX9_init_16 (e19 ▸ ?_)
  have h20 := io_nw e17 h13
  have h21 := io_nw e17 h14
  have h22 := io_nwn e17 e19
  refine s_dup X dX9_init_19 rfl ?_
  obtain ⟨M24, hc23, hf⟩ := pk_obd hf
  refine s_callIN X (k_X8_init G hc23) (host := "QuorumGate") ns_1 wd188 wd189 wd128 rfl cd_X8_init ⟨Nat.le_of_ble_eq_true rfl, Nat.le_of_ble_eq_true rfl⟩ (Nat.le_of_ble_eq_true rfl) dX9_init_20 ?_
  obtain ⟨h25, hf⟩ := pk_chk hf
  obtain ⟨h28, hf⟩ := pk_chk hf
  obtain ⟨M26, e27, hf⟩ := pk_bnd hf
  refine s_putRF X (ci := 9) (k := 1) rfl (Nat.le_of_ble_eq_true rfl) h25 wd628 (fun _ _ _ => rfl) h28 (fun _ => ⟨rfl, rfl⟩) rfl hnm rfl e27 dX9_init_23 ?_
  have h29 := io_sR e27 h25
  have h30 := io_sR e27 h28
  refine s_aload_n X 0 dX9_init_26 rfl rfl ?_
  obtain ⟨h31, hf⟩ := pk_chk hf
  obtain ⟨o34, e35, hf⟩ := pk_bnd hf
  obtain ⟨M32, e33, hf⟩ := pk_bnd hf
  refine s_new X (ci := 2) rfl wd236 wd237 wd130 h31 e33 dX9_init_27 (e35 ▸ ?_)
  have h36 := io_nw e33 h29
  have h37 := io_nw e33 h30
  have h38 := io_nwn e33 e35
  refine s_dup X dX9_init_30 rfl ?_
  refine s_aload_n X 0 dX9_init_31 rfl rfl ?_
  obtain ⟨o39, e40, hf⟩ := pk_bnd hf
  obtain ⟨h41, hf⟩ := pk_chk hf
  refine s_getR X (ci := 9) (k := 0) rfl (Nat.le_of_ble_eq_true rfl) h36 wd627 (fun _ _ _ => rfl) (e40 ▸ h41) dX9_init_32 (e40 ▸ ?_)
  obtain ⟨M43, hc42, hf⟩ := pk_obd hf
  refine s_callI X (k_X2_init G hc42) wd238 wd239 wd240 wd130 rfl cd_X2_init ⟨Nat.le_of_ble_eq_true rfl, Nat.le_of_ble_eq_true rfl⟩ (Nat.le_of_ble_eq_true rfl) dX9_init_35 ?_
  obtain ⟨h44, hf⟩ := pk_chk hf
  obtain ⟨h47, hf⟩ := pk_chk hf
  obtain ⟨M45, e46, hf⟩ := pk_bnd hf
  refine s_putRF X (ci := 9) (k := 2) rfl (Nat.le_of_ble_eq_true rfl) h44 wd629 (fun _ _ _ => rfl) h47 (fun _ => ⟨rfl, rfl⟩) rfl hnm rfl e46 dX9_init_38 ?_
  have h48 := io_sR e46 h44
  have h49 := io_sR e46 h47
  refine s_aload_n X 0 dX9_init_41 rfl rfl ?_
  obtain ⟨h50, hf⟩ := pk_chk hf
  obtain ⟨o53, e54, hf⟩ := pk_bnd hf
  obtain ⟨M51, e52, hf⟩ := pk_bnd hf
  refine s_new X (ci := 2) rfl wd236 wd237 wd130 h50 e52 dX9_init_42 (e54 ▸ ?_)
  have h55 := io_nw e52 h48
  have h56 := io_nw e52 h49
  have h57 := io_nwn e52 e54
  refine s_dup X dX9_init_45 rfl ?_
  refine s_aload_n X 0 dX9_init_46 rfl rfl ?_
  obtain ⟨o58, e59, hf⟩ := pk_bnd hf
  obtain ⟨h60, hf⟩ := pk_chk hf
  refine s_getR X (ci := 9) (k := 0) rfl (Nat.le_of_ble_eq_true rfl) h55 wd627 (fun _ _ _ => rfl) (e59 ▸ h60) dX9_init_47 (e59 ▸ ?_)
  obtain ⟨M62, hc61, hf⟩ := pk_obd hf
  refine s_callI X (k_X2_init G hc61) wd238 wd239 wd240 wd130 rfl cd_X2_init ⟨Nat.le_of_ble_eq_true rfl, Nat.le_of_ble_eq_true rfl⟩ (Nat.le_of_ble_eq_true rfl) dX9_init_50 ?_
  obtain ⟨h63, hf⟩ := pk_chk hf
  obtain ⟨h66, hf⟩ := pk_chk hf
  obtain ⟨M64, e65, hf⟩ := pk_bnd hf
  refine s_putRF X (ci := 9) (k := 3) rfl (Nat.le_of_ble_eq_true rfl) h63 wd630 (fun _ _ _ => rfl) h66 (fun _ => ⟨rfl, rfl⟩) rfl hnm rfl e65 dX9_init_53 ?_
  have h67 := io_sR e65 h63
  have h68 := io_sR e65 h66
  refine s_aload_n X 0 dX9_init_56 rfl rfl ?_
  obtain ⟨h69, hf⟩ := pk_chk hf
  obtain ⟨o72, e73, hf⟩ := pk_bnd hf
  obtain ⟨M70, e71, hf⟩ := pk_bnd hf
  refine s_new X (ci := 0) rfl wd493 wd494 wd134 h69 e71 dX9_init_57 (e73 ▸ ?_)
  have h74 := io_nw e71 h67
  have h75 := io_nw e71 h68
  have h76 := io_nwn e71 e73
  refine s_dup X dX9_init_60 rfl ?_
  obtain ⟨M78, hc77, hf⟩ := pk_obd hf
  refine s_callIN X (k_X0_init G hc77) (host := "QuorumGate") ns_5 wd496 wd497 wd134 rfl cd_X0_init ⟨Nat.le_of_ble_eq_true rfl, Nat.le_of_ble_eq_true rfl⟩ (Nat.le_of_ble_eq_true rfl) dX9_init_61 ?_
  obtain ⟨h79, hf⟩ := pk_chk hf
  obtain ⟨h82, hf⟩ := pk_chk hf
  obtain ⟨M80, e81, hf⟩ := pk_bnd hf
  refine s_putRF X (ci := 9) (k := 4) rfl (Nat.le_of_ble_eq_true rfl) h79 wd631 (fun _ _ _ => rfl) h82 (fun _ => ⟨rfl, rfl⟩) rfl hnm rfl e81 dX9_init_64 ?_
  have h83 := io_sR e81 h79
  have h84 := io_sR e81 h82
  refine s_aload_n X 0 dX9_init_67 rfl rfl ?_
  obtain ⟨h85, hf⟩ := pk_chk hf
  obtain ⟨o88, e89, hf⟩ := pk_bnd hf
  obtain ⟨M86, e87, hf⟩ := pk_bnd hf
  refine s_new X (ci := 6) rfl wd516 wd517 wd135 h85 e87 dX9_init_68 (e89 ▸ ?_)
  have h90 := io_nw e87 h83
  have h91 := io_nw e87 h84
  have h92 := io_nwn e87 e89
  refine s_dup X dX9_init_71 rfl ?_
  refine s_aload_n X 0 dX9_init_72 rfl rfl ?_
  obtain ⟨o93, e94, hf⟩ := pk_bnd hf
  obtain ⟨h95, hf⟩ := pk_chk hf
  refine s_getR X (ci := 9) (k := 3) rfl (Nat.le_of_ble_eq_true rfl) h90 wd630 (fun _ _ _ => rfl) (e94 ▸ h95) dX9_init_73 (e94 ▸ ?_)
  obtain ⟨M97, hc96, hf⟩ := pk_obd hf
  refine s_callI X (k_X6_init G hc96) wd518 wd519 wd520 wd135 rfl cd_X6_init ⟨Nat.le_of_ble_eq_true rfl, Nat.le_of_ble_eq_true rfl⟩ (Nat.le_of_ble_eq_true rfl) dX9_init_76 ?_
  obtain ⟨h98, hf⟩ := pk_chk hf
  obtain ⟨h101, hf⟩ := pk_chk hf
  obtain ⟨M99, e100, hf⟩ := pk_bnd hf
  refine s_putRF X (ci := 9) (k := 5) rfl (Nat.le_of_ble_eq_true rfl) h98 wd632 (fun _ _ _ => rfl) h101 (fun _ => ⟨rfl, rfl⟩) rfl hnm rfl e100 dX9_init_79 ?_
  have h102 := io_sR e100 h98
  have h103 := io_sR e100 h101
  refine s_aload_n X 0 dX9_init_82 rfl rfl ?_
  obtain ⟨o104, e105, hf⟩ := pk_bnd hf
  obtain ⟨h106, hf⟩ := pk_chk hf
  refine s_getR X (ci := 9) (k := 0) rfl (Nat.le_of_ble_eq_true rfl) h102 wd627 (fun _ _ _ => rfl) (e105 ▸ h106) dX9_init_83 (e105 ▸ ?_)
  refine s_iconst X (v := (4 : Int32)) dX9_init_86 rfl ?_
  obtain ⟨M108, hc107, hf⟩ := pk_obd hf
  refine s_callV X (ci := 7) (k_X7_makeFilled G hc107) rfl h106 wd571 wd572 wd573 wd574 wd127 cd_X7_makeFilled ⟨Nat.le_of_ble_eq_true rfl, Nat.le_of_ble_eq_true rfl⟩ (Nat.le_of_ble_eq_true rfl) dX9_init_87 ?_
  refine s_aload_n X 0 dX9_init_90 rfl rfl ?_
  obtain ⟨h109, hf⟩ := pk_chk hf
  obtain ⟨r111, M112, hc110, hf⟩ := pk_obd2 hf
  refine s_callV X (ci := 9) (k_X9_startAnew G hc110) rfl h109 wd582 wd584 wd1 wd585 wd126 cd_X9_startAnew ⟨Nat.le_of_ble_eq_true rfl, Nat.le_of_ble_eq_true rfl⟩ (Nat.le_of_ble_eq_true rfl) dX9_init_91 ?_
  refine s_pop X dX9_init_94 rfl ?_
  cases hf
  exact s_vret X hr hlk dX9_init_95
theorem dX10_put_0 : decode cX10_put 0 = .ok (.aload_n 0, 1) := dk_42 (by decide +kernel)
theorem dX10_put_1 : decode cX10_put 1 = .ok (.getfield 7, 3) := dk_180 (x := 0) (y := 7) (by decide +kernel) rfl
theorem dX10_put_4 : decode cX10_put 4 = .ok (.sipush 146, 3) := dk_17 (x := 0) (y := 146) (by decide +kernel) rfl
theorem dX10_put_7 : decode cX10_put 7 = .ok (.bipush 44, 2) := dk_16 (x := 44) (by decide +kernel) rfl
theorem dX10_put_9 : decode cX10_put 9 = .ok (.iload_n 1, 1) := dk_27 (by decide +kernel)
theorem dX10_put_10 : decode cX10_put 10 = .ok (.imul, 1) := dk_104 (by decide +kernel)
theorem dX10_put_11 : decode cX10_put 11 = .ok (.iadd, 1) := dk_96 (by decide +kernel)
theorem dX10_put_12 : decode cX10_put 12 = .ok (.iload_n 2, 1) := dk_28 (by decide +kernel)
theorem dX10_put_13 : decode cX10_put 13 = .ok (.iadd, 1) := dk_96 (by decide +kernel)
theorem dX10_put_14 : decode cX10_put 14 = .ok (.iload_n 3, 1) := dk_29 (by decide +kernel)
theorem dX10_put_15 : decode cX10_put 15 = .ok (.iastore, 1) := dk_79 (by decide +kernel)
theorem dX10_put_16 : decode cX10_put 16 = .ok (.return_, 1) := dk_177 (by decide +kernel)
def f_X10_put (o : Nat) (a1 : Int32) (a2 : Int32) (a3 : Int32) (M : Mem) : Option Mem :=
  chk (isO M 10 o) <|
  bnd (mR M o 0) fun o2 =>
  chk (isO M 100 o2) <|
  chk (inB (((146 : Int32) + ((44 : Int32) * a1)) + a2) (mLn M o2)) <|
  bnd (sI M o2 ((((146 : Int32) + ((44 : Int32) * a1)) + a2)).toNatClampNeg a3) fun M6 =>
  some M6
theorem cd_X10_put : (yX10_put.cls ≠ "java/lang/invoke/MethodHandle" ∧ yX10_put.cls ≠ "java/lang/invoke/VarHandle") ∧ (parseMethodDescriptor yX10_put.desc).map (fun d => d.parameters.length) = some 3 := ⟨⟨by decide +kernel, by decide +kernel⟩, by decide +kernel⟩
theorem k_X10_put (G : Gam) {o : Nat} {a1 : Int32} {a2 : Int32} {a3 : Int32} {M : Mem} {rv : Mem} (hf : f_X10_put o a1 a2 a3 M = some rv) : Kt yX10_put cX10_put 4 none 0 0 G [.ref (gB G + o), .int a1, .int a2, .int a3] M rv none := by
  refine Kt.of (by decide) (Nat.le_of_ble_eq_true rfl) ?_
  intro p l e R s m args below meth c X hr hlk hnm
  refine s_drop [0, 1, 2, 3] (vs' := [(0, .ref (gB G + o)), (1, .int a1), (2, .int a2), (3, .int a3)]) rfl ?_
  rw [f_X10_put] at hf
  refine s_aload_n X 0 dX10_put_0 rfl rfl ?_
  obtain ⟨h1, hf⟩ := pk_chk hf
  obtain ⟨o2, e3, hf⟩ := pk_bnd hf
  obtain ⟨h4, hf⟩ := pk_chk hf
  refine s_getR X (ci := 10) (k := 0) rfl (Nat.le_of_ble_eq_true rfl) h1 wd1440 (fun _ _ _ => rfl) (e3 ▸ h4) dX10_put_1 (e3 ▸ ?_)
  refine s_sipush X (v := (146 : Int32)) dX10_put_4 rfl ?_
  refine s_bipush X (v := (44 : Int32)) dX10_put_7 rfl ?_
  refine s_iload_n X 1 dX10_put_9 rfl rfl ?_
  refine s_imul X dX10_put_10 ?_
  refine s_iadd X dX10_put_11 ?_
  refine s_iload_n X 2 dX10_put_12 rfl rfl ?_
  refine s_iadd X dX10_put_13 ?_
  refine s_iload_n X 3 dX10_put_14 rfl rfl ?_
  obtain ⟨h5, hf⟩ := pk_chk hf
  obtain ⟨M6, e7, hf⟩ := pk_bnd hf
  refine s_iast X h4 h5 e7 dX10_put_15 ?_
  have h8 := io_sI e7 h1
  have h9 := io_sI e7 h4
  cases hf
  exact s_vret X hr hlk dX10_put_16
theorem dX10_begin_0 : decode cX10_begin 0 = .ok (.bipush 18, 2) := dk_16 (x := 18) (by decide +kernel) rfl
theorem dX10_begin_2 : decode cX10_begin 2 = .ok (.istore_n 3, 1) := dk_62 (by decide +kernel)
theorem dX10_begin_3 : decode cX10_begin 3 = .ok (.iload_n 3, 1) := dk_29 (by decide +kernel)
theorem dX10_begin_4 : decode cX10_begin 4 = .ok (.sipush 10465, 3) := dk_17 (x := 40) (y := 225) (by decide +kernel) rfl
theorem dX10_begin_7 : decode cX10_begin 7 = .ok (.if_icmp .ge 16, 3) := dk_162 (x := 0) (y := 16) (by decide +kernel) rfl
theorem dX10_begin_10 : decode cX10_begin 10 = .ok (.aload_n 0, 1) := dk_42 (by decide +kernel)
theorem dX10_begin_11 : decode cX10_begin 11 = .ok (.getfield 7, 3) := dk_180 (x := 0) (y := 7) (by decide +kernel) rfl
theorem dX10_begin_14 : decode cX10_begin 14 = .ok (.iload_n 3, 1) := dk_29 (by decide +kernel)
theorem dX10_begin_15 : decode cX10_begin 15 = .ok (.iconst 0, 1) := dk_3 (by decide +kernel)
theorem dX10_begin_16 : decode cX10_begin 16 = .ok (.iastore, 1) := dk_79 (by decide +kernel)
theorem dX10_begin_17 : decode cX10_begin 17 = .ok (.iinc 3 1, 3) := dk_132 (x := 3) (y := 1) (by decide +kernel) rfl
theorem dX10_begin_20 : decode cX10_begin 20 = .ok (.goto (-17), 3) := dk_167 (x := 255) (y := 239) (by decide +kernel) rfl
theorem dX10_begin_23 : decode cX10_begin 23 = .ok (.aload_n 0, 1) := dk_42 (by decide +kernel)
theorem dX10_begin_24 : decode cX10_begin 24 = .ok (.getfield 7, 3) := dk_180 (x := 0) (y := 7) (by decide +kernel) rfl
theorem dX10_begin_27 : decode cX10_begin 27 = .ok (.iconst 0, 1) := dk_3 (by decide +kernel)
theorem dX10_begin_28 : decode cX10_begin 28 = .ok (.iload_n 1, 1) := dk_27 (by decide +kernel)
theorem dX10_begin_29 : decode cX10_begin 29 = .ok (.iastore, 1) := dk_79 (by decide +kernel)
theorem dX10_begin_30 : decode cX10_begin 30 = .ok (.aload_n 0, 1) := dk_42 (by decide +kernel)
theorem dX10_begin_31 : decode cX10_begin 31 = .ok (.getfield 7, 3) := dk_180 (x := 0) (y := 7) (by decide +kernel) rfl
theorem dX10_begin_34 : decode cX10_begin 34 = .ok (.iconst 1, 1) := dk_4 (by decide +kernel)
theorem dX10_begin_35 : decode cX10_begin 35 = .ok (.iload_n 2, 1) := dk_28 (by decide +kernel)
theorem dX10_begin_36 : decode cX10_begin 36 = .ok (.ifCond .eq 7, 3) := dk_153 (x := 0) (y := 7) (by decide +kernel) rfl
theorem dX10_begin_39 : decode cX10_begin 39 = .ok (.iconst 1, 1) := dk_4 (by decide +kernel)
theorem dX10_begin_40 : decode cX10_begin 40 = .ok (.goto 4, 3) := dk_167 (x := 0) (y := 4) (by decide +kernel) rfl
theorem dX10_begin_43 : decode cX10_begin 43 = .ok (.iconst 0, 1) := dk_3 (by decide +kernel)
theorem dX10_begin_44 : decode cX10_begin 44 = .ok (.iastore, 1) := dk_79 (by decide +kernel)
theorem dX10_begin_45 : decode cX10_begin 45 = .ok (.iconst 0, 1) := dk_3 (by decide +kernel)
theorem dX10_begin_46 : decode cX10_begin 46 = .ok (.istore_n 3, 1) := dk_62 (by decide +kernel)
theorem dX10_begin_47 : decode cX10_begin 47 = .ok (.iload_n 3, 1) := dk_29 (by decide +kernel)
theorem dX10_begin_48 : decode cX10_begin 48 = .ok (.bipush 16, 2) := dk_16 (x := 16) (by decide +kernel) rfl
theorem dX10_begin_50 : decode cX10_begin 50 = .ok (.if_icmp .ge 16, 3) := dk_162 (x := 0) (y := 16) (by decide +kernel) rfl
theorem dX10_begin_53 : decode cX10_begin 53 = .ok (.aload_n 0, 1) := dk_42 (by decide +kernel)
theorem dX10_begin_54 : decode cX10_begin 54 = .ok (.iload_n 3, 1) := dk_29 (by decide +kernel)
theorem dX10_begin_55 : decode cX10_begin 55 = .ok (.iconst 0, 1) := dk_3 (by decide +kernel)
theorem dX10_begin_56 : decode cX10_begin 56 = .ok (.iconst (-1), 1) := dk_2 (by decide +kernel)
theorem dX10_begin_57 : decode cX10_begin 57 = .ok (.invokevirtual 53, 3) := dk_182 (x := 0) (y := 53) (by decide +kernel) rfl
theorem dX10_begin_60 : decode cX10_begin 60 = .ok (.iinc 3 1, 3) := dk_132 (x := 3) (y := 1) (by decide +kernel) rfl
theorem dX10_begin_63 : decode cX10_begin 63 = .ok (.goto (-16), 3) := dk_167 (x := 255) (y := 240) (by decide +kernel) rfl
theorem dX10_begin_66 : decode cX10_begin 66 = .ok (.iconst 0, 1) := dk_3 (by decide +kernel)
theorem dX10_begin_67 : decode cX10_begin 67 = .ok (.istore_n 3, 1) := dk_62 (by decide +kernel)
theorem dX10_begin_68 : decode cX10_begin 68 = .ok (.iload_n 3, 1) := dk_29 (by decide +kernel)
theorem dX10_begin_69 : decode cX10_begin 69 = .ok (.sipush 256, 3) := dk_17 (x := 1) (y := 0) (by decide +kernel) rfl
theorem dX10_begin_72 : decode cX10_begin 72 = .ok (.if_icmp .ge 20, 3) := dk_162 (x := 0) (y := 20) (by decide +kernel) rfl
theorem dX10_begin_75 : decode cX10_begin 75 = .ok (.aload_n 0, 1) := dk_42 (by decide +kernel)
theorem dX10_begin_76 : decode cX10_begin 76 = .ok (.getfield 7, 3) := dk_180 (x := 0) (y := 7) (by decide +kernel) rfl
theorem dX10_begin_79 : decode cX10_begin 79 = .ok (.sipush 10209, 3) := dk_17 (x := 39) (y := 225) (by decide +kernel) rfl
theorem dX10_begin_82 : decode cX10_begin 82 = .ok (.iload_n 3, 1) := dk_29 (by decide +kernel)
theorem dX10_begin_83 : decode cX10_begin 83 = .ok (.iadd, 1) := dk_96 (by decide +kernel)
theorem dX10_begin_84 : decode cX10_begin 84 = .ok (.iconst 1, 1) := dk_4 (by decide +kernel)
theorem dX10_begin_85 : decode cX10_begin 85 = .ok (.iastore, 1) := dk_79 (by decide +kernel)
theorem dX10_begin_86 : decode cX10_begin 86 = .ok (.iinc 3 1, 3) := dk_132 (x := 3) (y := 1) (by decide +kernel) rfl
theorem dX10_begin_89 : decode cX10_begin 89 = .ok (.goto (-21), 3) := dk_167 (x := 255) (y := 235) (by decide +kernel) rfl
theorem dX10_begin_92 : decode cX10_begin 92 = .ok (.return_, 1) := dk_177 (by decide +kernel)
def f_X10_begin_68 : Nat → Nat → Int32 → Mem → Option Mem
  | 0, _, _, _ => none
  | n + 1, v0, v3, M =>
    if (256 : Int32) ≤ v3 then (
      some M
      ) else (
      chk (isO M 10 v0) <|
      bnd (mR M v0 0) fun o4 =>
      chk (isO M 100 o4) <|
      chk (inB ((10209 : Int32) + v3) (mLn M o4)) <|
      bnd (sI M o4 (((10209 : Int32) + v3)).toNatClampNeg (1 : Int32)) fun M8 =>
      bnd (v3 + (1 : Int32)) fun x12 =>
      f_X10_begin_68 n v0 x12 M8
      )
def f_X10_begin_47 : Nat → Nat → Int32 → Mem → Option Mem
  | 0, _, _, _ => none
  | n + 1, v0, v3, M =>
    if (16 : Int32) ≤ v3 then (
      f_X10_begin_68 n v0 (0 : Int32) M
      ) else (
      chk (isO M 10 v0) <|
      obd (f_X10_put v0 v3 (0 : Int32) (-1 : Int32) M) fun M5 =>
      bnd (v3 + (1 : Int32)) fun x6 =>
      f_X10_begin_47 n v0 x6 M5
      )
def f_X10_begin_3 : Nat → Nat → Int32 → Int32 → Int32 → Mem → Option Mem
  | 0, _, _, _, _, _ => none
  | n + 1, v0, v1, v2, v3, M =>
    if (10465 : Int32) ≤ v3 then (
      chk (isO M 10 v0) <|
      bnd (mR M v0 0) fun o4 =>
      chk (isO M 100 o4) <|
      chk (inB (0 : Int32) (mLn M o4)) <|
      bnd (sI M o4 ((0 : Int32)).toNatClampNeg v1) fun M8 =>
      bnd (mR M8 v0 0) fun o12 =>
      chk (isO M8 100 o12) <|
      if v2 = 0 then (
        chk (inB (1 : Int32) (mLn M8 o12)) <|
        bnd (sI M8 o12 ((1 : Int32)).toNatClampNeg (0 : Int32)) fun M18 =>
        f_X10_begin_47 n v0 (0 : Int32) M18
        ) else (
        chk (inB (1 : Int32) (mLn M8 o12)) <|
        bnd (sI M8 o12 ((1 : Int32)).toNatClampNeg (1 : Int32)) fun M24 =>
        f_X10_begin_47 n v0 (0 : Int32) M24
        )
      ) else (
      chk (isO M 10 v0) <|
      bnd (mR M v0 0) fun o30 =>
      chk (isO M 100 o30) <|
      chk (inB v3 (mLn M o30)) <|
      bnd (sI M o30 (v3).toNatClampNeg (0 : Int32)) fun M34 =>
      bnd (v3 + (1 : Int32)) fun x38 =>
      f_X10_begin_3 n v0 v1 v2 x38 M34
      )
def f_X10_begin (n : Nat) (o : Nat) (a1 : Int32) (a2 : Int32) (M : Mem) : Option Mem :=
  f_X10_begin_3 n o a1 a2 (18 : Int32) M
theorem cd_X10_begin : (yX10_begin.cls ≠ "java/lang/invoke/MethodHandle" ∧ yX10_begin.cls ≠ "java/lang/invoke/VarHandle") ∧ (parseMethodDescriptor yX10_begin.desc).map (fun d => d.parameters.length) = some 2 := ⟨⟨by decide +kernel, by decide +kernel⟩, by decide +kernel⟩
section
variable {p : Program} {l : Launch} {e : Env} {R : Room} {s : State} {m : MethodId} {args : Array Value} {below : List Frame} {meth : Method} {c : Code} {G : Gam} {M0 : Mem}
theorem l_X10_begin_68 {rv : Mem} (X : Cx p R s m args c G M0 cX10_begin yX10_begin.cls 4 1 23) (hr : meth.sig.returnType = none) (hlk : meth.locks = false) (hnm : meth.name = "begin") : ∀ {n : Nat} (v0 : Nat) (v3 : Int32) (M : Mem), f_X10_begin_68 n v0 v3 M = some rv → Sg p l e R s m args below meth c (Qm below G args s none M0 rv) G M0 4 68 [(0, .ref (gB G + v0)), (3, .int v3)] [] M := by
  intro n
  induction n with
  | zero => intro v0 v3 M hf; exact (pk_none hf).elim
  | succ n ih =>
    intro v0 v3 M hf
    rw [f_X10_begin_68] at hf
    refine s_iload_n X 1 dX10_begin_68 rfl rfl ?_
    refine s_sipush X (v := (256 : Int32)) dX10_begin_69 rfl ?_
    have hs1 := pk_ite hf
    clear hf
    refine s_icmp_ge X (tgt := 92) dX10_begin_72 rfl (fun c2 => ?_) (fun c2 => ?_)
    · have hf := hs1.1 c2
      cases hf
      exact s_vret X hr hlk dX10_begin_92
    · have hf := hs1.2 c2
      refine s_aload_n X 0 dX10_begin_75 rfl rfl ?_
      obtain ⟨h3, hf⟩ := pk_chk hf
      obtain ⟨o4, e5, hf⟩ := pk_bnd hf
      obtain ⟨h6, hf⟩ := pk_chk hf
      refine s_getR X (ci := 10) (k := 0) rfl (Nat.le_of_ble_eq_true rfl) h3 wd1440 (fun _ _ _ => rfl) (e5 ▸ h6) dX10_begin_76 (e5 ▸ ?_)
      refine s_sipush X (v := (10209 : Int32)) dX10_begin_79 rfl ?_
      refine s_iload_n X 1 dX10_begin_82 rfl rfl ?_
      refine s_iadd X dX10_begin_83 ?_
      refine s_iconst X (v := (1 : Int32)) dX10_begin_84 rfl ?_
      obtain ⟨h7, hf⟩ := pk_chk hf
      obtain ⟨M8, e9, hf⟩ := pk_bnd hf
      refine s_iast X h6 h7 e9 dX10_begin_85 ?_
      have h10 := io_sI e9 h3
      have h11 := io_sI e9 h6
      obtain ⟨x12, e13, hf⟩ := pk_bnd hf
      refine s_iinc X (vs' := [(0, .ref (gB G + v0)), (3, .int x12)]) 1 dX10_begin_86 rfl (v := x12) e13.symm (Nat.le_of_ble_eq_true rfl) [1, 0] rfl ?_
      refine s_goto X (tgt := 68) dX10_begin_89 rfl ?_
      exact ih _ _ _ hf
theorem l_X10_begin_47 {rv : Mem} (X : Cx p R s m args c G M0 cX10_begin yX10_begin.cls 4 1 23) (hr : meth.sig.returnType = none) (hlk : meth.locks = false) (hnm : meth.name = "begin") : ∀ {n : Nat} (v0 : Nat) (v3 : Int32) (M : Mem), f_X10_begin_47 n v0 v3 M = some rv → Sg p l e R s m args below meth c (Qm below G args s none M0 rv) G M0 4 47 [(0, .ref (gB G + v0)), (3, .int v3)] [] M := by
  intro n
  induction n with
  | zero => intro v0 v3 M hf; exact (pk_none hf).elim
  | succ n ih =>
    intro v0 v3 M hf
    rw [f_X10_begin_47] at hf
    refine s_iload_n X 1 dX10_begin_47 rfl rfl ?_
    refine s_bipush X (v := (16 : Int32)) dX10_begin_48 rfl ?_
    have hs1 := pk_ite hf
    clear hf
    refine s_icmp_ge X (tgt := 66) dX10_begin_50 rfl (fun c2 => ?_) (fun c2 => ?_)
    · have hf := hs1.1 c2
      refine s_iconst X (v := (0 : Int32)) dX10_begin_66 rfl ?_
      refine s_istore_n X (vs' := [(0, .ref (gB G + v0)), (3, .int (0 : Int32))]) dX10_begin_67 rfl (Nat.le_of_ble_eq_true rfl) [1, 0] rfl ?_
      exact l_X10_begin_68 X hr hlk hnm _ _ _ hf
    · have hf := hs1.2 c2
      refine s_aload_n X 0 dX10_begin_53 rfl rfl ?_
      refine s_iload_n X 1 dX10_begin_54 rfl rfl ?_
      refine s_iconst X (v := (0 : Int32)) dX10_begin_55 rfl ?_
      refine s_iconst X (v := (-1 : Int32)) dX10_begin_56 rfl ?_
      obtain ⟨h3, hf⟩ := pk_chk hf
      obtain ⟨M5, hc4, hf⟩ := pk_obd hf
      refine s_callV X (ci := 10) (k_X10_put G hc4) rfl h3 wd1433 wd1435 wd51 wd1436 wd138 cd_X10_put ⟨Nat.le_of_ble_eq_true rfl, Nat.le_of_ble_eq_true rfl⟩ (Nat.le_of_ble_eq_true rfl) dX10_begin_57 ?_
      obtain ⟨x6, e7, hf⟩ := pk_bnd hf
      refine s_iinc X (vs' := [(0, .ref (gB G + v0)), (3, .int x6)]) 1 dX10_begin_60 rfl (v := x6) e7.symm (Nat.le_of_ble_eq_true rfl) [1, 0] rfl ?_
      refine s_goto X (tgt := 47) dX10_begin_63 rfl ?_
      exact ih _ _ _ hf
theorem l_X10_begin_3 {rv : Mem} (X : Cx p R s m args c G M0 cX10_begin yX10_begin.cls 4 1 23) (hr : meth.sig.returnType = none) (hlk : meth.locks = false) (hnm : meth.name = "begin") : ∀ {n : Nat} (v0 : Nat) (v1 : Int32) (v2 : Int32) (v3 : Int32) (M : Mem), f_X10_begin_3 n v0 v1 v2 v3 M = some rv → Sg p l e R s m args below meth c (Qm below G args s none M0 rv) G M0 4 3 [(0, .ref (gB G + v0)), (1, .int v1), (2, .int v2), (3, .int v3)] [] M := by
  intro n
  induction n with
  | zero => intro v0 v1 v2 v3 M hf; exact (pk_none hf).elim
  | succ n ih =>
    intro v0 v1 v2 v3 M hf
    rw [f_X10_begin_3] at hf
    refine s_iload_n X 3 dX10_begin_3 rfl rfl ?_
    refine s_sipush X (v := (10465 : Int32)) dX10_begin_4 rfl ?_
    have hs1 := pk_ite hf
    clear hf
    refine s_icmp_ge X (tgt := 23) dX10_begin_7 rfl (fun c2 => ?_) (fun c2 => ?_)
    · have hf := hs1.1 c2
      refine s_aload_n X 0 dX10_begin_23 rfl rfl ?_
      obtain ⟨h3, hf⟩ := pk_chk hf
      obtain ⟨o4, e5, hf⟩ := pk_bnd hf
      obtain ⟨h6, hf⟩ := pk_chk hf
      refine s_getR X (ci := 10) (k := 0) rfl (Nat.le_of_ble_eq_true rfl) h3 wd1440 (fun _ _ _ => rfl) (e5 ▸ h6) dX10_begin_24 (e5 ▸ ?_)
      refine s_iconst X (v := (0 : Int32)) dX10_begin_27 rfl ?_
      refine s_iload_n X 1 dX10_begin_28 rfl rfl ?_
      obtain ⟨h7, hf⟩ := pk_chk hf
      obtain ⟨M8, e9, hf⟩ := pk_bnd hf
      refine s_iast X h6 h7 e9 dX10_begin_29 ?_
      have h10 := io_sI e9 h3
      have h11 := io_sI e9 h6
      refine s_aload_n X 0 dX10_begin_30 rfl rfl ?_
      obtain ⟨o12, e13, hf⟩ := pk_bnd hf
      obtain ⟨h14, hf⟩ := pk_chk hf
      refine s_getR X (ci := 10) (k := 0) rfl (Nat.le_of_ble_eq_true rfl) h10 wd1440 (fun _ _ _ => rfl) (e13 ▸ h14) dX10_begin_31 (e13 ▸ ?_)
      refine s_iconst X (v := (1 : Int32)) dX10_begin_34 rfl ?_
      refine s_iload_n X 2 dX10_begin_35 rfl rfl ?_
      have hs15 := pk_ite hf
      clear hf
      refine s_if_eq X (tgt := 43) dX10_begin_36 rfl (fun c16 => ?_) (fun c16 => ?_)
      · have hf := hs15.1 c16
        refine s_iconst X (v := (0 : Int32)) dX10_begin_43 rfl ?_
        obtain ⟨h17, hf⟩ := pk_chk hf
        obtain ⟨M18, e19, hf⟩ := pk_bnd hf
        refine s_iast X h14 h17 e19 dX10_begin_44 ?_
        have h20 := io_sI e19 h10
        have h21 := io_sI e19 h11
        have h22 := io_sI e19 h14
        refine s_iconst X (v := (0 : Int32)) dX10_begin_45 rfl ?_
        refine s_istore_n X (vs' := [(0, .ref (gB G + v0)), (1, .int v1), (2, .int v2), (3, .int (0 : Int32))]) dX10_begin_46 rfl (Nat.le_of_ble_eq_true rfl) [1, 2, 3, 0] rfl ?_
        refine s_drop [0, 3] (vs' := [(0, .ref (gB G + v0)), (3, .int (0 : Int32))]) rfl ?_
        exact l_X10_begin_47 X hr hlk hnm _ _ _ hf
      · have hf := hs15.2 c16
        refine s_iconst X (v := (1 : Int32)) dX10_begin_39 rfl ?_
        refine s_goto X (tgt := 44) dX10_begin_40 rfl ?_
        obtain ⟨h23, hf⟩ := pk_chk hf
        obtain ⟨M24, e25, hf⟩ := pk_bnd hf
        refine s_iast X h14 h23 e25 dX10_begin_44 ?_
        have h26 := io_sI e25 h10
        have h27 := io_sI e25 h11
        have h28 := io_sI e25 h14
        refine s_iconst X (v := (0 : Int32)) dX10_begin_45 rfl ?_
        refine s_istore_n X (vs' := [(0, .ref (gB G + v0)), (1, .int v1), (2, .int v2), (3, .int (0 : Int32))]) dX10_begin_46 rfl (Nat.le_of_ble_eq_true rfl) [1, 2, 3, 0] rfl ?_
        refine s_drop [0, 3] (vs' := [(0, .ref (gB G + v0)), (3, .int (0 : Int32))]) rfl ?_
        exact l_X10_begin_47 X hr hlk hnm _ _ _ hf
    · have hf := hs1.2 c2
      refine s_aload_n X 0 dX10_begin_10 rfl rfl ?_
      obtain ⟨h29, hf⟩ := pk_chk hf
      obtain ⟨o30, e31, hf⟩ := pk_bnd hf
      obtain ⟨h32, hf⟩ := pk_chk hf
      refine s_getR X (ci := 10) (k := 0) rfl (Nat.le_of_ble_eq_true rfl) h29 wd1440 (fun _ _ _ => rfl) (e31 ▸ h32) dX10_begin_11 (e31 ▸ ?_)
      refine s_iload_n X 3 dX10_begin_14 rfl rfl ?_
      refine s_iconst X (v := (0 : Int32)) dX10_begin_15 rfl ?_
      obtain ⟨h33, hf⟩ := pk_chk hf
      obtain ⟨M34, e35, hf⟩ := pk_bnd hf
      refine s_iast X h32 h33 e35 dX10_begin_16 ?_
      have h36 := io_sI e35 h29
      have h37 := io_sI e35 h32
      obtain ⟨x38, e39, hf⟩ := pk_bnd hf
      refine s_iinc X (vs' := [(0, .ref (gB G + v0)), (1, .int v1), (2, .int v2), (3, .int x38)]) 3 dX10_begin_17 rfl (v := x38) e39.symm (Nat.le_of_ble_eq_true rfl) [1, 2, 3, 0] rfl ?_
      refine s_goto X (tgt := 3) dX10_begin_20 rfl ?_
      exact ih _ _ _ _ _ hf
end
theorem k_X10_begin (G : Gam) {n : Nat} {o : Nat} {a1 : Int32} {a2 : Int32} {M : Mem} {rv : Mem} (hf : f_X10_begin n o a1 a2 M = some rv) : Kt yX10_begin cX10_begin 4 none 1 23 G [.ref (gB G + o), .int a1, .int a2] M rv none := by
  refine Kt.of (by decide) (Nat.le_of_ble_eq_true rfl) ?_
  intro p l e R s m args below meth c X hr hlk hnm
  refine s_drop [0, 1, 2] (vs' := [(0, .ref (gB G + o)), (1, .int a1), (2, .int a2)]) rfl ?_
  rw [f_X10_begin] at hf
  refine s_bipush X (v := (18 : Int32)) dX10_begin_0 rfl ?_
  refine s_istore_n X (vs' := [(0, .ref (gB G + o)), (1, .int a1), (2, .int a2), (3, .int (18 : Int32))]) dX10_begin_2 rfl (Nat.le_of_ble_eq_true rfl) [1, 2, 3, 0] rfl ?_
  exact l_X10_begin_3 X hr hlk hnm _ _ _ _ _ hf
theorem dX10_crossOf_0 : decode cX10_crossOf 0 = .ok (.iconst 0, 1) := dk_3 (by decide +kernel)
theorem dX10_crossOf_1 : decode cX10_crossOf 1 = .ok (.istore_n 3, 1) := dk_62 (by decide +kernel)
theorem dX10_crossOf_2 : decode cX10_crossOf 2 = .ok (.iconst 0, 1) := dk_3 (by decide +kernel)
theorem dX10_crossOf_3 : decode cX10_crossOf 3 = .ok (.istore 4, 2) := dk_54 (x := 4) (by decide +kernel)
theorem dX10_crossOf_5 : decode cX10_crossOf 5 = .ok (.iload 4, 2) := dk_21 (x := 4) (by decide +kernel)
theorem dX10_crossOf_7 : decode cX10_crossOf 7 = .ok (.iload_n 0, 1) := dk_26 (by decide +kernel)
theorem dX10_crossOf_8 : decode cX10_crossOf 8 = .ok (.if_icmp .ge 37, 3) := dk_162 (x := 0) (y := 37) (by decide +kernel) rfl
theorem dX10_crossOf_11 : decode cX10_crossOf 11 = .ok (.iload_n 3, 1) := dk_29 (by decide +kernel)
theorem dX10_crossOf_12 : decode cX10_crossOf 12 = .ok (.iconst 1, 1) := dk_4 (by decide +kernel)
theorem dX10_crossOf_13 : decode cX10_crossOf 13 = .ok (.iload_n 1, 1) := dk_27 (by decide +kernel)
theorem dX10_crossOf_14 : decode cX10_crossOf 14 = .ok (.iload_n 0, 1) := dk_26 (by decide +kernel)
theorem dX10_crossOf_15 : decode cX10_crossOf 15 = .ok (.idiv, 1) := dk_108 (by decide +kernel)
theorem dX10_crossOf_16 : decode cX10_crossOf 16 = .ok (.iload_n 0, 1) := dk_26 (by decide +kernel)
theorem dX10_crossOf_17 : decode cX10_crossOf 17 = .ok (.imul, 1) := dk_104 (by decide +kernel)
theorem dX10_crossOf_18 : decode cX10_crossOf 18 = .ok (.iload 4, 2) := dk_21 (x := 4) (by decide +kernel)
theorem dX10_crossOf_20 : decode cX10_crossOf 20 = .ok (.iadd, 1) := dk_96 (by decide +kernel)
theorem dX10_crossOf_21 : decode cX10_crossOf 21 = .ok (.iload_n 2, 1) := dk_28 (by decide +kernel)
theorem dX10_crossOf_22 : decode cX10_crossOf 22 = .ok (.irem, 1) := dk_112 (by decide +kernel)
theorem dX10_crossOf_23 : decode cX10_crossOf 23 = .ok (.ishl, 1) := dk_120 (by decide +kernel)
theorem dX10_crossOf_24 : decode cX10_crossOf 24 = .ok (.iconst 1, 1) := dk_4 (by decide +kernel)
theorem dX10_crossOf_25 : decode cX10_crossOf 25 = .ok (.iload 4, 2) := dk_21 (x := 4) (by decide +kernel)
theorem dX10_crossOf_27 : decode cX10_crossOf 27 = .ok (.iload_n 0, 1) := dk_26 (by decide +kernel)
theorem dX10_crossOf_28 : decode cX10_crossOf 28 = .ok (.imul, 1) := dk_104 (by decide +kernel)
theorem dX10_crossOf_29 : decode cX10_crossOf 29 = .ok (.iload_n 1, 1) := dk_27 (by decide +kernel)
theorem dX10_crossOf_30 : decode cX10_crossOf 30 = .ok (.iload_n 0, 1) := dk_26 (by decide +kernel)
theorem dX10_crossOf_31 : decode cX10_crossOf 31 = .ok (.irem, 1) := dk_112 (by decide +kernel)
theorem dX10_crossOf_32 : decode cX10_crossOf 32 = .ok (.iadd, 1) := dk_96 (by decide +kernel)
theorem dX10_crossOf_33 : decode cX10_crossOf 33 = .ok (.iload_n 2, 1) := dk_28 (by decide +kernel)
theorem dX10_crossOf_34 : decode cX10_crossOf 34 = .ok (.irem, 1) := dk_112 (by decide +kernel)
theorem dX10_crossOf_35 : decode cX10_crossOf 35 = .ok (.ishl, 1) := dk_120 (by decide +kernel)
theorem dX10_crossOf_36 : decode cX10_crossOf 36 = .ok (.ior, 1) := dk_128 (by decide +kernel)
theorem dX10_crossOf_37 : decode cX10_crossOf 37 = .ok (.ior, 1) := dk_128 (by decide +kernel)
theorem dX10_crossOf_38 : decode cX10_crossOf 38 = .ok (.istore_n 3, 1) := dk_62 (by decide +kernel)
theorem dX10_crossOf_39 : decode cX10_crossOf 39 = .ok (.iinc 4 1, 3) := dk_132 (x := 4) (y := 1) (by decide +kernel) rfl
theorem dX10_crossOf_42 : decode cX10_crossOf 42 = .ok (.goto (-37), 3) := dk_167 (x := 255) (y := 219) (by decide +kernel) rfl
theorem dX10_crossOf_45 : decode cX10_crossOf 45 = .ok (.iload_n 3, 1) := dk_29 (by decide +kernel)
theorem dX10_crossOf_46 : decode cX10_crossOf 46 = .ok (.ireturn, 1) := dk_172 (by decide +kernel)
def f_X10_crossOf_5 (M : Mem) : Nat → Int32 → Int32 → Int32 → Int32 → Int32 → Option Int32
  | 0, _, _, _, _, _ => none
  | n + 1, v0, v1, v2, v3, v4 =>
    if v0 ≤ v4 then (
      some v3
      ) else (
      chk (¬ v0 = 0) <|
      chk (¬ v2 = 0) <|
      chk (¬ v0 = 0) <|
      chk (¬ v2 = 0) <|
      bnd (v3 ||| (((1 : Int32) <<< (((((v1 / v0) * v0) + v4) - (((v1 / v0) * v0) + v4) / v2 * v2) &&& 31)) ||| ((1 : Int32) <<< ((((v4 * v0) + (v1 - v1 / v0 * v0)) - ((v4 * v0) + (v1 - v1 / v0 * v0)) / v2 * v2) &&& 31)))) fun x7 =>
      bnd (v4 + (1 : Int32)) fun x9 =>
      f_X10_crossOf_5 M n v0 v1 v2 x7 x9
      )
def f_X10_crossOf (n : Nat) (a1 : Int32) (a2 : Int32) (a3 : Int32) (M : Mem) : Option Int32 :=
  f_X10_crossOf_5 M n a1 a2 a3 (0 : Int32) (0 : Int32)
theorem cd_X10_crossOf : (yX10_crossOf.cls ≠ "java/lang/invoke/MethodHandle" ∧ yX10_crossOf.cls ≠ "java/lang/invoke/VarHandle") ∧ (parseMethodDescriptor yX10_crossOf.desc).map (fun d => d.parameters.length) = some 3 := ⟨⟨by decide +kernel, by decide +kernel⟩, by decide +kernel⟩
section
variable {p : Program} {l : Launch} {e : Env} {R : Room} {s : State} {m : MethodId} {args : Array Value} {below : List Frame} {meth : Method} {c : Code} {G : Gam} {M0 : Mem}
theorem l_X10_crossOf_5 {M : Mem} {rv : Int32} (X : Cx p R s m args c G M0 cX10_crossOf yX10_crossOf.cls 5 0 0) (hr : meth.sig.returnType = (some .int)) (hlk : meth.locks = false) (hnm : meth.name = "crossOf") : ∀ {n : Nat} (v0 : Int32) (v1 : Int32) (v2 : Int32) (v3 : Int32) (v4 : Int32), f_X10_crossOf_5 M n v0 v1 v2 v3 v4 = some rv → Sg p l e R s m args below meth c (Qm below G args s (some (.int rv)) M0 M) G M0 5 5 [(0, .int v0), (1, .int v1), (2, .int v2), (3, .int v3), (4, .int v4)] [] M := by
  intro n
  induction n with
  | zero => intro v0 v1 v2 v3 v4 hf; exact (pk_none hf).elim
  | succ n ih =>
    intro v0 v1 v2 v3 v4 hf
    rw [f_X10_crossOf_5] at hf
    refine s_iload X 4 dX10_crossOf_5 rfl ?_
    refine s_iload_n X 0 dX10_crossOf_7 rfl rfl ?_
    have hs1 := pk_ite hf
    clear hf
    refine s_icmp_ge X (tgt := 45) dX10_crossOf_8 rfl (fun c2 => ?_) (fun c2 => ?_)
    · have hf := hs1.1 c2
      refine s_iload_n X 3 dX10_crossOf_45 rfl rfl ?_
      cases hf
      exact s_iret X hr hlk dX10_crossOf_46
    · have hf := hs1.2 c2
      refine s_iload_n X 3 dX10_crossOf_11 rfl rfl ?_
      refine s_iconst X (v := (1 : Int32)) dX10_crossOf_12 rfl ?_
      refine s_iload_n X 1 dX10_crossOf_13 rfl rfl ?_
      refine s_iload_n X 0 dX10_crossOf_14 rfl rfl ?_
      obtain ⟨h3, hf⟩ := pk_chk hf
      refine s_idiv X dX10_crossOf_15 h3 ?_
      refine s_iload_n X 0 dX10_crossOf_16 rfl rfl ?_
      refine s_imul X dX10_crossOf_17 ?_
      refine s_iload X 4 dX10_crossOf_18 rfl ?_
      refine s_iadd X dX10_crossOf_20 ?_
      refine s_iload_n X 2 dX10_crossOf_21 rfl rfl ?_
      obtain ⟨h4, hf⟩ := pk_chk hf
      refine s_irem X dX10_crossOf_22 h4 ?_
      refine s_ishl X dX10_crossOf_23 ?_
      refine s_iconst X (v := (1 : Int32)) dX10_crossOf_24 rfl ?_
      refine s_iload X 4 dX10_crossOf_25 rfl ?_
      refine s_iload_n X 0 dX10_crossOf_27 rfl rfl ?_
      refine s_imul X dX10_crossOf_28 ?_
      refine s_iload_n X 1 dX10_crossOf_29 rfl rfl ?_
      refine s_iload_n X 0 dX10_crossOf_30 rfl rfl ?_
      obtain ⟨h5, hf⟩ := pk_chk hf
      refine s_irem X dX10_crossOf_31 h5 ?_
      refine s_iadd X dX10_crossOf_32 ?_
      refine s_iload_n X 2 dX10_crossOf_33 rfl rfl ?_
      obtain ⟨h6, hf⟩ := pk_chk hf
      refine s_irem X dX10_crossOf_34 h6 ?_
      refine s_ishl X dX10_crossOf_35 ?_
      refine s_ior X dX10_crossOf_36 ?_
      refine s_ior X dX10_crossOf_37 ?_
      obtain ⟨x7, e8, hf⟩ := pk_bnd hf
      refine s_nmI e8 ?_
      refine s_istore_n X (vs' := [(0, .int v0), (1, .int v1), (2, .int v2), (3, .int x7), (4, .int v4)]) dX10_crossOf_38 rfl (Nat.le_of_ble_eq_true rfl) [1, 2, 3, 0, 4] rfl ?_
      obtain ⟨x9, e10, hf⟩ := pk_bnd hf
      refine s_iinc X (vs' := [(0, .int v0), (1, .int v1), (2, .int v2), (3, .int x7), (4, .int x9)]) 4 dX10_crossOf_39 rfl (v := x9) e10.symm (Nat.le_of_ble_eq_true rfl) [1, 2, 3, 4, 0] rfl ?_
      refine s_goto X (tgt := 5) dX10_crossOf_42 rfl ?_
      exact ih _ _ _ _ _ hf
end
theorem k_X10_crossOf (G : Gam) {n : Nat} {a1 : Int32} {a2 : Int32} {a3 : Int32} {M : Mem} {rv : Int32} (hf : f_X10_crossOf n a1 a2 a3 M = some rv) : Kt yX10_crossOf cX10_crossOf 5 (some .int) 0 0 G [.int a1, .int a2, .int a3] M M (some (.int rv)) := by
  refine Kt.of (by decide) (Nat.le_of_ble_eq_true rfl) ?_
  intro p l e R s m args below meth c X hr hlk hnm
  refine s_drop [0, 1, 2] (vs' := [(0, .int a1), (1, .int a2), (2, .int a3)]) rfl ?_
  rw [f_X10_crossOf] at hf
  refine s_iconst X (v := (0 : Int32)) dX10_crossOf_0 rfl ?_
  refine s_istore_n X (vs' := [(0, .int a1), (1, .int a2), (2, .int a3), (3, .int (0 : Int32))]) dX10_crossOf_1 rfl (Nat.le_of_ble_eq_true rfl) [1, 2, 3, 0] rfl ?_
  refine s_iconst X (v := (0 : Int32)) dX10_crossOf_2 rfl ?_
  refine s_istore X (vs' := [(0, .int a1), (1, .int a2), (2, .int a3), (3, .int (0 : Int32)), (4, .int (0 : Int32))]) dX10_crossOf_3 (Nat.le_of_ble_eq_true rfl) [1, 2, 3, 4, 0] rfl ?_
  exact l_X10_crossOf_5 X hr hlk hnm _ _ _ _ _ hf
theorem dX10_makeFilled_0 : decode cX10_makeFilled 0 = .ok (.iconst 1, 1) := dk_4 (by decide +kernel)
theorem dX10_makeFilled_1 : decode cX10_makeFilled 1 = .ok (.istore_n 2, 1) := dk_61 (by decide +kernel)
theorem dX10_makeFilled_2 : decode cX10_makeFilled 2 = .ok (.iload_n 2, 1) := dk_28 (by decide +kernel)
theorem dX10_makeFilled_3 : decode cX10_makeFilled 3 = .ok (.iload_n 2, 1) := dk_28 (by decide +kernel)
theorem dX10_makeFilled_4 : decode cX10_makeFilled 4 = .ok (.imul, 1) := dk_104 (by decide +kernel)
theorem dX10_makeFilled_5 : decode cX10_makeFilled 5 = .ok (.iload_n 1, 1) := dk_27 (by decide +kernel)
theorem dX10_makeFilled_6 : decode cX10_makeFilled 6 = .ok (.if_icmp .ge 9, 3) := dk_162 (x := 0) (y := 9) (by decide +kernel) rfl
theorem dX10_makeFilled_9 : decode cX10_makeFilled 9 = .ok (.iinc 2 1, 3) := dk_132 (x := 2) (y := 1) (by decide +kernel) rfl
theorem dX10_makeFilled_12 : decode cX10_makeFilled 12 = .ok (.goto (-10), 3) := dk_167 (x := 255) (y := 246) (by decide +kernel) rfl
theorem dX10_makeFilled_15 : decode cX10_makeFilled 15 = .ok (.aload_n 0, 1) := dk_42 (by decide +kernel)
theorem dX10_makeFilled_16 : decode cX10_makeFilled 16 = .ok (.iload_n 1, 1) := dk_27 (by decide +kernel)
theorem dX10_makeFilled_17 : decode cX10_makeFilled 17 = .ok (.iconst 0, 1) := dk_3 (by decide +kernel)
theorem dX10_makeFilled_18 : decode cX10_makeFilled 18 = .ok (.invokevirtual 60, 3) := dk_182 (x := 0) (y := 60) (by decide +kernel) rfl
theorem dX10_makeFilled_21 : decode cX10_makeFilled 21 = .ok (.iconst 0, 1) := dk_3 (by decide +kernel)
theorem dX10_makeFilled_22 : decode cX10_makeFilled 22 = .ok (.istore_n 3, 1) := dk_62 (by decide +kernel)
theorem dX10_makeFilled_23 : decode cX10_makeFilled 23 = .ok (.iload_n 3, 1) := dk_29 (by decide +kernel)
theorem dX10_makeFilled_24 : decode cX10_makeFilled 24 = .ok (.iload_n 1, 1) := dk_27 (by decide +kernel)
theorem dX10_makeFilled_25 : decode cX10_makeFilled 25 = .ok (.if_icmp .ge 23, 3) := dk_162 (x := 0) (y := 23) (by decide +kernel) rfl
theorem dX10_makeFilled_28 : decode cX10_makeFilled 28 = .ok (.aload_n 0, 1) := dk_42 (by decide +kernel)
theorem dX10_makeFilled_29 : decode cX10_makeFilled 29 = .ok (.getfield 7, 3) := dk_180 (x := 0) (y := 7) (by decide +kernel) rfl
theorem dX10_makeFilled_32 : decode cX10_makeFilled 32 = .ok (.iconst 2, 1) := dk_5 (by decide +kernel)
theorem dX10_makeFilled_33 : decode cX10_makeFilled 33 = .ok (.iload_n 3, 1) := dk_29 (by decide +kernel)
theorem dX10_makeFilled_34 : decode cX10_makeFilled 34 = .ok (.iadd, 1) := dk_96 (by decide +kernel)
theorem dX10_makeFilled_35 : decode cX10_makeFilled 35 = .ok (.iload_n 2, 1) := dk_28 (by decide +kernel)
theorem dX10_makeFilled_36 : decode cX10_makeFilled 36 = .ok (.iload_n 3, 1) := dk_29 (by decide +kernel)
theorem dX10_makeFilled_37 : decode cX10_makeFilled 37 = .ok (.iload_n 1, 1) := dk_27 (by decide +kernel)
theorem dX10_makeFilled_38 : decode cX10_makeFilled 38 = .ok (.invokestatic 64, 3) := dk_184 (x := 0) (y := 64) (by decide +kernel) rfl
theorem dX10_makeFilled_41 : decode cX10_makeFilled 41 = .ok (.iastore, 1) := dk_79 (by decide +kernel)
theorem dX10_makeFilled_42 : decode cX10_makeFilled 42 = .ok (.iinc 3 1, 3) := dk_132 (x := 3) (y := 1) (by decide +kernel) rfl
theorem dX10_makeFilled_45 : decode cX10_makeFilled 45 = .ok (.goto (-22), 3) := dk_167 (x := 255) (y := 234) (by decide +kernel) rfl
theorem dX10_makeFilled_48 : decode cX10_makeFilled 48 = .ok (.iload_n 1, 1) := dk_27 (by decide +kernel)
theorem dX10_makeFilled_49 : decode cX10_makeFilled 49 = .ok (.ireturn, 1) := dk_172 (by decide +kernel)
def f_X10_makeFilled_23 : Nat → Nat → Int32 → Int32 → Int32 → Mem → Option (Int32 × Mem)
  | 0, _, _, _, _, _ => none
  | n + 1, v0, v1, v2, v3, M =>
    if v1 ≤ v3 then (
      some (v1, M)
      ) else (
      chk (isO M 10 v0) <|
      bnd (mR M v0 0) fun o4 =>
      chk (isO M 100 o4) <|
      obd (f_X10_crossOf n v2 v3 v1 M) fun r8 =>
      chk (inB ((2 : Int32) + v3) (mLn M o4)) <|
      bnd (sI M o4 (((2 : Int32) + v3)).toNatClampNeg r8) fun M10 =>
      bnd (v3 + (1 : Int32)) fun x14 =>
      f_X10_makeFilled_23 n v0 v1 v2 x14 M10
      )
def f_X10_makeFilled_2 : Nat → Nat → Int32 → Int32 → Mem → Option (Int32 × Mem)
  | 0, _, _, _, _ => none
  | n + 1, v0, v1, v2, M =>
    if v1 ≤ (v2 * v2) then (
      chk (isO M 10 v0) <|
      obd (f_X10_begin n v0 v1 (0 : Int32) M) fun M5 =>
      f_X10_makeFilled_23 n v0 v1 v2 (0 : Int32) M5
      ) else (
      bnd (v2 + (1 : Int32)) fun x6 =>
      f_X10_makeFilled_2 n v0 v1 x6 M
      )
def f_X10_makeFilled (n : Nat) (o : Nat) (a1 : Int32) (M : Mem) : Option (Int32 × Mem) :=
  f_X10_makeFilled_2 n o a1 (1 : Int32) M
theorem cd_X10_makeFilled : (yX10_makeFilled.cls ≠ "java/lang/invoke/MethodHandle" ∧ yX10_makeFilled.cls ≠ "java/lang/invoke/VarHandle") ∧ (parseMethodDescriptor yX10_makeFilled.desc).map (fun d => d.parameters.length) = some 1 := ⟨⟨by decide +kernel, by decide +kernel⟩, by decide +kernel⟩
section
variable {p : Program} {l : Launch} {e : Env} {R : Room} {s : State} {m : MethodId} {args : Array Value} {below : List Frame} {meth : Method} {c : Code} {G : Gam} {M0 : Mem}
theorem l_X10_makeFilled_23 {rv : (Int32 × Mem)} (X : Cx p R s m args c G M0 cX10_makeFilled yX10_makeFilled.cls 4 2 46) (hr : meth.sig.returnType = (some .int)) (hlk : meth.locks = false) (hnm : meth.name = "makeFilled") : ∀ {n : Nat} (v0 : Nat) (v1 : Int32) (v2 : Int32) (v3 : Int32) (M : Mem), f_X10_makeFilled_23 n v0 v1 v2 v3 M = some rv → Sg p l e R s m args below meth c (Qm below G args s (some (.int rv.1)) M0 rv.2) G M0 4 23 [(0, .ref (gB G + v0)), (1, .int v1), (2, .int v2), (3, .int v3)] [] M := by
  intro n
  induction n with
  | zero => intro v0 v1 v2 v3 M hf; exact (pk_none hf).elim
  | succ n ih =>
    intro v0 v1 v2 v3 M hf
    rw [f_X10_makeFilled_23] at hf
    refine s_iload_n X 3 dX10_makeFilled_23 rfl rfl ?_
    refine s_iload_n X 1 dX10_makeFilled_24 rfl rfl ?_
    have hs1 := pk_ite hf
    clear hf
    refine s_icmp_ge X (tgt := 48) dX10_makeFilled_25 rfl (fun c2 => ?_) (fun c2 => ?_)
    · have hf := hs1.1 c2
      refine s_iload_n X 1 dX10_makeFilled_48 rfl rfl ?_
      cases hf
      exact s_iret X hr hlk dX10_makeFilled_49
    · have hf := hs1.2 c2
      refine s_aload_n X 0 dX10_makeFilled_28 rfl rfl ?_
      obtain ⟨h3, hf⟩ := pk_chk hf
      obtain ⟨o4, e5, hf⟩ := pk_bnd hf
      obtain ⟨h6, hf⟩ := pk_chk hf
      refine s_getR X (ci := 10) (k := 0) rfl (Nat.le_of_ble_eq_true rfl) h3 wd1440 (fun _ _ _ => rfl) (e5 ▸ h6) dX10_makeFilled_29 (e5 ▸ ?_)
      refine s_iconst X (v := (2 : Int32)) dX10_makeFilled_32 rfl ?_
      refine s_iload_n X 3 dX10_makeFilled_33 rfl rfl ?_
      refine s_iadd X dX10_makeFilled_34 ?_
      refine s_iload_n X 2 dX10_makeFilled_35 rfl rfl ?_
      refine s_iload_n X 3 dX10_makeFilled_36 rfl rfl ?_
      refine s_iload_n X 1 dX10_makeFilled_37 rfl rfl ?_
      obtain ⟨r8, hc7, hf⟩ := pk_obd hf
      refine s_callS X (k_X10_crossOf G hc7) wd1437 wd1438 wd1439 wd138 cd_X10_crossOf ⟨Nat.le_of_ble_eq_true rfl, Nat.le_of_ble_eq_true rfl⟩ (Nat.le_of_ble_eq_true rfl) dX10_makeFilled_38 ?_
      obtain ⟨h9, hf⟩ := pk_chk hf
      obtain ⟨M10, e11, hf⟩ := pk_bnd hf
      refine s_iast X h6 h9 e11 dX10_makeFilled_41 ?_
      have h12 := io_sI e11 h3
      have h13 := io_sI e11 h6
      obtain ⟨x14, e15, hf⟩ := pk_bnd hf
      refine s_iinc X (vs' := [(0, .ref (gB G + v0)), (1, .int v1), (2, .int v2), (3, .int x14)]) 3 dX10_makeFilled_42 rfl (v := x14) e15.symm (Nat.le_of_ble_eq_true rfl) [1, 2, 3, 0] rfl ?_
      refine s_goto X (tgt := 23) dX10_makeFilled_45 rfl ?_
      exact ih _ _ _ _ _ hf
theorem l_X10_makeFilled_2 {rv : (Int32 × Mem)} (X : Cx p R s m args c G M0 cX10_makeFilled yX10_makeFilled.cls 4 2 46) (hr : meth.sig.returnType = (some .int)) (hlk : meth.locks = false) (hnm : meth.name = "makeFilled") : ∀ {n : Nat} (v0 : Nat) (v1 : Int32) (v2 : Int32) (M : Mem), f_X10_makeFilled_2 n v0 v1 v2 M = some rv → Sg p l e R s m args below meth c (Qm below G args s (some (.int rv.1)) M0 rv.2) G M0 4 2 [(0, .ref (gB G + v0)), (1, .int v1), (2, .int v2)] [] M := by
  intro n
  induction n with
  | zero => intro v0 v1 v2 M hf; exact (pk_none hf).elim
  | succ n ih =>
    intro v0 v1 v2 M hf
    rw [f_X10_makeFilled_2] at hf
    refine s_iload_n X 2 dX10_makeFilled_2 rfl rfl ?_
    refine s_iload_n X 2 dX10_makeFilled_3 rfl rfl ?_
    refine s_imul X dX10_makeFilled_4 ?_
    refine s_iload_n X 1 dX10_makeFilled_5 rfl rfl ?_
    have hs1 := pk_ite hf
    clear hf
    refine s_icmp_ge X (tgt := 15) dX10_makeFilled_6 rfl (fun c2 => ?_) (fun c2 => ?_)
    · have hf := hs1.1 c2
      refine s_aload_n X 0 dX10_makeFilled_15 rfl rfl ?_
      refine s_iload_n X 1 dX10_makeFilled_16 rfl rfl ?_
      refine s_iconst X (v := (0 : Int32)) dX10_makeFilled_17 rfl ?_
      obtain ⟨h3, hf⟩ := pk_chk hf
      obtain ⟨M5, hc4, hf⟩ := pk_obd hf
      refine s_callV X (ci := 10) (k_X10_begin G hc4) rfl h3 wd1429 wd1431 wd50 wd1432 wd138 cd_X10_begin ⟨Nat.le_of_ble_eq_true rfl, Nat.le_of_ble_eq_true rfl⟩ (Nat.le_of_ble_eq_true rfl) dX10_makeFilled_18 ?_
      refine s_iconst X (v := (0 : Int32)) dX10_makeFilled_21 rfl ?_
      refine s_istore_n X (vs' := [(0, .ref (gB G + v0)), (1, .int v1), (2, .int v2), (3, .int (0 : Int32))]) dX10_makeFilled_22 rfl (Nat.le_of_ble_eq_true rfl) [1, 2, 3, 0] rfl ?_
      exact l_X10_makeFilled_23 X hr hlk hnm _ _ _ _ _ hf
    · have hf := hs1.2 c2
      obtain ⟨x6, e7, hf⟩ := pk_bnd hf
      refine s_iinc X (vs' := [(0, .ref (gB G + v0)), (1, .int v1), (2, .int x6)]) 2 dX10_makeFilled_9 rfl (v := x6) e7.symm (Nat.le_of_ble_eq_true rfl) [1, 2, 0] rfl ?_
      refine s_goto X (tgt := 2) dX10_makeFilled_12 rfl ?_
      exact ih _ _ _ _ hf
end
theorem k_X10_makeFilled (G : Gam) {n : Nat} {o : Nat} {a1 : Int32} {M : Mem} {rv : (Int32 × Mem)} (hf : f_X10_makeFilled n o a1 M = some rv) : Kt yX10_makeFilled cX10_makeFilled 4 (some .int) 2 46 G [.ref (gB G + o), .int a1] M rv.2 (some (.int rv.1)) := by
  refine Kt.of (by decide) (Nat.le_of_ble_eq_true rfl) ?_
  intro p l e R s m args below meth c X hr hlk hnm
  refine s_drop [0, 1] (vs' := [(0, .ref (gB G + o)), (1, .int a1)]) rfl ?_
  rw [f_X10_makeFilled] at hf
  refine s_iconst X (v := (1 : Int32)) dX10_makeFilled_0 rfl ?_
  refine s_istore_n X (vs' := [(0, .ref (gB G + o)), (1, .int a1), (2, .int (1 : Int32))]) dX10_makeFilled_1 rfl (Nat.le_of_ble_eq_true rfl) [1, 2, 0] rfl ?_
  exact l_X10_makeFilled_2 X hr hlk hnm _ _ _ _ hf
theorem dX10_makeGrid_0 : decode cX10_makeGrid 0 = .ok (.aload_n 0, 1) := dk_42 (by decide +kernel)
theorem dX10_makeGrid_1 : decode cX10_makeGrid 1 = .ok (.iload_n 1, 1) := dk_27 (by decide +kernel)
theorem dX10_makeGrid_2 : decode cX10_makeGrid 2 = .ok (.iload_n 1, 1) := dk_27 (by decide +kernel)
theorem dX10_makeGrid_3 : decode cX10_makeGrid 3 = .ok (.imul, 1) := dk_104 (by decide +kernel)
theorem dX10_makeGrid_4 : decode cX10_makeGrid 4 = .ok (.invokevirtual 57, 3) := dk_182 (x := 0) (y := 57) (by decide +kernel) rfl
theorem dX10_makeGrid_7 : decode cX10_makeGrid 7 = .ok (.ireturn, 1) := dk_172 (by decide +kernel)
def f_X10_makeGrid (n : Nat) (o : Nat) (a1 : Int32) (M : Mem) : Option (Int32 × Mem) :=
  chk (isO M 10 o) <|
  obd2 (f_X10_makeFilled n o (a1 * a1) M) fun r3 M4 =>
  some (r3, M4)
theorem cd_X10_makeGrid : (yX10_makeGrid.cls ≠ "java/lang/invoke/MethodHandle" ∧ yX10_makeGrid.cls ≠ "java/lang/invoke/VarHandle") ∧ (parseMethodDescriptor yX10_makeGrid.desc).map (fun d => d.parameters.length) = some 1 := ⟨⟨by decide +kernel, by decide +kernel⟩, by decide +kernel⟩
theorem k_X10_makeGrid (G : Gam) {n : Nat} {o : Nat} {a1 : Int32} {M : Mem} {rv : (Int32 × Mem)} (hf : f_X10_makeGrid n o a1 M = some rv) : Kt yX10_makeGrid cX10_makeGrid 2 (some .int) 3 69 G [.ref (gB G + o), .int a1] M rv.2 (some (.int rv.1)) := by
  refine Kt.of (by decide) (Nat.le_of_ble_eq_true rfl) ?_
  intro p l e R s m args below meth c X hr hlk hnm
  refine s_drop [0, 1] (vs' := [(0, .ref (gB G + o)), (1, .int a1)]) rfl ?_
  rw [f_X10_makeGrid] at hf
  refine s_aload_n X 0 dX10_makeGrid_0 rfl rfl ?_
  refine s_iload_n X 1 dX10_makeGrid_1 rfl rfl ?_
  refine s_iload_n X 1 dX10_makeGrid_2 rfl rfl ?_
  refine s_imul X dX10_makeGrid_3 ?_
  obtain ⟨h1, hf⟩ := pk_chk hf
  obtain ⟨r3, M4, hc2, hf⟩ := pk_obd2 hf
  refine s_callV X (ci := 10) (k_X10_makeFilled G hc2) rfl h1 wd1425 wd1427 wd49 wd1428 wd138 cd_X10_makeFilled ⟨Nat.le_of_ble_eq_true rfl, Nat.le_of_ble_eq_true rfl⟩ (Nat.le_of_ble_eq_true rfl) dX10_makeGrid_4 ?_
  cases hf
  exact s_iret X hr hlk dX10_makeGrid_7
theorem dX10_init_0 : decode cX10_init 0 = .ok (.aload_n 0, 1) := dk_42 (by decide +kernel)
theorem dX10_init_1 : decode cX10_init 1 = .ok (.invokespecial 1, 3) := dk_183 (x := 0) (y := 1) (by decide +kernel) rfl
theorem dX10_init_4 : decode cX10_init 4 = .ok (.aload_n 0, 1) := dk_42 (by decide +kernel)
theorem dX10_init_5 : decode cX10_init 5 = .ok (.sipush 10465, 3) := dk_17 (x := 40) (y := 225) (by decide +kernel) rfl
theorem dX10_init_8 : decode cX10_init 8 = .ok (.newarray .int, 2) := dk_na_10 (by decide +kernel)
theorem dX10_init_10 : decode cX10_init 10 = .ok (.putfield 7, 3) := dk_181 (x := 0) (y := 7) (by decide +kernel) rfl
theorem dX10_init_13 : decode cX10_init 13 = .ok (.aload_n 0, 1) := dk_42 (by decide +kernel)
theorem dX10_init_14 : decode cX10_init 14 = .ok (.bipush 16, 2) := dk_16 (x := 16) (by decide +kernel) rfl
theorem dX10_init_16 : decode cX10_init 16 = .ok (.newarray .int, 2) := dk_na_10 (by decide +kernel)
theorem dX10_init_18 : decode cX10_init 18 = .ok (.putfield 13, 3) := dk_181 (x := 0) (y := 13) (by decide +kernel) rfl
theorem dX10_init_21 : decode cX10_init 21 = .ok (.aload_n 0, 1) := dk_42 (by decide +kernel)
theorem dX10_init_22 : decode cX10_init 22 = .ok (.sipush 9000, 3) := dk_17 (x := 35) (y := 40) (by decide +kernel) rfl
theorem dX10_init_25 : decode cX10_init 25 = .ok (.newarray .int, 2) := dk_na_10 (by decide +kernel)
theorem dX10_init_27 : decode cX10_init 27 = .ok (.putfield 16, 3) := dk_181 (x := 0) (y := 16) (by decide +kernel) rfl
theorem dX10_init_30 : decode cX10_init 30 = .ok (.aload_n 0, 1) := dk_42 (by decide +kernel)
theorem dX10_init_31 : decode cX10_init 31 = .ok (.sipush 288, 3) := dk_17 (x := 1) (y := 32) (by decide +kernel) rfl
theorem dX10_init_34 : decode cX10_init 34 = .ok (.newarray .int, 2) := dk_na_10 (by decide +kernel)
theorem dX10_init_36 : decode cX10_init 36 = .ok (.putfield 19, 3) := dk_181 (x := 0) (y := 19) (by decide +kernel) rfl
theorem dX10_init_39 : decode cX10_init 39 = .ok (.aload_n 0, 1) := dk_42 (by decide +kernel)
theorem dX10_init_40 : decode cX10_init 40 = .ok (.bipush 16, 2) := dk_16 (x := 16) (by decide +kernel) rfl
theorem dX10_init_42 : decode cX10_init 42 = .ok (.newarray .int, 2) := dk_na_10 (by decide +kernel)
theorem dX10_init_44 : decode cX10_init 44 = .ok (.putfield 22, 3) := dk_181 (x := 0) (y := 22) (by decide +kernel) rfl
theorem dX10_init_47 : decode cX10_init 47 = .ok (.aload_n 0, 1) := dk_42 (by decide +kernel)
theorem dX10_init_48 : decode cX10_init 48 = .ok (.sipush 10465, 3) := dk_17 (x := 40) (y := 225) (by decide +kernel) rfl
theorem dX10_init_51 : decode cX10_init 51 = .ok (.newarray .int, 2) := dk_na_10 (by decide +kernel)
theorem dX10_init_53 : decode cX10_init 53 = .ok (.putfield 25, 3) := dk_181 (x := 0) (y := 25) (by decide +kernel) rfl
theorem dX10_init_56 : decode cX10_init 56 = .ok (.aload_n 0, 1) := dk_42 (by decide +kernel)
theorem dX10_init_57 : decode cX10_init 57 = .ok (.bipush 16, 2) := dk_16 (x := 16) (by decide +kernel) rfl
theorem dX10_init_59 : decode cX10_init 59 = .ok (.newarray .int, 2) := dk_na_10 (by decide +kernel)
theorem dX10_init_61 : decode cX10_init 61 = .ok (.putfield 28, 3) := dk_181 (x := 0) (y := 28) (by decide +kernel) rfl
theorem dX10_init_64 : decode cX10_init 64 = .ok (.aload_n 0, 1) := dk_42 (by decide +kernel)
theorem dX10_init_65 : decode cX10_init 65 = .ok (.ldc 31, 2) := dk_18 (x := 31) (by decide +kernel)
theorem dX10_init_67 : decode cX10_init 67 = .ok (.newarray .int, 2) := dk_na_10 (by decide +kernel)
theorem dX10_init_69 : decode cX10_init 69 = .ok (.putfield 32, 3) := dk_181 (x := 0) (y := 32) (by decide +kernel) rfl
theorem dX10_init_72 : decode cX10_init 72 = .ok (.aload_n 0, 1) := dk_42 (by decide +kernel)
theorem dX10_init_73 : decode cX10_init 73 = .ok (.bipush 40, 2) := dk_16 (x := 40) (by decide +kernel) rfl
theorem dX10_init_75 : decode cX10_init 75 = .ok (.newarray .int, 2) := dk_na_10 (by decide +kernel)
theorem dX10_init_77 : decode cX10_init 77 = .ok (.putfield 35, 3) := dk_181 (x := 0) (y := 35) (by decide +kernel) rfl
theorem dX10_init_80 : decode cX10_init 80 = .ok (.aload_n 0, 1) := dk_42 (by decide +kernel)
theorem dX10_init_81 : decode cX10_init 81 = .ok (.bipush 16, 2) := dk_16 (x := 16) (by decide +kernel) rfl
theorem dX10_init_83 : decode cX10_init 83 = .ok (.newarray .int, 2) := dk_na_10 (by decide +kernel)
theorem dX10_init_85 : decode cX10_init 85 = .ok (.putfield 38, 3) := dk_181 (x := 0) (y := 38) (by decide +kernel) rfl
theorem dX10_init_88 : decode cX10_init 88 = .ok (.aload_n 0, 1) := dk_42 (by decide +kernel)
theorem dX10_init_89 : decode cX10_init 89 = .ok (.iconst 2, 1) := dk_5 (by decide +kernel)
theorem dX10_init_90 : decode cX10_init 90 = .ok (.invokevirtual 41, 3) := dk_182 (x := 0) (y := 41) (by decide +kernel) rfl
theorem dX10_init_93 : decode cX10_init 93 = .ok (.pop, 1) := dk_87 (by decide +kernel)
theorem dX10_init_94 : decode cX10_init 94 = .ok (.return_, 1) := dk_177 (by decide +kernel)
def f_X10_init (n : Nat) (o : Nat) (M : Mem) : Option Mem :=
  chk (¬ (10465 : Int32) < 0) <|
  chk (mN M + 1 ≤ CAP ∧ mU M + ((10465 : Int32)).toNatClampNeg ≤ CAPU) <|
  bnd (mN M) fun o5 =>
  bnd (nw M 100 ((10465 : Int32)).toNatClampNeg ((10465 : Int32)).toNatClampNeg) fun M3 =>
  chk (isO M3 10 o) <|
  bnd (sR M3 o 0 o5) fun M9 =>
  chk (¬ (16 : Int32) < 0) <|
  chk (mN M9 + 1 ≤ CAP ∧ mU M9 + ((16 : Int32)).toNatClampNeg ≤ CAPU) <|
  bnd (mN M9) fun o17 =>
  bnd (nw M9 100 ((16 : Int32)).toNatClampNeg ((16 : Int32)).toNatClampNeg) fun M15 =>
  bnd (sR M15 o 1 o17) fun M22 =>
  chk (¬ (9000 : Int32) < 0) <|
  chk (mN M22 + 1 ≤ CAP ∧ mU M22 + ((9000 : Int32)).toNatClampNeg ≤ CAPU) <|
  bnd (mN M22) fun o31 =>
  bnd (nw M22 100 ((9000 : Int32)).toNatClampNeg ((9000 : Int32)).toNatClampNeg) fun M29 =>
  bnd (sR M29 o 2 o31) fun M37 =>
  chk (¬ (288 : Int32) < 0) <|
  chk (mN M37 + 1 ≤ CAP ∧ mU M37 + ((288 : Int32)).toNatClampNeg ≤ CAPU) <|
  bnd (mN M37) fun o47 =>
  bnd (nw M37 100 ((288 : Int32)).toNatClampNeg ((288 : Int32)).toNatClampNeg) fun M45 =>
  bnd (sR M45 o 4 o47) fun M54 =>
  chk (¬ (16 : Int32) < 0) <|
  chk (mN M54 + 1 ≤ CAP ∧ mU M54 + ((16 : Int32)).toNatClampNeg ≤ CAPU) <|
  bnd (mN M54) fun o65 =>
  bnd (nw M54 100 ((16 : Int32)).toNatClampNeg ((16 : Int32)).toNatClampNeg) fun M63 =>
  bnd (sR M63 o 5 o65) fun M73 =>
  chk (¬ (10465 : Int32) < 0) <|
  chk (mN M73 + 1 ≤ CAP ∧ mU M73 + ((10465 : Int32)).toNatClampNeg ≤ CAPU) <|
  bnd (mN M73) fun o85 =>
  bnd (nw M73 100 ((10465 : Int32)).toNatClampNeg ((10465 : Int32)).toNatClampNeg) fun M83 =>
  bnd (sR M83 o 9 o85) fun M94 =>
  chk (¬ (16 : Int32) < 0) <|
  chk (mN M94 + 1 ≤ CAP ∧ mU M94 + ((16 : Int32)).toNatClampNeg ≤ CAPU) <|
  bnd (mN M94) fun o107 =>
  bnd (nw M94 100 ((16 : Int32)).toNatClampNeg ((16 : Int32)).toNatClampNeg) fun M105 =>
  bnd (sR M105 o 10 o107) fun M117 =>
  chk (¬ (393320 : Int32) < 0) <|
  chk (mN M117 + 1 ≤ CAP ∧ mU M117 + ((393320 : Int32)).toNatClampNeg ≤ CAPU) <|
  bnd (mN M117) fun o131 =>
  bnd (nw M117 100 ((393320 : Int32)).toNatClampNeg ((393320 : Int32)).toNatClampNeg) fun M129 =>
  bnd (sR M129 o 11 o131) fun M142 =>
  chk (¬ (40 : Int32) < 0) <|
  chk (mN M142 + 1 ≤ CAP ∧ mU M142 + ((40 : Int32)).toNatClampNeg ≤ CAPU) <|
  bnd (mN M142) fun o157 =>
  bnd (nw M142 100 ((40 : Int32)).toNatClampNeg ((40 : Int32)).toNatClampNeg) fun M155 =>
  bnd (sR M155 o 12 o157) fun M169 =>
  chk (¬ (16 : Int32) < 0) <|
  chk (mN M169 + 1 ≤ CAP ∧ mU M169 + ((16 : Int32)).toNatClampNeg ≤ CAPU) <|
  bnd (mN M169) fun o185 =>
  bnd (nw M169 100 ((16 : Int32)).toNatClampNeg ((16 : Int32)).toNatClampNeg) fun M183 =>
  bnd (sR M183 o 19 o185) fun M198 =>
  obd2 (f_X10_makeGrid n o (2 : Int32) M198) fun r212 M213 =>
  some M213
theorem cd_X10_init : (yX10_init.cls ≠ "java/lang/invoke/MethodHandle" ∧ yX10_init.cls ≠ "java/lang/invoke/VarHandle") ∧ (parseMethodDescriptor yX10_init.desc).map (fun d => d.parameters.length) = some 0 := ⟨⟨by decide +kernel, by decide +kernel⟩, by decide +kernel⟩
theorem k_X10_init (G : Gam) {n : Nat} {o : Nat} {M : Mem} {rv : Mem} (hf : f_X10_init n o M = some rv) : Kt yX10_init cX10_init 1 none 4 90 G [.ref (gB G + o)] M rv none := by
  refine Kt.of (by decide) (Nat.le_of_ble_eq_true rfl) ?_
  intro p l e R s m args below meth c X hr hlk hnm
  refine s_drop [0] (vs' := [(0, .ref (gB G + o))]) rfl ?_
  rw [f_X10_init] at hf
  refine s_aload_n X 0 dX10_init_0 rfl rfl ?_
  refine s_objInit X (o := o) wd1419 wd151 wd152 ⟨Nat.le_of_ble_eq_true rfl, Nat.le_of_ble_eq_true rfl⟩ dX10_init_1 ?_
  refine s_aload_n X 0 dX10_init_4 rfl rfl ?_
  refine s_sipush X (v := (10465 : Int32)) dX10_init_5 rfl ?_
  obtain ⟨h1, hf⟩ := pk_chk hf
  obtain ⟨h2, hf⟩ := pk_chk hf
  obtain ⟨o5, e6, hf⟩ := pk_bnd hf
  obtain ⟨M3, e4, hf⟩ := pk_bnd hf
  refine s_newI X wd184 h1 h2 e4 dX10_init_8 (e6 ▸ ?_)
  have h7 := io_nwn e4 e6
  obtain ⟨h8, hf⟩ := pk_chk hf
  obtain ⟨M9, e10, hf⟩ := pk_bnd hf
  refine s_putRF X (ci := 10) (k := 0) rfl (Nat.le_of_ble_eq_true rfl) h8 wd1440 (fun _ _ _ => rfl) h7 (fun _ => ⟨rfl, rfl⟩) rfl hnm rfl e10 dX10_init_10 ?_
  have h11 := io_sR e10 h7
  have h12 := io_sR e10 h8
  refine s_aload_n X 0 dX10_init_13 rfl rfl ?_
  refine s_bipush X (v := (16 : Int32)) dX10_init_14 rfl ?_
  obtain ⟨h13, hf⟩ := pk_chk hf
  obtain ⟨h14, hf⟩ := pk_chk hf
  obtain ⟨o17, e18, hf⟩ := pk_bnd hf
  obtain ⟨M15, e16, hf⟩ := pk_bnd hf
  refine s_newI X wd184 h13 h14 e16 dX10_init_16 (e18 ▸ ?_)
  have h19 := io_nw e16 h11
  have h20 := io_nw e16 h12
  have h21 := io_nwn e16 e18
  obtain ⟨M22, e23, hf⟩ := pk_bnd hf
  refine s_putRF X (ci := 10) (k := 1) rfl (Nat.le_of_ble_eq_true rfl) h20 wd1441 (fun _ _ _ => rfl) h21 (fun _ => ⟨rfl, rfl⟩) rfl hnm rfl e23 dX10_init_18 ?_
  have h24 := io_sR e23 h19
  have h25 := io_sR e23 h20
  have h26 := io_sR e23 h21
  refine s_aload_n X 0 dX10_init_21 rfl rfl ?_
  refine s_sipush X (v := (9000 : Int32)) dX10_init_22 rfl ?_
  obtain ⟨h27, hf⟩ := pk_chk hf
  obtain ⟨h28, hf⟩ := pk_chk hf
  obtain ⟨o31, e32, hf⟩ := pk_bnd hf
  obtain ⟨M29, e30, hf⟩ := pk_bnd hf
  refine s_newI X wd184 h27 h28 e30 dX10_init_25 (e32 ▸ ?_)
  have h33 := io_nw e30 h24
  have h34 := io_nw e30 h25
  have h35 := io_nw e30 h26
  have h36 := io_nwn e30 e32
  obtain ⟨M37, e38, hf⟩ := pk_bnd hf
  refine s_putRF X (ci := 10) (k := 2) rfl (Nat.le_of_ble_eq_true rfl) h34 wd1442 (fun _ _ _ => rfl) h36 (fun _ => ⟨rfl, rfl⟩) rfl hnm rfl e38 dX10_init_27 ?_
  have h39 := io_sR e38 h33
  have h40 := io_sR e38 h34
  have h41 := io_sR e38 h35
  have h42 := io_sR e38 h36
  refine s_aload_n X 0 dX10_init_30 rfl rfl ?_
  refine s_sipush X (v := (288 : Int32)) dX10_init_31 rfl ?_
  obtain ⟨h43, hf⟩ := pk_chk hf
  obtain ⟨h44, hf⟩ := pk_chk hf
  obtain ⟨o47, e48, hf⟩ := pk_bnd hf
  obtain ⟨M45, e46, hf⟩ := pk_bnd hf
  refine s_newI X wd184 h43 h44 e46 dX10_init_34 (e48 ▸ ?_)
  have h49 := io_nw e46 h39
  have h50 := io_nw e46 h40
  have h51 := io_nw e46 h41
  have h52 := io_nw e46 h42
  have h53 := io_nwn e46 e48
  obtain ⟨M54, e55, hf⟩ := pk_bnd hf
  refine s_putRF X (ci := 10) (k := 4) rfl (Nat.le_of_ble_eq_true rfl) h50 wd1444 (fun _ _ _ => rfl) h53 (fun _ => ⟨rfl, rfl⟩) rfl hnm rfl e55 dX10_init_36 ?_
  have h56 := io_sR e55 h49
  have h57 := io_sR e55 h50
  have h58 := io_sR e55 h51
  have h59 := io_sR e55 h52
  have h60 := io_sR e55 h53
  refine s_aload_n X 0 dX10_init_39 rfl rfl ?_
  refine s_bipush X (v := (16 : Int32)) dX10_init_40 rfl ?_
  obtain ⟨h61, hf⟩ := pk_chk hf
  obtain ⟨h62, hf⟩ := pk_chk hf
  obtain ⟨o65, e66, hf⟩ := pk_bnd hf
  obtain ⟨M63, e64, hf⟩ := pk_bnd hf
  refine s_newI X wd184 h61 h62 e64 dX10_init_42 (e66 ▸ ?_)
  have h67 := io_nw e64 h56
  have h68 := io_nw e64 h57
  have h69 := io_nw e64 h58
  have h70 := io_nw e64 h59
  have h71 := io_nw e64 h60
  have h72 := io_nwn e64 e66
  obtain ⟨M73, e74, hf⟩ := pk_bnd hf
  refine s_putRF X (ci := 10) (k := 5) rfl (Nat.le_of_ble_eq_true rfl) h68 wd1445 (fun _ _ _ => rfl) h72 (fun _ => ⟨rfl, rfl⟩) rfl hnm rfl e74 dX10_init_44 ?_
  have h75 := io_sR e74 h67
  have h76 := io_sR e74 h68
  have h77 := io_sR e74 h69
  have h78 := io_sR e74 h70
  have h79 := io_sR e74 h71
  have h80 := io_sR e74 h72
  refine s_aload_n X 0 dX10_init_47 rfl rfl ?_
  refine s_sipush X (v := (10465 : Int32)) dX10_init_48 rfl ?_
  obtain ⟨h81, hf⟩ := pk_chk hf
  obtain ⟨h82, hf⟩ := pk_chk hf
  obtain ⟨o85, e86, hf⟩ := pk_bnd hf
  obtain ⟨M83, e84, hf⟩ := pk_bnd hf
  refine s_newI X wd184 h81 h82 e84 dX10_init_51 (e86 ▸ ?_)
  have h87 := io_nw e84 h75
  have h88 := io_nw e84 h76
  have h89 := io_nw e84 h77
  have h90 := io_nw e84 h78
  have h91 := io_nw e84 h79
  have h92 := io_nw e84 h80
  have h93 := io_nwn e84 e86
  obtain ⟨M94, e95, hf⟩ := pk_bnd hf
  refine s_putRF X (ci := 10) (k := 9) rfl (Nat.le_of_ble_eq_true rfl) h88 wd1449 (fun _ _ _ => rfl) h93 (fun _ => ⟨rfl, rfl⟩) rfl hnm rfl e95 dX10_init_53 ?_
  have h96 := io_sR e95 h87
  have h97 := io_sR e95 h88
  have h98 := io_sR e95 h89
  have h99 := io_sR e95 h90
  have h100 := io_sR e95 h91
  have h101 := io_sR e95 h92
  have h102 := io_sR e95 h93
  refine s_aload_n X 0 dX10_init_56 rfl rfl ?_
  refine s_bipush X (v := (16 : Int32)) dX10_init_57 rfl ?_
  obtain ⟨h103, hf⟩ := pk_chk hf
  obtain ⟨h104, hf⟩ := pk_chk hf
  obtain ⟨o107, e108, hf⟩ := pk_bnd hf
  obtain ⟨M105, e106, hf⟩ := pk_bnd hf
  refine s_newI X wd184 h103 h104 e106 dX10_init_59 (e108 ▸ ?_)
  have h109 := io_nw e106 h96
  have h110 := io_nw e106 h97
  have h111 := io_nw e106 h98
  have h112 := io_nw e106 h99
  have h113 := io_nw e106 h100
  have h114 := io_nw e106 h101
  have h115 := io_nw e106 h102
  have h116 := io_nwn e106 e108
  obtain ⟨M117, e118, hf⟩ := pk_bnd hf
  refine s_putRF X (ci := 10) (k := 10) rfl (Nat.le_of_ble_eq_true rfl) h110 wd1450 (fun _ _ _ => rfl) h116 (fun _ => ⟨rfl, rfl⟩) rfl hnm rfl e118 dX10_init_61 ?_
  have h119 := io_sR e118 h109
  have h120 := io_sR e118 h110
  have h121 := io_sR e118 h111
  have h122 := io_sR e118 h112
  have h123 := io_sR e118 h113
  have h124 := io_sR e118 h114
  have h125 := io_sR e118 h115
  have h126 := io_sR e118 h116
  refine s_aload_n X 0 dX10_init_64 rfl rfl ?_
  refine s_ldc X (v := (393320 : Int32)) dX10_init_65 wd1420 ?_
  obtain ⟨h127, hf⟩ := pk_chk hf
  obtain ⟨h128, hf⟩ := pk_chk hf
  obtain ⟨o131, e132, hf⟩ := pk_bnd hf
  obtain ⟨M129, e130, hf⟩ := pk_bnd hf
  refine s_newI X wd184 h127 h128 e130 dX10_init_67 (e132 ▸ ?_)
  have h133 := io_nw e130 h119
  have h134 := io_nw e130 h120
  have h135 := io_nw e130 h121
  have h136 := io_nw e130 h122
  have h137 := io_nw e130 h123
  have h138 := io_nw e130 h124
  have h139 := io_nw e130 h125
  have h140 := io_nw e130 h126
  have h141 := io_nwn e130 e132
  obtain ⟨M142, e143, hf⟩ := pk_bnd hf
  refine s_putRF X (ci := 10) (k := 11) rfl (Nat.le_of_ble_eq_true rfl) h134 wd1451 (fun _ _ _ => rfl) h141 (fun _ => ⟨rfl, rfl⟩) rfl hnm rfl e143 dX10_init_69 ?_
  have h144 := io_sR e143 h133
  have h145 := io_sR e143 h134
  have h146 := io_sR e143 h135
  have h147 := io_sR e143 h136
  have h148 := io_sR e143 h137
  have h149 := io_sR e143 h138
  have h150 := io_sR e143 h139
  have h151 := io_sR e143 h140
  have h152 := io_sR e143 h141
  refine s_aload_n X 0 dX10_init_72 rfl rfl ?_
  refine s_bipush X (v := (40 : Int32)) dX10_init_73 rfl ?_
  obtain ⟨h153, hf⟩ := pk_chk hf
  obtain ⟨h154, hf⟩ := pk_chk hf
  obtain ⟨o157, e158, hf⟩ := pk_bnd hf
  obtain ⟨M155, e156, hf⟩ := pk_bnd hf
  refine s_newI X wd184 h153 h154 e156 dX10_init_75 (e158 ▸ ?_)
  have h159 := io_nw e156 h144
  have h160 := io_nw e156 h145
  have h161 := io_nw e156 h146
  have h162 := io_nw e156 h147
  have h163 := io_nw e156 h148
  have h164 := io_nw e156 h149
  have h165 := io_nw e156 h150
  have h166 := io_nw e156 h151
  have h167 := io_nw e156 h152
  have h168 := io_nwn e156 e158
  obtain ⟨M169, e170, hf⟩ := pk_bnd hf
  refine s_putRF X (ci := 10) (k := 12) rfl (Nat.le_of_ble_eq_true rfl) h160 wd1452 (fun _ _ _ => rfl) h168 (fun _ => ⟨rfl, rfl⟩) rfl hnm rfl e170 dX10_init_77 ?_
  have h171 := io_sR e170 h159
  have h172 := io_sR e170 h160
  have h173 := io_sR e170 h161
  have h174 := io_sR e170 h162
  have h175 := io_sR e170 h163
  have h176 := io_sR e170 h164
  have h177 := io_sR e170 h165
  have h178 := io_sR e170 h166
  have h179 := io_sR e170 h167
  have h180 := io_sR e170 h168
  refine s_aload_n X 0 dX10_init_80 rfl rfl ?_
  refine s_bipush X (v := (16 : Int32)) dX10_init_81 rfl ?_
  obtain ⟨h181, hf⟩ := pk_chk hf
  obtain ⟨h182, hf⟩ := pk_chk hf
  obtain ⟨o185, e186, hf⟩ := pk_bnd hf
  obtain ⟨M183, e184, hf⟩ := pk_bnd hf
  refine s_newI X wd184 h181 h182 e184 dX10_init_83 (e186 ▸ ?_)
  have h187 := io_nw e184 h171
  have h188 := io_nw e184 h172
  have h189 := io_nw e184 h173
  have h190 := io_nw e184 h174
  have h191 := io_nw e184 h175
  have h192 := io_nw e184 h176
  have h193 := io_nw e184 h177
  have h194 := io_nw e184 h178
  have h195 := io_nw e184 h179
  have h196 := io_nw e184 h180
  have h197 := io_nwn e184 e186
  obtain ⟨M198, e199, hf⟩ := pk_bnd hf
  refine s_putRF X (ci := 10) (k := 19) rfl (Nat.le_of_ble_eq_true rfl) h188 wd1459 (fun _ _ _ => rfl) h197 (fun _ => ⟨rfl, rfl⟩) rfl hnm rfl e199 dX10_init_85 ?_
  have h200 := io_sR e199 h187
  have h201 := io_sR e199 h188
  have h202 := io_sR e199 h189
  have h203 := io_sR e199 h190
  have h204 := io_sR e199 h191
  have h205 := io_sR e199 h192
  have h206 := io_sR e199 h193
  have h207 := io_sR e199 h194
  have h208 := io_sR e199 h195
  have h209 := io_sR e199 h196
  have h210 := io_sR e199 h197
  refine s_aload_n X 0 dX10_init_88 rfl rfl ?_
  refine s_iconst X (v := (2 : Int32)) dX10_init_89 rfl ?_
  obtain ⟨r212, M213, hc211, hf⟩ := pk_obd2 hf
  refine s_callV X (ci := 10) (k_X10_makeGrid G hc211) rfl h201 wd1421 wd1423 wd48 wd1424 wd138 cd_X10_makeGrid ⟨Nat.le_of_ble_eq_true rfl, Nat.le_of_ble_eq_true rfl⟩ (Nat.le_of_ble_eq_true rfl) dX10_init_90 ?_
  refine s_pop X dX10_init_93 rfl ?_
  cases hf
  exact s_vret X hr hlk dX10_init_94
theorem dX9_grid_0 : decode cX9_grid 0 = .ok (.iload_n 1, 1) := dk_27 (by decide +kernel)
theorem dX9_grid_1 : decode cX9_grid 1 = .ok (.iconst 2, 1) := dk_5 (by decide +kernel)
theorem dX9_grid_2 : decode cX9_grid 2 = .ok (.if_icmp .lt 8, 3) := dk_161 (x := 0) (y := 8) (by decide +kernel) rfl
theorem dX9_grid_5 : decode cX9_grid 5 = .ok (.iload_n 1, 1) := dk_27 (by decide +kernel)
theorem dX9_grid_6 : decode cX9_grid 6 = .ok (.iconst 4, 1) := dk_7 (by decide +kernel)
theorem dX9_grid_7 : decode cX9_grid 7 = .ok (.if_icmp .le 5, 3) := dk_164 (x := 0) (y := 5) (by decide +kernel) rfl
theorem dX9_grid_10 : decode cX9_grid 10 = .ok (.iconst (-1), 1) := dk_2 (by decide +kernel)
theorem dX9_grid_11 : decode cX9_grid 11 = .ok (.ireturn, 1) := dk_172 (by decide +kernel)
theorem dX9_grid_12 : decode cX9_grid 12 = .ok (.aload_n 0, 1) := dk_42 (by decide +kernel)
theorem dX9_grid_13 : decode cX9_grid 13 = .ok (.getfield 10, 3) := dk_180 (x := 0) (y := 10) (by decide +kernel) rfl
theorem dX9_grid_16 : decode cX9_grid 16 = .ok (.iload_n 1, 1) := dk_27 (by decide +kernel)
theorem dX9_grid_17 : decode cX9_grid 17 = .ok (.iload_n 1, 1) := dk_27 (by decide +kernel)
theorem dX9_grid_18 : decode cX9_grid 18 = .ok (.imul, 1) := dk_104 (by decide +kernel)
theorem dX9_grid_19 : decode cX9_grid 19 = .ok (.invokevirtual 51, 3) := dk_182 (x := 0) (y := 51) (by decide +kernel) rfl
theorem dX9_grid_22 : decode cX9_grid 22 = .ok (.aload_n 0, 1) := dk_42 (by decide +kernel)
theorem dX9_grid_23 : decode cX9_grid 23 = .ok (.invokevirtual 55, 3) := dk_182 (x := 0) (y := 55) (by decide +kernel) rfl
theorem dX9_grid_26 : decode cX9_grid 26 = .ok (.ireturn, 1) := dk_172 (by decide +kernel)
def f_X9_grid (n : Nat) (o : Nat) (a1 : Int32) (M : Mem) : Option (Int32 × Mem) :=
  if a1 < (2 : Int32) then (
    some ((-1 : Int32), M)
    ) else (
    if a1 ≤ (4 : Int32) then (
      chk (isO M 9 o) <|
      bnd (mR M o 0) fun o6 =>
      chk (isO M 7 o6) <|
      obd (f_X7_makeFilled n o6 (a1 * a1) M) fun M10 =>
      chk (isO M10 9 o) <|
      obd2 (f_X9_startAnew n o M10) fun r13 M14 =>
      some (r13, M14)
      ) else (
      some ((-1 : Int32), M)
      )
    )
theorem cd_X9_grid : (yX9_grid.cls ≠ "java/lang/invoke/MethodHandle" ∧ yX9_grid.cls ≠ "java/lang/invoke/VarHandle") ∧ (parseMethodDescriptor yX9_grid.desc).map (fun d => d.parameters.length) = some 1 := ⟨⟨by decide +kernel, by decide +kernel⟩, by decide +kernel⟩
theorem k_X9_grid (G : Gam) {n : Nat} {o : Nat} {a1 : Int32} {M : Mem} {rv : (Int32 × Mem)} (hf : f_X9_grid n o a1 M = some rv) : Kt yX9_grid cX9_grid 2 (some .int) 5 104 G [.ref (gB G + o), .int a1] M rv.2 (some (.int rv.1)) := by
  refine Kt.of (by decide) (Nat.le_of_ble_eq_true rfl) ?_
  intro p l e R s m args below meth c X hr hlk hnm
  refine s_drop [0, 1] (vs' := [(0, .ref (gB G + o)), (1, .int a1)]) rfl ?_
  rw [f_X9_grid] at hf
  refine s_iload_n X 1 dX9_grid_0 rfl rfl ?_
  refine s_iconst X (v := (2 : Int32)) dX9_grid_1 rfl ?_
  have hs1 := pk_ite hf
  clear hf
  refine s_icmp_lt X (tgt := 10) dX9_grid_2 rfl (fun c2 => ?_) (fun c2 => ?_)
  · have hf := hs1.1 c2
    refine s_iconst X (v := (-1 : Int32)) dX9_grid_10 rfl ?_
    cases hf
    exact s_iret X hr hlk dX9_grid_11
  · have hf := hs1.2 c2
    refine s_iload_n X 1 dX9_grid_5 rfl rfl ?_
    refine s_iconst X (v := (4 : Int32)) dX9_grid_6 rfl ?_
    have hs3 := pk_ite hf
    clear hf
    refine s_icmp_le X (tgt := 12) dX9_grid_7 rfl (fun c4 => ?_) (fun c4 => ?_)
    · have hf := hs3.1 c4
      refine s_aload_n X 0 dX9_grid_12 rfl rfl ?_
      obtain ⟨h5, hf⟩ := pk_chk hf
      obtain ⟨o6, e7, hf⟩ := pk_bnd hf
      obtain ⟨h8, hf⟩ := pk_chk hf
      refine s_getR X (ci := 9) (k := 0) rfl (Nat.le_of_ble_eq_true rfl) h5 wd627 (fun _ _ _ => rfl) (e7 ▸ h8) dX9_grid_13 (e7 ▸ ?_)
      refine s_iload_n X 1 dX9_grid_16 rfl rfl ?_
      refine s_iload_n X 1 dX9_grid_17 rfl rfl ?_
      refine s_imul X dX9_grid_18 ?_
      obtain ⟨M10, hc9, hf⟩ := pk_obd hf
      refine s_callV X (ci := 7) (k_X7_makeFilled G hc9) rfl h8 wd571 wd572 wd573 wd574 wd127 cd_X7_makeFilled ⟨Nat.le_of_ble_eq_true rfl, Nat.le_of_ble_eq_true rfl⟩ (Nat.le_of_ble_eq_true rfl) dX9_grid_19 ?_
      refine s_aload_n X 0 dX9_grid_22 rfl rfl ?_
      obtain ⟨h11, hf⟩ := pk_chk hf
      obtain ⟨r13, M14, hc12, hf⟩ := pk_obd2 hf
      refine s_callV X (ci := 9) (k_X9_startAnew G hc12) rfl h11 wd582 wd584 wd1 wd585 wd126 cd_X9_startAnew ⟨Nat.le_of_ble_eq_true rfl, Nat.le_of_ble_eq_true rfl⟩ (Nat.le_of_ble_eq_true rfl) dX9_grid_23 ?_
      cases hf
      exact s_iret X hr hlk dX9_grid_26
    · have hf := hs3.2 c4
      refine s_iconst X (v := (-1 : Int32)) dX9_grid_10 rfl ?_
      cases hf
      exact s_iret X hr hlk dX9_grid_11
theorem dX10_isIn_0 : decode cX10_isIn 0 = .ok (.iload_n 0, 1) := dk_26 (by decide +kernel)
theorem dX10_isIn_1 : decode cX10_isIn 1 = .ok (.iload_n 1, 1) := dk_27 (by decide +kernel)
theorem dX10_isIn_2 : decode cX10_isIn 2 = .ok (.if_icmp .lt 12, 3) := dk_161 (x := 0) (y := 12) (by decide +kernel) rfl
theorem dX10_isIn_5 : decode cX10_isIn 5 = .ok (.iload_n 0, 1) := dk_26 (by decide +kernel)
theorem dX10_isIn_6 : decode cX10_isIn 6 = .ok (.iload_n 2, 1) := dk_28 (by decide +kernel)
theorem dX10_isIn_7 : decode cX10_isIn 7 = .ok (.if_icmp .gt 7, 3) := dk_163 (x := 0) (y := 7) (by decide +kernel) rfl
theorem dX10_isIn_10 : decode cX10_isIn 10 = .ok (.iconst 1, 1) := dk_4 (by decide +kernel)
theorem dX10_isIn_11 : decode cX10_isIn 11 = .ok (.goto 4, 3) := dk_167 (x := 0) (y := 4) (by decide +kernel) rfl
theorem dX10_isIn_14 : decode cX10_isIn 14 = .ok (.iconst 0, 1) := dk_3 (by decide +kernel)
theorem dX10_isIn_15 : decode cX10_isIn 15 = .ok (.ireturn, 1) := dk_172 (by decide +kernel)
def f_X10_isIn (a1 : Int32) (a2 : Int32) (a3 : Int32) (M : Mem) : Option Int32 :=
  if a1 < a2 then (
    some (0 : Int32)
    ) else (
    if a3 < a1 then (
      some (0 : Int32)
      ) else (
      some (1 : Int32)
      )
    )
theorem cd_X10_isIn : (yX10_isIn.cls ≠ "java/lang/invoke/MethodHandle" ∧ yX10_isIn.cls ≠ "java/lang/invoke/VarHandle") ∧ (parseMethodDescriptor yX10_isIn.desc).map (fun d => d.parameters.length) = some 3 := ⟨⟨by decide +kernel, by decide +kernel⟩, by decide +kernel⟩
theorem k_X10_isIn (G : Gam) {a1 : Int32} {a2 : Int32} {a3 : Int32} {M : Mem} {rv : Int32} (hf : f_X10_isIn a1 a2 a3 M = some rv) : Kt yX10_isIn cX10_isIn 3 (some .boolean) 0 0 G [.int a1, .int a2, .int a3] M M (some (.int rv)) := by
  refine Kt.of (by decide) (Nat.le_of_ble_eq_true rfl) ?_
  intro p l e R s m args below meth c X hr hlk hnm
  refine s_drop [0, 1, 2] (vs' := [(0, .int a1), (1, .int a2), (2, .int a3)]) rfl ?_
  rw [f_X10_isIn] at hf
  refine s_iload_n X 0 dX10_isIn_0 rfl rfl ?_
  refine s_iload_n X 1 dX10_isIn_1 rfl rfl ?_
  have hs1 := pk_ite hf
  clear hf
  refine s_icmp_lt X (tgt := 14) dX10_isIn_2 rfl (fun c2 => ?_) (fun c2 => ?_)
  · have hf := hs1.1 c2
    refine s_iconst X (v := (0 : Int32)) dX10_isIn_14 rfl ?_
    cases hf
    exact s_zret X hr (bz_n (Or.inl rfl)) hlk dX10_isIn_15
  · have hf := hs1.2 c2
    refine s_iload_n X 0 dX10_isIn_5 rfl rfl ?_
    refine s_iload_n X 2 dX10_isIn_6 rfl rfl ?_
    have hs3 := pk_ite hf
    clear hf
    refine s_icmp_gt X (tgt := 14) dX10_isIn_7 rfl (fun c4 => ?_) (fun c4 => ?_)
    · have hf := hs3.1 c4
      refine s_iconst X (v := (0 : Int32)) dX10_isIn_14 rfl ?_
      cases hf
      exact s_zret X hr (bz_n (Or.inl rfl)) hlk dX10_isIn_15
    · have hf := hs3.2 c4
      refine s_iconst X (v := (1 : Int32)) dX10_isIn_10 rfl ?_
      refine s_goto X (tgt := 15) dX10_isIn_11 rfl ?_
      cases hf
      exact s_zret X hr (bz_n (Or.inr rfl)) hlk dX10_isIn_15
theorem dX10_grid_0 : decode cX10_grid 0 = .ok (.iload_n 1, 1) := dk_27 (by decide +kernel)
theorem dX10_grid_1 : decode cX10_grid 1 = .ok (.iconst 2, 1) := dk_5 (by decide +kernel)
theorem dX10_grid_2 : decode cX10_grid 2 = .ok (.iconst 4, 1) := dk_7 (by decide +kernel)
theorem dX10_grid_3 : decode cX10_grid 3 = .ok (.invokestatic 49, 3) := dk_184 (x := 0) (y := 49) (by decide +kernel) rfl
theorem dX10_grid_6 : decode cX10_grid 6 = .ok (.ifCond .eq 11, 3) := dk_153 (x := 0) (y := 11) (by decide +kernel) rfl
theorem dX10_grid_9 : decode cX10_grid 9 = .ok (.aload_n 0, 1) := dk_42 (by decide +kernel)
theorem dX10_grid_10 : decode cX10_grid 10 = .ok (.iload_n 1, 1) := dk_27 (by decide +kernel)
theorem dX10_grid_11 : decode cX10_grid 11 = .ok (.invokevirtual 41, 3) := dk_182 (x := 0) (y := 41) (by decide +kernel) rfl
theorem dX10_grid_14 : decode cX10_grid 14 = .ok (.goto 4, 3) := dk_167 (x := 0) (y := 4) (by decide +kernel) rfl
theorem dX10_grid_17 : decode cX10_grid 17 = .ok (.iconst (-1), 1) := dk_2 (by decide +kernel)
theorem dX10_grid_18 : decode cX10_grid 18 = .ok (.ireturn, 1) := dk_172 (by decide +kernel)
def f_X10_grid (n : Nat) (o : Nat) (a1 : Int32) (M : Mem) : Option (Int32 × Mem) :=
  obd (f_X10_isIn a1 (2 : Int32) (4 : Int32) M) fun r2 =>
  if r2 = 0 then (
    some ((-1 : Int32), M)
    ) else (
    chk (isO M 10 o) <|
    obd2 (f_X10_makeGrid n o a1 M) fun r7 M8 =>
    some (r7, M8)
    )
theorem cd_X10_grid : (yX10_grid.cls ≠ "java/lang/invoke/MethodHandle" ∧ yX10_grid.cls ≠ "java/lang/invoke/VarHandle") ∧ (parseMethodDescriptor yX10_grid.desc).map (fun d => d.parameters.length) = some 1 := ⟨⟨by decide +kernel, by decide +kernel⟩, by decide +kernel⟩
theorem k_X10_grid (G : Gam) {n : Nat} {o : Nat} {a1 : Int32} {M : Mem} {rv : (Int32 × Mem)} (hf : f_X10_grid n o a1 M = some rv) : Kt yX10_grid cX10_grid 2 (some .int) 4 90 G [.ref (gB G + o), .int a1] M rv.2 (some (.int rv.1)) := by
  refine Kt.of (by decide) (Nat.le_of_ble_eq_true rfl) ?_
  intro p l e R s m args below meth c X hr hlk hnm
  refine s_drop [0, 1] (vs' := [(0, .ref (gB G + o)), (1, .int a1)]) rfl ?_
  rw [f_X10_grid] at hf
  refine s_iload_n X 1 dX10_grid_0 rfl rfl ?_
  refine s_iconst X (v := (2 : Int32)) dX10_grid_1 rfl ?_
  refine s_iconst X (v := (4 : Int32)) dX10_grid_2 rfl ?_
  obtain ⟨r2, hc1, hf⟩ := pk_obd hf
  refine s_callS X (k_X10_isIn G hc1) wd1520 wd1521 wd1522 wd138 cd_X10_isIn ⟨Nat.le_of_ble_eq_true rfl, Nat.le_of_ble_eq_true rfl⟩ (Nat.le_of_ble_eq_true rfl) dX10_grid_3 ?_
  have hs3 := pk_ite hf
  clear hf
  refine s_if_eq X (tgt := 17) dX10_grid_6 rfl (fun c4 => ?_) (fun c4 => ?_)
  · have hf := hs3.1 c4
    refine s_iconst X (v := (-1 : Int32)) dX10_grid_17 rfl ?_
    cases hf
    exact s_iret X hr hlk dX10_grid_18
  · have hf := hs3.2 c4
    refine s_aload_n X 0 dX10_grid_9 rfl rfl ?_
    refine s_iload_n X 1 dX10_grid_10 rfl rfl ?_
    obtain ⟨h5, hf⟩ := pk_chk hf
    obtain ⟨r7, M8, hc6, hf⟩ := pk_obd2 hf
    refine s_callV X (ci := 10) (k_X10_makeGrid G hc6) rfl h5 wd1421 wd1423 wd48 wd1424 wd138 cd_X10_makeGrid ⟨Nat.le_of_ble_eq_true rfl, Nat.le_of_ble_eq_true rfl⟩ (Nat.le_of_ble_eq_true rfl) dX10_grid_11 ?_
    refine s_goto X (tgt := 18) dX10_grid_14 rfl ?_
    cases hf
    exact s_iret X hr hlk dX10_grid_18
theorem dX7_makePlane_0 : decode cX7_makePlane 0 = .ok (.iload_n 1, 1) := dk_27 (by decide +kernel)
theorem dX7_makePlane_1 : decode cX7_makePlane 1 = .ok (.iload_n 1, 1) := dk_27 (by decide +kernel)
theorem dX7_makePlane_2 : decode cX7_makePlane 2 = .ok (.imul, 1) := dk_104 (by decide +kernel)
theorem dX7_makePlane_3 : decode cX7_makePlane 3 = .ok (.iload_n 1, 1) := dk_27 (by decide +kernel)
theorem dX7_makePlane_4 : decode cX7_makePlane 4 = .ok (.iadd, 1) := dk_96 (by decide +kernel)
theorem dX7_makePlane_5 : decode cX7_makePlane 5 = .ok (.iconst 1, 1) := dk_4 (by decide +kernel)
theorem dX7_makePlane_6 : decode cX7_makePlane 6 = .ok (.iadd, 1) := dk_96 (by decide +kernel)
theorem dX7_makePlane_7 : decode cX7_makePlane 7 = .ok (.istore_n 2, 1) := dk_61 (by decide +kernel)
theorem dX7_makePlane_8 : decode cX7_makePlane 8 = .ok (.aload_n 0, 1) := dk_42 (by decide +kernel)
theorem dX7_makePlane_9 : decode cX7_makePlane 9 = .ok (.iload_n 2, 1) := dk_28 (by decide +kernel)
theorem dX7_makePlane_10 : decode cX7_makePlane 10 = .ok (.invokevirtual 21, 3) := dk_182 (x := 0) (y := 21) (by decide +kernel) rfl
theorem dX7_makePlane_13 : decode cX7_makePlane 13 = .ok (.iconst 0, 1) := dk_3 (by decide +kernel)
theorem dX7_makePlane_14 : decode cX7_makePlane 14 = .ok (.istore_n 3, 1) := dk_62 (by decide +kernel)
theorem dX7_makePlane_15 : decode cX7_makePlane 15 = .ok (.iload_n 3, 1) := dk_29 (by decide +kernel)
theorem dX7_makePlane_16 : decode cX7_makePlane 16 = .ok (.iload_n 2, 1) := dk_28 (by decide +kernel)
theorem dX7_makePlane_17 : decode cX7_makePlane 17 = .ok (.if_icmp .ge 45, 3) := dk_162 (x := 0) (y := 45) (by decide +kernel) rfl
theorem dX7_makePlane_20 : decode cX7_makePlane 20 = .ok (.iconst 0, 1) := dk_3 (by decide +kernel)
theorem dX7_makePlane_21 : decode cX7_makePlane 21 = .ok (.istore 4, 2) := dk_54 (x := 4) (by decide +kernel)
theorem dX7_makePlane_23 : decode cX7_makePlane 23 = .ok (.iload 4, 2) := dk_21 (x := 4) (by decide +kernel)
theorem dX7_makePlane_25 : decode cX7_makePlane 25 = .ok (.iload_n 1, 1) := dk_27 (by decide +kernel)
theorem dX7_makePlane_26 : decode cX7_makePlane 26 = .ok (.if_icmp .gt 30, 3) := dk_163 (x := 0) (y := 30) (by decide +kernel) rfl
theorem dX7_makePlane_29 : decode cX7_makePlane 29 = .ok (.aload_n 0, 1) := dk_42 (by decide +kernel)
theorem dX7_makePlane_30 : decode cX7_makePlane 30 = .ok (.getfield 9, 3) := dk_180 (x := 0) (y := 9) (by decide +kernel) rfl
theorem dX7_makePlane_33 : decode cX7_makePlane 33 = .ok (.iload_n 3, 1) := dk_29 (by decide +kernel)
theorem dX7_makePlane_34 : decode cX7_makePlane 34 = .ok (.dup2, 1) := dk_92 (by decide +kernel)
theorem dX7_makePlane_35 : decode cX7_makePlane 35 = .ok (.iaload, 1) := dk_46 (by decide +kernel)
theorem dX7_makePlane_36 : decode cX7_makePlane 36 = .ok (.iconst 1, 1) := dk_4 (by decide +kernel)
theorem dX7_makePlane_37 : decode cX7_makePlane 37 = .ok (.iload_n 3, 1) := dk_29 (by decide +kernel)
theorem dX7_makePlane_38 : decode cX7_makePlane 38 = .ok (.getstatic 25, 3) := dk_178 (x := 0) (y := 25) (by decide +kernel) rfl
theorem dX7_makePlane_41 : decode cX7_makePlane 41 = .ok (.iload 4, 2) := dk_21 (x := 4) (by decide +kernel)
theorem dX7_makePlane_43 : decode cX7_makePlane 43 = .ok (.iaload, 1) := dk_46 (by decide +kernel)
theorem dX7_makePlane_44 : decode cX7_makePlane 44 = .ok (.iadd, 1) := dk_96 (by decide +kernel)
theorem dX7_makePlane_45 : decode cX7_makePlane 45 = .ok (.iload_n 2, 1) := dk_28 (by decide +kernel)
theorem dX7_makePlane_46 : decode cX7_makePlane 46 = .ok (.irem, 1) := dk_112 (by decide +kernel)
theorem dX7_makePlane_47 : decode cX7_makePlane 47 = .ok (.ishl, 1) := dk_120 (by decide +kernel)
theorem dX7_makePlane_48 : decode cX7_makePlane 48 = .ok (.ior, 1) := dk_128 (by decide +kernel)
theorem dX7_makePlane_49 : decode cX7_makePlane 49 = .ok (.iastore, 1) := dk_79 (by decide +kernel)
theorem dX7_makePlane_50 : decode cX7_makePlane 50 = .ok (.iinc 4 1, 3) := dk_132 (x := 4) (y := 1) (by decide +kernel) rfl
theorem dX7_makePlane_53 : decode cX7_makePlane 53 = .ok (.goto (-30), 3) := dk_167 (x := 255) (y := 226) (by decide +kernel) rfl
theorem dX7_makePlane_56 : decode cX7_makePlane 56 = .ok (.iinc 3 1, 3) := dk_132 (x := 3) (y := 1) (by decide +kernel) rfl
theorem dX7_makePlane_59 : decode cX7_makePlane 59 = .ok (.goto (-44), 3) := dk_167 (x := 255) (y := 212) (by decide +kernel) rfl
theorem dX7_makePlane_62 : decode cX7_makePlane 62 = .ok (.return_, 1) := dk_177 (by decide +kernel)
def f_X7_makePlane_23 (k_15 : Nat → Int32 → Int32 → Int32 → Mem → Option Mem) : Nat → Nat → Int32 → Int32 → Int32 → Int32 → Mem → Option Mem
  | 0, _, _, _, _, _, _ => none
  | n + 1, v0, v1, v2, v3, v4, M =>
    if v1 < v4 then (
      bnd (v3 + (1 : Int32)) fun x3 =>
      k_15 v0 v1 v2 x3 M
      ) else (
      chk (isO M 7 v0) <|
      bnd (mR M v0 0) fun o6 =>
      chk (isO M 100 o6) <|
      chk (inB v3 (mLn M o6)) <|
      chk (inB v4 4) <|
      chk (¬ v2 = 0) <|
      chk (inB v3 (mLn M o6)) <|
      bnd (sI M o6 (v3).toNatClampNeg ((mI M o6 (v3).toNatClampNeg) ||| ((1 : Int32) <<< (((v3 + (l_PS (v4).toNatClampNeg)) - (v3 + (l_PS (v4).toNatClampNeg)) / v2 * v2) &&& 31)))) fun M13 =>
      bnd (v4 + (1 : Int32)) fun x17 =>
      f_X7_makePlane_23 k_15 n v0 v1 v2 v3 x17 M13
      )
def f_X7_makePlane_15 : Nat → Nat → Int32 → Int32 → Int32 → Mem → Option Mem
  | 0, _, _, _, _, _ => none
  | n + 1, v0, v1, v2, v3, M =>
    if v2 ≤ v3 then (
      some M
      ) else (
      f_X7_makePlane_23 (f_X7_makePlane_15 n) n v0 v1 v2 v3 (0 : Int32) M
      )
def f_X7_makePlane (n : Nat) (o : Nat) (a1 : Int32) (M : Mem) : Option Mem :=
  bnd (((a1 * a1) + a1) + (1 : Int32)) fun x1 =>
  chk (isO M 7 o) <|
  obd (f_X7_begin n o x1 M) fun M5 =>
  f_X7_makePlane_15 n o a1 x1 (0 : Int32) M5
theorem cd_X7_makePlane : (yX7_makePlane.cls ≠ "java/lang/invoke/MethodHandle" ∧ yX7_makePlane.cls ≠ "java/lang/invoke/VarHandle") ∧ (parseMethodDescriptor yX7_makePlane.desc).map (fun d => d.parameters.length) = some 1 := ⟨⟨by decide +kernel, by decide +kernel⟩, by decide +kernel⟩
section
variable {p : Program} {l : Launch} {e : Env} {R : Room} {s : State} {m : MethodId} {args : Array Value} {below : List Frame} {meth : Method} {c : Code} {G : Gam} {M0 : Mem}
theorem l_X7_makePlane_23 {k_15 : Nat → Int32 → Int32 → Int32 → Mem → Option Mem} {rv : Mem} (X : Cx p R s m args c G M0 cX7_makePlane yX7_makePlane.cls 5 2 44) (hr : meth.sig.returnType = none) (hlk : meth.locks = false) (hnm : meth.name = "makePlane") (hk_15 : ∀ (v0 : Nat), ∀ (v1 : Int32), ∀ (v2 : Int32), ∀ (v3 : Int32), ∀ M : Mem, k_15 v0 v1 v2 v3 M = some rv → Sg p l e R s m args below meth c (Qm below G args s none M0 rv) G M0 5 15 [(0, .ref (gB G + v0)), (1, .int v1), (2, .int v2), (3, .int v3)] [] M) : ∀ {n : Nat} (v0 : Nat) (v1 : Int32) (v2 : Int32) (v3 : Int32) (v4 : Int32) (M : Mem), f_X7_makePlane_23 k_15 n v0 v1 v2 v3 v4 M = some rv → Sg p l e R s m args below meth c (Qm below G args s none M0 rv) G M0 5 23 [(0, .ref (gB G + v0)), (1, .int v1), (2, .int v2), (3, .int v3), (4, .int v4)] [] M := by
  intro n
  induction n with
  | zero => intro v0 v1 v2 v3 v4 M hf; exact (pk_none hf).elim
  | succ n ih =>
    intro v0 v1 v2 v3 v4 M hf
    rw [f_X7_makePlane_23] at hf
    refine s_iload X 4 dX7_makePlane_23 rfl ?_
    refine s_iload_n X 1 dX7_makePlane_25 rfl rfl ?_
    have hs1 := pk_ite hf
    clear hf
    refine s_icmp_gt X (tgt := 56) dX7_makePlane_26 rfl (fun c2 => ?_) (fun c2 => ?_)
    · have hf := hs1.1 c2
      obtain ⟨x3, e4, hf⟩ := pk_bnd hf
      refine s_iinc X (vs' := [(0, .ref (gB G + v0)), (1, .int v1), (2, .int v2), (3, .int x3), (4, .int v4)]) 3 dX7_makePlane_56 rfl (v := x3) e4.symm (Nat.le_of_ble_eq_true rfl) [1, 2, 3, 0, 4] rfl ?_
      refine s_goto X (tgt := 15) dX7_makePlane_59 rfl ?_
      refine s_drop [0, 1, 2, 3] (vs' := [(0, .ref (gB G + v0)), (1, .int v1), (2, .int v2), (3, .int x3)]) rfl ?_
      exact hk_15 _ _ _ _ _ hf
    · have hf := hs1.2 c2
      refine s_aload_n X 0 dX7_makePlane_29 rfl rfl ?_
      obtain ⟨h5, hf⟩ := pk_chk hf
      obtain ⟨o6, e7, hf⟩ := pk_bnd hf
      obtain ⟨h8, hf⟩ := pk_chk hf
      refine s_getR X (ci := 7) (k := 0) rfl (Nat.le_of_ble_eq_true rfl) h5 wd159 (fun _ _ _ => rfl) (e7 ▸ h8) dX7_makePlane_30 (e7 ▸ ?_)
      refine s_iload_n X 3 dX7_makePlane_33 rfl rfl ?_
      refine s_dup2 X dX7_makePlane_34 rfl rfl ?_
      obtain ⟨h9, hf⟩ := pk_chk hf
      refine s_iald X h8 h9 dX7_makePlane_35 ?_
      refine s_iconst X (v := (1 : Int32)) dX7_makePlane_36 rfl ?_
      refine s_iload_n X 3 dX7_makePlane_37 rfl rfl ?_
      refine s_gets X (X.2.2.2.2.2.2.1.2.2.1.1) wd658 dX7_makePlane_38 ?_
      refine s_iload X 4 dX7_makePlane_41 rfl ?_
      obtain ⟨h10, hf⟩ := pk_chk hf
      refine s_sti X (X.2.2.2.2.2.2.1.2.2.1.2) h10 dX7_makePlane_43 ?_
      refine s_iadd X dX7_makePlane_44 ?_
      refine s_iload_n X 2 dX7_makePlane_45 rfl rfl ?_
      obtain ⟨h11, hf⟩ := pk_chk hf
      refine s_irem X dX7_makePlane_46 h11 ?_
      refine s_ishl X dX7_makePlane_47 ?_
      refine s_ior X dX7_makePlane_48 ?_
      obtain ⟨h12, hf⟩ := pk_chk hf
      obtain ⟨M13, e14, hf⟩ := pk_bnd hf
      refine s_iast X h8 h12 e14 dX7_makePlane_49 ?_
      have h15 := io_sI e14 h5
      have h16 := io_sI e14 h8
      obtain ⟨x17, e18, hf⟩ := pk_bnd hf
      refine s_iinc X (vs' := [(0, .ref (gB G + v0)), (1, .int v1), (2, .int v2), (3, .int v3), (4, .int x17)]) 4 dX7_makePlane_50 rfl (v := x17) e18.symm (Nat.le_of_ble_eq_true rfl) [1, 2, 3, 4, 0] rfl ?_
      refine s_goto X (tgt := 23) dX7_makePlane_53 rfl ?_
      exact ih _ _ _ _ _ _ hf
theorem l_X7_makePlane_15 {rv : Mem} (X : Cx p R s m args c G M0 cX7_makePlane yX7_makePlane.cls 5 2 44) (hr : meth.sig.returnType = none) (hlk : meth.locks = false) (hnm : meth.name = "makePlane") : ∀ {n : Nat} (v0 : Nat) (v1 : Int32) (v2 : Int32) (v3 : Int32) (M : Mem), f_X7_makePlane_15 n v0 v1 v2 v3 M = some rv → Sg p l e R s m args below meth c (Qm below G args s none M0 rv) G M0 5 15 [(0, .ref (gB G + v0)), (1, .int v1), (2, .int v2), (3, .int v3)] [] M := by
  intro n
  induction n with
  | zero => intro v0 v1 v2 v3 M hf; exact (pk_none hf).elim
  | succ n ih =>
    intro v0 v1 v2 v3 M hf
    rw [f_X7_makePlane_15] at hf
    refine s_iload_n X 3 dX7_makePlane_15 rfl rfl ?_
    refine s_iload_n X 2 dX7_makePlane_16 rfl rfl ?_
    have hs1 := pk_ite hf
    clear hf
    refine s_icmp_ge X (tgt := 62) dX7_makePlane_17 rfl (fun c2 => ?_) (fun c2 => ?_)
    · have hf := hs1.1 c2
      cases hf
      exact s_vret X hr hlk dX7_makePlane_62
    · have hf := hs1.2 c2
      refine s_iconst X (v := (0 : Int32)) dX7_makePlane_20 rfl ?_
      refine s_istore X (vs' := [(0, .ref (gB G + v0)), (1, .int v1), (2, .int v2), (3, .int v3), (4, .int (0 : Int32))]) dX7_makePlane_21 (Nat.le_of_ble_eq_true rfl) [1, 2, 3, 4, 0] rfl ?_
      exact l_X7_makePlane_23 X hr hlk hnm ih _ _ _ _ _ _ hf
end
theorem k_X7_makePlane (G : Gam) {n : Nat} {o : Nat} {a1 : Int32} {M : Mem} {rv : Mem} (hf : f_X7_makePlane n o a1 M = some rv) : Kt yX7_makePlane cX7_makePlane 5 none 2 44 G [.ref (gB G + o), .int a1] M rv none := by
  refine Kt.of (by decide) (Nat.le_of_ble_eq_true rfl) ?_
  intro p l e R s m args below meth c X hr hlk hnm
  refine s_drop [0, 1] (vs' := [(0, .ref (gB G + o)), (1, .int a1)]) rfl ?_
  rw [f_X7_makePlane] at hf
  refine s_iload_n X 1 dX7_makePlane_0 rfl rfl ?_
  refine s_iload_n X 1 dX7_makePlane_1 rfl rfl ?_
  refine s_imul X dX7_makePlane_2 ?_
  refine s_iload_n X 1 dX7_makePlane_3 rfl rfl ?_
  refine s_iadd X dX7_makePlane_4 ?_
  refine s_iconst X (v := (1 : Int32)) dX7_makePlane_5 rfl ?_
  refine s_iadd X dX7_makePlane_6 ?_
  obtain ⟨x1, e2, hf⟩ := pk_bnd hf
  refine s_nmI e2 ?_
  refine s_istore_n X (vs' := [(0, .ref (gB G + o)), (1, .int a1), (2, .int x1)]) dX7_makePlane_7 rfl (Nat.le_of_ble_eq_true rfl) [1, 2, 0] rfl ?_
  refine s_aload_n X 0 dX7_makePlane_8 rfl rfl ?_
  refine s_iload_n X 2 dX7_makePlane_9 rfl rfl ?_
  obtain ⟨h3, hf⟩ := pk_chk hf
  obtain ⟨M5, hc4, hf⟩ := pk_obd hf
  refine s_callV X (ci := 7) (k_X7_begin G hc4) rfl h3 wd575 wd577 wd0 wd578 wd127 cd_X7_begin ⟨Nat.le_of_ble_eq_true rfl, Nat.le_of_ble_eq_true rfl⟩ (Nat.le_of_ble_eq_true rfl) dX7_makePlane_10 ?_
  refine s_iconst X (v := (0 : Int32)) dX7_makePlane_13 rfl ?_
  refine s_istore_n X (vs' := [(0, .ref (gB G + o)), (1, .int a1), (2, .int x1), (3, .int (0 : Int32))]) dX7_makePlane_14 rfl (Nat.le_of_ble_eq_true rfl) [1, 2, 3, 0] rfl ?_
  exact l_X7_makePlane_15 X hr hlk hnm _ _ _ _ _ hf
theorem dX9_plane_0 : decode cX9_plane 0 = .ok (.iload_n 1, 1) := dk_27 (by decide +kernel)
theorem dX9_plane_1 : decode cX9_plane 1 = .ok (.iconst 2, 1) := dk_5 (by decide +kernel)
theorem dX9_plane_2 : decode cX9_plane 2 = .ok (.if_icmp .lt 8, 3) := dk_161 (x := 0) (y := 8) (by decide +kernel) rfl
theorem dX9_plane_5 : decode cX9_plane 5 = .ok (.iload_n 1, 1) := dk_27 (by decide +kernel)
theorem dX9_plane_6 : decode cX9_plane 6 = .ok (.iconst 3, 1) := dk_6 (by decide +kernel)
theorem dX9_plane_7 : decode cX9_plane 7 = .ok (.if_icmp .le 5, 3) := dk_164 (x := 0) (y := 5) (by decide +kernel) rfl
theorem dX9_plane_10 : decode cX9_plane 10 = .ok (.iconst (-1), 1) := dk_2 (by decide +kernel)
theorem dX9_plane_11 : decode cX9_plane 11 = .ok (.ireturn, 1) := dk_172 (by decide +kernel)
theorem dX9_plane_12 : decode cX9_plane 12 = .ok (.aload_n 0, 1) := dk_42 (by decide +kernel)
theorem dX9_plane_13 : decode cX9_plane 13 = .ok (.getfield 10, 3) := dk_180 (x := 0) (y := 10) (by decide +kernel) rfl
theorem dX9_plane_16 : decode cX9_plane 16 = .ok (.iload_n 1, 1) := dk_27 (by decide +kernel)
theorem dX9_plane_17 : decode cX9_plane 17 = .ok (.invokevirtual 59, 3) := dk_182 (x := 0) (y := 59) (by decide +kernel) rfl
theorem dX9_plane_20 : decode cX9_plane 20 = .ok (.aload_n 0, 1) := dk_42 (by decide +kernel)
theorem dX9_plane_21 : decode cX9_plane 21 = .ok (.invokevirtual 55, 3) := dk_182 (x := 0) (y := 55) (by decide +kernel) rfl
theorem dX9_plane_24 : decode cX9_plane 24 = .ok (.ireturn, 1) := dk_172 (by decide +kernel)
def f_X9_plane (n : Nat) (o : Nat) (a1 : Int32) (M : Mem) : Option (Int32 × Mem) :=
  if a1 < (2 : Int32) then (
    some ((-1 : Int32), M)
    ) else (
    if a1 ≤ (3 : Int32) then (
      chk (isO M 9 o) <|
      bnd (mR M o 0) fun o6 =>
      chk (isO M 7 o6) <|
      obd (f_X7_makePlane n o6 a1 M) fun M10 =>
      chk (isO M10 9 o) <|
      obd2 (f_X9_startAnew n o M10) fun r13 M14 =>
      some (r13, M14)
      ) else (
      some ((-1 : Int32), M)
      )
    )
theorem cd_X9_plane : (yX9_plane.cls ≠ "java/lang/invoke/MethodHandle" ∧ yX9_plane.cls ≠ "java/lang/invoke/VarHandle") ∧ (parseMethodDescriptor yX9_plane.desc).map (fun d => d.parameters.length) = some 1 := ⟨⟨by decide +kernel, by decide +kernel⟩, by decide +kernel⟩
theorem k_X9_plane (G : Gam) {n : Nat} {o : Nat} {a1 : Int32} {M : Mem} {rv : (Int32 × Mem)} (hf : f_X9_plane n o a1 M = some rv) : Kt yX9_plane cX9_plane 2 (some .int) 5 104 G [.ref (gB G + o), .int a1] M rv.2 (some (.int rv.1)) := by
  refine Kt.of (by decide) (Nat.le_of_ble_eq_true rfl) ?_
  intro p l e R s m args below meth c X hr hlk hnm
  refine s_drop [0, 1] (vs' := [(0, .ref (gB G + o)), (1, .int a1)]) rfl ?_
  rw [f_X9_plane] at hf
  refine s_iload_n X 1 dX9_plane_0 rfl rfl ?_
  refine s_iconst X (v := (2 : Int32)) dX9_plane_1 rfl ?_
  have hs1 := pk_ite hf
  clear hf
  refine s_icmp_lt X (tgt := 10) dX9_plane_2 rfl (fun c2 => ?_) (fun c2 => ?_)
  · have hf := hs1.1 c2
    refine s_iconst X (v := (-1 : Int32)) dX9_plane_10 rfl ?_
    cases hf
    exact s_iret X hr hlk dX9_plane_11
  · have hf := hs1.2 c2
    refine s_iload_n X 1 dX9_plane_5 rfl rfl ?_
    refine s_iconst X (v := (3 : Int32)) dX9_plane_6 rfl ?_
    have hs3 := pk_ite hf
    clear hf
    refine s_icmp_le X (tgt := 12) dX9_plane_7 rfl (fun c4 => ?_) (fun c4 => ?_)
    · have hf := hs3.1 c4
      refine s_aload_n X 0 dX9_plane_12 rfl rfl ?_
      obtain ⟨h5, hf⟩ := pk_chk hf
      obtain ⟨o6, e7, hf⟩ := pk_bnd hf
      obtain ⟨h8, hf⟩ := pk_chk hf
      refine s_getR X (ci := 9) (k := 0) rfl (Nat.le_of_ble_eq_true rfl) h5 wd627 (fun _ _ _ => rfl) (e7 ▸ h8) dX9_plane_13 (e7 ▸ ?_)
      refine s_iload_n X 1 dX9_plane_16 rfl rfl ?_
      obtain ⟨M10, hc9, hf⟩ := pk_obd hf
      refine s_callV X (ci := 7) (k_X7_makePlane G hc9) rfl h8 wd654 wd655 wd656 wd657 wd127 cd_X7_makePlane ⟨Nat.le_of_ble_eq_true rfl, Nat.le_of_ble_eq_true rfl⟩ (Nat.le_of_ble_eq_true rfl) dX9_plane_17 ?_
      refine s_aload_n X 0 dX9_plane_20 rfl rfl ?_
      obtain ⟨h11, hf⟩ := pk_chk hf
      obtain ⟨r13, M14, hc12, hf⟩ := pk_obd2 hf
      refine s_callV X (ci := 9) (k_X9_startAnew G hc12) rfl h11 wd582 wd584 wd1 wd585 wd126 cd_X9_startAnew ⟨Nat.le_of_ble_eq_true rfl, Nat.le_of_ble_eq_true rfl⟩ (Nat.le_of_ble_eq_true rfl) dX9_plane_21 ?_
      cases hf
      exact s_iret X hr hlk dX9_plane_24
    · have hf := hs3.2 c4
      refine s_iconst X (v := (-1 : Int32)) dX9_plane_10 rfl ?_
      cases hf
      exact s_iret X hr hlk dX9_plane_11
theorem dX10_plane_0 : decode cX10_plane 0 = .ok (.iload_n 1, 1) := dk_27 (by decide +kernel)
theorem dX10_plane_1 : decode cX10_plane 1 = .ok (.iconst 2, 1) := dk_5 (by decide +kernel)
theorem dX10_plane_2 : decode cX10_plane 2 = .ok (.iconst 3, 1) := dk_6 (by decide +kernel)
theorem dX10_plane_3 : decode cX10_plane 3 = .ok (.invokestatic 49, 3) := dk_184 (x := 0) (y := 49) (by decide +kernel) rfl
theorem dX10_plane_6 : decode cX10_plane 6 = .ok (.ifCond .ne 5, 3) := dk_154 (x := 0) (y := 5) (by decide +kernel) rfl
theorem dX10_plane_9 : decode cX10_plane 9 = .ok (.iconst (-1), 1) := dk_2 (by decide +kernel)
theorem dX10_plane_10 : decode cX10_plane 10 = .ok (.ireturn, 1) := dk_172 (by decide +kernel)
theorem dX10_plane_11 : decode cX10_plane 11 = .ok (.iload_n 1, 1) := dk_27 (by decide +kernel)
theorem dX10_plane_12 : decode cX10_plane 12 = .ok (.iconst 2, 1) := dk_5 (by decide +kernel)
theorem dX10_plane_13 : decode cX10_plane 13 = .ok (.if_icmp .ne 8, 3) := dk_160 (x := 0) (y := 8) (by decide +kernel) rfl
theorem dX10_plane_16 : decode cX10_plane 16 = .ok (.bipush 7, 2) := dk_16 (x := 7) (by decide +kernel) rfl
theorem dX10_plane_18 : decode cX10_plane 18 = .ok (.goto 5, 3) := dk_167 (x := 0) (y := 5) (by decide +kernel) rfl
theorem dX10_plane_21 : decode cX10_plane 21 = .ok (.bipush 13, 2) := dk_16 (x := 13) (by decide +kernel) rfl
theorem dX10_plane_23 : decode cX10_plane 23 = .ok (.istore_n 2, 1) := dk_61 (by decide +kernel)
theorem dX10_plane_24 : decode cX10_plane 24 = .ok (.aload_n 0, 1) := dk_42 (by decide +kernel)
theorem dX10_plane_25 : decode cX10_plane 25 = .ok (.iload_n 2, 1) := dk_28 (by decide +kernel)
theorem dX10_plane_26 : decode cX10_plane 26 = .ok (.iconst 0, 1) := dk_3 (by decide +kernel)
theorem dX10_plane_27 : decode cX10_plane 27 = .ok (.invokevirtual 60, 3) := dk_182 (x := 0) (y := 60) (by decide +kernel) rfl
theorem dX10_plane_30 : decode cX10_plane 30 = .ok (.iconst 0, 1) := dk_3 (by decide +kernel)
theorem dX10_plane_31 : decode cX10_plane 31 = .ok (.istore_n 3, 1) := dk_62 (by decide +kernel)
theorem dX10_plane_32 : decode cX10_plane 32 = .ok (.iload_n 3, 1) := dk_29 (by decide +kernel)
theorem dX10_plane_33 : decode cX10_plane 33 = .ok (.iload_n 2, 1) := dk_28 (by decide +kernel)
theorem dX10_plane_34 : decode cX10_plane 34 = .ok (.if_icmp .ge 54, 3) := dk_162 (x := 0) (y := 54) (by decide +kernel) rfl
theorem dX10_plane_37 : decode cX10_plane 37 = .ok (.aload_n 0, 1) := dk_42 (by decide +kernel)
theorem dX10_plane_38 : decode cX10_plane 38 = .ok (.getfield 7, 3) := dk_180 (x := 0) (y := 7) (by decide +kernel) rfl
theorem dX10_plane_41 : decode cX10_plane 41 = .ok (.iconst 2, 1) := dk_5 (by decide +kernel)
theorem dX10_plane_42 : decode cX10_plane 42 = .ok (.iload_n 3, 1) := dk_29 (by decide +kernel)
theorem dX10_plane_43 : decode cX10_plane 43 = .ok (.iadd, 1) := dk_96 (by decide +kernel)
theorem dX10_plane_44 : decode cX10_plane 44 = .ok (.iconst 1, 1) := dk_4 (by decide +kernel)
theorem dX10_plane_45 : decode cX10_plane 45 = .ok (.iload_n 3, 1) := dk_29 (by decide +kernel)
theorem dX10_plane_46 : decode cX10_plane 46 = .ok (.ishl, 1) := dk_120 (by decide +kernel)
theorem dX10_plane_47 : decode cX10_plane 47 = .ok (.iconst 1, 1) := dk_4 (by decide +kernel)
theorem dX10_plane_48 : decode cX10_plane 48 = .ok (.iload_n 3, 1) := dk_29 (by decide +kernel)
theorem dX10_plane_49 : decode cX10_plane 49 = .ok (.iconst 1, 1) := dk_4 (by decide +kernel)
theorem dX10_plane_50 : decode cX10_plane 50 = .ok (.iadd, 1) := dk_96 (by decide +kernel)
theorem dX10_plane_51 : decode cX10_plane 51 = .ok (.iload_n 2, 1) := dk_28 (by decide +kernel)
theorem dX10_plane_52 : decode cX10_plane 52 = .ok (.irem, 1) := dk_112 (by decide +kernel)
theorem dX10_plane_53 : decode cX10_plane 53 = .ok (.ishl, 1) := dk_120 (by decide +kernel)
theorem dX10_plane_54 : decode cX10_plane 54 = .ok (.ior, 1) := dk_128 (by decide +kernel)
theorem dX10_plane_55 : decode cX10_plane 55 = .ok (.iconst 1, 1) := dk_4 (by decide +kernel)
theorem dX10_plane_56 : decode cX10_plane 56 = .ok (.iload_n 3, 1) := dk_29 (by decide +kernel)
theorem dX10_plane_57 : decode cX10_plane 57 = .ok (.iconst 3, 1) := dk_6 (by decide +kernel)
theorem dX10_plane_58 : decode cX10_plane 58 = .ok (.iadd, 1) := dk_96 (by decide +kernel)
theorem dX10_plane_59 : decode cX10_plane 59 = .ok (.iload_n 2, 1) := dk_28 (by decide +kernel)
theorem dX10_plane_60 : decode cX10_plane 60 = .ok (.irem, 1) := dk_112 (by decide +kernel)
theorem dX10_plane_61 : decode cX10_plane 61 = .ok (.ishl, 1) := dk_120 (by decide +kernel)
theorem dX10_plane_62 : decode cX10_plane 62 = .ok (.ior, 1) := dk_128 (by decide +kernel)
theorem dX10_plane_63 : decode cX10_plane 63 = .ok (.iload_n 1, 1) := dk_27 (by decide +kernel)
theorem dX10_plane_64 : decode cX10_plane 64 = .ok (.iconst 3, 1) := dk_6 (by decide +kernel)
theorem dX10_plane_65 : decode cX10_plane 65 = .ok (.if_icmp .ne 14, 3) := dk_160 (x := 0) (y := 14) (by decide +kernel) rfl
theorem dX10_plane_68 : decode cX10_plane 68 = .ok (.iconst 1, 1) := dk_4 (by decide +kernel)
theorem dX10_plane_69 : decode cX10_plane 69 = .ok (.iload_n 3, 1) := dk_29 (by decide +kernel)
theorem dX10_plane_70 : decode cX10_plane 70 = .ok (.bipush 9, 2) := dk_16 (x := 9) (by decide +kernel) rfl
theorem dX10_plane_72 : decode cX10_plane 72 = .ok (.iadd, 1) := dk_96 (by decide +kernel)
theorem dX10_plane_73 : decode cX10_plane 73 = .ok (.iload_n 2, 1) := dk_28 (by decide +kernel)
theorem dX10_plane_74 : decode cX10_plane 74 = .ok (.irem, 1) := dk_112 (by decide +kernel)
theorem dX10_plane_75 : decode cX10_plane 75 = .ok (.ishl, 1) := dk_120 (by decide +kernel)
theorem dX10_plane_76 : decode cX10_plane 76 = .ok (.goto 4, 3) := dk_167 (x := 0) (y := 4) (by decide +kernel) rfl
theorem dX10_plane_79 : decode cX10_plane 79 = .ok (.iconst 0, 1) := dk_3 (by decide +kernel)
theorem dX10_plane_80 : decode cX10_plane 80 = .ok (.ior, 1) := dk_128 (by decide +kernel)
theorem dX10_plane_81 : decode cX10_plane 81 = .ok (.iastore, 1) := dk_79 (by decide +kernel)
theorem dX10_plane_82 : decode cX10_plane 82 = .ok (.iinc 3 1, 3) := dk_132 (x := 3) (y := 1) (by decide +kernel) rfl
theorem dX10_plane_85 : decode cX10_plane 85 = .ok (.goto (-53), 3) := dk_167 (x := 255) (y := 203) (by decide +kernel) rfl
theorem dX10_plane_88 : decode cX10_plane 88 = .ok (.iload_n 2, 1) := dk_28 (by decide +kernel)
theorem dX10_plane_89 : decode cX10_plane 89 = .ok (.ireturn, 1) := dk_172 (by decide +kernel)
def f_X10_plane_32 : Nat → Nat → Int32 → Int32 → Int32 → Mem → Option (Int32 × Mem)
  | 0, _, _, _, _, _ => none
  | n + 1, v0, v1, v2, v3, M =>
    if v2 ≤ v3 then (
      some (v2, M)
      ) else (
      chk (isO M 10 v0) <|
      bnd (mR M v0 0) fun o4 =>
      chk (isO M 100 o4) <|
      chk (¬ v2 = 0) <|
      chk (¬ v2 = 0) <|
      if v1 = (3 : Int32) then (
        chk (¬ v2 = 0) <|
        chk (inB ((2 : Int32) + v3) (mLn M o4)) <|
        bnd (sI M o4 (((2 : Int32) + v3)).toNatClampNeg (((((1 : Int32) <<< (v3 &&& 31)) ||| ((1 : Int32) <<< (((v3 + (1 : Int32)) - (v3 + (1 : Int32)) / v2 * v2) &&& 31))) ||| ((1 : Int32) <<< (((v3 + (3 : Int32)) - (v3 + (3 : Int32)) / v2 * v2) &&& 31))) ||| ((1 : Int32) <<< (((v3 + (9 : Int32)) - (v3 + (9 : Int32)) / v2 * v2) &&& 31)))) fun M20 =>
        bnd (v3 + (1 : Int32)) fun x24 =>
        f_X10_plane_32 n v0 v1 v2 x24 M20
        ) else (
        chk (inB ((2 : Int32) + v3) (mLn M o4)) <|
        bnd (sI M o4 (((2 : Int32) + v3)).toNatClampNeg (((((1 : Int32) <<< (v3 &&& 31)) ||| ((1 : Int32) <<< (((v3 + (1 : Int32)) - (v3 + (1 : Int32)) / v2 * v2) &&& 31))) ||| ((1 : Int32) <<< (((v3 + (3 : Int32)) - (v3 + (3 : Int32)) / v2 * v2) &&& 31))) ||| (0 : Int32))) fun M12 =>
        bnd (v3 + (1 : Int32)) fun x16 =>
        f_X10_plane_32 n v0 v1 v2 x16 M12
        )
      )
def f_X10_plane_23 (n : Nat) (v0 : Nat) (v1 : Int32) (u0 : Int32) (M : Mem) : Option (Int32 × Mem) :=
    chk (isO M 10 v0) <|
    obd (f_X10_begin n v0 u0 (0 : Int32) M) fun M3 =>
    f_X10_plane_32 n v0 v1 u0 (0 : Int32) M3
def f_X10_plane (n : Nat) (o : Nat) (a1 : Int32) (M : Mem) : Option (Int32 × Mem) :=
  obd (f_X10_isIn a1 (2 : Int32) (3 : Int32) M) fun r2 =>
  if r2 = 0 then (
    some ((-1 : Int32), M)
    ) else (
    if a1 = (2 : Int32) then (
      f_X10_plane_23 n o a1 (7 : Int32) M
      ) else (
      f_X10_plane_23 n o a1 (13 : Int32) M
      )
    )
theorem cd_X10_plane : (yX10_plane.cls ≠ "java/lang/invoke/MethodHandle" ∧ yX10_plane.cls ≠ "java/lang/invoke/VarHandle") ∧ (parseMethodDescriptor yX10_plane.desc).map (fun d => d.parameters.length) = some 1 := ⟨⟨by decide +kernel, by decide +kernel⟩, by decide +kernel⟩
section
variable {p : Program} {l : Launch} {e : Env} {R : Room} {s : State} {m : MethodId} {args : Array Value} {below : List Frame} {meth : Method} {c : Code} {G : Gam} {M0 : Mem}
theorem l_X10_plane_32 {rv : (Int32 × Mem)} (X : Cx p R s m args c G M0 cX10_plane yX10_plane.cls 4 2 46) (hr : meth.sig.returnType = (some .int)) (hlk : meth.locks = false) (hnm : meth.name = "plane") : ∀ {n : Nat} (v0 : Nat) (v1 : Int32) (v2 : Int32) (v3 : Int32) (M : Mem), f_X10_plane_32 n v0 v1 v2 v3 M = some rv → Sg p l e R s m args below meth c (Qm below G args s (some (.int rv.1)) M0 rv.2) G M0 4 32 [(0, .ref (gB G + v0)), (1, .int v1), (2, .int v2), (3, .int v3)] [] M := by
  intro n
  induction n with
  | zero => intro v0 v1 v2 v3 M hf; exact (pk_none hf).elim
  | succ n ih =>
    intro v0 v1 v2 v3 M hf
    rw [f_X10_plane_32] at hf
    refine s_iload_n X 3 dX10_plane_32 rfl rfl ?_
    refine s_iload_n X 2 dX10_plane_33 rfl rfl ?_
    have hs1 := pk_ite hf
    clear hf
    refine s_icmp_ge X (tgt := 88) dX10_plane_34 rfl (fun c2 => ?_) (fun c2 => ?_)
    · have hf := hs1.1 c2
      refine s_iload_n X 2 dX10_plane_88 rfl rfl ?_
      cases hf
      exact s_iret X hr hlk dX10_plane_89
    · have hf := hs1.2 c2
      refine s_aload_n X 0 dX10_plane_37 rfl rfl ?_
      obtain ⟨h3, hf⟩ := pk_chk hf
      obtain ⟨o4, e5, hf⟩ := pk_bnd hf
      obtain ⟨h6, hf⟩ := pk_chk hf
      refine s_getR X (ci := 10) (k := 0) rfl (Nat.le_of_ble_eq_true rfl) h3 wd1440 (fun _ _ _ => rfl) (e5 ▸ h6) dX10_plane_38 (e5 ▸ ?_)
      refine s_iconst X (v := (2 : Int32)) dX10_plane_41 rfl ?_
      refine s_iload_n X 3 dX10_plane_42 rfl rfl ?_
      refine s_iadd X dX10_plane_43 ?_
      refine s_iconst X (v := (1 : Int32)) dX10_plane_44 rfl ?_
      refine s_iload_n X 3 dX10_plane_45 rfl rfl ?_
      refine s_ishl X dX10_plane_46 ?_
      refine s_iconst X (v := (1 : Int32)) dX10_plane_47 rfl ?_
      refine s_iload_n X 3 dX10_plane_48 rfl rfl ?_
      refine s_iconst X (v := (1 : Int32)) dX10_plane_49 rfl ?_
      refine s_iadd X dX10_plane_50 ?_
      refine s_iload_n X 2 dX10_plane_51 rfl rfl ?_
      obtain ⟨h7, hf⟩ := pk_chk hf
      refine s_irem X dX10_plane_52 h7 ?_
      refine s_ishl X dX10_plane_53 ?_
      refine s_ior X dX10_plane_54 ?_
      refine s_iconst X (v := (1 : Int32)) dX10_plane_55 rfl ?_
      refine s_iload_n X 3 dX10_plane_56 rfl rfl ?_
      refine s_iconst X (v := (3 : Int32)) dX10_plane_57 rfl ?_
      refine s_iadd X dX10_plane_58 ?_
      refine s_iload_n X 2 dX10_plane_59 rfl rfl ?_
      obtain ⟨h8, hf⟩ := pk_chk hf
      refine s_irem X dX10_plane_60 h8 ?_
      refine s_ishl X dX10_plane_61 ?_
      refine s_ior X dX10_plane_62 ?_
      refine s_iload_n X 1 dX10_plane_63 rfl rfl ?_
      refine s_iconst X (v := (3 : Int32)) dX10_plane_64 rfl ?_
      have hs9 := pk_ite hf
      clear hf
      refine s_icmp_ne X (tgt := 79) dX10_plane_65 rfl (fun c10 => ?_) (fun c10 => ?_)
      · have hf := hs9.2 c10
        refine s_iconst X (v := (0 : Int32)) dX10_plane_79 rfl ?_
        refine s_ior X dX10_plane_80 ?_
        obtain ⟨h11, hf⟩ := pk_chk hf
        obtain ⟨M12, e13, hf⟩ := pk_bnd hf
        refine s_iast X h6 h11 e13 dX10_plane_81 ?_
        have h14 := io_sI e13 h3
        have h15 := io_sI e13 h6
        obtain ⟨x16, e17, hf⟩ := pk_bnd hf
        refine s_iinc X (vs' := [(0, .ref (gB G + v0)), (1, .int v1), (2, .int v2), (3, .int x16)]) 3 dX10_plane_82 rfl (v := x16) e17.symm (Nat.le_of_ble_eq_true rfl) [1, 2, 3, 0] rfl ?_
        refine s_goto X (tgt := 32) dX10_plane_85 rfl ?_
        exact ih _ _ _ _ _ hf
      · have hf := hs9.1 c10
        refine s_iconst X (v := (1 : Int32)) dX10_plane_68 rfl ?_
        refine s_iload_n X 3 dX10_plane_69 rfl rfl ?_
        refine s_bipush X (v := (9 : Int32)) dX10_plane_70 rfl ?_
        refine s_iadd X dX10_plane_72 ?_
        refine s_iload_n X 2 dX10_plane_73 rfl rfl ?_
        obtain ⟨h18, hf⟩ := pk_chk hf
        refine s_irem X dX10_plane_74 h18 ?_
        refine s_ishl X dX10_plane_75 ?_
        refine s_goto X (tgt := 80) dX10_plane_76 rfl ?_
        refine s_ior X dX10_plane_80 ?_
        obtain ⟨h19, hf⟩ := pk_chk hf
        obtain ⟨M20, e21, hf⟩ := pk_bnd hf
        refine s_iast X h6 h19 e21 dX10_plane_81 ?_
        have h22 := io_sI e21 h3
        have h23 := io_sI e21 h6
        obtain ⟨x24, e25, hf⟩ := pk_bnd hf
        refine s_iinc X (vs' := [(0, .ref (gB G + v0)), (1, .int v1), (2, .int v2), (3, .int x24)]) 3 dX10_plane_82 rfl (v := x24) e25.symm (Nat.le_of_ble_eq_true rfl) [1, 2, 3, 0] rfl ?_
        refine s_goto X (tgt := 32) dX10_plane_85 rfl ?_
        exact ih _ _ _ _ _ hf
theorem l_X10_plane_23 {rv : (Int32 × Mem)} {n : Nat} {v0 : Nat} {v1 : Int32} {u0 : Int32} {M : Mem} (X : Cx p R s m args c G M0 cX10_plane yX10_plane.cls 4 2 46) (hr : meth.sig.returnType = (some .int)) (hlk : meth.locks = false) (hnm : meth.name = "plane") (hf : f_X10_plane_23 n v0 v1 u0 M = some rv) : Sg p l e R s m args below meth c (Qm below G args s (some (.int rv.1)) M0 rv.2) G M0 4 23 [(0, .ref (gB G + v0)), (1, .int v1)] [.int u0] M := by
  rw [f_X10_plane_23] at hf
  refine s_istore_n X (vs' := [(0, .ref (gB G + v0)), (1, .int v1), (2, .int u0)]) dX10_plane_23 rfl (Nat.le_of_ble_eq_true rfl) [1, 2, 0] rfl ?_
  refine s_aload_n X 0 dX10_plane_24 rfl rfl ?_
  refine s_iload_n X 2 dX10_plane_25 rfl rfl ?_
  refine s_iconst X (v := (0 : Int32)) dX10_plane_26 rfl ?_
  obtain ⟨h1, hf⟩ := pk_chk hf
  obtain ⟨M3, hc2, hf⟩ := pk_obd hf
  refine s_callV X (ci := 10) (k_X10_begin G hc2) rfl h1 wd1429 wd1431 wd50 wd1432 wd138 cd_X10_begin ⟨Nat.le_of_ble_eq_true rfl, Nat.le_of_ble_eq_true rfl⟩ (Nat.le_of_ble_eq_true rfl) dX10_plane_27 ?_
  refine s_iconst X (v := (0 : Int32)) dX10_plane_30 rfl ?_
  refine s_istore_n X (vs' := [(0, .ref (gB G + v0)), (1, .int v1), (2, .int u0), (3, .int (0 : Int32))]) dX10_plane_31 rfl (Nat.le_of_ble_eq_true rfl) [1, 2, 3, 0] rfl ?_
  exact l_X10_plane_32 X hr hlk hnm _ _ _ _ _ hf
end
theorem k_X10_plane (G : Gam) {n : Nat} {o : Nat} {a1 : Int32} {M : Mem} {rv : (Int32 × Mem)} (hf : f_X10_plane n o a1 M = some rv) : Kt yX10_plane cX10_plane 4 (some .int) 2 46 G [.ref (gB G + o), .int a1] M rv.2 (some (.int rv.1)) := by
  refine Kt.of (by decide) (Nat.le_of_ble_eq_true rfl) ?_
  intro p l e R s m args below meth c X hr hlk hnm
  refine s_drop [0, 1] (vs' := [(0, .ref (gB G + o)), (1, .int a1)]) rfl ?_
  rw [f_X10_plane] at hf
  refine s_iload_n X 1 dX10_plane_0 rfl rfl ?_
  refine s_iconst X (v := (2 : Int32)) dX10_plane_1 rfl ?_
  refine s_iconst X (v := (3 : Int32)) dX10_plane_2 rfl ?_
  obtain ⟨r2, hc1, hf⟩ := pk_obd hf
  refine s_callS X (k_X10_isIn G hc1) wd1520 wd1521 wd1522 wd138 cd_X10_isIn ⟨Nat.le_of_ble_eq_true rfl, Nat.le_of_ble_eq_true rfl⟩ (Nat.le_of_ble_eq_true rfl) dX10_plane_3 ?_
  have hs3 := pk_ite hf
  clear hf
  refine s_if_ne X (tgt := 11) dX10_plane_6 rfl (fun c4 => ?_) (fun c4 => ?_)
  · have hf := hs3.2 c4
    refine s_iload_n X 1 dX10_plane_11 rfl rfl ?_
    refine s_iconst X (v := (2 : Int32)) dX10_plane_12 rfl ?_
    have hs5 := pk_ite hf
    clear hf
    refine s_icmp_ne X (tgt := 21) dX10_plane_13 rfl (fun c6 => ?_) (fun c6 => ?_)
    · have hf := hs5.2 c6
      refine s_bipush X (v := (13 : Int32)) dX10_plane_21 rfl ?_
      exact l_X10_plane_23 X hr hlk hnm hf
    · have hf := hs5.1 c6
      refine s_bipush X (v := (7 : Int32)) dX10_plane_16 rfl ?_
      refine s_goto X (tgt := 23) dX10_plane_18 rfl ?_
      exact l_X10_plane_23 X hr hlk hnm hf
  · have hf := hs3.1 c4
    refine s_iconst X (v := (-1 : Int32)) dX10_plane_9 rfl ?_
    cases hf
    exact s_iret X hr hlk dX10_plane_10
theorem dX9_filled_0 : decode cX9_filled 0 = .ok (.iload_n 1, 1) := dk_27 (by decide +kernel)
theorem dX9_filled_1 : decode cX9_filled 1 = .ok (.iconst 2, 1) := dk_5 (by decide +kernel)
theorem dX9_filled_2 : decode cX9_filled 2 = .ok (.if_icmp .lt 9, 3) := dk_161 (x := 0) (y := 9) (by decide +kernel) rfl
theorem dX9_filled_5 : decode cX9_filled 5 = .ok (.iload_n 1, 1) := dk_27 (by decide +kernel)
theorem dX9_filled_6 : decode cX9_filled 6 = .ok (.bipush 16, 2) := dk_16 (x := 16) (by decide +kernel) rfl
theorem dX9_filled_8 : decode cX9_filled 8 = .ok (.if_icmp .le 5, 3) := dk_164 (x := 0) (y := 5) (by decide +kernel) rfl
theorem dX9_filled_11 : decode cX9_filled 11 = .ok (.iconst (-1), 1) := dk_2 (by decide +kernel)
theorem dX9_filled_12 : decode cX9_filled 12 = .ok (.ireturn, 1) := dk_172 (by decide +kernel)
theorem dX9_filled_13 : decode cX9_filled 13 = .ok (.aload_n 0, 1) := dk_42 (by decide +kernel)
theorem dX9_filled_14 : decode cX9_filled 14 = .ok (.getfield 10, 3) := dk_180 (x := 0) (y := 10) (by decide +kernel) rfl
theorem dX9_filled_17 : decode cX9_filled 17 = .ok (.iload_n 1, 1) := dk_27 (by decide +kernel)
theorem dX9_filled_18 : decode cX9_filled 18 = .ok (.invokevirtual 51, 3) := dk_182 (x := 0) (y := 51) (by decide +kernel) rfl
theorem dX9_filled_21 : decode cX9_filled 21 = .ok (.aload_n 0, 1) := dk_42 (by decide +kernel)
theorem dX9_filled_22 : decode cX9_filled 22 = .ok (.invokevirtual 55, 3) := dk_182 (x := 0) (y := 55) (by decide +kernel) rfl
theorem dX9_filled_25 : decode cX9_filled 25 = .ok (.ireturn, 1) := dk_172 (by decide +kernel)
def f_X9_filled (n : Nat) (o : Nat) (a1 : Int32) (M : Mem) : Option (Int32 × Mem) :=
  if a1 < (2 : Int32) then (
    some ((-1 : Int32), M)
    ) else (
    if a1 ≤ (16 : Int32) then (
      chk (isO M 9 o) <|
      bnd (mR M o 0) fun o6 =>
      chk (isO M 7 o6) <|
      obd (f_X7_makeFilled n o6 a1 M) fun M10 =>
      chk (isO M10 9 o) <|
      obd2 (f_X9_startAnew n o M10) fun r13 M14 =>
      some (r13, M14)
      ) else (
      some ((-1 : Int32), M)
      )
    )
theorem cd_X9_filled : (yX9_filled.cls ≠ "java/lang/invoke/MethodHandle" ∧ yX9_filled.cls ≠ "java/lang/invoke/VarHandle") ∧ (parseMethodDescriptor yX9_filled.desc).map (fun d => d.parameters.length) = some 1 := ⟨⟨by decide +kernel, by decide +kernel⟩, by decide +kernel⟩
theorem k_X9_filled (G : Gam) {n : Nat} {o : Nat} {a1 : Int32} {M : Mem} {rv : (Int32 × Mem)} (hf : f_X9_filled n o a1 M = some rv) : Kt yX9_filled cX9_filled 2 (some .int) 5 104 G [.ref (gB G + o), .int a1] M rv.2 (some (.int rv.1)) := by
  refine Kt.of (by decide) (Nat.le_of_ble_eq_true rfl) ?_
  intro p l e R s m args below meth c X hr hlk hnm
  refine s_drop [0, 1] (vs' := [(0, .ref (gB G + o)), (1, .int a1)]) rfl ?_
  rw [f_X9_filled] at hf
  refine s_iload_n X 1 dX9_filled_0 rfl rfl ?_
  refine s_iconst X (v := (2 : Int32)) dX9_filled_1 rfl ?_
  have hs1 := pk_ite hf
  clear hf
  refine s_icmp_lt X (tgt := 11) dX9_filled_2 rfl (fun c2 => ?_) (fun c2 => ?_)
  · have hf := hs1.1 c2
    refine s_iconst X (v := (-1 : Int32)) dX9_filled_11 rfl ?_
    cases hf
    exact s_iret X hr hlk dX9_filled_12
  · have hf := hs1.2 c2
    refine s_iload_n X 1 dX9_filled_5 rfl rfl ?_
    refine s_bipush X (v := (16 : Int32)) dX9_filled_6 rfl ?_
    have hs3 := pk_ite hf
    clear hf
    refine s_icmp_le X (tgt := 13) dX9_filled_8 rfl (fun c4 => ?_) (fun c4 => ?_)
    · have hf := hs3.1 c4
      refine s_aload_n X 0 dX9_filled_13 rfl rfl ?_
      obtain ⟨h5, hf⟩ := pk_chk hf
      obtain ⟨o6, e7, hf⟩ := pk_bnd hf
      obtain ⟨h8, hf⟩ := pk_chk hf
      refine s_getR X (ci := 9) (k := 0) rfl (Nat.le_of_ble_eq_true rfl) h5 wd627 (fun _ _ _ => rfl) (e7 ▸ h8) dX9_filled_14 (e7 ▸ ?_)
      refine s_iload_n X 1 dX9_filled_17 rfl rfl ?_
      obtain ⟨M10, hc9, hf⟩ := pk_obd hf
      refine s_callV X (ci := 7) (k_X7_makeFilled G hc9) rfl h8 wd571 wd572 wd573 wd574 wd127 cd_X7_makeFilled ⟨Nat.le_of_ble_eq_true rfl, Nat.le_of_ble_eq_true rfl⟩ (Nat.le_of_ble_eq_true rfl) dX9_filled_18 ?_
      refine s_aload_n X 0 dX9_filled_21 rfl rfl ?_
      obtain ⟨h11, hf⟩ := pk_chk hf
      obtain ⟨r13, M14, hc12, hf⟩ := pk_obd2 hf
      refine s_callV X (ci := 9) (k_X9_startAnew G hc12) rfl h11 wd582 wd584 wd1 wd585 wd126 cd_X9_startAnew ⟨Nat.le_of_ble_eq_true rfl, Nat.le_of_ble_eq_true rfl⟩ (Nat.le_of_ble_eq_true rfl) dX9_filled_22 ?_
      cases hf
      exact s_iret X hr hlk dX9_filled_25
    · have hf := hs3.2 c4
      refine s_iconst X (v := (-1 : Int32)) dX9_filled_11 rfl ?_
      cases hf
      exact s_iret X hr hlk dX9_filled_12
