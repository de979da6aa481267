/-! ===== rows for floats ===== -/
abbrev nq32 (r : UInt32) : Prop := r &&& 0x7fffffff ≤ 0x7f800000
abbrev nq64 (r : UInt64) : Prop := r &&& 0x7fffffffffffffff ≤ 0x7ff0000000000000
section
variable {p : Program} {l : Launch} {e : Env} {R : Room} {s : State} {m : MethodId} {args : Array Value} {below : List Frame} {meth : Method} {c : Code} {H : Heap} {locs : List Loc} {cells slots : Nat} {Q : State → Prop} {cc : ByteArray} {pc : Nat} {ls : Array Slot} {rest : List Value}
theorem lv_ldcwF (hexec : p.tables.exec = Jvm.exec) (hb : c.code = cc) {own : String} {index : Nat} {v : UInt32} (hown : s.vm.findClass own = some m.cls) (hconst : (Jvm.Cond.constantFloat own index v).before args s = true) (hdg : decode cc pc = .ok (.ldc_w index, 3)) (k : W p l e R s m args below meth c H locs cells slots Q (F0 m (pc + 3) ls (.float v :: rest))) : W p l e R s m args below meth c H locs cells slots Q (F0 m pc ls rest) := by
  intro T hT X
  obtain ⟨t, a, b⟩ := k T hT X
  refine ⟨t, ?_, b⟩
  obtain ⟨k, cf, hk, hcf, hcp⟩ := Cond.constantFloat_spec hown hconst
  obtain ⟨k', hk', he⟩ := X.warmed.alike.2.2 _ _ hk
  have hdg2 : decode c.code (F0 m pc ls rest).pc = .ok (.ldc_w index, 3) := by rw [hb]; exact hdg
  have hk2 : T.vm.classes[(F0 m pc ls rest).method.cls]? = some k' := hk'
  jvm_step X.here [hexec, hdg2, Op.ldc_w.wp_float (s := T) (f := F0 m pc ls rest) X.here.top hk2 (by rw [he]; exact hcf) hcp]
  exact a
end
section
variable {p : Program} {l : Launch} {e : Env} {R : Room} {s : State} {m : MethodId} {args : Array Value} {below : List Frame} {meth : Method} {c : Code} {Q : State → Prop}
variable {G : Gam} {M0 M : Mem} {cc : ByteArray} {own : String} {nL fr lo pc : Nat} {vs : List (Nat × Value)} {st : List Value}
theorem s_fconst1 (X : Cx p R s m args c G M0 cc own nL fr lo)  (hd : decode cc pc = .ok (.fconst 1, 1)) (k : Sg p l e R s m args below meth c Q G M0 nL (pc + 1) vs (.float FP.fconst1 :: st) M) : Sg p l e R s m args below meth c Q G M0 nL pc vs st M :=
  fun hk H locs ls hl hP hS => lv_fconst1 X.1 X.2.1 hd (k hk H locs ls hl hP hS)
theorem s_fconst2 (X : Cx p R s m args c G M0 cc own nL fr lo)  (hd : decode cc pc = .ok (.fconst 2, 1)) (k : Sg p l e R s m args below meth c Q G M0 nL (pc + 1) vs (.float FP.fconst2 :: st) M) : Sg p l e R s m args below meth c Q G M0 nL pc vs st M :=
  fun hk H locs ls hl hP hS => lv_fconst2 X.1 X.2.1 hd (k hk H locs ls hl hP hS)
theorem s_dconst0 (X : Cx p R s m args c G M0 cc own nL fr lo)  (hd : decode cc pc = .ok (.dconst 0, 1)) (k : Sg p l e R s m args below meth c Q G M0 nL (pc + 1) vs (.double FP.dconst0 :: st) M) : Sg p l e R s m args below meth c Q G M0 nL pc vs st M :=
  fun hk H locs ls hl hP hS => lv_dconst0 X.1 X.2.1 hd (k hk H locs ls hl hP hS)
theorem s_dconst1 (X : Cx p R s m args c G M0 cc own nL fr lo)  (hd : decode cc pc = .ok (.dconst 1, 1)) (k : Sg p l e R s m args below meth c Q G M0 nL (pc + 1) vs (.double FP.dconst1 :: st) M) : Sg p l e R s m args below meth c Q G M0 nL pc vs st M :=
  fun hk H locs ls hl hP hS => lv_dconst1 X.1 X.2.1 hd (k hk H locs ls hl hP hS)
theorem s_ldcwF (X : Cx p R s m args c G M0 cc own nL fr lo) {ix : Nat} {v : UInt32} (hd : decode cc pc = .ok (.ldc_w ix, 3)) (hw : Jvm.Cond.constantFloat own ix v ∈ lw_g) (k : Sg p l e R s m args below meth c Q G M0 nL (pc + 3) vs (.float v :: st) M) : Sg p l e R s m args below meth c Q G M0 nL pc vs st M :=
  fun hk H locs ls hl hP hS => lv_ldcwF X.1 X.2.1 X.2.2.1 (X.2.2.2.1 _ hw) hd (k hk H locs ls hl hP hS)
theorem s_ldc2D (X : Cx p R s m args c G M0 cc own nL fr lo) {ix : Nat} {v : UInt64} (hd : decode cc pc = .ok (.ldc2_w ix, 3)) (hw : Jvm.Cond.constantDouble own ix v ∈ lw_g) (k : Sg p l e R s m args below meth c Q G M0 nL (pc + 3) vs (.double v :: st) M) : Sg p l e R s m args below meth c Q G M0 nL pc vs st M :=
  fun hk H locs ls hl hP hS => lv_ldc2d X.1 X.2.1 X.2.2.1 (X.2.2.2.1 _ hw) hd (k hk H locs ls hl hP hS)
theorem s_fload_n (X : Cx p R s m args c G M0 cc own nL fr lo) {kk : Fin 4} {i : Nat} {x : UInt32} (j : Nat) (hd : decode cc pc = .ok (.fload_n kk, 1)) (hi : (kk : Nat) = i) (hj : vs[j]? = some (i, .float x)) (k : Sg p l e R s m args below meth c Q G M0 nL (pc + 1) vs (.float x :: st) M) : Sg p l e R s m args below meth c Q G M0 nL pc vs st M :=
  fun hk H locs ls hl hP hS => lv_fload_n X.1 X.2.1 hd hi (lv_at hl j hj) (k hk H locs ls hl hP hS)
theorem s_fload (X : Cx p R s m args c G M0 cc own nL fr lo) {i : Nat} {x : UInt32} (j : Nat) (hd : decode cc pc = .ok (.fload i, 2)) (hj : vs[j]? = some (i, .float x)) (k : Sg p l e R s m args below meth c Q G M0 nL (pc + 2) vs (.float x :: st) M) : Sg p l e R s m args below meth c Q G M0 nL pc vs st M :=
  fun hk H locs ls hl hP hS => lv_fload X.1 X.2.1 hd (lv_at hl j hj) (k hk H locs ls hl hP hS)
theorem s_dload_n (X : Cx p R s m args c G M0 cc own nL fr lo) {kk : Fin 4} {i : Nat} {x : UInt64} (j : Nat) (hd : decode cc pc = .ok (.dload_n kk, 1)) (hi : (kk : Nat) = i) (hj : vs[j]? = some (i, .double x)) (k : Sg p l e R s m args below meth c Q G M0 nL (pc + 1) vs (.double x :: st) M) : Sg p l e R s m args below meth c Q G M0 nL pc vs st M :=
  fun hk H locs ls hl hP hS => lv_dload_n X.1 X.2.1 hd hi (lv_at hl j hj) (k hk H locs ls hl hP hS)
theorem s_dload (X : Cx p R s m args c G M0 cc own nL fr lo) {i : Nat} {x : UInt64} (j : Nat) (hd : decode cc pc = .ok (.dload i, 2)) (hj : vs[j]? = some (i, .double x)) (k : Sg p l e R s m args below meth c Q G M0 nL (pc + 2) vs (.double x :: st) M) : Sg p l e R s m args below meth c Q G M0 nL pc vs st M :=
  fun hk H locs ls hl hP hS => lv_dload X.1 X.2.1 hd (lv_at hl j hj) (k hk H locs ls hl hP hS)
theorem s_fstore_n (X : Cx p R s m args c G M0 cc own nL fr lo) {kk : Fin 4} {i : Nat} {x : UInt32} {vs' : List (Nat × Value)} (hd : decode cc pc = .ok (.fstore_n kk, 1)) (hi : (kk : Nat) = i) (hn : i < nL) (ks : List Nat) (hq : lv_pick ((i, Value.float x) :: vs.filter (fun q => !(q.1 == i) && !(q.1 + 1 == i && q.2.category == 2))) ks = vs') (k : Sg p l e R s m args below meth c Q G M0 nL (pc + 1) vs' st M) : Sg p l e R s m args below meth c Q G M0 nL pc vs (Value.float x :: st) M :=
  fun hk H locs ls hl hP hS => lv_fstore_n X.1 X.2.1 hd hi hl hn rfl fun ls' hl' => k hk H locs ls' (lv_sub hl' ks hq) hP hS
theorem s_fstore (X : Cx p R s m args c G M0 cc own nL fr lo) {i : Nat} {x : UInt32} {vs' : List (Nat × Value)} (hd : decode cc pc = .ok (.fstore i, 2)) (hn : i < nL) (ks : List Nat) (hq : lv_pick ((i, Value.float x) :: vs.filter (fun q => !(q.1 == i) && !(q.1 + 1 == i && q.2.category == 2))) ks = vs') (k : Sg p l e R s m args below meth c Q G M0 nL (pc + 2) vs' st M) : Sg p l e R s m args below meth c Q G M0 nL pc vs (Value.float x :: st) M :=
  fun hk H locs ls hl hP hS => lv_fstore X.1 X.2.1 hd hl hn rfl fun ls' hl' => k hk H locs ls' (lv_sub hl' ks hq) hP hS
theorem s_dstore_n (X : Cx p R s m args c G M0 cc own nL fr lo) {kk : Fin 4} {i : Nat} {x : UInt64} {vs' : List (Nat × Value)} (hd : decode cc pc = .ok (.dstore_n kk, 1)) (hi : (kk : Nat) = i) (hn : i + 1 < nL) (ks : List Nat) (hq : lv_pick ((i, Value.double x) :: vs.filter (fun q => !(q.1 == i) && (!(q.1 == i + 1) && !(q.1 + 1 == i && q.2.category == 2)))) ks = vs') (k : Sg p l e R s m args below meth c Q G M0 nL (pc + 1) vs' st M) : Sg p l e R s m args below meth c Q G M0 nL pc vs (Value.double x :: st) M :=
  fun hk H locs ls hl hP hS => lv_dstore_n X.1 X.2.1 hd hi hl hn rfl fun ls' hl' => k hk H locs ls' (lv_sub hl' ks hq) hP hS
theorem s_dstore (X : Cx p R s m args c G M0 cc own nL fr lo) {i : Nat} {x : UInt64} {vs' : List (Nat × Value)} (hd : decode cc pc = .ok (.dstore i, 2)) (hn : i + 1 < nL) (ks : List Nat) (hq : lv_pick ((i, Value.double x) :: vs.filter (fun q => !(q.1 == i) && (!(q.1 == i + 1) && !(q.1 + 1 == i && q.2.category == 2)))) ks = vs') (k : Sg p l e R s m args below meth c Q G M0 nL (pc + 2) vs' st M) : Sg p l e R s m args below meth c Q G M0 nL pc vs (Value.double x :: st) M :=
  fun hk H locs ls hl hP hS => lv_dstore X.1 X.2.1 hd hl hn rfl fun ls' hl' => k hk H locs ls' (lv_sub hl' ks hq) hP hS
theorem s_fcmp (X : Cx p R s m args c G M0 cc own nL fr lo) {x y : UInt32} {op : CmpOp} (hd : decode cc pc = .ok (.fcmp op, 1)) (k : Sg p l e R s m args below meth c Q G M0 nL (pc + 1) vs (.int (Op.cmpValue (FP.fcmp x y) op) :: st) M) : Sg p l e R s m args below meth c Q G M0 nL pc vs (.float y :: .float x :: st) M :=
  fun hk H locs ls hl hP hS => lv_fcmp X.1 X.2.1 hd (k hk H locs ls hl hP hS)
theorem s_fdiv (X : Cx p R s m args c G M0 cc own nL fr lo) {x y : UInt32} (hd : decode cc pc = .ok (.fdiv, 1)) (hne : vf_n32 (FP.fdiv x y)) (k : Sg p l e R s m args below meth c Q G M0 nL (pc + 1) vs (.float (FP.fdiv x y) :: st) M) : Sg p l e R s m args below meth c Q G M0 nL pc vs (.float y :: .float x :: st) M :=
  fun hk H locs ls hl hP hS => lv_fdiv X.1 X.2.1 hd hne (k hk H locs ls hl hP hS)
theorem s_fmul (X : Cx p R s m args c G M0 cc own nL fr lo) {x y : UInt32} (hd : decode cc pc = .ok (.fmul, 1)) (hne : vf_n32 (FP.fmul x y)) (k : Sg p l e R s m args below meth c Q G M0 nL (pc + 1) vs (.float (FP.fmul x y) :: st) M) : Sg p l e R s m args below meth c Q G M0 nL pc vs (.float y :: .float x :: st) M :=
  fun hk H locs ls hl hP hS => lv_fmul X.1 X.2.1 hd hne (k hk H locs ls hl hP hS)
theorem s_fsub (X : Cx p R s m args c G M0 cc own nL fr lo) {x y : UInt32} (hd : decode cc pc = .ok (.fsub, 1)) (hne : vf_n32 (FP.fsub x y)) (k : Sg p l e R s m args below meth c Q G M0 nL (pc + 1) vs (.float (FP.fsub x y) :: st) M) : Sg p l e R s m args below meth c Q G M0 nL pc vs (.float y :: .float x :: st) M :=
  fun hk H locs ls hl hP hS => lv_fsub X.1 X.2.1 hd hne (k hk H locs ls hl hP hS)
theorem s_nmF {x t : UInt32} (h : x = t) (k : Sg p l e R s m args below meth c Q G M0 nL pc vs (.float x :: st) M) : Sg p l e R s m args below meth c Q G M0 nL pc vs (.float t :: st) M := h ▸ k
theorem s_dcmp (X : Cx p R s m args c G M0 cc own nL fr lo) {x y : UInt64} {op : CmpOp} (hd : decode cc pc = .ok (.dcmp op, 1)) (k : Sg p l e R s m args below meth c Q G M0 nL (pc + 1) vs (.int (Op.cmpValue (FP.dcmp x y) op) :: st) M) : Sg p l e R s m args below meth c Q G M0 nL pc vs (.double y :: .double x :: st) M :=
  fun hk H locs ls hl hP hS => lv_dcmp X.1 X.2.1 hd (k hk H locs ls hl hP hS)
theorem s_ddiv (X : Cx p R s m args c G M0 cc own nL fr lo) {x y : UInt64} (hd : decode cc pc = .ok (.ddiv, 1)) (hne : vf_n64 (FP.ddiv x y)) (k : Sg p l e R s m args below meth c Q G M0 nL (pc + 1) vs (.double (FP.ddiv x y) :: st) M) : Sg p l e R s m args below meth c Q G M0 nL pc vs (.double y :: .double x :: st) M :=
  fun hk H locs ls hl hP hS => lv_ddiv X.1 X.2.1 hd hne (k hk H locs ls hl hP hS)
theorem s_dmul (X : Cx p R s m args c G M0 cc own nL fr lo) {x y : UInt64} (hd : decode cc pc = .ok (.dmul, 1)) (hne : vf_n64 (FP.dmul x y)) (k : Sg p l e R s m args below meth c Q G M0 nL (pc + 1) vs (.double (FP.dmul x y) :: st) M) : Sg p l e R s m args below meth c Q G M0 nL pc vs (.double y :: .double x :: st) M :=
  fun hk H locs ls hl hP hS => lv_dmul X.1 X.2.1 hd hne (k hk H locs ls hl hP hS)
theorem s_dsub (X : Cx p R s m args c G M0 cc own nL fr lo) {x y : UInt64} (hd : decode cc pc = .ok (.dsub, 1)) (hne : vf_n64 (FP.dsub x y)) (k : Sg p l e R s m args below meth c Q G M0 nL (pc + 1) vs (.double (FP.dsub x y) :: st) M) : Sg p l e R s m args below meth c Q G M0 nL pc vs (.double y :: .double x :: st) M :=
  fun hk H locs ls hl hP hS => lv_dsub X.1 X.2.1 hd hne (k hk H locs ls hl hP hS)
theorem s_nmD {x t : UInt64} (h : x = t) (k : Sg p l e R s m args below meth c Q G M0 nL pc vs (.double x :: st) M) : Sg p l e R s m args below meth c Q G M0 nL pc vs (.double t :: st) M := h ▸ k
theorem s_i2f (X : Cx p R s m args c G M0 cc own nL fr lo) {x : Int32} (hd : decode cc pc = .ok (.i2f, 1)) (k : Sg p l e R s m args below meth c Q G M0 nL (pc + 1) vs (.float (FP.i2f x) :: st) M) : Sg p l e R s m args below meth c Q G M0 nL pc vs (.int x :: st) M :=
  fun hk H locs ls hl hP hS => lv_i2f X.1 X.2.1 hd (k hk H locs ls hl hP hS)
theorem s_i2d (X : Cx p R s m args c G M0 cc own nL fr lo) {x : Int32} (hd : decode cc pc = .ok (.i2d, 1)) (k : Sg p l e R s m args below meth c Q G M0 nL (pc + 1) vs (.double (FP.i2d x) :: st) M) : Sg p l e R s m args below meth c Q G M0 nL pc vs (.int x :: st) M :=
  fun hk H locs ls hl hP hS => lv_i2d X.1 X.2.1 hd (k hk H locs ls hl hP hS)
theorem s_l2d (X : Cx p R s m args c G M0 cc own nL fr lo) {x : Int64} (hd : decode cc pc = .ok (.l2d, 1)) (k : Sg p l e R s m args below meth c Q G M0 nL (pc + 1) vs (.double (FP.l2d x) :: st) M) : Sg p l e R s m args below meth c Q G M0 nL pc vs (.long x :: st) M :=
  fun hk H locs ls hl hP hS => lv_l2d X.1 X.2.1 hd (k hk H locs ls hl hP hS)
theorem s_f2i (X : Cx p R s m args c G M0 cc own nL fr lo) {x : UInt32} (hd : decode cc pc = .ok (.f2i, 1)) (k : Sg p l e R s m args below meth c Q G M0 nL (pc + 1) vs (.int (FP.f2i x) :: st) M) : Sg p l e R s m args below meth c Q G M0 nL pc vs (.float x :: st) M :=
  fun hk H locs ls hl hP hS => lv_f2i X.1 X.2.1 hd (k hk H locs ls hl hP hS)
theorem s_d2l (X : Cx p R s m args c G M0 cc own nL fr lo) {x : UInt64} (hd : decode cc pc = .ok (.d2l, 1)) (k : Sg p l e R s m args below meth c Q G M0 nL (pc + 1) vs (.long (FP.d2l x) :: st) M) : Sg p l e R s m args below meth c Q G M0 nL pc vs (.double x :: st) M :=
  fun hk H locs ls hl hP hS => lv_d2l X.1 X.2.1 hd (k hk H locs ls hl hP hS)
theorem s_d2i (X : Cx p R s m args c G M0 cc own nL fr lo) {x : UInt64} (hd : decode cc pc = .ok (.d2i, 1)) (k : Sg p l e R s m args below meth c Q G M0 nL (pc + 1) vs (.int (FP.d2i x) :: st) M) : Sg p l e R s m args below meth c Q G M0 nL pc vs (.double x :: st) M :=
  fun hk H locs ls hl hP hS => lv_d2i X.1 X.2.1 hd (k hk H locs ls hl hP hS)
theorem s_rawF (X : Cx p R s m args c G M0 cc own nL fr lo) {ix : Nat} {b : UInt32} (hlk : Cond.methodLink own ix ⟨"java/lang/Float", "floatToRawIntBits", "(F)I"⟩ ∈ lw_g) (hnat : Cond.native ⟨"java/lang/Float", "floatToRawIntBits", "(F)I"⟩ ∈ lw_g) (hstat : Cond.static ⟨"java/lang/Float", "floatToRawIntBits", "(F)I"⟩ ∈ lw_g) (hini : Cond.initialized "java/lang/Float" ∈ lw_g) (hR : 1 ≤ fr ∧ (st.map fun v => v.category).sum + 16 ≤ lo) (hd : decode cc pc = .ok (.invokestatic ix, 3)) (k : Sg p l e R s m args below meth c Q G M0 nL (pc + 3) vs (.int b.toInt32 :: st) M) : Sg p l e R s m args below meth c Q G M0 nL pc vs (.float b :: st) M := by
  intro hk H locs ls hl hP hS
  have r1 := X.2.2.2.2.2.1.2.2.1
  have r2 := X.2.2.2.2.2.1.2.2.2
  exact vn_f2i X.1 X.2.1 (X.2.2.2.2.2.2.2.1.trans hl.1.symm) X.2.2.1 (X.2.2.2.1 _ hlk) (X.2.2.2.1 _ hnat) (X.2.2.2.1 _ hstat) (X.2.2.2.1 _ hini) (Nat.le_trans hR.1 r1) (by have := hR.2; omega) hd (k hk H locs ls hl hP hS)
theorem s_rawD (X : Cx p R s m args c G M0 cc own nL fr lo) {ix : Nat} {b : UInt64} (hlk : Cond.methodLink own ix ⟨"java/lang/Double", "doubleToRawLongBits", "(D)J"⟩ ∈ lw_g) (hnat : Cond.native ⟨"java/lang/Double", "doubleToRawLongBits", "(D)J"⟩ ∈ lw_g) (hstat : Cond.static ⟨"java/lang/Double", "doubleToRawLongBits", "(D)J"⟩ ∈ lw_g) (hini : Cond.initialized "java/lang/Double" ∈ lw_g) (hR : 1 ≤ fr ∧ (st.map fun v => v.category).sum + 16 ≤ lo) (hd : decode cc pc = .ok (.invokestatic ix, 3)) (k : Sg p l e R s m args below meth c Q G M0 nL (pc + 3) vs (.long b.toInt64 :: st) M) : Sg p l e R s m args below meth c Q G M0 nL pc vs (.double b :: st) M := by
  intro hk H locs ls hl hP hS
  have r1 := X.2.2.2.2.2.1.2.2.1
  have r2 := X.2.2.2.2.2.1.2.2.2
  exact vn_d2l X.1 X.2.1 (X.2.2.2.2.2.2.2.1.trans hl.1.symm) X.2.2.1 (X.2.2.2.1 _ hlk) (X.2.2.2.1 _ hnat) (X.2.2.2.1 _ hstat) (X.2.2.2.1 _ hini) (Nat.le_trans hR.1 r1) (by have := hR.2; omega) hd (k hk H locs ls hl hP hS)
end
theorem Met.ofF {l : Launch} {y : MethodName} {ws ws' : List Cond} {rm : Room} {Pc : Array Value → State → Prop} {Qc : Array Value → State → Outcome → State → Prop} {mc ms : Nat} {free : Addr → Prop} {cc : ByteArray} {maxL : Nat} {ret : Option FieldType}
    (hy : plainFor y = true) (hw : ws = Cond.code y cc maxL ret :: ws')
    (body : ∀ p e s m args below meth c s₁, BodyLoose p l y (headSpec ws rm) cc maxL ret e s m args below meth c s₁ → c.maxLocals = maxL → Pc args s →
      W p l e (headSpec ws rm).room s m args below meth c s.heap [] 0 0 (MQ below Qc args s mc ms free) (entryFrame m args maxL)) : Met l y ws rm Pc Qc mc ms free := by
  refine MetFree.of_bodySF (code := cc) (maxLocals := maxL) (ret := ret) hy ?_ ?_
  · intro args s m h hn
    obtain ⟨meth, c, h1, h2, h3, h4, h5, h6, -, -⟩ := Cond.code_spec hn (atoms_spec (ws := ws) h _ (by rw [hw]; exact List.mem_cons_self))
    exact ⟨meth, c, h1, h2, h3, h4, h5, h6⟩
  · intro p e s m args below meth c s₁ B hml hP _
    have hh0 : s₁.heap = s.heap := by rw [B.state]; rfl
    obtain ⟨t, a1, o, b1, b2, b3⟩ := body p e s m args below meth c s₁ B hml hP s₁ hh0 (Stand.of_body B)
    exact ⟨t, o, a1, b1, b2, ⟨b3.1, b3.2⟩⟩
theorem Kt.ofF {y : MethodName} {bytes : ByteArray} {maxL : Nat} {ret : Option FieldType} {fr lo : Nat} {G : Gam} {av : List Value} {M M1 : Mem} {r : Option Value} (hy : plainFor y = true) (hlen : (lg_sl av).length ≤ maxL)
    (body : ∀ (p : Program) (l : Launch) (e : Env) (R : Room) (s : State) (m : MethodId) (args : Array Value) (below : List Frame) (meth : Method) (c : Code), Cx p R s m args c G M bytes y.cls maxL fr lo → meth.sig.returnType = ret → meth.locks = false → meth.name = y.name → Sg p l e R s m args below meth c (Qm below G args s r M M1) G M maxL 0 (lv_args 0 av) [] M) : Kt y bytes maxL ret fr lo G av M M1 r := by
  intro l
  refine Met.ofF (cc := bytes) (maxL := maxL) (ret := ret) hy rfl ?_
  intro p e s m args below meth c s₁ B hml hv
  obtain ⟨rfl, hz, c1, c2, hP, hK, hSt⟩ := hv
  have hts := atoms_spec (ws := Cond.code y bytes maxL ret :: lw_g) B.pre
  have hX : Cx p (headSpec (Cond.code y bytes maxL ret :: lw_g) (rmx fr lo M)).room s m av.toArray c G M bytes y.cls maxL fr lo :=
    ⟨B.exec, B.bytes, findClass_of_methodNamed B.named, fun w hw => hts w (List.mem_cons_of_mem _ hw), hK, ⟨rfl, rfl, Nat.le_refl _, Nat.le_refl _⟩, hSt, hml, hz⟩
  have hb := body p l e _ s m av.toArray below meth c hX B.returns B.notSynchronized (name_of_methodNamed B.named B.method).1
  have hl := lv_entry av (n := maxL) hlen
  rw [lg_entry_eq]
  have h2 := hb ⟨Nat.le_refl _, Nat.le_refl _, c1, c2⟩ s.heap [] _ hl hP va_S.rf
  rw [Nat.sub_self, Nat.sub_self] at h2
  exact h2
