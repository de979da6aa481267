/-! ===== contracts, calls, returns ===== -/
theorem back_of2 {l : Launch} {R : Room} {p : Program} {e : Env} {below : List Frame} {s : State} {sargs : Array Value} {y : MethodName} {len W : Nat} {ws : List Cond} {rm : Room} {Pc : Array Value → State → Prop} {Qc : Array Value → State → Outcome → State → Prop} {mc ms : Nat} {free : Addr → Prop} {bytes : ByteArray} {maxL : Nat} {ret : Option FieldType}
    (hM : Met l y ws rm Pc Qc mc ms free) (hblind : FrameBlind Pc)
    (hframes : rm.frames + 1 ≤ R.frames) (hlocals : W + (maxL + 11) + rm.locals ≤ R.locals)
    (hws : ∀ w ∈ ws, ∀ a' U, s.WarmedH U.vm → w.before a' U = true) (hcode : Cond.code y bytes maxL ret ∈ ws) (hinit : ∀ a' U, s.WarmedH U.vm → (Cond.initialized y.cls).before a' U = true) :
    Back l R p e below s sargs y len W (PreOf R rm.cells rm.slots Pc) (PostOf Qc mc ms free) := by
  refine Back.of_free (S := headSpec ws rm) (P := Pc) (K := fun _ _ _ _ _ => True) (Q := fun a st o t => Qc a st o t ∧ ∃ L, FrameEnd st o t L mc ms ∧ ∀ q ∈ L, free q.base) (bytes := bytes) (maxL := maxL) (ret := ret)
    (E := fun a st o t L k n => k = mc ∧ n = ms ∧ ∀ q ∈ L, free q.base) hM hframes hlocals ?_ ?_ (fun _ _ _ _ _ _ _ _ _ => trivial) ?_ ?_
  · intro m meth c A a X hp
    exact ⟨atoms_intro fun w hw => hws w hw _ _ X.warmed, hws _ hcode _ _ X.warmed, hinit _ _ X.warmed, hp.1, hp.2.1⟩
  · intro m meth c A a g mk X hp
    exact hblind _ _ _ _ hp.2.2
  · intro a st o t ⟨hq, L, hF, hL⟩
    exact ⟨L, mc, ms, hF, rfl, rfl, hL⟩
  · intro m meth c A a g mk v t L k n X hp hq hF ⟨e1, e2, hL⟩
    subst e1; subst e2
    exact ⟨g, mk, t, L, rfl, rfl, hq.1, rfl, hL, rfl, rfl⟩
def Pcx (G : Gam) (av : List Value) (M : Mem) : Array Value → State → Prop := va_Pc av (fun U => U.heap.size = gB G + mN M ∧ mN M ≤ CAP ∧ mU M ≤ CAPU ∧ va_P (gD G) kcl (ren G M) U.heap ∧ va_K (gD G) kcl (gT G) U ∧ Stx G U U.heap)
def Qcx (G : Gam) (r : Option Value) (M M1 : Mem) : Array Value → State → Outcome → State → Prop := fun _ st oc t => oc = .returned r ∧ t.heap.size = gB G + mN M1 ∧ mU M ≤ mU M1 ∧ mN M1 ≤ CAP ∧ mU M1 ≤ CAPU ∧ va_P (gD G) kcl (ren G M1) t.heap ∧ va_F (gA G) st t
def rmx (fr lo : Nat) (M : Mem) : Room := { frames := fr, cells := CAP - mN M, slots := CAPU - mU M, locals := lo }
/-- a method's contract: from the memory M it comes to M1, and answers r -/
def Kt (y : MethodName) (bytes : ByteArray) (maxL : Nat) (ret : Option FieldType) (fr lo : Nat) (G : Gam) (av : List Value) (M M1 : Mem) (r : Option Value) : Prop :=
  ∀ l : Launch, Met l y (Cond.code y bytes maxL ret :: lw_g) (rmx fr lo M) (Pcx G av M) (Qcx G r M M1) (mN M1 - mN M) (mU M1 - mU M) (gA G)
theorem lw_nst_s : ∀ w ∈ lw_nst, ∀ {s U : State}, s.vm = U.vm → va_Nw w s → va_Nw w U := by
  intro w hw s U hW h
  simp only [lw_nst, List.mem_cons, List.not_mem_nil, or_false] at hw
  rcases hw with rfl | rfl | rfl | rfl | rfl | rfl | rfl | rfl | rfl | rfl | rfl | rfl | rfl | rfl | rfl | rfl <;> exact va_Nw.same rfl hW h
theorem Stx.same {G : Gam} {U V : State} {H : Heap} (e : U.vm = V.vm) (h : Stx G U H) : Stx G V H := by
  obtain ⟨h0, h9, ⟨a1, a2⟩, ⟨b1, b2⟩, ⟨c1, c2⟩⟩ := h
  have hA : U.vm.Alike V.vm := e ▸ Vm.Alike.refl _
  exact ⟨fun w hw => lw_nst_s w hw e (h0 w hw), h9.moved hA, ⟨a1.moved hA, a2.moved hA⟩, ⟨b1.moved hA, b2.moved hA⟩, ⟨c1.moved hA, c2.moved hA⟩⟩
theorem Pcx_blind (G : Gam) (av : List Value) (M : Mem) : FrameBlind (Pcx G av M) := by
  intro a U g mk h
  obtain ⟨h1, h2, h3, h4, h5, h6, h7⟩ := h
  exact ⟨h1, h2, h3, h4, h5, va_K.moved (Vm.Alike.refl _) h6, Stx.same (U := U) (V := U.calling g mk a) (H := U.heap) rfl h7⟩
section
variable {p : Program} {l : Launch} {e : Env} {R : Room} {s : State} {m : MethodId} {args : Array Value} {below : List Frame} {meth : Method} {c : Code} {Q : State → Prop}
variable {G : Gam} {M0 M M1 : Mem} {cc bytes : ByteArray} {own : String} {nL fr lo pc fr1 lo1 maxL ix n : Nat} {vs : List (Nat × Value)} {st : List Value} {y : MethodName} {ret : Option FieldType} {r : Option Value} {As : List Value}
theorem lw_g_ws {ws : List Cond} (h : ∀ w ∈ ws, w ∈ lw_g) (hts : ∀ w ∈ lw_g, w.before args s = true) : ∀ w ∈ ws, ∀ (a' : Array Value) (U : State), s.WarmedH U.vm → w.before a' U = true :=
  fun w hw a' U hW => word_at hW (good_of_word (List.mem_filter.mp (h w hw)).2) (hts w (h w hw))
/-- behind a call -/
theorem s_back (X : Cx p R s m args c G M0 cc own nL fr lo) {av : List Value} {g : JFrame} (hg : ∃ st0, g = F0 m pc (g.locals) st0) (hk0 : okM M0 M) {H : Heap} {locs : List Loc} (hl : lv_has g.locals nL vs) (hP : va_P (gD G) kcl (ren G M) H) (hS : va_S (gA G) s.heap H locs) {T : State} (hT : T.heap = H) (Y : Stand p l e R s m args below meth c T locs (mN M - mN M0) (mU M - mU M0))
    (hr : va_Run p l e R s m args below meth c H locs (mN M - mN M0) (mU M - mU M0) (mN M1 - mN M) (mU M1 - mU M) g st (Qcx G r M M1 av.toArray) (gA G))
    (k2 : Sg p l e R s m args below meth c Q G M0 nL (pc + 3) vs (r.toList ++ st) M1) : ∃ t, Steps p.tables e below (T.setTop g) t ∧ Q t := by
  have hz := s_size X hk0 hT hP hS Y
  obtain ⟨v, st₀, t, T', L, h0, X', hL, e1, e2, ⟨hv, z1, u1, c1, c2, hP1, hF⟩, stp⟩ := hr T hT Y
  cases hv
  have z2 := hF.1
  rw [h0] at z2
  have hn : mN M ≤ mN M1 := by omega
  have hk1 : okM M0 M1 := ⟨Nat.le_trans hk0.1 hn, Nat.le_trans hk0.2.1 u1, c1, c2⟩
  have ea : mN M - mN M0 + (mN M1 - mN M) = mN M1 - mN M0 := by have := hk0.1; omega
  have eb : mU M - mU M0 + (mU M1 - mU M) = mU M1 - mU M0 := by have := hk0.2.1; omega
  rw [ea, eb] at X'
  have hS1 : va_S (gA G) s.heap T'.heap (locs ++ L) := by
    refine ⟨?_, fun q h1 h2 => ?_, fun q hq => ?_⟩
    · rw [e1]; exact Nat.le_trans hS.1 z2
    · rw [e1, hF.2 q (by rw [h0]; exact Nat.lt_of_lt_of_le h1 hS.1) h2, h0]
      exact hS.2.1 q h1 h2
    · rcases List.mem_append.mp hq with h | h
      · exact hS.2.2 q h
      · exact hL q h
  obtain ⟨st0, hg⟩ := hg
  rw [hg] at stp
  obtain ⟨t2, a1, b1⟩ := k2 hk1 T'.heap (locs ++ L) g.locals hl (by rw [e1]; exact hP1) hS1 T' rfl X'
  refine ⟨t2, ?_, b1⟩
  rw [hg]
  exact stp t2 a1
theorem s_hf (hk0 : okM M0 M) (X : Cx p R s m args c G M0 cc own nL fr lo) : mN M - mN M0 + (rmx fr1 lo1 M).cells ≤ R.cells ∧ mU M - mU M0 + (rmx fr1 lo1 M).slots ≤ R.slots := by
  obtain ⟨h1, h2, -, -⟩ := X.2.2.2.2.2.1
  obtain ⟨k1, k2, k3, k4⟩ := hk0
  rw [h1, h2]
  show mN M - mN M0 + (CAP - mN M) ≤ _ ∧ mU M - mU M0 + (CAPU - mU M) ≤ _
  omega
theorem s_Pcx (hk0 : okM M0 M) (X : Cx p R s m args c G M0 cc own nL fr lo) {H : Heap} {locs : List Loc} (hz : H.size = gB G + mN M) (hP : va_P (gD G) kcl (ren G M) H) (hS : va_S (gA G) s.heap H locs) (av : List Value) : ∀ U : State, U.heap = H → s.WarmedH U.vm → Pcx G av M av.toArray U := by
  intro U hU hW
  refine ⟨rfl, by rw [hU]; exact hz, hk0.2.2.1, hk0.2.2.2, by rw [hU]; exact hP, va_K.moved hW.alike X.2.2.2.2.1, ?_⟩
  rw [hU]
  exact X.2.2.2.2.2.2.1.to hW hS.2.1
theorem s_callV (X : Cx p R s m args c G M0 cc own nL fr lo) {o ci : Nat} {C : String} {T : u_T} {N : Nat} (hM : Kt y bytes maxL ret fr1 lo1 G (.ref (gB G + o) :: As) M M1 r) (hc : kcl[ci]? = some (C, T, N)) (ho : isO M ci o)
    (hlk : Cond.methodLink own ix y ∈ lw_g) (hin : Cond.instanceMethod y ∈ lw_g) (hse : Cond.selects C y y ∈ lw_g) (hco : Cond.code y bytes maxL ret ∈ lw_g) (hini : Cond.initialized y.cls ∈ lw_g)
    (hd : (y.cls ≠ "java/lang/invoke/MethodHandle" ∧ y.cls ≠ "java/lang/invoke/VarHandle") ∧ (parseMethodDescriptor y.desc).map (fun d => d.parameters.length) = some As.length) (hR : fr1 + 1 ≤ fr ∧ 8 + (maxL + 11) + lo1 ≤ lo) (hst : (st.map fun v => v.category).sum ≤ 8)
    (hdg : decode cc pc = .ok (.invokevirtual ix, 3)) (k2 : Sg p l e R s m args below meth c Q G M0 nL (pc + 3) vs (r.toList ++ st) M1) : Sg p l e R s m args below meth c Q G M0 nL pc vs (As.reverse ++ .ref (gB G + o) :: st) M := by
  intro hk0 H locs ls hl hP hS T hT Y
  have hz := s_size X hk0 hT hP hS Y
  obtain ⟨hx, hb, hown, hts, hK, ⟨-, -, hR1, hR2⟩, hSt, hml, -⟩ := id X
  have hws : ∀ w ∈ (Cond.code y bytes maxL ret :: lw_g), ∀ (a' : Array Value) (U : State), s.WarmedH U.vm → w.before a' U = true := lw_g_ws (fun w hw => by rcases List.mem_cons.mp hw with rfl | h; exact hco; exact h) hts
  have hB : Back l R p e below s args y 3 8 (PreOf R (rmx fr1 lo1 M).cells (rmx fr1 lo1 M).slots (Pcx G (.ref (gB G + o) :: As) M)) (PostOf (Qcx G r M M1) (mN M1 - mN M) (mU M1 - mU M) (gA G)) :=
    back_of2 (bytes := bytes) (maxL := maxL) (ret := ret) (hM l) (Pcx_blind _ _ _) (Nat.le_trans hR.1 hR1) (Nat.le_trans hR.2 hR2) hws List.mem_cons_self (fun a' U hW => word_at hW (good_of_word (List.mem_filter.mp hini).2) (hts _ hini))
  obtain ⟨cellB, hcB, hoB, hclB⟩ := va_recv hK hP hc (ren_O ho (kcl_lt hc))
  have hlen : ∀ sig, parseMethodDescriptor y.desc = some sig → As.length = sig.parameters.length := fun sig h => by
    have h2 := hd.2
    rw [h] at h2
    exact (Option.some.inj h2).symm
  refine s_back (g := F0 m pc ls (As.reverse ++ .ref (gB G + o) :: st)) (av := .ref (gB G + o) :: As) X ⟨_, rfl⟩ hk0 hl hP hS hT Y ?_ k2
  intro T hT Y
  obtain ⟨v, vm₁, ⟨U', l2, c2, s2⟩, hW₁, X', ⟨g', mk, t, L, e1, e2, hq, h1, hL, h2, h3⟩, stp⟩ := callV Y hx (C := C) (bytes := bytes) (maxL := maxL) (ret := ret) hown (hts _ hlk) (hts _ hin) (hts _ hse) (hts _ hco) hd.1 hB (by rw [hT]; exact hcB) hoB hclB (g := F0 m pc ls (As.reverse ++ .ref (gB G + o) :: st)) rfl (hl.1.trans hml.symm) (argsL := As) (rest := st) hlen rfl (lv_room hst) (by rw [hb]; exact hdg)
    (fun vm₁ hW₁ => ⟨(s_hf hk0 X).1, (s_hf hk0 X).2, s_Pcx hk0 X hz hP hS _ (T.setVm vm₁) hT hW₁⟩)
  dsimp only [Pt.U, Pt.locs, Pt.cells, Pt.slots] at X' e1 e2 h1 h2 h3 stp
  subst h1; subst h2; subst h3
  exact ⟨v, (T.setVm vm₁).calling g' mk (Value.ref (gB G + o) :: As).toArray, t, U', L, hT, X', hL, e1, e2, hq, stp⟩
theorem s_callS (X : Cx p R s m args c G M0 cc own nL fr lo) (hM : Kt y bytes maxL ret fr1 lo1 G As M M1 r)
    (hlk : Cond.methodLink own ix y ∈ lw_g) (hin : Cond.static y ∈ lw_g) (hco : Cond.code y bytes maxL ret ∈ lw_g) (hini : Cond.initialized y.cls ∈ lw_g)
    (hd : (y.cls ≠ "java/lang/invoke/MethodHandle" ∧ y.cls ≠ "java/lang/invoke/VarHandle") ∧ (parseMethodDescriptor y.desc).map (fun d => d.parameters.length) = some As.length) (hR : fr1 + 1 ≤ fr ∧ 8 + (maxL + 11) + lo1 ≤ lo) (hst : (st.map fun v => v.category).sum ≤ 8)
    (hdg : decode cc pc = .ok (.invokestatic ix, 3)) (k2 : Sg p l e R s m args below meth c Q G M0 nL (pc + 3) vs (r.toList ++ st) M1) : Sg p l e R s m args below meth c Q G M0 nL pc vs (As.reverse ++ st) M := by
  intro hk0 H locs ls hl hP hS T hT Y
  have hz := s_size X hk0 hT hP hS Y
  obtain ⟨hx, hb, hown, hts, hK, ⟨-, -, hR1, hR2⟩, hSt, hml, -⟩ := id X
  have hws : ∀ w ∈ (Cond.code y bytes maxL ret :: lw_g), ∀ (a' : Array Value) (U : State), s.WarmedH U.vm → w.before a' U = true := lw_g_ws (fun w hw => by rcases List.mem_cons.mp hw with rfl | h; exact hco; exact h) hts
  have hB : Back l R p e below s args y 3 8 (PreOf R (rmx fr1 lo1 M).cells (rmx fr1 lo1 M).slots (Pcx G As M)) (PostOf (Qcx G r M M1) (mN M1 - mN M) (mU M1 - mU M) (gA G)) :=
    back_of2 (bytes := bytes) (maxL := maxL) (ret := ret) (hM l) (Pcx_blind _ _ _) (Nat.le_trans hR.1 hR1) (Nat.le_trans hR.2 hR2) hws List.mem_cons_self (fun a' U hW => word_at hW (good_of_word (List.mem_filter.mp hini).2) (hts _ hini))
  have hlen : ∀ sig, parseMethodDescriptor y.desc = some sig → As.length = sig.parameters.length := fun sig h => by
    have h2 := hd.2
    rw [h] at h2
    exact (Option.some.inj h2).symm
  refine s_back (g := F0 m pc ls (As.reverse ++ st)) (av := As) X ⟨_, rfl⟩ hk0 hl hP hS hT Y ?_ k2
  intro T hT Y
  obtain ⟨v, vm₁, ⟨U', l2, c2, s2⟩, hW₁, X', ⟨g', mk, t, L, e1, e2, hq, h1, hL, h2, h3⟩, stp⟩ := callS Y hx (bytes := bytes) (maxL := maxL) (ret := ret) hown (hts _ hlk) (hts _ hin) (hts _ hini) (hts _ hco) hd.1 hB (g := F0 m pc ls (As.reverse ++ st)) rfl (hl.1.trans hml.symm) (argsL := As) (rest := st) hlen rfl (lv_room hst) (by rw [hb]; exact hdg)
    (fun vm₁ hW₁ => ⟨(s_hf hk0 X).1, (s_hf hk0 X).2, s_Pcx hk0 X hz hP hS _ (T.setVm vm₁) hT hW₁⟩)
  dsimp only [Pt.U, Pt.locs, Pt.cells, Pt.slots] at X' e1 e2 h1 h2 h3 stp
  subst h1; subst h2; subst h3
  exact ⟨v, (T.setVm vm₁).calling g' mk As.toArray, t, U', L, hT, X', hL, e1, e2, hq, stp⟩
theorem s_callI (X : Cx p R s m args c G M0 cc own nL fr lo) {o : Nat} (hM : Kt y bytes maxL none fr1 lo1 G (.ref (gB G + o) :: As) M M1 none)
    (hlk : Cond.methodLink own ix y ∈ lw_g) (hin : Cond.instanceMethod y ∈ lw_g) (hco : Cond.code y bytes maxL none ∈ lw_g) (hini : Cond.initialized y.cls ∈ lw_g) (hnm : y.name = "<init>")
    (hd : (y.cls ≠ "java/lang/invoke/MethodHandle" ∧ y.cls ≠ "java/lang/invoke/VarHandle") ∧ (parseMethodDescriptor y.desc).map (fun d => d.parameters.length) = some As.length) (hR : fr1 + 1 ≤ fr ∧ 8 + (maxL + 11) + lo1 ≤ lo) (hst : (st.map fun v => v.category).sum ≤ 8)
    (hdg : decode cc pc = .ok (.invokespecial ix, 3)) (k2 : Sg p l e R s m args below meth c Q G M0 nL (pc + 3) vs st M1) : Sg p l e R s m args below meth c Q G M0 nL pc vs (As.reverse ++ .ref (gB G + o) :: st) M := by
  intro hk0 H locs ls hl hP hS T hT Y
  have hz := s_size X hk0 hT hP hS Y
  obtain ⟨hx, hb, hown, hts, hK, ⟨-, -, hR1, hR2⟩, hSt, hml, -⟩ := id X
  have hws : ∀ w ∈ (Cond.code y bytes maxL none :: lw_g), ∀ (a' : Array Value) (U : State), s.WarmedH U.vm → w.before a' U = true := lw_g_ws (fun w hw => by rcases List.mem_cons.mp hw with rfl | h; exact hco; exact h) hts
  have hB : Back l R p e below s args y 3 8 (PreOf R (rmx fr1 lo1 M).cells (rmx fr1 lo1 M).slots (Pcx G (.ref (gB G + o) :: As) M)) (PostOf (Qcx G none M M1) (mN M1 - mN M) (mU M1 - mU M) (gA G)) :=
    back_of2 (bytes := bytes) (maxL := maxL) (ret := none) (hM l) (Pcx_blind _ _ _) (Nat.le_trans hR.1 hR1) (Nat.le_trans hR.2 hR2) hws List.mem_cons_self (fun a' U hW => word_at hW (good_of_word (List.mem_filter.mp hini).2) (hts _ hini))
  have hlen : ∀ sig, parseMethodDescriptor y.desc = some sig → As.length = sig.parameters.length := fun sig h => by
    have h2 := hd.2
    rw [h] at h2
    exact (Option.some.inj h2).symm
  refine s_back (r := none) (g := F0 m pc ls (As.reverse ++ .ref (gB G + o) :: st)) (av := .ref (gB G + o) :: As) X ⟨_, rfl⟩ hk0 hl hP hS hT Y ?_ k2
  intro T hT Y
  obtain ⟨v, vm₁, ⟨U', l2, c2, s2⟩, hW₁, X', ⟨g', mk, t, L, e1, e2, hq, h1, hL, h2, h3⟩, stp⟩ := callI Y hx (bytes := bytes) (maxL := maxL) hown hnm (hts _ hlk) (hts _ hin) (hts _ hco) hd.1 hB (g := F0 m pc ls (As.reverse ++ .ref (gB G + o) :: st)) rfl (hl.1.trans hml.symm) (a := gB G + o) (argsL := As) (rest := st) hlen rfl (lv_room hst) (by rw [hb]; exact hdg)
    (fun vm₁ hW₁ => ⟨(s_hf hk0 X).1, (s_hf hk0 X).2, s_Pcx hk0 X hz hP hS _ (T.setVm vm₁) hT hW₁⟩)
  dsimp only [Pt.U, Pt.locs, Pt.cells, Pt.slots] at X' e1 e2 h1 h2 h3 stp
  subst h1; subst h2; subst h3
  exact ⟨v, (T.setVm vm₁).calling g' mk (Value.ref (gB G + o) :: As).toArray, t, U', L, hT, X', hL, e1, e2, hq, stp⟩
/-- returns: the walk's end is the contract's -/
def Qm (below : List Frame) (G : Gam) (args : Array Value) (s : State) (r : Option Value) (M0 M : Mem) : State → Prop := MQ below (Qcx G r M0 M) args s (mN M - mN M0) (mU M - mU M0) (gA G)
theorem s_q (X : Cx p R s m args c G M0 cc own nL fr lo) (hk0 : okM M0 M) {H : Heap} {locs : List Loc} (hP : va_P (gD G) kcl (ren G M) H) (hS : va_S (gA G) s.heap H locs) (hz : H.size = gB G + mN M) (v : Option Value) : ∀ t : State, t.heap = H → s.WarmedH t.vm → Qcx G v M0 M args s (.returned v) t :=
  fun t ht hW => ⟨rfl, by rw [ht]; exact hz, hk0.2.1, hk0.2.2.1, hk0.2.2.2, by rw [ht]; exact hP, by rw [ht]; exact hS.1, fun q h1 h2 => by rw [ht]; exact hS.2.1 q h1 h2⟩
theorem s_iret (X : Cx p R s m args c G M0 cc own nL fr lo) {v : Int32} (hr : meth.sig.returnType = some .int) (hlocks : meth.locks = false) (hd : decode cc pc = .ok (.ireturn, 1)) : Sg p l e R s m args below meth c (Qm below G args s (some (.int v)) M0 M) G M0 nL pc vs [.int v] M :=
  fun hk0 H locs ls hl hP hS T hT Y => W.iret X.1 X.2.1 hr (s_q X hk0 hP hS (s_size X hk0 hT hP hS Y) _) hS.2.2 hd hlocks T hT Y
theorem s_lret (X : Cx p R s m args c G M0 cc own nL fr lo) {v : Int64} (hr : meth.sig.returnType = some .long) (hlocks : meth.locks = false) (hd : decode cc pc = .ok (.lreturn, 1)) : Sg p l e R s m args below meth c (Qm below G args s (some (.long v)) M0 M) G M0 nL pc vs [.long v] M :=
  fun hk0 H locs ls hl hP hS T hT Y => W.lret X.1 X.2.1 hr (s_q X hk0 hP hS (s_size X hk0 hT hP hS Y) _) hS.2.2 hd hlocks T hT Y
theorem s_zret (X : Cx p R s m args c G M0 cc own nL fr lo) {v : Int32} (hr : meth.sig.returnType = some .boolean) (hn : narrow .boolean (.int v) = .int v) (hlocks : meth.locks = false) (hd : decode cc pc = .ok (.ireturn, 1)) : Sg p l e R s m args below meth c (Qm below G args s (some (.int v)) M0 M) G M0 nL pc vs [.int v] M :=
  fun hk0 H locs ls hl hP hS T hT Y => W.zret X.1 X.2.1 hr hn (s_q X hk0 hP hS (s_size X hk0 hT hP hS Y) _) hS.2.2 hd hlocks T hT Y
theorem s_vret (X : Cx p R s m args c G M0 cc own nL fr lo) (hr : meth.sig.returnType = none) (hlocks : meth.locks = false) (hd : decode cc pc = .ok (.return_, 1)) : Sg p l e R s m args below meth c (Qm below G args s none M0 M) G M0 nL pc vs [] M :=
  fun hk0 H locs ls hl hP hS T hT Y => W.vret X.1 X.2.1 hr (s_q X hk0 hP hS (s_size X hk0 hT hP hS Y) _) hS.2.2 hd hlocks T hT Y
theorem s_aret (X : Cx p R s m args c G M0 cc own nL fr lo) {o : Nat} {rt : FieldType} (hr : meth.sig.returnType = some rt) (hn : (∃ n, rt = FieldType.object n) ∨ ∃ t, rt = .array t) (hlocks : meth.locks = false) (hd : decode cc pc = .ok (.areturn, 1)) : Sg p l e R s m args below meth c (Qm below G args s (some (.ref (gB G + o))) M0 M) G M0 nL pc vs [.ref (gB G + o)] M :=
  fun hk0 H locs ls hl hP hS T hT Y => W.aret X.1 X.2.1 hr hn (Or.inr ⟨_, rfl⟩) (s_q X hk0 hP hS (s_size X hk0 hT hP hS Y) _) hS.2.2 hd hlocks T hT Y
end
/-- a contract out of a walk -/
theorem Kt.of {y : MethodName} {bytes : ByteArray} {maxL : Nat} {ret : Option FieldType} {fr lo : Nat} {G : Gam} {av : List Value} {M M1 : Mem} {r : Option Value} (hy : plainName y.cls = true) (hlen : (lg_sl av).length ≤ maxL)
    (body : ∀ (p : Program) (l : Launch) (e : Env) (R : Room) (s : State) (m : MethodId) (args : Array Value) (below : List Frame) (meth : Method) (c : Code), Cx p R s m args c G M bytes y.cls maxL fr lo → meth.sig.returnType = ret → meth.locks = false → meth.name = y.name → Sg p l e R s m args below meth c (Qm below G args s r M M1) G M maxL 0 (lv_args 0 av) [] M) : Kt y bytes maxL ret fr lo G av M M1 r := by
  intro l
  refine Met.ofW (cc := bytes) (maxL := maxL) (ret := ret) hy rfl ?_
  intro p e s m args below meth c s₁ B hml hv
  obtain ⟨rfl, hz, c1, c2, hP, hK, hSt⟩ := hv
  have hts := atoms_spec (ws := Cond.code y bytes maxL ret :: lw_g) B.pre
  have hX : Cx p (headSpec (Cond.code y bytes maxL ret :: lw_g) (rmx fr lo M)).room s m av.toArray c G M bytes y.cls maxL fr lo :=
    ⟨B.exec, B.bytes, findClass_of_methodNamed B.named, fun w hw => hts w (List.mem_cons_of_mem _ hw), hK, ⟨rfl, rfl, Nat.le_refl _, Nat.le_refl _⟩, hSt, hml, hz⟩
  have hb := body p l e _ s m av.toArray below meth c hX B.returns B.notSynchronized (name_of_methodNamed B.named B.method).1
  have hl := lv_entry av (n := maxL) hlen
  rw [lg_entry_eq]
  have h2 := hb ⟨Nat.le_refl _, Nat.le_refl _, c1, c2⟩ s.heap [] _ hl hP va_S.rf
  rw [Nat.sub_self, Nat.sub_self] at h2
  exact h2
