section
variable {p : Program} {l : Launch} {e : Env} {R : Room} {s : State} {m : MethodId} {args : Array Value} {below : List Frame} {meth : Method} {c : Code} {Q : State → Prop}
variable {G : Gam} {M0 M M1 : Mem} {cc bytes : ByteArray} {own : String} {nL fr lo pc fr1 lo1 maxL ix n : Nat} {vs : List (Nat × Value)} {st : List Value} {y : MethodName} {ret : Option FieldType} {r : Option Value} {As : List Value}
theorem s_callSN (X : Cx p R s m args c G M0 cc own nL fr lo) (hM : Kt y bytes maxL ret fr1 lo1 G As M M1 r)
    {host : String} (hlk : Cond.methodLinkNest own ix y host ∈ lw_nst) (hin : Cond.static y ∈ lw_g) (hco : Cond.code y bytes maxL ret ∈ lw_g) (hini : Cond.initialized y.cls ∈ lw_g)
    (hd : (y.cls ≠ "java/lang/invoke/MethodHandle" ∧ y.cls ≠ "java/lang/invoke/VarHandle") ∧ (parseMethodDescriptor y.desc).map (fun d => d.parameters.length) = some As.length) (hR : fr1 + 1 ≤ fr ∧ 8 + (maxL + 11) + lo1 ≤ lo) (hst : (st.map fun v => v.category).sum ≤ 8)
    (hdg : decode cc pc = .ok (.invokestatic ix, 3)) (k2 : Sg p l e R s m args below meth c Q G M0 nL (pc + 3) vs (r.toList ++ st) M1) : Sg p l e R s m args below meth c Q G M0 nL pc vs (As.reverse ++ st) M := by
  intro hk0 H locs ls hl hP hS T hT Y
  have hz := s_size X hk0 hT hP hS Y
  obtain ⟨hx, hb, hown, hts, hK, ⟨-, -, hR1, hR2⟩, hSt, hml, -⟩ := id X
  have hws : ∀ w ∈ (Cond.code y bytes maxL ret :: lw_g), ∀ (a' : Array Value) (U : State), s.WarmedH U.vm → w.before a' U = true := lw_g_ws (fun w hw => by rcases List.mem_cons.mp hw with rfl | h; exact hco; exact h) hts
  have hB : Back l R p e below s args y 3 8 (PreOf R (rmx fr1 lo1 M).cells (rmx fr1 lo1 M).slots (Pcx G As M)) (PostOf (Qcx G r M M1) (mN M1 - mN M) (mU M1 - mU M) (gA G)) :=
    back_of2 (bytes := bytes) (maxL := maxL) (ret := ret) (hM l) (Pcx_blind _ _ _) (Nat.le_trans hR.1 hR1) (Nat.le_trans hR.2 hR2) hws List.mem_cons_self (fun a' U hW => word_at hW (good_of_word (List.mem_filter.mp hini).2) (hts _ hini))
  have hlen : ∀ sig, parseMethodDescriptor y.desc = some sig → As.length = sig.parameters.length := fun sig h => by
    have h2 := hd.2
    rw [h] at h2
    exact (Option.some.inj h2).symm
  refine s_back (g := F0 m pc ls (As.reverse ++ st)) (av := As) X ⟨_, rfl⟩ hk0 hl hP hS hT Y ?_ k2
  intro T hT Y
  obtain ⟨v, vm₁, ⟨U', l2, c2, s2⟩, hW₁, X', ⟨g', mk, t, L, e1, e2, hq, h1, hL, h2, h3⟩, stp⟩ := va_callSN Y hx (bytes := bytes) (maxL := maxL) (ret := ret) hown (va_Nw.use rfl (hSt.1 _ hlk)) (hts _ hin) (hts _ hini) (hts _ hco) hd.1 hB (g := F0 m pc ls (As.reverse ++ st)) rfl (hl.1.trans hml.symm) (argsL := As) (rest := st) hlen rfl (lv_room hst) (by rw [hb]; exact hdg)
    (fun vm₁ hW₁ => ⟨(s_hf hk0 X).1, (s_hf hk0 X).2, s_Pcx hk0 X hz hP hS _ (T.setVm vm₁) hT hW₁⟩)
  dsimp only [Pt.U, Pt.locs, Pt.cells, Pt.slots] at X' e1 e2 h1 h2 h3 stp
  subst h1; subst h2; subst h3
  exact ⟨v, (T.setVm vm₁).calling g' mk As.toArray, t, U', L, hT, X', hL, e1, e2, hq, stp⟩
theorem s_callIN (X : Cx p R s m args c G M0 cc own nL fr lo) {o : Nat} (hM : Kt y bytes maxL none fr1 lo1 G (.ref (gB G + o) :: As) M M1 none)
    {host : String} (hlk : Cond.methodLinkNest own ix y host ∈ lw_nst) (hin : Cond.instanceMethod y ∈ lw_g) (hco : Cond.code y bytes maxL none ∈ lw_g) (hini : Cond.initialized y.cls ∈ lw_g) (hnm : y.name = "<init>")
    (hd : (y.cls ≠ "java/lang/invoke/MethodHandle" ∧ y.cls ≠ "java/lang/invoke/VarHandle") ∧ (parseMethodDescriptor y.desc).map (fun d => d.parameters.length) = some As.length) (hR : fr1 + 1 ≤ fr ∧ 8 + (maxL + 11) + lo1 ≤ lo) (hst : (st.map fun v => v.category).sum ≤ 8)
    (hdg : decode cc pc = .ok (.invokespecial ix, 3)) (k2 : Sg p l e R s m args below meth c Q G M0 nL (pc + 3) vs st M1) : Sg p l e R s m args below meth c Q G M0 nL pc vs (As.reverse ++ .ref (gB G + o) :: st) M := by
  intro hk0 H locs ls hl hP hS T hT Y
  have hz := s_size X hk0 hT hP hS Y
  obtain ⟨hx, hb, hown, hts, hK, ⟨-, -, hR1, hR2⟩, hSt, hml, -⟩ := id X
  have hws : ∀ w ∈ (Cond.code y bytes maxL none :: lw_g), ∀ (a' : Array Value) (U : State), s.WarmedH U.vm → w.before a' U = true := lw_g_ws (fun w hw => by rcases List.mem_cons.mp hw with rfl | h; exact hco; exact h) hts
  have hB : Back l R p e below s args y 3 8 (PreOf R (rmx fr1 lo1 M).cells (rmx fr1 lo1 M).slots (Pcx G (.ref (gB G + o) :: As) M)) (PostOf (Qcx G none M M1) (mN M1 - mN M) (mU M1 - mU M) (gA G)) :=
    back_of2 (bytes := bytes) (maxL := maxL) (ret := none) (hM l) (Pcx_blind _ _ _) (Nat.le_trans hR.1 hR1) (Nat.le_trans hR.2 hR2) hws List.mem_cons_self (fun a' U hW => word_at hW (good_of_word (List.mem_filter.mp hini).2) (hts _ hini))
  have hlen : ∀ sig, parseMethodDescriptor y.desc = some sig → As.length = sig.parameters.length := fun sig h => by
    have h2 := hd.2
    rw [h] at h2
    exact (Option.some.inj h2).symm
  refine s_back (r := none) (g := F0 m pc ls (As.reverse ++ .ref (gB G + o) :: st)) (av := .ref (gB G + o) :: As) X ⟨_, rfl⟩ hk0 hl hP hS hT Y ?_ k2
  intro T hT Y
  obtain ⟨v, vm₁, ⟨U', l2, c2, s2⟩, hW₁, X', ⟨g', mk, t, L, e1, e2, hq, h1, hL, h2, h3⟩, stp⟩ := va_callIN Y hx (bytes := bytes) (maxL := maxL) hown hnm (va_Nw.use rfl (hSt.1 _ hlk)) (hts _ hin) (hts _ hco) hd.1 hB (g := F0 m pc ls (As.reverse ++ .ref (gB G + o) :: st)) rfl (hl.1.trans hml.symm) (a := gB G + o) (argsL := As) (rest := st) hlen rfl (lv_room hst) (by rw [hb]; exact hdg)
    (fun vm₁ hW₁ => ⟨(s_hf hk0 X).1, (s_hf hk0 X).2, s_Pcx hk0 X hz hP hS _ (T.setVm vm₁) hT hW₁⟩)
  dsimp only [Pt.U, Pt.locs, Pt.cells, Pt.slots] at X' e1 e2 h1 h2 h3 stp
  subst h1; subst h2; subst h3
  exact ⟨v, (T.setVm vm₁).calling g' mk (Value.ref (gB G + o) :: As).toArray, t, U', L, hT, X', hL, e1, e2, hq, stp⟩
theorem s_objInit (X : Cx p R s m args c G M0 cc own nL fr lo) {o : Nat} (hlk : Cond.methodLink own ix objectInit ∈ lw_g) (hin : Cond.instanceMethod objectInit ∈ lw_g) (hco : Cond.code objectInit ⟨#[0xb1]⟩ 1 none ∈ lw_g) (hR : 1 ≤ fr ∧ (st.map fun v => v.category).sum + 12 ≤ lo) (hd : decode cc pc = .ok (.invokespecial ix, 3)) (k2 : Sg p l e R s m args below meth c Q G M0 nL (pc + 3) vs st M) : Sg p l e R s m args below meth c Q G M0 nL pc vs (.ref (gB G + o) :: st) M := by
  intro hk0 H locs ls hl hP hS
  have h1 := X.2.2.2.2.2.1.2.2.1
  have h2 := X.2.2.2.2.2.1.2.2.2
  refine W.objInit X.1 X.2.1 X.2.2.1 (X.2.2.2.1 _ hlk) (X.2.2.2.1 _ hin) (X.2.2.2.1 _ hco) rfl (hl.1.trans X.2.2.2.2.2.2.2.1.symm) rfl hd (Nat.le_trans hR.1 h1) ?_ ?_
  · show 2 * 0 + _ + 12 ≤ _
    omega
  · exact k2 hk0 H locs ls hl hP hS
theorem nw_ok {t ln sz : Nat} (hk0 : okM M0 M) (hfit : mN M + 1 ≤ CAP ∧ mU M + sz ≤ CAPU) : okM M0 (nw M t ln sz) ∧ mN M - mN M0 + 1 = mN (nw M t ln sz) - mN M0 ∧ mU M - mU M0 + sz = mU (nw M t ln sz) - mU M0 := by
  obtain ⟨h1, h2, h3, h4⟩ := hk0
  have e1 : mN (nw M t ln sz) = mN M + 1 := rfl
  have e2 : mU (nw M t ln sz) = mU M + sz := rfl
  refine ⟨⟨?_, ?_, ?_, ?_⟩, ?_, ?_⟩ <;> (try rw [e1]) <;> (try rw [e2]) <;> omega
theorem ren_nw0 {t ln sz : Nat} {e0 : va_E} (he : ent G (nw M t ln sz) (mN M) = e0) : ren G (nw M t ln sz) = ren G M ++ [(gB G + mN M, e0)] := ren_push rfl (fun i hi => ren_nw hi) he
theorem nw_S {H H1 : Heap} {locs : List Loc} {h : Nat} (hS : va_S (gA G) s.heap H locs) (hz : H.size = h) (z1 : H1.size = h + 1) (o1 : ∀ q, q < h → H1[q]? = H[q]?) : va_S (gA G) s.heap H1 locs := by
  subst hz
  exact ⟨Nat.le_trans hS.1 (by omega), fun x h1 h2 => (o1 x (Nat.lt_of_lt_of_le h1 hS.1)).trans (hS.2.1 x h1 h2), hS.2.2⟩
theorem nw_P {H H1 : Heap} {e0 : va_E} (hP : va_P (gD G) kcl (ren G M) H) (hz : H.size = gB G + mN M) (o1 : ∀ q, q < gB G + mN M → H1[q]? = H[q]?) (h : va_at (gD G) kcl (gB G + mN M, e0) H1) : va_P (gD G) kcl (ren G M ++ [(gB G + mN M, e0)]) H1 := by
  refine (hP.kept fun k x hx => o1 x.1 (by rw [← hz]; exact (hP k x hx).lt)).app fun k x hx => ?_
  have hz : k < 1 := (List.getElem?_eq_some_iff.mp hx).1
  rw [show k = 0 by omega] at hx
  cases hx
  exact h
theorem ftyp_ok : ∀ c, c < 11 → ∀ j, j < fN c → ftyp c j ≠ .float ∧ ftyp c j ≠ .double := by decide +kernel
theorem fval_new {c j : Nat} {t ln sz : Nat} (h : ftyp c j ≠ .float ∧ ftyp c j ≠ .double) (B : Nat) : defaultValue (ftyp c j) = fval B (nw M t ln sz) c (mN M) j := by
  have e1 : mI (nw M t ln sz) (mN M) j = 0 := by simp [mI, nw]
  have e2 : mL (nw M t ln sz) (mN M) j = 0 := by simp [mL, nw]
  have e3 : rO B (mR (nw M t ln sz) (mN M) j) = none := by simp [mR, nw, rO]
  simp only [fval, e1, e2, e3]
  cases hh : ftyp c j with
  | float => exact absurd hh h.1
  | double => exact absurd hh h.2
  | _ => rfl
theorem s_new (X : Cx p R s m args c G M0 cc own nL fr lo) {ci : Nat} {C : String} {T : u_T} {N : Nat} (hc : kcl[ci]? = some (C, T, N)) (hcl : Cond.classLink own ix C ∈ lw_g) (hin : Cond.instantiable C N ∈ lw_g) (hini : Cond.initialized C ∈ lw_g) (hfit : mN M + 1 ≤ CAP ∧ mU M + N ≤ CAPU) (hM : M1 = nw M ci 0 N) (hd : decode cc pc = .ok (.new ix, 3)) (k2 : Sg p l e R s m args below meth c Q G M0 nL (pc + 3) vs (.ref (gB G + mN M) :: st) M1) : Sg p l e R s m args below meth c Q G M0 nL pc vs st M := by
  subst hM
  intro hk0 H locs ls hl hP hS T0 hT Y
  have hz := s_size X hk0 hT hP hS Y
  obtain ⟨hx, hb, hown, hts, hK, ⟨hR1, hR2, -, -⟩, -, -, -⟩ := id X
  obtain ⟨hk1, ea, eb⟩ := nw_ok (t := ci) (ln := 0) hk0 hfit
  have hKn := hK.1 ci _ hc
  have hN := (kcl_N hc).1
  refine W.newcK hx hb hown (hts _ hcl) (hts _ hin) (hts _ hini) (g := F0 m pc ls st) rfl hd ?_ ?_ hKn.2.1 hz (fun H1 kC hkC e1 z1 o1 => ?_) T0 hT Y
  · rw [hR1]; have := hk0.1; omega
  · rw [hR2]; have := hk0.2.1; omega
  · rw [ea, eb]
    have he : ent G (nw M ci 0 N) (mN M) = .inr (ci, (List.range (fN ci)).map (fval (gB G) (nw M ci 0 N) ci (mN M))) := ent_O (by simp [mC, nw]) (kcl_lt hc)
    refine k2 hk1 H1 locs ls hl ?_ (nw_S hS hz z1 o1)
    rw [ren_nw0 he]
    refine nw_P hP hz o1 ⟨_, hc, (u_born (ftyp ci) hts (uin hc) hKn hkC e1 (kcl_N hc).2.1).to fun j hj => ?_⟩
    rw [fval_new (M := M) (t := ci) (ln := 0) (sz := N) (ftyp_ok ci (kcl_lt hc) j (hN ▸ hj)) (gB G)]
    have hj2 : j < fN ci := hN ▸ hj
    simp [vp_V, hj2]
theorem s_newI (X : Cx p R s m args c G M0 cc own nL fr lo) {n : Int32} (hw : Cond.arrayClass .int ∈ lw_g) (hn : ¬ n < 0) (hfit : mN M + 1 ≤ CAP ∧ mU M + n.toNatClampNeg ≤ CAPU) (hM : M1 = nw M 100 n.toNatClampNeg n.toNatClampNeg) (hd : decode cc pc = .ok (.newarray .int, 2)) (k2 : Sg p l e R s m args below meth c Q G M0 nL (pc + 2) vs (.ref (gB G + mN M) :: st) M1) : Sg p l e R s m args below meth c Q G M0 nL pc vs (.int n :: st) M := by
  subst hM
  intro hk0 H locs ls hl hP hS T0 hT Y
  have hz := s_size X hk0 hT hP hS Y
  obtain ⟨hx, hb, hown, hts, hK, ⟨hR1, hR2, -, -⟩, -, -, -⟩ := id X
  obtain ⟨hk1, ea, eb⟩ := nw_ok (t := 100) (ln := n.toNatClampNeg) hk0 hfit
  refine va_newaK hx hb (atype := .int) (hts _ hw) (g := F0 m pc ls (.int n :: st)) rfl hd rfl hn rfl ?_ ?_ ?_ hz (fun H1 cA e1 z1 o1 hAr hNm => ?_) T0 hT Y
  · have := hfit.2
    show n.toNatClampNeg * 4 ≤ _
    simp only [CAPU] at this
    omega
  · rw [hR1]; have := hk0.1; omega
  · rw [hR2]; have := hk0.2.1; omega
  · rw [ea, eb]
    have hcA : cA = gI G := Option.some.inj (hNm.symm.trans (hK.2 0 _ rfl).2)
    subst hcA
    have he : ent G (nw M 100 n.toNatClampNeg n.toNatClampNeg) (mN M) = .inl (gI G, n.toNatClampNeg, .inl (fun _ => 0)) := by
      rw [ent_I (by simp [mC, nw])]
      have e2 : mI (nw M 100 n.toNatClampNeg n.toNatClampNeg) (mN M) = fun _ => 0 := funext fun j => by simp [mI, nw]
      rw [e2]
      simp [mLn, nw]
    refine k2 hk1 H1 locs ls hl ?_ (nw_S hS hz z1 o1)
    rw [ren_nw0 he]
    exact nw_P hP hz o1 e1
theorem s_newL (X : Cx p R s m args c G M0 cc own nL fr lo) {n : Int32} (hw : Cond.arrayClass .long ∈ lw_g) (hn : ¬ n < 0) (hfit : mN M + 1 ≤ CAP ∧ mU M + n.toNatClampNeg ≤ CAPU) (hM : M1 = nw M 101 n.toNatClampNeg n.toNatClampNeg) (hd : decode cc pc = .ok (.newarray .long, 2)) (k2 : Sg p l e R s m args below meth c Q G M0 nL (pc + 2) vs (.ref (gB G + mN M) :: st) M1) : Sg p l e R s m args below meth c Q G M0 nL pc vs (.int n :: st) M := by
  subst hM
  intro hk0 H locs ls hl hP hS T0 hT Y
  have hz := s_size X hk0 hT hP hS Y
  obtain ⟨hx, hb, hown, hts, hK, ⟨hR1, hR2, -, -⟩, -, -, -⟩ := id X
  obtain ⟨hk1, ea, eb⟩ := nw_ok (t := 101) (ln := n.toNatClampNeg) hk0 hfit
  refine va_newaK hx hb (atype := .long) (hts _ hw) (g := F0 m pc ls (.int n :: st)) rfl hd rfl hn rfl ?_ ?_ ?_ hz (fun H1 cA e1 z1 o1 hAr hNm => ?_) T0 hT Y
  · have := hfit.2
    show n.toNatClampNeg * 8 ≤ _
    simp only [CAPU] at this
    omega
  · rw [hR1]; have := hk0.1; omega
  · rw [hR2]; have := hk0.2.1; omega
  · rw [ea, eb]
    have hcA : cA = gJ G := Option.some.inj (hNm.symm.trans (hK.2 1 _ rfl).2)
    subst hcA
    have he : ent G (nw M 101 n.toNatClampNeg n.toNatClampNeg) (mN M) = .inl (gJ G, n.toNatClampNeg, .inr (.inl (fun _ => 0))) := by
      rw [ent_J (by simp [mC, nw])]
      have e2 : mL (nw M 101 n.toNatClampNeg n.toNatClampNeg) (mN M) = fun _ => 0 := funext fun j => by simp [mL, nw]
      rw [e2]
      simp [mLn, nw]
    refine k2 hk1 H1 locs ls hl ?_ (nw_S hS hz z1 o1)
    rw [ren_nw0 he]
    exact nw_P hP hz o1 e1
theorem s_newP (X : Cx p R s m args c G M0 cc own nL fr lo) {n : Int32} (hcl : Cond.classLink own ix RX4 ∈ lw_g) (hn : ¬ n < 0) (hfit : mN M + 1 ≤ CAP ∧ mU M + n.toNatClampNeg ≤ CAPU) (hM : M1 = nw M 102 n.toNatClampNeg n.toNatClampNeg) (hd : decode cc pc = .ok (.anewarray ix, 3)) (k2 : Sg p l e R s m args below meth c Q G M0 nL (pc + 3) vs (.ref (gB G + mN M) :: st) M1) : Sg p l e R s m args below meth c Q G M0 nL pc vs (.int n :: st) M := by
  subst hM
  intro hk0 H locs ls hl hP hS T0 hT Y
  have hz := s_size X hk0 hT hP hS Y
  obtain ⟨hx, hb, hown, hts, hK, ⟨hR1, hR2, -, -⟩, -, -, -⟩ := id X
  obtain ⟨hk1, ea, eb⟩ := nw_ok (t := 102) (ln := n.toNatClampNeg) hk0 hfit
  refine W.anew hx hb hown (hts _ hcl) (va_AO.use X.2.2.2.2.2.2.1.2.1) (g := F0 m pc ls (.int n :: st)) rfl hd rfl hn ?_ ?_ ?_ (fun cA kA comp f1 f2 f3 f4 => ?_) T0 hT Y
  · have := hfit.2
    simp only [CAPU] at this
    omega
  · rw [hR1]; have := hk0.1; omega
  · rw [hR2]; have := hk0.2.1; omega
  · rw [ea, eb]
    obtain ⟨_, _, _, _, _, h4⟩ := (hK.2 2 _ rfl).2
    have hcA : cA = gP G := Option.some.inj (f1.symm.trans h4)
    subst hcA
    have he : ent G (nw M 102 n.toNatClampNeg n.toNatClampNeg) (mN M) = .inl (gP G, n.toNatClampNeg, .inr (.inr (.inr (.inr (fun _ => none))))) := by
      rw [ent_P (by simp [mC, nw])]
      have e2 : (fun j => rO (gB G) (mR (nw M 102 n.toNatClampNeg n.toNatClampNeg) (mN M) j)) = fun _ => none := funext fun j => by simp [mR, nw, rO]
      rw [e2]
      simp [mLn, nw]
    generalize hH1 : H.push ({ cls := gP G, slots := Array.replicate n.toNatClampNeg .null, vm := .none } : Cell) = H1
    have z1 : H1.size = gB G + mN M + 1 := by rw [← hH1, Array.size_push, hz]
    have e1 : H1[gB G + mN M]? = some (arrV (gP G) n.toNatClampNeg (fun _ => .null)) := by rw [← hH1, ← hz, Array.getElem?_push_size, ← arrV_new]
    have o1 : ∀ q : Nat, q < gB G + mN M → H1[q]? = H[q]? := fun q hq => by rw [← hH1, Array.getElem?_push, if_neg (by omega)]
    rw [hz]
    refine k2 hk1 H1 locs ls hl ?_ (nw_S hS hz z1 o1)
    rw [ren_nw0 he]
    exact nw_P hP hz o1 e1
theorem s_copy (X : Cx p R s m args c G M0 cc own nL fr lo) {a b : Nat} {sp dp n : Int32} (hlk : Cond.methodLink own ix arraycopyName ∈ lw_g) (hnat : Cond.native arraycopyName ∈ lw_g) (hstat : Cond.static arraycopyName ∈ lw_g) (hini : Cond.initialized "java/lang/System" ∈ lw_g) (ha : isO M 100 a) (hb : isO M 100 b) (h1 : ¬ sp < 0) (h2 : ¬ dp < 0) (h3 : ¬ n < 0) (h4 : sp.toNatClampNeg + n.toNatClampNeg ≤ mLn M a) (h5 : dp.toNatClampNeg + n.toNatClampNeg ≤ mLn M b)
    (hR : 1 ≤ fr ∧ (st.map fun v => v.category).sum + (nativeFrameWords "java/lang/System" "arraycopy" 5 + 11) ≤ lo) (hM : M1 = cpI M a sp.toNatClampNeg b dp.toNatClampNeg n.toNatClampNeg) (hd : decode cc pc = .ok (.invokestatic ix, 3)) (k2 : Sg p l e R s m args below meth c Q G M0 nL (pc + 3) vs st M1) : Sg p l e R s m args below meth c Q G M0 nL pc vs (.int n :: .int dp :: .ref (gB G + b) :: .int sp :: .ref (gB G + a) :: st) M := by
  subst hM
  intro hk0 H locs ls hl hP hS
  have r1 := X.2.2.2.2.2.1.2.2.1
  have r2 := X.2.2.2.2.2.1.2.2.2
  exact va_copyi X.1 X.2.1 (X.2.2.2.2.2.2.2.1.trans hl.1.symm) X.2.2.1 (X.2.2.2.1 _ hlk) (X.2.2.2.1 _ hnat) (X.2.2.2.1 _ hstat) (X.2.2.2.1 _ hini) X.2.2.2.2.1 hP (ren_D G M) hS a b 0 0 (by rw [ren_at ha.1, ent_I ha.2]) (by rw [ren_at hb.1, ent_I hb.2]) rfl rfl rfl h1 h2 h3 h4 h5 (fun _ _ => rfl) (Nat.le_trans hR.1 r1) (Nat.le_trans hR.2 r2) hd (fun H1 locs1 hP1 _ hS1 => k2 hk0 H1 locs1 ls hl (by rw [ren_cp hb]; exact hP1) hS1)
theorem s_gets (X : Cx p R s m args c G M0 cc own nL fr lo) {C n d : String} {v : Value} (hZ : va_Z C n d v (gA G) s s.heap) (hw : Cond.fieldLink own ix C n d ∈ lw_g) (hd : decode cc pc = .ok (.getstatic ix, 3)) (k2 : Sg p l e R s m args below meth c Q G M0 nL (pc + 3) vs (v :: st) M) : Sg p l e R s m args below meth c Q G M0 nL pc vs st M :=
  fun hk0 H locs ls hl hP hS => va_gets X.1 X.2.1 hZ hS X.2.2.1 (X.2.2.2.1 _ hw) (fun _ h => h) hd (k2 hk0 H locs ls hl hP hS)
theorem s_sti (X : Cx p R s m args c G M0 cc own nL fr lo) {t N : Nat} {f : Nat → Value} {i : Int32} (hT : va_T .int t N f (gA G) s s.heap) (hi : vp_in i N) (hd : decode cc pc = .ok (.iaload, 1)) (k2 : Sg p l e R s m args below meth c Q G M0 nL (pc + 1) vs (f i.toNatClampNeg :: st) M) : Sg p l e R s m args below meth c Q G M0 nL pc vs (.int i :: .ref t :: st) M := by
  intro hk0 H locs ls hl hP hS
  obtain ⟨cell, e1, e2, e3, e4, -, e6, e7⟩ := hT
  have hlt : t < s.heap.size := (Array.getElem?_eq_some_iff.mp e1).1
  have hi2 : i.toNatClampNeg < N := Nat.not_le.mp fun q => hi (Or.inr q)
  exact W.iald (v := f i.toNatClampNeg) X.1 X.2.1 (by rw [hS.2.1 t hlt e7]; exact e1) e2 e3 (by rintro (h | h); exact hi (Or.inl h); omega) (e6 _ hi2) rfl rfl hd (k2 hk0 H locs ls hl hP hS)
theorem s_stl (X : Cx p R s m args c G M0 cc own nL fr lo) {t N : Nat} {f : Nat → Value} {i : Int32} (hT : va_T .long t N f (gA G) s s.heap) (hi : vp_in i N) (hd : decode cc pc = .ok (.laload, 1)) (k2 : Sg p l e R s m args below meth c Q G M0 nL (pc + 1) vs (f i.toNatClampNeg :: st) M) : Sg p l e R s m args below meth c Q G M0 nL pc vs (.int i :: .ref t :: st) M := by
  intro hk0 H locs ls hl hP hS
  obtain ⟨cell, e1, e2, e3, e4, -, e6, e7⟩ := hT
  have hlt : t < s.heap.size := (Array.getElem?_eq_some_iff.mp e1).1
  have hi2 : i.toNatClampNeg < N := Nat.not_le.mp fun q => hi (Or.inr q)
  exact W.lald (v := f i.toNatClampNeg) X.1 X.2.1 (by rw [hS.2.1 t hlt e7]; exact e1) e2 e3 (by rintro (h | h); exact hi (Or.inl h); omega) (e6 _ hi2) rfl rfl hd (k2 hk0 H locs ls hl hP hS)

theorem s_mmax (X : Cx p R s m args c G M0 cc own nL fr lo) {x y : Int32} (hlk : Cond.methodLink own ix Lib.Math.max.name ∈ lw_g) (hst0 : Cond.static Lib.Math.max.name ∈ lw_g) (hini : Cond.initialized "java/lang/Math" ∈ lw_g) (hco : Cond.code Lib.Math.max.name Lib.Math.max.code 2 (some .int) ∈ lw_g) (hR : 1 ≤ fr ∧ (st.map fun v => v.category).sum + 13 ≤ lo) (hd : decode cc pc = .ok (.invokestatic ix, 3)) (k2 : Sg p l e R s m args below meth c Q G M0 nL (pc + 3) vs (.int (if x < y then y else x) :: st) M) : Sg p l e R s m args below meth c Q G M0 nL pc vs (.int y :: .int x :: st) M := by
  intro hk0 H locs ls hl hP hS
  obtain ⟨r1, r2, r3, r4⟩ := X.2.2.2.2.2.1
  obtain ⟨q1, q2, q3, q4⟩ := id hk0
  exact va_mmax X.1 X.2.1 (X.2.2.2.2.2.2.2.1.trans hl.1.symm) X.2.2.1 (X.2.2.2.1 _ hlk) (X.2.2.2.1 _ hst0) (X.2.2.2.1 _ hini) (X.2.2.2.1 _ hco) (Nat.le_trans hR.1 r3) (Nat.le_trans hR.2 r4) (by rw [r1]; omega) (by rw [r2]; omega) hd (k2 hk0 H locs ls hl hP hS)
theorem s_mmin (X : Cx p R s m args c G M0 cc own nL fr lo) {x y : Int32} (hlk : Cond.methodLink own ix Lib.Math.min.name ∈ lw_g) (hst0 : Cond.static Lib.Math.min.name ∈ lw_g) (hini : Cond.initialized "java/lang/Math" ∈ lw_g) (hco : Cond.code Lib.Math.min.name Lib.Math.min.code 2 (some .int) ∈ lw_g) (hR : 1 ≤ fr ∧ (st.map fun v => v.category).sum + 13 ≤ lo) (hd : decode cc pc = .ok (.invokestatic ix, 3)) (k2 : Sg p l e R s m args below meth c Q G M0 nL (pc + 3) vs (.int (if y < x then y else x) :: st) M) : Sg p l e R s m args below meth c Q G M0 nL pc vs (.int y :: .int x :: st) M := by
  intro hk0 H locs ls hl hP hS
  obtain ⟨r1, r2, r3, r4⟩ := X.2.2.2.2.2.1
  obtain ⟨q1, q2, q3, q4⟩ := id hk0
  exact va_mmin X.1 X.2.1 (X.2.2.2.2.2.2.2.1.trans hl.1.symm) X.2.2.1 (X.2.2.2.1 _ hlk) (X.2.2.2.1 _ hst0) (X.2.2.2.1 _ hini) (X.2.2.2.1 _ hco) (Nat.le_trans hR.1 r3) (Nat.le_trans hR.2 r4) (by rw [r1]; omega) (by rw [r2]; omega) hd (k2 hk0 H locs ls hl hP hS)
theorem s_mmaxl (X : Cx p R s m args c G M0 cc own nL fr lo) {x y : Int64} (hlk : Cond.methodLink own ix Lib.MathLoose.max_long.x ∈ lw_g) (hst0 : Cond.static Lib.MathLoose.max_long.x ∈ lw_g) (hini : Cond.initialized "java/lang/Math" ∈ lw_g) (hco : Cond.code Lib.MathLoose.max_long.x Lib.MathLoose.max_long.code 4 (some .long) ∈ lw_g) (hR : 1 ≤ fr ∧ (st.map fun v => v.category).sum + 15 ≤ lo) (hd : decode cc pc = .ok (.invokestatic ix, 3)) (k2 : Sg p l e R s m args below meth c Q G M0 nL (pc + 3) vs (.long (if y < x then x else y) :: st) M) : Sg p l e R s m args below meth c Q G M0 nL pc vs (.long y :: .long x :: st) M := by
  intro hk0 H locs ls hl hP hS
  obtain ⟨r1, r2, r3, r4⟩ := X.2.2.2.2.2.1
  obtain ⟨q1, q2, q3, q4⟩ := id hk0
  exact va_mmax_long X.1 X.2.1 (X.2.2.2.2.2.2.2.1.trans hl.1.symm) X.2.2.1 (X.2.2.2.1 _ hlk) (X.2.2.2.1 _ hst0) (X.2.2.2.1 _ hini) (X.2.2.2.1 _ hco) (Nat.le_trans hR.1 r3) (Nat.le_trans hR.2 r4) (by rw [r1]; omega) (by rw [r2]; omega) hd (k2 hk0 H locs ls hl hP hS)
end
