/-! ===== the class meets a state, whole ===== -/
section
variable {X0 Y0 N : Nat} {t : Int32} {Q : Nat → Int32} {S : St} {pb pt : List Row4} {M : Mem} {e dC : Nat}
theorem XQ.cg {M' : Mem} {dC' : Nat} {l : List (St × Nat)} (h : XQ N M dC l) (h5 : ∀ b, mI M' 115 b = mI M 115 b) (h6 : ∀ b, mI M' 116 b = mI M 116 b) (hC : ∀ j, j < offs N l l.length → mI M' dC' j = mI M dC j) : XQ N M' dC' l := by
  refine ⟨fun i hi => by rw [h5]; exact h.1 i hi, fun i p hp => ⟨fun j x hx => ?_, by rw [h6]; exact (h.2 i p hp).2⟩⟩
  have a := offs_s (N := N) hp
  have b := gl_lt hx
  have c := gl_lt hp
  have d := offs_mono (N := N) (l := l) (l.length - (i + 1)) (i + 1)
  rw [show i + 1 + (l.length - (i + 1)) = l.length by omega] at d
  rw [hC _ (by omega)]
  exact (h.2 i p hp).1 j x hx
set_option maxHeartbeats 4000000 in
theorem SV.meet (h : SV X0 Y0 t N Q pb pt S M e dC) (hX : X0 ≤ 100000) (hY : Y0 ≤ 1000000) (h16 : N ≤ 16) {A P most dd n : Nat} {S0 Sm : St} {q : Bq} {ask : Int32} {sn : Nat → Int32} (hA : A + 50 < 1048576) (h40 : most ≤ 40) (hP : P + 40 * N < 9000) (hQ : ∀ v, v < N → qm N S v = Q v) (gq : GQ N A P most S0 q) (g : GS N A P S0 S dd) (hdd : dd ≤ 40) (hm : SE S Sm) (sq : SQ N ask sn most M e dC q) (hn : 20000 ≤ n) : ∃ M' e' dC', f_X6_meet n 114 (nI dd) M = some M' ∧ SV X0 Y0 t N Q pb pt S M' e' dC' ∧ SQ N ask sn most M' e' dC' (met1 most q Sm dd) ∧ FrQ M M' dC dC' := by
  have hI := g.1
  have so : Sok N S := ⟨h16, fun v hv w hw => by have := ((hI.2.2.2.2.2.1 v hv).1.2.2 w hw).1; omega, fun v hv => (hI.1 v hv).2.2.2⟩
  have hfl : ∀ {T : St} {d : Nat}, GS N A P S0 T d → d ≤ 40 → (fl T).length < 9000 := fun {T d} gT hd => by
    have := gT.2.1.2.2
    have : N * d ≤ N * 40 := Nat.mul_le_mul_left _ hd
    have := fl_PhS T
    omega
  have hle : ∀ p, p ∈ q.1 → (ser N p.1).length ≤ 18434 ∧ (fl p.1).length < 9000 ∧ p.2 ≤ 40 := fun p hp => by
    obtain ⟨j, hj, ej⟩ := List.mem_iff_getElem.mp hp
    obtain ⟨g1, g2⟩ := gq.2.2 j p (by rw [List.getElem?_eq_getElem hj, ej])
    have := gq.1
    have l1 := hfl g2 (by omega)
    have := ser_len (S := p.1) h16
    exact ⟨by omega, l1, by omega⟩
  have flS := hfl g hdd
  have hsl : (ser N S).length ≤ 18434 := by have := ser_len (S := S) h16; omega
  have ho := offs_le (N := N) (l := q.1) (fun p hp => (hle p hp).1)
  have hq40 : q.1.length ≤ 40 := Nat.le_trans gq.1 h40
  have ho40 : offs N q.1 q.1.length ≤ 737360 := by
    have := ho q.1.length
    have : 18434 * q.1.length ≤ 18434 * 40 := Nat.mul_le_mul_left _ hq40
    omega
  obtain ⟨sx, s2, s3, s4, s5, s6, s7, s8, s9, s10, s11, s12⟩ := sq
  obtain ⟨L, xx, c, p⟩ := id h
  have hC := c.2.2.2.1
  have hN := xx.2.2.2.2
  obtain ⟨M1, d1, e1, V1, k1, w1, f1⟩ := h.save hX hY so s3 hq40 (sx.1 q.1.length (Nat.le_refl _)) s2 (by omega) (n := n) (by omega)
  have F1 := f1.q
  have o1 : ∀ o, 115 ≤ o → o ≤ 118 → ∀ b, mI M1 o b = mI M o b := fun o a b => f1.2.2.2.1 o (by omega) (by omega) (by omega)
  have g1 := f1.2.2.2.2.1
  have sx1 : XQ N M1 d1 q.1 := sx.cg (o1 115 (by decide) (by decide)) (o1 116 (by decide) (by decide)) k1
  have sq1 : ∀ b : Bool, (mI M1 114 15 = if b then 1 else 0) → SQ N ask sn most M1 (offs N q.1 q.1.length + (ser N S).length) d1 (q.1, b) := fun b hb => ⟨sx1, by show offs N q.1 q.1.length ≤ _; omega, by rw [g1 10 (by decide)]; exact s3, by rw [g1 8 (by decide)]; exact s4, by rw [g1 9 (by decide)]; exact s5, fun v hv => by rw [o1 118 (by decide) (by decide)]; exact s6 v hv, by rw [g1 11 (by decide)]; exact s7, by rw [g1 12 (by decide)]; exact s8, by rw [g1 13 (by decide)]; exact s9, by rw [g1 14 (by decide)]; exact s10, hb, fun i p hp => by rw [o1 117 (by decide) (by decide)]; exact s12 i p hp⟩
  obtain ⟨L1, x1, c1, p1⟩ := id V1
  obtain ⟨r, er, hr⟩ := known_l (S := S) x1 c1 sx1 (by rw [g1 10 (by decide)]; exact s3) hq40 w1 ho hsl (fun p hp => (hle p hp).1) q.1.length 0 n (by omega) (by omega)
  have hd1 := c1.2.2.2.1
  have dn4 : d1 ≠ 114 := by omega
  have dF : ¬ (114 ≤ d1 ∧ d1 ≤ 118) := by omega
  have hk := knw_ser h16 hA h40 hP hdd gq g hm
  have head : ∀ y : Option Mem, (if (if r then (1 : Int32) else 0) = 0 then (if nI q.1.length < nI most then (bnd (sI M1 116 q.1.length (nI dd)) fun M15 => bnd (mR M15 114 3) fun o19 => chk (isO M15 100 o19) <| bnd (mR M15 114 0) fun o22 => chk (isO M15 2 o22) <| chk (inB (mI M15 114 10) (mLn M15 o19)) <| bnd (sI M15 o19 ((mI M15 114 10)).toNatClampNeg (mI M15 o22 7)) fun M26 => bnd (sI M26 114 14 (if (mI M26 114 14) < nI dd then nI dd else (mI M26 114 14))) fun M32 => bnd (mR M32 114 0) fun o38 => chk (isO M32 2 o38) <| bnd (mR M32 o38 1) fun o41 => chk (isO M32 5 o41) <| bnd (sI M32 114 13 (if (mI M32 114 13) < (mI M32 o41 10) then (mI M32 o41 10) else (mI M32 114 13))) fun M44 => bnd (mR M44 114 0) fun o52 => chk (isO M44 2 o52) <| obd (f_J6_bitCount_0f7a4 (mI M44 o52 7) M44) fun r56 => if r56 < (2 : Int32) then f_X6_meet_112 n 114 (0 : Int32) (mI M44 114 11) 114 M44 else f_X6_meet_112 n 114 (1 : Int32) (mI M44 114 11) 114 M44) else some (sI M1 114 15 1)) else some M1) = y → f_X6_meet n 114 (nI dd) M = y := by
    intro y hy
    have i16 : ∀ x : Option Mem, q.1.length < most → chk (inB (nI q.1.length) (mLn M1 116)) x = x := fun x hx => by
      refine chk_t ?_
      rw [x1.2.2.2.1.2.1]; exact inB_n (by omega) (by decide)
    rw [f_X6_meet, chk_t xx.1, e1, obd_s, chk_t x1.1, f_X6_isKnown, show f_X6_isKnown_2 M1 n 114 0 = _ from er, obd_s, g1 10 (by decide), s3, g1 8 (by decide), s4]
    rw [← hy]
    by_cases z : q.1.length < most
    · rw [if_pos (nI_ltx z (by omega)), if_pos (nI_ltx z (by omega)), x1.2.1.2.2.1, bnd_e, chk_t x1.2.2.1.2.1, i16 _ z, sI_c (by omega)]
    · rw [if_neg (nI_nl (by omega) (by omega)), if_neg (nI_nl (by omega) (by omega)), chk_t (show bz (1 : Int32) by decide), bnd_e]
  cases r with
  | true =>
    have kt := hk.mpr (hr.mp rfl)
    refine ⟨M1, _, d1, head _ (by rw [if_neg (by decide)]), V1, ?_, F1⟩
    unfold met1
    rw [if_pos kt]
    exact sq1 q.2 (by rw [g1 15 (by decide)]; exact s11)
  | false =>
    have kf : ¬ knw q.1 Sm = true := fun z => absurd (hr.mpr (hk.mp z)) (by decide)
    by_cases z : q.1.length < most
    · have x1N := x1.2.2.2.2
      have q1 := p1.1
      have r7 : mI M1 63 7 = mkS S 2 := b_ext (fun i hi => by rw [p1.2.2.1.2.1 i hi, mkS_b hi])
      have fS : (fl Sm).length = (fl S).length := (len_lq (fl_lk.mp hm.2.2)).symm
      have cm9 : cMx q.1 ≤ 9000 := cMx_le (fun p hp => by have := (hle p hp).2.1; omega)
      have cd9 : cDp q.1 ≤ 40 := cDp_le (fun p hp => (hle p hp).2.2)
      generalize hMa : sI M1 116 q.1.length (nI dd) = Ma
      generalize hMb : sI Ma 117 q.1.length (mkS S 2) = Mb
      generalize hMc : sI Mb 114 14 (nI (max (cDp q.1) dd)) = Mc
      generalize hMd : sI Mc 114 13 (nI (max (cMx q.1) (fl S).length)) = Md
      have sa : Ma.1 = M1.1 := by rw [← hMa]; rfl
      have sb : Mb.1 = M1.1 := by rw [← hMb]; exact sa
      have sc : Mc.1 = M1.1 := by rw [← hMc]; exact sb
      have sd : Md.1 = M1.1 := by rw [← hMd]; exact sc
      have oa : ∀ o, o ≠ 116 → ∀ b, mI Ma o b = mI M1 o b := fun o n b => by rw [← hMa, mI_o _ _ _ _ _ n]
      have ob : ∀ o, o ≠ 116 → o ≠ 117 → ∀ b, mI Mb o b = mI M1 o b := fun o n n' b => by rw [← hMb, mI_o _ _ _ _ _ n', oa o n]
      have oc : ∀ o, o ≠ 116 → o ≠ 117 → o ≠ 114 → ∀ b, mI Mc o b = mI M1 o b := fun o n n' m b => by rw [← hMc, mI_o _ _ _ _ _ m, ob o n n']
      have od : ∀ o, o ≠ 116 → o ≠ 117 → o ≠ 114 → ∀ b, mI Md o b = mI M1 o b := fun o n n' m b => by rw [← hMd, mI_o _ _ _ _ _ m, oc o n n' m]
      have c4 : ∀ b, b ≠ 14 → mI Mc 114 b = mI M1 114 b := fun b n => by rw [← hMc, mI_n _ _ _ _ n, ob 114 (by decide) (by decide)]
      have d4 : ∀ b, b ≠ 13 → b ≠ 14 → mI Md 114 b = mI M1 114 b := fun b n n' => by rw [← hMd, mI_n _ _ _ _ n, c4 b n']
      have Vd : SV X0 Y0 t N Q pb pt S Md (offs N q.1 q.1.length + (ser N S).length) d1 := V1.at5 sd (fun o n b => od o (by omega) (by omega) (by omega) b) (d4 6 (by decide) (by decide))
      have c12 : mI Md 114 12 = nI (cStk N ask sn q.1) := by rw [d4 12 (by decide) (by decide), g1 12 (by decide)]; exact s8
      have c11 : mI Md 114 11 = nI (cTwo N q.1) := by rw [d4 11 (by decide) (by decide), g1 11 (by decide)]; exact s7
      have c10 : mI Md 114 10 = nI q.1.length := by rw [d4 10 (by decide) (by decide), g1 10 (by decide)]; exact s3
      have tail : ∀ u0 : Int32, f_X6_meet_112 n 114 u0 (mI Md 114 11) 114 Md = _ := fun u0 => m112 Vd (n := n) (m := q.1.length) (ask := ask) (sn := sn) (u0 := u0) (u1 := mI Md 114 11) hI h16 hQ (by rw [d4 9 (by decide) (by decide), g1 9 (by decide)]; exact s5) (fun v hv => by rw [od 118 (by decide) (by decide) (by decide), o1 118 (by decide) (by decide)]; exact s6 v hv) c10 (by omega) c12 (by omega)
      have bits : ∀ w, w < 32 → bt (mkS S 2) w = decide (w < N ∧ xR S 0 w = 2) := fun w hw => by
        rw [mkS_b hw]
        refine decide_eq_decide.mpr ⟨fun x => ⟨?_, x.2⟩, fun x => ⟨by omega, x.2⟩⟩
        rcases Nat.lt_or_ge w N with y | y
        · exact y
        · have := (hI.1 w x.1).2.1 y
          rw [this] at x
          exact absurd x.2 (by decide)
      have bc := f_bcx (x := mkS S 2) (fun i a b => by rw [mkS_b b]; exact decide_eq_false (fun x => by omega)) Md
      rw [pc_mask bits] at bc
      have m63 : mI Md 63 7 = mkS S 2 := by rw [od 63 (by decide) (by decide) (by decide)]; exact r7
      have lhs : f_X6_meet n 114 (nI dd) M = some (sI (sI (sI (sI Md 114 11 (nI (cTwo N q.1 + if sTwo N S then 1 else 0))) 114 12 (nI (cStk N ask sn q.1 + if sStk N ask sn S then 1 else 0))) 114 10 (nI (q.1.length + 1))) 115 (q.1.length + 1) (nI (offs N q.1 q.1.length + (ser N S).length))) := by
        refine head _ ?_
        have xa := x1.e sa
        have xb := x1.e sb
        have xc := x1.e sc
        have xd := x1.e sd
        have qa := q1.e sa
        have qc := q1.e sc
        have qd := q1.e sd
        have l17 : mLn Ma 117 = 40 := xa.2.2.2.1.2.2.1
        have a10 : mI Ma 114 10 = nI q.1.length := by rw [oa 114 (by decide), g1 10 (by decide)]; exact s3
        have b14 : mI Mb 114 14 = nI (cDp q.1) := by rw [ob 114 (by decide) (by decide), g1 14 (by decide)]; exact s10
        have c13 : mI Mc 114 13 = nI (cMx q.1) := by rw [c4 13 (by decide), g1 13 (by decide)]; exact s9
        have c64 : mI Mc (63 + 1) 10 = nI (fl S).length := by rw [oc _ (by decide) (by decide) (by decide)]; exact p1.tot
        rw [if_pos (by decide), if_pos (nI_ltx z (by omega)), hMa, bnd_e, xa.2.1.2.2.2.1, bnd_e, chk_t xa.2.2.1.2.2.1, xa.2.1.1, bnd_e, cs_f qa, a10, l17, chk_t (inB_n (by omega) (by decide)), sI_c (by omega), oa 63 (by decide), r7, hMb, bnd_e, b14, nI_max (by omega) (by omega), hMc, bnd_e, xc.2.1.1, bnd_e, cs_f qc, cs_h1 qc, bnd_e, cs_p qc, c13, c64, nI_max (by omega) (by omega), hMd, bnd_e, xd.2.1.1, bnd_e, cs_f qd, m63, bc, obd_s]
        by_cases w : pcI N S ≤ 1
        · rw [if_pos (show nI (pcI N S) < (2 : Int32) from nI_ltx (b := 2) (by omega) (by decide)), tail, c11]
          have : sTwo N S = false := by unfold sTwo; rw [decide_eq_true w]; rfl
          rw [this, Int32.add_zero]; rfl
        · have l32 : pcI N S < 2 ^ 31 := by
            unfold pcI
            refine Nat.lt_of_le_of_lt (List.length_filter_le _ _) ?_
            rw [List.length_range]; decide
          rw [if_neg (show ¬ nI (pcI N S) < (2 : Int32) from nI_nl (b := 2) (by omega) l32), tail, c11]
          have : sTwo N S = true := by unfold sTwo; rw [decide_eq_false w]; rfl
          rw [this, nI_1]; rfl
      generalize hMe : sI (sI (sI (sI Md 114 11 (nI (cTwo N q.1 + if sTwo N S then 1 else 0))) 114 12 (nI (cStk N ask sn q.1 + if sStk N ask sn S then 1 else 0))) 114 10 (nI (q.1.length + 1))) 115 (q.1.length + 1) (nI (offs N q.1 q.1.length + (ser N S).length)) = Me at lhs
      have se : Me.1 = M1.1 := by rw [← hMe]; exact sd
      have oe : ∀ o, o ≠ 114 → o ≠ 115 → ∀ b, mI Me o b = mI Md o b := fun o n n' b => by rw [← hMe, mI_o _ _ _ _ _ n', mI_o _ _ _ _ _ n, mI_o _ _ _ _ _ n, mI_o _ _ _ _ _ n]
      have e4 : ∀ b, b ≠ 10 → b ≠ 11 → b ≠ 12 → mI Me 114 b = mI Md 114 b := fun b n n' n'' => by rw [← hMe, mI_o _ _ _ _ _ (by decide), mI_n _ _ _ _ n, mI_n _ _ _ _ n'', mI_n _ _ _ _ n']
      have e15 : ∀ b, b ≠ q.1.length + 1 → mI Me 115 b = mI M1 115 b := fun b n => by rw [← hMe, mI_n _ _ _ _ n, mI_o _ _ _ _ _ (by decide), mI_o _ _ _ _ _ (by decide), mI_o _ _ _ _ _ (by decide), od 115 (by decide) (by decide) (by decide)]
      have e16 : ∀ b, mI Me 116 b = if b = q.1.length then nI dd else mI M1 116 b := fun b => by
        rw [oe 116 (by decide) (by decide), ← hMd, mI_o _ _ _ _ _ (by decide), ← hMc, mI_o _ _ _ _ _ (by decide), ← hMb, mI_o _ _ _ _ _ (by decide), ← hMa, mI_sI]
        by_cases y : b = q.1.length
        · rw [if_pos ⟨rfl, y⟩, if_pos y]
        · rw [if_neg (fun x => y x.2), if_neg y]
      have e17 : ∀ b, mI Me 117 b = if b = q.1.length then mkS S 2 else mI M1 117 b := fun b => by
        rw [oe 117 (by decide) (by decide), ← hMd, mI_o _ _ _ _ _ (by decide), ← hMc, mI_o _ _ _ _ _ (by decide), ← hMb, mI_sI, oa 117 (by decide)]
        by_cases y : b = q.1.length
        · rw [if_pos ⟨rfl, y⟩, if_pos y]
        · rw [if_neg (fun x => y x.2), if_neg y]
      have eo : ∀ o, ¬ (114 ≤ o ∧ o ≤ 118) → ∀ b, mI Me o b = mI M1 o b := fun o n b => by rw [oe o (by omega) (by omega), od o (by omega) (by omega) (by omega)]
      have mkc : mkS Sm 2 = mkS S 2 := b_ext (fun i hi => by
        rw [mkS_b hi, mkS_b hi]
        by_cases y : i < 16
        · rw [hm.1 0 i (by omega) y]
        · rw [decide_eq_false (fun x => y x.1), decide_eq_false (fun x => y x.1)])
      have lp : (q.1 ++ [(Sm, dd)])[q.1.length]? = some (Sm, dd) := by
        rw [List.getElem?_append_right (Nat.le_refl _), Nat.sub_self]; rfl
      have esr : ser N Sm = ser N S := (ser_c hm h16).symm
      have of1 : offs N (q.1 ++ [(Sm, dd)]) (q.1.length + 1) = offs N q.1 q.1.length + (ser N S).length := by
        rw [offs_s lp, offs_ap (Nat.le_refl _)]
        show _ + (ser N Sm).length = _
        rw [esr]
      have ll : (q.1 ++ [(Sm, dd)]).length = q.1.length + 1 := by rw [List.length_append]; rfl
      have cse : ∀ {i : Nat} {p : St × Nat}, (q.1 ++ [(Sm, dd)])[i]? = some p → (i < q.1.length ∧ q.1[i]? = some p) ∨ (i = q.1.length ∧ p = (Sm, dd)) := fun {i p} hp => by
        by_cases y : i < q.1.length
        · rw [List.getElem?_append_left y] at hp; exact Or.inl ⟨y, hp⟩
        · have y2 := gl_lt hp
          rw [ll] at y2
          have y3 : i = q.1.length := by omega
          rw [y3, lp] at hp
          exact Or.inr ⟨y3, (Option.some.inj hp).symm⟩
      have esk : sStk N ask sn S = sStk N ask sn Sm := by
        unfold sStk
        rw [hm.ask0 h16, (hm.sy.tmv h16 ask (fun _ _ => rfl) : mvl N S ask sn = mvl N Sm ask sn)]
      refine ⟨Me, _, d1, lhs, Vd.at5 (se.trans sd.symm) (fun o n b => oe o (by omega) (by omega) b) (e4 6 (by decide) (by decide) (by decide)), ?_, F1.tr (FrQ.of se eo (fun o b => by rw [← hMe, ← hMd, ← hMc, ← hMb, ← hMa]; rfl))⟩
      unfold met1
      rw [if_neg kf, if_pos z]
      refine ⟨⟨fun i hi => ?_, fun i p hp => ⟨fun j x hx => ?_, ?_⟩⟩, ?_, ?_, ?_, ?_, fun v hv => ?_, ?_, ?_, ?_, ?_, ?_, fun i p hp => ?_⟩
      · show mI Me 115 i = _
        by_cases y : i = q.1.length + 1
        · rw [y, of1, ← hMe, mI_s]
        · have hi' : i ≤ q.1.length + 1 := by rw [← ll]; exact hi
          rw [e15 i y, offs_ap (by omega)]
          exact sx1.1 i (by omega)
      · rcases cse hp with ⟨y, hp'⟩ | ⟨y, hp'⟩
        · rw [offs_ap (by omega), eo d1 dF]
          exact (sx1.2 i p hp').1 j x hx
        · rw [y, offs_ap (Nat.le_refl _), eo d1 dF]
          rw [hp'] at hx
          exact w1 j x (by rw [← esr]; exact hx)
      · rw [e16]
        rcases cse hp with ⟨y, hp'⟩ | ⟨y, hp'⟩
        · rw [if_neg (by omega)]; exact (sx1.2 i p hp').2
        · rw [if_pos y, hp']
      · show offs N (q.1 ++ [(Sm, dd)]) (q.1 ++ [(Sm, dd)]).length ≤ _
        rw [ll, of1]; exact Nat.le_refl _
      · show mI Me 114 10 = nI (q.1 ++ [(Sm, dd)]).length
        rw [ll, ← hMe, mI_o _ _ _ _ _ (by decide), mI_s]
      · rw [e4 8 (by decide) (by decide) (by decide), d4 8 (by decide) (by decide), g1 8 (by decide)]; exact s4
      · rw [e4 9 (by decide) (by decide) (by decide), d4 9 (by decide) (by decide), g1 9 (by decide)]; exact s5
      · rw [oe 118 (by decide) (by decide), od 118 (by decide) (by decide) (by decide), o1 118 (by decide) (by decide)]; exact s6 v hv
      · show mI Me 114 11 = nI (cTwo N (q.1 ++ [(Sm, dd)]))
        rw [← hMe, mI_o _ _ _ _ _ (by decide), mI_n _ _ _ _ (by decide), mI_n _ _ _ _ (by decide), mI_s]
        unfold cTwo
        rw [ct_s, hm.two h16]
      · show mI Me 114 12 = nI (cStk N ask sn (q.1 ++ [(Sm, dd)]))
        rw [← hMe, mI_o _ _ _ _ _ (by decide), mI_n _ _ _ _ (by decide), mI_s]
        unfold cStk
        rw [ct_s, esk]
      · show mI Me 114 13 = nI (cMx (q.1 ++ [(Sm, dd)]))
        rw [e4 13 (by decide) (by decide) (by decide), ← hMd, mI_s, cMx_s]
        show _ = nI (max (cMx q.1) (fl Sm).length)
        rw [fS]
      · show mI Me 114 14 = nI (cDp (q.1 ++ [(Sm, dd)]))
        rw [e4 14 (by decide) (by decide) (by decide), ← hMd, mI_n _ _ _ _ (by decide), ← hMc, mI_s, cDp_s]
      · rw [e4 15 (by decide) (by decide) (by decide), d4 15 (by decide) (by decide), g1 15 (by decide)]; exact s11
      · rw [e17]
        rcases cse hp with ⟨y, hp'⟩ | ⟨y, hp'⟩
        · rw [if_neg (by omega), o1 117 (by decide) (by decide)]; exact s12 i p hp'
        · rw [if_pos y, hp']; exact mkc.symm
    · have hs : SQ N ask sn most (sI M1 114 15 1) (offs N q.1 q.1.length + (ser N S).length) d1 (q.1, true) := by
        obtain ⟨a1, a2, a3, a4, a5, a6, a7, a8, a9, a10, a11, a12⟩ := sq1 q.2 (by rw [g1 15 (by decide)]; exact s11)
        have n4 : ∀ b, b ≠ 15 → mI (sI M1 114 15 1) 114 b = mI M1 114 b := fun b n => mI_n _ _ _ _ n
        have n5 : ∀ o, o ≠ 114 → ∀ b, mI (sI M1 114 15 1) o b = mI M1 o b := fun o n b => mI_o _ _ _ _ _ n
        exact ⟨a1.cg (n5 115 (by decide)) (n5 116 (by decide)) (fun j _ => n5 d1 dn4 j), a2, (n4 10 (by decide)).trans a3, (n4 8 (by decide)).trans a4, (n4 9 (by decide)).trans a5, fun v hv => (n5 118 (by decide) v).trans (a6 v hv), (n4 11 (by decide)).trans a7, (n4 12 (by decide)).trans a8, (n4 13 (by decide)).trans a9, (n4 14 (by decide)).trans a10, mI_s _ _ _ _, fun i p hp => (n5 117 (by decide) i).trans (a12 i p hp)⟩
      refine ⟨sI M1 114 15 1, _, d1, head _ (by rw [if_pos (by decide), if_neg (nI_nl (by omega) (by omega))]), V1.at5 rfl (fun o n b => mI_o _ _ _ _ _ (by omega)) (mI_n _ _ _ _ (by decide)), ?_, F1.tr (FrQ.of rfl (fun o n b => mI_o _ _ _ _ _ (by omega)) (fun _ _ => rfl))⟩
      unfold met1
      rw [if_neg kf, if_neg z]
      exact hs
end
