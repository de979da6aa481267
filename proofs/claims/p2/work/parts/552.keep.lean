/-! ===== the class starts anew, whole ===== -/
theorem HV.kp {M M' : Mem} {h X Y N : Nat} {t : Int32} {Q : Nat → Int32} {S : St} {pb pt : List Row4} (p : HV M h X Y t N Q S pb pt) (e : M'.1 = M.1) (hI : ∀ o, (o = 1 ∨ (h ≤ o ∧ o < h + 49) ∨ 131 ≤ o) → ∀ b, mI M' o b = mI M o b) : HV M' h X Y t N Q S pb pt := by
  obtain ⟨q, pv, hp, rm, ⟨lb, lt⟩, hN, hQ⟩ := p
  have hq := q.2.2.2.2
  have lo : ∀ o, h ≤ o → o < h + 49 → ∀ b, mI M' o b = mI M o b := fun o a c b => hI o (by omega) b
  refine ⟨q.e e, ?_, hp.cg (fun o ho b => lo o (by omega) (by omega) b) (fun _ _ _ => rfl) rfl, ?_, ⟨lb.cg (fun b => lo _ (by omega) (by omega) b) (fun b => lo _ (by omega) (by omega) b), lt.cg (fun b => lo _ (by omega) (by omega) b) (fun b => lo _ (by omega) (by omega) b)⟩, by rw [hI 1 (Or.inl rfl)]; exact hN, fun v hv => by rw [lo _ (by omega) (by omega)]; exact hQ v hv⟩
  · obtain ⟨d5, d6, d7, len, K, fr, us, ow, w, hK⟩ := pv
    obtain ⟨_, _, _, y5, y6, y7, _⟩ := id w.1
    exact ⟨d5, d6, d7, len, K, fr, us, ow, w.cg (w.1.e e) (Nat.le_refl _) w.2.2.2.2.2.2.2.2.2.1.2.2.2.1 (fun i a c b => lo _ (by omega) (by omega) b) (fun b _ => hI _ (by omega) b) (fun b _ => hI _ (by omega) b) (fun b _ => hI _ (by omega) b), hK⟩
  · unfold Rm mN mU mLn mR at rm ⊢
    rw [e]; exact rm
theorem Shp1.e {M M' : Mem} (e : M'.1 = M.1) : Shp1 M M' := ⟨by unfold mN; rw [e]; exact Nat.le_refl _, fun i _ => by rw [e], fun a b _ _ => by unfold mR; rw [e]⟩
theorem GR.e {M M' : Mem} {L : Nat} (g : GR M L) (e : M'.1 = M.1) : GR M' L := by
  unfold GR mN mU mLn mR at *
  rw [e]; exact g
theorem XS.e {M M' : Mem} {L : Nat} (x : XS M L) (e : M'.1 = M.1) (hI : ∀ o, (74 ≤ o ∧ o ≤ 77) ∨ o = 114 ∨ o = 115 → ∀ b, mI M' o b = mI M o b) : XS M' L := by
  obtain ⟨e', dC, e5, e6, e7, len, pb, pt, sx, cl, q, ⟨ds, d64, d18⟩, ⟨lb, lt⟩, z0, dj⟩ := x
  have hR : ∀ a b, mR M' a b = mR M a b := fun a b => mR_e e a b
  exact ⟨e', dC, e5, e6, e7, len, pb, pt, sx.e e, cl.e e (hI 114 (by omega) 6), q.e e, ⟨ds.e e, d64, d18⟩, ⟨lb.cg (hI 74 (by omega)) (hI 75 (by omega)), lt.cg (hI 76 (by omega)) (hI 77 (by omega))⟩, by rw [hI 115 (by omega)]; exact z0, fun j a b => by rw [hR]; refine ⟨(dj j a b).1, fun i c d => by rw [hR]; exact (dj j a b).2 i c d⟩⟩
/-- the class has made its sets anew -/
def MC (N : Nat) (C : Nat → Int32) (tr : Int32) (M M' : Mem) : Prop := M'.1 = M.1 ∧ (∀ o, ¬ (1 ≤ o ∧ o ≤ 3) → ∀ b, mI M' o b = mI M o b) ∧ mI M' 1 3 = nI N ∧ mI M' 1 4 = tr ∧ (∀ v, v < N → mI M' 2 v = C v) ∧ ∀ o b, mL M' o b = mL M o b
set_option maxHeartbeats 1000000 in
theorem CW.anew {M M1 : Mem} {N N' n : Nat} {Q B : Nat → Int32} {S : St} {tr : Int32} (h : CW M N Q S) (m : MC N' B tr M M1) (h16 : N' ≤ 16) (hn : 400 ≤ n) : ∃ M2, f_X9_startAnew n 0 M1 = some (nI N', M2) ∧ CW M2 N' B (fS0 N' B tr) ∧ M2.1 = M.1 ∧ (∀ o, 119 ≤ o → o < 131 → ∀ b, mI M2 o b = mI M o b) ∧ (∀ o b, mL M2 o b = mL M o b) ∧ mI M2 5 7 = 0 := by
  obtain ⟨X, Y, L, p, sb, xg, xc, ⟨xv, _⟩, xs, g, hL⟩ := h
  obtain ⟨m1, m2, m3, m4, m5, m6⟩ := m
  have io : ∀ {c o}, isO M c o → isO M1 c o := fun z => by unfold isO mN mC at *; rw [m1]; exact z
  have sb1 : SB M1 N' (fS0 N' B tr) := by
    obtain ⟨⟨a1, a2, a3, a4⟩, ⟨b1, b2, b3⟩, ⟨c1, c2, c3⟩, _⟩ := sb
    exact ⟨⟨io a1, io a2, io a3, io a4⟩, ⟨by rw [mR_e m1]; exact b1, by rw [mR_e m1]; exact b2, by rw [mR_e m1]; exact b3⟩, ⟨by rw [mLn_e m1]; exact c1, by rw [mLn_e m1]; exact c2, by rw [mLn_e m1]; exact c3⟩, m3, m4, m5⟩
  have q1 : CS M1 14 := p.1.e m1
  have xg1 : XG M1 := xg.s (Shp1.e m1)
  obtain ⟨l30, l40⟩ : mI M1 25 0 = nI 30 ∧ mI M1 27 0 = nI 40 := by
    rw [m2 25 (by omega), m2 27 (by omega)]
    exact ⟨p.2.2.2.2.1.1.1, p.2.2.2.2.1.2.1⟩
  have d57 := p.d57
  obtain ⟨d5, d6, d7, len, K, fr, us, ow, w, _⟩ := p.2.1
  have ds := w.1
  have hlen : mLn M (mR M (14 + 1) 5) = len := by rw [ds.1.1]; exact ds.2.2.1.1
  have u := (d57 5 (by decide) (by decide)).2.2
  rw [hlen] at u
  obtain ⟨Ma, ea, sa, pa, fa, la⟩ := hl_clear (n := n) h16 q1 (ds.e m1) u.1 u.2 l30 l40 sb1 hn
  have xga : XG Ma := xg1.s (Shp1.e sa)
  have xca : isO Ma 0 112 ∧ mR Ma 112 0 = 113 ∧ isO Ma 100 113 ∧ mLn Ma 113 = 256 := by
    have e := sa.trans m1
    refine ⟨?_, by rw [mR_e e]; exact xc.2.1, ?_, by rw [mLn_e e]; exact xc.2.2.2.1⟩
    · have := xc.1; unfold isO mN mC at *; rw [e]; exact this
    · have := xc.2.2.1; unfold isO mN mC at *; rw [e]; exact this
  obtain ⟨Mb, eb, sb', fb, gb, hb⟩ := f_fill (x := 1) (o := 113) (len := 256) (n := n) (M := Ma) (by decide) xca.2.2.1 xca.2.2.2 (by omega)
  have xgb : XG Mb := xga.s (Shp1.e sb')
  generalize hMc : sI Mb 5 7 0 = Mc
  have sc : Mc.1 = Mb.1 := by rw [← hMc]; rfl
  have S : Mc.1 = M.1 := sc.trans (sb'.trans (sa.trans m1))
  have xgc : XG Mc := xgb.s (Shp1.e sc)
  have oc : ∀ o, o ≠ 5 → ∀ b, mI Mc o b = mI Mb o b := fun o n b => by rw [← hMc, mI_o _ _ _ _ _ n]
  have oab : ∀ o, o ≠ 5 → o ≠ 113 → ∀ b, mI Mc o b = mI Ma o b := fun o n1 n2 b => by rw [oc o n1, gb o n2]
  have ob : ∀ o, o ≠ 5 → o ≠ 113 → ¬ (14 ≤ o ∧ o < 63) → ∀ b, mI Mc o b = mI M1 o b := fun o n1 n2 n3 b => by rw [oab o n1 n2, fa o n3]
  have sbc : SB Mc N' (fS0 N' B tr) := sb1.e (sc.trans (sb'.trans sa)) (fun b => ob 1 (by decide) (by decide) (by omega) b) (fun b => ob 2 (by decide) (by decide) (by omega) b)
  have gc : GR Mc L := g.e S
  have iv : isO Mb 8 5 := by have := xv.1.1; unfold isO mN mC at *; rw [sb'.trans (sa.trans m1)]; exact this
  refine ⟨Mc, ?_, ⟨_, _, L, ((pa _ _ ((g.e (m1)).r14 hL)).kp (sc.trans sb') (fun o ho b => oab o (by omega) (by omega) b)), sbc, xgc, ?_, ?_, xs.e S (fun o ho b => by rw [ob o (by omega) (by omega) (by omega), m2 o (by omega)]), gc, hL⟩, S, fun o h1 h2 b => by rw [ob o (by omega) (by omega) (by omega), m2 o (by omega)], fun o b => by rw [← hMc]; exact (hb o b).trans ((la o b).trans (m6 o b)), by rw [← hMc, mI_s]⟩
  · rw [f_X9_startAnew, chk_t xg1.1, xg1.2.2.2.1, bnd_e, cs_f q1, ea, obd_s, chk_t xga.1, xga.2.2.2.2.2.1, bnd_e, chk_t xca.1, show f_X0_clear n 112 Ma = some Mb by rw [f_X0_clear, chk_t xca.1, xca.2.1, bnd_e, chk_t xca.2.2.1, eb, obd_s], obd_s, chk_t xgb.1, xgb.2.2.1, bnd_e, chk_t iv, chk_t (Or.inl rfl), hMc, bnd_e, xgc.2.1, bnd_e, sbc.f, sbc.n]
  · obtain ⟨a, b, c, d, e⟩ := xc.s (Shp1.e (M' := M) rfl) (fun _ => rfl) (fun _ _ => rfl)
    refine ⟨?_, by rw [mR_e S]; exact b, ?_, by rw [mLn_e S]; exact d, fun l hl => ?_⟩
    · unfold isO mN mC at *; rw [S]; exact a
    · unfold isO mN mC at *; rw [S]; exact c
    · exact ⟨by rw [oc 113 (by decide), fb l hl]; rfl, 1, by decide, by decide, rfl⟩
  · obtain ⟨⟨a1, a2, a3, a4, a5, a6, a7, a8, a9⟩, ⟨b1, b2, b3, b4, b5, b6, b7, b8⟩, ⟨c1, c2, c3, c4, c5, c6⟩, d⟩ := xv
    have io' : ∀ {c o}, isO M c o → isO Mc c o := fun z => by unfold isO mN mC at *; rw [S]; exact z
    have r : ∀ o k, mR Mc o k = mR M o k := fun o k => mR_e S o k
    have l : ∀ o, mLn Mc o = mLn M o := fun o => mLn_e S o
    refine ⟨⟨⟨io' a1, io' a2, io' a3, io' a4, io' a5, io' a6, io' a7, io' a8, io' a9⟩, ⟨?_, ?_, ?_, ?_, ?_, ?_, ?_, ?_⟩, ⟨?_, ?_, ?_, ?_, ?_, ?_⟩, Or.inl ?_⟩, fun z => absurd ((show mI Mc 5 7 = 0 by rw [← hMc, mI_s]).symm.trans z) (by decide)⟩
    · rw [r]; exact b1
    · rw [r]; exact b2
    · rw [r]; exact b3
    · rw [r]; exact b4
    · rw [r]; exact b5
    · rw [r]; exact b6
    · rw [r]; exact b7
    · rw [r]; exact b8
    · rw [l]; exact c1
    · rw [l]; exact c2
    · rw [l]; exact c3
    · rw [l]; exact c4
    · rw [l]; exact c5
    · rw [l]; exact c6
    · rw [← hMc, mI_s]
