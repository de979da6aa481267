/-! ===== timed, from any state between the calls ===== -/
theorem WJ.tre {M M2 : Mem} {N A i X0 Y0 : Nat} {Q : Nat → Int32} {S : St} {pb pt : List Row4} (w : WJ M N A i Q S) (tr : TR M 63 X0 Y0 pb pt) (f : FrE M M2) : RV M2 false 0 S [] [] ∧ mI M2 120 7 = 0 := by
  obtain ⟨X, Y, L, p, _⟩ := id w.1
  have hN := p.1.2.2.2.2.2.2
  have fo : ∀ o, 120 ≤ o → o < 131 → M2.1.2.1 o = M.1.2.1 o ∧ (∀ b, mR M2 o b = mR M o b) ∧ ∀ b, mI M2 o b = mI M o b := by
    have r57 : ∀ i, 5 ≤ i → i ≤ 7 → mR M 64 i = 63 + 2 + i ∨ 131 ≤ mR M 64 i := by
      obtain ⟨_, ⟨e5, e6, e7, len, ds, _⟩, _⟩ := tr
      obtain ⟨⟨y5, y6, y7⟩, _, _, x5, x6, x7, _⟩ := ds
      have y5' : mR M 64 5 = e5 := y5
      have y6' : mR M 64 6 = e6 := y6
      have y7' : mR M 64 7 = e7 := y7
      intro i a b
      rcases (show i = 5 ∨ i = 6 ∨ i = 7 by omega) with rfl | rfl | rfl
      · rw [y5']; exact x5
      · rw [y6']; exact x6
      · rw [y7']; exact x7
    have r5 := r57 5 (by decide) (by decide)
    have r6 := r57 6 (by decide) (by decide)
    have r7 := r57 7 (by decide) (by decide)
    intro o a b
    exact ⟨f.2.1 o (by omega), fun c => f.2.2.1 o c (by omega) (by omega), f.2.2.2.1 o (by omega) (by omega) (by omega) (by omega) (by omega)⟩
  exact ⟨w.2.1.mr f.1 fo, by rw [(fo 120 (by decide) (by decide)).2.2]; exact w.2.2.1⟩
theorem FrE.s1 {M M' : Mem} (f : FrE M M') : Shp1 M M' := ⟨f.1, f.2.1, fun a b ha n => f.2.2.1 a b ha (by omega)⟩
theorem fi_ex {M : Mem} {N X Y X' Y' v : Nat} {t : Int32} {Q Q' : Nat → Int32} {S S' : St} {pb pt : List Row4} (xg : XG M) (p14 : HV M 14 X Y 0 N Q S [] []) (p : HV M 63 X' Y' t N Q' S' pb pt) (hv : v < 16) : ∃ y, f_X9_firstInside 0 (nI v) M = some y := by
  have q := p.1
  have q0 := p14.1
  rw [f_X9_firstInside, chk_t xg.1, xg.2.2.2.1, bnd_e, cs_f q0, p14.h7 hv, obd_s]
  by_cases c : xR S 0 v = 2
  · rw [if_pos c, if_neg ne10]; exact ⟨_, rfl⟩
  · rw [if_neg c, if_pos rfl, xg.2.2.2.2.1, bnd_e, cs_f q, cs_h2 q, bnd_e, cs_a10 q, cs_i10 q hv, cs_rpc q hv, bnd_e, cs_po q hv, bnd_e, cs_f q0, cs_h2 q0, bnd_e, cs_a10 q0, cs_i10 q0 hv, cs_rpc q0 hv, bnd_e, cs_po q0 hv]
    by_cases d : mI M (63 + 17 + 2 * v) 11 ≤ mI M (14 + 17 + 2 * v) 11
    · rw [if_pos d, f_X9_firstInside_48, if_pos rfl]; exact ⟨_, rfl⟩
    · rw [if_neg d, f_X9_firstInside_48, if_neg ne10, chk_t xg.1, xg.2.2.2.2.1, bnd_e, cs_f q, cs_h2 q, bnd_e, cs_a10 q, cs_i10 q hv, cs_rpc q hv, bnd_e, cs_po q hv]
      exact ⟨_, rfl⟩
theorem op44 {M : Mem} {i n : Nat} (h : WI i M) (hi : i ≤ 511) (a b c : Int32) (hn : 100000 ≤ n) : Oks i (f_X9_timed n 0 a b c M) (fun M1 => f_X10_timed n 120 a b c M1) := by
  obtain ⟨N, A, Q, S, w⟩ := h
  obtain ⟨X, Y, L, p, sb, xg, xc, xr⟩ := id w.1
  obtain ⟨_, r, z7, sw, hQ⟩ := id w
  have h16 := sw.n16
  have h2 := sw.n2
  have hA := sw.a
  have ps := sw.ps hi
  rcases rng3 (L := 1) (N := 20) (by decide) (by decide) a with ha | ⟨m, h1, h20, rfl⟩
  · refine (Okk.same w (r := -1) ?_ ?_).ks
    · rw [f_X9_timed]
      by_cases q : a < 1
      · rw [if_pos q]
      · rw [if_neg q, if_pos (show (20 : Int32) < a from gt3 (N := 20) (by decide) (ha.resolve_left q))]
    · show f_X10_timed n 120 a b c M = _
      rw [f_X10_timed, show (20 : Int32) = nI 20 from rfl, show (1 : Int32) = nI 1 from rfl]
      rw [is_out3 (by decide) ha, obd_s, if_pos rfl]
  · have m1 : ¬ nI m < (1 : Int32) := nI_nl (a := m) (b := 1) h1 (by omega)
    have m2 : ¬ (20 : Int32) < nI m := nI_nl (a := 20) (b := m) h20 (by decide)
    have im : ∀ M, f_X10_isIn (nI m) (1 : Int32) (20 : Int32) M = some 1 := fun M => is_in3 (L := 1) (N := 20) (by decide) h1 h20
    rcases out_in (N := N) (by omega) b with hb | ⟨v, hv, rfl⟩
    · refine (Okk.same w (r := -1) ?_ ?_).ks
      · rw [f_X9_timed, if_neg m1, if_neg m2, chk_t xg.1, xg.2.1, bnd_e, sb.f, ndc0 sb hb, obd_s, if_pos rfl]
      · show f_X10_timed n 120 (nI m) b c M = _
        rw [f_X10_timed, im, obd_s, if_neg ne10, rs_f r.1, ndr0 r sw.n (by omega) h16 hb, obd_s, if_pos rfl]
    · rcases out_in (N := 5) (by decide) c with hc | ⟨u, hu, rfl⟩
      · refine (Okk.same w (r := -1) ?_ ?_).ks
        · rw [f_X9_timed, if_neg m1, if_neg m2, chk_t xg.1, xg.2.1, bnd_e, sb.f, ndc sb hv h16, obd_s, if_neg ne10]
          by_cases q : c < 0
          · rw [if_pos q]
          · rw [if_neg q, if_neg (show ¬ c ≤ (4 : Int32) from Int32.not_le.mpr (gt3 (N := 4) (by decide) (hc.resolve_left q)))]
        · show f_X10_timed n 120 (nI m) (nI v) c M = _
          have : f_X10_isIn c (0 : Int32) (4 : Int32) M = some 0 := by
            rw [f_X10_isIn]
            by_cases q : c < 0
            · rw [if_pos q]
            · rw [if_neg q, if_pos (show (4 : Int32) < c from gt3 (N := 4) (by decide) (hc.resolve_left q))]
          rw [f_X10_timed, im, obd_s, if_neg ne10, rs_f r.1, ndr r sw.n hv h16, obd_s, if_neg ne10, this, obd_s, if_pos rfl]
      · have hP : smN (fun a => Ph a S) 16 + N ≤ 9000 := by
          show PhS S + N ≤ 9000
          omega
        obtain ⟨X0, Y0, pb, pt, tr, dj, fin⟩ := w.1.tri
        obtain ⟨M1, e1, p1, f1⟩ := p.copy tr (by omega) h16 dj (fun v hv => (sw.inv.1 v hv).2.2.2) (fun v hv w hw => by have := ((sw.inv.2.2.2.2.2.1 v hv).1.2.2 w hw).1; omega) (n := n) (by omega)
        have xk : XK M := ⟨xc.1, xc.2.1, xc.2.2.1, xc.2.2.2.1⟩
        have xk1 := xk.fe f1.E
        have xg1 := xg.s f1.E.s1
        obtain ⟨M2, S2, t2, e2, p2, f2⟩ := cbrun (v2 := nI m) h2 h16 (show A < 1048576 by omega) hP p1 w.gc xk1 (n := n) (by omega)
        have fE := f1.E.tr f2
        have cw := fE.cw p2 fin
        have xk2 := xk.fe fE
        have xg2 := xg.s fE.s1
        obtain ⟨r2, z2⟩ := w.tre tr fE
        have cls : ∃ x M', f_X9_timed n 0 (nI m) (nI v) (nI u) M = some (x, M') ∧ M' = M2 := by
          obtain ⟨_, _, _, p14, _⟩ := id cw
          obtain ⟨y, ey⟩ := fi_ex (v := v) xg2 p14 p2 (by omega)
          have c9 : ∀ x : Option (Int32 × Mem), chk (isO M2 9 0) x = x := fun x => chk_t xg2.1
          have c0 : ∀ x : Option (Int32 × Mem), chk (isO M2 0 112) x = x := fun x => chk_t xk2.1
          have c63 : ∀ x : Option (Int32 × Mem), chk (isO M2 2 63) x = x := fun x => cs_f p2.1 x
          have c14 : ∀ x : Option (Int32 × Mem), chk (isO M2 2 14) x = x := fun x => cs_f p14.1 x
          rw [f_X9_timed, if_neg m1, if_neg m2, chk_t xg.1, xg.2.1, bnd_e, sb.f, ndc sb hv h16, obd_s, if_neg ne10, if_neg (show ¬ nI u < 0 from nI_nlt (b := 0) (by omega) (by omega)), if_pos (show nI u ≤ (4 : Int32) from nI_le (b := 4) (by omega) (by decide)), xg.2.2.2.2.1, bnd_e, cs_f tr.1, xg.2.2.2.1, bnd_e, cs_f p.1, e1, obd_s, chk_t xg1.1, xg1.2.2.2.2.2.1, bnd_e, chk_t xk1.1, xg1.2.2.2.2.1, bnd_e, cs_f p1.1, e2, obd_s]
          simp only [c9, c0, c63, c14, xg2.2.2.2.2.2.1, xg2.2.2.2.2.1, xg2.2.2.2.1, bnd_e, ey, obd_s]
          have z : ∀ x : Int32, ∃ x' M', some (x, M2) = some (x', M') ∧ M' = M2 := fun x => ⟨_, M2, rfl, rfl⟩
          exact ite_ex (z _) (ite_ex (z _) (ite_ex (z _) (ite_ex (z _) (z _))))
        obtain ⟨x, M', ec, rfl⟩ := cls
        -- the reference
        obtain ⟨Ma, ea, pa, sa, oa, ob, la⟩ := r2.as (n := n) (by omega)
        obtain ⟨M3, e3, S3, t3, f3⟩ := rclock (P := fun a => Ph a S) h2 h16 (show A < 1048576 by omega) hP w.gi sw.n (fun l hl => (xc.2.2.2.2 l hl).2) hv (nI m) pa (n := n) (by omega)
        have eb := f_back S3 (n := n) (by omega)
        have S4 : RS (cpF M3 126 121 0) := S3.e rfl
        have ref : ∃ y M4, f_X10_timed n 120 (nI m) (nI v) (nI u) M' = some (y, M4) ∧ M4 = cpF M3 126 121 0 := by
          have c10 : ∀ x : Option (Int32 × Mem), chk (isO (cpF M3 126 121 0) 10 120) x = x := fun x => rs_f S4 x
          rw [f_X10_timed, im, obd_s, if_neg ne10, rs_f r2.1, ndr r2 sw.n hv h16, obd_s, if_neg ne10, show (4 : Int32) = nI 4 from rfl, f_isI M' (show u ≤ 4 by omega) (by decide), obd_s, if_neg ne10, ea, obd_s, rs_f pa.1, e3, obd_s, rs_f S3, eb, obd_s]
          simp only [c10]
          have z : ∀ x : Int32, ∃ x' M4, some (x, cpF M3 126 121 0) = some (x', M4) ∧ M4 = cpF M3 126 121 0 := fun x => ⟨_, _, rfl, rfl⟩
          exact ite_ex (z _) (ite_ex (z _) (ite_ex (z _) (ite_ex (z _) (z _))))
        obtain ⟨y, M4, er, rfl⟩ := ref
        refine ⟨x, y, M', _, ec, r2.1.io (by decide) (by decide) (by decide), er, w.rfb cw r2 z2 (f3.1.trans sa) (fun o ho b => by rw [f3.2.1 o (by omega), oa o (by omega)]) (by rw [t3, r2.2.1]) (by rw [f3.2.2.1 7 (by decide) (by decide), oa 120 (by decide)]) (fun b hb => by rw [f3.2.1 126 (Or.inr rfl)]; exact ob b hb) (fun o _ b => (f3.2.2.2 o b).trans (la o b))⟩
