/-! ===== weakest, chance, chanceOf, pivotal, better: both answer ===== -/
theorem CW.sv {M M' : Mem} {N : Nat} {Q : Nat → Int32} {S : St} (h : CW M N Q S) (f : Fs M M') (v : SV5 M' N) (h1 : mI M' 5 7 = 1) : CW M' N Q S := by
  obtain ⟨X, Y, L, p, sb, xg, xc, xv, xs, g, hL⟩ := h
  obtain ⟨e, hI⟩ := f
  have s1 : Shp1 M M' := Shp1.e e
  exact ⟨X, Y, L, p.kp6 e (fun o ho b => hI o (by omega) b), sb.e e (hI 1 (by decide)) (hI 2 (by decide)), xg.s s1, xc.s s1 (hI 113 (by decide)) (fun _ _ => rfl), ⟨v.1.1, v.1.2.1, v.1.2.2, Or.inr ⟨h1, v.2.1.2.1, v.2.1.2.2, v.2.2.2.1, v.2.2.2.2⟩⟩, xs.e e (fun o ho b => hI o (by omega) b), g.e e, hL⟩
theorem FrLg.f {M M' : Mem} (h : FrLg M M') : Fs M M' := ⟨h.1, fun o _ b => h.2 o b⟩
/-- the class has surveyed -/
theorem WJ.sv {M : Mem} {N A i n : Nat} {Q : Nat → Int32} {S : St} (w : WJ M N A i Q S) (hn : 2000 ≤ n) : ∃ M1, f_X9_surveyOnce n 0 M = some M1 ∧ Fs M M1 ∧ SV5 M1 N ∧ mI M1 5 7 = 1 := by
  obtain ⟨X, Y, L, p, sb, xg, xc, xv, xr⟩ := id w.1
  have sw := w.2.2.2.1
  have h2 := sw.n2
  have h16 := sw.n16
  exact sv1 xg xv sb (by omega) h16 (fun v hv i a b => sw.bi v hv i (by omega) b) (by omega)
theorem WJ.sv2 {M M1 : Mem} {N A i : Nat} {Q : Nat → Int32} {S : St} (w : WJ M N A i Q S) (f : Fs M M1) (v : SV5 M1 N) (h1 : mI M1 5 7 = 1) : CW M1 N Q S ∧ XG M1 ∧ SB M1 N S ∧ RV M1 false 0 S [] [] ∧ mI M1 120 7 = 0 ∧ isO M1 10 120 := by
  have cw := w.1.sv f v h1
  obtain ⟨X, Y, L, p, sb, xg, _⟩ := id cw
  have r : RV M1 false 0 S [] [] := w.2.1.mr (by unfold mN; rw [f.1]; exact Nat.le_refl _) (fun o a b => ⟨by rw [f.1], fun b => mR_e f.1 o b, f.2 o (by omega)⟩)
  exact ⟨cw, xg, sb, r, by rw [f.2 120 (by decide)]; exact w.2.2.1, r.1.io (by decide) (by decide) (by decide)⟩
theorem WJ.p2 {M M1 M2 : Mem} {N A i : Nat} {Q : Nat → Int32} {S : St} (w : WJ M N A i Q S) (cw : CW M1 N Q S) (z1 : mI M1 120 7 = 0) (r2 : RV M2 false 0 S [] []) (f : Fr P2 M1 M2) : WI (i + 1) M2 :=
  ⟨N, A, Q, S, cw.ref f.1 (fun o ho b => f.2.1 o (fun z => ho (by unfold P2 at z; omega)) b), r2, by rw [f.2.1 120 (by unfold P2; decide)]; exact z1, w.2.2.2.1.mo, w.2.2.2.2⟩
theorem isI_o {a : Int32} {K : Nat} (hK : K < 999) (h : Out (K + 1) a) {M : Mem} : f_X10_isIn a (0 : Int32) (nI K) M = some 0 := by
  rw [f_X10_isIn]
  by_cases q : a < 0
  · rw [if_pos q]
  · rw [if_neg q, if_pos (gt3 (N := K) (by omega) (h.resolve_left q))]
theorem op13 {M : Mem} {i n : Nat} (h : WI i M) (a : Int32) (hn : 100000 ≤ n) : Oks i (f_X9_weakest n 0 a M) (fun M1 => f_X10_weakest n 120 a M1) := by
  obtain ⟨N, A, Q, S, w⟩ := h
  have sw := w.2.2.2.1
  have h16 := sw.n16
  obtain ⟨X, Y, L, p, sb, xg, xr⟩ := id w.1
  rcases out_in (N := 2) (by decide) a with ha | ⟨u, hu, rfl⟩
  · refine (Okk.same w (r := -1) ?_ ?_).ks
    · rw [f_X9_weakest]
      by_cases q : a < 0
      · rw [if_pos q]
      · rw [if_neg q, if_neg (show ¬ a ≤ (1 : Int32) from Int32.not_le.mpr (gt3 (N := 1) (by decide) (ha.resolve_left q)))]
    · show f_X10_weakest n 120 a M = _
      rw [f_X10_weakest, show f_X10_isIn a (0 : Int32) (1 : Int32) M = some 0 from isI_o (K := 1) (by decide) ha, obd_s, if_pos rfl]
  · obtain ⟨M1, e1, f1, v1, o1⟩ := w.sv (n := n) (by omega)
    obtain ⟨cw, xg1, sb1, r1, z1, io⟩ := w.sv2 f1 v1 o1
    have u1 := us_b h16
    obtain ⟨y, ey⟩ := v1.2.2.ls h16 (us6 N) 0 n (-1) 17 (by omega) (by omega)
    have ey' : f_X1_leastStop n 8 M1 = some y := ey
    have cls : ∃ x, f_X9_weakest n 0 (nI u) M = some (x, M1) := by
      rw [f_X9_weakest, if_neg (show ¬ nI u < 0 from nI_nlt (b := 0) (Nat.zero_le _) (by omega)), if_pos (show nI u ≤ (1 : Int32) from nI_le (b := 1) (by omega) (by decide)), chk_t xg.1, e1, obd_s, chk_t xg1.1, xg1.2.2.1, bnd_e, chk_t v1.1.1.1, v1.1.2.1.2.1, bnd_e, chk_t v1.1.1.2.2.2.1, ey', obd_s]
      obtain ⟨z, ez⟩ := j6 y M1
      split
      · exact ⟨_, by rw [ez, obd_s]⟩
      · exact ⟨_, rfl⟩
    obtain ⟨x, ec⟩ := cls
    have p := p16 h16
    obtain ⟨x', M2, e2, r2, f2⟩ := rwk_l sw.n h16 sw.t (nI u) (2 ^ N - 1) (2 ^ N - 1) n M1 r1 (by omega) (by omega) (by omega)
    refine ⟨x, x', M1, M2, ec, io, ?_, w.p2 cw z1 r2 f2⟩
    show f_X10_weakest n 120 (nI u) M1 = _
    have i1 : f_X10_isIn (nI u) (0 : Int32) (1 : Int32) M1 = some 1 := f_isI (b := 1) M1 (show u ≤ 1 by omega) (by decide)
    rw [f_X10_weakest, i1, obd_s, if_neg ne10, rs_f r1.1, r1.al sw.n h16, obd_s, obd_s]
    exact e2
theorem mil {M1 : Mem} {N n : Nat} (h16 : N ≤ 16) (v1 : SV5 M1 N) {a b : Int32} (ha : a = -1 ∨ ∃ v, v < 16 ∧ a = nI v) (hn : 2000 ≤ n) : ∃ x M2, f_X8_millionths n 5 a b (nI N) M1 = some (x, M2) ∧ FrLg M1 M2 := by
  obtain ⟨x, M2, e, f⟩ := m8_l h16 (v2 := b) ha (N + 1) 0 n M1 (by omega) v1.1 v1.2.2 (by omega)
  exact ⟨x, M2, e, f⟩
theorem op15 {M : Mem} {i n : Nat} (h : WI i M) (a : Int32) (hn : 100000 ≤ n) : Oks i (f_X9_chance n 0 a M) (fun M1 => f_X10_chance n 120 a M1) := by
  obtain ⟨N, A, Q, S, w⟩ := h
  have sw := w.2.2.2.1
  have h16 := sw.n16
  obtain ⟨X, Y, L, p, sb, xg, xr⟩ := id w.1
  rcases out_in (N := 11) (by decide) a with ha | ⟨u, hu, rfl⟩
  · refine (Okk.same w (r := -1) ?_ ?_).ks
    · rw [f_X9_chance]
      by_cases q : a < 0
      · rw [if_pos q]
      · rw [if_neg q, if_neg (show ¬ a ≤ (10 : Int32) from Int32.not_le.mpr (gt3 (N := 10) (by decide) (ha.resolve_left q)))]
    · show f_X10_chance n 120 a M = _
      rw [f_X10_chance, show f_X10_isIn a (0 : Int32) (10 : Int32) M = some 0 from isI_o (K := 10) (by decide) ha, obd_s, if_pos rfl]
  · obtain ⟨M1, e1, f1, v1, o1⟩ := w.sv (n := n) (by omega)
    obtain ⟨_, xg1, sb1, _⟩ := w.sv2 f1 v1 o1
    obtain ⟨x, M2, e2, l2⟩ := mil h16 v1 (a := -1) (b := nI u) (n := n) (Or.inl rfl) (by omega)
    obtain ⟨cw, xg2, sb2, r2, z2, io⟩ := w.sv2 (f1.tr l2.f) (v1.l l2) (by rw [l2.2]; exact o1)
    obtain ⟨x', M3, e3, r3, f3⟩ := rch_l sw.n h16 sw.t (nI u) (2 ^ N) 0 n 0 M2 r2 (by omega) (by have := p16 h16; omega)
    refine ⟨x, x', M2, M3, ?_, io, ?_, w.p2 cw z2 r3 f3⟩
    · rw [f_X9_chance, if_neg (show ¬ nI u < 0 from nI_nlt (b := 0) (Nat.zero_le _) (by omega)), if_pos (show nI u ≤ (10 : Int32) from nI_le (b := 10) (by omega) (by decide)), chk_t xg.1, e1, obd_s, chk_t xg1.1, xg1.2.2.1, bnd_e, chk_t v1.1.1.1, xg1.2.1, bnd_e, sb1.f, sb1.n, e2, obd2_s]
    · show f_X10_chance n 120 (nI u) M2 = _
      rw [f_X10_chance, show (10 : Int32) = nI 10 from rfl, f_isI M2 (show u ≤ 10 by omega) (by decide), obd_s, if_neg ne10]
      exact e3
theorem op16 {M : Mem} {i n : Nat} (h : WI i M) (a b : Int32) (hn : 100000 ≤ n) : Oks i (f_X9_chanceOf n 0 a b M) (fun M1 => f_X10_chanceOf n 120 a b M1) := by
  obtain ⟨N, A, Q, S, w⟩ := h
  have sw := w.2.2.2.1
  have h16 := sw.n16
  have h2 := sw.n2
  obtain ⟨X, Y, L, p, sb, xg, xr⟩ := id w.1
  have r := w.2.1
  rcases out_in (N := N) (by omega) a with ha | ⟨v, hv, rfl⟩
  · refine (Okk.same w (r := -1) ?_ ?_).ks
    · rw [f_X9_chanceOf, chk_t xg.1, xg.2.1, bnd_e, sb.f, ndc0 sb ha, obd_s, if_pos rfl]
    · show f_X10_chanceOf n 120 a b M = _
      rw [f_X10_chanceOf, rs_f r.1, ndr0 r sw.n (by omega) h16 ha, obd_s, if_pos rfl]
  · rcases out_in (N := 11) (by decide) b with hb | ⟨u, hu, rfl⟩
    · refine (Okk.same w (r := -1) ?_ ?_).ks
      · rw [f_X9_chanceOf, chk_t xg.1, xg.2.1, bnd_e, sb.f, ndc sb hv h16, obd_s, if_neg ne10]
        by_cases q : b < 0
        · rw [if_pos q]
        · rw [if_neg q, if_neg (show ¬ b ≤ (10 : Int32) from Int32.not_le.mpr (gt3 (N := 10) (by decide) (hb.resolve_left q)))]
      · show f_X10_chanceOf n 120 (nI v) b M = _
        rw [f_X10_chanceOf, rs_f r.1, ndr r sw.n hv h16, obd_s, if_neg ne10, show f_X10_isIn b (0 : Int32) (10 : Int32) M = some 0 from isI_o (K := 10) (by decide) hb, obd_s, if_pos rfl]
    · obtain ⟨M1, e1, f1, v1, o1⟩ := w.sv (n := n) (by omega)
      obtain ⟨_, xg1, sb1, _⟩ := w.sv2 f1 v1 o1
      obtain ⟨x, M2, e2, l2⟩ := mil h16 v1 (a := nI v) (b := nI u) (n := n) (Or.inr ⟨v, by omega, rfl⟩) (by omega)
      obtain ⟨cw, xg2, sb2, r2, z2, io⟩ := w.sv2 (f1.tr l2.f) (v1.l l2) (by rw [l2.2]; exact o1)
      obtain ⟨x', M3, e3, r3, f3⟩ := rco_l sw.n h16 sw.t (v := v) (by omega) (nI u) (2 ^ N) 0 n 0 M2 r2 (by omega) (by have := p16 h16; omega)
      refine ⟨x, x', M2, M3, ?_, io, ?_, w.p2 cw z2 r3 f3⟩
      · rw [f_X9_chanceOf, chk_t xg.1, xg.2.1, bnd_e, sb.f, ndc sb hv h16, obd_s, if_neg ne10, if_neg (show ¬ nI u < 0 from nI_nlt (b := 0) (Nat.zero_le _) (by omega)), if_pos (show nI u ≤ (10 : Int32) from nI_le (b := 10) (by omega) (by decide)), e1, obd_s, chk_t xg1.1, xg1.2.2.1, bnd_e, chk_t v1.1.1.1, xg1.2.1, bnd_e, sb1.f, sb1.n, e2, obd2_s]
      · show f_X10_chanceOf n 120 (nI v) (nI u) M2 = _
        rw [f_X10_chanceOf, rs_f r2.1, ndr r2 sw.n hv h16, obd_s, if_neg ne10, show (10 : Int32) = nI 10 from rfl, f_isI M2 (show u ≤ 10 by omega) (by decide), obd_s, if_neg ne10]
        exact e3
theorem op18 {M : Mem} {i n : Nat} (h : WI i M) (a : Int32) (hn : 100000 ≤ n) : ∃ x x' M1, f_X9_pivotal n 0 a M = some (x, M1) ∧ isO M1 10 120 ∧ f_X10_pivotal n 120 a M1 = some x' ∧ WI (i + 1) M1 := by
  obtain ⟨N, A, Q, S, w⟩ := h
  have sw := w.2.2.2.1
  have h16 := sw.n16
  have h2 := sw.n2
  obtain ⟨X, Y, L, p, sb, xg, xr⟩ := id w.1
  have r := w.2.1
  rcases out_in (N := N) (by omega) a with ha | ⟨v, hv, rfl⟩
  · exact ⟨-1, -1, M, by rw [f_X9_pivotal, chk_t xg.1, xg.2.1, bnd_e, sb.f, ndc0 sb ha, obd_s, if_pos rfl], r.1.io (by decide) (by decide) (by decide), by rw [f_X10_pivotal, rs_f r.1, ndr0 r sw.n (by omega) h16 ha, obd_s, if_pos rfl], w.mo⟩
  · obtain ⟨M1, e1, f1, v1, o1⟩ := w.sv (n := n) (by omega)
    obtain ⟨cw, xg1, sb1, r1, z1, io⟩ := w.sv2 f1 v1 o1
    have u1 := us_b h16
    obtain ⟨x, ex⟩ := v1.2.1.tb h16 (v := v) (by omega) (us6 N) 0 n 0 (by omega) (by omega)
    have ex' : f_X1_turnedBy n 6 (nI v) M1 = some x := ex
    obtain ⟨x', ey⟩ := rpv_l r1 sw.n h16 (v := v) (by omega) (2 ^ N) 0 n 0 (by omega) (by have := p16 h16; omega)
    refine ⟨x, x', M1, ?_, io, ?_, N, A, Q, S, cw, r1, z1, sw.mo, w.2.2.2.2⟩
    · rw [f_X9_pivotal, chk_t xg.1, xg.2.1, bnd_e, sb.f, ndc sb hv h16, obd_s, if_neg ne10, e1, obd_s, chk_t xg1.1, xg1.2.2.1, bnd_e, chk_t v1.1.1.1, v1.1.2.1.1, bnd_e, chk_t v1.1.1.2.1, ex', obd_s]
    · rw [f_X10_pivotal, rs_f r1.1, ndr r1 sw.n hv h16, obd_s, if_neg ne10]
      exact ey
theorem op20 {M : Mem} {i n : Nat} (h : WI i M) (hn : 100000 ≤ n) : ∃ x x' M1, f_X9_better n 0 M = some (x, M1) ∧ isO M1 10 120 ∧ f_X10_better n 120 M1 = some x' ∧ WI (i + 1) M1 := by
  obtain ⟨N, A, Q, S, w⟩ := h
  have sw := w.2.2.2.1
  have h16 := sw.n16
  have h2 := sw.n2
  obtain ⟨X, Y, L, p, sb, xg, xr⟩ := id w.1
  obtain ⟨M1, e1, f1, v1, o1⟩ := w.sv (n := n) (by omega)
  obtain ⟨cw, xg1, sb1, r1, z1, io⟩ := w.sv2 f1 v1 o1
  have u1 := us_b h16
  have p2 := p16 h16
  obtain ⟨x, ex⟩ := v1.2.1.lb h16 (us6 N) 0 n (by omega) (by omega)
  have ex' : f_X1_leastBetter n 6 M1 = some x := ex
  obtain ⟨x', ey⟩ := rbt_l r1 sw.n h16 (2 ^ N - 1) 1 n (by omega) (by omega)
  refine ⟨x, x', M1, ?_, io, ey, N, A, Q, S, cw, r1, z1, sw.mo, w.2.2.2.2⟩
  rw [f_X9_better, chk_t xg.1, e1, obd_s, chk_t xg1.1, xg1.2.2.1, bnd_e, chk_t v1.1.1.1, v1.1.2.1.1, bnd_e, chk_t v1.1.1.2.1, ex', obd_s]
