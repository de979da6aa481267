/-! ===== calls that write into rows of their own alone ===== -/
theorem HV.kp6 {M M' : Mem} {h X Y N : Nat} {t : Int32} {Q : Nat → Int32} {S : St} {pb pt : List Row4} (p : HV M h X Y t N Q S pb pt) (e : M'.1 = M.1) (hI : ∀ o, (o = 1 ∨ (h ≤ o ∧ o < h + 49 ∧ o ≠ h + 16) ∨ 131 ≤ o) → ∀ b, mI M' o b = mI M o b) : HV M' h X Y t N Q S pb pt := by
  obtain ⟨q, pv, hp, rm, ⟨lb, lt⟩, hN, hQ⟩ := p
  have hq := q.2.2.2.2
  have lo : ∀ o, h ≤ o → o < h + 49 → o ≠ h + 16 → ∀ b, mI M' o b = mI M o b := fun o a c n b => hI o (by omega) b
  refine ⟨q.e e, ?_, hp.cg (fun o ho b => lo o (by omega) (by omega) (by omega) b) (fun _ _ _ => rfl) rfl, ?_, ⟨lb.cg (fun b => lo _ (by omega) (by omega) (by omega) b) (fun b => lo _ (by omega) (by omega) (by omega) b), lt.cg (fun b => lo _ (by omega) (by omega) (by omega) b) (fun b => lo _ (by omega) (by omega) (by omega) b)⟩, by rw [hI 1 (Or.inl rfl)]; exact hN, fun v hv => by rw [lo _ (by omega) (by omega) (by omega)]; exact hQ v hv⟩
  · obtain ⟨d5, d6, d7, len, K, fr, us, ow, w, hK⟩ := pv
    obtain ⟨_, _, _, y5, y6, y7, _⟩ := id w.1
    have l3 := w.2.2.2.2.2.2.2.2.2.1.2.2.2.1
    have dd : ∀ d, (d = h + 7 ∨ d = h + 8 ∨ d = h + 9 ∨ 131 ≤ d) → ∀ b, mI M' d b = mI M d b := fun d hd b => hI d (by omega) b
    exact ⟨d5, d6, d7, len, K, fr, us, ow, w.cg (w.1.e e) (Nat.le_refl _) l3 (fun i a c b => lo _ (by omega) (by omega) (by omega) b) (fun b _ => dd _ (by omega) b) (fun b _ => dd _ (by omega) b) (fun b _ => dd _ (by omega) b), hK⟩
  · unfold Rm mN mU mLn mR at rm ⊢
    rw [e]; exact rm
theorem CW.kp {M M' : Mem} {N : Nat} {Q : Nat → Int32} {S : St} (h : CW M N Q S) (e : M'.1 = M.1) (hI : ∀ o, o ≠ 4 → o ≠ 30 → ¬ (120 ≤ o ∧ o ≤ 130) → ∀ b, mI M' o b = mI M o b) (hl : ∀ o b, mL M' o b = mL M o b) : CW M' N Q S := by
  obtain ⟨X, Y, L, p, sb, xg, xc, xv, xs, g, hL⟩ := h
  have s1 : Shp1 M M' := Shp1.e e
  have lo : ∀ o, o < 120 → o ≠ 4 → o ≠ 30 → ∀ b, mI M' o b = mI M o b := fun o a n1 n2 b => hI o n1 n2 (by omega) b
  exact ⟨X, Y, L, p.kp6 e (fun o ho b => hI o (by omega) (by omega) (by omega) b), sb.e e (lo 1 (by omega) (by omega) (by omega)) (lo 2 (by omega) (by omega) (by omega)), xg.s s1, xc.s s1 (lo 113 (by omega) (by omega) (by omega)) (fun _ _ => rfl), xv.s s1 (lo 5 (by omega) (by omega) (by omega)) (lo 6 (by omega) (by omega) (by omega)) (lo 8 (by omega) (by omega) (by omega)) (fun _ o _ b => hl o b) (fun _ => rfl) rfl, xs.e e (fun o ho b => lo o (by omega) (by omega) (by omega) b), g.e e, hL⟩
/-- both answer, and stand as before -/
def Oks (i : Nat) (x : Option (Int32 × Mem)) (y : Mem → Option (Int32 × Mem)) : Prop := ∃ r r' M1 M2, x = some (r, M1) ∧ isO M1 10 120 ∧ y M1 = some (r', M2) ∧ WI (i + 1) M2
theorem Okk.ks {i : Nat} {x : Option (Int32 × Mem)} {y : Mem → Option (Int32 × Mem)} (h : Okk i x y) : Oks i x y := by
  obtain ⟨r, M1, M2, a, b, c, d⟩ := h
  exact ⟨r, r, M1, M2, a, b, c, d⟩
/-- class and reference have written into rows of their own alone -/
theorem WJ.own {M M1 M2 : Mem} {N A i : Nat} {Q : Nat → Int32} {S : St} (w : WJ M N A i Q S) (e1 : M1.1 = M.1) (h1 : ∀ o, o ≠ 4 → o ≠ 30 → ∀ b, mI M1 o b = mI M o b) (r2 : RV M2 false 0 S [] []) (e2 : M2.1 = M1.1) (h2 : ∀ o, ¬ (120 ≤ o ∧ o ≤ 130) → ∀ b, mI M2 o b = mI M1 o b) (z2 : mI M2 120 7 = 0) (hl : ∀ o b, mL M2 o b = mL M o b) : WI (i + 1) M2 := by
  obtain ⟨cw, r, z7, sw, hQ⟩ := w
  exact ⟨N, A, Q, S, cw.kp (e2.trans e1) (fun o n1 n2 n3 b => by rw [h2 o n3, h1 o n1 n2]) hl, r2, z2, sw.mo, hQ⟩
theorem RV.ow {M M1 : Mem} {S : St} (r : RV M false 0 S [] []) (e1 : M1.1 = M.1) (h1 : ∀ o, o ≠ 4 → o ≠ 30 → ∀ b, mI M1 o b = mI M o b) : RV M1 false 0 S [] [] :=
  r.mr (by unfold mN; rw [e1]; exact Nat.le_refl _) (fun o a b => ⟨by rw [e1], fun b => mR_e e1 o b, h1 o (by omega) (by omega)⟩)
/-- stops -/
theorem op12 {M : Mem} {i n : Nat} (h : WI i M) (a : Int32) (hn : 100000 ≤ n) : Oks i (f_X9_stops n 0 a M) (fun M1 => f_X10_stops n 120 a M1) := by
  obtain ⟨N, A, Q, S, w⟩ := h
  obtain ⟨X, Y, L, p, sb, xg, xr⟩ := id w.1
  obtain ⟨_, r, z7, sw, hQ⟩ := id w
  have h16 := sw.n16
  have h2 := sw.n2
  have key : ∃ x M1, f_X7_someQuorum n 1 (a &&& (((1 : Int32) <<< (nI N &&& 31)) - (1 : Int32))) M = some (x, M1) ∧ Fr P4 M M1 := by
    have e20 : ∀ u M1, ∃ x, f_X7_someQuorum_20 n u M1 = some (x, M1) := fun u M1 => by
      rw [f_X7_someQuorum_20]
      split
      · exact ⟨_, rfl⟩
      · exact ⟨_, rfl⟩
    rw [f_X7_someQuorum, sb.f, sb.t]
    rcases sw.t2 with t0 | t1
    · obtain ⟨x, ex⟩ := e20 (fub 0 N S (a &&& (((1 : Int32) <<< (nI N &&& 31)) - (1 : Int32)))) M
      refine ⟨x, M, ?_, Fr.rf _ _⟩
      rw [if_pos t0, f_X7_firstUnbroken, show (0 : Int32) = nI 0 from rfl, fu_l sb h16 _ N 0 n (by omega) (by omega), obd_s, ex]
    · obtain ⟨M1, e1, f1⟩ := wr_l h16 (by omega) (sw.t t1) (a &&& (((1 : Int32) <<< (nI N &&& 31)) - (1 : Int32))) N M n sb (Nat.le_refl _) (fun w _ _ => by omega) (by omega)
      obtain ⟨x, ex⟩ := e20 (wh N (a &&& (((1 : Int32) <<< (nI N &&& 31)) - (1 : Int32))) 0) M1
      refine ⟨x, M1, ?_, f1⟩
      rw [t1, if_neg ne10, f_X7_wholeOfRoot, sb.f, sb.n, bnd_e, e1, obd2_s, ex]
  obtain ⟨x, M1, e1, f1⟩ := key
  have o1 : ∀ o, o ≠ 4 → o ≠ 30 → ∀ b, mI M1 o b = mI M o b := fun o n1 _ b => f1.2.1 o n1 b
  have r1 := r.ow f1.1 o1
  obtain ⟨y, M2, e2, r2, f2⟩ := r1.r12 sw.n h16 sw.t a (n := n) (by omega)
  have cl : ∃ z, f_X9_stops n 0 a M = some (z, M1) := by
    rw [f_X9_stops, chk_t xg.1, xg.2.1, bnd_e, sb.f, bnd_e, sb.f, f_X7_allNodes, sb.f, sb.n, obd_s, e1, obd2_s]
    split
    · exact ⟨_, rfl⟩
    · exact ⟨_, rfl⟩
  obtain ⟨z, ez⟩ := cl
  refine ⟨z, y, M1, M2, ez, r1.1.io (by decide) (by decide) (by decide), e2, w.own f1.1 o1 r2 f2.1 (fun o ho b => f2.2.1 o (fun z => ho (by unfold P2 at z; omega)) b) ?_ (fun o b => (f2.2.2 o b).trans (f1.2.2 o b))⟩
  rw [f2.2.1 120 (by unfold P2; decide), o1 120 (by decide) (by decide)]; exact z7
/-- quorum -/
theorem op8 {M : Mem} {i n : Nat} (h : WI i M) (a b : Int32) (hn : 100000 ≤ n) : ∃ r r' M2, f_X9_quorum 0 a b M = some r ∧ f_X10_quorum n 120 a b M = some (r', M2) ∧ WI (i + 1) M2 := by
  obtain ⟨N, A, Q, S, w⟩ := h
  obtain ⟨_, r, z7, sw, hQ⟩ := id w
  obtain ⟨x, ex⟩ := w.c8 a b
  obtain ⟨y, M2, e2, r2, f2⟩ := r.r8 sw.n sw.n2 sw.n16 sw.t a b (n := n) (by omega)
  refine ⟨x, y, M2, ex, e2, w.own rfl (fun _ _ _ _ => rfl) r2 f2.1 (fun o ho b => f2.2.1 o (fun z => ho (by unfold P2 at z; omega)) b) ?_ (fun o b => f2.2.2 o b)⟩
  rw [f2.2.1 120 (by unfold P2; decide)]; exact z7
/-! ===== delay ===== -/
theorem HV.u19 {M M' : Mem} {h X Y N l : Nat} {t x : Int32} {Q : Nat → Int32} {S : St} {pb pt : List Row4} (p : HV M h X Y t N Q S pb pt) (e : M'.1 = M.1) (hI : ∀ o, (o = 1 ∨ (h ≤ o ∧ o < h + 49) ∨ 131 ≤ o) → ∀ b, mI M' o b = mI M o b) : HV M' h X Y t N Q (uR S 19 l x) pb pt := by
  have p' := p.kp e hI
  obtain ⟨q, pv, hp, rm, lg, hN, hQ⟩ := p'
  have rk : ∀ k i, k ≠ 19 → xR (uR S 19 l x) k i = xR S k i := fun k i n => by rw [xR_uR, if_neg (fun z => n z.1)]
  have lim : ∀ p, p ∈ ft → p.2 ≠ 19 := by decide
  refine ⟨q, ?_, ?_, rm, lg, hN, hQ⟩
  · obtain ⟨d5, d6, d7, len, K, fr, us, ow, w, hK⟩ := pv
    have e16 : xR (uR S 19 l x) 16 = xR S 16 := by funext i; exact rk 16 i (by decide)
    exact ⟨d5, d6, d7, len, K, fr, us, ow, by rw [e16]; exact w, hK⟩
  · obtain ⟨h1, g7, g8, g9, g10, g11, g12, g13, g14, g15⟩ := hp
    refine ⟨fun v hv => ?_, ?_, ?_, ?_, ?_, ?_, ?_, ?_, ?_, ?_⟩
    · obtain ⟨a1, a2, a3, a4, a5⟩ := h1 v hv
      exact ⟨fun q hq => by rw [rk _ _ (lim q hq)]; exact a1 q hq, a2, a3, a4, a5⟩
    · exact g7
    · exact g8
    · exact g9
    · exact g10
    · exact g11
    · exact g12
    · exact g13
    · exact g14
    · exact g15
theorem PB.c19 {N i l : Nat} {x : Int32} {S : St} (h : PB N i S) : PB N (i + 1) (uR S 19 l x) := fun a ha => by
  have e : Ph a (uR S 19 l x) = Ph a S := rfl
  have nb : nbr N (uR S 19 l x) = nbr N S := rfl
  rw [e, nb]
  have := h a ha
  omega
theorem op43 {M : Mem} {i n : Nat} (h : WI i M) (a b c : Int32) (hn : 100000 ≤ n) : Okk i (f_X9_delay 0 a b c M) (fun M1 => f_X10_delay 120 a b c M1) := by
  obtain ⟨N, A, Q, S, w⟩ := h
  obtain ⟨X, Y, L, p, sb, xg, xc, xv, xs, g, hL⟩ := id w.1
  obtain ⟨_, r, z7, sw, hQ⟩ := id w
  have h16 := sw.n16
  have h2 := sw.n2
  rcases out_in (N := N) (by omega) a with ha | ⟨k, hk, rfl⟩
  · refine Okk.same w (r := 0) ?_ ?_
    · rw [f_X9_delay, chk_t xg.1, xg.2.1, bnd_e, sb.f, ndc0 sb ha, obd_s, if_pos rfl]
    · show f_X10_delay 120 a b c M = _
      rw [f_X10_delay, rs_f r.1, ndr0 r sw.n (by omega) h16 ha, obd_s, if_pos rfl]
  · rcases out_in (N := N) (by omega) b with hb | ⟨m, hm, rfl⟩
    · refine Okk.same w (r := 0) ?_ ?_
      · rw [f_X9_delay, chk_t xg.1, xg.2.1, bnd_e, sb.f, ndc sb hk h16, obd_s, if_neg ne10, bnd_e, sb.f, ndc0 sb hb, obd_s, if_pos rfl]
      · show f_X10_delay 120 (nI k) b c M = _
        rw [f_X10_delay, rs_f r.1, ndr r sw.n hk h16, obd_s, if_neg ne10, ndr0 r sw.n (by omega) h16 hb, obd_s, if_pos rfl]
    · rcases rng3 (L := 1) (N := 9) (by decide) (by decide) c with hc | ⟨d, hd1, hd2, rfl⟩
      · refine Okk.same w (r := 0) ?_ ?_
        · rw [f_X9_delay, chk_t xg.1, xg.2.1, bnd_e, sb.f, ndc sb hk h16, obd_s, if_neg ne10, bnd_e, sb.f, ndc sb hm h16, obd_s, if_neg ne10]
          exact out2 (L := 1) (N := 9) (by decide) (by decide) hc
        · show f_X10_delay 120 (nI k) (nI m) c M = _
          rw [f_X10_delay, rs_f r.1, ndr r sw.n hk h16, obd_s, if_neg ne10, ndr r sw.n hm h16, obd_s, if_neg ne10, show f_X10_isIn c (1 : Int32) (9 : Int32) M = some 0 from is_out3 (L := 1) (N := 9) (by decide) hc, obd_s, if_pos rfl]
      · have l6 : 16 * k + m < 256 := by omega
        generalize hM1 : sI M 113 (16 * k + m) (nI d) = M1
        have s1 : M1.1 = M.1 := by rw [← hM1]; rfl
        have o1 : ∀ o, o ≠ 113 → ∀ b, mI M1 o b = mI M o b := fun o n b => by rw [← hM1, mI_o _ _ _ _ _ n]
        have r1 : RV M1 false 0 S [] [] := r.mr (by unfold mN; rw [s1]; exact Nat.le_refl _) (fun o a b => ⟨by rw [s1], fun b => mR_e s1 o b, o1 o (by omega)⟩)
        generalize hM2 : sI M1 121 (10209 + (16 * k + m)) (nI d) = M2
        have s2 : M2.1 = M1.1 := by rw [← hM2]; rfl
        have o2 : ∀ o, o ≠ 121 → ∀ b, mI M2 o b = mI M1 o b := fun o n b => by rw [← hM2, mI_o _ _ _ _ _ n]
        have n2 : ∀ b, b ≠ 10209 + (16 * k + m) → mI M2 121 b = mI M1 121 b := fun b n => by rw [← hM2, mI_n _ _ _ _ n]
        have S' : M2.1 = M.1 := s2.trans s1
        have oa : ∀ o, o ≠ 113 → o ≠ 121 → ∀ b, mI M2 o b = mI M o b := fun o na nb b => by rw [o2 o nb, o1 o na]
        have rk : ∀ k' i, k' ≠ 19 → xR (uR S 19 (16 * k + m) (nI d)) k' i = xR S k' i := fun k' i n => by rw [xR_uR, if_neg (fun z => n z.1)]
        have r2 : RV M2 false 0 (uR S 19 (16 * k + m) (nI d)) [] [] := by
          obtain ⟨q1, q2, q3, q4, q5, q6, q7⟩ := r1
          refine ⟨q1.e s2, by rw [o2 120 (by decide)]; exact q2, fun k' i hv => ?_, q4.cg (fun b _ hb => n2 b (by omega)) rfl, ⟨by rw [n2 850 (by omega)]; exact q5.1, q5.2.1, q5.2.2.cg fun i _ hi => ⟨n2 _ (by have := q5.2.1; omega), o2 123 (by decide) _⟩⟩, q6.cg (n2 _ (by omega)) (fun b _ hb => n2 b (by omega)), q7.cg (n2 _ (by omega)) (fun b _ hb => n2 b (by omega))⟩
          have ac := ad_cases hv
          by_cases c : k' = 19 ∧ i = 16 * k + m
          · rw [xR_uR, if_pos c, c.1, c.2]
            have e : ad 19 (16 * k + m) = 10209 + (16 * k + m) := rfl
            rw [e, ← hM2, mI_s]
          · rw [xR_uR, if_neg c, n2 _ (by omega)]
            exact q3 k' i hv
        have cw : CW M2 N Q (uR S 19 (16 * k + m) (nI d)) := by
          refine ⟨X, Y, L, p.u19 S' (fun o ho b => oa o (by omega) (by omega) b), ?_, xg.s (Shp1.e S'), ?_, xv.s (Shp1.e S') (fun b => oa 5 (by decide) (by decide) b) (fun b => oa 6 (by decide) (by decide) b) (fun b => oa 8 (by decide) (by decide) b) (fun _ o _ b => by rw [← hM2, ← hM1]; rfl) (fun v => rk 17 v (by decide)) (rk 20 1 (by decide)), xs.e S' (fun o ho b => oa o (by omega) (by omega) b), g.e S', hL⟩
          · exact sb.cg (by unfold mN; rw [S']; exact Nat.le_refl _) (fun _ _ => by rw [S']) (fun _ => mR_e S' _ _) (fun b => oa 1 (by decide) (by decide) b) (fun b => oa 2 (by decide) (by decide) b) (rk 20 1 (by decide)) (fun v => rk 17 v (by decide))
          · obtain ⟨a1, a2, a3, a4, a5⟩ := xc
            have io : ∀ {c o}, isO M c o → isO M2 c o := fun z => by unfold isO mN mC at *; rw [S']; exact z
            refine ⟨io a1, by rw [mR_e S']; exact a2, io a3, by rw [mLn_e S']; exact a4, fun l hl => ?_⟩
            rw [o2 113 (by decide), xR_uR, ← hM1]
            by_cases c : l = 16 * k + m
            · rw [c, mI_s, if_pos ⟨rfl, rfl⟩]
              exact ⟨rfl, d, hd1, hd2, rfl⟩
            · rw [mI_n _ _ _ _ c, if_neg (fun z => c z.2)]; exact a5 l hl
        refine ⟨1, M1, M2, ?_, r1.1.io (by decide) (by decide) (by decide), ?_, N, A, Q, uR S 19 (16 * k + m) (nI d), cw, r2, by rw [oa 120 (by decide) (by decide)]; exact z7, ?_, fun v hv => by rw [show qm N (uR S 19 (16 * k + m) (nI d)) v = qm N S v from rfl]; exact hQ v hv⟩
        · rw [f_X9_delay, chk_t xg.1, xg.2.1, bnd_e, sb.f, ndc sb hk h16, obd_s, if_neg ne10, bnd_e, sb.f, ndc sb hm h16, obd_s, if_neg ne10]
          refine Eq.trans (in2 (L := 1) (N := 9) (by decide) hd1 hd2) ?_
          rw [xg.2.2.2.2.2.1, bnd_e, chk_t xc.1, xc.2.1, bnd_e, chk_t xc.2.2.1, c16', xc.2.2.2.1, chk_t (inB_n l6 (by decide)), sI_c (by omega), hM1, bnd_e]
        · show f_X10_delay 120 (nI k) (nI m) (nI d) M1 = _
          rw [f_X10_delay, rs_f r1.1, ndr r1 sw.n hk h16, obd_s, if_neg ne10, ndr r1 sw.n hm h16, obd_s, if_neg ne10, show f_X10_isIn (nI d) (1 : Int32) (9 : Int32) M1 = some 1 from is_in3 (L := 1) (N := 9) (by decide) hd1 hd2, obd_s, if_neg ne10, rs_0 r1.1, bnd_e, rs_fa r1.1, show ((10209 : Int32) + ((16 : Int32) * nI k)) + nI m = nI (10209 + (16 * k + m)) by rw [show (10209 : Int32) = nI 10209 from rfl, show (16 : Int32) = nI 16 from rfl, pk_mul, nI_add, nI_add, Nat.add_assoc], rs_c r1.1 (by omega), sI_c (by omega), hM2, bnd_e]
        · obtain ⟨y1, y2, y3, y4, y5, y6, y7, y8, y9, y10, y11⟩ := sw
          exact ⟨y1, y2, y3, y4, y5, y6.c16 h16 (fun k' i hk' _ => rk k' i (by omega)) (fun _ _ => rfl) rfl, y7, y8, by omega, y10.c19, y11.cg (fun k' j hk' => rk k' j (by omega))⟩
