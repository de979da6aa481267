/-! ===== leave, withdraw, bring, goOn ===== -/
theorem SW.st {N A A' i : Nat} {S S' : St} (h : SW N A i S) (hR : ∀ k j, k = 17 ∨ k = 20 → xR S' k j = xR S k j) (iv : Inv N A' S') (ix : IX N S') (iz : IZ N S') (ha : A' ≤ 20 * (i + 1)) (pb : PB N (i + 1) S') : SW N A' (i + 1) S' :=
  ⟨h.1, by rw [hR 20 0 (by omega)]; exact h.n, by rw [hR 20 1 (by omega)]; exact h.t2, by rw [hR 20 1 (by omega)]; exact h.t, fun v hv j a b => by rw [hR 17 v (by omega)]; exact h.bi v hv j a b, iv, ix, iz, ha, pb, h.tb.cg hR⟩
theorem PB.st {N i : Nat} {S S' : St} (h : PB N i S) (h16 : N ≤ 16) (h7 : ∀ v, xR S' 7 v = xR S 7 v) (hp : ∀ a, a < 16 → Ph a S' ≤ Ph a S + 1) : PB N (i + 1) S' := fun a ha => by
  have nb : nbr N S' = nbr N S := smN_c N (fun v _ => by rw [h7])
  rw [nb]
  have := hp a (by omega)
  have := h a ha
  omega
theorem WJ.fin {M1 M2 : Mem} {N A' i : Nat} {Q' : Nat → Int32} {S' : St} (cw : CW M1 N Q' S') (r : RV M2 false 0 S' [] []) (e : M2.1 = M1.1) (hI : ∀ o, ¬ (120 ≤ o ∧ o ≤ 130) → ∀ b, mI M2 o b = mI M1 o b) (hl : ∀ o, o = 7 ∨ o = 9 → ∀ b, mL M2 o b = mL M1 o b) (z7 : mI M2 120 7 = 0) (sw : SW N A' (i + 1) S') (hQ : ∀ v, v < N → qm N S' v = Q' v) : WI (i + 1) M2 :=
  ⟨N, A', Q', S', cw.ref e hI (fun _ => hl), r, z7, sw, hQ⟩
theorem PA_n {o : Nat} (h : ¬ (120 ≤ o ∧ o ≤ 130)) : ¬ PA o := fun z => h ⟨by have := z.1; omega, by have := z.2; omega⟩
theorem PA_120 : ¬ PA 120 := fun z => by have := z.1; omega
theorem has_st {M : Mem} {h X Y N : Nat} {t : Int32} {Q : Nat → Int32} {S : St} {pb pt : List Row4} (p : HV M h X Y t N Q S pb pt) {k : Nat} (hk : k < 16) : f_X9_has (mI M h 7) (nI k) M = some (if xR S 0 k = 2 then 1 else 0) ∧ f_X9_has (mI M h 8) (nI k) M = some (if xR S 0 k = 1 then 1 else 0) ∧ f_X9_has (mI M h 9) (nI k) M = some (if xR S 7 k = 1 then 1 else 0) := by
  obtain ⟨_, g7, g8, g9, _⟩ := p.2.2.1
  refine ⟨?_, ?_, ?_⟩
  · rw [f_has9 _ (by omega), g7 k (by omega)]
    by_cases c : xR S 0 k = 2
    · rw [if_pos c, if_pos (decide_eq_true (show k < 16 ∧ xR S 0 k = 2 from ⟨hk, c⟩))]
    · rw [if_neg c, if_neg (fun z => c (of_decide_eq_true z).2)]
  · rw [f_has9 _ (by omega), g8 k (by omega)]
    by_cases c : xR S 0 k = 1
    · rw [if_pos c, if_pos (decide_eq_true (show k < 16 ∧ xR S 0 k = 1 from ⟨hk, c⟩))]
    · rw [if_neg c, if_neg (fun z => c (of_decide_eq_true z).2)]
  · rw [f_has9 _ (by omega), g9 k (by omega)]
    by_cases c : xR S 7 k = 1
    · rw [if_pos c, if_pos (decide_eq_true (show k < 16 ∧ xR S 7 k = 1 from ⟨hk, c⟩))]
    · rw [if_neg c, if_neg (fun z => c (of_decide_eq_true z).2)]
/-- one leaves, or withdraws: class and reference -/
theorem lvw {M : Mem} {N A i k n : Nat} {Q : Nat → Int32} {S : St} (w : WJ M N A i Q S) (hi : i ≤ 511) (hk : k < N) (h0 : xR S 0 k ≠ 0) (hn : 100000 ≤ n) : ∃ M1 M2, f_X2_finish n 14 (nI k) M = some M1 ∧ isO M1 10 120 ∧ RV M1 false 0 S [] [] ∧ f_X10_leaveNow n 120 (nI k) M1 = some M2 ∧ WI (i + 1) M2 := by
  obtain ⟨X, Y, L, p, sb, xg, xr⟩ := id w.1
  obtain ⟨_, r, z7, sw, hQ⟩ := id w
  have h16 := sw.n16
  have h2 := sw.n2
  have fl0 := sw.tfl hi
  obtain ⟨M1, e1, p1, f1⟩ := p.tlv (n := n) h16 (v := k) (by omega) (by omega) (by omega)
  have pp : ∀ X Y, HV M 14 X Y 0 N Q S [] [] → HV M1 14 X Y 0 N Q (lv 0 N k S) [] [] := fun X Y p' => by
    obtain ⟨M1', e1', p1', _⟩ := p'.tlv (n := n) h16 (v := k) (by omega) (by omega) (by omega)
    rw [e1] at e1'
    cases e1'
    exact p1'
  have lk : ∀ kk j, 7 ≤ kk → kk ≠ 16 → xR (lv 0 N k S) kk j = xR S kk j := fun kk j a b => by rw [lv_R b, if_neg (by omega)]
  obtain ⟨cw, r1, s120, io⟩ := w.cls f1.w4 pp (fun kk j hk => lk kk j (by omega) (by omega))
  obtain ⟨M2, e2, r2, f2⟩ := r1.tlv (n := n) sw.n h16 (v := k) (by omega) (by omega) (by omega)
  obtain ⟨x1, x2⟩ := lv_X sw.inv h16 sw.ix hk h0 0
  refine ⟨M1, M2, e1, io, r1, e2, WJ.fin cw r2 f2.1 (fun o ho b => f2.2.1 o (PA_n ho) b) (fun o _ b => f2.2.2 o b) (by rw [f2.2.1 120 PA_120, s120]; exact z7) (sw.st (fun kk j hk => lk kk j (by omega) (by omega)) (sw.inv.tlv h16 hk h0 0) x1 (sw.iz.tlv 0) (by have := sw.a; omega) (sw.pb.st h16 (fun v => lk 7 v (by decide) (by decide)) (fun a ha => by have := x2 a ha; split at this <;> omega))) (fun v hv => ?_)⟩
  have kq : Qk S (lv 0 N k S) := fun kk hk j => lk kk j (by omega) (by omega)
  rw [kq.m]; exact hQ v hv
theorem op22 {M : Mem} {i n : Nat} (h : WI i M) (hi : i ≤ 511) (a : Int32) (hn : 100000 ≤ n) : Okk i (f_X9_leave n 0 a M) (fun M1 => f_X10_leave n 120 a M1) := by
  obtain ⟨N, A, Q, S, w⟩ := h
  obtain ⟨X, Y, L, p, sb, xg, xr⟩ := id w.1
  obtain ⟨_, r, z7, sw, hQ⟩ := id w
  have h16 := sw.n16
  have h2 := sw.n2
  rcases out_in (N := N) (by omega) a with ha | ⟨k, hk, rfl⟩
  · refine Okk.same w (r := 0) ?_ ?_
    · rw [f_X9_leave, chk_t xg.1, xg.2.1, bnd_e, sb.f, ndc0 sb ha, obd_s, if_pos rfl]
    · show f_X10_leave n 120 a M = _
      rw [f_X10_leave, rs_f r.1, ndr0 r sw.n (by omega) h16 ha, obd_s, if_pos rfl]
  · have hs := (has_st p (k := k) (by omega)).1
    by_cases c : xR S 0 k = 2
    · obtain ⟨M1, M2, e1, io, r1, e2, wi⟩ := lvw w hi hk (by rw [c]; decide) hn
      refine ⟨1, M1, M2, ?_, io, ?_, wi⟩
      · rw [f_X9_leave, chk_t xg.1, xg.2.1, bnd_e, sb.f, ndc sb hk h16, obd_s, if_neg ne10, xg.2.2.2.1, bnd_e, cs_f p.1, hs, obd_s, if_pos c, if_neg ne10, bnd_e, cs_f p.1, e1, obd_s]
      · show f_X10_leave n 120 (nI k) M1 = _
        rw [f_X10_leave, rs_f r1.1, ndr r1 sw.n hk h16, obd_s, if_neg ne10, r1.get0 (by omega), obd_s, if_pos c, e2, obd_s]
    · refine Okk.same w (r := 0) ?_ ?_
      · rw [f_X9_leave, chk_t xg.1, xg.2.1, bnd_e, sb.f, ndc sb hk h16, obd_s, if_neg ne10, xg.2.2.2.1, bnd_e, cs_f p.1, hs, obd_s, if_neg c, if_pos rfl]
      · show f_X10_leave n 120 (nI k) M = _
        rw [f_X10_leave, rs_f r.1, ndr r sw.n hk h16, obd_s, if_neg ne10, r.get0 (by omega), obd_s, if_neg c]
theorem op24 {M : Mem} {i n : Nat} (h : WI i M) (hi : i ≤ 511) (a : Int32) (hn : 100000 ≤ n) : Okk i (f_X9_withdraw n 0 a M) (fun M1 => f_X10_withdraw n 120 a M1) := by
  obtain ⟨N, A, Q, S, w⟩ := h
  obtain ⟨X, Y, L, p, sb, xg, xr⟩ := id w.1
  obtain ⟨_, r, z7, sw, hQ⟩ := id w
  have h16 := sw.n16
  have h2 := sw.n2
  rcases out_in (N := N) (by omega) a with ha | ⟨k, hk, rfl⟩
  · refine Okk.same w (r := 0) ?_ ?_
    · rw [f_X9_withdraw, chk_t xg.1, xg.2.1, bnd_e, sb.f, ndc0 sb ha, obd_s, if_pos rfl]
    · show f_X10_withdraw n 120 a M = _
      rw [f_X10_withdraw, rs_f r.1, ndr0 r sw.n (by omega) h16 ha, obd_s, if_pos rfl]
  · have hs := (has_st p (k := k) (by omega)).2.1
    by_cases c : xR S 0 k = 1
    · obtain ⟨M1, M2, e1, io, r1, e2, wi⟩ := lvw w hi hk (by rw [c]; decide) hn
      refine ⟨1, M1, M2, ?_, io, ?_, wi⟩
      · rw [f_X9_withdraw, chk_t xg.1, xg.2.1, bnd_e, sb.f, ndc sb hk h16, obd_s, if_neg ne10, xg.2.2.2.1, bnd_e, cs_f p.1, hs, obd_s, if_pos c, if_neg ne10, bnd_e, cs_f p.1, e1, obd_s]
      · show f_X10_withdraw n 120 (nI k) M1 = _
        rw [f_X10_withdraw, rs_f r1.1, ndr r1 sw.n hk h16, obd_s, if_neg ne10, r1.get0 (by omega), obd_s, if_pos c, e2, obd_s]
    · refine Okk.same w (r := 0) ?_ ?_
      · rw [f_X9_withdraw, chk_t xg.1, xg.2.1, bnd_e, sb.f, ndc sb hk h16, obd_s, if_neg ne10, xg.2.2.2.1, bnd_e, cs_f p.1, hs, obd_s, if_neg c, if_pos rfl]
      · show f_X10_withdraw n 120 (nI k) M = _
        rw [f_X10_withdraw, rs_f r.1, ndr r sw.n hk h16, obd_s, if_neg ne10, r.get0 (by omega), obd_s, if_neg c]
