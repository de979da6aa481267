/-! ===== bring, breakDown, mend ===== -/
theorem gr_50 {t : Int32} {N v a : Nat} {S : St} (h1 : xR S 0 v = 1) : (xR (gr t N v a S) 5 v = 0 ∨ xR (gr t N v a S) 0 v = 1) ∧ xR (gr t N v a S) 0 v ≠ 0 := by
  unfold gr
  simp only []
  split
  · refine ⟨Or.inl ?_, ?_⟩
    · rw [en_R (by decide), if_neg (by omega), if_pos ⟨rfl, rfl⟩]
    · rw [en_R (by decide), if_pos ⟨rfl, rfl⟩]; decide
  · have e : xR (uR (uR (uR S 4 v (bon (xR S 4 v) a)) 5 v (bof (xR S 5 v) a)) 6 v (bof (xR S 6 v) a)) 0 v = 1 := by
      rw [xR_uR, if_neg (by omega), xR_uR, if_neg (by omega), xR_uR, if_neg (by omega)]; exact h1
    rw [e]
    exact ⟨Or.inr rfl, by decide⟩
/-- one that asks steps: IZ stays -/
theorem IZ.asr {N v : Nat} {S S' : St} (h : IZ N S) (h1 : xR S 0 v = 1) (hu : ∀ k u, u ≠ v → k = 0 ∨ k = 3 ∨ k = 5 → xR S' k u = xR S k u) (h7 : ∀ u, xR S' 7 u = xR S 7 u) (h8 : ∀ u, xR S' 8 u = xR S 8 u) (h5 : xR S' 5 v = 0 ∨ xR S' 0 v = 1) (h0 : xR S' 0 v ≠ 0) : IZ N S' := by
  obtain ⟨z1, z2, z3⟩ := h
  refine ⟨fun u hu' i hi hb => ?_, fun u hu' q => ?_, fun u a b => ?_⟩
  · by_cases c : u = v
    · subst c
      rcases h5 with h5 | h5
      · rw [h5, b_0] at hb; cases hb
      · exact h5
    · rw [hu 5 u c (by omega)] at hb
      rw [hu 0 u c (by omega)]; exact z1 u hu' i hi hb
  · by_cases c : u = v
    · subst c; exact absurd q h0
    · rw [hu 0 u c (by omega)] at q
      rw [hu 3 u c (by omega)]; exact z2 u hu' q
  · rw [h7, h8]; exact z3 u a b
theorem IZ.tbr {N A : Nat} {S : St} (hZ : IZ N S) (h : Inv N A S) (h16 : N ≤ 16) {f g : Nat} (hf : f < N) (hg : g < N) (t : Int32) : IZ N (br t N f g S) := by
  unfold br
  cases hx : xL S (16 * f + g) with
  | nil => exact hZ
  | cons x r =>
    simp only []
    unfold rd
    simp only []
    generalize hS3 : (if x.2.1 ≤ xR (wt N x.1.toNatClampNeg f g x.2.1 (uL S (16 * f + g) r)) 1 g then wt N x.1.toNatClampNeg f g x.2.1 (uL S (16 * f + g) r) else uR (wt N x.1.toNatClampNeg f g x.2.1 (uL S (16 * f + g) r)) 1 g x.2.1) = S3
    have rS : ∀ k, k < 11 → k ≠ 1 → ∀ i, xR S3 k i = xR S k i := fun k hk h1 i => by
      rw [← hS3, clk_R h1, wt_R (by omega) (by omega) (by omega)]; rfl
    have z : IZ N S3 := hZ.cg (fun k v _ hk => rS k (by omega) (by omega) v) (fun v _ _ => rS 8 (by omega) (by omega) v)
    split
    · exact z.cg (fun k v _ hk => rq_R (by omega) (by omega)) (fun v a _ => rq_R (Or.inl (by omega)) (by decide))
    · split
      · exact z.cg (fun k v _ hk => yl_R (by omega) (by omega)) (fun v a _ => yl_R (Or.inl (by omega)) (by decide))
      · split
        · exact z.cg (fun k v _ hk => rl_R (by omega) (by omega)) (fun v a _ => rl_R (Or.inl (by omega)) (by decide))
        · split
          · rename_i c
            split
            · obtain ⟨g5, g0⟩ := gr_50 (t := t) (N := N) (v := g) (a := f) c.1
              exact z.asr c.1 (fun k u hu hk => gr_R (by omega) (Or.inl hu)) (fun u => gr_R (by decide) (by omega)) (fun u => gr_R (by decide) (by omega)) g5 g0
            · split
              · exact z.asr c.1 (fun k u hu hk => fd_R (by omega) (Or.inl hu)) (fun u => fd_R (by decide) (by omega)) (fun u => fd_R (by decide) (by omega)) (Or.inl fd_5) (by rw [fd_R (by decide) (by omega), c.1]; decide)
              · exact z.asr c.1 (fun k u hu hk => iq_R (by omega) (Or.inl hu)) (fun u => iq_R (by decide) (by omega)) (fun u => iq_R (by decide) (by omega)) (Or.inr (by rw [iq_R (by decide) (by omega)]; exact c.1)) (by rw [iq_R (by decide) (by omega), c.1]; decide)
          · exact z
theorem br_19 {t : Int32} {N f g : Nat} {S : St} {k i : Nat} (hk : 17 ≤ k ∧ k ≤ 20 ∧ k ≠ 18) : xR (br t N f g S) k i = xR S k i := by
  unfold br
  cases hx : xL S (16 * f + g) with
  | nil => rfl
  | cons x r =>
    simp only []
    unfold rd
    simp only []
    generalize hS3 : (if x.2.1 ≤ xR (wt N x.1.toNatClampNeg f g x.2.1 (uL S (16 * f + g) r)) 1 g then wt N x.1.toNatClampNeg f g x.2.1 (uL S (16 * f + g) r) else uR (wt N x.1.toNatClampNeg f g x.2.1 (uL S (16 * f + g) r)) 1 g x.2.1) = S3
    have rS : xR S3 k i = xR S k i := by
      rw [← hS3, clk_R (by omega), wt_R (by omega) (by omega) (by omega)]; rfl
    split
    · rw [rq_R (by omega) (by omega)]; exact rS
    · split
      · rw [yl_R (by omega) (by omega)]; exact rS
      · split
        · rw [rl_R (by omega) (by omega)]; exact rS
        · split
          · split
            · unfold gr
              simp only []
              split
              · rw [en_12 (by omega), if_neg (by omega), if_neg (by omega), if_neg (by omega), xR_uR, if_neg (by omega), xR_uR, if_neg (by omega), xR_uR, if_neg (by omega)]; exact rS
              · rw [xR_uR, if_neg (by omega), xR_uR, if_neg (by omega), xR_uR, if_neg (by omega)]; exact rS
            · split
              · rw [fd_R (by omega) (by omega)]; exact rS
              · rw [iq_R (by omega) (by omega)]; exact rS
          · exact rS
theorem op23 {M : Mem} {i n : Nat} (h : WI i M) (hi : i ≤ 511) (a b : Int32) (hn : 100000 ≤ n) : Okk i (f_X9_bring n 0 a b M) (fun M1 => f_X10_bring n 120 a b M1) := by
  obtain ⟨N, A, Q, S, w⟩ := h
  obtain ⟨X, Y, L, p, sb, xg, xr⟩ := id w.1
  obtain ⟨_, r, z7, sw, hQ⟩ := id w
  have h16 := sw.n16
  have h2 := sw.n2
  have fl0 := sw.tfl hi
  have c35 : f_X2_bringFirst_35 n 14 a b (-1) M = some (-1, M) := by rw [f_X2_bringFirst_35, if_pos rfl]
  have r26 : f_X10_bring_26 n 120 (-1) M = some (-1, M) := by rw [f_X10_bring_26, if_pos rfl]
  have hp := p.1
  rcases out_in (N := N) (by omega) a with ha | ⟨f, hf, rfl⟩
  · refine Okk.same w (r := -1) ?_ ?_
    · rw [f_X9_bring, chk_t xg.1, xg.2.2.2.1, bnd_e, cs_f hp, f_X2_bringFirst, cs_f hp, cs_h0 hp, bnd_e, sb.f, ndc0 sb ha, obd_s, if_pos rfl, c35, obd2_s]
    · show f_X10_bring n 120 a b M = _
      rw [f_X10_bring, rs_f r.1, ndr0 r sw.n (by omega) h16 ha, obd_s, if_pos rfl, r26]
  · rcases out_in (N := N) (by omega) b with hb | ⟨g, hg, rfl⟩
    · refine Okk.same w (r := -1) ?_ ?_
      · rw [f_X9_bring, chk_t xg.1, xg.2.2.2.1, bnd_e, cs_f hp, f_X2_bringFirst, cs_f hp, cs_h0 hp, bnd_e, sb.f, ndc sb hf h16, obd_s, if_neg ne10, bnd_e, sb.f, ndc0 sb hb, obd_s, if_pos rfl, c35, obd2_s]
      · show f_X10_bring n 120 (nI f) b M = _
        rw [f_X10_bring, rs_f r.1, ndr r sw.n hf h16, obd_s, if_neg ne10, ndr0 r sw.n (by omega) h16 hb, obd_s, if_pos rfl, r26]
    · cases hx : xL S (16 * f + g) with
      | nil =>
        refine Okk.same w (r := -1) ?_ ?_
        · rw [f_X9_bring, chk_t xg.1, xg.2.2.2.1, bnd_e, cs_f hp, f_X2_bringFirst, cs_f hp, cs_h0 hp, bnd_e, sb.f, ndc sb hf h16, obd_s, if_neg ne10, bnd_e, sb.f, ndc sb hg h16, obd_s, if_neg ne10, cs_h1 hp, bnd_e, cs_p hp, PV.tno hp p.2.1 (by omega) (by omega) hx, obd2_s, c35, obd2_s]
        · show f_X10_bring n 120 (nI f) (nI g) M = _
          rw [f_X10_bring, rs_f r.1, ndr r sw.n hf h16, obd_s, if_neg ne10, ndr r sw.n hg h16, obd_s, if_neg ne10, r.tno (by omega) (by omega) hx (by omega), obd_s, r26]
      | cons x rr =>
        have hI := sw.inv
        have hA := sw.a
        obtain ⟨M1, e1, p1, f1⟩ := p.tbr (n := n) hI (by omega) h2 h16 hf hg hx (by omega) (by omega)
        have pp : ∀ X Y, HV M 14 X Y 0 N Q S [] [] → HV M1 14 X Y 0 N Q (br 0 N f g S) [] [] := fun X Y p' => by
          obtain ⟨M1', e1', p1', _⟩ := p'.tbr (n := n) hI (by omega) h2 h16 hf hg hx (by omega) (by omega)
          rw [e1] at e1'
          cases e1'
          exact p1'
        have kq : Qk S (br 0 N f g S) := fun k z j => (Kq.tbr S 0 N f g).1 k j z
        obtain ⟨cw, r1, s120, io⟩ := w.cls f1.w4 pp (fun kk j hk => br_19 (by omega))
        have Lk := Lok_of hI (by omega) (show 16 * f + g < 256 by omega) (x := x) (by rw [hx]; simp)
        have hH : Hok S f g x.2.1 := Hok_of (N := N) (A := A) (v0 := 99) (a0 := 99) (e0 := none) hI h16 hg x.2.1
        obtain ⟨M2, e2, r2, f2⟩ := r1.tbr (n := n) sw.n h2 h16 (f := f) (g := g) (by omega) (by omega) hx Lk hH (by omega) (by omega)
        obtain ⟨x1, x2⟩ := br_X hI h16 (by omega) sw.ix hf hg 0
        have tat := r1.tat (n := n) (f := f) (g := g) (by omega) (by omega) hx (by omega)
        have lt := (r1.take (l := 16 * f + g) (by omega) hx (n := n) (by omega)).2.1
        refine ⟨x.1, M1, M2, ?_, io, ?_, WJ.fin cw r2 f2.1 (fun o ho b => f2.2.1 o (PA_n ho) b) (fun o _ b => f2.2.2 o b) (by rw [f2.2.1 120 PA_120, s120]; exact z7) (sw.st (fun kk j hk => br_19 (by omega)) (hI.tbr h16 (by omega) hf hg 0) x1 (sw.iz.tbr hI h16 hf hg 0) (by omega) (sw.pb.st h16 (fun v => kq 7 (by omega) v) (fun a ha => by have := x2 a ha; omega))) (fun v hv => by rw [kq.m]; exact hQ v hv)⟩
        · rw [f_X9_bring, chk_t xg.1, xg.2.2.2.1, bnd_e, cs_f hp, e1, obd2_s]
        · show f_X10_bring n 120 (nI f) (nI g) M1 = _
          rw [f_X10_bring, rs_f r1.1, ndr r1 sw.n hf h16, obd_s, if_neg ne10, ndr r1 sw.n hg h16, obd_s, if_neg ne10, tat, obd_s, f_X10_bring_26, if_neg (by
            intro z
            have := nI_pos (n := (flr (xL S) 0 (16 * f + g)).length) (by omega)
            rw [z] at this
            exact this (by decide)), rs_f r1.1, e2, obd2_s]
theorem op25 {M : Mem} {i n : Nat} (h : WI i M) (hi : i ≤ 511) (a : Int32) (hn : 100000 ≤ n) : Okk i (f_X9_breakDown n 0 a M) (fun M1 => f_X10_breakDown n 120 a M1) := by
  obtain ⟨N, A, Q, S, w⟩ := h
  obtain ⟨X, Y, L, p, sb, xg, xr⟩ := id w.1
  obtain ⟨_, r, z7, sw, hQ⟩ := id w
  have h16 := sw.n16
  have h2 := sw.n2
  have fl0 := sw.tfl hi
  have hp := p.1
  have hA := sw.a
  rcases out_in (N := N) (by omega) a with ha | ⟨x, hx, rfl⟩
  · refine Okk.same w (r := 0) ?_ ?_
    · rw [f_X9_breakDown, chk_t xg.1, xg.2.1, bnd_e, sb.f, ndc0 sb ha, obd_s, if_pos rfl]
    · show f_X10_breakDown n 120 a M = _
      rw [f_X10_breakDown, rs_f r.1, ndr0 r sw.n (by omega) h16 ha, obd_s, if_pos rfl]
  · obtain ⟨s7, s8, s9⟩ := has_st p (k := x) (by omega)
    have hw : f_X2_howIs 14 (nI x) M = some (if xR S 0 x = 2 then 2 else if xR S 0 x = 1 then 1 else 0) := by
      rw [f_X2_howIs, cs_f hp, s7, obd_s]
      by_cases c : xR S 0 x = 2
      · rw [if_pos c, if_neg ne10, if_pos c]
      · rw [if_neg c, if_pos rfl, s8, obd_s, if_neg c]
        by_cases d : xR S 0 x = 1
        · rw [if_pos d, if_neg ne10]
        · rw [if_neg d, if_pos rfl]
    by_cases c0 : xR S 0 x = 0
    · have hw0 : f_X2_howIs 14 (nI x) M = some 0 := by
        rw [hw, c0, if_neg (by decide), if_neg (by decide)]
      by_cases c7 : xR S 7 x = 1
      · refine Okk.same w (r := 0) ?_ ?_
        · rw [f_X9_breakDown, chk_t xg.1, xg.2.1, bnd_e, sb.f, ndc sb hx h16, obd_s, if_neg ne10, xg.2.2.2.1, bnd_e, cs_f hp, hw0, obd_s, if_pos rfl, bnd_e, cs_f hp, s9, obd_s, if_pos c7, if_neg ne10]
        · show f_X10_breakDown n 120 (nI x) M = _
          rw [f_X10_breakDown, rs_f r.1, ndr r sw.n hx h16, obd_s, if_neg ne10, r.get0 (by omega), obd_s, if_pos c0, r.get7 (by omega), obd_s, if_pos c7]
      · have n7 : xR S 7 x = 0 := (sw.h7 x (by omega)).resolve_right c7
        have nn : N * N ≤ 256 := Nat.mul_le_mul h16 h16
        have nn2 : 2 * N * N = 2 * (N * N) := Nat.mul_assoc 2 N N
        have h3 := sw.iz.2.1 x (by omega) c0
        obtain ⟨M1, e1, p1, f1⟩ := p.brkN (n := n) sb sw.inv h16 sw.t sw.t2 (fun v a b => (sw.iz.2.2 v a b).1) hx h3 (by omega) (by omega)
        have pp : ∀ X Y, HV M 14 X Y 0 N Q S [] [] → HV M1 14 X Y 0 N (fun v => qm N (uR S 7 x 1) v) (bd 0 N x S) [] [] := fun X Y p' => by
          obtain ⟨M1', e1', p1', _⟩ := p'.brkN (n := n) sb sw.inv h16 sw.t sw.t2 (fun v a b => (sw.iz.2.2 v a b).1) hx h3 (by omega) (by omega)
          rw [e1] at e1'
          cases e1'
          exact p1'
        obtain ⟨b1, b2, b3, b4, b5⟩ := bd_all (t := 0) sw.inv sw.ix sw.iz sw.bi h16 sw.t hx c0 (by omega)
        obtain ⟨cw, r1, s120, io⟩ := w.cls f1 pp (fun kk j hk => b5 kk j (by omega) (by omega) (by omega) (by omega))
        obtain ⟨M2, e2, r2, f2⟩ := r1.tbd (n := n) sw.inv sw.n h16 sw.t hx c0 n7 (by omega) (ndr r1 sw.n hx h16) (by omega)
        have b7 : ∀ v, xR (bd 0 N x S) 7 v = if v = x then 1 else xR S 7 v := fun v => by
          have gk : ∀ (ws : List Nat) (U : St), xR (gdl 0 N x ws U) 7 v = xR U 7 v := by
            intro ws
            induction ws with
            | nil => intro U; rfl
            | cons y ws ih =>
              intro U
              unfold gdl
              rw [List.foldl_cons]
              have q := ih (if y = x then U else if bt (xR U 3 y) x then gdw 0 N x y U else U)
              unfold gdl at q
              rw [q]
              split
              · rfl
              · split
                · exact gdw_Rk (by omega)
                · rfl
          unfold bd
          rw [gk, fgl_R (by omega), b0_R]
          by_cases c : v = x
          · rw [if_pos ⟨c, rfl⟩, if_pos c]
          · rw [if_neg (fun z => c z.1), if_neg (by omega), if_neg (by omega), if_neg c]
        have nb : nbr N (bd 0 N x S) = nbr N S + 1 := by
          have := smN_at (f := fun a => if xR (bd 0 N x S) 7 a = 1 then 1 else 0) (g := fun a => if xR S 7 a = 1 then 1 else 0) (v := x) N hx (fun u hu hn => by rw [b7 u, if_neg hn])
          rw [show (if xR S 7 x = 1 then 1 else 0 : Nat) = 0 from if_neg c7, b7 x, if_pos rfl, if_pos rfl] at this
          exact this
        have kq : Qk (uR S 7 x 1) (bd 0 N x S) := fun k hk j => by
          rcases hk with rfl | rfl | rfl
          · rw [b7 j, xR_uR]
            by_cases c : j = x
            · rw [if_pos c, if_pos ⟨rfl, c⟩]
            · rw [if_neg c, if_neg (fun z => c z.2)]
          · rw [b5 17 j (by omega) (by omega) (by omega) (by omega), xR_uR, if_neg (by omega)]
          · rw [b5 20 j (by omega) (by omega) (by omega) (by omega), xR_uR, if_neg (by omega)]
        refine ⟨1, M1, M2, ?_, io, e2, WJ.fin cw r2 f2.1 (fun o ho b => f2.2.1 o (PA_n ho) b) (fun o _ b => f2.2.2 o b) (by rw [f2.2.1 120 PA_120, s120]; exact z7) (sw.st (fun kk j hk => b5 kk j (by omega) (by omega) (by omega) (by omega)) b1 b2 b3 (by omega) (fun y hy => ?_)) (fun v hv => kq.m N v)⟩
        · rw [f_X9_breakDown, chk_t xg.1, xg.2.1, bnd_e, sb.f, ndc sb hx h16, obd_s, if_neg ne10, xg.2.2.2.1, bnd_e, cs_f hp, hw0, obd_s, if_pos rfl, bnd_e, cs_f hp, s9, obd_s, if_neg c7, if_pos rfl, bnd_e, cs_f hp, e1, obd_s]
        · rw [nb]
          have := b4 y (by omega)
          have := sw.pb y hy
          rw [Nat.mul_add]
          omega
    · refine Okk.same w (r := 0) ?_ ?_
      · have hw1 : ∃ y, f_X2_howIs 14 (nI x) M = some y ∧ ¬ y = 0 := by
          rw [hw]
          by_cases d : xR S 0 x = 2
          · exact ⟨2, by rw [if_pos d], by decide⟩
          · by_cases d1 : xR S 0 x = 1
            · exact ⟨1, by rw [if_neg d, if_pos d1], by decide⟩
            · rcases (sw.inv.1 x (by omega)).1 with z | z | z
              · exact absurd z c0
              · exact absurd z d1
              · exact absurd z d
        obtain ⟨y, hy, ny⟩ := hw1
        rw [f_X9_breakDown, chk_t xg.1, xg.2.1, bnd_e, sb.f, ndc sb hx h16, obd_s, if_neg ne10, xg.2.2.2.1, bnd_e, cs_f hp, hy, obd_s, if_neg ny]
      · show f_X10_breakDown n 120 (nI x) M = _
        rw [f_X10_breakDown, rs_f r.1, ndr r sw.n hx h16, obd_s, if_neg ne10, r.get0 (by omega), obd_s, if_neg c0]
