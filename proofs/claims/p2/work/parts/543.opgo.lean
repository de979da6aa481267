/-! ===== mend, goOn ===== -/
theorem fl_nil {S : St} (h : fl S = []) {l : Nat} (hl : l < 256) : xL S l = [] := by
  have a := congrArg List.length (fl_split S hl)
  rw [h] at a
  simp only [List.length_append, List.length_map, List.length_nil] at a
  exact List.length_eq_zero_iff.mp (by omega)
theorem Ph_idle {a : Nat} {S : St} (hf : fl S = []) (h3 : ∀ v, v < 16 → xR S 3 v = 0 ∧ xR S 5 v = 0) : Ph a S = 0 := by
  have hL : phL a S = 0 := by unfold phL; rw [hf]; rfl
  have hB : phB a S = 0 := by
    unfold phB
    rw [smN_c (g := fun _ => 0) 16 (fun v hv => by
      unfold phv
      rw [(h3 v hv).1, (h3 v hv).2, b_0, if_neg (fun z => by cases z.2), if_neg (by decide)]), smN_k]
  unfold Ph; omega
theorem op26 {M : Mem} {i n : Nat} (h : WI i M) (hi : i ≤ 511) (a : Int32) (hn : 100000 ≤ n) : Okk i (f_X9_mend n 0 a M) (fun M1 => f_X10_mend n 120 a M1) := by
  obtain ⟨N, A, Q, S, w⟩ := h
  obtain ⟨X, Y, L, p, sb, xg, xr⟩ := id w.1
  obtain ⟨_, r, z7, sw, hQ⟩ := id w
  have h16 := sw.n16
  have h2 := sw.n2
  have fl0 := sw.tfl hi
  have hp := p.1
  have hA := sw.a
  have x20 : xR S 20 0 = nI N := sw.n
  rcases out_in (N := N) (by omega) a with ha | ⟨x, hx, rfl⟩
  · refine Okk.same w (r := 0) ?_ ?_
    · rw [f_X9_mend, chk_t xg.1, xg.2.1, bnd_e, sb.f, ndc0 sb ha, obd_s, if_pos rfl]
    · show f_X10_mend n 120 a M = _
      rw [f_X10_mend, rs_f r.1, ndr0 r sw.n (by omega) h16 ha, obd_s, if_pos rfl]
  · obtain ⟨s7, s8, s9⟩ := has_st p (k := x) (by omega)
    by_cases c7 : xR S 7 x = 1
    · have n7 : ¬ xR S 7 x = 0 := by rw [c7]; decide
      obtain ⟨ya, ea, ba⟩ := r.askg sw.n h16 (n := n) (by omega)
      obtain ⟨yi, ei, bi⟩ := r.insd sw.n h16 (n := n) (by omega)
      have ca : mI M 14 8 = ya := by
        apply b_ext
        intro j hj
        rw [p.2.2.1.2.2.1 j hj, ba j hj]
        apply decide_eq_decide.mpr
        constructor
        · rintro ⟨u, v⟩
          refine ⟨?_, v⟩
          apply Decidable.byContradiction
          intro d
          rw [(sw.inv.1 j u).2.1 (by omega)] at v
          exact absurd v (by decide)
        · rintro ⟨u, v⟩; exact ⟨by omega, v⟩
      have ci : mI M 14 7 = yi := by
        apply b_ext
        intro j hj
        rw [p.2.2.1.2.1 j hj, bi j hj]
        apply decide_eq_decide.mpr
        constructor
        · rintro ⟨u, v⟩
          refine ⟨?_, v⟩
          apply Decidable.byContradiction
          intro d
          rw [(sw.inv.1 j u).2.1 (by omega)] at v
          exact absurd v (by decide)
        · rintro ⟨u, v⟩; exact ⟨by omega, v⟩
      have tot : mI M 15 10 = nI (fl S).length := p.tot
      have r850 : mI M 121 850 = nI (fl S).length := r.2.2.2.2.1.1
      have le0 : (nI (fl S).length ≤ 0) ↔ nI (fl S).length = 0 := by
        constructor
        · intro z
          apply Decidable.byContradiction
          intro d
          have : 0 < (fl S).length := by
            apply Decidable.byContradiction
            intro e
            exact d (by rw [show (fl S).length = 0 by omega]; rfl)
          exact nI_ge (a := 0) this (by omega) z
        · intro z; rw [z]; decide
      by_cases cA : ya = 0
      · by_cases cI : yi = 0
        · by_cases cL : nI (fl S).length = 0
          · have f0 : (fl S).length = 0 := (nI_eq (a := (fl S).length) (b := 0) (by omega) (by omega)).mp cL
            have fn : fl S = [] := List.length_eq_zero_iff.mp f0
            have idle : ∀ v, v < 16 → xR S 0 v = 0 := fun v hv => by
              by_cases d : v < N
              · rcases (sw.inv.1 v hv).1 with z | z | z
                · exact z
                · have := bt_z.mp cA v (by omega)
                  rw [ba v (by omega), decide_eq_false_iff_not] at this
                  exact absurd ⟨d, z⟩ this
                · have := bt_z.mp cI v (by omega)
                  rw [bi v (by omega), decide_eq_false_iff_not] at this
                  exact absurd ⟨d, z⟩ this
              · exact (sw.inv.1 v hv).2.1 (by omega)
            obtain ⟨M1, e1, p1, f1⟩ := p.mdN (n := n) sb h16 sw.t sw.t2 sw.h7 (fun v a b => (sw.iz.2.2 v a b).1) hx (by omega)
            have pp : ∀ X Y, HV M 14 X Y 0 N Q S [] [] → HV M1 14 X Y 0 N (fun v => qm N (uR S 7 x 0) v) (uR S 7 x 0) [] [] := fun X Y p' => by
              obtain ⟨M1', e1', p1', _⟩ := p'.mdN (n := n) sb h16 sw.t sw.t2 sw.h7 (fun v a b => (sw.iz.2.2 v a b).1) hx (by omega)
              rw [e1] at e1'
              cases e1'
              exact p1'
            obtain ⟨b1, b2, b3, b4⟩ := md_all sw.inv sw.ix sw.iz hx
            have rk : ∀ k j, k ≠ 7 → xR (uR S 7 x 0) k j = xR S k j := fun k j n => by rw [xR_uR, if_neg (fun z => n z.1)]
            obtain ⟨cw, r1, s120, io⟩ := w.cls f1 pp (fun kk j hk => rk kk j (by omega))
            have r2 := r1.st (vk_n (k := 7) (by decide) (show x < 16 by omega)) 0
            obtain ⟨ya', ea', ba'⟩ := r1.askg sw.n h16 (n := n) (by omega)
            obtain ⟨yi', ei', bi'⟩ := r1.insd sw.n h16 (n := n) (by omega)
            have ya0 : ya' = 0 := bt_z.mpr (fun j hj => by
              rw [ba' j hj]
              apply decide_eq_false
              rintro ⟨u, v⟩
              rw [idle j (by omega)] at v; exact absurd v (by decide))
            have yi0 : yi' = 0 := bt_z.mpr (fun j hj => by
              rw [bi' j hj]
              apply decide_eq_false
              rintro ⟨u, v⟩
              rw [idle j (by omega)] at v; exact absurd v (by decide))
            generalize hM2 : sI M1 121 (ad 7 x) 0 = M2 at r2
            have F : Fr PA M1 M2 := by rw [← hM2]; exact Fr.tad
            refine ⟨1, M1, M2, ?_, io, ?_, WJ.fin cw r2 F.1 (fun o ho b => F.2.1 o (PA_n ho) b) (fun o _ b => F.2.2 o b) (by rw [F.2.1 120 PA_120, s120]; exact z7) (sw.st (fun kk j hk => rk kk j (by omega)) b1 b2 b3 (by omega) (fun y hy => ?_)) (fun v hv => rfl)⟩
            · rw [f_X9_mend, chk_t xg.1, xg.2.1, bnd_e, sb.f, ndc sb hx h16, obd_s, if_neg ne10, xg.2.2.2.1, bnd_e, cs_f hp, s9, obd_s, if_pos c7, if_neg ne10, bnd_e, cs_f hp, f_X2_isStill, cs_f hp, ci, if_pos cI, ca, if_pos cA, cs_h1 hp, bnd_e, cs_p hp, tot, if_pos cL, obd_s, if_neg ne10, bnd_e, cs_f hp, e1, obd_s]
            · show f_X10_mend n 120 (nI x) M1 = _
              rw [f_X10_mend, rs_f r1.1, ndr r1 sw.n hx h16, obd_s, if_neg ne10, r1.get7 (by omega), obd_s, if_neg n7, ea', obd_s, if_pos ya0, ei', obd_s, if_pos yi0, rs_0 r1.1, bnd_e, rs_fa r1.1, l850, rs_c r1.1 (by decide), mI_c (by decide), r1.2.2.2.2.1.1, if_pos (le0.mpr cL), r1.let7 (by omega), hM2, obd_s]
            · rw [b4 y, Ph_idle fn (fun v hv => ⟨sw.iz.2.1 v hv (idle v hv), bt_z.mpr (fun j hj => by
                cases z : bt (xR S 5 v) j with
                | false => rfl
                | true =>
                  have := sw.iz.1 v hv j hj z
                  rw [idle v hv] at this; exact absurd this (by decide))⟩)]
              exact Nat.zero_le _
          · refine Okk.same w (r := 0) ?_ ?_
            · rw [f_X9_mend, chk_t xg.1, xg.2.1, bnd_e, sb.f, ndc sb hx h16, obd_s, if_neg ne10, xg.2.2.2.1, bnd_e, cs_f hp, s9, obd_s, if_pos c7, if_neg ne10, bnd_e, cs_f hp, f_X2_isStill, cs_f hp, ci, if_pos cI, ca, if_pos cA, cs_h1 hp, bnd_e, cs_p hp, tot, if_neg cL, obd_s, if_pos rfl]
            · show f_X10_mend n 120 (nI x) M = _
              rw [f_X10_mend, rs_f r.1, ndr r sw.n hx h16, obd_s, if_neg ne10, r.get7 (by omega), obd_s, if_neg n7, ea, obd_s, if_pos cA, ei, obd_s, if_pos cI, rs_0 r.1, bnd_e, rs_fa r.1, l850, rs_c r.1 (by decide), mI_c (by decide), r850, if_neg (fun z => cL (le0.mp z))]
        · refine Okk.same w (r := 0) ?_ ?_
          · rw [f_X9_mend, chk_t xg.1, xg.2.1, bnd_e, sb.f, ndc sb hx h16, obd_s, if_neg ne10, xg.2.2.2.1, bnd_e, cs_f hp, s9, obd_s, if_pos c7, if_neg ne10, bnd_e, cs_f hp, f_X2_isStill, cs_f hp, ci, if_neg cI, obd_s, if_pos rfl]
          · show f_X10_mend n 120 (nI x) M = _
            rw [f_X10_mend, rs_f r.1, ndr r sw.n hx h16, obd_s, if_neg ne10, r.get7 (by omega), obd_s, if_neg n7, ea, obd_s, if_pos cA, ei, obd_s, if_neg cI]
      · refine Okk.same w (r := 0) ?_ ?_
        · have still : f_X2_isStill 14 M = some 0 := by
            rw [f_X2_isStill, cs_f hp, ci, ca]
            by_cases cI : yi = 0
            · rw [if_pos cI, if_neg cA]
            · rw [if_neg cI]
          rw [f_X9_mend, chk_t xg.1, xg.2.1, bnd_e, sb.f, ndc sb hx h16, obd_s, if_neg ne10, xg.2.2.2.1, bnd_e, cs_f hp, s9, obd_s, if_pos c7, if_neg ne10, bnd_e, cs_f hp, still, obd_s, if_pos rfl]
        · show f_X10_mend n 120 (nI x) M = _
          rw [f_X10_mend, rs_f r.1, ndr r sw.n hx h16, obd_s, if_neg ne10, r.get7 (by omega), obd_s, if_neg n7, ea, obd_s, if_neg cA]
    · have n7 : xR S 7 x = 0 := (sw.h7 x (by omega)).resolve_right c7
      refine Okk.same w (r := 0) ?_ ?_
      · rw [f_X9_mend, chk_t xg.1, xg.2.1, bnd_e, sb.f, ndc sb hx h16, obd_s, if_neg ne10, xg.2.2.2.1, bnd_e, cs_f hp, s9, obd_s, if_neg c7, if_pos rfl]
      · show f_X10_mend n 120 (nI x) M = _
        rw [f_X10_mend, rs_f r.1, ndr r sw.n hx h16, obd_s, if_neg ne10, r.get7 (by omega), obd_s, if_pos n7]
