/-! ===== mend, goOn ===== -/
theorem fl_nil {S : St} (h : fl S = []) {l : Nat} (hl : l < 256) : xL S l = [] := by
  have a := congrArg List.length (fl_split S hl)
  rw [h] at a
  simp only [List.length_append, List.length_map, List.length_nil] at a
  exact List.length_eq_zero_iff.mp (by omega)
theorem Ph_idle {a : Nat} {S : St} (hf : fl S = []) (h3 : ∀ v, v < 16 → xR S 3 v = 0 ∧ xR S 5 v = 0) : Ph a S = 0 := by
  have hL : phL a S = 0 := by unfold phL; rw [hf]; rfl
  have hB : phB a S = 0 := by
    unfold phB
    rw [smN_c (g := fun _ => 0) 16 (fun v hv => by
      unfold phv
      rw [(h3 v hv).1, (h3 v hv).2, b_0, if_neg (fun z => by cases z.2), if_neg (by decide)]), smN_k]
  unfold Ph; omega
theorem op26 {M : Mem} {i n : Nat} (h : WI i M) (hi : i ≤ 511) (a : Int32) (hn : 100000 ≤ n) : Okk i (f_X9_mend n 0 a M) (fun M1 => f_X10_mend n 120 a M1) := by
  obtain ⟨N, A, Q, S, w⟩ := h
  obtain ⟨X, Y, L, p, sb, xg, xr⟩ := id w.1
  obtain ⟨_, r, z7, sw, hQ⟩ := id w
  have h16 := sw.n16
  have h2 := sw.n2
  have fl0 := sw.tfl hi
  have hp := p.1
  have hA := sw.a
  have x20 : xR S 20 0 = nI N := sw.n
  rcases out_in (N := N) (by omega) a with ha | ⟨x, hx, rfl⟩
  · refine Okk.same w (r := 0) ?_ ?_
    · rw [f_X9_mend, chk_t xg.1, xg.2.1, bnd_e, sb.f, ndc0 sb ha, obd_s, if_pos rfl]
    · show f_X10_mend n 120 a M = _
      rw [f_X10_mend, rs_f r.1, ndr0 r sw.n (by omega) h16 ha, obd_s, if_pos rfl]
  · obtain ⟨s7, s8, s9⟩ := has_st p (k := x) (by omega)
    by_cases c7 : xR S 7 x = 1
    · have n7 : ¬ xR S 7 x = 0 := by rw [c7]; decide
      obtain ⟨ya, ea, ba⟩ := r.askg sw.n h16 (n := n) (by omega)
      obtain ⟨yi, ei, bi⟩ := r.insd sw.n h16 (n := n) (by omega)
      have ca : mI M 14 8 = ya := by
        apply b_ext
        intro j hj
        rw [p.2.2.1.2.2.1 j hj, ba j hj]
        apply decide_eq_decide.mpr
        constructor
        · rintro ⟨u, v⟩
          refine ⟨?_, v⟩
          apply Decidable.byContradiction
          intro d
          rw [(sw.inv.1 j u).2.1 (by omega)] at v
          exact absurd v (by decide)
        · rintro ⟨u, v⟩; exact ⟨by omega, v⟩
      have ci : mI M 14 7 = yi := by
        apply b_ext
        intro j hj
        rw [p.2.2.1.2.1 j hj, bi j hj]
        apply decide_eq_decide.mpr
        constructor
        · rintro ⟨u, v⟩
          refine ⟨?_, v⟩
          apply Decidable.byContradiction
          intro d
          rw [(sw.inv.1 j u).2.1 (by omega)] at v
          exact absurd v (by decide)
        · rintro ⟨u, v⟩; exact ⟨by omega, v⟩
      have tot : mI M 15 10 = nI (fl S).length := p.tot
      have r850 : mI M 121 850 = nI (fl S).length := r.2.2.2.2.1.1
      have le0 : (nI (fl S).length ≤ 0) ↔ nI (fl S).length = 0 := by
        constructor
        · intro z
          apply Decidable.byContradiction
          intro d
          have : 0 < (fl S).length := by
            apply Decidable.byContradiction
            intro e
            exact d (by rw [show (fl S).length = 0 by omega]; rfl)
          exact nI_ge (a := 0) this (by omega) z
        · intro z; rw [z]; decide
      by_cases cA : ya = 0
      · by_cases cI : yi = 0
        · by_cases cL : nI (fl S).length = 0
          · have f0 : (fl S).length = 0 := (nI_eq (a := (fl S).length) (b := 0) (by omega) (by omega)).mp cL
            have fn : fl S = [] := List.length_eq_zero_iff.mp f0
            have idle : ∀ v, v < 16 → xR S 0 v = 0 := fun v hv => by
              by_cases d : v < N
              · rcases (sw.inv.1 v hv).1 with z | z | z
                · exact z
                · have := bt_z.mp cA v (by omega)
                  rw [ba v (by omega), decide_eq_false_iff_not] at this
                  exact absurd ⟨d, z⟩ this
                · have := bt_z.mp cI v (by omega)
                  rw [bi v (by omega), decide_eq_false_iff_not] at this
                  exact absurd ⟨d, z⟩ this
              · exact (sw.inv.1 v hv).2.1 (by omega)
            obtain ⟨M1, e1, p1, f1⟩ := p.mdN (n := n) sb h16 sw.t sw.t2 sw.h7 (fun v a b => (sw.iz.2.2 v a b).1) hx (by omega)
            have pp : ∀ X Y, HV M 14 X Y 0 N Q S [] [] → HV M1 14 X Y 0 N (fun v => qm N (uR S 7 x 0) v) (uR S 7 x 0) [] [] := fun X Y p' => by
              obtain ⟨M1', e1', p1', _⟩ := p'.mdN (n := n) sb h16 sw.t sw.t2 sw.h7 (fun v a b => (sw.iz.2.2 v a b).1) hx (by omega)
              rw [e1] at e1'
              cases e1'
              exact p1'
            obtain ⟨b1, b2, b3, b4⟩ := md_all sw.inv sw.ix sw.iz hx
            have rk : ∀ k j, k ≠ 7 → xR (uR S 7 x 0) k j = xR S k j := fun k j n => by rw [xR_uR, if_neg (fun z => n z.1)]
            obtain ⟨cw, r1, s120, io⟩ := w.cls f1 pp (fun kk j hk => rk kk j (by omega))
            have r2 := r1.st (vk_n (k := 7) (by decide) (show x < 16 by omega)) 0
            obtain ⟨ya', ea', ba'⟩ := r1.askg sw.n h16 (n := n) (by omega)
            obtain ⟨yi', ei', bi'⟩ := r1.insd sw.n h16 (n := n) (by omega)
            have ya0 : ya' = 0 := bt_z.mpr (fun j hj => by
              rw [ba' j hj]
              apply decide_eq_false
              rintro ⟨u, v⟩
              rw [idle j (by omega)] at v; exact absurd v (by decide))
            have yi0 : yi' = 0 := bt_z.mpr (fun j hj => by
              rw [bi' j hj]
              apply decide_eq_false
              rintro ⟨u, v⟩
              rw [idle j (by omega)] at v; exact absurd v (by decide))
            generalize hM2 : sI M1 121 (ad 7 x) 0 = M2 at r2
            have F : Fr PA M1 M2 := by rw [← hM2]; exact Fr.tad
            refine ⟨1, M1, M2, ?_, io, ?_, WJ.fin cw r2 F.1 (fun o ho b => F.2.1 o (PA_n ho) b) (fun o _ b => F.2.2 o b) (by rw [F.2.1 120 PA_120, s120]; exact z7) (sw.st (fun kk j hk => rk kk j (by omega)) b1 b2 b3 (by omega) (fun y hy => ?_)) (fun v hv => rfl)⟩
            · rw [f_X9_mend, chk_t xg.1, xg.2.1, bnd_e, sb.f, ndc sb hx h16, obd_s, if_neg ne10, xg.2.2.2.1, bnd_e, cs_f hp, s9, obd_s, if_pos c7, if_neg ne10, bnd_e, cs_f hp, f_X2_isStill, cs_f hp, ci, if_pos cI, ca, if_pos cA, cs_h1 hp, bnd_e, cs_p hp, tot, if_pos cL, obd_s, if_neg ne10, bnd_e, cs_f hp, e1, obd_s]
            · show f_X10_mend n 120 (nI x) M1 = _
              rw [f_X10_mend, rs_f r1.1, ndr r1 sw.n hx h16, obd_s, if_neg ne10, r1.get7 (by omega), obd_s, if_neg n7, ea', obd_s, if_pos ya0, ei', obd_s, if_pos yi0, rs_0 r1.1, bnd_e, rs_fa r1.1, l850, rs_c r1.1 (by decide), mI_c (by decide), r1.2.2.2.2.1.1, if_pos (le0.mpr cL), r1.let7 (by omega), hM2, obd_s]
            · rw [b4 y, Ph_idle fn (fun v hv => ⟨sw.iz.2.1 v hv (idle v hv), bt_z.mpr (fun j hj => by
                cases z : bt (xR S 5 v) j with
                | false => rfl
                | true =>
                  have := sw.iz.1 v hv j hj z
                  rw [idle v hv] at this; exact absurd this (by decide))⟩)]
              exact Nat.zero_le _
          · refine Okk.same w (r := 0) ?_ ?_
            · rw [f_X9_mend, chk_t xg.1, xg.2.1, bnd_e, sb.f, ndc sb hx h16, obd_s, if_neg ne10, xg.2.2.2.1, bnd_e, cs_f hp, s9, obd_s, if_pos c7, if_neg ne10, bnd_e, cs_f hp, f_X2_isStill, cs_f hp, ci, if_pos cI, ca, if_pos cA, cs_h1 hp, bnd_e, cs_p hp, tot, if_neg cL, obd_s, if_pos rfl]
            · show f_X10_mend n 120 (nI x) M = _
              rw [f_X10_mend, rs_f r.1, ndr r sw.n hx h16, obd_s, if_neg ne10, r.get7 (by omega), obd_s, if_neg n7, ea, obd_s, if_pos cA, ei, obd_s, if_pos cI, rs_0 r.1, bnd_e, rs_fa r.1, l850, rs_c r.1 (by decide), mI_c (by decide), r850, if_neg (fun z => cL (le0.mp z))]
        · refine Okk.same w (r := 0) ?_ ?_
          · rw [f_X9_mend, chk_t xg.1, xg.2.1, bnd_e, sb.f, ndc sb hx h16, obd_s, if_neg ne10, xg.2.2.2.1, bnd_e, cs_f hp, s9, obd_s, if_pos c7, if_neg ne10, bnd_e, cs_f hp, f_X2_isStill, cs_f hp, ci, if_neg cI, obd_s, if_pos rfl]
          · show f_X10_mend n 120 (nI x) M = _
            rw [f_X10_mend, rs_f r.1, ndr r sw.n hx h16, obd_s, if_neg ne10, r.get7 (by omega), obd_s, if_neg n7, ea, obd_s, if_pos cA, ei, obd_s, if_neg cI]
      · refine Okk.same w (r := 0) ?_ ?_
        · have still : f_X2_isStill 14 M = some 0 := by
            rw [f_X2_isStill, cs_f hp, ci, ca]
            by_cases cI : yi = 0
            · rw [if_pos cI, if_neg cA]
            · rw [if_neg cI]
          rw [f_X9_mend, chk_t xg.1, xg.2.1, bnd_e, sb.f, ndc sb hx h16, obd_s, if_neg ne10, xg.2.2.2.1, bnd_e, cs_f hp, s9, obd_s, if_pos c7, if_neg ne10, bnd_e, cs_f hp, still, obd_s, if_pos rfl]
        · show f_X10_mend n 120 (nI x) M = _
          rw [f_X10_mend, rs_f r.1, ndr r sw.n hx h16, obd_s, if_neg ne10, r.get7 (by omega), obd_s, if_neg n7, ea, obd_s, if_neg cA]
    · have n7 : xR S 7 x = 0 := (sw.h7 x (by omega)).resolve_right c7
      refine Okk.same w (r := 0) ?_ ?_
      · rw [f_X9_mend, chk_t xg.1, xg.2.1, bnd_e, sb.f, ndc sb hx h16, obd_s, if_neg ne10, xg.2.2.2.1, bnd_e, cs_f hp, s9, obd_s, if_neg c7, if_pos rfl]
      · show f_X10_mend n 120 (nI x) M = _
        rw [f_X10_mend, rs_f r.1, ndr r sw.n hx h16, obd_s, if_neg ne10, r.get7 (by omega), obd_s, if_pos n7]
/-! ===== goOn ===== -/
/-- the moves by draws: the state after them, how many -/
def gN (N : Nat) : Nat → St → Int64 → St × Nat
  | 0, S, _ => (S, 0)
  | k + 1, S, g => if mv0 N S = [] then (S, 0) else ((gN N k (dm 0 N (((mv0 N S)[dk g (mv0 N S).length]?).getD 0) S) (drw g)).1, (gN N k (dm 0 N (((mv0 N S)[dk g (mv0 N S).length]?).getD 0) S) (drw g)).2 + 1)
theorem gN_z {N k : Nat} {S : St} {g : Int64} (h : mv0 N S = []) : gN N k S g = (S, 0) := by
  cases k with
  | zero => rfl
  | succ k => show (if mv0 N S = [] then _ else _) = _; rw [if_pos h]
theorem gN_s {N k c : Nat} {S : St} {g : Int64} (h : mv0 N S ≠ []) (hc : (mv0 N S)[dk g (mv0 N S).length]? = some c) : gN N (k + 1) S g = ((gN N k (dm 0 N c S) (drw g)).1, (gN N k (dm 0 N c S) (drw g)).2 + 1) := by
  show (if mv0 N S = [] then _ else _) = _
  rw [if_neg h, hc]
  rfl
/-- what the moves keep -/
def GI (N A : Nat) (P : Nat → Nat) (S0 S : St) : Prop := Inv N A S ∧ IX N S ∧ IZ N S ∧ (∀ a, a < 16 → Ph a S ≤ P a) ∧ ∀ k i, k = 7 ∨ k = 17 ∨ k = 19 ∨ k = 20 → xR S k i = xR S0 k i
theorem GI.tdm {N A c : Nat} {P : Nat → Nat} {S0 S : St} (h : GI N A P S0 S) (h16 : N ≤ 16) (hA : A < 1048576) (hc : c ∈ mv0 N S) (t : Int32) : GI N A P S0 (dm t N c S) := by
  obtain ⟨hI, hX, hZ, hP, hR⟩ := h
  rcases mv0_in hI h16 hc with ⟨h1, h2, h3, h4⟩ | ⟨h1, h2, h3, h4⟩
  · rw [dm_1 h1]
    obtain ⟨x1, x2⟩ := br_X hI h16 hA hX h2 h3 t
    have kk : Qk S (br t N (c / 16) (c % 16) S) := fun k z i => (Kq.tbr S t N (c / 16) (c % 16)).1 k i z
    refine ⟨hI.tbr h16 hA h2 h3 t, x1, hZ.tbr hI h16 h2 h3 t, fun a ha => Nat.le_trans (x2 a ha) (hP a ha), fun k i hk => ?_⟩
    rcases hk with rfl | hk
    · rw [kk 7 (by omega)]; exact hR 7 i (by omega)
    · rw [br_19 (by omega)]; exact hR k i (by omega)
  · rw [dm_2 h1 h2]
    have h0 : xR S 0 (c - 256) ≠ 0 := by rw [h4]; decide
    obtain ⟨x1, x2⟩ := lv_X hI h16 hX h3 h0 t
    rw [if_pos h4] at x2
    exact ⟨hI.tlv h16 h3 h0 t, x1, hZ.tlv t, fun a ha => Nat.le_trans (x2 a ha) (hP a ha), fun k i hk => by rw [lv_R (by omega), if_neg (by omega)]; exact hR k i (by omega)⟩
theorem GI.tfl {N A : Nat} {P : Nat → Nat} {S0 S : St} (h : GI N A P S0 S) : (fl S).length ≤ smN P 16 :=
  Nat.le_trans (fl_PhS S) (smN_le 16 h.2.2.2.1)
theorem GI.tgN {N A : Nat} {P : Nat → Nat} {S0 : St} (h16 : N ≤ 16) (hA : A < 1048576) : ∀ (k : Nat) (S : St) (g : Int64), Gk g → GI N A P S0 S → GI N A P S0 (gN N k S g).1 := by
  intro k
  induction k with
  | zero => intro S g _ h; exact h
  | succ k ih =>
    intro S g hg h
    by_cases c : mv0 N S = []
    · rw [gN_z c]; exact h
    · have hl : 0 < (mv0 N S).length := List.length_pos_iff.mpr c
      have hm : (mv0 N S).length < 1000 := by
        have e := mvl_0 N S (fun _ => 0)
        have := mvl_len (N := N) S 0 (fun _ => 0)
        rw [e] at this
        omega
      obtain ⟨j, hj, ej⟩ := drk_lt hg hl hm
      have hd : dk g (mv0 N S).length = j := by unfold dk; rw [ej, nI_clamp (by omega)]
      have hc : (mv0 N S)[dk g (mv0 N S).length]? = some ((mv0 N S)[j]) := by rw [hd]; exact List.getElem?_eq_getElem hj
      rw [gN_s c hc]
      exact ih _ _ (Gk_drw hg) (h.tdm h16 hA (List.getElem_mem hj) 0)
theorem cgo {N A : Nat} {P : Nat → Nat} {S0 : St} {Q : Nat → Int32} {X Y T : Nat} (h2 : 2 ≤ N) (h16 : N ≤ 16) (hA : A < 1048576) (hP : smN P 16 + N ≤ 9000) (hT : T ≤ 500) : ∀ (d i n : Nat) (M : Mem) (S : St) (g : Int64), i + d = T → HV M 14 X Y 0 N Q S [] [] → XG M → mL M 14 16 = g → Gk g → GI N A P S0 S → d + 60 ≤ n → ∃ M', f_X9_goOn_28 n 0 (nI T) (nI i) M = some (nI (i + (gN N d S g).2), M') ∧ HV M' 14 X Y 0 N Q (gN N d S g).1 [] [] ∧ FrD M M' 14 := by
  intro d
  induction d with
  | zero =>
    intro i n M S g hi p xg hg hG hI hn
    obtain ⟨n, rfl⟩ : ∃ m, n = m + 1 := ⟨n - 1, by omega⟩
    refine ⟨M, ?_, p, (FrH.rf M 14).D⟩
    rw [f_X9_goOn_28, if_pos (nI_le (by omega) (by omega))]
    rfl
  | succ d ih =>
    intro i n M S g hi p xg hg hG hI hn
    obtain ⟨n, rfl⟩ : ∃ m, n = m + 1 := ⟨n - 1, by omega⟩
    have hl := hI.tfl
    obtain ⟨d1, d2⟩ := p.dr (n := n) hI.1 hA h2 h16 (by omega) (by have := p.1.2.2.2.2.2.2; omega) hg hG (by omega)
    by_cases c : mv0 N S = []
    · rw [gN_z c]
      refine ⟨M, ?_, p, (FrH.rf M 14).D⟩
      rw [f_X9_goOn_28, if_neg (nI_ge (by omega) (by omega)), chk_t xg.1, xg.2.2.2.1, bnd_e, cs_f p.1, d1 c, obd2_s, if_pos rfl]
      rfl
    · obtain ⟨m, M1, hm, e1, p1, g1, f1⟩ := d2 c
      have mem : m ∈ mv0 N S := List.mem_of_getElem? hm
      have hI1 := hI.tdm h16 hA mem 0
      have xg1 := xg.s f1.w4.s1
      obtain ⟨M', e', p', f'⟩ := ih (i + 1) n M1 _ (drw g) (by omega) p1 xg1 g1 (Gk_drw hG) hI1 (by omega)
      rw [gN_s c hm]
      refine ⟨M', ?_, p', f1.tr f'⟩
      rw [f_X9_goOn_28, if_neg (nI_ge (by omega) (by omega)), chk_t xg.1, xg.2.2.2.1, bnd_e, cs_f p.1, e1, obd2_s, if_neg ne10, bnd_e, nI_1, e']
      show some (nI (i + 1 + (gN N d (dm 0 N m S) (drw g)).2), M') = some (nI (i + ((gN N d (dm 0 N m S) (drw g)).2 + 1)), M')
      rw [show i + 1 + (gN N d (dm 0 N m S) (drw g)).2 = i + ((gN N d (dm 0 N m S) (drw g)).2 + 1) by omega]
theorem rgo {N A : Nat} {P : Nat → Nat} {S0 : St} {T : Nat} (h2 : 2 ≤ N) (h16 : N ≤ 16) (hA : A < 1048576) (hP : smN P 16 + N ≤ 9000) (hT : T ≤ 500) (hN : xR S0 20 0 = nI N) (ht : xR S0 20 1 = 1 → N % 2 = 1) : ∀ (d i n : Nat) (M : Mem) (S : St) (g : Int64), i + d = T → RV M false 0 S [] [] → mI M 120 7 = 0 → mL M 120 8 = g → Gk g → GI N A P S0 S → d + 9300 ≤ n → ∃ M', f_X10_goOn_25 n 120 (nI T) (nI i) M = some (nI (i + (gN N d S g).2), M') ∧ RV M' false 0 (gN N d S g).1 [] [] ∧ FrG M M' := by
  intro d
  induction d with
  | zero =>
    intro i n M S g hi r h7 hg hG hI hn
    obtain ⟨n, rfl⟩ : ∃ m, n = m + 1 := ⟨n - 1, by omega⟩
    refine ⟨M, ?_, r, FrG.rf M⟩
    rw [f_X10_goOn_25, if_pos (nI_le (by omega) (by omega))]
    rfl
  | succ d ih =>
    intro i n M S g hi r h7 hg hG hI hn
    obtain ⟨n, rfl⟩ : ∃ m, n = m + 1 := ⟨n - 1, by omega⟩
    have hl := hI.tfl
    have hR := hI.2.2.2.2
    obtain ⟨M1, d1, d2, f1⟩ := r.goO (n := n) hI.1 (by rw [hR 20 0 (by omega)]; exact hN) h2 h16 (by rw [hR 20 1 (by omega)]; exact ht) hA (by omega) h7 hg hG (by omega)
    by_cases c : mv0 N S = []
    · rw [gN_z c]
      obtain ⟨e1, r1, _⟩ := d1 c
      refine ⟨M1, ?_, r1, f1⟩
      rw [f_X10_goOn_25, if_neg (nI_ge (by omega) (by omega)), rs_f r.1, e1, obd2_s, if_pos rfl]
      rfl
    · obtain ⟨m, hm, e1, r1, g1⟩ := d2 c
      have mem : m ∈ mv0 N S := List.mem_of_getElem? hm
      have hI1 := hI.tdm h16 hA mem 0
      obtain ⟨M', e', r', f'⟩ := ih (i + 1) n M1 _ (drw g) (by omega) r1 (by rw [f1.2.2.1 7 (by decide)]; exact h7) g1 (Gk_drw hG) hI1 (by omega)
      rw [gN_s c hm]
      refine ⟨M', ?_, r', f1.tr f'⟩
      rw [f_X10_goOn_25, if_neg (nI_ge (by omega) (by omega)), rs_f r.1, e1, obd2_s, if_neg ne10, bnd_e, nI_1, e']
      show some (nI (i + 1 + (gN N d (dm 0 N m S) (drw g)).2), M') = some (nI (i + ((gN N d (dm 0 N m S) (drw g)).2 + 1)), M')
      rw [show i + 1 + (gN N d (dm 0 N m S) (drw g)).2 = i + ((gN N d (dm 0 N m S) (drw g)).2 + 1) by omega]
theorem WJ.gi {M : Mem} {N A i : Nat} {Q : Nat → Int32} {S : St} (w : WJ M N A i Q S) : GI N A (fun a => Ph a S) S S :=
  ⟨w.2.2.2.1.inv, w.2.2.2.1.ix, w.2.2.2.1.iz, fun _ _ => Nat.le_refl _, fun _ _ _ => rfl⟩
/-- a number up to 500, or none -/
theorem up500 (b : Int32) : (b < 0 ∨ nI 501 ≤ b) ∨ ∃ k, k ≤ 500 ∧ b = nI k := by
  rcases out_in (N := 501) (by decide) b with h | ⟨k, hk, e⟩
  · exact Or.inl h
  · exact Or.inr ⟨k, by omega, e⟩
theorem op39 {M : Mem} {i n : Nat} (h : WI i M) (hi : i ≤ 511) (a b : Int32) (hn : 100000 ≤ n) : Okk i (f_X9_goOn n 0 a b M) (fun M1 => f_X10_goOn n 120 a b M1) := by
  obtain ⟨N, A, Q, S, w⟩ := h
  obtain ⟨X, Y, L, p, sb, xg, xr⟩ := id w.1
  obtain ⟨_, r, z7, sw, hQ⟩ := id w
  have h16 := sw.n16
  have h2 := sw.n2
  have hA := sw.a
  have ps := sw.ps hi
  by_cases ca : a < 0
  · refine Okk.same w (r := -1) ?_ ?_
    · rw [f_X9_goOn, if_pos ca]
    · show f_X10_goOn n 120 a b M = _
      rw [f_X10_goOn, if_pos ca]
  · obtain ⟨s, hs, rfl⟩ := nn_e ca
    rcases up500 b with hb | ⟨T, hT, rfl⟩
    · refine Okk.same w (r := -1) ?_ ?_
      · rw [f_X9_goOn, if_neg ca]
        by_cases cb : b < 0
        · rw [if_pos cb]
        · rw [if_neg cb, if_neg (show ¬ b ≤ (500 : Int32) from fun z => by
            have h1 := hb.resolve_left cb
            have h3 := Int32.le_trans h1 z
            exact absurd h3 (by decide))]
      · show f_X10_goOn n 120 (nI s) b M = _
        rw [f_X10_goOn, if_neg ca, show (500 : Int32) = nI 500 from rfl, show (0 : Int32) = nI 0 from rfl]
        rcases hb with hb | hb
        · rw [show f_X10_isIn b (nI 0) (nI 500) M = some 0 by rw [f_X10_isIn, if_pos (show b < nI 0 from hb)], obd_s, if_pos (show (0 : Int32) = nI 0 from rfl)]
        · have : f_X10_isIn b (nI 0) (nI 500) M = some 0 := by
            rw [f_X10_isIn]
            by_cases cb : b < nI 0
            · rw [if_pos cb]
            · rw [if_neg cb, if_pos (gt3 (N := 500) (by decide) hb)]
          rw [this, obd_s, if_pos (show (0 : Int32) = nI 0 from rfl)]
    · have g0 : Gk ((nI s).toInt64) := lN_Gk hs
      have hP : smN (fun a => Ph a S) 16 + N ≤ 9000 := by
        show PhS S + N ≤ 9000
        omega
      have pL := p.tsL 14 16 ((nI s).toInt64)
      obtain ⟨M1, e1, p1, f1⟩ := cgo (A := A) h2 h16 (by omega) hP hT T 0 n _ S _ (by omega) pL (show XG (sL M 14 16 ((nI s).toInt64)) from xg) (mL_s _ _ _ _) g0 w.gi (by omega)
      have f0 : FrD M (sL M 14 16 ((nI s).toInt64)) 14 := ⟨_, FrH.rf _ _⟩
      have F := (f0.tr f1).w4
      have pp : ∀ X Y, HV M 14 X Y 0 N Q S [] [] → HV M1 14 X Y 0 N Q (gN N T S ((nI s).toInt64)).1 [] [] := fun X Y p' => by
        obtain ⟨M1', e1', p1', _⟩ := cgo (A := A) h2 h16 (by omega) hP hT T 0 n _ S _ (by omega) (p'.tsL 14 16 ((nI s).toInt64)) (show XG (sL M 14 16 ((nI s).toInt64)) from xg) (mL_s _ _ _ _) g0 w.gi (by omega)
        rw [e1] at e1'
        cases e1'
        exact p1'
      have gi := GI.tgN (P := fun a => Ph a S) (S0 := S) h16 (show A < 1048576 by omega) T S _ g0 w.gi
      obtain ⟨cw, r1, s120, io⟩ := w.cls F pp (fun kk j hk => gi.2.2.2.2 kk j (by omega))
      have rL := r1.tsL 120 8 ((nI s).toInt64)
      obtain ⟨M2, e2, r2, f2⟩ := rgo h2 h16 (show A < 1048576 by omega) hP hT sw.n sw.t T 0 n _ S _ (by omega) rL (by show mI M1 120 7 = 0; rw [s120]; exact z7) (mL_s _ _ _ _) g0 w.gi (by omega)
      have kq : Qk S (gN N T S ((nI s).toInt64)).1 := fun k hk j => gi.2.2.2.2 k j (by omega)
      have cI : ∀ o, ¬ (120 ≤ o ∧ o ≤ 130) → ∀ b, mI M2 o b = mI M1 o b := fun o ho b => by
        have := f2.2.1 o (fun z => ho ⟨by have := z.1; omega, by have := z.2; omega⟩) b
        exact this
      have c7 : mI M2 120 7 = 0 := by
        have := f2.2.2.1 7 (by decide)
        rw [this]
        show mI M1 120 7 = 0
        rw [s120]; exact z7
      have sw' : SW N A (i + 1) (gN N T S ((nI s).toInt64)).1 := sw.st (fun kk j hk => gi.2.2.2.2 kk j (by omega)) gi.1 gi.2.1 gi.2.2.1 (by omega) (fun y hy => by
        have nb : nbr N (gN N T S ((nI s).toInt64)).1 = nbr N S := smN_c N (fun v _ => by rw [gi.2.2.2.2 7 v (by omega)])
        rw [nb]
        have h8 := sw.pb y hy
        have h9 : Ph y (gN N T S ((nI s).toInt64)).1 ≤ Ph y S := gi.2.2.2.1 y (by omega)
        omega)
      have c1 : M2.1 = M1.1 := f2.1
      refine ⟨nI (0 + (gN N T S ((nI s).toInt64)).2), M1, M2, ?_, io, ?_, WJ.fin cw r2 c1 cI (fun o ho b => (f2.2.2.2 o b (by omega)).trans (mL_o _ _ _ _ (by omega))) c7 sw' (fun v hv => by rw [kq.m]; exact hQ v hv)⟩
      · rw [f_X9_goOn, if_neg ca, if_neg (show ¬ nI T < 0 from nI_nlt (b := 0) (Nat.zero_le _) (by omega)), if_pos (show nI T ≤ (500 : Int32) from nI_le (b := 500) hT (by decide)), chk_t xg.1, xg.2.2.2.1, bnd_e, cs_f p.1, bnd_e]
        exact e1
      · show f_X10_goOn n 120 (nI s) (nI T) M1 = _
        rw [f_X10_goOn, if_neg ca, show (500 : Int32) = nI 500 from rfl, f_isI M1 hT (by decide), obd_s, if_neg ne10, rs_f r1.1, bnd_e]
        exact e2
/-! ===== the class starts anew ===== -/
/-- written into one row alone -/
def Wr (P : Nat) (f : Nat → Int32) (M M' : Mem) : Prop := M'.1 = M.1 ∧ (∀ j, mI M' P j = f j) ∧ (∀ o, o ≠ P → ∀ b, mI M' o b = mI M o b) ∧ ∀ o b, mL M' o b = mL M o b
theorem Wr.r (P : Nat) (M : Mem) : Wr P (mI M P) M M := ⟨rfl, fun _ => rfl, fun _ _ _ => rfl, fun _ _ => rfl⟩
theorem Wr.s {P : Nat} {f : Nat → Int32} {M M' : Mem} (w : Wr P f M M') (k : Nat) (x : Int32) : Wr P (fun j => if j = k then x else f j) M (sI M' P k x) := by
  obtain ⟨a, b, c, d⟩ := w
  refine ⟨a, fun j => ?_, fun o n b => by rw [mI_o _ _ _ _ _ n]; exact c o n b, d⟩
  by_cases e : j = k
  · rw [e, mI_s]; exact (if_pos rfl).symm
  · rw [mI_n _ _ _ _ e]; exact (b j).trans (if_neg e).symm
theorem pl_clear {M : Mem} {h v : Nat} (q : CS M h) (hv : v < 16) : ∃ M', f_X4_clear (h + 17 + 2 * v) M = some M' ∧ M'.1 = M.1 ∧ (∀ j, j < 16 → j ≠ 10 → mI M' (h + 17 + 2 * v) j = if j = 6 ∨ j = 7 then -1 else 0) ∧ (∀ o, o ≠ h + 17 + 2 * v → ∀ b, mI M' o b = mI M o b) ∧ ∀ o b, mL M' o b = mL M o b := by
  generalize hP : h + 17 + 2 * v = P
  have c : ∀ {α : Type} {M' : Mem} {f : Nat → Int32} (w : Wr P f M M') (x : Option α), chk (isO M' 4 P) x = x := fun w x => by
    rw [← hP]; exact cs_po (q.e w.1) hv x
  have w0 := Wr.r P M
  have w2 := (w0.s 0 0).s 1 0
  generalize hA : sI (sI M P 0 0) P 1 0 = A at w2
  have w6 := (((w2.s 2 0).s 3 0).s 4 0).s 5 0
  generalize hB : sI (sI (sI (sI A P 2 0) P 3 0) P 4 0) P 5 0 = B at w6
  have w8 := (w6.s 6 (-1)).s 7 (-1)
  generalize hC : sI (sI B P 6 (-1)) P 7 (-1) = C at w8
  have w9 := w8.s 8 0
  generalize hD : sI C P 8 0 = D at w9
  have wa := w9.s 9 0
  generalize hE : sI D P 9 0 = E at wa
  have wb := ((((wa.s 11 0).s 12 0).s 13 0).s 14 0).s 15 0
  generalize hF : sI (sI (sI (sI (sI E P 11 0) P 12 0) P 13 0) P 14 0) P 15 0 = F at wb
  have er : f_X4_rest P A = some B := by
    rw [f_X4_rest, c w2, bnd_e, bnd_e, bnd_e, bnd_e, hB]
  have eg : f_X4_forgetGranted P B = some D := by
    rw [f_X4_forgetGranted, c w6, bnd_e, bnd_e, chk_t (Or.inl rfl), hC, bnd_e, hD]
  have ea : f_X4_forgetAll P B = some E := by
    rw [f_X4_forgetAll, c w6, eg, obd_s, c w9, bnd_e, hE]
  refine ⟨F, ?_, wb.1, fun j hj n => ?_, wb.2.2.1, wb.2.2.2⟩
  · rw [f_X4_clear, c w0, bnd_e, bnd_e, hA, er, obd_s, c w6, ea, obd_s, c wa, bnd_e, bnd_e, bnd_e, bnd_e, bnd_e, hF]
  · rw [wb.2.1 j]
    rcases (show j = 0 ∨ j = 1 ∨ j = 2 ∨ j = 3 ∨ j = 4 ∨ j = 5 ∨ j = 6 ∨ j = 7 ∨ j = 8 ∨ j = 9 ∨ j = 11 ∨ j = 12 ∨ j = 13 ∨ j = 14 ∨ j = 15 by omega) with rfl | rfl | rfl | rfl | rfl | rfl | rfl | rfl | rfl | rfl | rfl | rfl | rfl | rfl | rfl <;> rfl
theorem pl_l {h : Nat} : ∀ (d i n : Nat) (M : Mem), i + d = 16 → CS M h → d + 1 ≤ n → ∃ M' n', f_X2_clear_9 n h (nI i) M = f_X2_clear_9 (n' + 1) h (nI 16) M' ∧ M'.1 = M.1 ∧ (∀ v, i ≤ v → v < 16 → ∀ j, j < 16 → j ≠ 10 → mI M' (h + 17 + 2 * v) j = if j = 6 ∨ j = 7 then -1 else 0) ∧ (∀ o, ¬ (h + 17 + 2 * i ≤ o ∧ o < h + 49) → ∀ b, mI M' o b = mI M o b) ∧ ∀ o b, mL M' o b = mL M o b := by
  intro d
  induction d with
  | zero =>
    intro i n M hi q hn
    obtain ⟨n, rfl⟩ : ∃ m, n = m + 1 := ⟨n - 1, by omega⟩
    have : i = 16 := by omega
    subst this
    exact ⟨M, n, rfl, rfl, fun v a b => by omega, fun _ _ _ => rfl, fun _ _ => rfl⟩
  | succ d ih =>
    intro i n M hi q hn
    obtain ⟨n, rfl⟩ : ∃ m, n = m + 1 := ⟨n - 1, by omega⟩
    have i6 : i < 16 := by omega
    obtain ⟨M1, e1, s1, a1, b1, c1⟩ := pl_clear q i6
    obtain ⟨M', n', e', s', a', b', c'⟩ := ih (i + 1) n M1 (by omega) (q.e s1) (by omega)
    refine ⟨M', n', ?_, s'.trans s1, fun v z1 z2 j hj n => ?_, fun o n b => ?_, fun o b => (c' o b).trans (c1 o b)⟩
    · rw [f_X2_clear_9, if_neg (show ¬ (16 : Int32) ≤ nI i from nI_ge (a := i) (b := 16) (by omega) (by decide)), cs_f q, cs_h2 q, bnd_e, cs_a10 q, cs_i10 q i6, cs_rpc q i6, bnd_e, cs_po q i6, e1, obd_s, bnd_e, nI_1, e']
    · by_cases c : v = i
      · subst c
        rw [b' _ (by omega)]; exact a1 j hj n
      · exact a' v (by omega) z2 j hj n
    · rw [b' o (by omega), b1 o (by omega)]
/-- the model started anew: N nodes, sets B, a tree or not -/
def fS0 (N : Nat) (B : Nat → Int32) (tr : Int32) : St := ((fun k i => if k = 8 then -1 else if k = 17 then B i else if k = 19 then 1 else if k = 20 then (if i = 0 then nI N else if i = 1 then tr else 0) else 0), fun _ => [], fun _ => [], [], [])
theorem fS0_R (N : Nat) (B : Nat → Int32) (tr : Int32) (k i : Nat) : xR (fS0 N B tr) k i = if k = 8 then -1 else if k = 17 then B i else if k = 19 then 1 else if k = 20 then (if i = 0 then nI N else if i = 1 then tr else 0) else 0 := rfl
theorem fS0_0 {N : Nat} {B : Nat → Int32} {tr : Int32} {k i : Nat} (h : k ≠ 8 ∧ k ≠ 17 ∧ k ≠ 19 ∧ k ≠ 20) : xR (fS0 N B tr) k i = 0 := by
  rw [fS0_R, if_neg (by omega), if_neg (by omega), if_neg (by omega), if_neg (by omega)]
theorem fS0_fl (N : Nat) (B : Nat → Int32) (tr : Int32) : fl (fS0 N B tr) = [] := fl_0 (fun _ => rfl)
set_option maxHeartbeats 2000000 in
theorem hl_clear {M : Mem} {d5 d6 d7 len N n : Nat} {B : Nat → Int32} {tr : Int32} (h16 : N ≤ 16) (q : CS M 14) (ds : DS M 14 d5 d6 d7 len) (h64 : 64 ≤ len) (h18 : len ≤ 18000) (l30 : mI M 25 0 = nI 30) (l40 : mI M 27 0 = nI 40) (sb : SB M N (fS0 N B tr)) (hn : 400 ≤ n) : ∃ M', f_X2_clear n 14 M = some M' ∧ M'.1 = M.1 ∧ (∀ X Y, Rm M 14 X Y → HV M' 14 X Y 0 N B (fS0 N B tr) [] []) ∧ (∀ o, ¬ (14 ≤ o ∧ o < 63) → ∀ b, mI M' o b = mI M o b) ∧ ∀ o b, mL M' o b = mL M o b := by
  have hq := q.2.2.2.2
  obtain ⟨M1, e1, s1, f1, g1, h1⟩ := f_fill (x := 0) (o := 14 + 4) (len := 256) (n := n) (M := M) (by decide) (q.io (i := 4) (by decide) (by decide) (by decide)) (q.ln (i := 4) (by decide) (by decide) (by decide)) (by omega)
  have q1 := q.e s1
  obtain ⟨M2, e2, s2, f2, g2, h2⟩ := f_fill (x := 0) (o := 14 + 5) (len := 16) (n := n) (M := M1) (by decide) (q1.io (i := 5) (by decide) (by decide) (by decide)) (q1.ln (i := 5) (by decide) (by decide) (by decide)) (by omega)
  have q2 := q1.e s2
  generalize hM3 : sI (sI (sI M2 (14 + 1) 8 0) (14 + 1) 9 (-1)) (14 + 1) 10 0 = M3
  have s3 : M3.1 = M.1 := by rw [← hM3]; exact s2.trans s1
  have q3 := q.e s3
  have L3 : ∀ o b, mL M3 o b = mL M o b := fun o b => by rw [← hM3]; exact (h2 o b).trans (h1 o b)
  obtain ⟨M4, e4, s4, f4, g4, h4⟩ := f_fill (x := 0) (o := 14 + 6) (len := 6) (n := n) (M := M3) (by decide) (q3.io (i := 6) (by decide) (by decide) (by decide)) (q3.ln (i := 6) (by decide) (by decide) (by decide)) (by omega)
  have q4 := q3.e s4
  generalize hM5 : sI M4 (14 + 1) 11 0 = M5
  have s5 : M5.1 = M.1 := by rw [← hM5]; exact s4.trans s3
  have q5 := q.e s5
  obtain ⟨M6, n6, e6, s6, a6, b6, c6⟩ := pl_l 16 0 n M5 rfl q5 (by omega)
  have S6 : M6.1 = M.1 := s6.trans s5
  have q6 := q.e S6
  -- what has been written so far
  have p15 : ∀ b, mI M6 15 b = if b = 8 then 0 else if b = 9 then -1 else if b = 10 then 0 else if b = 11 then 0 else mI M 15 b := fun b => by
    rw [b6 15 (by omega), ← hM5]
    by_cases z11 : b = 11
    · subst z11; rw [mI_s]; rfl
    · rw [mI_n _ _ _ _ z11, g4 15 (by decide), ← hM3]
      by_cases z10 : b = 10
      · subst z10; rw [mI_s]; rfl
      · rw [mI_n _ _ _ _ z10]
        by_cases z9 : b = 9
        · subst z9; rw [mI_s]; rfl
        · rw [mI_n _ _ _ _ z9]
          by_cases z8 : b = 8
          · subst z8; rw [mI_s]; rfl
          · rw [mI_n _ _ _ _ z8, g2 15 (by decide), g1 15 (by decide), if_neg z8, if_neg z9, if_neg z10, if_neg z11]
  have p18 : ∀ b, b < 256 → mI M6 18 b = 0 := fun b hb => by
    rw [b6 18 (by omega), ← hM5, mI_o _ _ _ _ _ (by decide), g4 18 (by decide), ← hM3, mI_o _ _ _ _ _ (by decide), mI_o _ _ _ _ _ (by decide), mI_o _ _ _ _ _ (by decide), g2 18 (by decide)]; exact f1 b hb
  have p19 : ∀ b, b < 16 → mI M6 19 b = 0 := fun b hb => by
    rw [b6 19 (by omega), ← hM5, mI_o _ _ _ _ _ (by decide), g4 19 (by decide), ← hM3, mI_o _ _ _ _ _ (by decide), mI_o _ _ _ _ _ (by decide), mI_o _ _ _ _ _ (by decide)]; exact f2 b hb
  have p20 : ∀ b, b < 6 → mI M6 20 b = 0 := fun b hb => by
    rw [b6 20 (by omega), ← hM5, mI_o _ _ _ _ _ (by decide)]; exact f4 b hb
  have po : ∀ o, o ≠ 15 → o ≠ 18 → o ≠ 19 → o ≠ 20 → ¬ (31 ≤ o ∧ o < 63) → ∀ b, mI M6 o b = mI M o b := fun o n1 n2 n3 n4 n5 b => by
    rw [b6 o (by omega), ← hM5, mI_o _ _ _ _ _ n1, g4 o n4, ← hM3, mI_o _ _ _ _ _ n1, mI_o _ _ _ _ _ n1, mI_o _ _ _ _ _ n1, g2 o n3, g1 o n2]
  have pL : ∀ o b, mL M6 o b = mL M o b := fun o b => by rw [c6, ← hM5]; exact (h4 o b).trans (L3 o b)
  clear b6 c6 f1 f2 f4 g1 g2 g4 h1 h2 h4
  generalize hMa : sI (sI M6 25 2 0) 25 3 0 = Ma
  generalize hMb : sI (sI Ma 27 2 0) 27 3 0 = Mb
  generalize hMc : sI (sI (sI (sI (sI (sI (sI (sI (sI Mb 14 7 0) 14 8 0) 14 9 0) 14 10 0) 14 11 0) 14 12 0) 14 13 0) 14 14 0) 14 15 0 = Mc
  generalize hMd : cpI Mc 2 0 29 0 16 = Md
  have Sa : Ma.1 = M.1 := by rw [← hMa]; exact S6
  have Sb : Mb.1 = M.1 := by rw [← hMb]; exact Sa
  have Sc : Mc.1 = M.1 := by rw [← hMc]; exact Sb
  have Sd : Md.1 = M.1 := by rw [← hMd]; exact Sc
  have sbc : SB Mc N (fS0 N B tr) := sb.e Sc (fun b => by
    rw [← hMc, ← hMb, ← hMa]
    simp only [mI_o _ _ _ _ _ (show (1 : Nat) ≠ 14 by decide), mI_o _ _ _ _ _ (show (1 : Nat) ≠ 27 by decide), mI_o _ _ _ _ _ (show (1 : Nat) ≠ 25 by decide)]
    exact po 1 (by decide) (by decide) (by decide) (by decide) (by omega) b) (fun b => by
    rw [← hMc, ← hMb, ← hMa]
    simp only [mI_o _ _ _ _ _ (show (2 : Nat) ≠ 14 by decide), mI_o _ _ _ _ _ (show (2 : Nat) ≠ 27 by decide), mI_o _ _ _ _ _ (show (2 : Nat) ≠ 25 by decide)]
    exact po 2 (by decide) (by decide) (by decide) (by decide) (by omega) b)
  have oc : ∀ o, o ≠ 14 → o ≠ 25 → o ≠ 27 → o ≠ 29 → ∀ b, mI Md o b = mI M6 o b := fun o n1 n2 n3 n4 b => by
    rw [← hMd, cp_I, if_neg (fun z => n4 z.1), ← hMc, ← hMb, ← hMa]
    simp only [mI_o _ _ _ _ _ n1, mI_o _ _ _ _ _ n2, mI_o _ _ _ _ _ n3]
  have d29 : ∀ v, v < N → mI Md 29 v = B v := fun v hv => by
    rw [← hMd, cp_I, if_pos ⟨rfl, by omega⟩, sbc.b hv]
    rw [fS0_R, if_neg (by decide), if_pos rfl]
  have d25 : mI Md 25 0 = nI 30 ∧ mI Md 25 2 = 0 ∧ mI Md 25 3 = 0 := by
    have g : ∀ b, mI Md 25 b = mI Ma 25 b := fun b => by
      rw [← hMd, cp_I, if_neg (by omega), ← hMc, ← hMb]
      simp only [mI_o _ _ _ _ _ (show (25 : Nat) ≠ 14 by decide), mI_o _ _ _ _ _ (show (25 : Nat) ≠ 27 by decide)]
    refine ⟨?_, ?_, ?_⟩
    · rw [g, ← hMa, mI_n _ _ _ _ (by decide), mI_n _ _ _ _ (by decide), po 25 (by decide) (by decide) (by decide) (by decide) (by omega)]; exact l30
    · rw [g, ← hMa, mI_n _ _ _ _ (by decide), mI_s]
    · rw [g, ← hMa, mI_s]
  have d27 : mI Md 27 0 = nI 40 ∧ mI Md 27 2 = 0 ∧ mI Md 27 3 = 0 := by
    have g : ∀ b, mI Md 27 b = mI Mb 27 b := fun b => by
      rw [← hMd, cp_I, if_neg (by omega), ← hMc]
      simp only [mI_o _ _ _ _ _ (show (27 : Nat) ≠ 14 by decide)]
    refine ⟨?_, ?_, ?_⟩
    · rw [g, ← hMb, mI_n _ _ _ _ (by decide), mI_n _ _ _ _ (by decide), ← hMa, mI_o _ _ _ _ _ (by decide), mI_o _ _ _ _ _ (by decide), po 27 (by decide) (by decide) (by decide) (by decide) (by omega)]; exact l40
    · rw [g, ← hMb, mI_n _ _ _ _ (by decide), mI_s]
    · rw [g, ← hMb, mI_s]
  have d14 : ∀ b, 7 ≤ b → b ≤ 15 → mI Md 14 b = 0 := fun b h1 h2 => by
    rw [← hMd, cp_I, if_neg (by omega), ← hMc]
    simp only [mI_sI, true_and]
    rcases (show b = 7 ∨ b = 8 ∨ b = 9 ∨ b = 10 ∨ b = 11 ∨ b = 12 ∨ b = 13 ∨ b = 14 ∨ b = 15 by omega) with rfl | rfl | rfl | rfl | rfl | rfl | rfl | rfl | rfl <;> rfl
  have dpl : ∀ v, v < 16 → ∀ j, j < 16 → j ≠ 10 → mI Md (14 + 17 + 2 * v) j = if j = 6 ∨ j = 7 then -1 else 0 := fun v hv j hj n => by
    rw [oc _ (by omega) (by omega) (by omega) (by omega)]
    exact a6 v (Nat.zero_le _) hv j hj n
  have dn : ∀ o, ¬ (14 ≤ o ∧ o < 63) → ∀ b, mI Md o b = mI M o b := fun o n b => by
    rw [oc o (by omega) (by omega) (by omega) (by omega), po o (by omega) (by omega) (by omega) (by omega) (by omega)]
  refine ⟨Md, ?_, Sd, fun X Y rm => ⟨q.e Sd, ?_, ⟨fun v hv => ?_, ?_⟩, ?_, ⟨?_, ?_⟩, ?_, fun v hv => ?_⟩, dn, fun o b => by rw [← hMd, ← hMc, ← hMb, ← hMa]; exact pL o b⟩
  · have ea : ∀ (M' : Mem), M'.1 = M.1 → f_X3_empty 25 M' = some (sI (sI M' 25 2 0) 25 3 0) := fun M' e => by
      rw [f_X3_empty, chk_t ((q.e e).io (i := 11) (c := 3) (by decide) (by decide) (by decide)), bnd_e, bnd_e]
    have eb : ∀ (M' : Mem), M'.1 = M.1 → f_X3_empty 27 M' = some (sI (sI M' 27 2 0) 27 3 0) := fun M' e => by
      rw [f_X3_empty, chk_t ((q.e e).io (i := 13) (c := 3) (by decide) (by decide) (by decide)), bnd_e, bnd_e]
    have ec : f_X5_clear n 15 M = some M5 := by
      have e0 : f_X5_clearLanes n (14 + 1) M = some M3 := by
        rw [f_X5_clearLanes, cs_p q, cs_r4 q, bnd_e, cs_a4 q, e1, obd_s, cs_p q1, cs_r5 q1, bnd_e, cs_a5 q1, e2, obd_s, cs_p q2, bnd_e, bnd_e, bnd_e]
        exact congrArg some hM3
      show f_X5_clear n (14 + 1) M = some M5
      rw [f_X5_clear, cs_p q, e0, obd_s, cs_p q3, cs_r6 q3, bnd_e, cs_a6 q3, e4, obd_s, cs_p q4, bnd_e]
      exact congrArg some hM5
    have qa := q.e Sa
    have qb := q.e Sb
    have qc := q.e Sc
    rw [f_X2_clear, cs_f q, cs_h1 q, bnd_e, cs_p q, ec, obd_s, show (0 : Int32) = nI 0 from rfl, e6, f_X2_clear_9, if_pos (show (16 : Int32) ≤ nI 16 by decide), cs_f q6, cs_h3 q6, bnd_e, chk_t (q6.io (i := 11) (c := 3) (by decide) (by decide) (by decide)), show f_X3_empty (14 + 11) M6 = some Ma by rw [← hMa]; exact ea M6 S6, obd_s, cs_f qa, cs_h4 qa, bnd_e, chk_t (qa.io (i := 13) (c := 3) (by decide) (by decide) (by decide)), show f_X3_empty (14 + 13) Ma = some Mb by rw [← hMb]; exact eb Ma Sa, obd_s, cs_f qb, bnd_e, bnd_e, bnd_e, bnd_e, bnd_e, bnd_e, bnd_e, bnd_e, hMc, bnd_e, cs_h0 qc, bnd_e, sbc.f, sbc.r2, bnd_e, sbc.a2, cs_h5 qc, bnd_e, cs_a15 qc, show (16 : Int32) = nI 16 from rfl, cp_st (la := mLn Mc 2) (lb := mLn Mc (14 + 15)) _ (by rw [sbc.2.2.1.1]; exact Nat.le_refl _) (by rw [qc.ln (i := 15) (c := 16) (by decide) (by decide) (by decide)]; exact Nat.le_refl _) (by decide)]
    exact congrArg some hMd
  · refine ⟨d5, d6, d7, len, fun _ => [], [], 0, fun _ => 256, ⟨ds.e Sd, ?_, ?_, ?_, ?_, ?_, ?_, ?_, ?_, ?_, ?_, ?_⟩, fun _ _ => rfl⟩
    · intro l _ z hz; cases hz
    · intro l _; exact List.nodup_nil
    · intro l _; exact trivial
    · intro l _ cs z h
      cases cs <;> cases h
    · intro l hl'
      show mI Md 18 l = nI 0
      rw [oc 18 (by decide) (by decide) (by decide) (by decide), p18 l hl']; rfl
    · intro f hf g hg
      show bt (mI Md 19 f) g = _
      rw [oc 19 (by decide) (by decide) (by decide) (by decide), p19 f hf, b_0]
      simp
    · intro k hk
      show mI Md 20 k = _
      rw [oc 20 (by decide) (by decide) (by decide) (by decide), p20 k hk, fS0_0 (by omega)]
    · refine ⟨List.nodup_nil, fun c hc => absurd hc (by simp), ?_⟩
      show mI Md 15 9 = -1
      rw [oc 15 (by decide) (by decide) (by decide) (by decide), p15]; rfl
    · refine ⟨?_, Nat.zero_le _, Nat.zero_le _, h18, h64⟩
      show mI Md 15 8 = nI 0
      rw [oc 15 (by decide) (by decide) (by decide) (by decide), p15]; rfl
    · show mI Md 15 11 = 0
      rw [oc 15 (by decide) (by decide) (by decide) (by decide), p15]; rfl
    · refine ⟨0, ?_, rfl, ?_⟩
      · show mI Md 15 10 = nI 0
        rw [oc 15 (by decide) (by decide) (by decide) (by decide), p15]; rfl
      · unfold flr
        rw [eq_comm, List.length_eq_zero_iff, List.flatMap_eq_nil_iff]
        intro l _
        rfl
  · have lim : ∀ p, p ∈ ft → p.1 < 16 ∧ p.1 ≠ 10 ∧ p.1 ≠ 7 ∧ (p.1 = 6 ∧ p.2 = 8 ∨ p.1 ≠ 6 ∧ p.2 ≠ 8 ∧ p.2 ≠ 17 ∧ p.2 ≠ 19 ∧ p.2 ≠ 20) := by decide
    refine ⟨fun p hp => ?_, ?_, fun z => ?_, fun u hu => ?_, fun w hw => by cases hw⟩
    · obtain ⟨l1, l2, l3, l4⟩ := lim p hp
      rw [dpl v hv _ l1 l2]
      rcases l4 with ⟨z1, z2⟩ | ⟨z1, z2, z3, z4, z5⟩
      · rw [if_pos (Or.inl z1), z2]; rfl
      · rw [if_neg (by omega), fS0_0 ⟨z2, z3, z4, z5⟩]
    · rw [dpl v hv 7 (by decide) (by decide)]; rfl
    · rw [fS0_0 (by omega)] at z; exact absurd z (by decide)
    · rw [dpl v hv 9 (by decide) (by decide), if_neg (by decide), b_0]; rfl
  · refine ⟨fun v hv => ?_, fun v hv => ?_, fun v hv => ?_, ?_, ?_, ?_, ?_, ?_, ?_⟩
    · rw [d14 7 (by decide) (by decide), b_0]
      symm
      apply decide_eq_false
      rintro ⟨_, z⟩
      rw [fS0_0 (by omega)] at z; exact absurd z (by decide)
    · rw [d14 8 (by decide) (by decide), b_0]
      symm
      apply decide_eq_false
      rintro ⟨_, z⟩
      rw [fS0_0 (by omega)] at z; exact absurd z (by decide)
    · rw [d14 9 (by decide) (by decide), b_0]
      symm
      apply decide_eq_false
      rintro ⟨_, z⟩
      rw [fS0_0 (by omega)] at z; exact absurd z (by decide)
    · rw [d14 10 (by decide) (by decide), fS0_0 (by omega)]
    · rw [d14 11 (by decide) (by decide), fS0_0 (by omega)]
    · rw [d14 12 (by decide) (by decide), fS0_0 (by omega)]
    · rw [d14 13 (by decide) (by decide), fS0_0 (by omega)]
    · rw [d14 14 (by decide) (by decide), fS0_0 (by omega)]
    · rw [d14 15 (by decide) (by decide), fS0_0 (by omega)]
  · unfold Rm mN mU mLn mR at rm ⊢
    rw [Sd]; exact rm
  · exact LG_0 d25.1 d25.2.1 d25.2.2
  · exact LG_0 d27.1 d27.2.1 d27.2.2
  · rw [dn 1 (by omega)]; exact sb.n
  · exact d29 v hv
/-! ===== the model started anew: what holds of it ===== -/
section
variable {N : Nat} {B : Nat → Int32} {tr : Int32}
theorem fS0_8 (v : Nat) : xR (fS0 N B tr) 8 v = -1 := by rw [fS0_R, if_pos rfl]
theorem fS0_Inv (h16 : N ≤ 16) : Inv N 0 (fS0 N B tr) := by
  have v0 : ∀ k v, k < 8 → xR (fS0 N B tr) k v = 0 := fun k v hk => fS0_0 (by omega)
  have v9 : ∀ v, xR (fS0 N B tr) 9 v = 0 := fun v => fS0_0 (by omega)
  have v10 : ∀ v, xR (fS0 N B tr) 10 v = 0 := fun v => fS0_0 (by omega)
  have oe0 : ∀ v a, v < N → a < N → oe (fS0 N B tr) 99 99 none v a = none := fun v a hv ha => by
    rw [oe_99 (by omega)]
    unfold eng
    rw [fS0_8, if_neg (m1_ne (by omega))]
    rfl
  refine ⟨fun v hv => ⟨Or.inl (v0 0 v (by decide)), fun _ => v0 0 v (by decide), Or.inl (v0 7 v (by decide)), Or.inl (v10 v)⟩, fun v hv i _ _ => ?_, fun v hv z => ?_, fun v hv => ⟨0, 0, Nat.le_refl _, Nat.le_refl _, v0 1 v (by decide), v0 2 v (by decide)⟩, fun l _ => ⟨fun x hx => ?_, fun _ => rfl⟩, fun a ha => ⟨⟨List.Pairwise.nil, List.nodup_nil, fun w hw => ?_⟩, fun _ => rfl, Or.inl ⟨fS0_8 a, v9 a, v10 a⟩⟩, fun v hv a ha => ?_, fun v hv a ha => ⟨fun s hs => ?_, fun x hx => ?_, fun x hx => ?_⟩⟩
  · rw [v0 3 v (by decide)]; exact b_0 _
  · rw [v0 0 v (by decide)] at z; exact absurd z (by decide)
  · have hx' : x ∈ (([] : List Ltr)) := hx
    simp at hx'
  · have hw' : w ∈ (([] : List Wtr)) := hw
    simp at hw'
  · rw [oe0 v a hv ha]
    unfold opn
    rw [if_neg (fun z => z.1 (v0 0 v (by decide)))]
    rfl
  · rw [oe0 v a hv ha] at hs; cases hs
  · have hx' : x ∈ (([] : List Ltr)) := hx
    simp at hx'
  · have hx' : x ∈ (([] : List Ltr)) := hx
    simp at hx'
theorem fS0_X : IX N (fS0 N B tr) := by
  refine ⟨fun a _ w hw => ?_, fun v _ z => ?_, fun x _ z => ?_⟩
  · have hw' : w ∈ (([] : List Wtr)) := hw
    simp at hw'
  · rw [fS0_0 (by omega)] at z; exact absurd z (by decide)
  · rw [fS0_0 (by omega)] at z; exact absurd z (by decide)
theorem fS0_Z : IZ N (fS0 N B tr) := by
  refine ⟨fun v _ i _ z => ?_, fun v _ _ => fS0_0 (by omega), fun v _ _ => ⟨fS0_0 (by omega), fS0_8 v⟩⟩
  rw [fS0_0 (by omega), b_0] at z; cases z
theorem fS0_Ph (a : Nat) : Ph a (fS0 N B tr) = 0 := by
  have h1 : phL a (fS0 N B tr) = 0 := by
    unfold phL
    rw [fS0_fl]; rfl
  have h2 : phB a (fS0 N B tr) = 0 := by
    unfold phB
    have : smN (phv (fS0 N B tr) a) 16 = smN (fun _ => 0) 16 := smN_c 16 (fun v _ => by
      unfold phv
      rw [fS0_0 (k := 4) (by omega), fS0_0 (k := 5) (by omega), b_0, if_neg (fun z => by cases z.1), if_neg (by decide)])
    rw [this, smN_k]
  unfold Ph
  omega
theorem fS0_SW {i : Nat} (h2 : 2 ≤ N) (h16 : N ≤ 16) (t2 : tr = 0 ∨ tr = 1) (t : tr = 1 → N % 2 = 1) (bi : ∀ v, v < N → ∀ i, N ≤ i → i < 32 → bt (B v) i = false) (tb : TBs N B tr) : SW N 0 i (fS0 N B tr) :=
  ⟨⟨h2, h16⟩, rfl, t2, t, bi, fS0_Inv h16, fS0_X, fS0_Z, Nat.zero_le _, fun a _ => by rw [fS0_Ph]; exact Nat.zero_le _, tb⟩
theorem fS0_qm (h16 : N ≤ 16) (v : Nat) : qm N (fS0 N B tr) v = B v := by
  have hb : bkm N (fS0 N B tr) = 0 := by
    apply b_ext
    intro i hi
    rw [bkm_b h16 (fun v _ => Or.inl (fS0_0 (by omega))) hi, b_0]
    apply decide_eq_false
    rintro ⟨_, z⟩
    rw [fS0_0 (by omega)] at z; exact absurd z (by decide)
  unfold qm qby
  rw [hb, Int32.and_zero, if_pos rfl]; rfl
end
/-- the reference's big row after a maker -/
def rfm (f : Nat → Int32) (N : Nat) (tr : Int32) (C : Nat → Int32) (b : Nat) : Int32 := if 2 ≤ b ∧ b < 2 + N then C (b - 2) else bgf f (nI N) tr b
theorem rfm_RV {M : Mem} {f : Nat → Int32} {N : Nat} {tr : Int32} {C B : Nat → Int32} (tw : Bool) (h16 : N ≤ 16) (hS : RS M) (h3 : mI M 120 3 = 0) (hB : ∀ v, v < 16 → B v = if v < N then C v else f (2 + v)) (h : ∀ b, b < 10465 → mI M 121 b = rfm f N tr C b) : RV M tw 0 (fS0 N B tr) [] [] := by
  have fr0 : ∀ b, 18 ≤ b → b < 10209 → ¬ (146 ≤ b ∧ b < 850 ∧ (b - 146) % 44 = 0) → mI M 121 b = 0 := fun b h1 h2 h3 => by
    rw [h b (by omega)]
    unfold rfm
    rw [if_neg (by omega)]
    unfold bgf
    rw [if_neg (by omega), if_neg (by omega), if_neg (by omega)]
    by_cases c1 : b < 146
    · rw [if_pos c1]
    · rw [if_neg c1]
      by_cases c2 : b < 850
      · rw [if_pos c2, if_neg (by omega)]
      · rw [if_neg c2, if_pos h2]
  have fr8 : ∀ a, a < 16 → mI M 121 (146 + 44 * a) = -1 := fun a ha => by
    rw [h _ (by omega)]
    unfold rfm
    rw [if_neg (by omega)]
    unfold bgf
    rw [if_neg (by omega), if_neg (by omega), if_neg (by omega), if_neg (by omega), if_pos (by omega), if_pos (by omega)]
  refine ⟨hS, h3, fun k i hv => ?_, fun a ha => ⟨?_, by show 0 ≤ 20; omega, fun i q h => ?_, fun i _ hi => ⟨?_, ?_⟩⟩, ⟨?_, ?_, ?_⟩, ⟨?_, ?_⟩, ⟨?_, ?_⟩⟩
  · rcases ad_cases hv with ⟨k8, i6, e⟩ | ⟨k8, k11, i6, e⟩ | ⟨k12, k15, i6, e⟩ | ⟨k5, i6, e⟩ | ⟨k6, i6, e⟩ | ⟨k7, i6, e⟩ | ⟨k8, i6, e⟩ | ⟨k9, i6, e⟩ | ⟨k2, i6, e⟩
    · rw [e, fr0 _ (by omega) (by omega) (by omega), fS0_0 (by omega)]
    · by_cases c : k = 8
      · rw [e, c, show 146 + 44 * i + (8 - 8) = 146 + 44 * i by omega, fr8 i i6, fS0_8]
      · rw [e, fr0 _ (by omega) (by omega) (by omega), fS0_0 (by omega)]
    · rw [e, fr0 _ (by omega) (by omega) (by omega), fS0_0 (by omega)]
    · rw [e, fr0 _ (by omega) (by omega) (by omega), fS0_0 (by omega)]
    · rw [e, fr0 _ (by omega) (by omega) (by omega), fS0_0 (by omega)]
    · rw [e, h _ (by omega), fS0_R, if_neg (by omega), if_pos k7, hB i i6]
      unfold rfm
      by_cases c : i < N
      · rw [if_pos (by omega), if_pos c, show 2 + i - 2 = i by omega]
      · rw [if_neg (by omega), if_neg c]
        unfold bgf
        rw [if_neg (by omega), if_neg (by omega), if_pos (by omega)]
    · rw [e, fr0 _ (by omega) (by omega) (by omega), fS0_0 (by omega)]
    · rw [e, h _ (by omega), fS0_R, if_neg (by omega), if_neg (by omega), if_pos k9]
      unfold rfm
      rw [if_neg (by omega)]
      unfold bgf
      rw [if_neg (by omega), if_neg (by omega), if_neg (by omega), if_neg (by omega), if_neg (by omega), if_neg (by omega), if_pos (by omega)]
    · rw [e, h _ (by omega), fS0_R, if_neg (by omega), if_neg (by omega), if_neg (by omega), if_pos k2]
      unfold rfm
      rw [if_neg (by omega)]
      unfold bgf
      rcases (show i = 0 ∨ i = 1 by omega) with rfl | rfl
      · rfl
      · rfl
  · show mI M 121 (149 + 44 * a) = 0
    exact fr0 _ (by omega) (by omega) (by omega)
  · have h' : (([] : List Wtr))[i]? = some q := h
    simp at h'
  · exact fr0 _ (by omega) (by omega) (by omega)
  · exact fr0 _ (by omega) (by omega) (by omega)
  · rw [fS0_fl]
    exact fr0 _ (by decide) (by decide) (by decide)
  · rw [fS0_fl]; exact Nat.zero_le _
  · rw [fS0_fl]
    intro i q h
    simp at h
  · exact fr0 _ (by decide) (by decide) (by decide)
  · intro i q h
    have h' : (([] : List Row4))[i]? = some q := h
    simp at h'
  · exact fr0 _ (by decide) (by decide) (by decide)
  · intro i q h
    have h' : (([] : List Row4))[i]? = some q := h
    simp at h'
/-! ===== the class starts anew, whole ===== -/
theorem HV.kp {M M' : Mem} {h X Y N : Nat} {t : Int32} {Q : Nat → Int32} {S : St} {pb pt : List Row4} (p : HV M h X Y t N Q S pb pt) (e : M'.1 = M.1) (hI : ∀ o, (o = 1 ∨ (h ≤ o ∧ o < h + 49) ∨ 131 ≤ o) → ∀ b, mI M' o b = mI M o b) : HV M' h X Y t N Q S pb pt := by
  obtain ⟨q, pv, hp, rm, ⟨lb, lt⟩, hN, hQ⟩ := p
  have hq := q.2.2.2.2
  have lo : ∀ o, h ≤ o → o < h + 49 → ∀ b, mI M' o b = mI M o b := fun o a c b => hI o (by omega) b
  refine ⟨q.e e, ?_, hp.cg (fun o ho b => lo o (by omega) (by omega) b) (fun _ _ _ => rfl) rfl, ?_, ⟨lb.cg (fun b => lo _ (by omega) (by omega) b) (fun b => lo _ (by omega) (by omega) b), lt.cg (fun b => lo _ (by omega) (by omega) b) (fun b => lo _ (by omega) (by omega) b)⟩, by rw [hI 1 (Or.inl rfl)]; exact hN, fun v hv => by rw [lo _ (by omega) (by omega)]; exact hQ v hv⟩
  · obtain ⟨d5, d6, d7, len, K, fr, us, ow, w, hK⟩ := pv
    obtain ⟨_, _, _, y5, y6, y7, _⟩ := id w.1
    exact ⟨d5, d6, d7, len, K, fr, us, ow, w.cg (w.1.e e) (Nat.le_refl _) w.2.2.2.2.2.2.2.2.2.1.2.2.2.1 (fun i a c b => lo _ (by omega) (by omega) b) (fun b _ => hI _ (by omega) b) (fun b _ => hI _ (by omega) b) (fun b _ => hI _ (by omega) b), hK⟩
  · unfold Rm mN mU mLn mR at rm ⊢
    rw [e]; exact rm
theorem Shp1.e {M M' : Mem} (e : M'.1 = M.1) : Shp1 M M' := ⟨by unfold mN; rw [e]; exact Nat.le_refl _, fun i _ => by rw [e], fun a b _ _ => by unfold mR; rw [e]⟩
theorem GR.e {M M' : Mem} {L : Nat} (g : GR M L) (e : M'.1 = M.1) : GR M' L := by
  unfold GR mN mU mLn mR at *
  rw [e]; exact g
theorem XS.e {M M' : Mem} {L : Nat} (x : XS M L) (e : M'.1 = M.1) (hI : ∀ o, (74 ≤ o ∧ o ≤ 77) ∨ o = 114 ∨ o = 115 → ∀ b, mI M' o b = mI M o b) : XS M' L := by
  obtain ⟨e', dC, e5, e6, e7, len, pb, pt, sx, cl, q, ⟨ds, d64, d18⟩, ⟨lb, lt⟩, z0, dj⟩ := x
  have hR : ∀ a b, mR M' a b = mR M a b := fun a b => mR_e e a b
  exact ⟨e', dC, e5, e6, e7, len, pb, pt, sx.e e, cl.e e (hI 114 (by omega) 6), q.e e, ⟨ds.e e, d64, d18⟩, ⟨lb.cg (hI 74 (by omega)) (hI 75 (by omega)), lt.cg (hI 76 (by omega)) (hI 77 (by omega))⟩, by rw [hI 115 (by omega)]; exact z0, fun j a b => by rw [hR]; refine ⟨(dj j a b).1, fun i c d => by rw [hR]; exact (dj j a b).2 i c d⟩⟩
/-- the class has made its sets anew -/
def MC (N : Nat) (C : Nat → Int32) (tr : Int32) (M M' : Mem) : Prop := M'.1 = M.1 ∧ (∀ o, ¬ (1 ≤ o ∧ o ≤ 3) → ∀ b, mI M' o b = mI M o b) ∧ mI M' 1 3 = nI N ∧ mI M' 1 4 = tr ∧ (∀ v, v < N → mI M' 2 v = C v) ∧ ∀ o b, mL M' o b = mL M o b
set_option maxHeartbeats 1000000 in
theorem CW.anew {M M1 : Mem} {N N' n : Nat} {Q B : Nat → Int32} {S : St} {tr : Int32} (h : CW M N Q S) (m : MC N' B tr M M1) (h16 : N' ≤ 16) (hn : 400 ≤ n) : ∃ M2, f_X9_startAnew n 0 M1 = some (nI N', M2) ∧ CW M2 N' B (fS0 N' B tr) ∧ M2.1 = M.1 ∧ (∀ o, 119 ≤ o → o < 131 → ∀ b, mI M2 o b = mI M o b) ∧ (∀ o b, mL M2 o b = mL M o b) ∧ mI M2 5 7 = 0 := by
  obtain ⟨X, Y, L, p, sb, xg, xc, ⟨xv, _⟩, xs, g, hL⟩ := h
  obtain ⟨m1, m2, m3, m4, m5, m6⟩ := m
  have io : ∀ {c o}, isO M c o → isO M1 c o := fun z => by unfold isO mN mC at *; rw [m1]; exact z
  have sb1 : SB M1 N' (fS0 N' B tr) := by
    obtain ⟨⟨a1, a2, a3, a4⟩, ⟨b1, b2, b3⟩, ⟨c1, c2, c3⟩, _⟩ := sb
    exact ⟨⟨io a1, io a2, io a3, io a4⟩, ⟨by rw [mR_e m1]; exact b1, by rw [mR_e m1]; exact b2, by rw [mR_e m1]; exact b3⟩, ⟨by rw [mLn_e m1]; exact c1, by rw [mLn_e m1]; exact c2, by rw [mLn_e m1]; exact c3⟩, m3, m4, m5⟩
  have q1 : CS M1 14 := p.1.e m1
  have xg1 : XG M1 := xg.s (Shp1.e m1)
  obtain ⟨l30, l40⟩ : mI M1 25 0 = nI 30 ∧ mI M1 27 0 = nI 40 := by
    rw [m2 25 (by omega), m2 27 (by omega)]
    exact ⟨p.2.2.2.2.1.1.1, p.2.2.2.2.1.2.1⟩
  have d57 := p.d57
  obtain ⟨d5, d6, d7, len, K, fr, us, ow, w, _⟩ := p.2.1
  have ds := w.1
  have hlen : mLn M (mR M (14 + 1) 5) = len := by rw [ds.1.1]; exact ds.2.2.1.1
  have u := (d57 5 (by decide) (by decide)).2.2
  rw [hlen] at u
  obtain ⟨Ma, ea, sa, pa, fa, la⟩ := hl_clear (n := n) h16 q1 (ds.e m1) u.1 u.2 l30 l40 sb1 hn
  have xga : XG Ma := xg1.s (Shp1.e sa)
  have xca : isO Ma 0 112 ∧ mR Ma 112 0 = 113 ∧ isO Ma 100 113 ∧ mLn Ma 113 = 256 := by
    have e := sa.trans m1
    refine ⟨?_, by rw [mR_e e]; exact xc.2.1, ?_, by rw [mLn_e e]; exact xc.2.2.2.1⟩
    · have := xc.1; unfold isO mN mC at *; rw [e]; exact this
    · have := xc.2.2.1; unfold isO mN mC at *; rw [e]; exact this
  obtain ⟨Mb, eb, sb', fb, gb, hb⟩ := f_fill (x := 1) (o := 113) (len := 256) (n := n) (M := Ma) (by decide) xca.2.2.1 xca.2.2.2 (by omega)
  have xgb : XG Mb := xga.s (Shp1.e sb')
  generalize hMc : sI Mb 5 7 0 = Mc
  have sc : Mc.1 = Mb.1 := by rw [← hMc]; rfl
  have S : Mc.1 = M.1 := sc.trans (sb'.trans (sa.trans m1))
  have xgc : XG Mc := xgb.s (Shp1.e sc)
  have oc : ∀ o, o ≠ 5 → ∀ b, mI Mc o b = mI Mb o b := fun o n b => by rw [← hMc, mI_o _ _ _ _ _ n]
  have oab : ∀ o, o ≠ 5 → o ≠ 113 → ∀ b, mI Mc o b = mI Ma o b := fun o n1 n2 b => by rw [oc o n1, gb o n2]
  have ob : ∀ o, o ≠ 5 → o ≠ 113 → ¬ (14 ≤ o ∧ o < 63) → ∀ b, mI Mc o b = mI M1 o b := fun o n1 n2 n3 b => by rw [oab o n1 n2, fa o n3]
  have sbc : SB Mc N' (fS0 N' B tr) := sb1.e (sc.trans (sb'.trans sa)) (fun b => ob 1 (by decide) (by decide) (by omega) b) (fun b => ob 2 (by decide) (by decide) (by omega) b)
  have gc : GR Mc L := g.e S
  have iv : isO Mb 8 5 := by have := xv.1.1; unfold isO mN mC at *; rw [sb'.trans (sa.trans m1)]; exact this
  refine ⟨Mc, ?_, ⟨_, _, L, ((pa _ _ ((g.e (m1)).r14 hL)).kp (sc.trans sb') (fun o ho b => oab o (by omega) (by omega) b)), sbc, xgc, ?_, ?_, xs.e S (fun o ho b => by rw [ob o (by omega) (by omega) (by omega), m2 o (by omega)]), gc, hL⟩, S, fun o h1 h2 b => by rw [ob o (by omega) (by omega) (by omega), m2 o (by omega)], fun o b => by rw [← hMc]; exact (hb o b).trans ((la o b).trans (m6 o b)), by rw [← hMc, mI_s]⟩
  · rw [f_X9_startAnew, chk_t xg1.1, xg1.2.2.2.1, bnd_e, cs_f q1, ea, obd_s, chk_t xga.1, xga.2.2.2.2.2.1, bnd_e, chk_t xca.1, show f_X0_clear n 112 Ma = some Mb by rw [f_X0_clear, chk_t xca.1, xca.2.1, bnd_e, chk_t xca.2.2.1, eb, obd_s], obd_s, chk_t xgb.1, xgb.2.2.1, bnd_e, chk_t iv, chk_t (Or.inl rfl), hMc, bnd_e, xgc.2.1, bnd_e, sbc.f, sbc.n]
  · obtain ⟨a, b, c, d, e⟩ := xc.s (Shp1.e (M' := M) rfl) (fun _ => rfl) (fun _ _ => rfl)
    refine ⟨?_, by rw [mR_e S]; exact b, ?_, by rw [mLn_e S]; exact d, fun l hl => ?_⟩
    · unfold isO mN mC at *; rw [S]; exact a
    · unfold isO mN mC at *; rw [S]; exact c
    · exact ⟨by rw [oc 113 (by decide), fb l hl]; rfl, 1, by decide, by decide, rfl⟩
  · obtain ⟨⟨a1, a2, a3, a4, a5, a6, a7, a8, a9⟩, ⟨b1, b2, b3, b4, b5, b6, b7, b8⟩, ⟨c1, c2, c3, c4, c5, c6⟩, d⟩ := xv
    have io' : ∀ {c o}, isO M c o → isO Mc c o := fun z => by unfold isO mN mC at *; rw [S]; exact z
    have r : ∀ o k, mR Mc o k = mR M o k := fun o k => mR_e S o k
    have l : ∀ o, mLn Mc o = mLn M o := fun o => mLn_e S o
    refine ⟨⟨⟨io' a1, io' a2, io' a3, io' a4, io' a5, io' a6, io' a7, io' a8, io' a9⟩, ⟨?_, ?_, ?_, ?_, ?_, ?_, ?_, ?_⟩, ⟨?_, ?_, ?_, ?_, ?_, ?_⟩, Or.inl ?_⟩, fun z => absurd ((show mI Mc 5 7 = 0 by rw [← hMc, mI_s]).symm.trans z) (by decide)⟩
    · rw [r]; exact b1
    · rw [r]; exact b2
    · rw [r]; exact b3
    · rw [r]; exact b4
    · rw [r]; exact b5
    · rw [r]; exact b6
    · rw [r]; exact b7
    · rw [r]; exact b8
    · rw [l]; exact c1
    · rw [l]; exact c2
    · rw [l]; exact c3
    · rw [l]; exact c4
    · rw [l]; exact c5
    · rw [l]; exact c6
    · rw [← hMc, mI_s]
/-! ===== a maker of sets: both sides ===== -/
theorem PA_o {o : Nat} (h : ¬ (120 ≤ o ∧ o ≤ 130)) : o ≠ 120 ∧ o ≠ 121 ∧ o ≠ 122 := by omega
theorem WJ.mk {M M1 : Mem} {N0 A i N n : Nat} {Q C : Nat → Int32} {S : St} {tr : Int32} (w : WJ M N0 A i Q S) (m : MC N C tr M M1) (h2 : 2 ≤ N) (h16 : N ≤ 16) (t2 : tr = 0 ∨ tr = 1) (t : tr = 1 → N % 2 = 1) (bi : ∀ v, v < N → ∀ i, N ≤ i → i < 32 → bt (C v) i = false) (tb : TBs N C tr) (hn : 400 ≤ n) : ∃ M2, f_X9_startAnew n 0 M1 = some (nI N, M2) ∧ isO M2 10 120 ∧ RK M2 120 121 ∧ RV M2 false 0 S [] [] ∧ (XG M2 ∧ SB M2 N (fS0 N C tr)) ∧ ∀ M3, M3.1 = M2.1 → (∀ o, ¬ (120 ≤ o ∧ o ≤ 130) → ∀ b, mI M3 o b = mI M2 o b) → (∀ b, mI M3 120 b = mI M2 120 b) → (∀ b, b < 10465 → mI M3 121 b = rfm (mI M2 121) N tr C b) → WI (i + 1) M3 := by
  obtain ⟨hc, r, z7, sw, _⟩ := w
  let B : Nat → Int32 := fun v => if v < N then C v else mI M 121 (2 + v)
  have hB : ∀ v, v < N → B v = C v := fun v hv => if_pos hv
  have mB : MC N B tr M M1 := ⟨m.1, m.2.1, m.2.2.1, m.2.2.2.1, fun v hv => by rw [hB v hv]; exact m.2.2.2.2.1 v hv, m.2.2.2.2.2⟩
  obtain ⟨M2, e2, c2, s2, i2, l2, k57⟩ := hc.anew mB h16 hn
  have rs2 : RS M2 := r.1.e s2
  have r2 : RV M2 false 0 S [] [] := r.mr (by unfold mN; rw [s2]; exact Nat.le_refl _) (fun o h1 h2 => ⟨by rw [s2], fun b => mR_e s2 o b, i2 o (by omega) h2⟩)
  have xsb : XG M2 ∧ SB M2 N (fS0 N C tr) := by
    obtain ⟨_, _, _, _, sb, xg, _⟩ := c2
    exact ⟨xg, sb.1, sb.2.1, sb.2.2.1, sb.2.2.2.1, sb.2.2.2.2.1, fun v hv => by rw [sb.2.2.2.2.2 v hv]; exact hB v hv⟩
  refine ⟨M2, e2, rs2.io (by decide) (by decide) (by decide), ?_, r2, xsb, fun M3 s3 i3 i120 f3 => ⟨N, 0, B, fS0 N B tr, c2.ref s3 i3 (fun z => absurd (k57.symm.trans z) (by decide)), ?_, ?_, fS0_SW h2 h16 t2 t (fun v hv j a b => by rw [hB v hv]; exact bi v hv j a b) (tb.cg hB), fun v hv => fS0_qm h16 v⟩⟩
  · refine ⟨rs2.io (by decide) (by decide) (by decide), rs_0 rs2, rs2.io (by decide) (by decide) (by decide), rs2.ln (by decide) (by decide) (by decide)⟩
  · refine rfm_RV (f := mI M2 121) (C := C) false h16 (rs2.e s3) (by rw [i120, i2 120 (by omega) (by omega)]; exact r.2.1) (fun v hv => ?_) f3
    show (if v < N then C v else mI M 121 (2 + v)) = _
    rw [i2 121 (by omega) (by omega)]
  · rw [i120, i2 120 (by omega) (by omega)]; exact z7
/-- a loop that writes one cell a round -/
def Wc (o k : Nat) (x : Int32) (M M' : Mem) : Prop := M'.1 = M.1 ∧ mI M' o k = x ∧ (∀ b, b ≠ k → mI M' o b = mI M o b) ∧ (∀ a, a ≠ o → ∀ b, mI M' a b = mI M a b) ∧ ∀ a b, mL M' a b = mL M a b
theorem Wc.s (M : Mem) (o k : Nat) (x : Int32) : Wc o k x M (sI M o k x) := ⟨rfl, mI_s _ _ _ _, fun b n => mI_n _ _ _ _ n, fun a n b => mI_o _ _ _ _ _ n, fun _ _ => rfl⟩
theorem Wc.r (M : Mem) (o k : Nat) : Wc o k (mI M o k) M M := ⟨rfl, rfl, fun _ _ => rfl, fun _ _ _ => rfl, fun _ _ => rfl⟩
theorem Wc.tr {o k : Nat} {x y : Int32} {M M1 M2 : Mem} (a : Wc o k x M M1) (b : Wc o k y M1 M2) : Wc o k y M M2 :=
  ⟨b.1.trans a.1, b.2.1, fun c n => (b.2.2.1 c n).trans (a.2.2.1 c n), fun c n d => (b.2.2.2.1 c n d).trans (a.2.2.2.1 c n d), fun c d => (b.2.2.2.2 c d).trans (a.2.2.2.2 c d)⟩
/-- i cells from c on are written -/
def Lp (M0 : Mem) (o c : Nat) (C : Nat → Int32) (i : Nat) (M : Mem) : Prop := M.1 = M0.1 ∧ (∀ v, v < i → mI M o (c + v) = C v) ∧ (∀ b, ¬ (c ≤ b ∧ b < c + i) → mI M o b = mI M0 o b) ∧ (∀ a, a ≠ o → ∀ b, mI M a b = mI M0 a b) ∧ ∀ a b, mL M a b = mL M0 a b
theorem Lp.r (M0 : Mem) (o c : Nat) (C : Nat → Int32) : Lp M0 o c C 0 M0 := ⟨rfl, fun v hv => by omega, fun _ _ => rfl, fun _ _ _ => rfl, fun _ _ => rfl⟩
theorem Lp.s {M0 M M' : Mem} {o c i : Nat} {C : Nat → Int32} (l : Lp M0 o c C i M) (w : Wc o (c + i) (C i) M M') : Lp M0 o c C (i + 1) M' := by
  refine ⟨w.1.trans l.1, fun v hv => ?_, fun b hb => ?_, fun a n b => (w.2.2.2.1 a n b).trans (l.2.2.2.1 a n b), fun a b => (w.2.2.2.2 a b).trans (l.2.2.2.2 a b)⟩
  · by_cases e : v = i
    · rw [e]; exact w.2.1
    · rw [w.2.2.1 _ (by omega)]; exact l.2.1 v (by omega)
  · rw [w.2.2.1 b (by omega)]; exact l.2.2.1 b (by omega)
theorem lpw {α : Type} {F : Nat → Int32 → Mem → Option α} {G : Mem → Option α} {M0 : Mem} {o c N K : Nat} {C : Nat → Int32} (step : ∀ i n M, i < N → Lp M0 o c C i M → K ≤ n → ∃ M', F (n + 1) (nI i) M = F n (nI (i + 1)) M' ∧ Wc o (c + i) (C i) M M') (stop : ∀ n M, Lp M0 o c C N M → F (n + 1) (nI N) M = G M) : ∀ (d i n : Nat) (M : Mem), i + d = N → Lp M0 o c C i M → K + d + 1 ≤ n → ∃ M', F n (nI i) M = G M' ∧ Lp M0 o c C N M' := by
  intro d
  induction d with
  | zero =>
    intro i n M hi l hn
    obtain ⟨n, rfl⟩ : ∃ m, n = m + 1 := ⟨n - 1, by omega⟩
    have : i = N := by omega
    subst this
    exact ⟨M, stop n M l, l⟩
  | succ d ih =>
    intro i n M hi l hn
    obtain ⟨n, rfl⟩ : ∃ m, n = m + 1 := ⟨n - 1, by omega⟩
    obtain ⟨M1, e1, w1⟩ := step i n M (by omega) l (by omega)
    obtain ⟨M2, e2, l2⟩ := ih (i + 1) n M1 (by omega) (l.s w1) (by omega)
    exact ⟨M2, e1.trans e2, l2⟩
/-- the class's sets: what lies where -/
def SZ (M : Mem) : Prop := (isO M 7 1 ∧ isO M 100 2 ∧ isO M 100 3) ∧ (mR M 1 0 = 2 ∧ mR M 1 1 = 3) ∧ mLn M 2 = 16 ∧ mLn M 3 = 16
theorem SZ.e {M M' : Mem} (z : SZ M) (e : M'.1 = M.1) : SZ M' := by
  unfold SZ isO mR mLn mN mC at *
  rw [e]; exact z
theorem SB.z {M : Mem} {N : Nat} {S : St} (h : SB M N S) : SZ M := ⟨⟨h.1.1, h.1.2.1, h.1.2.2.1⟩, ⟨h.2.1.1, h.2.1.2.1⟩, h.2.2.1.1, h.2.2.1.2.1⟩
section
variable {M : Mem} {α : Type}
theorem SZ.f (z : SZ M) (x : Option α) : chk (isO M 7 1) x = x := chk_t z.1.1
theorem SZ.a2 (z : SZ M) (x : Option α) : chk (isO M 100 2) x = x := chk_t z.1.2.1
theorem SZ.a3 (z : SZ M) (x : Option α) : chk (isO M 100 3) x = x := chk_t z.1.2.2
theorem SZ.r2 (z : SZ M) : mR M 1 0 = 2 := z.2.1.1
theorem SZ.r3 (z : SZ M) : mR M 1 1 = 3 := z.2.1.2
theorem SZ.i2 (z : SZ M) {k : Nat} (hk : k < 16) (x : Option α) : chk (inB (nI k) (mLn M 2)) x = x := chk_t (by rw [z.2.2.1]; exact inB_n hk (by decide))
theorem SZ.i3 (z : SZ M) {k : Nat} (hk : k < 16) (x : Option α) : chk (inB (nI k) (mLn M 3)) x = x := chk_t (by rw [z.2.2.2]; exact inB_n hk (by decide))
end
/-- the class's sets, begun -/
def Bg (N : Nat) (tr : Int32) (M M' : Mem) : Prop := M'.1 = M.1 ∧ mI M' 1 3 = nI N ∧ mI M' 1 4 = tr ∧ (∀ v, v < 16 → mI M' 2 v = 0) ∧ (∀ o, o ≠ 1 → o ≠ 2 → ∀ b, mI M' o b = mI M o b) ∧ ∀ o b, mL M' o b = mL M o b
theorem SZ.bg {M : Mem} {N n : Nat} (z : SZ M) (hn : 20 ≤ n) : ∃ M', f_X7_begin n 1 (nI N) M = some M' ∧ Bg N 0 M M' := by
  generalize hM1 : sI (sI M 1 3 (nI N)) 1 4 0 = M1
  have s1 : M1.1 = M.1 := by rw [← hM1]; rfl
  have z1 := z.e s1
  obtain ⟨M', e, s, f1, f2, f3⟩ := f_fill (x := 0) (o := 2) (len := 16) (n := n) (M := M1) (by decide) z1.1.2.1 z1.2.2.1 (by omega)
  refine ⟨M', ?_, s.trans s1, ?_, ?_, f1, fun o n1 n2 b => ?_, fun o b => ?_⟩
  · rw [f_X7_begin, z.f, bnd_e, chk_t (Or.inl rfl), bnd_e, hM1, z1.r2, bnd_e, z1.a2, e, obd_s]
  · rw [f2 1 (by decide), ← hM1, mI_n _ _ _ _ (by decide), mI_s]
  · rw [f2 1 (by decide), ← hM1, mI_s]
  · rw [f2 o n2, ← hM1, mI_o _ _ _ _ _ n1, mI_o _ _ _ _ _ n1]
  · rw [f3, ← hM1]; rfl
theorem Bg.mc {M M1 M2 : Mem} {N : Nat} {tr : Int32} {C : Nat → Int32} (b : Bg N tr M M1) (l : Lp M1 2 0 C N M2) : MC N C tr M M2 := by
  obtain ⟨b1, b2, b3, b4, b5, b6⟩ := b
  obtain ⟨l1, l2, l3, l4, l5⟩ := l
  exact ⟨l1.trans b1, fun o ho c => by rw [l4 o (by omega), b5 o (by omega) (by omega)], by rw [l4 1 (by decide)]; exact b2, by rw [l4 1 (by decide)]; exact b3, fun v hv => by have := l2 v hv; rw [Nat.zero_add] at this; exact this, fun o c => (l5 o c).trans (b6 o c)⟩
/-- the reference's maker has ended -/
def RE (N : Nat) (tr : Int32) (C : Nat → Int32) (M M' : Mem) : Prop := M'.1 = M.1 ∧ (∀ o, ¬ (120 ≤ o ∧ o ≤ 130) → ∀ b, mI M' o b = mI M o b) ∧ (∀ b, mI M' 120 b = mI M 120 b) ∧ ∀ b, b < 10465 → mI M' 121 b = rfm (mI M 121) N tr C b
theorem RE_of {M M' : Mem} {N : Nat} {tr : Int32} {C : Nat → Int32} (l : Lp (wA M 121 (bgf (mI M 121) (nI N) tr)) 121 2 C N M') : RE N tr C M M' := by
  obtain ⟨l1, l2, l3, l4, l5⟩ := l
  have w : ∀ o, o ≠ 121 → ∀ b, mI (wA M 121 (bgf (mI M 121) (nI N) tr)) o b = mI M o b := fun o n b => if_neg n
  refine ⟨l1, fun o ho b => by rw [l4 o (by omega), w o (by omega)], fun b => by rw [l4 120 (by decide), w 120 (by decide)], fun b hb => ?_⟩
  unfold rfm
  by_cases c : 2 ≤ b ∧ b < 2 + N
  · rw [if_pos c]
    have := l2 (b - 2) (by omega)
    rw [show 2 + (b - 2) = b by omega] at this
    exact this
  · rw [if_neg c, l3 b c]
    show (if (121 : Nat) = 121 then bgf (mI M 121) (nI N) tr b else M.2.1 121 b) = _
    rw [if_pos rfl]
theorem RK.e {M M' : Mem} {r A : Nat} (h : RK M r A) (e : M'.1 = M.1) : RK M' r A := by
  unfold RK isO mR mLn mN mC at *
  rw [e]; exact h
section
variable {M : Mem} {α : Type}
theorem RK.f (h : RK M 120 121) (x : Option α) : chk (isO M 10 120) x = x := chk_t h.1
theorem RK.r (h : RK M 120 121) : mR M 120 0 = 121 := h.2.1
theorem RK.a (h : RK M 120 121) (x : Option α) : chk (isO M 100 121) x = x := chk_t h.2.2.1
theorem RK.i (h : RK M 120 121) {k : Nat} (hk : k < 10465) (x : Option α) : chk (inB (nI k) (mLn M 121)) x = x := chk_t (rk_in h hk)
end
/-- a maker, both sides -/
theorem Okk.mk {M : Mem} {N0 A i N n : Nat} {Q C : Nat → Int32} {S : St} {tr : Int32} {x : Option (Int32 × Mem)} {y : Mem → Option (Int32 × Mem)} (w : WJ M N0 A i Q S) (h2 : 2 ≤ N) (h16 : N ≤ 16) (t2 : tr = 0 ∨ tr = 1) (t : tr = 1 → N % 2 = 1) (bi : ∀ v, v < N → ∀ i, N ≤ i → i < 32 → bt (C v) i = false) (tb : TBs N C tr) (hn : 400 ≤ n) (hx : ∃ M1, MC N C tr M M1 ∧ x = obd2 (f_X9_startAnew n 0 M1) fun r M14 => some (r, M14)) (hy : ∀ M2, RK M2 120 121 → ∃ M3, y M2 = some (nI N, M3) ∧ RE N tr C M2 M3) : Okk i x y := by
  obtain ⟨M1, m, ex⟩ := hx
  obtain ⟨M2, e2, io, rk, _, _, fin⟩ := w.mk m h2 h16 t2 t bi tb hn
  obtain ⟨M3, e3, s3, i3, i120, f3⟩ := hy M2 rk
  exact ⟨nI N, M2, M3, by rw [ex, e2, obd2_s], io, e3, fin M3 s3 i3 i120 f3⟩
/-! ===== majorities ===== -/
theorem maj_M (M M' : Mem) (n : Nat) : ∀ a b c d : Int32, f_X7_majorityFrom_4 M n a b c d = f_X7_majorityFrom_4 M' n a b c d := by
  induction n with
  | zero => intros; rfl
  | succ n ih =>
    intro a b c d
    simp only [f_X7_majorityFrom_4, bnd_e, ih]
theorem maj_10 (M : Mem) (n : Nat) : ∀ a b c d : Int32, f_X10_majorityOf_4 M n a b c d = f_X7_majorityFrom_4 M n a b c d := by
  induction n with
  | zero => intros; rfl
  | succ n ih =>
    intro a b c d
    simp only [f_X10_majorityOf_4, f_X7_majorityFrom_4, bnd_e, ih]
theorem maj_mono (M : Mem) (m n : Nat) : ∀ (a b c d x : Int32), f_X7_majorityFrom_4 M n a b c d = some x → f_X7_majorityFrom_4 M (n + m) a b c d = some x := by
  induction n with
  | zero => intro a b c d x h; exact (pk_none h).elim
  | succ n ih =>
    intro a b c d x h
    rw [show n + 1 + m = (n + m) + 1 by omega, f_X7_majorityFrom_4]
    rw [f_X7_majorityFrom_4] at h
    obtain ⟨q0, h⟩ := pk_chk h
    rw [chk_t q0]
    have hs := pk_ite h
    by_cases h1 : b / (2 : Int32) < d
    · rw [if_pos h1]; exact hs.1 h1
    · rw [if_neg h1]
      have h2 := hs.2 h1
      obtain ⟨q1, h2⟩ := pk_chk h2
      rw [chk_t q1, bnd_e, bnd_e]
      exact ih _ _ _ _ _ h2
def mjv (v N : Nat) : Int32 := (f_X7_majorityFrom_4 memE 12 (nI v) (nI N) 0 0).getD 0
set_option maxRecDepth 1000000 in
theorem maj_k : (List.range 17).all (fun N => (List.range N).all fun v => decide (N < 2) || ((f_X7_majorityFrom_4 memE 12 (nI v) (nI N) 0 0).isSome && decide ((mjv v N).toBitVec.toNat < 2 ^ N))) = true := by decide +kernel
theorem maj_e {N v : Nat} (h1 : 2 ≤ N) (h2 : N ≤ 16) (hv : v < N) : (f_X7_majorityFrom_4 memE 12 (nI v) (nI N) 0 0 = some (mjv v N)) ∧ (mjv v N).toBitVec.toNat < 2 ^ N := by
  have h := List.all_eq_true.mp (List.all_eq_true.mp maj_k N (List.mem_range.mpr (by omega))) v (List.mem_range.mpr hv)
  have h3 : ¬ N < 2 := by omega
  simp only [h3, decide_false, Bool.false_or, Bool.and_eq_true] at h
  obtain ⟨x, hx⟩ := Option.isSome_iff_exists.mp h.1
  refine ⟨?_, of_decide_eq_true h.2⟩
  rw [hx]
  unfold mjv
  rw [hx]; rfl
theorem f_maj9 {N v n : Nat} {M : Mem} (h1 : 2 ≤ N) (h2 : N ≤ 16) (hv : v < N) (hn : 12 ≤ n) : f_X7_majorityFrom n (nI v) (nI N) M = some (mjv v N) := by
  rw [f_X7_majorityFrom, maj_M M memE, show n = 12 + (n - 12) by omega]
  exact maj_mono _ _ _ _ _ _ _ _ (maj_e h1 h2 hv).1
theorem f_maj10 {N v n : Nat} {M : Mem} (h1 : 2 ≤ N) (h2 : N ≤ 16) (hv : v < N) (hn : 12 ≤ n) : f_X10_majorityOf n (nI v) (nI N) M = some (mjv v N) := by
  rw [f_X10_majorityOf, maj_10, maj_M M memE, show n = 12 + (n - 12) by omega]
  exact maj_mono _ _ _ _ _ _ _ _ (maj_e h1 h2 hv).1
theorem bt_bd {x : Int32} {N i : Nat} (h : x.toBitVec.toNat < 2 ^ N) (hi : N ≤ i) : bt x i = false := by
  unfold bt BitVec.getLsbD
  exact Nat.testBit_lt_two_pow (Nat.lt_of_lt_of_le h (Nat.pow_le_pow_right (by decide) hi))
theorem mc_maj {M : Mem} {N n : Nat} (z : SZ M) (h1 : 2 ≤ N) (h2 : N ≤ 16) (hn : 60 ≤ n) : ∃ M', f_X7_makeMajority n 1 (nI N) M = some M' ∧ MC N (fun v => mjv v N) 0 M M' := by
  obtain ⟨M1, e1, b1⟩ := z.bg (N := N) (n := n) (by omega)
  have z1 := z.e b1.1
  obtain ⟨M2, e2, l2⟩ := lpw (F := fun n x M => f_X7_makeMajority_7 n 1 (nI N) x M) (G := some) (M0 := M1) (o := 2) (c := 0) (N := N) (K := 13) (C := fun v => mjv v N) (fun i n M hi l hn => by
    have zz := z1.e l.1
    refine ⟨sI M 2 i (mjv i N), ?_, by rw [Nat.zero_add]; exact Wc.s _ _ _ _⟩
    show f_X7_makeMajority_7 (n + 1) 1 (nI N) (nI i) M = _
    rw [f_X7_makeMajority_7, if_neg (nI_ge hi (by omega)), zz.f, zz.r2, bnd_e, zz.a2, f_maj9 h1 h2 hi (by omega), obd_s, zz.i2 (by omega), sI_c (by omega), bnd_e, bnd_e, nI_1]) (fun n M l => by
    show f_X7_makeMajority_7 (n + 1) 1 (nI N) (nI N) M = _
    rw [f_X7_makeMajority_7, if_pos (nI_le (Nat.le_refl _) (by omega))]) N 0 n M1 (by omega) (Lp.r _ _ _ _) (by omega)
  exact ⟨M2, by rw [f_X7_makeMajority, z.f, e1, obd_s]; exact e2, b1.mc l2⟩
theorem rm_maj {M : Mem} {N n : Nat} (h : RK M 120 121) (h1 : 2 ≤ N) (h2 : N ≤ 16) (hn : 12000 ≤ n) : ∃ M', f_X10_majority n 120 (nI N) M = some (nI N, M') ∧ RE N 0 (fun v => mjv v N) M M' := by
  have e1 := f_begin (N := nI N) (t := 0) h (n := n) (by omega)
  have h1' : RK (wA M 121 (bgf (mI M 121) (nI N) 0)) 120 121 := h
  generalize hM1 : wA M 121 (bgf (mI M 121) (nI N) 0) = M1 at h1'
  obtain ⟨M2, e2, l2⟩ := lpw (F := fun n x M => f_X10_majority_20 n 120 (nI N) x M) (G := fun M => some (nI N, M)) (M0 := M1) (o := 121) (c := 2) (N := N) (K := 13) (C := fun v => mjv v N) (fun i n M hi l hn => by
    have zz := h1'.e l.1
    refine ⟨sI M 121 (2 + i) (mjv i N), ?_, Wc.s _ _ _ _⟩
    show f_X10_majority_20 (n + 1) 120 (nI N) (nI i) M = _
    rw [f_X10_majority_20, if_neg (nI_ge hi (by omega)), zz.f, zz.r, bnd_e, zz.a, f_maj10 h1 h2 hi (by omega), obd_s, show (2 : Int32) + nI i = nI (2 + i) by rw [show (2 : Int32) = nI 2 from rfl, nI_add], zz.i (by omega), sI_c (by omega), bnd_e, bnd_e, nI_1]) (fun n M l => by
    show f_X10_majority_20 (n + 1) 120 (nI N) (nI N) M = _
    rw [f_X10_majority_20, if_pos (nI_le (Nat.le_refl _) (by omega))]) N 0 n M1 (by omega) (Lp.r _ _ _ _) (by omega)
  refine ⟨M2, ?_, RE_of (by rw [hM1]; exact l2)⟩
  rw [f_X10_majority, show (2 : Int32) = nI 2 from rfl, show (16 : Int32) = nI 16 from rfl, is_in3 (by decide) h1 h2, obd_s, if_neg ne10, h.f, e1, if_pos rfl, obd_s, hM1]
  exact e2
theorem out2 {α : Type} {a : Int32} {L N : Nat} {x y : α} (hN : N < 1000) (hL : L ≤ N) (ha : a < nI L ∨ nI (N + 1) ≤ a) : (if a < nI L then x else if a ≤ nI N then y else x) = x := by
  by_cases c : a < nI L
  · rw [if_pos c]
  · rw [if_neg c, if_neg (Int32.not_le.mpr (gt3 hN (ha.resolve_left c)))]
theorem in2 {α : Type} {k L N : Nat} {x y : α} (hN : N < 1000) (h1 : L ≤ k) (h2 : k ≤ N) : (if nI k < nI L then x else if nI k ≤ nI N then y else x) = y := by
  rw [if_neg (nI_nlt h1 (by omega)), if_pos (nI_le h2 (by omega))]
theorem nz_of {f : Nat → Nat → Int32} {L : List Nat} (h : L.all (fun N => (List.range N).all fun v => decide (¬ f v N = 0)) = true) {N v : Nat} (hN : N ∈ L) (hv : v < N) : ¬ f v N = 0 :=
  of_decide_eq_true (List.all_eq_true.mp (List.all_eq_true.mp h N hN) v (List.mem_range.mpr hv))
theorem rg_mem {N L d : Nat} (h1 : L ≤ N) (h2 : N < L + d) : N ∈ List.range' L d := List.mem_range'_1.mpr ⟨h1, h2⟩
set_option maxRecDepth 1000000 in
theorem maj_z : (List.range' 2 15).all (fun N => (List.range N).all fun v => decide (¬ mjv v N = 0)) = true := by decide +kernel
/-- majority -/
theorem op3 {M : Mem} {i n : Nat} (h : WI i M) (a : Int32) (hn : 100000 ≤ n) : Okk i (f_X9_majority n 0 a M) (fun M1 => f_X10_majority n 120 a M1) := by
  obtain ⟨N, A, Q, S, w⟩ := h
  obtain ⟨X, Y, L, p, sb, xg, xr⟩ := id w.1
  rcases rng3 (L := 2) (N := 16) (by decide) (by decide) a with ha | ⟨k, hk1, hk2, rfl⟩
  · refine Okk.same w (r := -1) ?_ ?_
    · rw [f_X9_majority]
      exact out2 (L := 2) (N := 16) (by decide) (by decide) ha
    · show f_X10_majority n 120 a M = _
      rw [f_X10_majority, show (2 : Int32) = nI 2 from rfl, show (16 : Int32) = nI 16 from rfl, is_out3 (by decide) ha, obd_s, if_pos rfl]
  · obtain ⟨M1, e1, m1⟩ := mc_maj (n := n) sb.z hk1 hk2 (by omega)
    refine Okk.mk (n := n) (C := fun v => mjv v k) (tr := 0) w hk1 hk2 (Or.inl rfl) (fun z => absurd z (by decide)) (fun v hv i a _ => bt_bd (maj_e hk1 hk2 hv).2 a) ⟨fun v hv => nz_of maj_z (rg_mem hk1 (by omega)) hv, fun z => absurd z (by decide)⟩ (by omega) ⟨M1, m1, ?_⟩ (fun M2 rk => rm_maj rk hk1 hk2 (by omega))
    rw [f_X9_majority]
    refine Eq.trans (in2 (L := 2) (N := 16) (by decide) hk1 hk2) ?_
    rw [chk_t xg.1, xg.2.1, bnd_e, sb.f, e1, obd_s, chk_t (xg.s (Shp1.e m1.1)).1]
/-! ===== filled, grid, plane ===== -/
def fiO (v1 v2 v4 v5 : Int32) : Nat → Int32 → Int32 → Option Int32
  | 0, _, _ => none
  | n + 1, v6, x => if v2 ≤ v6 then some x else fiO v1 v2 v4 v5 n (v6 + 1) ((x ||| ((1 : Int32) <<< ((((v4 * v2) + v6) - ((v4 * v2) + v6) / v1 * v1) &&& 31))) ||| ((1 : Int32) <<< ((((v6 * v2) + v5) - ((v6 * v2) + v5) / v1 * v1) &&& 31)))
theorem fi_l {k : Nat → Int32 → Int32 → Int32 → Mem → Option Mem} {v1 v2 v4 v5 : Int32} {v : Nat} (h0 : ¬ v1 = 0) (hv : v < 16) : ∀ (m : Nat) (v6 : Int32) (M : Mem) (n : Nat) (x : Int32), SZ M → fiO v1 v2 v4 v5 m v6 (mI M 2 v) = some x → m ≤ n → ∃ M', f_X7_makeFilled_45 k n 1 v1 v2 (nI v) v4 v5 v6 M = k 1 v1 v2 (nI (v + 1)) M' ∧ Wc 2 v x M M' := by
  intro m
  induction m with
  | zero => intro v6 M n x z h _; cases h
  | succ m ih =>
    intro v6 M n x z h hn
    obtain ⟨n, rfl⟩ : ∃ r, n = r + 1 := ⟨n - 1, by omega⟩
    unfold fiO at h
    by_cases c : v2 ≤ v6
    · rw [if_pos c] at h
      refine ⟨M, ?_, ?_⟩
      · rw [f_X7_makeFilled_45, if_pos c, bnd_e, nI_1]
      · rw [← Option.some.inj h]; exact Wc.r M 2 v
    · rw [if_neg c] at h
      generalize hA : sI M 2 v (mI M 2 v ||| ((1 : Int32) <<< ((((v4 * v2) + v6) - ((v4 * v2) + v6) / v1 * v1) &&& 31))) = MA
      have wA : Wc 2 v (mI M 2 v ||| ((1 : Int32) <<< ((((v4 * v2) + v6) - ((v4 * v2) + v6) / v1 * v1) &&& 31))) M MA := by rw [← hA]; exact Wc.s _ _ _ _
      have zA := z.e wA.1
      generalize hB : sI MA 2 v (mI MA 2 v ||| ((1 : Int32) <<< ((((v6 * v2) + v5) - ((v6 * v2) + v5) / v1 * v1) &&& 31))) = MB
      have wB : Wc 2 v (mI MA 2 v ||| ((1 : Int32) <<< ((((v6 * v2) + v5) - ((v6 * v2) + v5) / v1 * v1) &&& 31))) MA MB := by rw [← hB]; exact Wc.s _ _ _ _
      have zB := zA.e wB.1
      obtain ⟨M', e, w⟩ := ih (v6 + 1) MB n x zB (by rw [wB.2.1, wA.2.1]; exact h) (by omega)
      refine ⟨M', ?_, wA.tr (wB.tr w)⟩
      rw [f_X7_makeFilled_45, if_neg c, z.f, z.r2, bnd_e, z.a2, z.i2 hv, chk_t h0, z.i2 hv, mI_c (by omega), sI_c (by omega), hA, bnd_e, zA.r2, bnd_e, zA.a2, zA.i2 hv, chk_t h0, zA.i2 hv, mI_c (by omega), sI_c (by omega), hB, bnd_e, bnd_e]
      exact e
set_option maxRecDepth 1000000 in
theorem fi_k : (List.range 17).all (fun N => (List.range N).all fun v => decide (N < 2) || (decide (fiO (nI N) (nI (kk N)) (nI v / nI (kk N)) (nI v - nI v / nI (kk N) * nI (kk N)) 5 0 0 = some (crv (kk N) N v)) && decide ((crv (kk N) N v).toBitVec.toNat < 2 ^ N))) = true := by decide +kernel
theorem fi_e {N v : Nat} (h1 : 2 ≤ N) (h2 : N ≤ 16) (hv : v < N) : fiO (nI N) (nI (kk N)) (nI v / nI (kk N)) (nI v - nI v / nI (kk N) * nI (kk N)) 5 0 0 = some (crv (kk N) N v) ∧ (crv (kk N) N v).toBitVec.toNat < 2 ^ N := by
  have h := List.all_eq_true.mp (List.all_eq_true.mp fi_k N (List.mem_range.mpr (by omega))) v (List.mem_range.mpr hv)
  have h3 : ¬ N < 2 := by omega
  simp only [h3, decide_false, Bool.false_or, Bool.and_eq_true] at h
  exact ⟨of_decide_eq_true h.1, of_decide_eq_true h.2⟩
theorem nI_n0 {N : Nat} (h : 0 < N) (h2 : N < 1000) : ¬ nI N = 0 := fun z => by
  have : (0 : Int32) < nI N := nI_lt (a := 0) h (by omega)
  rw [z] at this
  exact Int32.lt_irrefl this
theorem kk_3 (N : Nat) : kk N = 2 ∨ kk N = 3 ∨ kk N = 4 := by
  unfold kk
  split
  · exact Or.inl rfl
  · split
    · exact Or.inr (Or.inl rfl)
    · exact Or.inr (Or.inr rfl)
theorem mc_filled {M : Mem} {N n : Nat} (z : SZ M) (h1 : 2 ≤ N) (h2 : N ≤ 16) (hn : 60 ≤ n) : ∃ M', f_X7_makeFilled n 1 (nI N) M = some M' ∧ MC N (crv (kk N) N) 0 M M' := by
  have k3 := kk_3 N
  have main : ∀ n, 50 ≤ n → ∃ M', f_X7_makeFilled_20 n 1 (nI N) (nI (kk N)) M = some M' ∧ MC N (crv (kk N) N) 0 M M' := fun n hn => by
    obtain ⟨M1, e1, b1⟩ := z.bg (N := N) (n := n) (by omega)
    have z1 := z.e b1.1
    obtain ⟨M2, e2, l2⟩ := lpw (F := fun n x M => f_X7_makeFilled_27 n 1 (nI N) (nI (kk N)) x M) (G := some) (M0 := M1) (o := 2) (c := 0) (N := N) (K := 13) (C := crv (kk N) N) (fun i n M hi l hn => by
      have zz := z1.e l.1
      have r0 : mI M 2 i = 0 := by rw [l.2.2.1 i (by omega)]; exact b1.2.2.2.1 i (by omega)
      obtain ⟨M', e, w⟩ := fi_l (k := f_X7_makeFilled_27 n) (v1 := nI N) (v2 := nI (kk N)) (v4 := nI i / nI (kk N)) (v5 := nI i - nI i / nI (kk N) * nI (kk N)) (v := i) (nI_n0 (by omega) (by omega)) (by omega) 5 0 M n (crv (kk N) N i) zz (by rw [r0]; exact (fi_e h1 h2 hi).1) (by omega)
      refine ⟨M', ?_, by rw [Nat.zero_add]; exact w⟩
      show f_X7_makeFilled_27 (n + 1) 1 (nI N) (nI (kk N)) (nI i) M = _
      rw [f_X7_makeFilled_27, if_neg (nI_ge hi (by omega)), chk_t (nI_n0 (by omega) (by omega)), bnd_e, chk_t (nI_n0 (by omega) (by omega)), bnd_e]
      exact e) (fun n M l => by
      show f_X7_makeFilled_27 (n + 1) 1 (nI N) (nI (kk N)) (nI N) M = _
      rw [f_X7_makeFilled_27, if_pos (nI_le (Nat.le_refl _) (by omega))]) N 0 n M1 (by omega) (Lp.r _ _ _ _) (by omega)
    exact ⟨M2, by rw [f_X7_makeFilled_20, z.f, e1, obd_s]; exact e2, b1.mc l2⟩
  have sq : ∀ v : Nat, v ≤ 4 → nI v * nI v = nI (v * v) := fun v _ => pk_mul v v
  obtain ⟨n, rfl⟩ : ∃ m, n = m + 3 := ⟨n - 3, by omega⟩
  have go : ∀ (v n : Nat), v < kk N → 2 ≤ v → f_X7_makeFilled_2 (n + 1) 1 (nI N) (nI v) M = f_X7_makeFilled_2 n 1 (nI N) (nI (v + 1)) M := by
    intro v n hv hv1
    have hlt : v * v < N := by
      unfold kk at hv
      by_cases q1 : N ≤ 4
      · rw [if_pos q1] at hv; omega
      · rw [if_neg q1] at hv
        by_cases q2 : N ≤ 9
        · rw [if_pos q2] at hv
          have : v = 2 := by omega
          subst this; omega
        · rw [if_neg q2] at hv
          have : v = 2 ∨ v = 3 := by omega
          rcases this with rfl | rfl <;> omega
    have hv4 : v < 4 := by omega
    rw [f_X7_makeFilled_2, if_neg (show ¬ (4 : Int32) ≤ nI v from nI_ge (b := 4) hv4 (by decide)), sq v (by omega), if_neg (nI_ge hlt (by omega)), bnd_e, nI_1]
  have stop : ∀ n, f_X7_makeFilled_2 (n + 1) 1 (nI N) (nI (kk N)) M = f_X7_makeFilled_20 n 1 (nI N) (nI (kk N)) M := by
    intro n
    rw [f_X7_makeFilled_2]
    by_cases c : (4 : Int32) ≤ nI (kk N)
    · rw [if_pos c]
    · have hle : nI N ≤ nI (kk N) * nI (kk N) := by
        have k4 : ¬ kk N = 4 := fun e => c (by rw [e]; decide)
        rw [sq _ (by omega)]
        refine nI_le ?_ (by rcases k3 with e | e | e <;> rw [e] <;> decide)
        unfold kk at k4 ⊢
        by_cases q1 : N ≤ 4
        · rw [if_pos q1]; omega
        · rw [if_neg q1] at k4 ⊢
          by_cases q2 : N ≤ 9
          · rw [if_pos q2]; omega
          · rw [if_neg q2] at k4; omega
      rw [if_neg c, if_pos hle]
  rw [f_X7_makeFilled, show (2 : Int32) = nI 2 from rfl]
  rcases k3 with e | e | e
  · obtain ⟨M', e', m'⟩ := main (n + 2) (by omega)
    refine ⟨M', ?_, m'⟩
    have := stop (n + 2)
    rw [e] at this e'
    exact this.trans e'
  · obtain ⟨M', e', m'⟩ := main (n + 1) (by omega)
    refine ⟨M', ?_, m'⟩
    have := stop (n + 1)
    rw [go 2 (n + 2) (by omega) (by decide)]
    rw [e] at this e'
    exact this.trans e'
  · obtain ⟨M', e', m'⟩ := main n (by omega)
    refine ⟨M', ?_, m'⟩
    have := stop n
    rw [go 2 (n + 2) (by omega) (by decide), go 3 (n + 1) (by omega) (by decide)]
    rw [e] at this e'
    exact this.trans e'
theorem RE_wA (M : Mem) (N : Nat) (tr : Int32) (C : Nat → Int32) : RE N tr C M (wA M 121 (rfm (mI M 121) N tr C)) := by
  refine ⟨rfl, fun o ho b => ?_, fun b => ?_, fun b _ => ?_⟩
  · show (if o = 121 then _ else M.2.1 o b) = _
    rw [if_neg (by omega)]; rfl
  · show (if (120 : Nat) = 121 then rfm (mI M 121) N tr C b else M.2.1 120 b) = _
    rw [if_neg (by decide)]; rfl
  · show (if (121 : Nat) = 121 then rfm (mI M 121) N tr C b else M.2.1 121 b) = _
    rw [if_pos rfl]
theorem rm_filled {M : Mem} {N n : Nat} (h : RK M 120 121) (h1 : 2 ≤ N) (h2 : N ≤ 16) (hn : 12000 ≤ n) : ∃ M', f_X10_makeFilled n 120 (nI N) M = some (nI N, M') ∧ RE N 0 (crv (kk N) N) M M' :=
  ⟨_, f_filled h1 h2 h (by omega), RE_wA M N 0 (crv (kk N) N)⟩
set_option maxRecDepth 1000000 in
theorem fi_z : (List.range' 2 15).all (fun N => (List.range N).all fun v => decide (¬ (fun v N => crv (kk N) N v) v N = 0)) = true := by decide +kernel
theorem op2 {M : Mem} {i n : Nat} (h : WI i M) (a : Int32) (hn : 100000 ≤ n) : Okk i (f_X9_filled n 0 a M) (fun M1 => f_X10_filled n 120 a M1) := by
  obtain ⟨N, A, Q, S, w⟩ := h
  obtain ⟨X, Y, L, p, sb, xg, xr⟩ := id w.1
  rcases rng3 (L := 2) (N := 16) (by decide) (by decide) a with ha | ⟨k, hk1, hk2, rfl⟩
  · refine Okk.same w (r := -1) ?_ ?_
    · rw [f_X9_filled]
      exact out2 (L := 2) (N := 16) (by decide) (by decide) ha
    · show f_X10_filled n 120 a M = _
      rw [f_X10_filled, show (2 : Int32) = nI 2 from rfl, show (16 : Int32) = nI 16 from rfl, is_out3 (by decide) ha, obd_s, if_pos rfl]
  · obtain ⟨M1, e1, m1⟩ := mc_filled (n := n) sb.z hk1 hk2 (by omega)
    refine Okk.mk (n := n) (C := crv (kk k) k) (tr := 0) w hk1 hk2 (Or.inl rfl) (fun z => absurd z (by decide)) (fun v hv i a _ => bt_bd (fi_e hk1 hk2 hv).2 a) ⟨fun v hv => nz_of fi_z (rg_mem hk1 (by omega)) hv, fun z => absurd z (by decide)⟩ (by omega) ⟨M1, m1, ?_⟩ (fun M2 rk => ?_)
    · rw [f_X9_filled]
      refine Eq.trans (in2 (L := 2) (N := 16) (by decide) hk1 hk2) ?_
      rw [chk_t xg.1, xg.2.1, bnd_e, sb.f, e1, obd_s, chk_t (xg.s (Shp1.e m1.1)).1]
    · obtain ⟨M3, e3, r3⟩ := rm_filled (n := n) rk hk1 hk2 (by omega)
      refine ⟨M3, ?_, r3⟩
      show f_X10_filled n 120 (nI k) M2 = _
      rw [f_X10_filled, show (2 : Int32) = nI 2 from rfl, show (16 : Int32) = nI 16 from rfl, is_in3 (by decide) hk1 hk2, obd_s, if_neg ne10, rk.f, e3, obd2_s]
theorem op0 {M : Mem} {i n : Nat} (h : WI i M) (a : Int32) (hn : 100000 ≤ n) : Okk i (f_X9_grid n 0 a M) (fun M1 => f_X10_grid n 120 a M1) := by
  obtain ⟨N, A, Q, S, w⟩ := h
  obtain ⟨X, Y, L, p, sb, xg, xr⟩ := id w.1
  rcases rng3 (L := 2) (N := 4) (by decide) (by decide) a with ha | ⟨k, hk1, hk2, rfl⟩
  · refine Okk.same w (r := -1) ?_ ?_
    · rw [f_X9_grid]
      exact out2 (L := 2) (N := 4) (by decide) (by decide) ha
    · show f_X10_grid n 120 a M = _
      rw [f_X10_grid, show (2 : Int32) = nI 2 from rfl, show (4 : Int32) = nI 4 from rfl, is_out3 (by decide) ha, obd_s, if_pos rfl]
  · have sq : nI k * nI k = nI (k * k) := pk_mul k k
    have k2 : 2 ≤ k * k ∧ k * k ≤ 16 := by
      rcases (show k = 2 ∨ k = 3 ∨ k = 4 by omega) with rfl | rfl | rfl <;> decide
    obtain ⟨M1, e1, m1⟩ := mc_filled (n := n) sb.z k2.1 k2.2 (by omega)
    refine Okk.mk (n := n) (C := crv (kk (k * k)) (k * k)) (tr := 0) w k2.1 k2.2 (Or.inl rfl) (fun z => absurd z (by decide)) (fun v hv i a _ => bt_bd (fi_e k2.1 k2.2 hv).2 a) ⟨fun v hv => nz_of fi_z (rg_mem k2.1 (by omega)) hv, fun z => absurd z (by decide)⟩ (by omega) ⟨M1, m1, ?_⟩ (fun M2 rk => ?_)
    · rw [f_X9_grid]
      refine Eq.trans (in2 (L := 2) (N := 4) (by decide) hk1 hk2) ?_
      rw [chk_t xg.1, xg.2.1, bnd_e, sb.f, sq, e1, obd_s, chk_t (xg.s (Shp1.e m1.1)).1]
    · obtain ⟨M3, e3, r3⟩ := rm_filled (n := n) rk k2.1 k2.2 (by omega)
      refine ⟨M3, ?_, r3⟩
      show f_X10_grid n 120 (nI k) M2 = _
      rw [f_X10_grid, show (2 : Int32) = nI 2 from rfl, show (4 : Int32) = nI 4 from rfl, is_in3 (by decide) hk1 hk2, obd_s, if_neg ne10, rk.f, f_X10_makeGrid, rk.f, sq, e3, obd2_s, obd2_s]
/-! ===== plane, wheel, tree ===== -/
def fpO (v1 v2 v3 : Int32) : Nat → Int32 → Int32 → Option Int32
  | 0, _, _ => none
  | n + 1, v4, x => if v1 < v4 then some x else if inB v4 4 then fpO v1 v2 v3 n (v4 + 1) (x ||| ((1 : Int32) <<< (((v3 + (l_PS (v4).toNatClampNeg)) - (v3 + (l_PS (v4).toNatClampNeg)) / v2 * v2) &&& 31))) else none
theorem fp_l {k : Nat → Int32 → Int32 → Int32 → Mem → Option Mem} {v1 v2 : Int32} {v : Nat} (h0 : ¬ v2 = 0) (hv : v < 16) : ∀ (m : Nat) (v4 : Int32) (M : Mem) (n : Nat) (x : Int32), SZ M → fpO v1 v2 (nI v) m v4 (mI M 2 v) = some x → m ≤ n → ∃ M', f_X7_makePlane_23 k n 1 v1 v2 (nI v) v4 M = k 1 v1 v2 (nI (v + 1)) M' ∧ Wc 2 v x M M' := by
  intro m
  induction m with
  | zero => intro v4 M n x z h _; cases h
  | succ m ih =>
    intro v4 M n x z h hn
    obtain ⟨n, rfl⟩ : ∃ r, n = r + 1 := ⟨n - 1, by omega⟩
    unfold fpO at h
    by_cases c : v1 < v4
    · rw [if_pos c] at h
      refine ⟨M, ?_, ?_⟩
      · rw [f_X7_makePlane_23, if_pos c, bnd_e, nI_1]
      · rw [← Option.some.inj h]; exact Wc.r M 2 v
    · rw [if_neg c] at h
      by_cases d : inB v4 4
      · rw [if_pos d] at h
        generalize hA : sI M 2 v (mI M 2 v ||| ((1 : Int32) <<< (((nI v + (l_PS (v4).toNatClampNeg)) - (nI v + (l_PS (v4).toNatClampNeg)) / v2 * v2) &&& 31))) = MA
        have wA : Wc 2 v (mI M 2 v ||| ((1 : Int32) <<< (((nI v + (l_PS (v4).toNatClampNeg)) - (nI v + (l_PS (v4).toNatClampNeg)) / v2 * v2) &&& 31))) M MA := by rw [← hA]; exact Wc.s _ _ _ _
        obtain ⟨M', e, w⟩ := ih (v4 + 1) MA n x (z.e wA.1) (by rw [wA.2.1]; exact h) (by omega)
        refine ⟨M', ?_, wA.tr w⟩
        rw [f_X7_makePlane_23, if_neg c, z.f, z.r2, bnd_e, z.a2, z.i2 hv, chk_t d, chk_t h0, z.i2 hv, mI_c (by omega), sI_c (by omega), hA, bnd_e, bnd_e]
        exact e
      · rw [if_neg d] at h; cases h
/-- the base of a node in a plane, as the reference makes it -/
def plv (q N v : Nat) : Int32 := ((((1 : Int32) <<< (nI v &&& 31)) ||| ((1 : Int32) <<< (((nI v + (1 : Int32)) - (nI v + (1 : Int32)) / nI N * nI N) &&& 31))) ||| ((1 : Int32) <<< (((nI v + (3 : Int32)) - (nI v + (3 : Int32)) / nI N * nI N) &&& 31))) ||| (if q = 3 then ((1 : Int32) <<< (((nI v + (9 : Int32)) - (nI v + (9 : Int32)) / nI N * nI N) &&& 31)) else 0)
set_option maxRecDepth 1000000 in
theorem fp_k : ([(2, 7), (3, 13)] : List (Nat × Nat)).all (fun q => (List.range q.2).all fun v => decide (fpO (nI q.1) (nI q.2) (nI v) 6 0 0 = some (plv q.1 q.2 v)) && decide ((plv q.1 q.2 v).toBitVec.toNat < 2 ^ q.2)) = true := by decide +kernel
theorem fp_e {q N v : Nat} (h : (q = 2 ∧ N = 7) ∨ (q = 3 ∧ N = 13)) (hv : v < N) : fpO (nI q) (nI N) (nI v) 6 0 0 = some (plv q N v) ∧ (plv q N v).toBitVec.toNat < 2 ^ N := by
  have m : (q, N) ∈ ([(2, 7), (3, 13)] : List (Nat × Nat)) := by
    rcases h with ⟨rfl, rfl⟩ | ⟨rfl, rfl⟩ <;> simp
  have h := List.all_eq_true.mp (List.all_eq_true.mp fp_k (q, N) m) v (List.mem_range.mpr hv)
  simp only [Bool.and_eq_true] at h
  exact ⟨of_decide_eq_true h.1, of_decide_eq_true h.2⟩
theorem mc_plane {M : Mem} {q N n : Nat} (z : SZ M) (h : (q = 2 ∧ N = 7) ∨ (q = 3 ∧ N = 13)) (hn : 60 ≤ n) : ∃ M', f_X7_makePlane n 1 (nI q) M = some M' ∧ MC N (plv q N) 0 M M' := by
  have hN : N ≤ 13 := by omega
  have hN0 : 7 ≤ N := by omega
  obtain ⟨M1, e1, b1⟩ := z.bg (N := N) (n := n) (by omega)
  have z1 := z.e b1.1
  have ex : ((nI q * nI q) + nI q) + (1 : Int32) = nI N := by
    rcases h with ⟨rfl, rfl⟩ | ⟨rfl, rfl⟩ <;> decide
  obtain ⟨M2, e2, l2⟩ := lpw (F := fun n x M => f_X7_makePlane_15 n 1 (nI q) (nI N) x M) (G := some) (M0 := M1) (o := 2) (c := 0) (N := N) (K := 13) (C := plv q N) (fun i n M hi l hn => by
    have zz := z1.e l.1
    have r0 : mI M 2 i = 0 := by rw [l.2.2.1 i (by omega)]; exact b1.2.2.2.1 i (by omega)
    obtain ⟨M', e, w⟩ := fp_l (k := f_X7_makePlane_15 n) (v1 := nI q) (v2 := nI N) (v := i) (nI_n0 (by omega) (by omega)) (by omega) 6 0 M n (plv q N i) zz (by rw [r0]; exact (fp_e h hi).1) (by omega)
    refine ⟨M', ?_, by rw [Nat.zero_add]; exact w⟩
    show f_X7_makePlane_15 (n + 1) 1 (nI q) (nI N) (nI i) M = _
    rw [f_X7_makePlane_15, if_neg (nI_ge hi (by omega))]
    exact e) (fun n M l => by
    show f_X7_makePlane_15 (n + 1) 1 (nI q) (nI N) (nI N) M = _
    rw [f_X7_makePlane_15, if_pos (nI_le (Nat.le_refl _) (by omega))]) N 0 n M1 (by omega) (Lp.r _ _ _ _) (by omega)
  exact ⟨M2, by rw [f_X7_makePlane, bnd_e, z.f, ex, e1, obd_s]; exact e2, b1.mc l2⟩
theorem rm_plane {M : Mem} {q N n : Nat} (h : RK M 120 121) (hq : (q = 2 ∧ N = 7) ∨ (q = 3 ∧ N = 13)) (hn : 12000 ≤ n) : ∃ M', f_X10_plane n 120 (nI q) M = some (nI N, M') ∧ RE N 0 (plv q N) M M' := by
  have hN : N ≤ 13 := by omega
  have hN0 : 7 ≤ N := by omega
  have e1 := f_begin (N := nI N) (t := 0) h (n := n) (by omega)
  have h1' : RK (wA M 121 (bgf (mI M 121) (nI N) 0)) 120 121 := h
  generalize hM1 : wA M 121 (bgf (mI M 121) (nI N) 0) = M1 at h1'
  obtain ⟨M2, e2, l2⟩ := lpw (F := fun n x M => f_X10_plane_32 n 120 (nI q) (nI N) x M) (G := fun M => some (nI N, M)) (M0 := M1) (o := 121) (c := 2) (N := N) (K := 13) (C := plv q N) (fun i n M hi l hn => by
    have zz := h1'.e l.1
    refine ⟨sI M 121 (2 + i) (plv q N i), ?_, Wc.s _ _ _ _⟩
    show f_X10_plane_32 (n + 1) 120 (nI q) (nI N) (nI i) M = _
    have n0 := nI_n0 (N := N) (by omega) (by omega)
    rw [f_X10_plane_32, if_neg (nI_ge hi (by omega)), zz.f, zz.r, bnd_e, zz.a, chk_t n0, chk_t n0]
    rcases hq with ⟨rfl, rfl⟩ | ⟨rfl, rfl⟩
    · rw [if_neg (show ¬ nI 2 = (3 : Int32) by decide), show (2 : Int32) + nI i = nI (2 + i) by rw [show (2 : Int32) = nI 2 from rfl, nI_add], zz.i (by omega), sI_c (by omega), bnd_e, bnd_e, nI_1]
      rw [plv, if_neg (by decide), nI_1]
    · rw [if_pos (show nI 3 = (3 : Int32) from rfl), chk_t n0, show (2 : Int32) + nI i = nI (2 + i) by rw [show (2 : Int32) = nI 2 from rfl, nI_add], zz.i (by omega), sI_c (by omega), bnd_e, bnd_e, nI_1]
      rw [plv, if_pos rfl, nI_1]) (fun n M l => by
    show f_X10_plane_32 (n + 1) 120 (nI q) (nI N) (nI N) M = _
    rw [f_X10_plane_32, if_pos (nI_le (Nat.le_refl _) (by omega))]) N 0 n M1 (by omega) (Lp.r _ _ _ _) (by omega)
  refine ⟨M2, ?_, RE_of (by rw [hM1]; exact l2)⟩
  have e3 : f_X10_plane_23 n 120 (nI q) (nI N) M = some (nI N, M2) := by
    rw [f_X10_plane_23, h.f, e1, if_pos rfl, obd_s, hM1]
    exact e2
  rw [f_X10_plane, show (2 : Int32) = nI 2 from rfl, show (3 : Int32) = nI 3 from rfl, is_in3 (by decide) (by omega) (by omega), obd_s, if_neg ne10]
  rcases hq with ⟨rfl, rfl⟩ | ⟨rfl, rfl⟩
  · rw [if_pos rfl]; exact e3
  · rw [if_neg (by decide)]; exact e3
set_option maxRecDepth 1000000 in
theorem fp_z : ([(2, 7), (3, 13)] : List (Nat × Nat)).all (fun q => (List.range q.2).all fun v => decide (¬ plv q.1 q.2 v = 0)) = true := by decide +kernel
theorem fp_nz {q N v : Nat} (h : (q = 2 ∧ N = 7) ∨ (q = 3 ∧ N = 13)) (hv : v < N) : ¬ plv q N v = 0 := by
  have m : (q, N) ∈ ([(2, 7), (3, 13)] : List (Nat × Nat)) := by
    rcases h with ⟨rfl, rfl⟩ | ⟨rfl, rfl⟩ <;> simp
  exact of_decide_eq_true (List.all_eq_true.mp (List.all_eq_true.mp fp_z (q, N) m) v (List.mem_range.mpr hv))
theorem op1 {M : Mem} {i n : Nat} (h : WI i M) (a : Int32) (hn : 100000 ≤ n) : Okk i (f_X9_plane n 0 a M) (fun M1 => f_X10_plane n 120 a M1) := by
  obtain ⟨N, A, Q, S, w⟩ := h
  obtain ⟨X, Y, L, p, sb, xg, xr⟩ := id w.1
  rcases rng3 (L := 2) (N := 3) (by decide) (by decide) a with ha | ⟨k, hk1, hk2, rfl⟩
  · refine Okk.same w (r := -1) ?_ ?_
    · rw [f_X9_plane]
      exact out2 (L := 2) (N := 3) (by decide) (by decide) ha
    · show f_X10_plane n 120 a M = _
      rw [f_X10_plane, show (2 : Int32) = nI 2 from rfl, show (3 : Int32) = nI 3 from rfl, is_out3 (by decide) ha, obd_s, if_pos rfl]
  · obtain ⟨K, hK⟩ : ∃ K, (k = 2 ∧ K = 7) ∨ (k = 3 ∧ K = 13) := by
      rcases (show k = 2 ∨ k = 3 by omega) with e | e
      · exact ⟨7, Or.inl ⟨e, rfl⟩⟩
      · exact ⟨13, Or.inr ⟨e, rfl⟩⟩
    obtain ⟨M1, e1, m1⟩ := mc_plane (n := n) sb.z hK (by omega)
    refine Okk.mk (n := n) (N := K) (C := plv k K) (tr := 0) w (by omega) (by omega) (Or.inl rfl) (fun z => absurd z (by decide)) (fun v hv i a _ => bt_bd (fp_e hK hv).2 a) ⟨fun v hv => fp_nz hK hv, fun z => absurd z (by decide)⟩ (by omega) ⟨M1, m1, ?_⟩ (fun M2 rk => rm_plane rk hK (by omega))
    rw [f_X9_plane]
    refine Eq.trans (in2 (L := 2) (N := 3) (by decide) hk1 hk2) ?_
    rw [chk_t xg.1, xg.2.1, bnd_e, sb.f, e1, obd_s, chk_t (xg.s (Shp1.e m1.1)).1]
/-- the base of a node in a wheel -/
def whv (N v : Nat) : Int32 := if v = 0 then (((1 : Int32) <<< (nI N &&& 31)) - (1 : Int32)) &&& (-2 : Int32) else (1 : Int32) ||| ((1 : Int32) <<< (nI v &&& 31))
set_option maxRecDepth 1000000 in
theorem wh_k : (List.range 17).all (fun N => decide (N < 3) || (decide ((((1 : Int32) <<< (nI N &&& 31)) - (1 : Int32)) - (1 : Int32) = whv N 0) && (List.range N).all fun v => decide ((whv N v).toBitVec.toNat < 2 ^ N))) = true := by decide +kernel
theorem whv_e {N v : Nat} (h1 : 3 ≤ N) (h2 : N ≤ 16) (hv : v < N) : (((1 : Int32) <<< (nI N &&& 31)) - (1 : Int32)) - (1 : Int32) = whv N 0 ∧ (whv N v).toBitVec.toNat < 2 ^ N := by
  have h := List.all_eq_true.mp wh_k N (List.mem_range.mpr (by omega))
  have h3 : ¬ N < 3 := by omega
  simp only [h3, decide_false, Bool.false_or, Bool.and_eq_true] at h
  exact ⟨of_decide_eq_true h.1, of_decide_eq_true (List.all_eq_true.mp h.2 v (List.mem_range.mpr hv))⟩
theorem Lp.sh {M0 M1 M : Mem} {o c n : Nat} {C : Nat → Int32} (w : Wc o c (C 0) M0 M1) (l : Lp M1 o (c + 1) (fun i => C (i + 1)) n M) : Lp M0 o c C (n + 1) M := by
  obtain ⟨l1, l2, l3, l4, l5⟩ := l
  refine ⟨l1.trans w.1, fun v hv => ?_, fun b hb => ?_, fun a n b => (l4 a n b).trans (w.2.2.2.1 a n b), fun a b => (l5 a b).trans (w.2.2.2.2 a b)⟩
  · by_cases e : v = 0
    · rw [e, l3 _ (by omega)]; exact w.2.1
    · have := l2 (v - 1) (by omega)
      rw [show c + 1 + (v - 1) = c + v by omega] at this
      rw [this]
      show C (v - 1 + 1) = C v
      rw [show v - 1 + 1 = v by omega]
  · rw [l3 b (by omega), w.2.2.1 b (by omega)]
theorem mc_wheel {M : Mem} {N n : Nat} (z : SZ M) (h1 : 3 ≤ N) (h2 : N ≤ 16) (hn : 60 ≤ n) : ∃ M', f_X7_makeWheel n 1 (nI N) M = some M' ∧ MC N (whv N) 0 M M' := by
  obtain ⟨M1, e1, b1⟩ := z.bg (N := N) (n := n) (by omega)
  have z1 := z.e b1.1
  have w0 : Wc 2 0 (whv N 0) M1 (sI M1 2 0 (whv N 0)) := Wc.s _ _ _ _
  generalize hMw : sI M1 2 0 (whv N 0) = Mw at w0
  have zw := z1.e w0.1
  obtain ⟨M2, e2, l2⟩ := lpw (F := fun n x M => f_X7_makeWheel_20 n 1 (nI N) (x + 1) M) (G := some) (M0 := Mw) (o := 2) (c := 0 + 1) (N := N - 1) (K := 13) (C := fun i => whv N (i + 1)) (fun i n M hi l hn => by
    have zz := zw.e l.1
    refine ⟨sI M 2 (i + 1) (whv N (i + 1)), ?_, by rw [show 0 + 1 + i = i + 1 by omega]; exact Wc.s _ _ _ _⟩
    show f_X7_makeWheel_20 (n + 1) 1 (nI N) (nI i + 1) M = f_X7_makeWheel_20 n 1 (nI N) (nI (i + 1) + 1) _
    rw [nI_1, f_X7_makeWheel_20, if_neg (nI_ge (by omega) (by omega)), zz.f, zz.r2, bnd_e, zz.a2, zz.i2 (by omega), sI_c (by omega), bnd_e, bnd_e]
    rw [whv, if_neg (by omega)]) (fun n M l => by
    show f_X7_makeWheel_20 (n + 1) 1 (nI N) (nI (N - 1) + 1) M = _
    rw [nI_1, show N - 1 + 1 = N by omega, f_X7_makeWheel_20, if_pos (nI_le (Nat.le_refl _) (by omega))]) (N - 1) 0 n Mw (by omega) (Lp.r _ _ _ _) (by omega)
  have l3 := Lp.sh (C := whv N) w0 l2
  rw [show N - 1 + 1 = N by omega] at l3
  refine ⟨M2, ?_, b1.mc l3⟩
  rw [f_X7_makeWheel, z.f, e1, obd_s, z1.f, z1.r2, bnd_e, z1.a2, f_X7_allNodes, z1.f, b1.2.1, obd_s, chk_t (show inB (0 : Int32) (mLn M1 2) by rw [z1.2.2.1]; decide), show Int32.toNatClampNeg 0 = 0 by decide, show (((1 : Int32) <<< (nI N &&& 31)) - (1 : Int32)) &&& (-2 : Int32) = whv N 0 from rfl, hMw, bnd_e]
  exact e2
theorem rm_wheel {M : Mem} {N n : Nat} (h : RK M 120 121) (h1 : 3 ≤ N) (h2 : N ≤ 16) (hn : 12000 ≤ n) : ∃ M', f_X10_wheel n 120 (nI N) M = some (nI N, M') ∧ RE N 0 (whv N) M M' := by
  have e1 := f_begin (N := nI N) (t := 0) h (n := n) (by omega)
  have h1' : RK (wA M 121 (bgf (mI M 121) (nI N) 0)) 120 121 := h
  have m0 : mI (wA M 121 (bgf (mI M 121) (nI N) 0)) 121 0 = nI N := rfl
  generalize hM1 : wA M 121 (bgf (mI M 121) (nI N) 0) = M1 at h1' m0
  have w0 : Wc 121 2 (whv N 0) M1 (sI M1 121 2 (whv N 0)) := Wc.s _ _ _ _
  generalize hMw : sI M1 121 2 (whv N 0) = Mw at w0
  have zw := h1'.e w0.1
  obtain ⟨M2, e2, l2⟩ := lpw (F := fun n x M => f_X10_wheel_32 n 120 (nI N) (x + 1) M) (G := fun M => some (nI N, M)) (M0 := Mw) (o := 121) (c := 2 + 1) (N := N - 1) (K := 13) (C := fun i => whv N (i + 1)) (fun i n M hi l hn => by
    have zz := zw.e l.1
    refine ⟨sI M 121 (2 + (i + 1)) (whv N (i + 1)), ?_, by rw [show 2 + 1 + i = 2 + (i + 1) by omega]; exact Wc.s _ _ _ _⟩
    show f_X10_wheel_32 (n + 1) 120 (nI N) (nI i + 1) M = f_X10_wheel_32 n 120 (nI N) (nI (i + 1) + 1) _
    rw [nI_1, f_X10_wheel_32, if_neg (nI_ge (by omega) (by omega)), zz.f, zz.r, bnd_e, zz.a, show (2 : Int32) + nI (i + 1) = nI (2 + (i + 1)) by rw [show (2 : Int32) = nI 2 from rfl, nI_add], zz.i (by omega), sI_c (by omega), bnd_e, bnd_e]
    rw [whv, if_neg (by omega), Int32.or_comm]) (fun n M l => by
    show f_X10_wheel_32 (n + 1) 120 (nI N) (nI (N - 1) + 1) M = _
    rw [nI_1, show N - 1 + 1 = N by omega, f_X10_wheel_32, if_pos (nI_le (Nat.le_refl _) (by omega))]) (N - 1) 0 n Mw (by omega) (Lp.r _ _ _ _) (by omega)
  have l3 := Lp.sh (C := whv N) w0 l2
  rw [show N - 1 + 1 = N by omega] at l3
  refine ⟨M2, ?_, RE_of (by rw [hM1]; exact l3)⟩
  rw [f_X10_wheel, show (3 : Int32) = nI 3 from rfl, show (16 : Int32) = nI 16 from rfl, is_in3 (by decide) h1 h2, obd_s, if_neg ne10, h.f, e1, if_pos rfl, obd_s, hM1, h1'.f, h1'.r, bnd_e, h1'.a, f_X10_all, h1'.f, h1'.r, bnd_e, h1'.a, chk_t (show inB (0 : Int32) (mLn M1 121) from rk_in h1' (k := 0) (by decide)), show Int32.toNatClampNeg 0 = 0 by decide, m0, obd_s, chk_t (show inB (2 : Int32) (mLn M1 121) from rk_in h1' (k := 2) (by decide)), show Int32.toNatClampNeg 2 = 2 by decide, (whv_e (v := 0) h1 h2 (by omega)).1, hMw, bnd_e]
  exact e2
set_option maxRecDepth 1000000 in
theorem whv_z : (List.range' 2 15).all (fun N => (List.range N).all fun v => decide (¬ (fun v N => whv N v) v N = 0)) = true := by decide +kernel
theorem op4 {M : Mem} {i n : Nat} (h : WI i M) (a : Int32) (hn : 100000 ≤ n) : Okk i (f_X9_wheel n 0 a M) (fun M1 => f_X10_wheel n 120 a M1) := by
  obtain ⟨N, A, Q, S, w⟩ := h
  obtain ⟨X, Y, L, p, sb, xg, xr⟩ := id w.1
  rcases rng3 (L := 3) (N := 16) (by decide) (by decide) a with ha | ⟨k, hk1, hk2, rfl⟩
  · refine Okk.same w (r := -1) ?_ ?_
    · rw [f_X9_wheel]
      exact out2 (L := 3) (N := 16) (by decide) (by decide) ha
    · show f_X10_wheel n 120 a M = _
      rw [f_X10_wheel, show (3 : Int32) = nI 3 from rfl, show (16 : Int32) = nI 16 from rfl, is_out3 (by decide) ha, obd_s, if_pos rfl]
  · obtain ⟨M1, e1, m1⟩ := mc_wheel (n := n) sb.z hk1 hk2 (by omega)
    refine Okk.mk (n := n) (C := whv k) (tr := 0) w (by omega) hk2 (Or.inl rfl) (fun z => absurd z (by decide)) (fun v hv i a _ => bt_bd (whv_e hk1 hk2 hv).2 a) ⟨fun v hv => nz_of whv_z (rg_mem (show 2 ≤ k by omega) (by omega)) hv, fun z => absurd z (by decide)⟩ (by omega) ⟨M1, m1, ?_⟩ (fun M2 rk => rm_wheel rk hk1 hk2 (by omega))
    rw [f_X9_wheel]
    refine Eq.trans (in2 (L := 3) (N := 16) (by decide) hk1 hk2) ?_
    rw [chk_t xg.1, xg.2.1, bnd_e, sb.f, e1, obd_s, chk_t (xg.s (Shp1.e m1.1)).1]
