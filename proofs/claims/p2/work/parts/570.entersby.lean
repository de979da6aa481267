/-! ===== entersBy, from any state between the calls ===== -/
/-- how many moves by draws till v is in; -1: never -/
def eN (N v : Nat) : Nat → Nat → St → Int64 → Int32
  | 0, i, S, _ => if xR S 0 v = 2 then nI i else -1
  | d + 1, i, S, g => if xR S 0 v = 2 then nI i else if mv0 N S = [] then -1 else eN N v d (i + 1) (dm 0 N (((mv0 N S)[dk g (mv0 N S).length]?).getD 0) S) (drw g)
theorem eN_2 {N v d i : Nat} {S : St} {g : Int64} (c : xR S 0 v = 2) : eN N v d i S g = nI i := by
  cases d with
  | zero => show (if xR S 0 v = 2 then nI i else -1) = _; rw [if_pos c]
  | succ d => show (if xR S 0 v = 2 then nI i else _) = _; rw [if_pos c]
theorem eN_e {N v d i : Nat} {S : St} {g : Int64} (c : ¬ xR S 0 v = 2) (h : mv0 N S = []) : eN N v d i S g = -1 := by
  cases d with
  | zero => show (if xR S 0 v = 2 then nI i else -1) = _; rw [if_neg c]
  | succ d => show (if xR S 0 v = 2 then nI i else if mv0 N S = [] then -1 else _) = _; rw [if_neg c, if_pos h]
theorem eN_s {N v d i m : Nat} {S : St} {g : Int64} (c : ¬ xR S 0 v = 2) (h : mv0 N S ≠ []) (hm : (mv0 N S)[dk g (mv0 N S).length]? = some m) : eN N v (d + 1) i S g = eN N v d (i + 1) (dm 0 N m S) (drw g) := by
  show (if xR S 0 v = 2 then nI i else if mv0 N S = [] then -1 else _) = _
  rw [if_neg c, if_neg h, hm]
  rfl
theorem eN_c {N A v : Nat} {P : Nat → Nat} {S0 : St} (h16 : N ≤ 16) (hA : A < 1048576) (hv : v < 16) : ∀ (d i : Nat) (S S' : St) (g : Int64), Gk g → SE S S' → GI N A P S0 S → eN N v d i S g = eN N v d i S' g := by
  intro d
  induction d with
  | zero =>
    intro i S S' g hg h _
    show (if xR S 0 v = 2 then nI i else -1) = (if xR S' 0 v = 2 then nI i else -1)
    rw [h.1 0 v (by omega) hv]
  | succ d ih =>
    intro i S S' g hg h hI
    have e0 := h.1 0 v (by omega) hv
    have em := mv0_c h h16
    by_cases c : xR S 0 v = 2
    · rw [eN_2 c, eN_2 (e0 ▸ c)]
    · have c' : ¬ xR S' 0 v = 2 := fun z => c (e0.trans z)
      by_cases k : mv0 N S = []
      · rw [eN_e c k, eN_e c' (em ▸ k)]
      · have hl : 0 < (mv0 N S).length := List.length_pos_iff.mpr k
        have hm : (mv0 N S).length < 1000 := by
          have e := mvl_0 N S (fun _ => 0)
          have := mvl_len (N := N) S 0 (fun _ => 0)
          rw [e] at this
          omega
        obtain ⟨j, hj, ej⟩ := drk_lt hg hl hm
        have hd : dk g (mv0 N S).length = j := by unfold dk; rw [ej, nI_clamp (by omega)]
        have hc : (mv0 N S)[dk g (mv0 N S).length]? = some ((mv0 N S)[j]) := by rw [hd]; exact List.getElem?_eq_getElem hj
        have mem : (mv0 N S)[j] ∈ mv0 N S := List.getElem_mem hj
        generalize (mv0 N S)[j] = m at hc mem
        rw [eN_s c k hc, eN_s (m := m) c' (em ▸ k) (by rw [← em]; exact hc)]
        refine ih (i + 1) _ _ (drw g) (Gk_drw hg) (h.tdm hI.1 h16 ?_) (hI.tdm h16 hA mem 0)
        rcases mv0_in hI.1 h16 mem with ⟨h1, h2, h3, _⟩ | ⟨h1, h2, h3, _⟩
        · exact Or.inl ⟨h1, h2, h3⟩
        · exact Or.inr (Or.inl ⟨h1, h2, h3⟩)
section
variable {N A v : Nat} {P : Nat → Nat} {S0 : St}
theorem ceb {Q : Nat → Int32} {X Y : Nat} {pb pt : List Row4} (h2 : 2 ≤ N) (h16 : N ≤ 16) (hA : A < 1048576) (hP : smN P 16 + N ≤ 9000) (hv : v < 16) : ∀ (d i n : Nat) (M : Mem) (S : St) (g : Int64), i + d = 500 → HV M 63 X Y 0 N Q S pb pt → XT M → mL M 63 16 = g → Gk g → GI N A P S0 S → d + 60 ≤ n → ∃ M' S', f_X9_entersBy_39 n 0 (nI v) (nI i) M = some (eN N v d i S g, M') ∧ HV M' 63 X Y 0 N Q S' pb pt ∧ FrD M M' 63 := by
  intro d
  have one : ∀ (i n : Nat) (M : Mem) (S : St) (z : Option (Int32 × Mem)), HV M 63 X Y 0 N Q S pb pt → XT M → 1 ≤ n → (xR S 0 v = 2 → z = some (nI i, M)) → (¬ xR S 0 v = 2 → z = if (500 : Int32) ≤ nI i then some ((-1 : Int32), M) else (bnd (mR M 0 3) fun o11 => chk (isO M 2 o11) <| obd2 (f_X2_moveByDraw (n - 1) o11 M) fun r15 M16 => if r15 = 0 then some ((-1 : Int32), M16) else bnd (nI i + (1 : Int32)) fun x19 => f_X9_entersBy_39 (n - 1) 0 (nI v) x19 M16)) → f_X9_entersBy_39 n 0 (nI v) (nI i) M = z := by
    intro i n M S z p x hn z1 z2
    obtain ⟨n, rfl⟩ : ∃ m, n = m + 1 := ⟨n - 1, by omega⟩
    have hb := p.2.2.1.2.1 v (by omega)
    have eh : f_X9_has (mI M 63 7) (nI v) M = some (if xR S 0 v = 2 then 1 else 0) := by
      rw [f_has9 _ (show v < 32 by omega), hb]
      by_cases c : xR S 0 v = 2
      · rw [decide_eq_true (⟨hv, c⟩ : v < 16 ∧ xR S 0 v = 2), if_pos c]; rfl
      · rw [decide_eq_false (fun y => c y.2), if_neg c]; rfl
    rw [f_X9_entersBy_39, chk_t x.1, x.2.2.2.1, bnd_e, cs_f p.1, eh, obd_s]
    by_cases c : xR S 0 v = 2
    · rw [z1 c, if_pos c, if_neg ne10]
    · rw [z2 c, if_neg c, if_pos rfl, x.2.2.2.1]
      rfl
  induction d with
  | zero =>
    intro i n M S g hi p x hg hG hI hn
    refine ⟨M, S, one i n M S _ p x (by omega) (fun c => by rw [eN_2 c]) (fun c => ?_), p, (FrH.rf M 63).D⟩
    rw [if_pos (show (500 : Int32) ≤ nI i from nI_le (a := 500) (by omega) (by omega))]
    show some ((if xR S 0 v = 2 then nI i else -1), M) = _
    rw [if_neg c]
  | succ d ih =>
    intro i n M S g hi p x hg hG hI hn
    have hl := hI.tfl
    by_cases c : xR S 0 v = 2
    · exact ⟨M, S, one i n M S _ p x (by omega) (fun c => by rw [eN_2 c]) (fun z => absurd c z), p, (FrH.rf M 63).D⟩
    · obtain ⟨d1, d2⟩ := p.dr (n := n - 1) hI.1 hA h2 h16 (by omega) (by have := p.1.2.2.2.2.2.2; omega) hg hG (by omega)
      by_cases k : mv0 N S = []
      · refine ⟨M, S, one i n M S _ p x (by omega) (fun z => absurd z c) (fun _ => ?_), p, (FrH.rf M 63).D⟩
        rw [if_neg (show ¬ (500 : Int32) ≤ nI i from nI_ge (b := 500) (by omega) (by decide)), x.2.2.2.1, bnd_e, cs_f p.1, d1 k, obd2_s, if_pos rfl, eN_e c k]
      · obtain ⟨m, M1, hm, e1, p1, g1, f1⟩ := d2 k
        have mem : m ∈ mv0 N S := List.mem_of_getElem? hm
        obtain ⟨M', S', e', p', f'⟩ := ih (i + 1) (n - 1) M1 _ (drw g) (by omega) p1 (x.frD f1) g1 (Gk_drw hG) (hI.tdm h16 hA mem 0) (by omega)
        refine ⟨M', S', one i n M S _ p x (by omega) (fun z => absurd z c) (fun _ => ?_), p', f1.tr f'⟩
        rw [if_neg (show ¬ (500 : Int32) ≤ nI i from nI_ge (b := 500) (by omega) (by decide)), x.2.2.2.1, bnd_e, cs_f p.1, e1, obd2_s, if_neg ne10, bnd_e, nI_1, e', eN_s c k hm]
theorem e56 {M : Mem} {S : St} {i n : Nat} (r : RV M false 0 S [] []) (hv : v < 16) (hn : 10466 ≤ n) : f_X10_entersBy_56 n 120 (nI v) (nI i) M = some ((if xR S 0 v = 2 then nI i else -1), cpF M 126 121 0) := by
  rw [f_X10_entersBy_56, rs_f r.1, r.get0 hv, obd_s]
  by_cases c : xR S 0 v = 2
  · rw [if_pos c, if_pos c, f_X10_entersBy_71, rs_f r.1, f_back r.1 hn, obd_s, if_neg ne10]
  · rw [if_neg c, if_neg c, f_X10_entersBy_71, rs_f r.1, f_back r.1 hn, obd_s, if_pos rfl]
theorem reb (h2 : 2 ≤ N) (h16 : N ≤ 16) (hA : A < 1048576) (hP : smN P 16 + N ≤ 9000) (hv : v < 16) (hN : xR S0 20 0 = nI N) (ht : xR S0 20 1 = 1 → N % 2 = 1) : ∀ (d i n : Nat) (M : Mem) (S : St) (g : Int64), i + d = 500 → RV M false 0 S [] [] → mI M 120 7 = 0 → mL M 120 8 = g → Gk g → GI N A P S0 S → d + 11000 ≤ n → ∃ M', f_X10_entersBy_26 n 120 (nI v) (nI i) M = some (eN N v d i S g, cpF M' 126 121 0) ∧ FrG M M' := by
  intro d
  induction d with
  | zero =>
    intro i n M S g hi r h7 hg hG hI hn
    obtain ⟨n, rfl⟩ : ∃ m, n = m + 1 := ⟨n - 1, by omega⟩
    refine ⟨M, ?_, FrG.rf M⟩
    rw [f_X10_entersBy_26, if_pos (show (500 : Int32) ≤ nI i from nI_le (a := 500) (by omega) (by omega)), e56 r hv (by omega)]
    rfl
  | succ d ih =>
    intro i n M S g hi r h7 hg hG hI hn
    obtain ⟨n, rfl⟩ : ∃ m, n = m + 1 := ⟨n - 1, by omega⟩
    have hl := hI.tfl
    have hR := hI.2.2.2.2
    have l5 : ¬ (500 : Int32) ≤ nI i := nI_ge (b := 500) (by omega) (by decide)
    by_cases c : xR S 0 v = 2
    · refine ⟨M, ?_, FrG.rf M⟩
      rw [f_X10_entersBy_26, if_neg l5, rs_f r.1, r.get0 hv, obd_s, if_pos c, e56 r hv (by omega), if_pos c, eN_2 c]
    · obtain ⟨M1, d1, d2, f1⟩ := r.goO (n := n) hI.1 (by rw [hR 20 0 (by omega)]; exact hN) h2 h16 (by rw [hR 20 1 (by omega)]; exact ht) hA (by omega) h7 hg hG (by omega)
      by_cases k : mv0 N S = []
      · obtain ⟨e1, r1, _⟩ := d1 k
        refine ⟨M1, ?_, f1⟩
        rw [f_X10_entersBy_26, if_neg l5, rs_f r.1, r.get0 hv, obd_s, if_neg c, e1, obd2_s, if_pos rfl, e56 r1 hv (by omega), if_neg c, eN_e c k]
      · obtain ⟨m, hm, e1, r1, g1⟩ := d2 k
        have mem : m ∈ mv0 N S := List.mem_of_getElem? hm
        obtain ⟨M', e', f'⟩ := ih (i + 1) n M1 _ (drw g) (by omega) r1 (by rw [f1.2.2.1 7 (by decide)]; exact h7) g1 (Gk_drw hG) (hI.tdm h16 hA mem 0) (by omega)
        refine ⟨M', ?_, f1.tr f'⟩
        rw [f_X10_entersBy_26, if_neg l5, rs_f r.1, r.get0 hv, obd_s, if_neg c, e1, obd2_s, if_neg ne10, bnd_e, nI_1, e', eN_s c k hm]
end
/-- what was put aside is brought back -/
theorem RV.bk {M M3 : Mem} {tw : Bool} {S : St} {t : Int32} {pb pt : List Row4} (r : RV M false t S pb pt) (e : M3.1 = M.1) (h3 : mI M3 120 3 = mI M 120 3) (h6 : ∀ b, b < 10465 → mI M3 126 b = mI M 121 b) : RV (cpF M3 126 121 0) false t S pb pt := by
  have e3 : ∀ b, b < 10465 → mI (cpF M3 126 121 0) 121 b = mI M 121 b := fun b hb => by
    show (if 121 = 121 ∧ 0 ≤ b ∧ b < 10465 then M3.2.1 126 b else M3.2.1 121 b) = _
    rw [if_pos ⟨rfl, Nat.zero_le _, hb⟩]
    exact h6 b hb
  have e120 : mI (cpF M3 126 121 0) 120 3 = mI M 120 3 := by
    show (if 120 = 121 ∧ 0 ≤ 3 ∧ 3 < 10465 then M3.2.1 126 3 else M3.2.1 120 3) = _
    rw [if_neg (by decide)]
    exact h3
  obtain ⟨hS, ht, hA, hw, hl, hb1, hb2⟩ := r
  have h9 := hl.2.1
  refine ⟨hS.e e, e120.trans ht, fun k i hv => ?_, hw.cg (fun b _ hb => e3 b (by omega)) rfl, ⟨(e3 850 (by decide)).trans hl.1, h9, fun i q hq => ?_⟩, hb1.cg (e3 _ (by decide)) (fun b _ hb => e3 b (by omega)), hb2.cg (e3 _ (by decide)) (fun b _ hb => e3 b (by omega))⟩
  · have ac := ad_cases hv
    rw [e3 _ (by omega)]; exact hA k i hv
  · have := gl_lt hq
    exact ⟨(e3 _ (by omega)).trans (hl.2.2 i q hq).1, fun z => by cases z⟩
theorem clr_SE (S : St) : SE (clr S) S := ⟨fun _ _ _ _ => rfl, fun _ _ => rfl, fun _ _ => rfl⟩
theorem Inv.clr {N A : Nat} {S : St} (h : Inv N A S) : Inv N A (clr S) := h.reg ⟨rfl, fun _ _ _ _ => rfl⟩ rfl
theorem WJ.gc {M : Mem} {N A i : Nat} {Q : Nat → Int32} {S : St} (w : WJ M N A i Q S) : GI N A (fun a => Ph a S) S (clr S) := by
  have sw := w.2.2.2.1
  exact ⟨sw.inv.clr, (clr_SE S).sy.tix sw.n16 sw.ix, sw.iz, fun a _ => by rw [(clr_SE S).tPh a]; exact Nat.le_refl _, fun _ _ _ => rfl⟩
/-- the reference has worked on its own and brought all back -/
theorem WJ.rfb {M M1 M3 : Mem} {N A i : Nat} {Q : Nat → Int32} {S : St} (w : WJ M N A i Q S) (cw : CW M1 N Q S) (r1 : RV M1 false 0 S [] []) (z1 : mI M1 120 7 = 0) (e : M3.1 = M1.1) (hI : ∀ o, ¬ (120 ≤ o ∧ o ≤ 130) → ∀ b, mI M3 o b = mI M1 o b) (h3 : mI M3 120 3 = mI M1 120 3) (h7 : mI M3 120 7 = mI M1 120 7) (h6 : ∀ b, b < 10465 → mI M3 126 b = mI M1 121 b) (hl : ∀ o, o = 7 ∨ o = 9 → ∀ b, mL M3 o b = mL M1 o b) : WI (i + 1) (cpF M3 126 121 0) := by
  have sw := w.2.2.2.1
  have o : ∀ o, o ≠ 121 → ∀ b, mI (cpF M3 126 121 0) o b = mI M3 o b := fun o n b => by
    show (if o = 121 ∧ 0 ≤ b ∧ b < 10465 then M3.2.1 126 b else M3.2.1 o b) = _
    rw [if_neg (fun z => n z.1)]; rfl
  refine ⟨N, A, Q, S, cw.ref e (fun k hk b => by rw [o k (by omega)]; exact hI k hk b) (fun _ => hl), r1.bk (tw := false) e h3 h6, ?_, sw.mo, w.2.2.2.2⟩
  rw [o 120 (by decide), h7]; exact z1
theorem op40 {M : Mem} {i n : Nat} (h : WI i M) (hi : i ≤ 511) (a b : Int32) (hn : 100000 ≤ n) : Okk i (f_X9_entersBy n 0 a b M) (fun M1 => f_X10_entersBy n 120 a b M1) := by
  obtain ⟨N, A, Q, S, w⟩ := h
  obtain ⟨X, Y, L, p, sb, xg, xr⟩ := id w.1
  obtain ⟨_, r, z7, sw, hQ⟩ := id w
  have h16 := sw.n16
  have h2 := sw.n2
  have hA := sw.a
  have ps := sw.ps hi
  rcases out_in (N := N) (by omega) a with ha | ⟨v, hv, rfl⟩
  · refine Okk.same w (r := -1) ?_ ?_
    · rw [f_X9_entersBy, chk_t xg.1, xg.2.1, bnd_e, sb.f, ndc0 sb ha, obd_s, if_pos rfl]
    · show f_X10_entersBy n 120 a b M = _
      rw [f_X10_entersBy, rs_f r.1, ndr0 r sw.n (by omega) h16 ha, obd_s, if_pos rfl]
  · by_cases hb : b < 0
    · have n0 : ¬ 0 ≤ b := Int32.not_le.mpr hb
      refine Okk.same w (r := -1) ?_ ?_
      · rw [f_X9_entersBy, chk_t xg.1, xg.2.1, bnd_e, sb.f, ndc sb hv h16, obd_s, if_neg ne10, if_neg n0]
      · show f_X10_entersBy n 120 (nI v) b M = _
        rw [f_X10_entersBy, rs_f r.1, ndr r sw.n hv h16, obd_s, if_neg ne10, if_neg n0]
    · obtain ⟨s, hs, rfl⟩ := nn_e hb
      have le0 : (0 : Int32) ≤ nI s := nI_le (a := 0) (Nat.zero_le _) hs
      have hP : smN (fun a => Ph a S) 16 + N ≤ 9000 := by
        show PhS S + N ≤ 9000
        omega
      obtain ⟨X0, Y0, pb, pt, tr, dj, fin⟩ := w.1.tri
      have x0 : XT M := ⟨xg.1, xg.2.1, xg.2.2.2.1, xg.2.2.2.2.1, p.1.2.2.2.2.2.2⟩
      obtain ⟨M1, e1, p1, f1⟩ := p.copy tr (by omega) h16 dj (fun v hv => (sw.inv.1 v hv).2.2.2) (fun v hv w hw => by have := ((sw.inv.2.2.2.2.2.1 v hv).1.2.2 w hw).1; omega) (n := n) (by omega)
      have x1 := x0.fr f1
      obtain ⟨M2, S2, e2, p2, f2⟩ := ceb (v := v) h2 h16 (show A < 1048576 by omega) hP (by omega) 500 0 n (sL M1 63 16 ((nI s).toInt64)) (clr S) _ (by omega) (p1.tsL _ _ _) (x1.sL _ _ _) (mL_s _ _ _ _) (lN_Gk hs) w.gc (by omega)
      have fD : FrD M M2 63 := f1.D.tr (FrD.tr ⟨_, FrH.rf _ _⟩ f2)
      have cw := fin M2 0 Q S2 pb pt fD p2
      have ec : f_X9_entersBy n 0 (nI v) (nI s) M = some (eN N v 500 0 S ((nI s).toInt64), M2) := by
        rw [f_X9_entersBy, chk_t xg.1, xg.2.1, bnd_e, sb.f, ndc sb hv h16, obd_s, if_neg ne10, if_pos le0, xg.2.2.2.2.1, bnd_e, cs_f tr.1, xg.2.2.2.1, bnd_e, cs_f p.1, e1, obd_s, chk_t x1.1, x1.2.2.2.1, bnd_e, cs_f p1.1, bnd_e]
        refine Eq.trans (show _ = f_X9_entersBy_39 n 0 (nI v) (nI 0) (sL M1 63 16 ((nI s).toInt64)) from rfl) ?_
        rw [e2, eN_c h16 (show A < 1048576 by omega) (show v < 16 by omega) 500 0 (clr S) S _ (lN_Gk hs) (clr_SE S) w.gc]
      -- the reference
      have fo : ∀ o, 120 ≤ o → o < 131 → M2.1.2.1 o = M.1.2.1 o ∧ (∀ b, mR M2 o b = mR M o b) ∧ ∀ b, mI M2 o b = mI M o b := by
        obtain ⟨x, f⟩ := id fD
        have hN := p.1.2.2.2.2.2.2
        have r57 : ∀ i, 5 ≤ i → i ≤ 7 → mR M 64 i = 63 + 2 + i ∨ 131 ≤ mR M 64 i := by
          obtain ⟨_, ⟨e5, e6, e7, len, ds, _⟩, _⟩ := tr
          obtain ⟨⟨y5, y6, y7⟩, _, _, x5, x6, x7, _⟩ := ds
          have y5' : mR M 64 5 = e5 := y5
          have y6' : mR M 64 6 = e6 := y6
          have y7' : mR M 64 7 = e7 := y7
          intro i a b
          rcases (show i = 5 ∨ i = 6 ∨ i = 7 by omega) with rfl | rfl | rfl
          · rw [y5']; exact x5
          · rw [y6']; exact x6
          · rw [y7']; exact x7
        have fo := FrH.o (M := sL M 63 16 x) f hN r57
        intro o a b
        obtain ⟨g1, g2, g3, _⟩ := fo.2 o (by omega) b
        exact ⟨g1, g2, g3⟩
      have n2 : mN M ≤ mN M2 := by
        obtain ⟨x, f⟩ := id fD
        exact f.1
      have r2 : RV M2 false 0 S [] [] := r.mr n2 fo
      have z2 : mI M2 120 7 = 0 := by rw [(fo 120 (by decide) (by decide)).2.2]; exact z7
      have ea := f_aside r2.1 (n := n) (by omega)
      generalize hMa : cpF M2 121 126 0 = Ma at ea
      have oa : ∀ o, o ≠ 126 → ∀ b, mI Ma o b = mI M2 o b := fun o n b => by
        rw [← hMa]
        show (if o = 126 ∧ 0 ≤ b ∧ b < 10465 then M2.2.1 121 b else M2.2.1 o b) = M2.2.1 o b
        rw [if_neg (fun z => n z.1)]
      have ob : ∀ b, b < 10465 → mI Ma 126 b = mI M2 121 b := fun b hb => by
        rw [← hMa]
        show (if 126 = 126 ∧ 0 ≤ b ∧ b < 10465 then M2.2.1 121 b else M2.2.1 126 b) = M2.2.1 121 b
        rw [if_pos ⟨rfl, Nat.zero_le _, hb⟩]
      have sa : Ma.1 = M2.1 := by rw [← hMa]; rfl
      have pa : RV Ma false 0 S [] [] := r2.cg sa (oa 120 (by decide) 3) (oa 121 (by decide)) (oa 123 (by decide))
      obtain ⟨M3, e3, f3⟩ := reb (v := v) h2 h16 (show A < 1048576 by omega) hP (by omega) sw.n sw.t 500 0 n (sL Ma 120 8 ((nI s).toInt64)) S _ (by omega) (pa.tsL _ _ _) (by show mI Ma 120 7 = 0; rw [oa 120 (by decide)]; exact z2) (mL_s _ _ _ _) (lN_Gk hs) w.gi (by omega)
      have f31 : M3.1 = Ma.1 := f3.1
      have f32 : ∀ o, ¬ (120 ≤ o ∧ o ≤ 124) → ∀ k, mI M3 o k = mI Ma o k := f3.2.1
      have f33 : ∀ k, k ≠ 6 → mI M3 120 k = mI Ma 120 k := f3.2.2.1
      refine ⟨_, M2, _, ec, r2.1.io (by decide) (by decide) (by decide), ?_, w.rfb cw r2 z2 (f31.trans sa) (fun o ho b => by rw [f32 o (by omega), oa o (by omega)]) (by rw [f33 3 (by decide), oa 120 (by decide)]) (by rw [f33 7 (by decide), oa 120 (by decide)]) (fun b hb => by rw [f32 126 (by decide)]; exact ob b hb) (fun o ho b => (f3.2.2.2 o b (by omega)).trans ((mL_o _ _ _ _ (by omega)).trans (by rw [← hMa]; rfl)))⟩
      show f_X10_entersBy n 120 (nI v) (nI s) M2 = _
      rw [f_X10_entersBy, rs_f r2.1, ndr r2 sw.n hv h16, obd_s, if_neg ne10, if_pos le0, ea, obd_s, rs_f pa.1, bnd_e]
      exact e3
