/-! ===== the class's sets: the quorum of a node now ===== -/
/-- the class's bases stand as the model's -/
def SB (M : Mem) (N : Nat) (S : St) : Prop := (isO M 7 1 ∧ isO M 100 2 ∧ isO M 100 3 ∧ isO M 100 4) ∧ (mR M 1 0 = 2 ∧ mR M 1 1 = 3 ∧ mR M 1 2 = 4) ∧ (mLn M 2 = 16 ∧ mLn M 3 = 16 ∧ mLn M 4 = 16) ∧ mI M 1 3 = nI N ∧ mI M 1 4 = xR S 20 1 ∧ ∀ v, v < N → mI M 2 v = xR S 17 v
theorem SB.cg {M M' : Mem} {N : Nat} {S S' : St} (h : SB M N S) (hN : mN M ≤ mN M') (hC : ∀ o, o < 5 → M'.1.2.1 o = M.1.2.1 o) (hR : ∀ b, mR M' 1 b = mR M 1 b) (h1 : ∀ b, mI M' 1 b = mI M 1 b) (h2 : ∀ b, mI M' 2 b = mI M 2 b) (e20 : xR S' 20 1 = xR S 20 1) (e17 : ∀ v, xR S' 17 v = xR S 17 v) : SB M' N S' := by
  obtain ⟨⟨a1, a2, a3, a4⟩, ⟨b1, b2, b3⟩, ⟨c1, c2, c3⟩, d1, d2, d3⟩ := h
  have io : ∀ {c o}, o < 5 → isO M c o → isO M' c o := fun ho z => ⟨by have := z.1; omega, by rw [mC, hC _ ho]; exact z.2⟩
  have ln : ∀ {o l}, o < 5 → mLn M o = l → mLn M' o = l := fun ho z => by rw [mLn, hC _ ho]; exact z
  refine ⟨⟨io (by decide) a1, io (by decide) a2, io (by decide) a3, io (by decide) a4⟩, ⟨by rw [hR]; exact b1, by rw [hR]; exact b2, by rw [hR]; exact b3⟩, ⟨ln (by decide) c1, ln (by decide) c2, ln (by decide) c3⟩, by rw [h1]; exact d1, by rw [h1, e20]; exact d2, fun v hv => by rw [h2, e17]; exact d3 v hv⟩
theorem SB.e {M M' : Mem} {N : Nat} {S : St} (h : SB M N S) (e : M'.1 = M.1) (h1 : ∀ b, mI M' 1 b = mI M 1 b) (h2 : ∀ b, mI M' 2 b = mI M 2 b) : SB M' N S :=
  h.cg (by unfold mN; rw [e]; exact Nat.le_refl _) (fun _ _ => by rw [e]) (fun _ => by unfold mR; rw [e]) h1 h2 rfl (fun _ => rfl)
section
variable {M : Mem} {N : Nat} {S : St} {α : Type}
theorem SB.f (h : SB M N S) (x : Option α) : chk (isO M 7 1) x = x := chk_t h.1.1
theorem SB.a2 (h : SB M N S) (x : Option α) : chk (isO M 100 2) x = x := chk_t h.1.2.1
theorem SB.a3 (h : SB M N S) (x : Option α) : chk (isO M 100 3) x = x := chk_t h.1.2.2.1
theorem SB.a4 (h : SB M N S) (x : Option α) : chk (isO M 100 4) x = x := chk_t h.1.2.2.2
theorem SB.i2 (h : SB M N S) {k : Nat} (hk : k < 16) (x : Option α) : chk (inB (nI k) (mLn M 2)) x = x := chk_t (by rw [h.2.2.1.1]; exact inB_n hk (by decide))
theorem SB.i3 (h : SB M N S) {k : Nat} (hk : k < 16) (x : Option α) : chk (inB (nI k) (mLn M 3)) x = x := chk_t (by rw [h.2.2.1.2.1]; exact inB_n hk (by decide))
theorem SB.i4 (h : SB M N S) {k : Nat} (hk : k < 16) (x : Option α) : chk (inB (nI k) (mLn M 4)) x = x := chk_t (by rw [h.2.2.1.2.2]; exact inB_n hk (by decide))
theorem SB.r2 (h : SB M N S) : mR M 1 0 = 2 := h.2.1.1
theorem SB.r3 (h : SB M N S) : mR M 1 1 = 3 := h.2.1.2.1
theorem SB.r4 (h : SB M N S) : mR M 1 2 = 4 := h.2.1.2.2
theorem SB.n (h : SB M N S) : mI M 1 3 = nI N := h.2.2.2.1
theorem SB.t (h : SB M N S) : mI M 1 4 = xR S 20 1 := h.2.2.2.2.1
theorem SB.b (h : SB M N S) {v : Nat} (hv : v < N) : mI M 2 v = xR S 17 v := h.2.2.2.2.2 v hv
end
def P4 (o : Nat) : Prop := o = 4
theorem SB.fr {M M' : Mem} {N : Nat} {S : St} (h : SB M N S) (f : Fr P4 M M') : SB M' N S :=
  h.e f.1 (fun b => f.2.1 1 (by unfold P4; decide) b) (fun b => f.2.1 2 (by unfold P4; decide) b)
theorem fu_l {M : Mem} {N : Nat} {S : St} (h : SB M N S) (h16 : N ≤ 16) (b : Int32) : ∀ (d i n : Nat), i + d = N → d + 1 ≤ n → f_X7_firstUnbroken_2 M n 1 b (nI i) = some (fub i d S b) := by
  intro d
  induction d with
  | zero =>
    intro i n hi hn
    obtain ⟨n, rfl⟩ : ∃ m, n = m + 1 := ⟨n - 1, by omega⟩
    rw [f_X7_firstUnbroken_2, h.f, h.n, if_pos (nI_le (by omega) (by omega))]
    rfl
  | succ d ih =>
    intro i n hi hn
    obtain ⟨n, rfl⟩ : ∃ m, n = m + 1 := ⟨n - 1, by omega⟩
    rw [f_X7_firstUnbroken_2, h.f, h.n, if_neg (nI_ge (by omega) (by omega)), h.r2, bnd_e, h.a2, h.i2 (by omega), mI_c (by omega), h.b (by omega)]
    unfold fub
    rw [List.range'_succ, List.find?_cons]
    by_cases c : xR S 17 i &&& b = 0
    · rw [if_pos c, bnd_e, h.a2, h.i2 (by omega), mI_c (by omega), h.b (by omega)]
      simp [c]
    · rw [if_neg c, bnd_e, nI_1, ih _ _ (by omega) (by omega)]
      simp only [c, decide_false]
      rfl
theorem wo_e {M : Mem} {N : Nat} {S : St} (h : SB M N S) (h16 : N ≤ 16) (hodd : N % 2 = 1) (b : Int32) {r : Nat} (hr : r < N) (hw : ∀ w, r + 1 ≤ w → w < N → mI M 4 w = wh N b w) : f_X7_wholeOf 1 (nI r) b M = some (wh N b r) := by
  have we := wh_e b (v := r) hr hodd
  rw [f_X7_wholeOf, f_has9 b (by omega) M, obd_s, c2v1, bnd_e, h.f, nI_1, h.n]
  by_cases c : 2 * r + 1 < N
  · simp only [c, if_true] at we
    have w1 := hw (2 * r + 1) (by omega) c
    have w2 := hw (2 * r + 1 + 1) (by omega) (by omega)
    rw [if_pos (nI_lt (by omega) (by omega)), h.r4, bnd_e, h.a4, h.i4 (by omega), mI_c (by omega), w1, bnd_e, bnd_e, h.a4, h.i4 (by omega), mI_c (by omega), w2, bnd_e, we]
    cases hb : bt b r
    · simp only [Bool.false_eq_true, if_false, if_true]
      by_cases c1 : wh N b (2 * r + 1) = 0
      · rw [if_pos c1, if_pos c1, f_X7_wholeOf_92]
        by_cases c2 : wh N b (2 * r + 2) = 0
        · rw [if_pos c2, if_pos c2]
        · rw [if_neg c2, if_neg c2]
      · rw [if_neg c1, if_neg c1, f_X7_wholeOf_92, if_neg c1]
    · simp only [if_true, ne10, if_false]
      by_cases c1 : wh N b (2 * r + 1) = 0
      · rw [if_pos c1, if_pos c1]
      · rw [if_neg c1, if_neg c1]
        by_cases c2 : wh N b (2 * r + 2) = 0
        · rw [if_pos c2, if_pos c2]
        · rw [if_neg c2, if_neg c2]
  · simp only [c, if_false] at we
    rw [if_neg (nI_nlt (by omega) (by omega)), we]
    cases hb : bt b r
    · simp
    · simp [ne10]
theorem wr_l {N : Nat} {S : St} (h16 : N ≤ 16) (h0 : 0 < N) (hodd : N % 2 = 1) (b : Int32) : ∀ (r : Nat) (M : Mem) (n : Nat), SB M N S → r ≤ N → (∀ w, r ≤ w → w < N → mI M 4 w = wh N b w) → r + 2 ≤ n → ∃ M', f_X7_wholeOfRoot_7 n 1 b (nI r - 1) M = some (wh N b 0, M') ∧ Fr P4 M M' := by
  intro r
  induction r with
  | zero =>
    intro M n h hr hw hn
    obtain ⟨n, rfl⟩ : ∃ m, n = m + 1 := ⟨n - 1, by omega⟩
    refine ⟨M, ?_, Fr.rf _ _⟩
    rw [f_X7_wholeOfRoot_7, if_pos (by decide), h.f, h.r4, bnd_e, h.a4]
    show chk (inB (nI 0) (mLn M 4)) (some (mI M 4 (nI 0).toNatClampNeg, M)) = _
    rw [h.i4 (by decide), mI_c (by decide), hw 0 (by omega) (by omega)]
  | succ r ih =>
    intro M n h hr hw hn
    obtain ⟨n, rfl⟩ : ∃ m, n = m + 1 := ⟨n - 1, by omega⟩
    have e1 : nI (r + 1) - (1 : Int32) = nI r := nI_pred r
    have h2 : SB (sI M 4 r (wh N b r)) N S := h.e rfl (fun b => mI_o _ _ _ _ _ (by decide)) (fun b => mI_o _ _ _ _ _ (by decide))
    obtain ⟨M', q1, q2⟩ := ih (sI M 4 r (wh N b r)) n h2 (by omega) (fun w hw1 hw2 => by
      by_cases c : w = r
      · rw [c, mI_s]
      · rw [mI_n _ _ _ _ c]; exact hw w (by omega) hw2) (by omega)
    refine ⟨M', ?_, Fr.tr (Fr.tsI rfl) q2⟩
    rw [e1, f_X7_wholeOfRoot_7, if_neg (nI_pos (by omega)), h.f, h.r4, bnd_e, h.a4, wo_e h h16 hodd b (by omega) hw, obd_s, h.i4 (by omega), sI_c (by omega), bnd_e, bnd_e, show nI r + (-1 : Int32) = nI r - 1 from (Int32.sub_eq_add_neg _ _).symm]
    exact q1
theorem SB.tqb {M : Mem} {N : Nat} {S : St} (h : SB M N S) (h16 : N ≤ 16) (h0 : 0 < N) (ht : xR S 20 1 = 1 → N % 2 = 1) (ht2 : xR S 20 1 = 0 ∨ xR S 20 1 = 1) {v : Nat} (hv : v < N) (b : Int32) {n : Nat} (hn : 40 ≤ n) : ∃ M', f_X7_quorumNow n 1 (nI v) b M = some (qby N S v b, M') ∧ Fr P4 M M' := by
  unfold qby
  have h6 : v < 16 := by omega
  by_cases c : xR S 17 v &&& b = 0
  · refine ⟨M, ?_, Fr.rf _ _⟩
    rw [f_X7_quorumNow, h.f, h.r2, bnd_e, h.a2, h.i2 h6, mI_c (by omega), h.b hv, if_pos c, bnd_e, h.a2, h.i2 h6, mI_c (by omega), h.b hv, if_pos c]
  · rw [if_neg c]
    rcases ht2 with z | z
    · refine ⟨M, ?_, Fr.rf _ _⟩
      rw [f_X7_quorumNow, h.f, h.r2, bnd_e, h.a2, h.i2 h6, mI_c (by omega), h.b hv, if_neg c, h.t, if_pos z, f_X7_firstUnbroken, show (0 : Int32) = nI 0 from rfl, fu_l h h16 b N 0 n (by omega) (by omega), obd_s, z, if_neg (by decide)]
    · obtain ⟨M', q1, q2⟩ := wr_l h16 h0 (ht z) b N M n h (Nat.le_refl _) (fun w _ _ => by omega) (by omega)
      refine ⟨M', ?_, q2⟩
      rw [f_X7_quorumNow, h.f, h.r2, bnd_e, h.a2, h.i2 h6, mI_c (by omega), h.b hv, if_neg c, h.t, z, if_neg ne10, f_X7_wholeOfRoot, h.f, h.n, bnd_e, q1, obd2_s, if_pos rfl]
/-- the class renews the quorums -/
def P4Q (h o : Nat) : Prop := o = 4 ∨ o = h + 15
theorem rn_l {h N : Nat} {S : St} (hh : 14 ≤ h) (h16 : N ≤ 16) (h0 : 0 < N) (ht : xR S 20 1 = 1 → N % 2 = 1) (ht2 : xR S 20 1 = 0 ∨ xR S 20 1 = 1) (b : Int32) : ∀ (d i n : Nat) (M : Mem), i + d = N → CS M h → SB M N S → mI M h 9 = b → d + 41 ≤ n → ∃ M', f_X2_renewQuorums_2 n h (nI i) M = some M' ∧ Fr (P4Q h) M M' ∧ (∀ v, i ≤ v → v < N → mI M' (h + 15) v = qby N S v b) ∧ ∀ v, v < i → mI M' (h + 15) v = mI M (h + 15) v := by
  intro d
  induction d with
  | zero =>
    intro i n M hi q s hb hn
    obtain ⟨n, rfl⟩ : ∃ m, n = m + 1 := ⟨n - 1, by omega⟩
    refine ⟨M, ?_, Fr.rf _ _, fun v _ _ => by omega, fun _ _ => rfl⟩
    rw [f_X2_renewQuorums_2, cs_f q, cs_h0 q, bnd_e, cs_s q, s.n, if_pos (nI_le (by omega) (by omega))]
  | succ d ih =>
    intro i n M hi q s hb hn
    obtain ⟨n, rfl⟩ : ∃ m, n = m + 1 := ⟨n - 1, by omega⟩
    obtain ⟨M1, e1, f1⟩ := s.tqb h16 h0 ht ht2 (v := i) (by omega) b (n := n) (by omega)
    have q1 : CS M1 h := q.e f1.1
    have i1 : ∀ o, o ≠ 4 → ∀ k, mI M1 o k = mI M o k := fun o n k => f1.2.1 o n k
    generalize hM2 : sI M1 (h + 15) i (qby N S i b) = M2
    have s2 : M2.1 = M1.1 := by rw [← hM2]; rfl
    have o2 : ∀ o, o ≠ h + 15 → ∀ k, mI M2 o k = mI M1 o k := fun o n k => by rw [← hM2, mI_o _ _ _ _ _ n]
    have F2 : Fr (P4Q h) M M2 := ⟨s2.trans f1.1, fun o n k => by unfold P4Q at n; rw [o2 o (by omega), i1 o (by omega)], fun o k => by rw [← hM2]; exact f1.2.2 o k⟩
    obtain ⟨M', e', f', g1, g2⟩ := ih (i + 1) n M2 (by omega) (q1.e s2) ((s.fr f1).e s2 (fun b => o2 1 (by omega) b) (fun b => o2 2 (by omega) b)) (by rw [o2 h (by omega), i1 h (by omega)]; exact hb) (by omega)
    refine ⟨M', ?_, F2.tr f', fun v a c => ?_, fun v hv => ?_⟩
    · rw [f_X2_renewQuorums_2, cs_f q, cs_h0 q, bnd_e, cs_s q, s.n, if_neg (nI_ge (by omega) (by omega)), cs_h5 q, bnd_e, cs_a15 q, bnd_e, cs_s q, hb, e1, obd2_s, cs_a15 q1, cs_i15 q1 (by omega), sI_c (by omega), hM2, bnd_e, nI_1, bnd_e, e']
    · by_cases z : v = i
      · rw [z, g2 i (by omega), ← hM2, mI_s]
      · exact g1 v (by omega) c
    · rw [g2 v (by omega), ← hM2, mI_n _ _ _ _ (by omega), i1 _ (by omega)]
theorem HV.Q {M M' : Mem} {h X Y N : Nat} {t : Int32} {Q Q' : Nat → Int32} {S : St} {pb pt : List Row4} (p : HV M h X Y t N Q S pb pt) (f : Fr (P4Q h) M M') (hQ : ∀ v, v < N → mI M' (h + 15) v = Q' v) : HV M' h X Y t N Q' S pb pt := by
  obtain ⟨q, pv, hp, rm, ⟨lb, lt⟩, hN, _⟩ := p
  have hq := q.2.2.2.2
  have lo : ∀ o, o ≠ 4 → o ≠ h + 15 → ∀ b, mI M' o b = mI M o b := fun o a c b => f.2.1 o (by unfold P4Q; omega) b
  refine ⟨q.e f.1, ?_, hp.cg (fun o ho b => lo o (by omega) (by omega) b) (fun _ _ _ => rfl) rfl, ?_, ⟨lb.cg (fun b => lo _ (by omega) (by omega) b) (fun b => lo _ (by omega) (by omega) b), lt.cg (fun b => lo _ (by omega) (by omega) b) (fun b => lo _ (by omega) (by omega) b)⟩, by rw [lo 1 (by omega) (by omega)]; exact hN, hQ⟩
  · obtain ⟨d5, d6, d7, len, K, fr, us, ow, w, hK⟩ := pv
    obtain ⟨_, _, _, y5, y6, y7, _⟩ := id w.1
    exact ⟨d5, d6, d7, len, K, fr, us, ow, w.cg (w.1.e f.1) (Nat.le_refl _) w.2.2.2.2.2.2.2.2.2.1.2.2.2.1 (fun i a c b => lo _ (by omega) (by omega) b) (fun b _ => lo _ (by omega) (by omega) b) (fun b _ => lo _ (by omega) (by omega) b) (fun b _ => lo _ (by omega) (by omega) b), hK⟩
  · unfold Rm mN mU mLn mR at rm ⊢
    rw [f.1]; exact rm
/-- the class's broken nodes are the reference's -/
theorem HV.bk {M : Mem} {h X Y N : Nat} {t : Int32} {Q : Nat → Int32} {S : St} {pb pt : List Row4} (p : HV M h X Y t N Q S pb pt) (h16 : N ≤ 16) (h7 : ∀ v, v < 16 → xR S 7 v = 0 ∨ xR S 7 v = 1) (hz : ∀ v, N ≤ v → v < 16 → xR S 7 v = 0) : mI M h 9 = bkm N S := by
  apply b_ext
  intro i hi
  rw [bkm_b h16 h7 hi, p.2.2.1.2.2.2.1 i hi]
  apply decide_eq_decide.mpr
  constructor
  · rintro ⟨a, b⟩
    refine ⟨?_, b⟩
    apply Decidable.byContradiction
    intro c
    rw [hz i (by omega) a] at b
    exact absurd b (by decide)
  · rintro ⟨a, b⟩
    exact ⟨by omega, b⟩
theorem HV.renew {M : Mem} {h X Y N n : Nat} {t : Int32} {Q : Nat → Int32} {S : St} {pb pt : List Row4} (p : HV M h X Y t N Q S pb pt) (s : SB M N S) (h16 : N ≤ 16) (h0 : 0 < N) (ht : xR S 20 1 = 1 → N % 2 = 1) (ht2 : xR S 20 1 = 0 ∨ xR S 20 1 = 1) (h7 : ∀ v, v < 16 → xR S 7 v = 0 ∨ xR S 7 v = 1) (hz : ∀ v, N ≤ v → v < 16 → xR S 7 v = 0) (hn : 60 ≤ n) : ∃ M', f_X2_renewQuorums n h M = some M' ∧ HV M' h X Y t N (fun v => qm N S v) S pb pt ∧ Fr (P4Q h) M M' := by
  obtain ⟨M', e, f, g, _⟩ := rn_l p.1.2.2.2.2.2.1 h16 h0 ht ht2 (bkm N S) N 0 n M (by omega) p.1 s (p.bk h16 h7 hz) (by omega)
  exact ⟨M', by rw [f_X2_renewQuorums]; exact e, p.Q f (fun v hv => g v (by omega) hv), f⟩
