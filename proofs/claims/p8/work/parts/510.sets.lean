/-! ===== the class's sets: the quorum of a node now ===== -/
/-- the class's bases stand as the model's -/
def SB (M : Mem) (N : Nat) (S : St) : Prop := (isO M 7 1 ∧ isO M 100 2 ∧ isO M 100 3 ∧ isO M 100 4) ∧ (mR M 1 0 = 2 ∧ mR M 1 1 = 3 ∧ mR M 1 2 = 4) ∧ (mLn M 2 = 16 ∧ mLn M 3 = 16 ∧ mLn M 4 = 16) ∧ mI M 1 3 = nI N ∧ mI M 1 4 = xR S 20 1 ∧ ∀ v, v < N → mI M 2 v = xR S 17 v
theorem SB.cg {M M' : Mem} {N : Nat} {S S' : St} (h : SB M N S) (hN : mN M ≤ mN M') (hC : ∀ o, o < 5 → M'.1.2.1 o = M.1.2.1 o) (hR : ∀ b, mR M' 1 b = mR M 1 b) (h1 : ∀ b, mI M' 1 b = mI M 1 b) (h2 : ∀ b, mI M' 2 b = mI M 2 b) (e20 : xR S' 20 1 = xR S 20 1) (e17 : ∀ v, xR S' 17 v = xR S 17 v) : SB M' N S' := by
  obtain ⟨⟨a1, a2, a3, a4⟩, ⟨b1, b2, b3⟩, ⟨c1, c2, c3⟩, d1, d2, d3⟩ := h
  have io : ∀ {c o}, o < 5 → isO M c o → isO M' c o := fun ho z => ⟨by have := z.1; omega, by rw [mC, hC _ ho]; exact z.2⟩
  have ln : ∀ {o l}, o < 5 → mLn M o = l → mLn M' o = l := fun ho z => by rw [mLn, hC _ ho]; exact z
  refine ⟨⟨io (by decide) a1, io (by decide) a2, io (by decide) a3, io (by decide) a4⟩, ⟨by rw [hR]; exact b1, by rw [hR]; exact b2, by rw [hR]; exact b3⟩, ⟨ln (by decide) c1, ln (by decide) c2, ln (by decide) c3⟩, by rw [h1]; exact d1, by rw [h1, e20]; exact d2, fun v hv => by rw [h2, e17]; exact d3 v hv⟩
theorem SB.e {M M' : Mem} {N : Nat} {S : St} (h : SB M N S) (e : M'.1 = M.1) (h1 : ∀ b, mI M' 1 b = mI M 1 b) (h2 : ∀ b, mI M' 2 b = mI M 2 b) : SB M' N S :=
  h.cg (by unfold mN; rw [e]; exact Nat.le_refl _) (fun _ _ => by rw [e]) (fun _ => by unfold mR; rw [e]) h1 h2 rfl (fun _ => rfl)
section
variable {M : Mem} {N : Nat} {S : St} {α : Type}
theorem SB.f (h : SB M N S) (x : Option α) : chk (isO M 7 1) x = x := chk_t h.1.1
theorem SB.a2 (h : SB M N S) (x : Option α) : chk (isO M 100 2) x = x := chk_t h.1.2.1
theorem SB.a3 (h : SB M N S) (x : Option α) : chk (isO M 100 3) x = x := chk_t h.1.2.2.1
theorem SB.a4 (h : SB M N S) (x : Option α) : chk (isO M 100 4) x = x := chk_t h.1.2.2.2
theorem SB.i2 (h : SB M N S) {k : Nat} (hk : k < 16) (x : Option α) : chk (inB (nI k) (mLn M 2)) x = x := chk_t (by rw [h.2.2.1.1]; exact inB_n hk (by decide))
theorem SB.i3 (h : SB M N S) {k : Nat} (hk : k < 16) (x : Option α) : chk (inB (nI k) (mLn M 3)) x = x := chk_t (by rw [h.2.2.1.2.1]; exact inB_n hk (by decide))
theorem SB.i4 (h : SB M N S) {k : Nat} (hk : k < 16) (x : Option α) : chk (inB (nI k) (mLn M 4)) x = x := chk_t (by rw [h.2.2.1.2.2]; exact inB_n hk (by decide))
theorem SB.r2 (h : SB M N S) : mR M 1 0 = 2 := h.2.1.1
theorem SB.r3 (h : SB M N S) : mR M 1 1 = 3 := h.2.1.2.1
theorem SB.r4 (h : SB M N S) : mR M 1 2 = 4 := h.2.1.2.2
theorem SB.n (h : SB M N S) : mI M 1 3 = nI N := h.2.2.2.1
theorem SB.t (h : SB M N S) : mI M 1 4 = xR S 20 1 := h.2.2.2.2.1
theorem SB.b (h : SB M N S) {v : Nat} (hv : v < N) : mI M 2 v = xR S 17 v := h.2.2.2.2.2 v hv
end
def P4 (o : Nat) : Prop := o = 4
theorem SB.fr {M M' : Mem} {N : Nat} {S : St} (h : SB M N S) (f : Fr P4 M M') : SB M' N S :=
  h.e f.1 (fun b => f.2.1 1 (by unfold P4; decide) b) (fun b => f.2.1 2 (by unfold P4; decide) b)
theorem fu_l {M : Mem} {N : Nat} {S : St} (h : SB M N S) (h16 : N ≤ 16) (b : Int32) : ∀ (d i n : Nat), i + d = N → d + 1 ≤ n → f_X7_firstUnbroken_2 M n 1 b (nI i) = some (fub i d S b) := by
  intro d
  induction d with
  | zero =>
    intro i n hi hn
    obtain ⟨n, rfl⟩ : ∃ m, n = m + 1 := ⟨n - 1, by omega⟩
    rw [f_X7_firstUnbroken_2, h.f, h.n, if_pos (nI_le (by omega) (by omega))]
    rfl
  | succ d ih =>
    intro i n hi hn
    obtain ⟨n, rfl⟩ : ∃ m, n = m + 1 := ⟨n - 1, by omega⟩
    rw [f_X7_firstUnbroken_2, h.f, h.n, if_neg (nI_ge (by omega) (by omega)), h.r2, bnd_e, h.a2, h.i2 (by omega), mI_c (by omega), h.b (by omega)]
    unfold fub
    rw [List.range'_succ, List.find?_cons]
    by_cases c : xR S 17 i &&& b = 0
    · rw [if_pos c, bnd_e, h.a2, h.i2 (by omega), mI_c (by omega), h.b (by omega)]
      simp [c]
    · rw [if_neg c, bnd_e, nI_1, ih _ _ (by omega) (by omega)]
      simp only [c, decide_false]
      rfl
theorem wo_e {M : Mem} {N : Nat} {S : St} (h : SB M N S) (h16 : N ≤ 16) (hodd : N % 2 = 1) (b : Int32) {r : Nat} (hr : r < N) (hw : ∀ w, r + 1 ≤ w → w < N → mI M 4 w = wh N b w) : f_X7_wholeOf 1 (nI r) b M = some (wh N b r) := by
  have we := wh_e b (v := r) hr hodd
  rw [f_X7_wholeOf, f_has9 b (by omega) M, obd_s, c2v1, bnd_e, h.f, nI_1, h.n]
  by_cases c : 2 * r + 1 < N
  · simp only [c, if_true] at we
    have w1 := hw (2 * r + 1) (by omega) c
    have w2 := hw (2 * r + 1 + 1) (by omega) (by omega)
    rw [if_pos (nI_lt (by omega) (by omega)), h.r4, bnd_e, h.a4, h.i4 (by omega), mI_c (by omega), w1, bnd_e, bnd_e, h.a4, h.i4 (by omega), mI_c (by omega), w2, bnd_e, we]
    cases hb : bt b r
    · simp only [Bool.false_eq_true, if_false, if_true]
      by_cases c1 : wh N b (2 * r + 1) = 0
      · rw [if_pos c1, if_pos c1, f_X7_wholeOf_92]
        by_cases c2 : wh N b (2 * r + 2) = 0
        · rw [if_pos c2, if_pos c2]
        · rw [if_neg c2, if_neg c2]
      · rw [if_neg c1, if_neg c1, f_X7_wholeOf_92, if_neg c1]
    · simp only [if_true, ne10, if_false]
      by_cases c1 : wh N b (2 * r + 1) = 0
      · rw [if_pos c1, if_pos c1]
      · rw [if_neg c1, if_neg c1]
        by_cases c2 : wh N b (2 * r + 2) = 0
        · rw [if_pos c2, if_pos c2]
        · rw [if_neg c2, if_neg c2]
  · simp only [c, if_false] at we
    rw [if_neg (nI_nlt (by omega) (by omega)), we]
    cases hb : bt b r
    · simp
    · simp [ne10]
theorem wr_l {N : Nat} {S : St} (h16 : N ≤ 16) (h0 : 0 < N) (hodd : N % 2 = 1) (b : Int32) : ∀ (r : Nat) (M : Mem) (n : Nat), SB M N S → r ≤ N → (∀ w, r ≤ w → w < N → mI M 4 w = wh N b w) → r + 2 ≤ n → ∃ M', f_X7_wholeOfRoot_7 n 1 b (nI r - 1) M = some (wh N b 0, M') ∧ Fr P4 M M' := by
  intro r
  induction r with
  | zero =>
    intro M n h hr hw hn
    obtain ⟨n, rfl⟩ : ∃ m, n = m + 1 := ⟨n - 1, by omega⟩
    refine ⟨M, ?_, Fr.rf _ _⟩
    rw [f_X7_wholeOfRoot_7, if_pos (by decide), h.f, h.r4, bnd_e, h.a4]
    show chk (inB (nI 0) (mLn M 4)) (some (mI M 4 (nI 0).toNatClampNeg, M)) = _
    rw [h.i4 (by decide), mI_c (by decide), hw 0 (by omega) (by omega)]
  | succ r ih =>
    intro M n h hr hw hn
    obtain ⟨n, rfl⟩ : ∃ m, n = m + 1 := ⟨n - 1, by omega⟩
    have e1 : nI (r + 1) - (1 : Int32) = nI r := nI_pred r
    have h2 : SB (sI M 4 r (wh N b r)) N S := h.e rfl (fun b => mI_o _ _ _ _ _ (by decide)) (fun b => mI_o _ _ _ _ _ (by decide))
    obtain ⟨M', q1, q2⟩ := ih (sI M 4 r (wh N b r)) n h2 (by omega) (fun w hw1 hw2 => by
      by_cases c : w = r
      · rw [c, mI_s]
      · rw [mI_n _ _ _ _ c]; exact hw w (by omega) hw2) (by omega)
    refine ⟨M', ?_, Fr.tr (Fr.tsI rfl) q2⟩
    rw [e1, f_X7_wholeOfRoot_7, if_neg (nI_pos (by omega)), h.f, h.r4, bnd_e, h.a4, wo_e h h16 hodd b (by omega) hw, obd_s, h.i4 (by omega), sI_c (by omega), bnd_e, bnd_e, show nI r + (-1 : Int32) = nI r - 1 from (Int32.sub_eq_add_neg _ _).symm]
    exact q1
theorem SB.tqb {M : Mem} {N : Nat} {S : St} (h : SB M N S) (h16 : N ≤ 16) (h0 : 0 < N) (ht : xR S 20 1 = 1 → N % 2 = 1) (ht2 : xR S 20 1 = 0 ∨ xR S 20 1 = 1) {v : Nat} (hv : v < N) (b : Int32) {n : Nat} (hn : 40 ≤ n) : ∃ M', f_X7_quorumNow n 1 (nI v) b M = some (qby N S v b, M') ∧ Fr P4 M M' := by
  unfold qby
  have h6 : v < 16 := by omega
  by_cases c : xR S 17 v &&& b = 0
  · refine ⟨M, ?_, Fr.rf _ _⟩
    rw [f_X7_quorumNow, h.f, h.r2, bnd_e, h.a2, h.i2 h6, mI_c (by omega), h.b hv, if_pos c, bnd_e, h.a2, h.i2 h6, mI_c (by omega), h.b hv, if_pos c]
  · rw [if_neg c]
    rcases ht2 with z | z
    · refine ⟨M, ?_, Fr.rf _ _⟩
      rw [f_X7_quorumNow, h.f, h.r2, bnd_e, h.a2, h.i2 h6, mI_c (by omega), h.b hv, if_neg c, h.t, if_pos z, f_X7_firstUnbroken, show (0 : Int32) = nI 0 from rfl, fu_l h h16 b N 0 n (by omega) (by omega), obd_s, z, if_neg (by decide)]
    · obtain ⟨M', q1, q2⟩ := wr_l h16 h0 (ht z) b N M n h (Nat.le_refl _) (fun w _ _ => by omega) (by omega)
      refine ⟨M', ?_, q2⟩
      rw [f_X7_quorumNow, h.f, h.r2, bnd_e, h.a2, h.i2 h6, mI_c (by omega), h.b hv, if_neg c, h.t, z, if_neg ne10, f_X7_wholeOfRoot, h.f, h.n, bnd_e, q1, obd2_s, if_pos rfl]
/-- the class renews the quorums -/
def P4Q (h o : Nat) : Prop := o = 4 ∨ o = h + 15
theorem rn_l {h N : Nat} {S : St} (hh : 14 ≤ h) (h16 : N ≤ 16) (h0 : 0 < N) (ht : xR S 20 1 = 1 → N % 2 = 1) (ht2 : xR S 20 1 = 0 ∨ xR S 20 1 = 1) (b : Int32) : ∀ (d i n : Nat) (M : Mem), i + d = N → CS M h → SB M N S → mI M h 9 = b → d + 41 ≤ n → ∃ M', f_X2_renewQuorums_2 n h (nI i) M = some M' ∧ Fr (P4Q h) M M' ∧ (∀ v, i ≤ v → v < N → mI M' (h + 15) v = qby N S v b) ∧ ∀ v, v < i → mI M' (h + 15) v = mI M (h + 15) v := by
  intro d
  induction d with
  | zero =>
    intro i n M hi q s hb hn
    obtain ⟨n, rfl⟩ : ∃ m, n = m + 1 := ⟨n - 1, by omega⟩
    refine ⟨M, ?_, Fr.rf _ _, fun v _ _ => by omega, fun _ _ => rfl⟩
    rw [f_X2_renewQuorums_2, cs_f q, cs_h0 q, bnd_e, cs_s q, s.n, if_pos (nI_le (by omega) (by omega))]
  | succ d ih =>
    intro i n M hi q s hb hn
    obtain ⟨n, rfl⟩ : ∃ m, n = m + 1 := ⟨n - 1, by omega⟩
    obtain ⟨M1, e1, f1⟩ := s.tqb h16 h0 ht ht2 (v := i) (by omega) b (n := n) (by omega)
    have q1 : CS M1 h := q.e f1.1
    have i1 : ∀ o, o ≠ 4 → ∀ k, mI M1 o k = mI M o k := fun o n k => f1.2.1 o n k
    generalize hM2 : sI M1 (h + 15) i (qby N S i b) = M2
    have s2 : M2.1 = M1.1 := by rw [← hM2]; rfl
    have o2 : ∀ o, o ≠ h + 15 → ∀ k, mI M2 o k = mI M1 o k := fun o n k => by rw [← hM2, mI_o _ _ _ _ _ n]
    have F2 : Fr (P4Q h) M M2 := ⟨s2.trans f1.1, fun o n k => by unfold P4Q at n; rw [o2 o (by omega), i1 o (by omega)], fun o k => by rw [← hM2]; exact f1.2.2 o k⟩
    obtain ⟨M', e', f', g1, g2⟩ := ih (i + 1) n M2 (by omega) (q1.e s2) ((s.fr f1).e s2 (fun b => o2 1 (by omega) b) (fun b => o2 2 (by omega) b)) (by rw [o2 h (by omega), i1 h (by omega)]; exact hb) (by omega)
    refine ⟨M', ?_, F2.tr f', fun v a c => ?_, fun v hv => ?_⟩
    · rw [f_X2_renewQuorums_2, cs_f q, cs_h0 q, bnd_e, cs_s q, s.n, if_neg (nI_ge (by omega) (by omega)), cs_h5 q, bnd_e, cs_a15 q, bnd_e, cs_s q, hb, e1, obd2_s, cs_a15 q1, cs_i15 q1 (by omega), sI_c (by omega), hM2, bnd_e, nI_1, bnd_e, e']
    · by_cases z : v = i
      · rw [z, g2 i (by omega), ← hM2, mI_s]
      · exact g1 v (by omega) c
    · rw [g2 v (by omega), ← hM2, mI_n _ _ _ _ (by omega), i1 _ (by omega)]
theorem HV.Q {M M' : Mem} {h X Y N : Nat} {t : Int32} {Q Q' : Nat → Int32} {S : St} {pb pt : List Row4} (p : HV M h X Y t N Q S pb pt) (f : Fr (P4Q h) M M') (hQ : ∀ v, v < N → mI M' (h + 15) v = Q' v) : HV M' h X Y t N Q' S pb pt := by
  obtain ⟨q, pv, hp, rm, ⟨lb, lt⟩, hN, _⟩ := p
  have hq := q.2.2.2.2
  have lo : ∀ o, o ≠ 4 → o ≠ h + 15 → ∀ b, mI M' o b = mI M o b := fun o a c b => f.2.1 o (by unfold P4Q; omega) b
  refine ⟨q.e f.1, ?_, hp.cg (fun o ho b => lo o (by omega) (by omega) b) (fun _ _ _ => rfl) rfl, ?_, ⟨lb.cg (fun b => lo _ (by omega) (by omega) b) (fun b => lo _ (by omega) (by omega) b), lt.cg (fun b => lo _ (by omega) (by omega) b) (fun b => lo _ (by omega) (by omega) b)⟩, by rw [lo 1 (by omega) (by omega)]; exact hN, hQ⟩
  · obtain ⟨d5, d6, d7, len, K, fr, us, ow, w, hK⟩ := pv
    obtain ⟨_, _, _, y5, y6, y7, _⟩ := id w.1
    exact ⟨d5, d6, d7, len, K, fr, us, ow, w.cg (w.1.e f.1) (Nat.le_refl _) w.2.2.2.2.2.2.2.2.2.1.2.2.2.1 (fun i a c b => lo _ (by omega) (by omega) b) (fun b _ => lo _ (by omega) (by omega) b) (fun b _ => lo _ (by omega) (by omega) b) (fun b _ => lo _ (by omega) (by omega) b), hK⟩
  · unfold Rm mN mU mLn mR at rm ⊢
    rw [f.1]; exact rm
/-- the class's broken nodes are the reference's -/
theorem HV.bk {M : Mem} {h X Y N : Nat} {t : Int32} {Q : Nat → Int32} {S : St} {pb pt : List Row4} (p : HV M h X Y t N Q S pb pt) (h16 : N ≤ 16) (h7 : ∀ v, v < 16 → xR S 7 v = 0 ∨ xR S 7 v = 1) (hz : ∀ v, N ≤ v → v < 16 → xR S 7 v = 0) : mI M h 9 = bkm N S := by
  apply b_ext
  intro i hi
  rw [bkm_b h16 h7 hi, p.2.2.1.2.2.2.1 i hi]
  apply decide_eq_decide.mpr
  constructor
  · rintro ⟨a, b⟩
    refine ⟨?_, b⟩
    apply Decidable.byContradiction
    intro c
    rw [hz i (by omega) a] at b
    exact absurd b (by decide)
  · rintro ⟨a, b⟩
    exact ⟨by omega, b⟩
theorem HV.renew {M : Mem} {h X Y N n : Nat} {t : Int32} {Q : Nat → Int32} {S : St} {pb pt : List Row4} (p : HV M h X Y t N Q S pb pt) (s : SB M N S) (h16 : N ≤ 16) (h0 : 0 < N) (ht : xR S 20 1 = 1 → N % 2 = 1) (ht2 : xR S 20 1 = 0 ∨ xR S 20 1 = 1) (h7 : ∀ v, v < 16 → xR S 7 v = 0 ∨ xR S 7 v = 1) (hz : ∀ v, N ≤ v → v < 16 → xR S 7 v = 0) (hn : 60 ≤ n) : ∃ M', f_X2_renewQuorums n h M = some M' ∧ HV M' h X Y t N (fun v => qm N S v) S pb pt ∧ Fr (P4Q h) M M' := by
  obtain ⟨M', e, f, g, _⟩ := rn_l p.1.2.2.2.2.2.1 h16 h0 ht ht2 (bkm N S) N 0 n M (by omega) p.1 s (p.bk h16 h7 hz) (by omega)
  exact ⟨M', by rw [f_X2_renewQuorums]; exact e, p.Q f (fun v hv => g v (by omega) hv), f⟩
/-! ===== a node breaks: the model, and the class ===== -/
def drp (x : Nat) (S : St) : St := (S.1, S.2.1, (fun l => if l < 256 ∧ (l / 16 = x ∨ l % 16 = x) then [] else S.2.2.1 l), S.2.2.2)
def fgt (t : Int32) (a x : Nat) (S : St) : St := if xR S 8 a = nI x then gF t a S else uW S a ((xW S a).filter fun w => !decide (w.1 = x))
def b0 (x : Nat) (S : St) : St := uW (nob x (drp x (uR S 7 x 1))) x []
def fgl (t : Int32) (x : Nat) (ws : List Nat) (S : St) : St := ws.foldl (fun S a => if a = x then S else fgt t a x S) S
def gdw (t : Int32) (N x w : Nat) (S : St) : St := if xR S 0 w = 2 then uR S 3 w (bof (xR S 3 w) x) else (if mayA N w (rst w (sA t N 5 w (bof (xR S 3 w) x &&& (bkm N S ^^^ (-1 : Int32))) (xR S 2 w) S)) then ak t N w (rst w (sA t N 5 w (bof (xR S 3 w) x &&& (bkm N S ^^^ (-1 : Int32))) (xR S 2 w) S)) else rst w (sA t N 5 w (bof (xR S 3 w) x &&& (bkm N S ^^^ (-1 : Int32))) (xR S 2 w) S))
def gdl (t : Int32) (N x : Nat) (ws : List Nat) (S : St) : St := ws.foldl (fun S w => if w = x then S else if bt (xR S 3 w) x then gdw t N x w S else S) S
def bd (t : Int32) (N x : Nat) (S : St) : St := gdl t N x (List.range N) (fgl t x (List.range N) (b0 x S))
theorem HV.st7 {M : Mem} {h X Y N : Nat} {t : Int32} {Q : Nat → Int32} {S : St} {pb pt : List Row4} (p : HV M h X Y t N Q S pb pt) {x : Nat} {y z : Int32} (hx : x < 16) (hb : ∀ u, u < 32 → bt y u = decide (u < 16 ∧ (if u = x then z else xR S 7 u) = 1)) : HV (sI M h 9 y) h X Y t N Q (uR S 7 x z) pb pt ∧ FrH M (sI M h 9 y) h := by
  have r7 : ∀ u, xR (uR S 7 x z) 7 u = if u = x then z else xR S 7 u := fun u => by
    rw [xR_uR]
    by_cases c : u = x
    · rw [if_pos ⟨rfl, c⟩, if_pos c]
    · rw [if_neg (fun q => c q.2), if_neg c]
  have rk : ∀ k i, k ≠ 7 → xR (uR S 7 x z) k i = xR S k i := fun k i n => by rw [xR_uR, if_neg (fun q => n q.1)]
  have lim : ∀ p, p ∈ ft → p.2 ≠ 7 := by decide
  have hp : HP (sI M h 9 y) h (uR S 7 x z) := by
    obtain ⟨h1, g7, g8, g9, g10, g11, g12, g13, g14, g15⟩ := p.2.2.1
    refine ⟨fun v hv => ?_, ?_, ?_, ?_, ?_, ?_, ?_, ?_, ?_, ?_⟩
    · obtain ⟨a1, a2, a3, a4, a5⟩ := h1 v hv
      refine ⟨fun q hq => ?_, ?_, fun e => ?_, fun u hu => ?_, fun w hw => ?_⟩
      · rw [mI_o _ _ _ _ _ (by omega), rk _ _ (lim q hq)]; exact a1 q hq
      · rw [mI_o _ _ _ _ _ (by omega)]; exact a2
      · rw [mI_o _ _ _ _ _ (by omega)]; exact a3 e
      · rw [mI_o _ _ _ _ _ (by omega)]; exact a4 u hu
      · rw [mI_o _ _ _ _ _ (by omega)]; exact a5 w hw
    · intro v hv; rw [mI_n _ _ _ _ (by decide), rk 0 v (by decide)]; exact g7 v hv
    · intro v hv; rw [mI_n _ _ _ _ (by decide), rk 0 v (by decide)]; exact g8 v hv
    · intro v hv; rw [mI_s, r7]; exact hb v hv
    · rw [mI_n _ _ _ _ (by decide)]; exact g10
    · rw [mI_n _ _ _ _ (by decide)]; exact g11
    · rw [mI_n _ _ _ _ (by decide)]; exact g12
    · rw [mI_n _ _ _ _ (by decide)]; exact g13
    · rw [mI_n _ _ _ _ (by decide)]; exact g14
    · rw [mI_n _ _ _ _ (by decide)]; exact g15
  exact ⟨p.at rfl (fun o n b => mI_o _ _ _ _ _ (by omega)) hp rfl (by funext i; exact rk 16 i (by decide)) rfl rfl, FrH.sI (by omega)⟩
theorem HV.grF {M : Mem} {h X Y N A n a : Nat} {t : Int32} {Q : Nat → Int32} {S : St} {pb pt : List Row4} (p : HV M h X Y t N Q (nob a S) pb pt) (h16 : N ≤ 16) (ha : a < 16) (hW : Wok N A (xW S a)) (hl : (fl S).length < 9000) (hn : 17 ≤ n) : ∃ M', f_X2_grantFirst n h (nI a) M = some M' ∧ HV M' h X Y t N Q (gF t a S) pb pt ∧ FrH M M' h := by
  cases hx : xW S a with
  | nil =>
    have fw := p.2.2.1.fw p.1 ha (N := N) (A := A) (n := n) (by show Wok N A (xW S a); exact hW) h16 hn
    have hh : xW (nob a S) a = [] := hx
    rw [hh] at fw
    have q1 := p.1
    refine ⟨M, ?_, ?_, FrH.rf _ _⟩
    · rw [f_X2_grantFirst, cs_f q1, cs_h2 q1, bnd_e, cs_a10 q1, cs_i10 q1 ha, cs_rpc q1 ha, bnd_e, cs_po q1 ha, fw, obd_s, if_pos (show hdW [] = (-1 : Int32) from rfl)]
    · unfold gF
      rw [hx]
      exact p
  | cons w r =>
    obtain ⟨M2, e2, p2, f2⟩ := p.grant (A := A) hl ha hW h16 hn (w := w) (r := r) hx
    rw [gF_nob] at p2
    exact ⟨M2, e2, p2, f2⟩
theorem flt_fst {l : List Wtr} {x u : Nat} : u ∈ (l.filter fun w => !decide (w.1 = x)).map Prod.fst ↔ u ∈ l.map Prod.fst ∧ u ≠ x := by
  constructor
  · intro h
    obtain ⟨w, hw, e⟩ := List.mem_map.mp h
    obtain ⟨h1, h2⟩ := List.mem_filter.mp hw
    refine ⟨by rw [← e]; exact List.mem_map_of_mem h1, fun z => ?_⟩
    rw [← e] at z
    simp [z] at h2
  · rintro ⟨h, n⟩
    obtain ⟨w, hw, e⟩ := List.mem_map.mp h
    rw [← e]
    refine List.mem_map_of_mem (List.mem_filter.mpr ⟨hw, ?_⟩)
    rw [e, decide_eq_false n]; rfl
/-- an arbiter of the class forgets x -/
theorem HV.tfgt {M : Mem} {h X Y N A n : Nat} {t : Int32} {Q : Nat → Int32} {S : St} {pb pt : List Row4} (p : HV M h X Y t N Q S pb pt) (h16 : N ≤ 16) {a x : Nat} (ha : a < 16) (hx : x < 16) (hW : Wok N A (xW S a)) (hg : xR S 8 a = nI x → x ∉ (xW S a).map Prod.fst) (hl : (fl S).length < 9000) (hn : 17 ≤ n) : ∃ M', f_X2_forget n h (nI x) (nI a) M = some M' ∧ HV M' h X Y t N Q (fgt t a x S) pb pt ∧ FrH M M' h := by
  have q := p.1
  obtain ⟨_, _, _, a4, a5⟩ := p.2.2.1.1 a ha
  obtain ⟨p1, f1⟩ := p.tW (M' := sI M (h + 17 + 2 * a) 9 (bof (mI M (h + 17 + 2 * a) 9) x)) (l := (xW S a).filter fun w => !decide (w.1 = x)) ha rfl (fun _ _ => rfl) (fun o n1 _ b => by rw [mI_o _ _ _ _ _ n1]) (fun b n => by rw [mI_n _ _ _ _ n]) (fun u hu => by
    rw [mI_s, bt_off _ (by omega) hu, a4 u hu]
    by_cases c1 : u ∈ (xW S a).map Prod.fst
    · by_cases c2 : u = x
      · rw [decide_eq_true c1, decide_eq_true c2, decide_eq_false (fun z => (flt_fst.mp z).2 c2)]; rfl
      · rw [decide_eq_true c1, decide_eq_false c2, decide_eq_true (flt_fst.mpr ⟨c1, c2⟩)]; rfl
    · rw [decide_eq_false c1, decide_eq_false (fun z => c1 (flt_fst.mp z).1)]; rfl) (fun w hw => by
    rw [mI_o _ _ _ _ _ (by omega)]
    exact a5 w (List.mem_filter.mp hw).1)
  have e6 : mI (sI M (h + 17 + 2 * a) 9 (bof (mI M (h + 17 + 2 * a) 9) x)) (h + 17 + 2 * a) 6 = xR S 8 a := by
    rw [mI_n _ _ _ _ (by decide)]; exact p.fs ha (a := 6) (k := 8) (by decide)
  unfold fgt
  by_cases c : xR S 8 a = nI x
  · rw [if_pos c]
    have nf : (xW S a).filter (fun w => !decide (w.1 = x)) = xW S a := by
      apply List.filter_eq_self.mpr
      intro w hw
      have : w.1 ≠ x := fun z => hg c (by rw [← z]; exact List.mem_map_of_mem hw)
      rw [decide_eq_false this]; rfl
    rw [nf, uW_id] at p1
    obtain ⟨M2, e2, p2, f2⟩ := p1.forget ha
    obtain ⟨M3, e3, p3, f3⟩ := p2.grF (A := A) (n := n) h16 ha hW hl hn
    refine ⟨M3, ?_, p3, f1.tr (f2.tr f3)⟩
    rw [f_X2_forget, cs_f q, cs_h2 q, bnd_e, cs_a10 q, cs_i10 q ha, cs_rpc q ha, bnd_e, cs_po q ha, bnd_e]
    show (if mI (sI M (h + 17 + 2 * a) 9 (bof (mI M (h + 17 + 2 * a) 9) x)) (h + 17 + 2 * a) 6 = nI x then _ else _) = _
    rw [e6, if_pos c]
    show obd (f_X4_forgetGranted (h + 17 + 2 * a) (sI M (h + 17 + 2 * a) 9 (bof (mI M (h + 17 + 2 * a) 9) x))) _ = _
    rw [e2, obd_s, cs_f p2.1, e3, obd_s]
  · rw [if_neg c]
    refine ⟨_, ?_, p1, f1⟩
    rw [f_X2_forget, cs_f q, cs_h2 q, bnd_e, cs_a10 q, cs_i10 q ha, cs_rpc q ha, bnd_e, cs_po q ha, bnd_e]
    show (if mI (sI M (h + 17 + 2 * a) 9 (bof (mI M (h + 17 + 2 * a) 9) x)) (h + 17 + 2 * a) 6 = nI x then _ else _) = _
    rw [e6, if_neg c]
    rfl
/-- one goes on without x -/
theorem HV.tgdw {M : Mem} {h X Y N n : Nat} {t : Int32} {Q : Nat → Int32} {S : St} {pb pt : List Row4} (p : HV M h X Y t N Q S pb pt) (h16 : N ≤ 16) {x w : Nat} (hw : w < N) (hx : x < N) (hI : IA N S) (hz : ∀ v, N ≤ v → v < 16 → xR S 7 v = 0) (h7 : xR S 7 x = 1) (hQ : ∀ v, v < N → qm N S v = Q v) (hl : (fl S).length + 2 * N ≤ 9000) (hn : 17 ≤ n) : ∃ M', f_X2_doWithout n h (nI x) (nI w) M = some M' ∧ HV M' h X Y t N Q (gdw t N x w S) pb pt ∧ FrH M M' h := by
  have q := p.1
  have w6 : w < 16 := by omega
  have b7 := p.bk h16 (fun v hv => (hI v hv).2.2.1) hz
  have e7 : bt (mI M h 7) w = decide (xR S 0 w = 2) := by
    rw [p.2.2.1.2.1 w (by omega)]
    apply decide_eq_decide.mpr
    exact ⟨fun z => z.2, fun z => ⟨w6, z⟩⟩
  have u3 : mI M (h + 17 + 2 * w) 2 = xR S 3 w := p.fs w6 (a := 2) (k := 3) (by decide)
  rw [f_X2_doWithout, cs_f q, f_has9 _ (by omega), obd_s, e7]
  unfold gdw
  by_cases c : xR S 0 w = 2
  · rw [decide_eq_true c, if_pos rfl, if_neg ne10, if_pos c, cs_h2 q, bnd_e, cs_a10 q, cs_i10 q w6, cs_rpc q w6, bnd_e, cs_po q w6, bnd_e]
    obtain ⟨p1, f1⟩ := p.fld (x := bof (xR S 3 w) x) w6 (a := 2) (k := 3) (by decide) (by decide)
    refine ⟨_, ?_, p1, f1⟩
    rw [← u3]; rfl
  · rw [decide_eq_false c, if_neg (show ¬ false = true by decide), if_pos rfl, if_neg c, cs_h2 q, bnd_e, cs_a10 q, cs_i10 q w6, cs_rpc q w6, bnd_e, cs_po q w6, u3, b7]
    have es : xR S 3 w &&& (bkm N S ^^^ (-1 : Int32)) = bof (xR S 3 w) x &&& (bkm N S ^^^ (-1 : Int32)) := by
      apply b_ext
      intro i hi
      rw [bt_minus _ _ hi, bt_minus _ _ hi, bt_off _ (by omega) hi]
      by_cases d : i = x
      · rw [bkm_b h16 (fun v hv => (hI v hv).2.2.1) hi, decide_eq_true (show i < N ∧ xR S 7 i = 1 by rw [d]; exact ⟨hx, h7⟩)]; simp
      · rw [decide_eq_false d]; simp
    rw [es]
    obtain ⟨M1, e1, p1, f1⟩ := p.tsA (n := n) h16 (k := 5) (f := w) (by decide) w6 (bof (xR S 3 w) x &&& (bkm N S ^^^ (-1 : Int32))) (by omega) hn
    obtain ⟨M2, e2, p2, f2⟩ := p1.idle w6
    have len1 : (fl (sA t N 5 w (bof (xR S 3 w) x &&& (bkm N S ^^^ (-1 : Int32))) (xR S 2 w) S)).length ≤ (fl S).length + N := by
      have := sAl_len t (k := 5) w6 (bof (xR S 3 w) x &&& (bkm N S ^^^ (-1 : Int32))) (xR S 2 w) (List.range N) S (fun v hv => by have := List.mem_range.mp hv; omega)
      rw [List.length_range] at this
      exact this
    generalize hS1 : sA t N 5 w (bof (xR S 3 w) x &&& (bkm N S ^^^ (-1 : Int32))) (xR S 2 w) S = S1 at p1 p2 len1
    have rR : ∀ k i, k ≠ 16 → xR S1 k i = xR S k i := fun k i hk => by rw [← hS1, sA_R hk]
    have kq : Qk S (rst w S1) := fun k hk i => by rw [rst_R, if_neg (by omega), rR k i (by omega)]
    have ia : IA N (rst w S1) := by
      intro v hv
      obtain ⟨x1, x2, x3, x4⟩ := hI v hv
      rw [rst_R, rst_R, rst_R, if_neg (show ¬ (v = w ∧ (7 = 0 ∨ 3 ≤ 7 ∧ 7 ≤ 6)) by omega), if_neg (show ¬ (v = w ∧ (10 = 0 ∨ 3 ≤ 10 ∧ 10 ≤ 6)) by omega), rR _ _ (by decide), rR _ _ (by decide), rR _ _ (by decide)]
      refine ⟨?_, ?_, x3, x4⟩
      · split
        · exact Or.inl rfl
        · exact x1
      · intro z
        split
        · rfl
        · exact x2 z
    have may := p2.may ia h16 hw (by rw [kq.m]; exact hQ w hw)
    rw [show (5 : Int32) = nI 5 from rfl, e1, obd_s, cs_f p1.1, e2, obd_s, cs_f p2.1, may, obd_s]
    by_cases d : mayA N w (rst w S1) = true
    · rw [if_pos d, if_neg ne10, if_pos d]
      obtain ⟨M3, e3, p3, f3⟩ := p2.tak (n := n) h16 hw (by rw [rst_R, if_pos ⟨rfl, Or.inl rfl⟩]; decide) (by rw [kq.m]; exact hQ w hw) (by show (fl S1).length + N ≤ 9000; omega) hn
      exact ⟨M3, by rw [e3, obd_s], p3, f1.tr (f2.tr f3)⟩
    · rw [if_neg d, if_pos rfl, if_neg d]
      exact ⟨M2, rfl, p2, f1.tr f2⟩
/-! ===== the class breaks a node ===== -/
def dl1 (l : Nat) (S : St) : St := if xL S l = [] then S else uL S l []
theorem dl1_R (l : Nat) (S : St) : xR (dl1 l S) = xR S ∧ xW (dl1 l S) = xW S ∧ xE (dl1 l S) = xE S ∧ xT (dl1 l S) = xT S := by
  unfold dl1
  split <;> exact ⟨rfl, rfl, rfl, rfl⟩
theorem dl1_L (m : Nat) (S : St) (l : Nat) : xL (dl1 m S) l = if l = m then [] else xL S l := by
  unfold dl1
  by_cases c : xL S m = []
  · rw [if_pos c]
    by_cases d : l = m
    · rw [if_pos d, d, c]
    · rw [if_neg d]
  · rw [if_neg c, xL_uL]
theorem HV.drop {M : Mem} {h X Y N n : Nat} {t : Int32} {Q : Nat → Int32} {S : St} {pb pt : List Row4} (p : HV M h X Y t N Q S pb pt) {f g : Nat} (hf : f < 16) (hg : g < 16) (hl : (xL S (16 * f + g)).length < 9001) (hn : 9002 ≤ n) : ∃ M', f_X5_drop n (h + 1) (nI f) (nI g) M = some M' ∧ HV M' h X Y t N Q (dl1 (16 * f + g) S) pb pt ∧ FrH M M' h := by
  obtain ⟨M', e, q', p', r', f'⟩ := PV.drop p.1 p.2.1 p.2.2.2.1 hf hg hl hn
  obtain ⟨d1, d2, d3, d4⟩ := dl1_R (16 * f + g) S
  exact ⟨M', e, p.frP f' q' p' r' (fun k i _ => by rw [d1]) d2 d3 d4, f'.toH⟩
def drl (x : Nat) (ws : List Nat) (S : St) : St := ws.foldl (fun S v => dl1 (16 * v + x) (dl1 (16 * x + v) S)) S
theorem drl_R (x : Nat) : ∀ (ws : List Nat) (S : St), xR (drl x ws S) = xR S ∧ xW (drl x ws S) = xW S ∧ xE (drl x ws S) = xE S ∧ xT (drl x ws S) = xT S := by
  intro ws
  induction ws with
  | nil => intro S; exact ⟨rfl, rfl, rfl, rfl⟩
  | cons v ws ih =>
    intro S
    have := ih (dl1 (16 * v + x) (dl1 (16 * x + v) S))
    obtain ⟨a1, a2, a3, a4⟩ := dl1_R (16 * v + x) (dl1 (16 * x + v) S)
    obtain ⟨b1, b2, b3, b4⟩ := dl1_R (16 * x + v) S
    rw [a1, a2, a3, a4, b1, b2, b3, b4] at this
    exact this
theorem drl_L {x : Nat} (hx : x < 16) : ∀ (d i : Nat) (S : St) (l : Nat), i + d ≤ 16 → xL (drl x (List.range' i d) S) l = if (l % 16 = x ∧ i ≤ l / 16 ∧ l / 16 < i + d) ∨ (l / 16 = x ∧ i ≤ l % 16 ∧ l % 16 < i + d) then [] else xL S l := by
  intro d
  induction d with
  | zero =>
    intro i S l hi
    rw [if_neg (by omega)]; rfl
  | succ d ih =>
    intro i S l hi
    unfold drl
    rw [List.range'_succ, List.foldl_cons]
    have := ih (i + 1) (dl1 (16 * i + x) (dl1 (16 * x + i) S)) l (by omega)
    unfold drl at this
    rw [this, dl1_L, dl1_L]
    by_cases c : (l % 16 = x ∧ i + 1 ≤ l / 16 ∧ l / 16 < i + 1 + d) ∨ (l / 16 = x ∧ i + 1 ≤ l % 16 ∧ l % 16 < i + 1 + d)
    · rw [if_pos c, if_pos (by rcases c with c | c; exact Or.inl ⟨c.1, by omega, by omega⟩; exact Or.inr ⟨c.1, by omega, by omega⟩)]
    · rw [if_neg c]
      by_cases c1 : l = 16 * i + x
      · rw [if_pos c1, if_pos (Or.inl ⟨by omega, by omega, by omega⟩)]
      · rw [if_neg c1]
        by_cases c2 : l = 16 * x + i
        · rw [if_pos c2, if_pos (Or.inr ⟨by omega, by omega, by omega⟩)]
        · rw [if_neg c2, if_neg]
          rintro (⟨z1, z2, z3⟩ | ⟨z1, z2, z3⟩)
          · exact c (Or.inl ⟨z1, by omega, by omega⟩)
          · exact c (Or.inr ⟨z1, by omega, by omega⟩)
theorem drl_e {x N : Nat} {S : St} (hx : x < N) (h16 : N ≤ 16) (hE : ∀ l, l < 256 → ¬ (l / 16 < N ∧ l % 16 < N) → xL S l = []) : drl x (List.range' 0 N) S = drp x S := by
  obtain ⟨a1, a2, a3, a4⟩ := drl_R x (List.range' 0 N) S
  refine St.ext (fun k i => by rw [a1]; rfl) (by rw [a2]; rfl) ?_ (by rw [a3]; rfl) (by rw [a4]; rfl)
  funext l
  rw [drl_L (by omega) N 0 S l (by omega)]
  show _ = if l < 256 ∧ (l / 16 = x ∨ l % 16 = x) then [] else xL S l
  by_cases c : (l % 16 = x ∧ 0 ≤ l / 16 ∧ l / 16 < 0 + N) ∨ (l / 16 = x ∧ 0 ≤ l % 16 ∧ l % 16 < 0 + N)
  · rw [if_pos c, if_pos (by omega)]
  · rw [if_neg c]
    by_cases d : l < 256 ∧ (l / 16 = x ∨ l % 16 = x)
    · rw [if_pos d]
      exact hE l d.1 (by omega)
    · rw [if_neg d]
theorem fl_le_L {S S' : St} (h : ∀ l, l < 256 → xL S' l = [] ∨ xL S' l = xL S l) : (fl S').length ≤ (fl S).length := by
  refine fl_mono (fun l hl => ?_)
  rcases h l hl with z | z <;> rw [z]
  · exact Nat.zero_le _
  · exact Nat.le_refl _
theorem bk27 {h X Y N : Nat} {t : Int32} {Q : Nat → Int32} {pb pt : List Row4} (h16 : N ≤ 16) {x : Nat} (hx : x < N) : ∀ (d i n : Nat) (M : Mem) (S : St), HV M h X Y t N Q S pb pt → i + d = N → (fl S).length ≤ 9000 → d + 9003 ≤ n → ∃ M' n', f_X2_breakNode_27 n h (nI x) (nI i) M = f_X2_breakNode_64 n' h (nI x) (0 : Int32) M' ∧ n ≤ n' + d + 1 ∧ HV M' h X Y t N Q (drl x (List.range' i d) S) pb pt ∧ FrH M M' h := by
  intro d
  induction d with
  | zero =>
    intro i n M S p hi hl hn
    obtain ⟨n, rfl⟩ : ∃ m, n = m + 1 := ⟨n - 1, by omega⟩
    refine ⟨M, n, ?_, by omega, p, FrH.rf _ _⟩
    rw [f_X2_breakNode_27, cs_f p.1, cs_h0 p.1, bnd_e, cs_s p.1, p.2.2.2.2.2.1, if_pos (nI_le (by omega) (by omega))]
  | succ d ih =>
    intro i n M S p hi hl hn
    obtain ⟨n, rfl⟩ : ∃ m, n = m + 1 := ⟨n - 1, by omega⟩
    have l1 := ln_l (S := S) (l := 16 * x + i) (by omega) hl
    obtain ⟨M1, e1, p1, f1⟩ := p.drop (n := n) (f := x) (g := i) (by omega) (by omega) (by omega) (by omega)
    have s1 : (fl (dl1 (16 * x + i) S)).length ≤ (fl S).length := fl_le_L (fun l _ => by
      rw [dl1_L]; split
      · exact Or.inl rfl
      · exact Or.inr rfl)
    have l2 := ln_l (S := dl1 (16 * x + i) S) (l := 16 * i + x) (by omega) (by omega)
    obtain ⟨M2, e2, p2, f2⟩ := p1.drop (n := n) (f := i) (g := x) (by omega) (by omega) (by omega) (by omega)
    have s2 : (fl (dl1 (16 * i + x) (dl1 (16 * x + i) S))).length ≤ (fl (dl1 (16 * x + i) S)).length := fl_le_L (fun l _ => by
      rw [dl1_L]; split
      · exact Or.inl rfl
      · exact Or.inr rfl)
    obtain ⟨M', n', e', hn', p', f'⟩ := ih (i + 1) n M2 _ p2 (by omega) (by omega) (by omega)
    refine ⟨M', n', ?_, by omega, ?_, f1.tr (f2.tr f')⟩
    · rw [f_X2_breakNode_27, cs_f p.1, cs_h0 p.1, bnd_e, cs_s p.1, p.2.2.2.2.2.1, if_neg (nI_ge (by omega) (by omega)), cs_h1 p.1, bnd_e, cs_p p.1, e1, obd_s, cs_f p1.1, cs_h1 p1.1, bnd_e, cs_p p1.1, e2, obd_s, bnd_e, nI_1, e']
    · unfold drl
      rw [List.range'_succ, List.foldl_cons]
      exact p'
theorem fgt_R {t : Int32} {a x : Nat} {S : St} {k i : Nat} (h : i ≠ a ∨ k < 8 ∨ 10 < k) (hk : k ≠ 16) : xR (fgt t a x S) k i = xR S k i := by
  unfold fgt
  split
  · exact gF_R h hk
  · rfl
theorem fgt_Wo {t : Int32} {a x b : Nat} {S : St} (h : b ≠ a) : xW (fgt t a x S) b = xW S b := by
  unfold fgt
  split
  · exact gF_Wo h
  · rw [xW_uW, if_neg h]
theorem fgt_len {t : Int32} {a x : Nat} {S : St} (ha : a < 16) (hW : ∀ w, w ∈ xW S a → w.1 < 16) : (fl (fgt t a x S)).length ≤ (fl S).length + 1 := by
  unfold fgt
  split
  · exact gF_len ha hW
  · exact Nat.le_succ _
theorem fgt_id {t : Int32} {x : Nat} {S : St} (h8 : xR S 8 x = -1) (hx : x < 16) (hW : xW S x = []) : fgt t x x S = S := by
  unfold fgt
  rw [h8, if_neg (m1_ne hx), hW]
  show uW S x [] = S
  rw [← hW]; exact uW_id S x
/-- what the forgetting rests on, from i on -/
def Fg (N A x i : Nat) (S : St) : Prop := ∀ a, i ≤ a → a < N → Wok N A (xW S a) ∧ (xR S 8 a = nI x → x ∉ (xW S a).map Prod.fst) ∧ (a = x → xR S 8 a = -1 ∧ xW S a = [])
theorem Fg.s {t : Int32} {N A x i : Nat} {S : St} (h : Fg N A x i S) : Fg N A x (i + 1) (fgt t i x S) := fun a h1 h2 => by
  rw [fgt_Wo (by omega), fgt_R (by omega) (by decide)]
  exact h a (by omega) h2
theorem bk64 {h X Y N A : Nat} {t : Int32} {Q : Nat → Int32} {pb pt : List Row4} (h16 : N ≤ 16) {x : Nat} (hx : x < N) : ∀ (d i n : Nat) (M : Mem) (S : St), HV M h X Y t N Q S pb pt → i + d = N → Fg N A x i S → (fl S).length + d < 9000 → d + 20 ≤ n → ∃ M' n', f_X2_breakNode_64 n h (nI x) (nI i) M = f_X2_breakNode_89 n' h (nI x) (0 : Int32) M' ∧ n ≤ n' + d + 1 ∧ HV M' h X Y t N Q (fgl t x (List.range' i d) S) pb pt ∧ FrH M M' h := by
  intro d
  induction d with
  | zero =>
    intro i n M S p hi hF hl hn
    obtain ⟨n, rfl⟩ : ∃ m, n = m + 1 := ⟨n - 1, by omega⟩
    refine ⟨M, n, ?_, by omega, p, FrH.rf _ _⟩
    rw [f_X2_breakNode_64, cs_f p.1, cs_h0 p.1, bnd_e, cs_s p.1, p.2.2.2.2.2.1, if_pos (nI_le (by omega) (by omega))]
  | succ d ih =>
    intro i n M S p hi hF hl hn
    obtain ⟨n, rfl⟩ : ∃ m, n = m + 1 := ⟨n - 1, by omega⟩
    obtain ⟨g1, g2, g3⟩ := hF i (Nat.le_refl _) (by omega)
    obtain ⟨M1, e1, p1, f1⟩ := p.tfgt (A := A) (n := n) h16 (a := i) (x := x) (by omega) (by omega) g1 g2 (by omega) (by omega)
    have l1 := fgt_len (t := t) (a := i) (x := x) (S := S) (by omega) (fun w hw => by have := (g1.2.2 w hw).1; omega)
    obtain ⟨M', n', e', hn', p', f'⟩ := ih (i + 1) n M1 _ p1 (by omega) hF.s (by omega) (by omega)
    refine ⟨M', n', ?_, by omega, ?_, f1.tr f'⟩
    · rw [f_X2_breakNode_64, cs_f p.1, cs_h0 p.1, bnd_e, cs_s p.1, p.2.2.2.2.2.1, if_neg (nI_ge (by omega) (by omega)), e1, obd_s, bnd_e, nI_1, e']
    · unfold fgl at p' ⊢
      rw [List.range'_succ, List.foldl_cons]
      by_cases c : i = x
      · rw [if_pos c]
        subst c
        rw [fgt_id (g3 rfl).1 (by omega) (g3 rfl).2] at p'
        exact p'
      · rw [if_neg c]; exact p'
/-! ===== the class breaks a node: who goes on without it ===== -/
theorem gdw_3 (t : Int32) (N x w : Nat) (S : St) : (xR S 0 w = 2 ∧ gdw t N x w S = uR S 3 w (bof (xR S 3 w) x)) ∨ (¬ xR S 0 w = 2 ∧ ∃ S1, S1 = rst w (sA t N 5 w (bof (xR S 3 w) x &&& (bkm N S ^^^ (-1 : Int32))) (xR S 2 w) S) ∧ ((mayA N w S1 = true ∧ gdw t N x w S = ak t N w S1) ∨ (¬ mayA N w S1 = true ∧ gdw t N x w S = S1))) := by
  unfold gdw
  by_cases c : xR S 0 w = 2
  · exact Or.inl ⟨c, if_pos c⟩
  · refine Or.inr ⟨c, _, rfl, ?_⟩
    rw [if_neg c]
    by_cases d : mayA N w (rst w (sA t N 5 w (bof (xR S 3 w) x &&& (bkm N S ^^^ (-1 : Int32))) (xR S 2 w) S)) = true
    · exact Or.inl ⟨d, if_pos d⟩
    · exact Or.inr ⟨d, if_neg d⟩
theorem gdw_Ro {t : Int32} {N x w : Nat} {S : St} {k i : Nat} (hk : k ≠ 16) (hi : i ≠ w) : xR (gdw t N x w S) k i = xR S k i := by
  rcases gdw_3 t N x w S with ⟨_, e⟩ | ⟨_, S1, e1, ⟨_, e⟩ | ⟨_, e⟩⟩
  · rw [e, xR_uR, if_neg (by omega)]
  · rw [e, ak_Ro hk hi, e1, rst_R, if_neg (by omega), sA_R hk]
  · rw [e, e1, rst_R, if_neg (by omega), sA_R hk]
theorem gdw_Rk {t : Int32} {N x w : Nat} {S : St} {k i : Nat} (hk : 7 ≤ k ∧ k ≠ 13 ∧ k ≠ 14 ∧ k ≠ 16) : xR (gdw t N x w S) k i = xR S k i := by
  rcases gdw_3 t N x w S with ⟨_, e⟩ | ⟨_, S1, e1, ⟨_, e⟩ | ⟨_, e⟩⟩
  · rw [e, xR_uR, if_neg (by omega)]
  · rw [e, ak_Rk hk, e1, rst_R, if_neg (by omega), sA_R (by omega)]
  · rw [e, e1, rst_R, if_neg (by omega), sA_R (by omega)]
theorem gdw_W {t : Int32} {N x w : Nat} {S : St} : xW (gdw t N x w S) = xW S := by
  rcases gdw_3 t N x w S with ⟨_, e⟩ | ⟨_, S1, e1, ⟨_, e⟩ | ⟨_, e⟩⟩
  · rw [e]; rfl
  · rw [e, ak_W, e1]
    show xW (sA _ _ _ _ _ _ _) = _
    rw [sA_W]
  · rw [e, e1]
    show xW (sA _ _ _ _ _ _ _) = _
    rw [sA_W]
theorem gdw_Q (t : Int32) (N x w : Nat) (S : St) : Qk S (gdw t N x w S) := fun k hk i => gdw_Rk (by omega)
theorem gdw_IA {t : Int32} {N x w : Nat} {S : St} (h : IA N S) (hw : w < N) : IA N (gdw t N x w S) := by
  intro v hv
  obtain ⟨x1, x2, x3, x4⟩ := h v hv
  rw [gdw_Rk (k := 7) (by omega), gdw_Rk (k := 10) (by omega)]
  by_cases c : v = w
  · subst c
    rcases gdw_3 t N x v S with ⟨z, e⟩ | ⟨_, S1, e1, ⟨_, e⟩ | ⟨_, e⟩⟩
    · rw [e, xR_uR, if_neg (by omega)]; exact ⟨x1, x2, x3, x4⟩
    · have : xR (ak t N v S1) 0 v = 1 := by rw [ak_R (by decide), if_pos rfl]; rfl
      rw [e, this]; exact ⟨Or.inr (Or.inl rfl), fun z => by omega, x3, x4⟩
    · have : xR S1 0 v = 0 := by rw [e1, rst_R, if_pos ⟨rfl, Or.inl rfl⟩]
      rw [e, this]; exact ⟨Or.inl rfl, fun _ => rfl, x3, x4⟩
  · rw [gdw_Ro (by decide) c]; exact ⟨x1, x2, x3, x4⟩
theorem gdw_len {t : Int32} {N x w : Nat} {S : St} (h16 : N ≤ 16) (hw : w < N) : (fl (gdw t N x w S)).length ≤ (fl S).length + 2 * N := by
  have len1 : (fl (sA t N 5 w (bof (xR S 3 w) x &&& (bkm N S ^^^ (-1 : Int32))) (xR S 2 w) S)).length ≤ (fl S).length + N := by
    have := sAl_len t (k := 5) (show w < 16 by omega) (bof (xR S 3 w) x &&& (bkm N S ^^^ (-1 : Int32))) (xR S 2 w) (List.range N) S (fun v hv => by have := List.mem_range.mp hv; omega)
    rw [List.length_range] at this
    exact this
  rcases gdw_3 t N x w S with ⟨_, e⟩ | ⟨_, S1, e1, ⟨_, e⟩ | ⟨_, e⟩⟩
  · rw [e]; show (fl S).length ≤ _; omega
  · have := ak_len (N := N) (v := w) (S := S1) h16 (by omega) t
    have l1 : (fl S1).length ≤ (fl S).length + N := by rw [e1]; exact len1
    rw [e]; omega
  · have l1 : (fl S1).length ≤ (fl S).length + N := by rw [e1]; exact len1
    rw [e]; omega
theorem bk89 {h X Y N : Nat} {t : Int32} {Q : Nat → Int32} {pb pt : List Row4} (h16 : N ≤ 16) {x : Nat} (hx : x < N) : ∀ (d i n : Nat) (M : Mem) (S : St), HV M h X Y t N Q S pb pt → i + d = N → IA N S → (∀ v, N ≤ v → v < 16 → xR S 7 v = 0) → xR S 7 x = 1 → (∀ v, v < N → qm N S v = Q v) → (xR S 3 x = 0) → (fl S).length + 2 * N * d ≤ 9000 → d + 20 ≤ n → ∃ M', f_X2_breakNode_89 n h (nI x) (nI i) M = some M' ∧ HV M' h X Y t N Q (gdl t N x (List.range' i d) S) pb pt ∧ FrH M M' h := by
  intro d
  induction d with
  | zero =>
    intro i n M S p hi hI hz h7 hQ h3 hl hn
    obtain ⟨n, rfl⟩ : ∃ m, n = m + 1 := ⟨n - 1, by omega⟩
    refine ⟨M, ?_, p, FrH.rf _ _⟩
    rw [f_X2_breakNode_89, cs_f p.1, cs_h0 p.1, bnd_e, cs_s p.1, p.2.2.2.2.2.1, if_pos (nI_le (by omega) (by omega))]
  | succ d ih =>
    intro i n M S p hi hI hz h7 hQ h3 hl hn
    obtain ⟨n, rfl⟩ : ∃ m, n = m + 1 := ⟨n - 1, by omega⟩
    have i6 : i < 16 := by omega
    rw [Nat.mul_succ] at hl
    have u3 : mI M (h + 17 + 2 * i) 2 = xR S 3 i := p.fs i6 (a := 2) (k := 3) (by decide)
    have e0 : ∀ y, (if (if bt (xR S 3 i) x = true then (1 : Int32) else 0) = 0 then f_X2_breakNode_89 n h (nI x) (nI (i + 1)) M else obd (f_X2_doWithout n h (nI x) (nI i) M) fun M21 => f_X2_breakNode_89 n h (nI x) (nI (i + 1)) M21) = y → f_X2_breakNode_89 (n + 1) h (nI x) (nI i) M = y := by
      intro y hy
      rw [f_X2_breakNode_89, cs_f p.1, cs_h0 p.1, bnd_e, cs_s p.1, p.2.2.2.2.2.1, if_neg (nI_ge (by omega) (by omega)), cs_h2 p.1, bnd_e, cs_a10 p.1, cs_i10 p.1 i6, cs_rpc p.1 i6, bnd_e, cs_po p.1 i6, u3, f_has9 _ (by omega), obd_s, bnd_e, nI_1]
      exact hy
    unfold gdl
    rw [List.range'_succ, List.foldl_cons]
    by_cases c : i = x
    · rw [if_pos c]
      obtain ⟨M', e', p', f'⟩ := ih (i + 1) n M S p (by omega) hI hz h7 hQ h3 (by omega) (by omega)
      unfold gdl at p'
      refine ⟨M', e0 _ ?_, p', f'⟩
      rw [show bt (xR S 3 i) x = false by rw [c, h3, b_0], if_neg (show ¬ false = true by decide), if_pos rfl]
      exact e'
    · rw [if_neg c]
      by_cases b : bt (xR S 3 i) x = true
      · rw [if_pos b]
        obtain ⟨M1, e1, p1, f1⟩ := p.tgdw (n := n) h16 (x := x) (w := i) (by omega) hx hI hz h7 hQ (by omega) (by omega)
        have l1 := gdw_len (t := t) (N := N) (x := x) (w := i) (S := S) h16 (by omega)
        obtain ⟨M', e', p', f'⟩ := ih (i + 1) n M1 _ p1 (by omega) (gdw_IA hI (by omega)) (fun v a b => by rw [gdw_Rk (by omega)]; exact hz v a b) (by rw [gdw_Rk (by omega)]; exact h7) (fun v hv => by rw [(gdw_Q t N x i S).m]; exact hQ v hv) (by rw [gdw_Ro (by decide) (fun z => c z.symm)]; exact h3) (by omega) (by omega)
        unfold gdl at p'
        refine ⟨M', e0 _ ?_, p', f1.tr f'⟩
        rw [if_pos b, if_neg ne10, e1, obd_s]
        exact e'
      · rw [if_neg b]
        obtain ⟨M', e', p', f'⟩ := ih (i + 1) n M S p (by omega) hI hz h7 hQ h3 (by omega) (by omega)
        unfold gdl at p'
        refine ⟨M', e0 _ ?_, p', f'⟩
        rw [if_neg b, if_pos rfl]
        exact e'
/-- a frame: a hall, the row of wholes -/
def FrW4 (M M' : Mem) (h : Nat) : Prop := mN M ≤ mN M' ∧ (∀ i, i < mN M → M'.1.2.1 i = M.1.2.1 i) ∧ (∀ a b, a < mN M → ¬ (a = h + 1 ∧ 5 ≤ b ∧ b ≤ 7) → mR M' a b = mR M a b) ∧ (∀ o, o < mN M → o ≠ 4 → ¬ (h ≤ o ∧ o < h + 49) → o ≠ mR M (h + 1) 5 → o ≠ mR M (h + 1) 6 → o ≠ mR M (h + 1) 7 → ∀ b, mI M' o b = mI M o b) ∧ (∀ o, o < mN M → o ≠ h → ∀ b, mL M' o b = mL M o b) ∧ (∀ j, 5 ≤ j → j ≤ 7 → mR M' (h + 1) j = mR M (h + 1) j ∨ mN M ≤ mR M' (h + 1) j)
theorem FrH.w4 {M M' : Mem} {h : Nat} (f : FrH M M' h) : FrW4 M M' h := ⟨f.1, f.2.1, f.2.2.1, fun o a _ b c d e => f.2.2.2.1 o a b c d e, fun o a _ b => f.2.2.2.2.1 o a b, f.2.2.2.2.2⟩
theorem Fr.w4 {M M' : Mem} {h : Nat} (f : Fr (P4Q h) M M') : FrW4 M M' h :=
  ⟨by unfold mN; rw [f.1]; exact Nat.le_refl _, fun i _ => by rw [f.1], fun a b _ _ => by unfold mR; rw [f.1], fun o _ n4 n _ _ _ b => f.2.1 o (by unfold P4Q; omega) b, fun o _ _ b => f.2.2 o b, fun j _ _ => Or.inl (by unfold mR; rw [f.1])⟩
theorem FrW4.tr {M M' M'' : Mem} {h : Nat} (p : FrW4 M M' h) (p' : FrW4 M' M'' h) : FrW4 M M'' h := by
  obtain ⟨a1, a2, a3, a4, a5, a6⟩ := p
  obtain ⟨b1, b2, b3, b4, b5, b6⟩ := p'
  refine ⟨Nat.le_trans a1 b1, fun i hi => (b2 i (by omega)).trans (a2 i hi), fun a b ha hn => (b3 a b (by omega) hn).trans (a3 a b ha hn), fun o ho h4 h1 h5 h6 h7 b => ?_, fun o ho n b => (b5 o (by omega) n b).trans (a5 o ho n b), fun j h5 h7 => ?_⟩
  · have n5 : o ≠ mR M' (h + 1) 5 := by rcases a6 5 (by decide) (by decide) with e | e <;> omega
    have n6 : o ≠ mR M' (h + 1) 6 := by rcases a6 6 (by decide) (by decide) with e | e <;> omega
    have n7 : o ≠ mR M' (h + 1) 7 := by rcases a6 7 (by decide) (by decide) with e | e <;> omega
    exact (b4 o (by omega) h4 h1 n5 n6 n7 b).trans (a4 o ho h4 h1 h5 h6 h7 b)
  · rcases b6 j h5 h7 with e | e
    · rcases a6 j h5 h7 with e2 | e2
      · exact Or.inl (e.trans e2)
      · exact Or.inr (by omega)
    · exact Or.inr (by omega)
theorem FrD.w4 {M M' : Mem} {h : Nat} (f : FrD M M' h) : FrW4 M M' h := by
  obtain ⟨x, f⟩ := f
  exact ⟨f.1, f.2.1, f.2.2.1, fun o a _ b c d e => f.2.2.2.1 o a b c d e, fun o a n b => (f.2.2.2.2.1 o a b).trans (by rw [mL_sL, if_neg (fun z => n z.1)]), f.2.2.2.2.2⟩
theorem fgl_R {t : Int32} {x : Nat} {k i : Nat} (hk : k < 8 ∨ (10 < k ∧ k ≠ 16)) : ∀ (ws : List Nat) (S : St), xR (fgl t x ws S) k i = xR S k i := by
  intro ws
  induction ws with
  | nil => intro S; rfl
  | cons w ws ih =>
    intro S
    unfold fgl
    rw [List.foldl_cons]
    have := ih (if w = x then S else fgt t w x S)
    unfold fgl at this
    rw [this]
    split
    · rfl
    · exact fgt_R (by omega) (by omega)
theorem fgl_len {t : Int32} {N A x : Nat} (h16 : N ≤ 16) : ∀ (d i : Nat) (S : St), i + d = N → Fg N A x i S → (fl (fgl t x (List.range' i d) S)).length ≤ (fl S).length + d := by
  intro d
  induction d with
  | zero => intro i S _ _; exact Nat.le_refl _
  | succ d ih =>
    intro i S hi hF
    unfold fgl
    rw [List.range'_succ, List.foldl_cons]
    obtain ⟨g1, g2, g3⟩ := hF i (Nat.le_refl _) (by omega)
    have hF' : Fg N A x (i + 1) (if i = x then S else fgt t i x S) := by
      split
      · exact fun a h1 h2 => hF a (by omega) h2
      · exact hF.s
    have := ih (i + 1) (if i = x then S else fgt t i x S) (by omega) hF'
    unfold fgl at this
    have l1 : (fl (if i = x then S else fgt t i x S)).length ≤ (fl S).length + 1 := by
      split
      · omega
      · exact fgt_len (by omega) (fun w hw => by have := (g1.2.2 w hw).1; omega)
    omega
/-! ===== the class breaks a node, the whole ===== -/
theorem gF_10 {t : Int32} {a : Nat} {S : St} : xR (gF t a S) 10 a = 0 := by
  unfold gF
  cases hw : xW S a with
  | nil => exact (nob_8 a S).2.2
  | cons w r =>
    simp only []
    rw [sn_R _ _ _ _ _ _ (by decide), xR_uW, xR_uR, if_neg (by omega), xR_uR, if_neg (by omega)]
    exact (nob_8 a S).2.2
theorem fgl_IA {t : Int32} {N x : Nat} : ∀ (ws : List Nat) (S : St), IA N S → IA N (fgl t x ws S) := by
  intro ws
  induction ws with
  | nil => intro S h; exact h
  | cons w ws ih =>
    intro S h
    unfold fgl
    rw [List.foldl_cons]
    refine ih _ ?_
    split
    · exact h
    · intro v hv
      obtain ⟨x1, x2, x3, x4⟩ := h v hv
      rw [fgt_R (k := 0) (by omega) (by decide), fgt_R (k := 7) (by omega) (by decide)]
      refine ⟨x1, x2, x3, ?_⟩
      by_cases c : v = w
      · subst c
        unfold fgt
        split
        · exact Or.inl gF_10
        · exact x4
      · rw [fgt_R (Or.inl c) (by decide)]; exact x4
theorem b0_R {x : Nat} {S : St} {k i : Nat} : xR (b0 x S) k i = if i = x ∧ k = 7 then 1 else if i = x ∧ k = 8 then -1 else if i = x ∧ (k = 9 ∨ k = 10) then 0 else xR S k i := by
  have e : xR (b0 x S) k i = xR (nob x (uR S 7 x 1)) k i := rfl
  rw [e]
  by_cases c7 : i = x ∧ k = 7
  · rw [if_pos c7, nob_R (by omega), xR_uR, if_pos ⟨c7.2, c7.1⟩]
  · rw [if_neg c7]
    by_cases c8 : i = x ∧ k = 8
    · rw [if_pos c8, c8.1, c8.2]; exact (nob_8 x _).1
    · rw [if_neg c8]
      by_cases c9 : i = x ∧ (k = 9 ∨ k = 10)
      · rw [if_pos c9, c9.1]
        rcases c9.2 with z | z
        · rw [z]; exact (nob_8 x _).2.1
        · rw [z]; exact (nob_8 x _).2.2
      · rw [if_neg c9, nob_R (by omega), xR_uR, if_neg (by omega)]
theorem b0_W {x : Nat} {S : St} (a : Nat) : xW (b0 x S) a = if a = x then [] else xW S a := rfl
theorem b0_L {x : Nat} {S : St} (l : Nat) : xL (b0 x S) l = if l < 256 ∧ (l / 16 = x ∨ l % 16 = x) then [] else xL S l := rfl
theorem b0_len {x : Nat} {S : St} : (fl (b0 x S)).length ≤ (fl S).length := fl_le_L (fun l _ => by
  rw [b0_L]; split
  · exact Or.inl rfl
  · exact Or.inr rfl)
theorem b0_Fg {N A x : Nat} {S : St} (hI : Inv N A S) (h16 : N ≤ 16) (hx : x < N) : Fg N A x 0 (b0 x S) := by
  intro a _ ha
  rw [b0_W, b0_R]
  by_cases c : a = x
  · subst c
    rw [if_pos rfl, if_neg (by omega), if_pos ⟨rfl, rfl⟩]
    exact ⟨⟨List.Pairwise.nil, List.nodup_nil, fun w hw => by cases hw⟩, fun _ => by simp, fun _ => ⟨rfl, rfl⟩⟩
  · rw [if_neg c, if_neg (by omega), if_neg (by omega), if_neg (by omega)]
    have hF := hI.2.2.2.2.2.1 a (by omega)
    refine ⟨hF.1, fun z => ?_, fun z => absurd z c⟩
    rcases hF.2.2 with y | ⟨g, y1, y2, y3, _⟩
    · rw [y.1] at z; exact absurd z (m1_ne (by omega))
    · have : g = x := (nI_eq (by omega) (by omega)).mp (y2.symm.trans z)
      rw [← this]; exact y3
theorem HV.brkN {M : Mem} {h X Y N A n : Nat} {t : Int32} {Q : Nat → Int32} {S : St} {pb pt : List Row4} (p : HV M h X Y t N Q S pb pt) (s : SB M N S) (hI : Inv N A S) (h16 : N ≤ 16) (ht : xR S 20 1 = 1 → N % 2 = 1) (ht2 : xR S 20 1 = 0 ∨ xR S 20 1 = 1) (hz : ∀ v, N ≤ v → v < 16 → xR S 7 v = 0) {x : Nat} (hx : x < N) (h3 : xR S 3 x = 0) (hl : (fl S).length + N + 2 * N * N < 9000) (hn : 9100 ≤ n) : ∃ M', f_X2_breakNode n h (nI x) M = some M' ∧ HV M' h X Y t N (fun v => qm N (uR S 7 x 1) v) (bd t N x S) pb pt ∧ FrW4 M M' h := by
  have q := p.1
  have x6 : x < 16 := by omega
  have h7 : ∀ v, v < 16 → xR S 7 v = 0 ∨ xR S 7 v = 1 := fun v hv => (hI.1 v hv).2.2.1
  obtain ⟨p1, f1⟩ := p.st7 (x := x) (y := bon (mI M h 9) x) (z := 1) x6 (fun u hu => by
    rw [bt_on _ (by omega) hu, p.2.2.1.2.2.2.1 u hu]
    by_cases c : u = x
    · rw [if_pos c, decide_eq_true c, Bool.or_true, decide_eq_true (show u < 16 ∧ (1 : Int32) = 1 from ⟨by omega, rfl⟩)]
    · rw [if_neg c, decide_eq_false c, Bool.or_false])
  have hh := q.2.2.2.2.2.1
  have s1 : SB (sI M h 9 (bon (mI M h 9) x)) N (uR S 7 x 1) := by
    refine s.cg (Nat.le_refl _) (fun _ _ => rfl) (fun _ => rfl) (fun b => mI_o _ _ _ _ _ (by omega)) (fun b => mI_o _ _ _ _ _ (by omega)) ?_ (fun v => ?_)
    · rw [xR_uR, if_neg (by omega)]
    · rw [xR_uR, if_neg (by omega)]
  have r20 : xR (uR S 7 x 1) 20 1 = xR S 20 1 := by rw [xR_uR, if_neg (by omega)]
  obtain ⟨M2, e2, p2, f2⟩ := p1.renew (n := n) s1 h16 (by omega) (by rw [r20]; exact ht) (by rw [r20]; exact ht2) (fun v hv => by
    rw [xR_uR]; split
    · exact Or.inr rfl
    · exact h7 v hv) (fun v a b => by rw [xR_uR, if_neg (by omega)]; exact hz v a b) (by omega)
  obtain ⟨M3, e3, p3, f3⟩ := p2.forget x6
  obtain ⟨p4, f4⟩ := p3.tW (M' := sI M3 (h + 17 + 2 * x) 9 0) (l := []) x6 rfl (fun _ _ => rfl) (fun o n1 _ b => by rw [mI_o _ _ _ _ _ n1]) (fun b n => by rw [mI_n _ _ _ _ n]) (fun u hu => by rw [mI_s, b_0]; simp) (fun w hw => by cases hw)
  generalize hM4 : sI M3 (h + 17 + 2 * x) 9 0 = M4 at p4 f4
  have hE : ∀ l, l < 256 → ¬ (l / 16 < N ∧ l % 16 < N) → xL S l = [] := fun l hl => (hI.2.2.2.2.1 l hl).2
  obtain ⟨M5, n5, e5, hn5, p5, f5⟩ := bk27 h16 hx N 0 n M4 _ p4 (by omega) (by show (fl S).length ≤ 9000; omega) (by omega)
  rw [drl_e hx h16 (show ∀ l, l < 256 → ¬ (l / 16 < N ∧ l % 16 < N) → xL (uW (nob x (uR S 7 x 1)) x []) l = [] from hE)] at p5
  have p5' : HV M5 h X Y t N (fun v => qm N (uR S 7 x 1) v) (b0 x S) pb pt := p5
  have F0 := b0_Fg hI h16 hx
  have l0 := b0_len (x := x) (S := S)
  obtain ⟨M6, n6, e6, hn6, p6, f6⟩ := bk64 (A := A) h16 hx N 0 n5 M5 _ p5' (by omega) F0 (by omega) (by omega)
  have ia0 : IA N (b0 x S) := by
    intro v hv
    obtain ⟨y1, y2, y3, y4⟩ := hI.1 v hv
    rw [b0_R, b0_R, b0_R, if_neg (by omega), if_neg (by omega), if_neg (by omega), if_neg (show ¬ (v = x ∧ 7 = 8) by omega), if_neg (show ¬ (v = x ∧ (7 = 9 ∨ 7 = 10)) by omega), if_neg (show ¬ (v = x ∧ 10 = 7) by omega), if_neg (show ¬ (v = x ∧ 10 = 8) by omega)]
    refine ⟨y1, y2, ?_, ?_⟩
    · split
      · exact Or.inr rfl
      · exact y3
    · split
      · exact Or.inl rfl
      · exact y4
  have l6 := fgl_len (t := t) (A := A) (x := x) h16 N 0 (b0 x S) (by omega) F0
  have r6 : ∀ k i, k < 8 ∨ (10 < k ∧ k ≠ 16) → xR (fgl t x (List.range' 0 N) (b0 x S)) k i = xR (b0 x S) k i := fun k i hk => fgl_R hk _ _
  have kq : Qk (uR S 7 x 1) (fgl t x (List.range' 0 N) (b0 x S)) := fun k hk i => by
    rw [r6 k i (by omega), b0_R, xR_uR]
    by_cases c : i = x ∧ k = 7
    · rw [if_pos c, if_pos ⟨c.2, c.1⟩]
    · rw [if_neg c, if_neg (by omega), if_neg (by omega), if_neg (by omega)]
  have hm : 2 * N * N = 2 * N * N := rfl
  obtain ⟨M7, e7, p7, f7⟩ := bk89 (Q := fun v => qm N (uR S 7 x 1) v) h16 hx N 0 n6 M6 _ p6 (by omega) (fgl_IA _ _ ia0) (fun v a b => by rw [r6 7 v (by omega), b0_R, if_neg (by omega), if_neg (by omega), if_neg (by omega)]; exact hz v a b) (by rw [r6 7 x (by omega), b0_R, if_pos ⟨rfl, rfl⟩]) (fun v hv => kq.m N v) (by rw [r6 3 x (by omega), b0_R, if_neg (by omega), if_neg (by omega), if_neg (by omega)]; exact h3) (by omega) (by omega)
  refine ⟨M7, ?_, ?_, f1.w4.tr (f2.w4.tr (f3.w4.tr (f4.w4.tr (f5.w4.tr (f6.w4.tr f7.w4)))))⟩
  · rw [f_X2_breakNode, cs_f q, show (mI M h 9 ||| ((1 : Int32) <<< (nI x &&& 31))) = bon (mI M h 9) x from rfl, bnd_e, e2, obd_s, cs_f p2.1, cs_h2 p2.1, bnd_e, cs_a10 p2.1, cs_i10 p2.1 x6, cs_rpc p2.1 x6, bnd_e, cs_po p2.1 x6, f_X4_forgetAll, cs_po p2.1 x6, e3, obd_s, cs_po p3.1 x6, hM4, bnd_e, obd_s, show (0 : Int32) = nI 0 from rfl, e5, show (0 : Int32) = nI 0 from rfl, e6, show (0 : Int32) = nI 0 from rfl, e7]
  · unfold bd
    rw [List.range_eq_range']
    exact p7
/-! ===== a node breaks: the reference's letters ===== -/
def kpq (x : Nat) (q : Nat × Ltr) : Bool := !(decide (q.1 / 16 = x) || decide (q.1 % 16 = x))
def FrL2 (M M' : Mem) : Prop := M'.1 = M.1 ∧ (∀ o, o ≠ 121 → o ≠ 123 → ∀ k, mI M' o k = mI M o k) ∧ (∀ o k, mL M' o k = mL M o k) ∧ (∀ b, b < 850 ∨ 9851 ≤ b → mI M' 121 b = mI M 121 b)
theorem FrL2.rf (M : Mem) : FrL2 M M := ⟨rfl, fun _ _ _ _ => rfl, fun _ _ => rfl, fun _ _ => rfl⟩
theorem FrL2.tr {M M' M'' : Mem} (h : FrL2 M M') (h' : FrL2 M' M'') : FrL2 M M'' :=
  ⟨h'.1.trans h.1, fun o a b k => (h'.2.1 o a b k).trans (h.2.1 o a b k), fun o k => (h'.2.2.1 o k).trans (h.2.2.1 o k), fun b hb => (h'.2.2.2 b hb).trans (h.2.2.2 b hb)⟩
theorem pr_16 {q : Nat} (h : q < 256) : nI q / (16 : Int32) = nI (q / 16) ∧ nI q - nI q / (16 : Int32) * (16 : Int32) = nI (q % 16) := by
  rw [show (16 : Int32) = nI 16 from rfl]
  exact ⟨pk_div (by omega) (by decide) (by decide), pk_rem (by omega) (by decide) (by decide)⟩
set_option maxHeartbeats 1000000 in
theorem dropr_l (tw : Bool) {x : Nat} (hx : x < 16) : ∀ (d : Nat) (pre suf : List (Nat × Ltr)) (M : Mem) (n : Nat), pre.length = d → RS M → mI M 121 850 = nI (pre.length + suf.length) → pre.length + suf.length ≤ 9000 → Seg M tw 0 (pre ++ suf) → (∀ q, q ∈ pre → q.1 < 256) → d + 9100 ≤ n → ∃ M', f_X10_dropLetters_11 n 120 (nI x) (nI pre.length - 1) M = some M' ∧ mI M' 121 850 = nI ((pre.filter (kpq x)).length + suf.length) ∧ Seg M' tw 0 (pre.filter (kpq x) ++ suf) ∧ FrL2 M M' := by
  intro d
  induction d with
  | zero =>
    intro pre suf M n hd hS hc hlen hs hp hn
    have : pre = [] := List.length_eq_zero_iff.mp hd
    subst this
    obtain ⟨n, rfl⟩ : ∃ m, n = m + 1 := ⟨n - 1, by omega⟩
    exact ⟨M, by rw [f_X10_dropLetters_11, if_pos (by decide)], hc, hs, FrL2.rf M⟩
  | succ d ih =>
    intro pre suf M n hd hS hc hlen hs hp hn
    obtain ⟨n, rfl⟩ : ∃ m, n = m + 1 := ⟨n - 1, by omega⟩
    rcases nil_app pre with z | ⟨p, z, e⟩
    · rw [z] at hd; cases hd
    subst e
    have hpl : p.length = d := by rw [List.length_append, List.length_singleton] at hd; omega
    rw [List.length_append, List.length_singleton] at hc hlen ⊢
    have hz := hp z (by simp)
    have hp' : ∀ q, q ∈ p → q.1 < 256 := fun q hq => hp q (by simp [hq])
    have hs2 := hs
    rw [List.append_assoc, Seg.ap, Seg.ap, Seg.one, Nat.zero_add, List.length_singleton] at hs2
    obtain ⟨g1, g2, g3⟩ := hs2
    have rd : mI M 121 (851 + p.length) = enc z := g2.1
    obtain ⟨q1, q2⟩ := pr_16 hz
    have e0 : nI (p.length + 1) - (1 : Int32) = nI p.length := nI_pred p.length
    have em : nI p.length + (-1 : Int32) = nI p.length - 1 := (Int32.sub_eq_add_neg _ _).symm
    have tk : ∃ M', f_X10_dropLetters_55 (f_X10_dropLetters_11 n) n 120 (nI x) (nI p.length) M = some M' ∧ mI M' 121 850 = nI ((p.filter (kpq x)).length + suf.length) ∧ Seg M' tw 0 (p.filter (kpq x) ++ suf) ∧ FrL2 M M' := by
      obtain ⟨M1, i1, i2, i3⟩ := take_l tw suf p M n hS (by rw [hc]) (by omega) g1 g3 (by omega)
      generalize hMa : sI M1 121 850 (nI (p.length + suf.length)) = Ma at i1
      generalize hMb : sI Ma 121 (851 + (p.length + suf.length)) 0 = Mb at i1
      have hSb : RS Mb := by rw [← hMb, ← hMa]; exact hS.e i3.1
      have F : FrL2 M Mb := by
        refine ⟨?_, fun o a b k => ?_, fun o k => ?_, fun b hb => ?_⟩
        · rw [← hMb, ← hMa]; exact i3.1
        · rw [← hMb, mI_o _ _ _ _ _ a, ← hMa, mI_o _ _ _ _ _ a]; exact i3.2.1 o a b k
        · rw [← hMb, ← hMa]; exact i3.2.2.1 o k
        · rw [← hMb, mI_n _ _ _ _ (by omega), ← hMa, mI_n _ _ _ _ (by omega)]; exact i3.2.2.2 b (by omega)
      obtain ⟨M', j1, j2, j3, j4⟩ := ih p suf Mb n hpl hSb (by rw [← hMb, mI_n _ _ _ _ (by omega), ← hMa, mI_s]) (by omega) (i2.cg fun i _ hi => ⟨by
          rw [List.length_append] at hi
          rw [← hMb, mI_n _ _ _ _ (by omega), ← hMa, mI_n _ _ _ _ (by omega)], by rw [← hMb, mI_o _ _ _ _ _ (by decide), ← hMa, mI_o _ _ _ _ _ (by decide)]⟩) hp' (by omega)
      refine ⟨M', ?_, j2, j3, F.tr j4⟩
      rw [f_X10_dropLetters_55, rs_f hS, f_X10_takeLetter, i1, obd_s, bnd_e, em]
      exact j1
    have st : ∀ y, (if nI (z.1 / 16) = nI x then f_X10_dropLetters_55 (f_X10_dropLetters_11 n) n 120 (nI x) (nI p.length) M else if nI (z.1 % 16) = nI x then f_X10_dropLetters_55 (f_X10_dropLetters_11 n) n 120 (nI x) (nI p.length) M else f_X10_dropLetters_11 n 120 (nI x) (nI p.length - 1) M) = y → f_X10_dropLetters_11 (n + 1) 120 (nI x) (nI (p.length + 1) - 1) M = y := by
      intro y hy
      rw [e0, f_X10_dropLetters_11, if_neg (nI_pos (by omega)), rs_f hS, rs_0 hS, bnd_e, rs_fa hS, c851, rs_c hS (by omega), mI_c (by omega), rd, f_X10_pairOf, obd_s, enc_pair hz, chk_t (by decide), q1]
      by_cases c : nI (z.1 / 16) = nI x
      · rw [if_pos c] at hy ⊢; exact hy
      · rw [if_neg c] at hy ⊢
        rw [bnd_e, rs_fa hS, rs_c hS (by omega), mI_c (by omega), rd, f_X10_pairOf, obd_s, enc_pair hz, chk_t (by decide), q2]
        by_cases c2 : nI (z.1 % 16) = nI x
        · rw [if_pos c2] at hy ⊢; exact hy
        · rw [if_neg c2] at hy ⊢
          rw [bnd_e, em]; exact hy
    have fe : (p ++ [z]).filter (kpq x) = p.filter (kpq x) ++ [z].filter (kpq x) := List.filter_append _ _
    by_cases c : z.1 / 16 = x
    · have kz : kpq x z = false := by unfold kpq; rw [decide_eq_true c]; rfl
      rw [fe, show [z].filter (kpq x) = [] by simp [kz], List.append_nil]
      obtain ⟨M', j1, j2, j3, j4⟩ := tk
      exact ⟨M', st _ (by rw [if_pos (by rw [c])]; exact j1), j2, j3, j4⟩
    · by_cases c2 : z.1 % 16 = x
      · have kz : kpq x z = false := by unfold kpq; rw [decide_eq_true c2, Bool.or_true]; rfl
        rw [fe, show [z].filter (kpq x) = [] by simp [kz], List.append_nil]
        obtain ⟨M', j1, j2, j3, j4⟩ := tk
        exact ⟨M', st _ (by rw [if_neg (nI_ne (by omega) (by omega) c), if_pos (by rw [c2])]; exact j1), j2, j3, j4⟩
      · have kz : kpq x z = true := by unfold kpq; rw [decide_eq_false c, decide_eq_false c2]; rfl
        rw [fe, show [z].filter (kpq x) = [z] by simp [kz]]
        obtain ⟨M', j1, j2, j3, j4⟩ := ih p (z :: suf) M n hpl hS (by rw [hc, List.length_cons]; congr 1; omega) (by rw [List.length_cons]; omega) (by simpa using hs) hp' (by omega)
        refine ⟨M', st _ (by rw [if_neg (nI_ne (by omega) (by omega) c), if_neg (nI_ne (by omega) (by omega) c2)]; exact j1), ?_, by simpa using j3, j4⟩
        rw [j2, List.length_cons, List.length_append, List.length_singleton]; congr 1; omega
theorem fl_drp {x : Nat} {S : St} : fl (drp x S) = (fl S).filter (kpq x) := by
  unfold fl
  rw [List.filter_flatMap]
  apply fm_cg
  intro l hl
  have hl := List.mem_range.mp hl
  show ((if l < 256 ∧ (l / 16 = x ∨ l % 16 = x) then [] else xL S l).map fun y => (l, y)) = _
  rw [List.filter_map]
  by_cases c : l / 16 = x ∨ l % 16 = x
  · rw [if_pos ⟨hl, c⟩]
    have : (xL S l).filter (kpq x ∘ fun y => (l, y)) = [] := by
      apply List.filter_eq_nil_iff.mpr
      intro y _
      show ¬ kpq x (l, y) = true
      unfold kpq
      rcases c with c | c <;> simp [c]
    rw [this]
  · rw [if_neg (fun z => c z.2)]
    have : (xL S l).filter (kpq x ∘ fun y => (l, y)) = xL S l := by
      apply List.filter_eq_self.mpr
      intro y _
      show kpq x (l, y) = true
      unfold kpq
      rw [decide_eq_false (fun z => c (Or.inl z)), decide_eq_false (fun z => c (Or.inr z))]; rfl
    rw [this]
theorem RV.tdrp {M : Mem} {tw : Bool} {t : Int32} {S : St} {pb pt : List Row4} (h : RV M tw t S pb pt) {x n : Nat} (hx : x < 16) (hn : 18200 ≤ n) : ∃ M', f_X10_dropLetters n 120 (nI x) M = some M' ∧ RV M' tw t (drp x S) pb pt ∧ Fr PA M M' := by
  obtain ⟨hS, ht, ha, hw, hl, hb1, hb2⟩ := h
  obtain ⟨M', e, j2, j3, j4⟩ := dropr_l tw hx (fl S).length (fl S) [] M n rfl hS (by rw [List.length_nil, Nat.add_zero]; exact hl.1) (by rw [List.length_nil]; exact hl.2.1) (by rw [List.append_nil]; exact hl.2.2) (fun q hq => (fl_mem hq).1) (by have := hl.2.1; omega)
  rw [List.length_nil, Nat.add_zero, ← fl_drp] at j2
  rw [List.append_nil, ← fl_drp] at j3
  have k1 : ∀ b, b < 850 ∨ 9851 ≤ b → mI M' 121 b = mI M 121 b := j4.2.2.2
  refine ⟨M', ?_, ⟨hS.e j4.1, (j4.2.1 120 (by decide) (by decide) 3).trans ht, fun kk ii hv => ?_, hw.cg (fun b _ _ => k1 b (by omega)) rfl, ⟨j2, ?_, j3⟩, hb1.cg (k1 _ (by omega)) (fun b _ _ => k1 b (by omega)), hb2.cg (k1 _ (by omega)) (fun b _ _ => k1 b (by omega))⟩, ⟨j4.1, fun o n k => j4.2.1 o (fun z => n (by rw [z]; exact ⟨by decide, by decide⟩)) (fun z => n (by rw [z]; exact ⟨by decide, by decide⟩)) k, j4.2.2.1⟩⟩
  · rw [f_X10_dropLetters, rs_f hS, rs_0 hS, bnd_e, rs_fa hS, l850, rs_c hS (by decide), mI_c (by decide), hl.1, bnd_e]
    exact e
  · rw [k1 _ (ad_lim hv).2.1]; exact ha kk ii hv
  · rw [fl_drp]
    exact Nat.le_trans (List.length_filter_le _ _) hl.2.1
/-! ===== a node breaks: the reference forgets it, goes on without it ===== -/
theorem uW_uW (S : St) (a : Nat) (u w : List Wtr) : uW (uW S a u) a w = uW S a w := by
  unfold uW
  refine Prod.ext rfl (Prod.ext ?_ rfl)
  funext b
  show up1 (up1 S.2.1 a u) a w b = up1 S.2.1 a w b
  unfold up1
  by_cases e : b = a
  · rw [if_pos e, if_pos e]
  · rw [if_neg e, if_neg e, if_neg e]
theorem fgr_l {tw : Bool} {t : Int32} {pb pt : List Row4} {a x : Nat} (ha : a < 16) (hx : x < 16) : ∀ (d : Nat) (pre suf : List Wtr) (M : Mem) (S : St) (n : Nat), pre.length = d → RV M tw t S pb pt → xW S a = pre ++ suf → (∀ w, w ∈ pre → w.1 < 16) → d + 60 ≤ n → ∃ M', f_X10_forgotten_25 n 120 (nI a) (nI x) (nI pre.length - 1) M = some M' ∧ RV M' tw t (uW S a ((pre.filter fun w => !decide (w.1 = x)) ++ suf)) pb pt ∧ Fr PA M M' := by
  intro d
  induction d with
  | zero =>
    intro pre suf M S n hd h hw hp hn
    have : pre = [] := List.length_eq_zero_iff.mp hd
    subst this
    obtain ⟨n, rfl⟩ : ∃ m, n = m + 1 := ⟨n - 1, by omega⟩
    refine ⟨M, by rw [f_X10_forgotten_25, if_pos (by decide)], ?_, Fr.rf _ _⟩
    show RV M tw t (uW S a ([] ++ suf)) pb pt
    rw [← hw, uW_id]
    exact h
  | succ d ih =>
    intro pre suf M S n hd h hw hp hn
    obtain ⟨n, rfl⟩ : ∃ m, n = m + 1 := ⟨n - 1, by omega⟩
    rcases nil_app pre with z | ⟨p, z, e⟩
    · rw [z] at hd; cases hd
    subst e
    have hpl : p.length = d := by rw [List.length_append, List.length_singleton] at hd; omega
    have hz := hp z (by simp)
    have hp' : ∀ q, q ∈ p → q.1 < 16 := fun q hq => hp q (by simp [hq])
    have hwl := h.wl ha
    have l20 : p.length < 20 := by rw [hw, List.length_append, List.length_append, List.length_singleton] at hwl; omega
    have e0 : nI (p.length + 1) - (1 : Int32) = nI p.length := nI_pred p.length
    have em : nI p.length + (-1 : Int32) = nI p.length - 1 := (Int32.sub_eq_add_neg _ _).symm
    have wn := h.wn (a := a) (i := p.length) ha l20
    have vz : mI M 121 (150 + 44 * a + 2 * p.length) = nI z.1 := ((h.2.2.2.1 a ha).2.2.1 p.length z (by rw [hw]; simp)).1
    rw [vz] at wn
    have fe : (p ++ [z]).filter (fun w : Wtr => !decide (w.1 = x)) = p.filter (fun w => !decide (w.1 = x)) ++ [z].filter (fun w => !decide (w.1 = x)) := List.filter_append _ _
    rw [List.length_append, List.length_singleton, e0, f_X10_forgotten_25, if_neg (nI_pos (by omega)), rs_f h.1, wn, obd_s, fe]
    by_cases c : z.1 = x
    · obtain ⟨M1, e1, h1, f1⟩ := h.go (n := n) ha (p := p) (q := suf) (x := z) (by rw [hw]; simp) (by omega)
      obtain ⟨M', e', h', f'⟩ := ih p suf M1 (uW S a (p ++ suf)) n hpl h1 (by rw [xW_uW, if_pos rfl]) hp' (by omega)
      rw [uW_uW] at h'
      have kz : (!decide (z.1 = x)) = false := by rw [decide_eq_true c]; rfl
      refine ⟨M', ?_, by rw [show [z].filter (fun w : Wtr => !decide (w.1 = x)) = [] by simp [c], List.append_nil]; exact h', Fr.tr (f1.toFr) f'⟩
      rw [if_pos (by rw [c]), e1, obd_s, bnd_e, em]
      exact e'
    · obtain ⟨M', e', h', f'⟩ := ih p (z :: suf) M S n hpl h (by rw [hw]; simp) hp' (by omega)
      refine ⟨M', ?_, by rw [show [z].filter (fun w : Wtr => !decide (w.1 = x)) = [z] by simp [c]]; simpa using h', f'⟩
      rw [if_neg (nI_ne (by omega) (by omega) c), bnd_e, em]
      exact e'
theorem RV.tfgt {M : Mem} {tw : Bool} {t : Int32} {S : St} {pb pt : List Row4} (h : RV M tw t S pb pt) {a x : Nat} (ha : a < 16) (hx : x < 16) (hlen : (fl S).length < 9000) (hw : ∀ w, w ∈ xW S a → w.1 < 16) {n : Nat} (hn : 9100 ≤ n) : ∃ M', f_X10_forgotten n 120 (nI a) (nI x) M = some M' ∧ RV M' tw t (fgt t a x S) pb pt ∧ Fr PA M M' := by
  unfold fgt
  rw [f_X10_forgotten, rs_f h.1, h.of0 ha, obd_s]
  by_cases c : xR S 8 a = nI x
  · rw [if_pos c, if_pos c]
    obtain ⟨M', e, h', f⟩ := h.tgF ha hlen hw hn
    exact ⟨M', by rw [e, obd_s], h', f⟩
  · rw [if_neg c, if_neg c, h.of3 ha, obd_s, bnd_e]
    have hwl := h.wl ha
    obtain ⟨M', e, h', f⟩ := fgr_l ha hx (xW S a).length (xW S a) [] M S n rfl h (by simp) hw (by omega)
    rw [List.append_nil] at h'
    exact ⟨M', e, h', f⟩
theorem RV.tgdw {M : Mem} {tw : Bool} {t : Int32} {S : St} {pb pt : List Row4} (h : RV M tw t S pb pt) {N : Nat} (hN : xR S 20 0 = nI N) (h16 : N ≤ 16) (ht : xR S 20 1 = 1 → N % 2 = 1) {x w : Nat} (hw : w < N) (hx : x < N) (hl : (fl S).length + 2 * N ≤ 9000) {n : Nat} (hn : 9300 ≤ n) : ∃ M', f_X10_goWithout n 120 (nI w) (nI x) M = some M' ∧ RV M' tw t (gdw t N x w S) pb pt ∧ Fr PA M M' := by
  have w6 : w < 16 := by omega
  rw [f_X10_goWithout, rs_f h.1, h.get3 w6, obd_s, f_without, obd_s, h.get0 w6, obd_s]
  unfold gdw
  by_cases c : xR S 0 w = 2
  · rw [if_pos c, if_pos c, h.let3 w6, obd_s]
    exact ⟨_, rfl, h.st (vk_n (k := 3) (by decide) w6) _, Fr.tad⟩
  · rw [if_neg c, if_neg c, h.get2 w6, obd_s, h.bro hN h16 (by omega), obd_s]
    obtain ⟨M1, e1, h1, f1⟩ := h.tsA (n := n) hN h16 (k := 5) (f := w) (by decide) w6 (bof (xR S 3 w) x &&& (bkm N S ^^^ (-1 : Int32))) (xR S 2 w) (by omega) (by omega)
    have len1 : (fl (sA t N 5 w (bof (xR S 3 w) x &&& (bkm N S ^^^ (-1 : Int32))) (xR S 2 w) S)).length ≤ (fl S).length + N := by
      have := sAl_len t (k := 5) w6 (bof (xR S 3 w) x &&& (bkm N S ^^^ (-1 : Int32))) (xR S 2 w) (List.range N) S (fun v hv => by have := List.mem_range.mp hv; omega)
      rw [List.length_range] at this
      exact this
    have r20 : ∀ i, xR (sA t N 5 w (bof (xR S 3 w) x &&& (bkm N S ^^^ (-1 : Int32))) (xR S 2 w) S) 20 i = xR S 20 i := fun i => sA_R (by decide)
    generalize hS1 : sA t N 5 w (bof (xR S 3 w) x &&& (bkm N S ^^^ (-1 : Int32))) (xR S 2 w) S = S1 at h1 len1 r20
    obtain ⟨M2, e2, h2, f2⟩ := h1.trst (n := n) w6 (by omega)
    have q20 : ∀ i, xR (rst w S1) 20 i = xR S 20 i := fun i => by rw [rst_R, if_neg (by omega), r20]
    obtain ⟨M3, e3, h3, f3⟩ := h2.can (n := n) (by rw [q20]; exact hN) h16 (by rw [q20]; exact ht) w6 (by omega)
    rw [show (5 : Int32) = nI 5 from rfl, e1, obd_s, rs_f h1.1, e2, obd_s, rs_f h2.1, e3, obd2_s]
    have F3 : Fr PA M M3 := Fr.tr f1 (Fr.tr f2 (f3.mo P2_A))
    by_cases d : mayA N w (rst w S1) = true
    · rw [if_pos d, if_neg ne10, if_pos d]
      obtain ⟨M4, e4, h4, f4⟩ := h3.tak (n := n) (by rw [q20]; exact hN) h16 (by rw [q20]; exact ht) w6 (by show (fl S1).length + N ≤ 9000; omega) (by omega)
      exact ⟨M4, by rw [rs_f h3.1, e4, obd_s], h4, Fr.tr F3 f4⟩
    · rw [if_neg d, if_pos rfl, if_neg d]
      exact ⟨M3, rfl, h3, F3⟩
theorem br97 {tw : Bool} {t : Int32} {pb pt : List Row4} {N : Nat} (h16 : N ≤ 16) {x : Nat} (hx : x < N) : ∀ (d i n : Nat) (M : Mem) (S : St), RV M tw t S pb pt → xR S 20 0 = nI N → (xR S 20 1 = 1 → N % 2 = 1) → i + d = N → (fl S).length + 2 * N * d ≤ 9000 → d + 9301 ≤ n → ∃ M', f_X10_breakDown_97 n 120 (nI x) (nI i) M = some (1, M') ∧ RV M' tw t (gdl t N x (List.range' i d) S) pb pt ∧ Fr PA M M' := by
  intro d
  induction d with
  | zero =>
    intro i n M S h hN ht hi hl hn
    obtain ⟨n, rfl⟩ : ∃ m, n = m + 1 := ⟨n - 1, by omega⟩
    refine ⟨M, ?_, h, Fr.rf _ _⟩
    rw [f_X10_breakDown_97, rs_f h.1, rs_0 h.1, bnd_e, rs_fa h.1, rs_c0 h.1, cl0, h.N hN, if_pos (nI_le (by omega) (by omega))]
  | succ d ih =>
    intro i n M S h hN ht hi hl hn
    obtain ⟨n, rfl⟩ : ∃ m, n = m + 1 := ⟨n - 1, by omega⟩
    have i6 : i < 16 := by omega
    rw [Nat.mul_succ] at hl
    unfold gdl
    rw [List.range'_succ, List.foldl_cons]
    have e0 : ∀ y, (if nI i = nI x then f_X10_breakDown_97 n 120 (nI x) (nI (i + 1)) M else if (if bt (xR S 3 i) x = true then (1 : Int32) else 0) = 0 then f_X10_breakDown_97 n 120 (nI x) (nI (i + 1)) M else obd (f_X10_goWithout n 120 (nI i) (nI x) M) fun M21 => f_X10_breakDown_97 n 120 (nI x) (nI (i + 1)) M21) = y → f_X10_breakDown_97 (n + 1) 120 (nI x) (nI i) M = y := by
      intro y hy
      rw [f_X10_breakDown_97, rs_f h.1, rs_0 h.1, bnd_e, rs_fa h.1, rs_c0 h.1, cl0, h.N hN, if_neg (nI_ge (by omega) (by omega)), bnd_e, nI_1, h.get3 i6, obd_s, f_has10 _ (by omega), obd_s]
      exact hy
    by_cases c : i = x
    · rw [if_pos c]
      obtain ⟨M', e', h', f'⟩ := ih (i + 1) n M S h hN ht (by omega) (by omega) (by omega)
      unfold gdl at h'
      exact ⟨M', e0 _ (by rw [if_pos (by rw [c])]; exact e'), h', f'⟩
    · rw [if_neg c]
      have nc := nI_ne (a := i) (b := x) (by omega) (by omega) c
      by_cases b : bt (xR S 3 i) x = true
      · rw [if_pos b]
        obtain ⟨M1, e1, h1, f1⟩ := h.tgdw (n := n) hN h16 ht (x := x) (w := i) (by omega) hx (by omega) (by omega)
        have l1 := gdw_len (t := t) (N := N) (x := x) (w := i) (S := S) h16 (by omega)
        obtain ⟨M', e', h', f'⟩ := ih (i + 1) n M1 _ h1 (by rw [gdw_Rk (by omega)]; exact hN) (by rw [gdw_Rk (by omega)]; exact ht) (by omega) (by omega) (by omega)
        unfold gdl at h'
        refine ⟨M', e0 _ ?_, h', Fr.tr f1 f'⟩
        rw [if_neg nc, if_pos b, if_neg ne10, e1, obd_s]
        exact e'
      · rw [if_neg b]
        obtain ⟨M', e', h', f'⟩ := ih (i + 1) n M S h hN ht (by omega) (by omega) (by omega)
        unfold gdl at h'
        refine ⟨M', e0 _ ?_, h', f'⟩
        rw [if_neg nc, if_neg b, if_pos rfl]
        exact e'
theorem br68 {tw : Bool} {t : Int32} {pb pt : List Row4} {N A : Nat} (h16 : N ≤ 16) {x : Nat} (hx : x < N) : ∀ (d i n : Nat) (M : Mem) (S : St), RV M tw t S pb pt → xR S 20 0 = nI N → i + d = N → Fg N A x i S → (fl S).length + d < 9000 → d + 9301 ≤ n → ∃ M' n', f_X10_breakDown_68 n 120 (nI x) (nI i) M = f_X10_breakDown_97 n' 120 (nI x) (0 : Int32) M' ∧ n ≤ n' + d + 1 ∧ RV M' tw t (fgl t x (List.range' i d) S) pb pt ∧ Fr PA M M' := by
  intro d
  induction d with
  | zero =>
    intro i n M S h hN hi hF hl hn
    obtain ⟨n, rfl⟩ : ∃ m, n = m + 1 := ⟨n - 1, by omega⟩
    refine ⟨M, n, ?_, by omega, h, Fr.rf _ _⟩
    rw [f_X10_breakDown_68, rs_f h.1, rs_0 h.1, bnd_e, rs_fa h.1, rs_c0 h.1, cl0, h.N hN, if_pos (nI_le (by omega) (by omega))]
  | succ d ih =>
    intro i n M S h hN hi hF hl hn
    obtain ⟨n, rfl⟩ : ∃ m, n = m + 1 := ⟨n - 1, by omega⟩
    obtain ⟨g1, g2, g3⟩ := hF i (Nat.le_refl _) (by omega)
    have w16 : ∀ w, w ∈ xW S i → w.1 < 16 := fun w hw => by have := (g1.2.2 w hw).1; omega
    unfold fgl
    rw [List.range'_succ, List.foldl_cons]
    rw [f_X10_breakDown_68, rs_f h.1, rs_0 h.1, bnd_e, rs_fa h.1, rs_c0 h.1, cl0, h.N hN, if_neg (nI_ge (by omega) (by omega))]
    by_cases c : i = x
    · rw [if_pos (by rw [c]), bnd_e, nI_1, if_pos c]
      obtain ⟨M', n', e', hn', h', f'⟩ := ih (i + 1) n M S h hN (by omega) (fun a h1 h2 => hF a (by omega) h2) (by omega) (by omega)
      unfold fgl at h'
      exact ⟨M', n', e', by omega, h', f'⟩
    · rw [if_neg (nI_ne (by omega) (by omega) c), if_neg c]
      obtain ⟨M1, e1, h1, f1⟩ := h.tfgt (n := n) (a := i) (x := x) (by omega) (by omega) (by omega) w16 (by omega)
      have l1 := fgt_len (t := t) (a := i) (x := x) (S := S) (by omega) w16
      obtain ⟨M', n', e', hn', h', f'⟩ := ih (i + 1) n M1 _ h1 (by rw [fgt_R (by omega) (by decide)]; exact hN) (by omega) hF.s (by omega) (by omega)
      unfold fgl at h'
      exact ⟨M', n', by rw [e1, obd_s, bnd_e, nI_1, e'], by omega, h', Fr.tr f1 f'⟩
theorem br48 {tw : Bool} {t : Int32} {pb pt : List Row4} {x : Nat} (hx : x < 16) : ∀ (d n : Nat) (M : Mem) (S : St), RV M tw t S pb pt → (xW S x).length = d → d + 60 ≤ n → ∃ M' n', f_X10_breakDown_48 n 120 (nI x) M = f_X10_breakDown_68 n' 120 (nI x) (0 : Int32) M' ∧ n ≤ n' + d + 1 ∧ RV M' tw t (uW S x []) pb pt ∧ Fr PA M M' := by
  intro d
  induction d with
  | zero =>
    intro n M S h hd hn
    obtain ⟨n, rfl⟩ : ∃ m, n = m + 1 := ⟨n - 1, by omega⟩
    have : xW S x = [] := List.length_eq_zero_iff.mp hd
    refine ⟨M, n, ?_, by omega, ?_, Fr.rf _ _⟩
    · rw [f_X10_breakDown_48, rs_f h.1, h.of3 hx, obd_s, this, if_pos (by decide)]
    · rw [← this, uW_id]; exact h
  | succ d ih =>
    intro n M S h hd hn
    obtain ⟨n, rfl⟩ : ∃ m, n = m + 1 := ⟨n - 1, by omega⟩
    have hwl := h.wl hx
    cases hw : xW S x with
    | nil => rw [hw] at hd; cases hd
    | cons w r =>
      rw [hw, List.length_cons] at hd
      obtain ⟨M1, e1, h1, f1⟩ := h.go (n := n) hx (p := []) (q := r) (x := w) (by rw [hw]; rfl) (by omega)
      obtain ⟨M', n', e', hn', h', f'⟩ := ih n M1 (uW S x ([] ++ r)) h1 (by rw [xW_uW, if_pos rfl, List.nil_append]; omega) (by omega)
      rw [uW_uW] at h'
      refine ⟨M', n', ?_, by omega, h', Fr.tr f1.toFr f'⟩
      rw [hw] at hwl
      rw [f_X10_breakDown_48, rs_f h.1, h.of3 hx, obd_s, hw, if_neg (by
        rw [List.length_cons]
        exact nI_ge (a := 0) (by omega) (by rw [List.length_cons] at hwl; omega))]
      show obd (f_X10_goWaiting n 120 (nI x) (nI ([] : List Wtr).length) M) _ = _
      rw [e1, obd_s, e']
theorem RV.tbd {M : Mem} {tw : Bool} {t : Int32} {S : St} {pb pt : List Row4} (h : RV M tw t S pb pt) {N A : Nat} (hI : Inv N A S) (hN : xR S 20 0 = nI N) (h16 : N ≤ 16) (ht : xR S 20 1 = 1 → N % 2 = 1) {x : Nat} (hx : x < N) (h0 : xR S 0 x = 0) (h7 : xR S 7 x = 0) (hl : (fl S).length + N + 2 * N * N < 9000) (hnd : f_X10_isNode 120 (nI x) M = some 1) {n : Nat} (hn : 19000 ≤ n) : ∃ M', f_X10_breakDown n 120 (nI x) M = some (1, M') ∧ RV M' tw t (bd t N x S) pb pt ∧ Fr PA M M' := by
  have x6 : x < 16 := by omega
  have h1 := h.st (vk_n (k := 7) (by decide) x6) 1
  generalize hM1 : sI M 121 (ad 7 x) 1 = M1 at h1
  have F1 : Fr PA M M1 := by rw [← hM1]; exact Fr.tad
  obtain ⟨M2, e2, h2, f2⟩ := h1.tdrp (n := n) x6 (by omega)
  obtain ⟨M3, e3, h3, f3⟩ := h2.tnob x6
  have hW := (hI.2.2.2.2.2.1 x x6).1.len
  obtain ⟨M4, n4, e4, hn4, h4, f4⟩ := br48 x6 (xW S x).length n M3 _ h3 rfl (by omega)
  have h4' : RV M4 tw t (b0 x S) pb pt := h4
  have r20 : ∀ i, xR (b0 x S) 20 i = xR S 20 i := fun i => by rw [b0_R, if_neg (by omega), if_neg (by omega), if_neg (by omega)]
  have F0 := b0_Fg hI h16 hx
  have l0 := b0_len (x := x) (S := S)
  obtain ⟨M5, n5, e5, hn5, h5, f5⟩ := br68 (A := A) h16 hx N 0 n4 M4 _ h4' (by rw [r20]; exact hN) (by omega) F0 (by omega) (by omega)
  have l5 := fgl_len (t := t) (A := A) (x := x) h16 N 0 (b0 x S) (by omega) F0
  have s20 : ∀ i, xR (fgl t x (List.range' 0 N) (b0 x S)) 20 i = xR S 20 i := fun i => by rw [fgl_R (by omega), r20]
  obtain ⟨M6, e6, h6, f6⟩ := br97 h16 hx N 0 n5 M5 _ h5 (by rw [s20]; exact hN) (by rw [s20]; exact ht) (by omega) (by omega) (by omega)
  refine ⟨M6, ?_, ?_, Fr.tr F1 (Fr.tr f2 (Fr.tr f3 (Fr.tr f4 (Fr.tr f5 f6))))⟩
  · rw [f_X10_breakDown, rs_f h.1, hnd, obd_s, if_neg ne10, h.get0 x6, obd_s, if_pos h0, h.get7 x6, obd_s, h7, if_neg ne01, h.let7 x6, hM1, obd_s, rs_f h1.1, e2, obd_s, rs_f h2.1, e3, obd_s, e4, show (0 : Int32) = nI 0 from rfl, e5, show (0 : Int32) = nI 0 from rfl, e6]
  · unfold bd
    rw [List.range_eq_range']
    exact h6
/-! ===== a node breaks: what is held after it ===== -/
/-- x erased: of the sets in use; of what the arbiters that F tells know -/
def eF (x : Nat) (F : Nat → Bool) (S : St) : St := ((fun k i => if k = 3 then bof (S.1 3 i) x else if (k = 4 ∨ k = 5) ∧ S.1 0 i = 1 then bof (S.1 k i) x else if (8 ≤ k ∧ k ≤ 10) ∧ F i = true ∧ S.1 8 i = nI x then (if k = 8 then -1 else 0) else S.1 k i), (fun i => if F i = true then (S.2.1 i).filter (fun w => !decide (w.1 = x)) else S.2.1 i), S.2.2)
theorem eF_R (x : Nat) (F : Nat → Bool) (S : St) (k i : Nat) : xR (eF x F S) k i = if k = 3 then bof (xR S 3 i) x else if (k = 4 ∨ k = 5) ∧ xR S 0 i = 1 then bof (xR S k i) x else if (8 ≤ k ∧ k ≤ 10) ∧ F i = true ∧ xR S 8 i = nI x then (if k = 8 then -1 else 0) else xR S k i := rfl
theorem eF_W (x : Nat) (F : Nat → Bool) (S : St) (i : Nat) : xW (eF x F S) i = if F i = true then (xW S i).filter (fun w => !decide (w.1 = x)) else xW S i := rfl
theorem eF_L (x : Nat) (F : Nat → Bool) (S : St) : xL (eF x F S) = xL S := rfl
theorem eF_Rk {x : Nat} {F : Nat → Bool} {S : St} {k i : Nat} (h : k < 3 ∨ k = 6 ∨ k = 7 ∨ 10 < k) : xR (eF x F S) k i = xR S k i := by
  rw [eF_R, if_neg (by omega), if_neg (by omega), if_neg (by omega)]
def Fm (F : Nat → Bool) (a : Nat) : Nat → Bool := fun i => F i && !decide (i = a)
theorem Fm_a (F : Nat → Bool) (a : Nat) : Fm F a a = false := by unfold Fm; simp
theorem Fm_o {F : Nat → Bool} {a i : Nat} (h : i ≠ a) : Fm F a i = F i := by unfold Fm; simp [h]
theorem sn_Rg (t : Int32) (k f g : Nat) (s : Int32) (S : St) (a b : Nat) : xR (sn t k f g s S) a b = if a = 16 ∧ b = k then xR S 16 k + 1 else xR S a b := rfl
theorem nob_Rg (a : Nat) (S : St) (k i : Nat) : xR (nob a S) k i = if k = 10 ∧ i = a then 0 else if k = 9 ∧ i = a then 0 else if k = 8 ∧ i = a then -1 else xR S k i := by
  unfold nob
  rw [xR_uR, xR_uR, xR_uR]
theorem nob_id {a : Nat} {S : St} (h8 : xR S 8 a = -1) (h9 : xR S 9 a = 0) (h10 : xR S 10 a = 0) : nob a S = S := by
  refine St.ext (fun k i => ?_) rfl rfl rfl rfl
  rw [nob_Rg]
  by_cases c : k = 10 ∧ i = a
  · rw [if_pos c, c.1, c.2, h10]
  · rw [if_neg c]
    by_cases d : k = 9 ∧ i = a
    · rw [if_pos d, d.1, d.2, h9]
    · rw [if_neg d]
      by_cases e : k = 8 ∧ i = a
      · rw [if_pos e, e.1, e.2, h8]
      · rw [if_neg e]
theorem flt_id {l : List Wtr} {x : Nat} (h : x ∉ l.map Prod.fst) : l.filter (fun w => !decide (w.1 = x)) = l := by
  apply List.filter_eq_self.mpr
  intro w hw
  have : w.1 ≠ x := fun z => h (by rw [← z]; exact List.mem_map_of_mem hw)
  rw [decide_eq_false this]; rfl
theorem kc (k : Nat) : k = 3 ∨ k = 4 ∨ k = 5 ∨ k = 8 ∨ k = 9 ∨ k = 10 ∨ k = 16 ∨ (k ≠ 3 ∧ k ≠ 4 ∧ k ≠ 5 ∧ k ≠ 8 ∧ k ≠ 9 ∧ k ≠ 10 ∧ k ≠ 16) := by omega
theorem gsn_R (t : Int32) (a : Nat) (w : Wtr) (r : List Wtr) (T : St) (k i : Nat) : xR (sn t 1 a w.1 w.2 (uW (uR (uR (nob a T) 8 a (nI w.1)) 9 a w.2) a r)) k i = if k = 16 ∧ i = 1 then xR T 16 1 + 1 else if k = 9 ∧ i = a then w.2 else if k = 8 ∧ i = a then nI w.1 else if k = 10 ∧ i = a then 0 else xR T k i := by
  rw [sn_Rg]
  by_cases z1 : k = 16 ∧ i = 1
  · rw [if_pos z1, if_pos z1]
    simp [xR_uW, xR_uR, nob_Rg]
  · rw [if_neg z1, if_neg z1]
    simp only [xR_uW, xR_uR, nob_Rg]
    by_cases z2 : k = 9 ∧ i = a
    · rw [if_pos z2, if_pos z2]
    · rw [if_neg z2, if_neg z2]
      by_cases z3 : k = 8 ∧ i = a
      · rw [if_pos z3, if_neg z2, if_pos z3]
      · rw [if_neg z3, if_neg z3, if_neg z2, if_neg z3]
set_option maxHeartbeats 2000000 in
theorem eF_step {t : Int32} {x a : Nat} {F : Nat → Bool} {S : St} (hF : F a = true) (hW : xR S 8 a = nI x → x ∉ (xW S a).map Prod.fst) : eF x (Fm F a) (fgt t a x S) = if xR S 8 a = nI x then gF t a (eF x F S) else eF x F S := by
  unfold fgt
  by_cases c : xR S 8 a = nI x
  · rw [if_pos c, if_pos c]
    have fl := flt_id (hW c)
    unfold gF
    have eW : xW (eF x F S) a = xW S a := by rw [eF_W, if_pos hF, fl]
    rw [eW]
    cases hw : xW S a with
    | nil =>
      simp only []
      refine St.ext (fun k i => ?_) ?_ rfl rfl rfl
      · rcases kc k with rfl | rfl | rfl | rfl | rfl | rfl | rfl | ⟨n3, n4, n5, n8, n9, n10, n16⟩
        · by_cases ia : i = a
          · subst ia; simp [eF_R, nob_Rg, Fm_a, hF, c]
          · simp [eF_R, nob_Rg, Fm_o ia, ia]
        · by_cases ia : i = a
          · subst ia; simp [eF_R, nob_Rg, Fm_a, hF, c]
          · simp [eF_R, nob_Rg, Fm_o ia, ia]
        · by_cases ia : i = a
          · subst ia; simp [eF_R, nob_Rg, Fm_a, hF, c]
          · simp [eF_R, nob_Rg, Fm_o ia, ia]
        · by_cases ia : i = a
          · subst ia; simp [eF_R, nob_Rg, Fm_a, hF, c]
          · simp [eF_R, nob_Rg, Fm_o ia, ia]
        · by_cases ia : i = a
          · subst ia; simp [eF_R, nob_Rg, Fm_a, hF, c]
          · simp [eF_R, nob_Rg, Fm_o ia, ia]
        · by_cases ia : i = a
          · subst ia; simp [eF_R, nob_Rg, Fm_a, hF, c]
          · simp [eF_R, nob_Rg, Fm_o ia, ia]
        · by_cases ia : i = a
          · subst ia; simp [eF_R, nob_Rg, Fm_a, hF, c]
          · simp [eF_R, nob_Rg, Fm_o ia, ia]
        · rw [eF_Rk (by omega), nob_Rg, nob_Rg, eF_Rk (by omega)]
      · funext i
        show (if Fm F a i = true then (xW S i).filter _ else xW S i) = if F i = true then (xW S i).filter _ else xW S i
        by_cases ia : i = a
        · subst ia
          rw [Fm_a, hF, hw]; rfl
        · rw [Fm_o ia]
    | cons w r =>
      simp only []
      refine St.ext (fun k i => ?_) ?_ rfl rfl rfl
      · rcases kc k with rfl | rfl | rfl | rfl | rfl | rfl | rfl | ⟨n3, n4, n5, n8, n9, n10, n16⟩
        · by_cases ia : i = a
          · subst ia; simp [eF_R, gsn_R, Fm_a, hF, c]
          · simp [eF_R, gsn_R, Fm_o ia, ia]
        · by_cases ia : i = a
          · subst ia; simp [eF_R, gsn_R, Fm_a, hF, c]
          · simp [eF_R, gsn_R, Fm_o ia, ia]
        · by_cases ia : i = a
          · subst ia; simp [eF_R, gsn_R, Fm_a, hF, c]
          · simp [eF_R, gsn_R, Fm_o ia, ia]
        · by_cases ia : i = a
          · subst ia; simp [eF_R, gsn_R, Fm_a, hF, c]
          · simp [eF_R, gsn_R, Fm_o ia, ia]
        · by_cases ia : i = a
          · subst ia; simp [eF_R, gsn_R, Fm_a, hF, c]
          · simp [eF_R, gsn_R, Fm_o ia, ia]
        · by_cases ia : i = a
          · subst ia; simp [eF_R, gsn_R, Fm_a, hF, c]
          · simp [eF_R, gsn_R, Fm_o ia, ia]
        · by_cases ia : i = a
          · subst ia; simp [eF_R, gsn_R, Fm_a, hF, c]
          · simp [eF_R, gsn_R, Fm_o ia, ia]
        · rw [eF_Rk (by omega), gsn_R, gsn_R, eF_Rk (by omega), eF_Rk (by omega)]
      · funext i
        show (if Fm F a i = true then (if i = a then r else xW S i).filter _ else if i = a then r else xW S i) = if i = a then r else (if F i = true then (xW S i).filter _ else xW S i)
        by_cases ia : i = a
        · subst ia
          rw [Fm_a, if_neg (by decide), if_pos rfl, if_pos rfl]
        · rw [Fm_o ia, if_neg ia, if_neg ia]
  · rw [if_neg c, if_neg c]
    refine St.ext (fun k i => ?_) ?_ rfl rfl rfl
    · rw [eF_R, eF_R, xR_uW]
      by_cases ia : i = a
      · subst ia
        rw [Fm_a, if_neg (show ¬ ((8 ≤ k ∧ k ≤ 10) ∧ false = true ∧ _) from fun z => absurd z.2.1 (by decide)), if_neg (show ¬ ((8 ≤ k ∧ k ≤ 10) ∧ F i = true ∧ xR S 8 i = nI x) from fun z => c z.2.2)]
      · rw [Fm_o ia]
    · funext i
      show (if Fm F a i = true then (if i = a then _ else xW S i).filter _ else if i = a then _ else xW S i) = if F i = true then (xW S i).filter _ else xW S i
      by_cases ia : i = a
      · subst ia
        rw [Fm_a, if_neg (by decide), if_pos rfl, hF, if_pos rfl]
      · rw [Fm_o ia, if_neg ia]
/-! ===== a node breaks: x erased, what is held of the rest ===== -/
theorem engW_flt {l : List Wtr} {x v : Nat} : engW (l.filter fun w => !decide (w.1 = x)) v = if v = x then none else engW l v := by
  induction l with
  | nil => simp [engW]
  | cons w r ih =>
    by_cases c : w.1 = x
    · rw [List.filter_cons_of_neg (by simp [c]), ih]
      by_cases d : v = x
      · rw [if_pos d, if_pos d]
      · rw [if_neg d, if_neg d]
        show _ = if w.1 = v then some w.2 else engW r v
        rw [if_neg (by omega)]
    · rw [List.filter_cons_of_pos (by simp [c])]
      show (if w.1 = v then some w.2 else engW (r.filter fun w => !decide (w.1 = x)) v) = if v = x then none else (if w.1 = v then some w.2 else engW r v)
      rw [ih]
      by_cases d : v = x
      · rw [if_pos d, if_pos d, if_neg (by omega)]
      · rw [if_neg d, if_neg d]
def e0 (x : Nat) (S : St) : St := eF x (fun _ => true) (b0 x S)
theorem e0_k {x : Nat} {S : St} {k i : Nat} (h : k < 3 ∨ k = 6 ∨ 10 < k) : xR (e0 x S) k i = xR S k i := by
  unfold e0
  rw [eF_Rk (by omega), b0_R, if_neg (by omega), if_neg (by omega), if_neg (by omega)]
theorem e0_7 {x : Nat} {S : St} {i : Nat} : xR (e0 x S) 7 i = if i = x then 1 else xR S 7 i := by
  unfold e0
  rw [eF_Rk (by omega), b0_R]
  by_cases c : i = x
  · rw [if_pos ⟨c, rfl⟩, if_pos c]
  · rw [if_neg (fun z => c z.1), if_neg (by omega), if_neg (by omega), if_neg c]
theorem e0_3 {x : Nat} {S : St} {i : Nat} : xR (e0 x S) 3 i = bof (xR S 3 i) x := by
  unfold e0
  rw [eF_R, if_pos rfl, b0_R, if_neg (by omega), if_neg (by omega), if_neg (by omega)]
theorem e0_45 {x : Nat} {S : St} {k i : Nat} (h : k = 4 ∨ k = 5) : xR (e0 x S) k i = if xR S 0 i = 1 then bof (xR S k i) x else xR S k i := by
  have b00 : xR (b0 x S) 0 i = xR S 0 i := by rw [b0_R, if_neg (by omega), if_neg (by omega), if_neg (by omega)]
  have bk : xR (b0 x S) k i = xR S k i := by rw [b0_R, if_neg (by omega), if_neg (by omega), if_neg (by omega)]
  unfold e0
  rw [eF_R, if_neg (by omega), b00, bk]
  by_cases c : xR S 0 i = 1
  · rw [if_pos ⟨h, c⟩, if_pos c]
  · rw [if_neg (fun z => c z.2), if_neg (by omega), if_neg c]
theorem e0_8 {x : Nat} {S : St} (hx : x < 16) (i : Nat) : (xR (e0 x S) 8 i = -1 ∧ xR (e0 x S) 9 i = 0 ∧ xR (e0 x S) 10 i = 0 ∧ (i = x ∨ xR S 8 i = nI x)) ∨ (i ≠ x ∧ ¬ xR S 8 i = nI x ∧ ∀ k, 8 ≤ k → k ≤ 10 → xR (e0 x S) k i = xR S k i) := by
  have g : ∀ k, 8 ≤ k → k ≤ 10 → xR (e0 x S) k i = if xR (b0 x S) 8 i = nI x then (if k = 8 then -1 else 0) else xR (b0 x S) k i := fun k h1 h2 => by
    unfold e0
    rw [eF_R, if_neg (by omega), if_neg (by omega)]
    by_cases c : xR (b0 x S) 8 i = nI x
    · rw [if_pos ⟨⟨h1, h2⟩, rfl, c⟩, if_pos c]
    · rw [if_neg (fun z => c z.2.2), if_neg c]
  by_cases c : i = x
  · left
    have b8 : xR (b0 x S) 8 i = -1 := by rw [b0_R, if_neg (by omega), if_pos ⟨c, rfl⟩]
    have n8 : ¬ xR (b0 x S) 8 i = nI x := by rw [b8]; exact m1_ne hx
    refine ⟨?_, ?_, ?_, Or.inl c⟩
    · rw [g 8 (by decide) (by decide), if_neg n8]; exact b8
    · rw [g 9 (by decide) (by decide), if_neg n8, b0_R, if_neg (by omega), if_neg (by omega), if_pos ⟨c, Or.inl rfl⟩]
    · rw [g 10 (by decide) (by decide), if_neg n8, b0_R, if_neg (by omega), if_neg (by omega), if_pos ⟨c, Or.inr rfl⟩]
  · have bk : ∀ k, xR (b0 x S) k i = xR S k i := fun k => by rw [b0_R, if_neg (by omega), if_neg (by omega), if_neg (by omega)]
    by_cases d : xR S 8 i = nI x
    · left
      refine ⟨?_, ?_, ?_, Or.inr d⟩
      · rw [g 8 (by decide) (by decide), bk, if_pos d]; rfl
      · rw [g 9 (by decide) (by decide), bk, if_pos d]; rfl
      · rw [g 10 (by decide) (by decide), bk, if_pos d]; rfl
    · right
      exact ⟨c, d, fun k h1 h2 => by rw [g k h1 h2, bk, bk, if_neg d]⟩
theorem e0_W {x : Nat} {S : St} {i : Nat} : xW (e0 x S) i = if i = x then [] else (xW S i).filter fun w => !decide (w.1 = x) := by
  unfold e0
  rw [eF_W, if_pos rfl, b0_W]
  by_cases c : i = x
  · rw [if_pos c, if_pos c]; rfl
  · rw [if_neg c, if_neg c]
theorem e0_L {x : Nat} {S : St} {l : Nat} : xL (e0 x S) l = if l < 256 ∧ (l / 16 = x ∨ l % 16 = x) then [] else xL S l := rfl
theorem e0_eng {x : Nat} {S : St} (hx : x < 16) {a v : Nat} (hv : v < 16) : eng (e0 x S) a v = if v = x ∨ a = x then none else eng S a v := by
  unfold eng
  rw [e0_W]
  rcases e0_8 (S := S) hx a with ⟨z8, z9, z10, z⟩ | ⟨z1, z2, z3⟩
  · rw [z8, if_neg (m1_ne hv)]
    by_cases c : a = x
    · rw [if_pos c, if_pos (Or.inr c)]; rfl
    · rw [if_neg c, engW_flt]
      by_cases d : v = x
      · rw [if_pos d, if_pos (Or.inl d)]
      · have e8 := z.resolve_left c
        rw [if_neg d, if_neg (fun q => q.elim d c), e8, if_neg (nI_ne (by omega) (by omega) (fun q => d q.symm))]
  · rw [z3 8 (by decide) (by decide), z3 9 (by decide) (by decide), if_neg z1, engW_flt]
    by_cases d : v = x
    · rw [if_pos (Or.inl d), if_pos d, d, if_neg z2]
    · rw [if_neg (show ¬ (v = x ∨ a = x) from fun q => q.elim d z1), if_neg d]
theorem Wok.flt {N A x : Nat} {l : List Wtr} (h : Wok N A l) : Wok N A (l.filter fun w => !decide (w.1 = x)) := h.sub List.filter_sublist
set_option maxHeartbeats 1000000 in
theorem e0_Inv {N A x : Nat} {S : St} (h : Inv N A S) (h16 : N ≤ 16) (hx : x < N) (h0 : xR S 0 x = 0) : Inv N A (e0 x S) := by
  obtain ⟨ja, jb, jc, jd, je, jf, jg, jh⟩ := h
  have x6 : x < 16 := by omega
  have ro : ∀ v b, b < 32 → b ≠ x → opn (e0 x S) v b = opn S v b := fun v b hb n => by
    unfold opn
    rw [e0_k (k := 0) (by omega), e0_k (k := 2) (by omega), e0_3, bt_off _ (by omega) hb, decide_eq_false n]
    simp
  have rx : ∀ v, opn (e0 x S) v x = none := fun v => by
    unfold opn
    rw [if_neg]
    rintro ⟨_, z⟩
    rw [e0_3, bt_off _ (by omega) (by omega), decide_eq_true rfl] at z
    simp at z
  have rv : ∀ b, opn (e0 x S) x b = none := fun b => by
    unfold opn
    rw [e0_k (by omega), if_neg (fun z => z.1 h0)]
  have zo : ∀ {v a s}, a < 32 → a ≠ x → Zok S v a s → Zok (e0 x S) v a s := fun {v a s} ha n z => by
    obtain ⟨p, m, z1, z2, z3, z4, z5⟩ := z
    refine ⟨p, m, z1, by rw [e0_k (by omega)]; exact z2, z3, z4, fun q1 q2 => ?_⟩
    rw [e0_k (by omega)] at q2
    rw [e0_3, bt_off _ (by omega) ha, z5 q1 q2, decide_eq_false n]; rfl
  refine ⟨?_, ?_, ?_, ?_, ?_, ?_, ?_, ?_⟩
  · intro v hv
    obtain ⟨x1, x2, x3, x4⟩ := ja v hv
    rw [e0_k (by omega), e0_7]
    refine ⟨x1, x2, ?_, ?_⟩
    · split
      · exact Or.inr rfl
      · exact x3
    · rcases e0_8 (S := S) x6 v with ⟨_, _, z10, _⟩ | ⟨_, _, z3⟩
      · exact Or.inl z10
      · rw [z3 10 (by decide) (by decide)]; exact x4
  · intro v hv i hi hi2
    rw [e0_3, bt_off _ (by omega) hi2, jb v hv i hi hi2]; rfl
  · intro v hv q1 i hi
    rw [e0_k (by omega)] at q1
    rw [e0_45 (k := 4) (by omega), e0_45 (k := 5) (by omega), if_pos q1, if_pos q1, e0_3, bt_off _ (by omega) hi, bt_off _ (by omega) hi, bt_off _ (by omega) hi]
    have := jc v hv q1 i hi
    constructor
    · intro z
      obtain ⟨z1, z2⟩ := Bool.and_eq_true _ _ |>.mp z
      rw [this.1 z1, z2]; rfl
    · intro z
      obtain ⟨z1, z2⟩ := Bool.and_eq_true _ _ |>.mp z
      rw [this.2 z1, z2]; rfl
  · intro v hv
    rw [e0_k (by omega), e0_k (by omega)]; exact jd v hv
  · intro l hl
    rw [e0_L]
    split
    · exact ⟨fun y hy => by (cases hy), fun _ => rfl⟩
    · exact je l hl
  · intro a ha
    obtain ⟨f1, f2, f3⟩ := jf a ha
    rw [e0_W]
    refine ⟨?_, ?_, ?_⟩
    · split
      · exact ⟨List.Pairwise.nil, List.nodup_nil, fun w hw => by (cases hw)⟩
      · exact f1.flt
    · intro z
      rw [f2 z]; split <;> rfl
    · rcases e0_8 (S := S) x6 a with ⟨z8, z9, z10, z⟩ | ⟨z1, z2, z3⟩
      · exact Or.inl ⟨z8, z9, z10⟩
      · rw [z3 8 (by decide) (by decide), z3 9 (by decide) (by decide), z3 10 (by decide) (by decide), if_neg z1]
        rcases f3 with f3 | ⟨g, g1, g2, g3, g4⟩
        · exact Or.inl f3
        · exact Or.inr ⟨g, g1, g2, fun m => g3 (flt_fst.mp m).1, g4⟩
  · intro v hv a ha
    rw [oe_99 (by omega), e0_eng x6 (by omega), e0_L, show (16 * v + a) / 16 = v by omega, show (16 * v + a) % 16 = a by omega]
    by_cases c : v = x ∨ a = x
    · rw [if_pos c, if_pos ⟨by omega, c⟩]
      rcases c with c | c
      · rw [c, rv]; rfl
      · rw [c, rx]; rfl
    · rw [if_neg c, if_neg (fun z => c z.2), ro v a (by omega) (fun z => c (Or.inr z))]
      have := jg v hv a ha
      rw [oe_99 (by omega)] at this
      exact this
  · intro v hv a ha
    obtain ⟨j1, j2, j3⟩ := jh v hv a ha
    rw [oe_99 (by omega), e0_eng x6 (by omega), e0_L, e0_L, show (16 * v + a) / 16 = v by omega, show (16 * v + a) % 16 = a by omega, show (16 * a + v) / 16 = a by omega, show (16 * a + v) % 16 = v by omega]
    by_cases c : v = x ∨ a = x
    · rw [if_pos c, if_pos ⟨by omega, c⟩, if_pos ⟨by omega, c.elim Or.inr Or.inl⟩]
      exact ⟨fun s z => by (cases z), fun y hy => by (cases hy), fun y hy => by (cases hy)⟩
    · have na : a ≠ x := fun z => c (Or.inr z)
      rw [if_neg c, if_neg (fun z => c z.2), if_neg (fun z => c (z.2.elim Or.inr Or.inl))]
      rw [oe_99 (by omega)] at j1
      exact ⟨fun s z => zo (by omega) na (j1 s z), fun y q1 q2 => zo (by omega) na (j2 y q1 q2), fun y q1 q2 => zo (by omega) na (j3 y q1 q2)⟩
/-- besides: doubts only where one asks, no sets of who doesn't, none broken behind the last -/
def IZ (N : Nat) (S : St) : Prop := (∀ v, v < 16 → ∀ i, i < 32 → bt (xR S 5 v) i = true → xR S 0 v = 1) ∧ (∀ v, v < 16 → xR S 0 v = 0 → xR S 3 v = 0) ∧ ∀ v, N ≤ v → v < 16 → xR S 7 v = 0 ∧ xR S 8 v = -1
theorem bof_z {x : Nat} : bof 0 x = 0 := by
  apply b_ext
  intro i hi
  unfold bof
  rw [b_and, b_0]; rfl
theorem e0_IZ {N x : Nat} {S : St} (h : IZ N S) (hx : x < N) (h16 : N ≤ 16) : IZ N (e0 x S) := by
  obtain ⟨z1, z2, z3⟩ := h
  refine ⟨fun v hv i hi hb => ?_, fun v hv q => ?_, fun v a b => ?_⟩
  · rw [e0_k (by omega)]
    rw [e0_45 (by omega)] at hb
    by_cases c : xR S 0 v = 1
    · exact c
    · rw [if_neg c] at hb
      exact z1 v hv i hi hb
  · rw [e0_k (by omega)] at q
    rw [e0_3, z2 v hv q, bof_z]
  · refine ⟨by rw [e0_7, if_neg (by omega)]; exact (z3 v a b).1, ?_⟩
    rcases e0_8 (S := S) (x := x) (by omega) v with ⟨y, _⟩ | ⟨_, _, y⟩
    · exact y
    · rw [y 8 (by decide) (by decide)]; exact (z3 v a b).2
theorem e0_IX {N A x : Nat} {S : St} (hI : Inv N A S) (h : IX N S) (h16 : N ≤ 16) (hx : x < N) (h0 : xR S 0 x = 0) : IX N (e0 x S) := by
  obtain ⟨hQ, hV, hK⟩ := h
  have x6 : x < 16 := by omega
  refine ⟨fun a ha => ?_, fun v hv q i hi hb => ?_, fun y hy q => ?_⟩
  · intro w hw h8 hh
    rcases e0_8 (S := S) x6 a with ⟨z8, _⟩ | ⟨z1, z2, z3⟩
    · exact absurd z8 h8
    · rw [z3 8 (by decide) (by decide)] at h8 hh
      rw [z3 9 (by decide) (by decide)] at hh
      rw [z3 10 (by decide) (by decide)]
      rw [e0_W, if_neg z1] at hw
      exact hQ a ha w (List.mem_filter.mp hw).1 h8 hh
  · rw [e0_k (by omega)] at q
    rw [e0_45 (by omega), if_neg (by rw [q]; decide)]
    rw [e0_3, bt_off _ (by omega) (by omega)] at hb
    exact hV v hv q i hi (Bool.and_eq_true _ _ |>.mp hb).1
  · rw [e0_k (by omega)]
    have L0 : ∀ u, u < 16 → (xL S (16 * y + u) = [] → xL (e0 x S) (16 * y + u) = []) ∧ (xL S (16 * u + y) = [] → xL (e0 x S) (16 * u + y) = []) := fun u hu => by
      rw [e0_L, e0_L]
      constructor
      · intro z; split
        · rfl
        · exact z
      · intro z; split
        · rfl
        · exact z
    by_cases c : y = x
    · subst c
      refine ⟨h0, fun u hu => ?_, fun u hu => ?_⟩
      · rw [e0_3, bt_off _ (by omega) (by omega), decide_eq_true rfl]; simp
      · rw [e0_L, e0_L, if_pos (by omega), if_pos (by omega)]; exact ⟨rfl, rfl⟩
    · rw [e0_7, if_neg c] at q
      obtain ⟨a1, a2, a3⟩ := hK y hy q
      refine ⟨a1, fun u hu => ?_, fun u hu => ⟨(L0 u hu).1 (a3 u hu).1, (L0 u hu).2 (a3 u hu).2⟩⟩
      rw [e0_3, bt_off _ (by omega) (by omega), a2 u hu]; rfl
theorem sum_flt (f : Nat × Ltr → Bool) (a : Nat) : ∀ l : List (Nat × Ltr), ((l.filter f).map (lwa a)).sum ≤ (l.map (lwa a)).sum := by
  intro l
  induction l with
  | nil => exact Nat.le_refl _
  | cons y l ih =>
    by_cases c : f y = true
    · rw [List.filter_cons_of_pos c, List.map_cons, List.map_cons, List.sum_cons, List.sum_cons]; omega
    · rw [List.filter_cons_of_neg c, List.map_cons, List.sum_cons]; omega
theorem e0_Ph {x a : Nat} {S : St} (hx : x < 16) (ha : a < 16) : Ph a (e0 x S) ≤ Ph a S := by
  have h1 : phL a (e0 x S) ≤ phL a S := by
    have e : xL (e0 x S) = xL (drp x S) := rfl
    rw [phL_c e]
    unfold phL
    rw [fl_drp]
    exact sum_flt _ _ _
  have h2 : phB a (e0 x S) ≤ phB a S := by
    unfold phB
    refine smN_le 16 (fun v _ => ?_)
    have := phv_le (S := S) (S' := e0 x S) (a := a) (v := v) (e := False) (by
      rw [e0_45 (by omega), e0_3, bt_off _ (by omega) (by omega)]
      rintro ⟨z1, z2⟩
      refine Or.inl ⟨?_, (Bool.and_eq_true _ _ |>.mp z2).1⟩
      split at z1
      · rw [bt_off _ (by omega) (by omega)] at z1
        exact (Bool.and_eq_true _ _ |>.mp z1).1
      · exact z1) (by
      rw [e0_45 (by omega)]
      intro z1
      split at z1
      · rw [bt_off _ (by omega) (by omega)] at z1
        exact (Bool.and_eq_true _ _ |>.mp z1).1
      · exact z1)
    rw [if_neg (fun z => z)] at this
    omega
  unfold Ph
  omega
