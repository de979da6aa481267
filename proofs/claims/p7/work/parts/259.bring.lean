/-! ===== the class brings a letter ===== -/
theorem f_isNode {M : Mem} {h X Y N : Nat} {t : Int32} {Q : Nat → Int32} {S : St} {pb pt : List Row4} (p : HV M h X Y t N Q S pb pt) (h16 : N ≤ 16) {v : Nat} (hv : v < N) : f_X7_isNode 1 (nI v) M = some 1 := by
  rw [f_X7_isNode, if_neg (show ¬ nI v < 0 from nI_nlt (b := 0) (by omega) (by omega)), cs_s p.1, p.2.2.2.2.2.1, if_neg (nI_ge (by omega) (by omega))]
theorem mx_clk (S : St) (g : Nat) (s : Int32) : (if s ≤ xR S 1 g then S else uR S 1 g s) = uR S 1 g (if xR S 1 g < s then s else xR S 1 g) := mx_le S 1 g s
set_option maxHeartbeats 2000000 in
theorem HV.tbr {M : Mem} {h X Y N A n : Nat} {t : Int32} {Q : Nat → Int32} {S : St} {pb pt : List Row4} (p : HV M h X Y t N Q S pb pt) (hI : Inv N A S) (hA : A < 1048576) (h2 : 2 ≤ N) (h16 : N ≤ 16) {f g : Nat} (hf : f < N) (hg : g < N) {x : Ltr} {r : List Ltr} (hx : xL S (16 * f + g) = x :: r) (hl : (fl S).length + N ≤ 9000) (hn : 17 ≤ n) : ∃ M', f_X2_bringFirst n h (nI f) (nI g) M = some (x.1, M') ∧ HV M' h X Y t N Q (br t N f g S) pb pt ∧ FrH M M' h := by
  have q := p.1
  have f6 : f < 16 := by omega
  have g6 : g < 16 := by omega
  obtain ⟨⟨k, hk, ek⟩, s, hs, es⟩ := (hI.2.2.2.2.1 _ (show 16 * f + g < 256 by omega)).1 x (by rw [hx]; simp)
  obtain ⟨M1, e1, p1, f1⟩ := p.take f6 g6 hx
  have l1 := fl_uL_len S (l := 16 * f + g) (by omega) r
  rw [hx, List.length_cons] at l1
  have kind : encC x &&& (7 : Int32) = nI k := encC_kind (by omega) ek
  have stp : encC x >>> ((3 : Int32) &&& 31) = nI s := encC_stamp (by omega) ek (by omega) es
  have ne1 : ¬ encC x = (-1 : Int32) := fun z => by
    rw [z] at kind
    have : (7 : Int32) = nI k := kind
    exact absurd ((nI_eq (a := 7) (by omega) (by omega)).mp this) (by omega)
  have kk : x.1.toNatClampNeg = k := by rw [ek, nI_clamp (by omega)]
  obtain ⟨h1, p0, p5, pz⟩ := hI.pop h16 hf hg hx
  have wl := wt_WL N k f g (nI s) (uL S (16 * f + g) r)
  have sm := wt_S N k f g (nI s) (uL S (16 * f + g) r)
  obtain ⟨M2, e2, p2, f2⟩ := p1.twt h16 (k := k) hf hg (nI s)
  have h2' := h1.reg sm wl.2
  have h3 := h2'.clk h16 hA (g := g) (s := s) g6 hs
  have l2 : (fl (wt N k f g (nI s) (uL S (16 * f + g) r))).length = (fl (uL S (16 * f + g) r)).length := by rw [fl_L wl.2]
  generalize hS2 : wt N k f g (nI s) (uL S (16 * f + g) r) = S2 at h2' h3 wl sm p2 l2
  have e0 := p2.fs g6 (a := 0) (k := 1) (by decide)
  obtain ⟨p3, f3⟩ := p2.fld (a := 0) (k := 1) (x := if xR S2 1 g < nI s then nI s else xR S2 1 g) g6 (by decide) (by decide)
  generalize hM3 : sI M2 (h + 17 + 2 * g) 0 (if xR S2 1 g < nI s then nI s else xR S2 1 g) = M3 at p3 f3
  rw [← mx_clk] at p3
  have l3 : (fl (if nI s ≤ xR S2 1 g then S2 else uR S2 1 g (nI s))).length = (fl S2).length := by rw [fl_2 clk_2]
  have q2 : ∀ k, k < 11 → k ≠ 6 → ∀ i, xR S2 k i = xR S k i := fun k hk hk6 i => sm.2 k hk hk6 i
  have er : br t N f g S = rd t N k f g (nI s) S2 := by
    unfold br
    rw [hx]
    simp only []
    rw [kk, es, hS2]
  generalize hS3 : (if nI s ≤ xR S2 1 g then S2 else uR S2 1 g (nI s)) = S3 at h3 p3 l3
  have r3 : ∀ k, k ≠ 1 → ∀ i, xR S3 k i = xR S2 k i := fun k hk i => by rw [← hS3]; exact clk_R hk
  have w3 : xW S3 = xW S2 := by rw [← hS3]; unfold xW; rw [clk_2]
  have e3 : ∀ b u, eng S3 b u = eng S b u := fun b u => by
    unfold eng
    rw [r3 8 (by decide), r3 9 (by decide), w3, q2 8 (by decide) (by decide), q2 9 (by decide) (by decide), sm.1]
    rfl
  have hF := h3.2.2.2.2.2.1 g g6
  have hAA := h3.1
  have hok := Hok_of h3 h16 (f := f) hg (nI s)
  have fr := (f1.tr f2).tr f3
  have hin : ∀ w, N ≤ w → w < 16 → xR S3 0 w ≠ 2 := fun w a b => by
    rw [(hAA w b).2.1 a]; decide
  have hcls : ∀ y : Option (Int32 × Mem), f_X2_bringFirst_35 n h (nI f) (nI g) (encC x) M1 = y → f_X2_bringFirst n h (nI f) (nI g) M = y := by
    intro y hy
    rw [f_X2_bringFirst, cs_f q, cs_h0 q, bnd_e, cs_s q, f_isNode p h16 hf, obd_s, if_neg ne10, bnd_e, cs_s q, f_isNode p h16 hg, obd_s, if_neg ne10, cs_h1 q, bnd_e, cs_p q, e1, obd2_s]
    exact hy
  have q1 := p1.1
  have q2m := p2.1
  have kd : ∀ b : Nat, b < 6 → k ≠ b → ¬ nI k = nI b := fun b hb hne => nI_ne (by omega) (by omega) hne
  have h35 : ∀ y : Option (Int32 × Mem), (if nI k = (0 : Int32) then (obd (f_X2_hearRequest n h (nI f) (nI g) (nI s) M3) fun M35 => some (nI k, M35)) else (if nI k = (1 : Int32) then (obd (f_X2_hearGrant n h (nI f) (nI g) (nI s) M3) fun M39 => some (nI k, M39)) else (if nI k = (2 : Int32) then (obd (f_X2_hearFail n h (nI f) (nI g) (nI s) M3) fun M43 => some (nI k, M43)) else (if nI k = (3 : Int32) then (obd (f_X2_hearInquire h (nI f) (nI g) (nI s) M3) fun M47 => some (nI k, M47)) else (if nI k = (4 : Int32) then (obd (f_X2_hearYield n h (nI f) (nI g) (nI s) M3) fun M51 => some (nI k, M51)) else (obd (f_X2_hearRelease n h (nI f) (nI g) (nI s) M3) fun M53 => some (nI k, M53))))))) = y → f_X2_bringFirst_35 n h (nI f) (nI g) (encC x) M1 = y := by
    intro y hy
    rw [f_X2_bringFirst_35, if_neg ne1, f_X5_kindOf, kind, obd_s, f_X5_stampOf, stp, obd_s, cs_f q1, e2, obd_s, cs_f q2m, cs_h2 q2m, bnd_e, cs_a10 q2m, cs_i10 q2m g6, cs_rpc q2m g6, bnd_e, cs_po q2m g6, bnd_e, cs_a10 q2m, cs_i10 q2m g6, cs_rpc q2m g6, bnd_e, cs_po q2m g6, e0, hM3, bnd_e]
    exact hy
  rw [er, ek]
  unfold rd
  simp only []
  rw [hS3]
  have fin : ∀ {M' : Mem} {S' : St}, f_X2_bringFirst_35 n h (nI f) (nI g) (encC x) M1 = some (nI k, M') → HV M' h X Y t N Q S' pb pt → FrH M3 M' h → ∃ M', f_X2_bringFirst n h (nI f) (nI g) M = some (nI k, M') ∧ HV M' h X Y t N Q S' pb pt ∧ FrH M M' h := fun e p' f' => ⟨_, hcls _ e, p', fr.tr f'⟩
  have other : ¬ k = 0 → ¬ k = 5 → Inv N A S3 := by
    intro k0 k5
    have : popE S f g x = eng S3 g f := by
      unfold popE
      rw [ek, if_neg (nI_ne (by omega) (by decide) k0), if_neg (nI_ne (by omega) (by decide) k5), e3]
    rw [this] at h3
    exact (InvG.id h16).mp h3
  have zz : k = 1 ∨ k = 2 ∨ k = 3 → xR S3 0 g = 1 → xR S3 2 g = nI s → bt (xR S3 3 g) f = true := by
    intro hk3 c1 c2
    have z := pz (by rw [ek]; rcases hk3 with rfl | rfl | rfl <;> simp)
    obtain ⟨a, b, z1, z2, z3, z4, z5⟩ := z
    rw [r3 3 (by decide), q2 3 (by decide) (by decide)]
    rw [r3 0 (by decide), q2 0 (by decide) (by decide)] at c1
    rw [r3 2 (by decide), q2 2 (by decide) (by decide)] at c2
    refine z5 ?_ c1
    have : nI b = nI a := z2.symm.trans (c2.trans (es.symm.trans z1))
    exact ((nI_eq (by omega) (by omega)).mp this).symm
  rcases (show k = 0 ∨ k = 1 ∨ k = 2 ∨ k = 3 ∨ k = 4 ∨ k = 5 by omega) with rfl | rfl | rfl | rfl | rfl | rfl
  · have en : eng S3 g f = none := by rw [e3]; exact p0 ek
    have hnv : f ∉ (xW S3 g).map Prod.fst := by
      unfold eng at en
      by_cases c : xR S3 8 g = nI f
      · rw [if_pos c] at en; exact absurd en (by simp)
      · rw [if_neg c] at en
        exact engW_none.mp en
    obtain ⟨M4, e4, p4, f4⟩ := p3.trq h16 g6 hf hs hF.1 hnv hok.2.2.2 (hAA g g6).2.2.2 (by omega) hn
    rw [if_pos rfl]
    exact fin (h35 _ (by rw [if_pos (show nI 0 = (0 : Int32) from rfl), e4, obd_s])) p4 f4
  · have hIn := other (by decide) (by decide)
    obtain ⟨M4, e4, p4, f4⟩ := p3.tgr h16 (a := f) (v := g) (s := nI s) (by omega) hg hin (fun c1 c2 => ⟨zz (Or.inl rfl) c1 c2, fun i hi z => (hIn.2.2.1 g g6 c1 i hi).1 z⟩) hn
    rw [if_neg (by decide), if_neg (by decide), if_neg (by decide), if_pos (show (1 : Nat) = 1 from rfl)]
    exact fin (h35 _ (by rw [if_neg (show ¬ nI 1 = (0 : Int32) by decide), if_pos (show nI 1 = (1 : Int32) from rfl), e4, obd_s])) p4 f4
  · have hIn := other (by decide) (by decide)
    obtain ⟨M4, e4, p4, f4⟩ := p3.tfd h16 (a := f) (v := g) (s := nI s) g6 (fun c1 i hi1 hi2 => by
      cases d : bt (xR S3 5 g) i with
      | false => rfl
      | true =>
        have := (hIn.2.2.1 g g6 c1 i hi2).2 d
        rw [hIn.2.1 g g6 i hi1 hi2] at this
        exact absurd this (by decide)) (by omega) hn
    rw [if_neg (by decide), if_neg (by decide), if_neg (by decide), if_neg (show ¬ (2 : Nat) = 1 by decide), if_pos (show (2 : Nat) = 2 from rfl)]
    exact fin (h35 _ (by rw [if_neg (show ¬ nI 2 = (0 : Int32) by decide), if_neg (show ¬ nI 2 = (1 : Int32) by decide), if_pos (show nI 2 = (2 : Int32) from rfl), e4, obd_s])) p4 f4
  · obtain ⟨M4, e4, p4, f4⟩ := p3.tiq (a := f) (v := g) (s := nI s) f6 g6 (by omega)
    rw [if_neg (by decide), if_neg (by decide), if_neg (by decide), if_neg (show ¬ (3 : Nat) = 1 by decide), if_neg (show ¬ (3 : Nat) = 2 by decide)]
    exact fin (h35 _ (by rw [if_neg (show ¬ nI 3 = (0 : Int32) by decide), if_neg (show ¬ nI 3 = (1 : Int32) by decide), if_neg (show ¬ nI 3 = (2 : Int32) by decide), if_pos (show nI 3 = (3 : Int32) from rfl), e4, obd_s])) p4 f4
  · obtain ⟨M4, e4, p4, f4⟩ := p3.tyl h16 (a := g) (v := f) (s := s) g6 hf hs hF.1 (fun z => by
      rcases hF.2.2 with y | ⟨y, z1, z2, z3, _⟩
      · rw [y.1] at z
        exact absurd z (m1_ne f6)
      · have : y = f := (nI_eq (by omega) (by omega)).mp (z2.symm.trans z)
        rw [← this]; exact z3) (by omega) hn
    rw [if_neg (by decide), if_pos (show (4 : Nat) = 4 from rfl)]
    exact fin (h35 _ (by rw [if_neg (show ¬ nI 4 = (0 : Int32) by decide), if_neg (show ¬ nI 4 = (1 : Int32) by decide), if_neg (show ¬ nI 4 = (2 : Int32) by decide), if_neg (show ¬ nI 4 = (3 : Int32) by decide), if_pos (show nI 4 = (4 : Int32) from rfl), e4, obd_s])) p4 f4
  · obtain ⟨M4, e4, p4, f4⟩ := p3.trl h16 (a := g) (v := f) (s := nI s) g6 f6 hF.1 (by omega) hn
    rw [if_neg (by decide), if_neg (by decide), if_pos (show (5 : Nat) = 5 from rfl)]
    exact fin (h35 _ (by rw [if_neg (show ¬ nI 5 = (0 : Int32) by decide), if_neg (show ¬ nI 5 = (1 : Int32) by decide), if_neg (show ¬ nI 5 = (2 : Int32) by decide), if_neg (show ¬ nI 5 = (3 : Int32) by decide), if_neg (show ¬ nI 5 = (4 : Int32) by decide), e4, obd_s])) p4 f4
