/-! ===== the class: what is written down of a bringing ===== -/
def bmp (v : Nat) (S : St) : St := if xR S 0 v = 1 then uR S 14 v (xR S 14 v + 1) else S
theorem bmp_R (v : Nat) (S : St) (k i : Nat) : xR (bmp v S) k i = if k = 14 ∧ i = v ∧ xR S 0 v = 1 then xR S 14 v + 1 else xR S k i := by
  unfold bmp
  by_cases c : xR S 0 v = 1
  · rw [if_pos c, xR_uR]
    by_cases d : k = 14 ∧ i = v
    · rw [if_pos d, if_pos ⟨d.1, d.2, c⟩]
    · rw [if_neg d, if_neg (fun z => d ⟨z.1, z.2.1⟩)]
  · rw [if_neg c, if_neg (fun z => c z.2.2)]
theorem bmp_2 (v : Nat) (S : St) : (bmp v S).2 = S.2 := by
  unfold bmp
  split <;> rfl
theorem wtl_R (f g : Nat) (k i : Nat) : ∀ (ws : List Nat) (S : St), ws.Nodup → xR (wtl f g ws S) k i = if k = 14 ∧ i ∈ ws ∧ xR S 0 i = 1 ∧ (i = f ∨ i = g) then xR S 14 i + 1 else xR S k i := by
  intro ws
  induction ws with
  | nil => intro S _; rw [if_neg (fun z => by simp at z)]; rfl
  | cons w ws ih =>
    intro S hd
    have hd2 := List.nodup_cons.mp hd
    have e : wtl f g (w :: ws) S = wtl f g ws (if xR S 0 w = 1 ∧ (w = f ∨ w = g) then uR S 14 w (xR S 14 w + 1) else S) := by
      unfold wtl; rw [List.foldl_cons]
    rw [e, ih _ hd2.2]
    by_cases c : xR S 0 w = 1 ∧ (w = f ∨ w = g)
    · rw [if_pos c]
      have e0 : xR (uR S 14 w (xR S 14 w + 1)) 0 i = xR S 0 i := by rw [xR_uR, if_neg (by omega)]
      rw [e0]
      by_cases d : k = 14 ∧ i ∈ ws ∧ xR S 0 i = 1 ∧ (i = f ∨ i = g)
      · have n : i ≠ w := fun z => hd2.1 (z ▸ d.2.1)
        rw [if_pos d, if_pos ⟨d.1, List.mem_cons_of_mem _ d.2.1, d.2.2⟩, xR_uR, if_neg (fun z => n z.2)]
      · rw [if_neg d, xR_uR]
        by_cases b : k = 14 ∧ i = w
        · rw [if_pos b, if_pos ⟨b.1, by rw [b.2]; simp, by rw [b.2]; exact c⟩, b.2]
        · rw [if_neg b, if_neg]
          rintro ⟨z1, z2, z3⟩
          rcases List.mem_cons.mp z2 with z | z
          · exact b ⟨z1, z⟩
          · exact d ⟨z1, z, z3⟩
    · rw [if_neg c]
      by_cases d : k = 14 ∧ i ∈ ws ∧ xR S 0 i = 1 ∧ (i = f ∨ i = g)
      · rw [if_pos d, if_pos ⟨d.1, List.mem_cons_of_mem _ d.2.1, d.2.2⟩]
      · rw [if_neg d, if_neg]
        rintro ⟨z1, z2, z3⟩
        rcases List.mem_cons.mp z2 with z | z
        · exact c (z ▸ z3)
        · exact d ⟨z1, z, z3⟩
theorem wtl_e {N f g : Nat} (hf : f < N) (hg : g < N) (S : St) : wtl f g (List.range N) S = if f = g then bmp g S else bmp f (bmp g S) := by
  have h2 : (wtl f g (List.range N) S).2 = S.2 := wtl_W f g _ S
  have hR : ∀ k i, xR (wtl f g (List.range N) S) k i = xR (if f = g then bmp g S else bmp f (bmp g S)) k i := fun k i => by
    rw [wtl_R f g k i _ S List.nodup_range]
    have m : i ∈ List.range N ↔ i < N := List.mem_range
    by_cases c : f = g
    · subst c
      rw [if_pos rfl, bmp_R]
      by_cases d : k = 14 ∧ i = f ∧ xR S 0 f = 1
      · rw [if_pos d, if_pos ⟨d.1, m.mpr (by omega), by rw [d.2.1]; exact d.2.2, Or.inl d.2.1⟩, d.2.1]
      · rw [if_neg d, if_neg]
        rintro ⟨z1, _, z3, z4⟩
        rcases z4 with z4 | z4
        · exact d ⟨z1, z4, z4 ▸ z3⟩
        · exact d ⟨z1, z4, z4 ▸ z3⟩
    · rw [if_neg c, bmp_R, bmp_R, bmp_R, bmp_R, if_neg (show ¬ ((0 : Nat) = 14 ∧ f = g ∧ xR S 0 g = 1) from fun z => by omega), if_neg (show ¬ ((14 : Nat) = 14 ∧ f = g ∧ xR S 0 g = 1) from fun z => c z.2.1)]
      by_cases d : k = 14 ∧ i = f ∧ xR S 0 f = 1
      · rw [if_pos d, if_pos ⟨d.1, m.mpr (by omega), by rw [d.2.1]; exact d.2.2, Or.inl d.2.1⟩, d.2.1]
      · rw [if_neg d]
        by_cases b : k = 14 ∧ i = g ∧ xR S 0 g = 1
        · rw [if_pos b, if_pos ⟨b.1, m.mpr (by omega), by rw [b.2.1]; exact b.2.2, Or.inr b.2.1⟩, b.2.1]
        · rw [if_neg b, if_neg]
          rintro ⟨z1, _, z3, z4⟩
          rcases z4 with z4 | z4
          · exact d ⟨z1, z4, z4 ▸ z3⟩
          · exact b ⟨z1, z4, z4 ▸ z3⟩
  have hZ : (if f = g then bmp g S else bmp f (bmp g S)).2 = S.2 := by
    split
    · exact bmp_2 _ _
    · rw [bmp_2, bmp_2]
  have h3 := h2.trans hZ.symm
  refine St.ext hR ?_ ?_ ?_ ?_
  · unfold xW; rw [h3]
  · unfold xL; rw [h3]
  · unfold xE; rw [h3]
  · unfold xT; rw [h3]
theorem HV.b14 {M : Mem} {h X Y N : Nat} {t : Int32} {Q : Nat → Int32} {S : St} {pb pt : List Row4} (p : HV M h X Y t N Q S pb pt) {v : Nat} (hv : v < 16) : HV (sI M (h + 17 + 2 * v) 14 ((mI M (h + 17 + 2 * v) 14) + (1 : Int32))) h X Y t N Q (bmp v S) pb pt ∧ FrH M (sI M (h + 17 + 2 * v) 14 ((mI M (h + 17 + 2 * v) 14) + (1 : Int32))) h := by
  obtain ⟨a1, a2, a3, a4, a5⟩ := p.2.2.1.1 v hv
  unfold bmp
  by_cases c : xR S 0 v = 1
  · rw [if_pos c, a3 c]
    exact p.s14 hv
  · rw [if_neg c]
    refine ⟨p.at rfl (fun o n b => mI_o _ _ _ _ _ (by omega)) (p.2.2.1.at ⟨fun p hp => ?_, ?_, fun z => absurd z c, fun u hu => ?_, fun w hw => ?_⟩ (fun o _ n _ b => mI_o _ _ _ _ _ n) (fun _ _ _ _ _ _ => rfl) rfl rfl rfl (fun _ _ => rfl)) rfl rfl rfl rfl, FrH.sI (by omega)⟩
    · have lim : ∀ p, p ∈ ft → p.1 ≠ 14 := by decide
      rw [mI_n _ _ _ _ (lim p hp)]; exact a1 p hp
    · rw [mI_n _ _ _ _ (by decide)]; exact a2
    · rw [mI_n _ _ _ _ (by decide)]; exact a4 u hu
    · rw [mI_o _ _ _ _ _ (by omega)]; exact a5 w hw
set_option maxHeartbeats 1000000 in
theorem HV.twt {M : Mem} {h X Y N : Nat} {t : Int32} {Q : Nat → Int32} {S : St} {pb pt : List Row4} (p : HV M h X Y t N Q S pb pt) (h16 : N ≤ 16) {k f g : Nat} (hf : f < N) (hg : g < N) (s : Int32) : ∃ M', f_X2_noteBringing h (nI k) (nI f) (nI g) s M = some M' ∧ HV M' h X Y t N Q (wt N k f g s S) pb pt ∧ FrH M M' h := by
  have q := p.1
  have f6 : f < 16 := by omega
  have g6 : g < 16 := by omega
  have g10 := p.gs (b := 10) (j := 1) (by decide)
  obtain ⟨p1, f1⟩ := p.gw (b := 10) (j := 1) (by decide) (xR S 15 1 + 1)
  generalize hMa : sI M h 10 (xR S 15 1 + 1) = Ma at p1 f1
  obtain ⟨Mb, e2, p2, f2⟩ := p1.lgT (nI k) (nI f) (nI g) s
  have b12 := p2.fs g6 (a := 12) (k := 18) (by decide)
  rw [xR_uT, xR_uR, if_neg (by omega)] at b12
  obtain ⟨p3, f3⟩ := p2.fld (a := 12) (k := 18) (x := xR S 18 g + 1) g6 (by decide) (by decide)
  generalize hMc : sI Mb (h + 17 + 2 * g) 12 (xR S 18 g + 1) = Mc at p3 f3
  obtain ⟨p4, f4⟩ := p3.b14 g6
  generalize hMd : sI Mc (h + 17 + 2 * g) 14 ((mI Mc (h + 17 + 2 * g) 14) + (1 : Int32)) = Md at p4 f4
  have q1 := p1.1
  have q2 := p2.1
  have q3 := p3.1
  have q4 := p4.1
  have ew : wt N k f g s S = if f = g then bmp g (uR (uT (uR S 15 1 (xR S 15 1 + 1)) (nI k, nI f, nI g, s)) 18 g (xR S 18 g + 1)) else bmp f (bmp g (uR (uT (uR S 15 1 (xR S 15 1 + 1)) (nI k, nI f, nI g, s)) 18 g (xR S 18 g + 1))) := by
    unfold wt
    rw [wtl_e hf hg]
    rfl
  rw [ew, f_X2_noteBringing, cs_f q, g10, hMa, bnd_e, cs_h4 q1, bnd_e, chk_t (cs_e13 q1).1, e2, obd_s, cs_f q2, cs_h2 q2, bnd_e, cs_a10 q2, cs_i10 q2 g6, cs_rpc q2 g6, bnd_e, cs_po q2 g6, b12, hMc, bnd_e, cs_h2 q3, bnd_e, cs_a10 q3, cs_i10 q3 g6, cs_rpc q3 g6, bnd_e, cs_po q3 g6, hMd, bnd_e]
  by_cases c : f = g
  · rw [if_pos (show nI f = nI g by rw [c]), if_pos c]
    exact ⟨Md, rfl, p4, ((f1.tr f2).tr f3).tr f4⟩
  · rw [if_neg (nI_ne (by omega) (by omega) c), if_neg c]
    obtain ⟨p5, f5⟩ := p4.b14 f6
    generalize hMe : sI Md (h + 17 + 2 * f) 14 ((mI Md (h + 17 + 2 * f) 14) + (1 : Int32)) = Me at p5 f5
    exact ⟨Me, by rw [cs_h2 q4, bnd_e, cs_a10 q4, cs_i10 q4 f6, cs_rpc q4 f6, bnd_e, cs_po q4 f6, hMe, bnd_e], p5, (((f1.tr f2).tr f3).tr f4).tr f5⟩
/-! ===== the class brings a letter ===== -/
theorem f_isNode {M : Mem} {h X Y N : Nat} {t : Int32} {Q : Nat → Int32} {S : St} {pb pt : List Row4} (p : HV M h X Y t N Q S pb pt) (h16 : N ≤ 16) {v : Nat} (hv : v < N) : f_X7_isNode 1 (nI v) M = some 1 := by
  rw [f_X7_isNode, if_neg (show ¬ nI v < 0 from nI_nlt (b := 0) (by omega) (by omega)), cs_s p.1, p.2.2.2.2.2.1, if_neg (nI_ge (by omega) (by omega))]
theorem mx_clk (S : St) (g : Nat) (s : Int32) : (if s ≤ xR S 1 g then S else uR S 1 g s) = uR S 1 g (if xR S 1 g < s then s else xR S 1 g) := mx_le S 1 g s
set_option maxHeartbeats 2000000 in
theorem HV.tbr {M : Mem} {h X Y N A n : Nat} {t : Int32} {Q : Nat → Int32} {S : St} {pb pt : List Row4} (p : HV M h X Y t N Q S pb pt) (hI : Inv N A S) (hA : A < 1048576) (h2 : 2 ≤ N) (h16 : N ≤ 16) {f g : Nat} (hf : f < N) (hg : g < N) {x : Ltr} {r : List Ltr} (hx : xL S (16 * f + g) = x :: r) (hl : (fl S).length + N ≤ 9000) (hn : 17 ≤ n) : ∃ M', f_X2_bringFirst n h (nI f) (nI g) M = some (x.1, M') ∧ HV M' h X Y t N Q (br t N f g S) pb pt ∧ FrH M M' h := by
  have q := p.1
  have f6 : f < 16 := by omega
  have g6 : g < 16 := by omega
  obtain ⟨⟨k, hk, ek⟩, s, hs, es⟩ := (hI.2.2.2.2.1 _ (show 16 * f + g < 256 by omega)).1 x (by rw [hx]; simp)
  obtain ⟨M1, e1, p1, f1⟩ := p.take f6 g6 hx
  have l1 := fl_uL_len S (l := 16 * f + g) (by omega) r
  rw [hx, List.length_cons] at l1
  have kind : encC x &&& (7 : Int32) = nI k := encC_kind (by omega) ek
  have stp : encC x >>> ((3 : Int32) &&& 31) = nI s := encC_stamp (by omega) ek (by omega) es
  have ne1 : ¬ encC x = (-1 : Int32) := fun z => by
    rw [z] at kind
    have : (7 : Int32) = nI k := kind
    exact absurd ((nI_eq (a := 7) (by omega) (by omega)).mp this) (by omega)
  have kk : x.1.toNatClampNeg = k := by rw [ek, nI_clamp (by omega)]
  obtain ⟨h1, p0, p5, pz⟩ := hI.pop h16 hf hg hx
  have wl := wt_WL N k f g (nI s) (uL S (16 * f + g) r)
  have sm := wt_S N k f g (nI s) (uL S (16 * f + g) r)
  obtain ⟨M2, e2, p2, f2⟩ := p1.twt h16 (k := k) hf hg (nI s)
  have h2' := h1.reg sm wl.2
  have h3 := h2'.clk h16 hA (g := g) (s := s) g6 hs
  have l2 : (fl (wt N k f g (nI s) (uL S (16 * f + g) r))).length = (fl (uL S (16 * f + g) r)).length := by rw [fl_L wl.2]
  generalize hS2 : wt N k f g (nI s) (uL S (16 * f + g) r) = S2 at h2' h3 wl sm p2 l2
  have e0 := p2.fs g6 (a := 0) (k := 1) (by decide)
  obtain ⟨p3, f3⟩ := p2.fld (a := 0) (k := 1) (x := if xR S2 1 g < nI s then nI s else xR S2 1 g) g6 (by decide) (by decide)
  generalize hM3 : sI M2 (h + 17 + 2 * g) 0 (if xR S2 1 g < nI s then nI s else xR S2 1 g) = M3 at p3 f3
  rw [← mx_clk] at p3
  have l3 : (fl (if nI s ≤ xR S2 1 g then S2 else uR S2 1 g (nI s))).length = (fl S2).length := by rw [fl_2 clk_2]
  have q2 : ∀ k, k < 11 → k ≠ 6 → ∀ i, xR S2 k i = xR S k i := fun k hk hk6 i => sm.2 k hk hk6 i
  have er : br t N f g S = rd t N k f g (nI s) S2 := by
    unfold br
    rw [hx]
    simp only []
    rw [kk, es, hS2]
  generalize hS3 : (if nI s ≤ xR S2 1 g then S2 else uR S2 1 g (nI s)) = S3 at h3 p3 l3
  have r3 : ∀ k, k ≠ 1 → ∀ i, xR S3 k i = xR S2 k i := fun k hk i => by rw [← hS3]; exact clk_R hk
  have w3 : xW S3 = xW S2 := by rw [← hS3]; unfold xW; rw [clk_2]
  have e3 : ∀ b u, eng S3 b u = eng S b u := fun b u => by
    unfold eng
    rw [r3 8 (by decide), r3 9 (by decide), w3, q2 8 (by decide) (by decide), q2 9 (by decide) (by decide), sm.1]
    rfl
  have hF := h3.2.2.2.2.2.1 g g6
  have hAA := h3.1
  have hok := Hok_of h3 h16 (f := f) hg (nI s)
  have fr := (f1.tr f2).tr f3
  have hin : ∀ w, N ≤ w → w < 16 → xR S3 0 w ≠ 2 := fun w a b => by
    rw [(hAA w b).2.1 a]; decide
  have hcls : ∀ y : Option (Int32 × Mem), f_X2_bringFirst_35 n h (nI f) (nI g) (encC x) M1 = y → f_X2_bringFirst n h (nI f) (nI g) M = y := by
    intro y hy
    rw [f_X2_bringFirst, cs_f q, cs_h0 q, bnd_e, cs_s q, f_isNode p h16 hf, obd_s, if_neg ne10, bnd_e, cs_s q, f_isNode p h16 hg, obd_s, if_neg ne10, cs_h1 q, bnd_e, cs_p q, e1, obd2_s]
    exact hy
  have q1 := p1.1
  have q2m := p2.1
  have kd : ∀ b : Nat, b < 6 → k ≠ b → ¬ nI k = nI b := fun b hb hne => nI_ne (by omega) (by omega) hne
  have h35 : ∀ y : Option (Int32 × Mem), (if nI k = (0 : Int32) then (obd (f_X2_hearRequest n h (nI f) (nI g) (nI s) M3) fun M35 => some (nI k, M35)) else (if nI k = (1 : Int32) then (obd (f_X2_hearGrant n h (nI f) (nI g) (nI s) M3) fun M39 => some (nI k, M39)) else (if nI k = (2 : Int32) then (obd (f_X2_hearFail n h (nI f) (nI g) (nI s) M3) fun M43 => some (nI k, M43)) else (if nI k = (3 : Int32) then (obd (f_X2_hearInquire h (nI f) (nI g) (nI s) M3) fun M47 => some (nI k, M47)) else (if nI k = (4 : Int32) then (obd (f_X2_hearYield n h (nI f) (nI g) (nI s) M3) fun M51 => some (nI k, M51)) else (obd (f_X2_hearRelease n h (nI f) (nI g) (nI s) M3) fun M53 => some (nI k, M53))))))) = y → f_X2_bringFirst_35 n h (nI f) (nI g) (encC x) M1 = y := by
    intro y hy
    rw [f_X2_bringFirst_35, if_neg ne1, f_X5_kindOf, kind, obd_s, f_X5_stampOf, stp, obd_s, cs_f q1, e2, obd_s, cs_f q2m, cs_h2 q2m, bnd_e, cs_a10 q2m, cs_i10 q2m g6, cs_rpc q2m g6, bnd_e, cs_po q2m g6, bnd_e, cs_a10 q2m, cs_i10 q2m g6, cs_rpc q2m g6, bnd_e, cs_po q2m g6, e0, hM3, bnd_e]
    exact hy
  rw [er, ek]
  unfold rd
  simp only []
  rw [hS3]
  have fin : ∀ {M' : Mem} {S' : St}, f_X2_bringFirst_35 n h (nI f) (nI g) (encC x) M1 = some (nI k, M') → HV M' h X Y t N Q S' pb pt → FrH M3 M' h → ∃ M', f_X2_bringFirst n h (nI f) (nI g) M = some (nI k, M') ∧ HV M' h X Y t N Q S' pb pt ∧ FrH M M' h := fun e p' f' => ⟨_, hcls _ e, p', fr.tr f'⟩
  have other : ¬ k = 0 → ¬ k = 5 → Inv N A S3 := by
    intro k0 k5
    have : popE S f g x = eng S3 g f := by
      unfold popE
      rw [ek, if_neg (nI_ne (by omega) (by decide) k0), if_neg (nI_ne (by omega) (by decide) k5), e3]
    rw [this] at h3
    exact (InvG.id h16).mp h3
  have zz : k = 1 ∨ k = 2 ∨ k = 3 → xR S3 0 g = 1 → xR S3 2 g = nI s → bt (xR S3 3 g) f = true := by
    intro hk3 c1 c2
    have z := pz (by rw [ek]; rcases hk3 with rfl | rfl | rfl <;> simp)
    obtain ⟨a, b, z1, z2, z3, z4, z5⟩ := z
    rw [r3 3 (by decide), q2 3 (by decide) (by decide)]
    rw [r3 0 (by decide), q2 0 (by decide) (by decide)] at c1
    rw [r3 2 (by decide), q2 2 (by decide) (by decide)] at c2
    refine z5 ?_ c1
    have : nI b = nI a := z2.symm.trans (c2.trans (es.symm.trans z1))
    exact ((nI_eq (by omega) (by omega)).mp this).symm
  rcases (show k = 0 ∨ k = 1 ∨ k = 2 ∨ k = 3 ∨ k = 4 ∨ k = 5 by omega) with rfl | rfl | rfl | rfl | rfl | rfl
  · have en : eng S3 g f = none := by rw [e3]; exact p0 ek
    have hnv : f ∉ (xW S3 g).map Prod.fst := by
      unfold eng at en
      by_cases c : xR S3 8 g = nI f
      · rw [if_pos c] at en; exact absurd en (by simp)
      · rw [if_neg c] at en
        exact engW_none.mp en
    obtain ⟨M4, e4, p4, f4⟩ := p3.trq h16 g6 hf hs hF.1 hnv hok.2.2.2 (hAA g g6).2.2.2 (by omega) hn
    rw [if_pos rfl]
    exact fin (h35 _ (by rw [if_pos (show nI 0 = (0 : Int32) from rfl), e4, obd_s])) p4 f4
  · have hIn := other (by decide) (by decide)
    obtain ⟨M4, e4, p4, f4⟩ := p3.tgr h16 (a := f) (v := g) (s := nI s) (by omega) hg hin (fun c1 c2 => ⟨zz (Or.inl rfl) c1 c2, fun i hi z => (hIn.2.2.1 g g6 c1 i hi).1 z⟩) hn
    rw [if_neg (by decide), if_neg (by decide), if_neg (by decide), if_pos (show (1 : Nat) = 1 from rfl)]
    exact fin (h35 _ (by rw [if_neg (show ¬ nI 1 = (0 : Int32) by decide), if_pos (show nI 1 = (1 : Int32) from rfl), e4, obd_s])) p4 f4
  · have hIn := other (by decide) (by decide)
    obtain ⟨M4, e4, p4, f4⟩ := p3.tfd h16 (a := f) (v := g) (s := nI s) g6 (fun c1 i hi1 hi2 => by
      cases d : bt (xR S3 5 g) i with
      | false => rfl
      | true =>
        have := (hIn.2.2.1 g g6 c1 i hi2).2 d
        rw [hIn.2.1 g g6 i hi1 hi2] at this
        exact absurd this (by decide)) (by omega) hn
    rw [if_neg (by decide), if_neg (by decide), if_neg (by decide), if_neg (show ¬ (2 : Nat) = 1 by decide), if_pos (show (2 : Nat) = 2 from rfl)]
    exact fin (h35 _ (by rw [if_neg (show ¬ nI 2 = (0 : Int32) by decide), if_neg (show ¬ nI 2 = (1 : Int32) by decide), if_pos (show nI 2 = (2 : Int32) from rfl), e4, obd_s])) p4 f4
  · obtain ⟨M4, e4, p4, f4⟩ := p3.tiq (a := f) (v := g) (s := nI s) f6 g6 (by omega)
    rw [if_neg (by decide), if_neg (by decide), if_neg (by decide), if_neg (show ¬ (3 : Nat) = 1 by decide), if_neg (show ¬ (3 : Nat) = 2 by decide)]
    exact fin (h35 _ (by rw [if_neg (show ¬ nI 3 = (0 : Int32) by decide), if_neg (show ¬ nI 3 = (1 : Int32) by decide), if_neg (show ¬ nI 3 = (2 : Int32) by decide), if_pos (show nI 3 = (3 : Int32) from rfl), e4, obd_s])) p4 f4
  · obtain ⟨M4, e4, p4, f4⟩ := p3.tyl h16 (a := g) (v := f) (s := s) g6 hf hs hF.1 (fun z => by
      rcases hF.2.2 with y | ⟨y, z1, z2, z3, _⟩
      · rw [y.1] at z
        exact absurd z (m1_ne f6)
      · have : y = f := (nI_eq (by omega) (by omega)).mp (z2.symm.trans z)
        rw [← this]; exact z3) (by omega) hn
    rw [if_neg (by decide), if_pos (show (4 : Nat) = 4 from rfl)]
    exact fin (h35 _ (by rw [if_neg (show ¬ nI 4 = (0 : Int32) by decide), if_neg (show ¬ nI 4 = (1 : Int32) by decide), if_neg (show ¬ nI 4 = (2 : Int32) by decide), if_neg (show ¬ nI 4 = (3 : Int32) by decide), if_pos (show nI 4 = (4 : Int32) from rfl), e4, obd_s])) p4 f4
  · obtain ⟨M4, e4, p4, f4⟩ := p3.trl h16 (a := g) (v := f) (s := nI s) g6 f6 hF.1 (by omega) hn
    rw [if_neg (by decide), if_neg (by decide), if_pos (show (5 : Nat) = 5 from rfl)]
    exact fin (h35 _ (by rw [if_neg (show ¬ nI 5 = (0 : Int32) by decide), if_neg (show ¬ nI 5 = (1 : Int32) by decide), if_neg (show ¬ nI 5 = (2 : Int32) by decide), if_neg (show ¬ nI 5 = (3 : Int32) by decide), if_neg (show ¬ nI 5 = (4 : Int32) by decide), e4, obd_s])) p4 f4
/-! ===== the class: the moves, in their order ===== -/
def ms (x : Int32) : List Nat := (List.range 16).filter fun i => bt x i
theorem pc_ms {x : Int32} (h : ∀ i, 16 ≤ i → i < 32 → bt x i = false) : pc x = (ms x).length := by
  unfold pc ms
  have e : List.range 32 = List.range 16 ++ List.range' 16 16 := by decide
  rw [e, List.filter_append, List.length_append]
  have z : (List.range' 16 16).filter (fun i => bt x i) = [] := by
    rw [List.filter_eq_nil_iff]
    intro i hi
    have := List.mem_range'_1.mp hi
    rw [h i this.1 (by omega)]
    decide
  rw [z]
  rfl
theorem mem_l (x : Int32) (M : Mem) : ∀ (d j i n v : Nat), j + d = 16 → d + 1 ≤ n → i < 16 → ((List.range' j d).filter fun i => bt x i)[i]? = some v → f_X9_memberAt_4 M n x (nI i) (nI j) = some (nI v) := by
  intro d
  induction d with
  | zero => intro j i n v _ _ _ h; simp at h
  | succ d ih =>
    intro j i n v hj hn hi h
    obtain ⟨n, rfl⟩ : ∃ m, n = m + 1 := ⟨n - 1, by omega⟩
    rw [List.range'_succ, List.filter_cons] at h
    rw [f_X9_memberAt_4, if_neg (show ¬ (16 : Int32) ≤ nI j from nI_ge (a := j) (b := 16) (by omega) (by decide)), f_has9 _ (by omega), obd_s]
    by_cases c : bt x j = true
    · rw [if_pos c] at h
      rw [if_pos c, if_neg ne10]
      cases i with
      | zero =>
        rw [if_pos (by rfl)]
        have : j = v := by simpa using h
        rw [this]
      | succ i =>
        rw [if_neg (nI_ne0 (by omega) (by omega)), show nI (i + 1) + (-1 : Int32) = nI i by rw [← nI_pred i, Int32.sub_eq_add_neg], bnd_e, nI_1, bnd_e]
        exact ih (j + 1) i n v (by omega) (by omega) (by omega) (by simpa using h)
    · rw [if_neg c] at h
      rw [if_neg c, if_pos rfl, nI_1, bnd_e]
      exact ih (j + 1) i n v (by omega) (by omega) hi h
theorem f_member {x : Int32} {i v n : Nat} (M : Mem) (hn : 17 ≤ n) (h : (ms x)[i]? = some v) : f_X9_memberAt n x (nI i) M = some (nI v) := by
  have hl : (ms x).length ≤ 16 := by
    have := List.length_filter_le (fun i => bt x i) (List.range 16)
    rw [List.length_range] at this
    exact this
  have hi : i < 16 := by
    rcases Nat.lt_or_ge i (ms x).length with q | q
    · omega
    · rw [List.getElem?_eq_none q] at h; exact absurd h (by simp)
  unfold ms at h
  rw [List.range_eq_range'] at h
  exact mem_l x M 16 0 i n v rfl (by omega) hi h
theorem HV.busy {M : Mem} {h X Y N : Nat} {t : Int32} {Q : Nat → Int32} {S : St} {pb pt : List Row4} (p : HV M h X Y t N Q S pb pt) {f g : Nat} (hf : f < 16) (hg : g < 32) : bt (mI M (h + 5) f) g = decide (g < 16 ∧ xL S (16 * f + g) ≠ []) := by
  obtain ⟨d5, d6, d7, len, K, fr, us, ow, w, hK⟩ := p.2.1
  rw [w.2.2.2.2.2.2.1 f hf g hg]
  by_cases c : g < 16
  · have := hK (16 * f + g) (by omega)
    have e : (K (16 * f + g) ≠ []) ↔ xL S (16 * f + g) ≠ [] := by
      rw [← this]
      constructor
      · intro z y
        exact z (List.map_eq_nil_iff.mp y)
      · intro z y
        rw [y] at z
        exact z rfl
    by_cases d : xL S (16 * f + g) = []
    · simp [c, d, e]
    · simp [c, d, e]
  · simp [c]
/-- whither letters of f's are under way -/
def lnf (S : St) (f : Nat) : List Nat := (List.range 16).filter fun g => !(xL S (16 * f + g)).isEmpty
def lnr (S : St) (f d : Nat) : List Nat := (List.range' f d).flatMap fun f => (lnf S f).map fun g => 16 * f + g
theorem ms_busy {M : Mem} {h X Y N : Nat} {t : Int32} {Q : Nat → Int32} {S : St} {pb pt : List Row4} (p : HV M h X Y t N Q S pb pt) {f : Nat} (hf : f < 16) : ms (mI M (h + 5) f) = lnf S f := by
  unfold ms lnf
  apply List.filter_congr
  intro g hg
  have := List.mem_range.mp hg
  rw [p.busy hf (by omega)]
  cases xL S (16 * f + g) with
  | nil => simp
  | cons a b => simp [this]
theorem lanes_e (S : St) : lanes S = lnr S 0 16 := by
  have e : List.range 256 = (List.range' 0 16).flatMap fun f => (List.range 16).map fun g => 16 * f + g := by decide +kernel
  unfold lanes lnr lnf
  rw [e, List.filter_flatMap]
  congr 1
  funext f
  rw [List.filter_map]
  rfl
theorem lnr_s (S : St) (f d : Nat) : lnr S f (d + 1) = (lnf S f).map (fun g => 16 * f + g) ++ lnr S (f + 1) d := by
  unfold lnr
  rw [List.range'_succ, List.flatMap_cons]
theorem lnr_z (S : St) : ∀ (d f : Nat), (∀ i, f ≤ i → i < f + d → ∀ g, g < 16 → xL S (16 * i + g) = []) → lnr S f d = [] := by
  intro d
  induction d with
  | zero => intro f _; rfl
  | succ d ih =>
    intro f h
    rw [lnr_s, ih (f + 1) (fun i a b => h i (by omega) (by omega))]
    have : lnf S f = [] := by
      unfold lnf
      rw [List.filter_eq_nil_iff]
      intro g hg
      rw [h f (Nat.le_refl _) (by omega) g (List.mem_range.mp hg)]
      simp
    rw [this]
    rfl
theorem lnr_ap (S : St) : ∀ (d f e : Nat), lnr S f (d + e) = lnr S f d ++ lnr S (f + d) e := by
  intro d
  induction d with
  | zero => intro f e; rw [Nat.zero_add]; rfl
  | succ d ih =>
    intro f e
    rw [show d + 1 + e = (d + e) + 1 by omega, lnr_s, ih, lnr_s, List.append_assoc, show f + 1 + d = f + (d + 1) by omega]
theorem lanes_N {N A : Nat} {S : St} (hI : Inv N A S) (h16 : N ≤ 16) : lanes S = lnr S 0 N := by
  have e := lnr_ap S N 0 (16 - N)
  rw [show N + (16 - N) = 16 by omega] at e
  rw [lanes_e, e, lnr_z S (16 - N) (0 + N) (fun i a b g hg => ?_), List.append_nil]
  exact (hI.2.2.2.2.1 (16 * i + g) (by omega)).2 (by omega)
theorem ms_in {M : Mem} {h X Y N A : Nat} {t : Int32} {Q : Nat → Int32} {S : St} {pb pt : List Row4} (p : HV M h X Y t N Q S pb pt) (hI : Inv N A S) (h16 : N ≤ 16) : ms (mI M h 7) = inss N S := by
  have b7 := p.2.2.1.2.1
  have e : List.range 16 = List.range N ++ List.range' N (16 - N) := by
    have := List.range'_append_1 (s := 0) (m := N) (n := 16 - N)
    rw [Nat.zero_add] at this
    rw [List.range_eq_range', List.range_eq_range', this, show N + (16 - N) = 16 by omega]
  unfold ms inss
  rw [e, List.filter_append]
  have z : (List.range' N (16 - N)).filter (fun i => bt (mI M h 7) i) = [] := by
    rw [List.filter_eq_nil_iff]
    intro i hi
    have := List.mem_range'_1.mp hi
    rw [b7 i (by omega), (hI.1 i (by omega)).2.1 this.1]
    simp
  rw [z, List.append_nil]
  apply List.filter_congr
  intro g hg
  have := List.mem_range.mp hg
  rw [b7 g (by omega)]
  simp [show g < 16 by omega]
theorem cn_l {M : Mem} {h X Y N A : Nat} {t : Int32} {Q : Nat → Int32} {S : St} {pb pt : List Row4} (p : HV M h X Y t N Q S pb pt) (h16 : N ≤ 16) : ∀ (d f n c : Nat), f + d = N → d + 1 ≤ n → f_X2_countMoves_10 M n h (nI c) (nI f) = some (nI (c + (lnr S f d).length)) := by
  intro d
  induction d with
  | zero =>
    intro f n c hf hn
    obtain ⟨n, rfl⟩ : ∃ m, n = m + 1 := ⟨n - 1, by omega⟩
    have q := p.1
    rw [f_X2_countMoves_10, cs_f q, cs_h0 q, bnd_e, cs_s q, p.2.2.2.2.2.1, if_pos (nI_le (by omega) (by omega))]
    rfl
  | succ d ih =>
    intro f n c hf hn
    obtain ⟨n, rfl⟩ : ∃ m, n = m + 1 := ⟨n - 1, by omega⟩
    have q := p.1
    have hb : ∀ i, 16 ≤ i → i < 32 → bt (mI M (h + 5) f) i = false := fun i a b => by
      rw [p.busy (by omega) b]; simp; omega
    rw [f_X2_countMoves_10, cs_f q, cs_h0 q, bnd_e, cs_s q, p.2.2.2.2.2.1, if_neg (nI_ge (by omega) (by omega)), cs_h1 q, bnd_e, cs_p q, cs_r5 q, bnd_e, cs_a5 q, cs_i5 q (by omega), cl_n (by omega), f_bcx hb, obd_s, nI_add, bnd_e, nI_1, bnd_e, ih _ _ _ (by omega) (by omega), pc_ms hb, ms_busy p (by omega), lnr_s, List.length_append, List.length_map, Nat.add_assoc]
theorem HV.cm {M : Mem} {h X Y N A n : Nat} {t : Int32} {Q : Nat → Int32} {S : St} {pb pt : List Row4} (p : HV M h X Y t N Q S pb pt) (hI : Inv N A S) (h16 : N ≤ 16) (hn : 17 ≤ n) : f_X2_countMoves n h M = some (nI (mv0 N S).length) := by
  have b7 := p.2.2.1.2.1
  have hb : ∀ i, 16 ≤ i → i < 32 → bt (mI M h 7) i = false := fun i a b => by
    rw [b7 i b]; simp; omega
  rw [f_X2_countMoves, cs_f p.1, f_bcx hb, obd_s, pc_ms hb, ms_in p hI h16]
  have := cn_l (A := A) p h16 N 0 n (inss N S).length (by omega) (by omega)
  rw [show nI 0 = (0 : Int32) from rfl] at this
  rw [this]
  unfold mv0
  rw [List.length_append, List.length_map, lanes_N hI h16, Nat.add_comm]
set_option maxHeartbeats 1000000 in
theorem mk_l {M : Mem} {h X Y N A : Nat} {t : Int32} {Q : Nat → Int32} {S : St} {pb pt : List Row4} (p : HV M h X Y t N Q S pb pt) (hI : Inv N A S) (hA : A < 1048576) (h2 : 2 ≤ N) (h16 : N ≤ 16) (hl : (fl S).length + N ≤ 9000) {c : Nat} : ∀ (d f n k : Nat), f + d = N → d + 18 ≤ n → k < 1000 → (lnr S f d ++ (inss N S).map (fun v => 256 + v))[k]? = some c → ∃ M', f_X2_makeMove_4 n h (nI k) (nI f) M = some M' ∧ HV M' h X Y t N Q (dm t N c S) pb pt ∧ FrH M M' h := by
  intro d
  induction d with
  | zero =>
    intro f n k hf hn hk hc
    obtain ⟨n, rfl⟩ : ∃ m, n = m + 1 := ⟨n - 1, by omega⟩
    have q := p.1
    have b7 := p.2.2.1.2.1
    have hb : ∀ i, 16 ≤ i → i < 32 → bt (mI M h 7) i = false := fun i a b => by
      rw [b7 i b]; simp; omega
    have hc2 : ((inss N S).map (fun v => 256 + v))[k]? = some c := hc
    rw [List.getElem?_map] at hc2
    cases hv : (inss N S)[k]? with
    | none => rw [hv] at hc2; exact absurd hc2 (by simp)
    | some v =>
      rw [hv] at hc2
      have ev : 256 + v = c := by simpa using hc2
      have hin := inss_in (List.mem_of_getElem? hv)
      have kl : k < (inss N S).length := by
        rcases Nat.lt_or_ge k (inss N S).length with z | z
        · exact z
        · rw [List.getElem?_eq_none z] at hv; exact absurd hv (by simp)
      have l16 : (inss N S).length ≤ 16 := by
        have := List.length_filter_le (fun v => decide (xR S 0 v = 2)) (List.range N)
        rw [List.length_range] at this
        unfold inss; omega
      obtain ⟨M', e', p', f'⟩ := p.tlv (n := n) h16 (v := v) (by omega) hl (by omega)
      refine ⟨M', ?_, ?_, f'⟩
      · rw [f_X2_makeMove_4, cs_f q, cs_h0 q, bnd_e, cs_s q, p.2.2.2.2.2.1, if_pos (nI_le (by omega) (by omega)), f_bcx hb, obd_s, pc_ms hb, ms_in p hI h16, if_neg (nI_ge (by omega) (by omega)), f_member M (by omega) (by rw [ms_in p hI h16]; exact hv), obd_s, e', obd_s]
      · unfold dm
        rw [if_neg (by omega), if_pos (by omega), ← ev, show 256 + v - 256 = v by omega]
        exact p'
  | succ d ih =>
    intro f n k hf hn hk hc
    obtain ⟨n, rfl⟩ : ∃ m, n = m + 1 := ⟨n - 1, by omega⟩
    have q := p.1
    have hb : ∀ i, 16 ≤ i → i < 32 → bt (mI M (h + 5) f) i = false := fun i a b => by
      rw [p.busy (by omega) b]; simp; omega
    rw [lnr_s, List.append_assoc] at hc
    have l16 : (lnf S f).length ≤ 16 := by
      have := List.length_filter_le (fun g => !(xL S (16 * f + g)).isEmpty) (List.range 16)
      rw [List.length_range] at this
      unfold lnf; omega
    by_cases c2 : (lnf S f).length ≤ k
    · rw [List.getElem?_append_right (by rw [List.length_map]; exact c2), List.length_map] at hc
      obtain ⟨M', e', r⟩ := ih (f + 1) n (k - (lnf S f).length) (by omega) (by omega) (by omega) hc
      exact ⟨M', by rw [f_X2_makeMove_4, cs_f q, cs_h0 q, bnd_e, cs_s q, p.2.2.2.2.2.1, if_neg (nI_ge (by omega) (by omega)), cs_h1 q, bnd_e, cs_p q, cs_r5 q, bnd_e, cs_a5 q, cs_i5 q (by omega), mI_c (by omega), f_bcx hb, obd_s, pc_ms hb, ms_busy p (by omega), if_pos (nI_le c2 (by omega)), nI_sb c2, bnd_e, nI_1, bnd_e, e'], r⟩
    · rw [List.getElem?_append_left (by rw [List.length_map]; omega), List.getElem?_map] at hc
      cases hg : (lnf S f)[k]? with
      | none => rw [hg] at hc; exact absurd hc (by simp)
      | some g =>
        rw [hg] at hc
        have ec : 16 * f + g = c := by simpa using hc
        have mg := List.mem_of_getElem? hg
        unfold lnf at mg
        obtain ⟨mg1, mg2⟩ := List.mem_filter.mp mg
        have g16 := List.mem_range.mp mg1
        obtain ⟨x, r, hx⟩ : ∃ x r, xL S (16 * f + g) = x :: r := by
          cases z : xL S (16 * f + g) with
          | nil => rw [z] at mg2; simp at mg2
          | cons x r => exact ⟨x, r, rfl⟩
        have gN : g < N := by
          rcases Nat.lt_or_ge g N with z | z
          · exact z
          · have := (hI.2.2.2.2.1 (16 * f + g) (by omega)).2 (by omega)
            rw [this] at hx
            exact absurd hx (by simp)
        obtain ⟨M', e', p', f'⟩ := p.tbr hI hA h2 h16 (f := f) (g := g) (by omega) gN hx hl (n := n) (by omega)
        refine ⟨M', ?_, ?_, f'⟩
        · rw [f_X2_makeMove_4, cs_f q, cs_h0 q, bnd_e, cs_s q, p.2.2.2.2.2.1, if_neg (nI_ge (by omega) (by omega)), cs_h1 q, bnd_e, cs_p q, cs_r5 q, bnd_e, cs_a5 q, cs_i5 q (by omega), mI_c (by omega), f_bcx hb, obd_s, pc_ms hb, ms_busy p (by omega), if_neg (nI_ge (by omega) (by omega)), bnd_e, cs_p q, cs_r5 q, bnd_e, cs_a5 q, cs_i5 q (by omega), mI_c (by omega), f_member M (by omega) (by rw [ms_busy p (by omega)]; exact hg), obd_s, e', obd2_s]
        · unfold dm
          rw [if_pos (by omega), ← ec, show (16 * f + g) / 16 = f by omega, show (16 * f + g) % 16 = g by omega]
          exact p'
theorem HV.mk {M : Mem} {h X Y N A n k c : Nat} {t : Int32} {Q : Nat → Int32} {S : St} {pb pt : List Row4} (p : HV M h X Y t N Q S pb pt) (hI : Inv N A S) (hA : A < 1048576) (h2 : 2 ≤ N) (h16 : N ≤ 16) (hl : (fl S).length + N ≤ 9000) (hn : 40 ≤ n) (hc : (mv0 N S)[k]? = some c) (hk : k < 1000) : ∃ M', f_X2_makeMove n h (nI k) M = some M' ∧ HV M' h X Y t N Q (dm t N c S) pb pt ∧ FrH M M' h := by
  unfold mv0 at hc
  rw [lanes_N hI h16] at hc
  exact mk_l p hI hA h2 h16 hl N 0 n k (by omega) (by omega) hk hc
/-! ===== the class: a move by a draw; all ask ===== -/
theorem HV.tsL {M : Mem} {h X Y N : Nat} {t : Int32} {Q : Nat → Int32} {S : St} {pb pt : List Row4} (p : HV M h X Y t N Q S pb pt) (o k : Nat) (x : Int64) : HV (sL M o k x) h X Y t N Q S pb pt :=
  p.at rfl (fun _ _ _ => rfl) (p.2.2.1.cg (fun _ _ _ => rfl) (fun _ _ _ => rfl) rfl) rfl rfl rfl rfl
/-- a step with a draw before it -/
def FrD (M M' : Mem) (h : Nat) : Prop := ∃ x, FrH (sL M h 16 x) M' h
theorem mL_sL (M : Mem) (o k : Nat) (x : Int64) (a b : Nat) : mL (sL M o k x) a b = if a = o ∧ b = k then x else mL M a b := rfl
theorem FrH.sL {M M' : Mem} {h : Nat} (p : FrH M M' h) (x : Int64) : FrH (sL M h 16 x) (sL M' h 16 x) h := by
  obtain ⟨a1, a2, a3, a4, a5, a6⟩ := p
  refine ⟨a1, a2, a3, a4, fun o ho b => ?_, a6⟩
  rw [mL_sL, mL_sL]
  by_cases c : o = h ∧ b = 16
  · rw [if_pos c, if_pos c]
  · rw [if_neg c, if_neg c]; exact a5 o ho b
theorem sL_sL (M : Mem) (o k : Nat) (x y : Int64) : sL (sL M o k x) o k y = sL M o k y := by
  show (M.1, M.2.1, up2 (up2 M.2.2 o k x) o k y) = (M.1, M.2.1, up2 M.2.2 o k y)
  congr 2
  funext a b
  unfold up2
  by_cases c : a = o ∧ b = k
  · rw [if_pos c, if_pos c]
  · rw [if_neg c, if_neg c, if_neg c]
theorem sL_id (M : Mem) (o k : Nat) : sL M o k (mL M o k) = M := by
  show (M.1, M.2.1, up2 M.2.2 o k (M.2.2 o k)) = M
  have e : up2 M.2.2 o k (M.2.2 o k) = M.2.2 := by
    funext a b
    unfold up2
    by_cases c : a = o ∧ b = k
    · rw [if_pos c, c.1, c.2]
    · rw [if_neg c]
  rw [e]
theorem FrH.D {M M' : Mem} {h : Nat} (p : FrH M M' h) : FrD M M' h := ⟨mL M h 16, by rw [sL_id]; exact p⟩
theorem FrD.tr {M M' M'' : Mem} {h : Nat} (p : FrD M M' h) (p' : FrD M' M'' h) : FrD M M'' h := by
  obtain ⟨x, p⟩ := p
  obtain ⟨y, p'⟩ := p'
  have := p.sL y
  rw [sL_sL] at this
  exact ⟨y, this.tr p'⟩
set_option maxHeartbeats 1000000 in
theorem HV.dr {M : Mem} {h X Y N A n : Nat} {t : Int32} {Q : Nat → Int32} {S : St} {pb pt : List Row4} (p : HV M h X Y t N Q S pb pt) (hI : Inv N A S) (hA : A < 1048576) (h2 : 2 ≤ N) (h16 : N ≤ 16) (hl : (fl S).length + N ≤ 9000) (hh : h < mN M) {g : Int64} (hg : mL M h 16 = g) (hG : Gk g) (hn : 40 ≤ n) : (mv0 N S = [] → f_X2_moveByDraw n h M = some (0, M)) ∧ (mv0 N S ≠ [] → ∃ c M', (mv0 N S)[dk g (mv0 N S).length]? = some c ∧ f_X2_moveByDraw n h M = some (1, M') ∧ HV M' h X Y t N Q (dm t N c S) pb pt ∧ mL M' h 16 = drw g ∧ FrD M M' h) := by
  have hml := mvl_len (N := N) S 0 (fun _ => 0)
  rw [mvl_0] at hml
  have q := p.1
  have ec := p.cm hI h16 (n := n) (by omega)
  constructor
  · intro c
    rw [c] at ec
    rw [f_X2_moveByDraw, cs_f q, ec, obd_s, if_neg (show ¬ (1 : Int32) ≤ nI ([] : List Nat).length by decide)]
  · intro c
    have hpos : 0 < (mv0 N S).length := List.length_pos_iff.mpr c
    obtain ⟨k, hk, ek⟩ := drk_lt hG hpos (by omega)
    have edk : dk g (mv0 N S).length = k := by unfold dk; rw [ek, nI_clamp (by omega)]
    generalize hM2 : sL M h 16 (drw g) = M2
    have p2 : HV M2 h X Y t N Q S pb pt := by rw [← hM2]; exact p.tsL _ _ _
    have g2 : mL M2 h 16 = drw g := by rw [← hM2, mL_s]
    obtain ⟨M3, e3, p3, f3⟩ := p2.mk hI hA h2 h16 hl hn (k := k) (List.getElem?_eq_getElem hk) (by omega)
    have nz : ¬ (nI (mv0 N S).length).toInt64 = 0 := by
      rw [nI_l (by omega), show (0 : Int64) = lN 0 from rfl]
      exact fun q => by have := (lN_eq (by omega) (by decide)).mp q; omega
    have ek2 : (((((drw g) / (65536 : Int64)) - ((drw g) / (65536 : Int64)) / ((nI (mv0 N S).length).toInt64) * ((nI (mv0 N S).length).toInt64))).toInt32) = nI k := ek
    have hN2 : mN M2 = mN M := by rw [← hM2]; rfl
    refine ⟨(mv0 N S)[k], M3, by rw [edk]; exact List.getElem?_eq_getElem hk, ?_, p3, (f3.2.2.2.2.1 h (by omega) 16).trans g2, ⟨drw g, by rw [hM2]; exact f3⟩⟩
    rw [f_X2_moveByDraw, cs_f q, ec, obd_s, if_pos (show (1 : Int32) ≤ nI (mv0 N S).length from nI_le (a := 1) (by omega) (by omega)), chk_t (by decide), hg]
    rw [show ((g * (1103515245 : Int64)) + (12345 : Int64)) - ((g * (1103515245 : Int64)) + (12345 : Int64)) / (2147483648 : Int64) * (2147483648 : Int64) = drw g from rfl, hM2, bnd_e, chk_t (by decide), chk_t nz, g2, ek2, e3, obd_s]
theorem HV.may {M : Mem} {h X Y N : Nat} {t : Int32} {Q : Nat → Int32} {S : St} {pb pt : List Row4} (p : HV M h X Y t N Q S pb pt) (hI : IA N S) (h16 : N ≤ 16) {v : Nat} (hv : v < N) (hQ : qm N S v = Q v) : f_X2_mayAsk h (nI v) M = some (if mayA N v S then 1 else 0) := by
  have q := p.1
  obtain ⟨_, g7, g8, g9, _⟩ := p.2.2.1
  obtain ⟨i0, _, i7, _⟩ := hI v (by omega)
  rw [f_X2_mayAsk, cs_f q, f_has9 _ (by omega), obd_s, b_or, b_or, g7 v (by omega), g8 v (by omega), g9 v (by omega)]
  unfold mayA
  rw [hQ]
  have v6 : v < 16 := by omega
  by_cases c : xR S 0 v = 0 ∧ xR S 7 v = 0
  · obtain ⟨c0, c7⟩ := c
    have hz : (decide (v < 16 ∧ (0 : Int32) = 2) || decide (v < 16 ∧ (0 : Int32) = 1) || decide (v < 16 ∧ (0 : Int32) = 1)) = false := by simp
    rw [c0, c7, hz, if_neg (show ¬ false = true by decide), if_pos rfl, cs_h5 q, bnd_e, cs_a15 q, cs_i15 q v6, cl_n (by omega), p.2.2.2.2.2.2 v hv]
    by_cases d : Q v = 0
    · rw [if_pos d, d]; simp
    · rw [if_neg d]; simp [d]
  · have : (decide (v < 16 ∧ xR S 0 v = 2) || decide (v < 16 ∧ xR S 0 v = 1) || decide (v < 16 ∧ xR S 7 v = 1)) = true := by
      rcases i0 with e0 | e0 | e0
      · rcases i7 with e7 | e7
        · exact absurd ⟨e0, e7⟩ c
        · simp [e7, v6]
      · simp [e0, v6]
      · simp [e0, v6]
    rw [if_pos this, if_neg ne10]
    have n : (decide (xR S 0 v = 0) && (decide (xR S 7 v = 0) && !decide (Q v = 0))) = false := by
      by_cases c0 : xR S 0 v = 0
      · by_cases c7 : xR S 7 v = 0
        · exact absurd ⟨c0, c7⟩ c
        · simp [c7]
      · simp [c0]
    rw [n]
    rfl
theorem IA_ak {N v : Nat} {S : St} (hI : IA N S) (hv : v < N) (t : Int32) : IA N (ak t N v S) := by
  intro u hu
  obtain ⟨i0, iN, i7, i10⟩ := hI u hu
  rw [ak_R (by decide), ak_R (by decide), ak_R (by decide)]
  by_cases c : u = v
  · rw [if_pos c, if_pos c, if_pos c, if_pos rfl, if_neg (by decide), if_neg (by decide), if_neg (by decide), if_neg (by decide), if_neg (by decide), if_neg (by decide), if_neg (by decide), if_neg (by decide), if_neg (by decide), if_neg (by decide), if_neg (by decide), if_neg (by decide), if_neg (by decide), if_neg (by decide), if_neg (by decide), if_neg (by decide), if_neg (by decide), if_neg (by decide)]
    exact ⟨Or.inr (Or.inl rfl), fun z => by omega, i7, i10⟩
  · rw [if_neg c, if_neg c, if_neg c]
    exact ⟨i0, iN, i7, i10⟩
/-- what a quorum is told of -/
def Qk (S S' : St) : Prop := ∀ k, k = 7 ∨ k = 17 ∨ k = 20 → ∀ i, xR S' k i = xR S k i
theorem Qk.m {S S' : St} (h : Qk S S') (N v : Nat) : qm N S' v = qm N S v := by
  have e7 := h 7 (by omega)
  have e17 := h 17 (by omega)
  have e20 := h 20 (by omega)
  have eb : bkm N S' = bkm N S := by
    unfold bkm bk
    simp only [e7]
  unfold qm qby fub
  simp only [eb, e17, e20]
theorem Qk.ak (t : Int32) (N v : Nat) (S : St) : Qk S (ak t N v S) := by
  intro k hk i
  rw [ak_R (by omega)]
  by_cases c : i = v
  · rw [if_pos c, if_neg (by omega), if_neg (by omega), if_neg (by omega), if_neg (by omega), if_neg (by omega), if_neg (by omega), if_neg (by omega), if_neg (by omega), if_neg (by omega)]
  · rw [if_neg c]
set_option maxHeartbeats 1000000 in
theorem HV.aal {h X Y N : Nat} {t : Int32} {Q : Nat → Int32} {pb pt : List Row4} (h16 : N ≤ 16) : ∀ (d i n : Nat) (M : Mem) (S : St), HV M h X Y t N Q S pb pt → IA N S → (∀ v, v < N → qm N S v = Q v) → i + d = N → (fl S).length + N * d ≤ 9000 → d + 18 ≤ n → ∃ M', f_X2_letAllAsk_2 n h (nI i) M = some M' ∧ HV M' h X Y t N Q (akl t N (List.range' i d) S) pb pt ∧ FrH M M' h := by
  intro d
  induction d with
  | zero =>
    intro i n M S p hI hQ hi hl hn
    obtain ⟨n, rfl⟩ : ∃ m, n = m + 1 := ⟨n - 1, by omega⟩
    refine ⟨M, ?_, p, FrH.rf _ _⟩
    have q := p.1
    rw [f_X2_letAllAsk_2, cs_f q, cs_h0 q, bnd_e, cs_s q, p.2.2.2.2.2.1, if_pos (nI_le (by omega) (by omega))]
  | succ d ih =>
    intro i n M S p hI hQ hi hl hn
    obtain ⟨n, rfl⟩ : ∃ m, n = m + 1 := ⟨n - 1, by omega⟩
    rw [Nat.mul_succ] at hl
    have q := p.1
    have em := p.may hI h16 (v := i) (by omega) (hQ i (by omega))
    have el : akl t N (List.range' i (d + 1)) S = akl t N (List.range' (i + 1) d) (if mayA N i S then ak t N i S else S) := by
      unfold akl
      rw [List.range'_succ, List.foldl_cons]
    rw [el, f_X2_letAllAsk_2, cs_f q, cs_h0 q, bnd_e, cs_s q, p.2.2.2.2.2.1, if_neg (nI_ge (by omega) (by omega)), em, obd_s]
    by_cases c : mayA N i S = true
    · rw [if_pos c, if_pos c, if_neg ne10]
      have c0 : xR S 0 i = 0 := by
        unfold mayA at c
        exact of_decide_eq_true (Bool.and_eq_true _ _ |>.mp c).1
      obtain ⟨M2, e2, p2, f2⟩ := p.tak h16 (v := i) (by omega) (by rw [c0]; decide) (hQ i (by omega)) (by omega) (n := n) (by omega)
      have hlen := ak_len (N := N) (v := i) (S := S) h16 (by omega) t
      obtain ⟨M3, e3, p3, f3⟩ := ih (i + 1) n M2 _ p2 (IA_ak hI (by omega) t) (fun v hv => by rw [(Qk.ak t N i S).m]; exact hQ v hv) (by omega) (by omega) (by omega)
      exact ⟨M3, by rw [e2, obd_s, nI_1, bnd_e, e3], p3, f2.tr f3⟩
    · rw [if_neg c, if_neg c, if_pos rfl]
      obtain ⟨M3, e3, p3, f3⟩ := ih (i + 1) n M S p hI hQ (by omega) (by omega) (by omega)
      exact ⟨M3, by rw [nI_1, bnd_e, e3], p3, f3⟩
theorem HV.takA {M : Mem} {h X Y N n : Nat} {t : Int32} {Q : Nat → Int32} {S : St} {pb pt : List Row4} (p : HV M h X Y t N Q S pb pt) (h16 : N ≤ 16) (hI : IA N S) (hQ : ∀ v, v < N → qm N S v = Q v) (hl : (fl S).length + N * N ≤ 9000) (hn : 40 ≤ n) : ∃ M', f_X2_letAllAsk n h M = some M' ∧ HV M' h X Y t N Q (akA t N S) pb pt ∧ FrH M M' h := by
  obtain ⟨M', e, p', f'⟩ := HV.aal (t := t) (Q := Q) (pb := pb) (pt := pt) h16 N 0 n M S p hI hQ (by omega) hl (by omega)
  refine ⟨M', ?_, ?_, f'⟩
  · rw [f_X2_letAllAsk]; exact e
  · unfold akA; rw [List.range_eq_range']; exact p'
/-! ===== the class: one hall's letters for another's ===== -/
theorem cp_I (M : Mem) (a b n o j : Nat) : mI (cpI M a 0 b 0 n) o j = if o = b ∧ j < n then mI M a j else mI M o j := by
  show (if o = b then va_cpy (M.2.1 a) (M.2.1 b) 0 0 n j else M.2.1 o j) = _
  by_cases c : o = b
  · rw [if_pos c]
    by_cases d : j < n
    · rw [pk_cpy_in (Nat.zero_le _) (by omega), if_pos ⟨c, d⟩, Nat.zero_add, Nat.sub_zero]; rfl
    · rw [pk_cpy_out (by omega), if_neg (fun z => d z.2), ← c]; rfl
  · rw [if_neg c, if_neg (fun z => c z.1)]; rfl
theorem cp_st {α : Type} {M : Mem} {a b n la lb : Nat} (f : Mem → Option α) (h1 : n ≤ la) (h2 : n ≤ lb) (h3 : n < 2 ^ 31) : (chk (cp_ok (0 : Int32) (0 : Int32) (nI n) 0 la lb) <| bnd (cpI M a ((0 : Int32)).toNatClampNeg b ((0 : Int32)).toNatClampNeg (nI n).toNatClampNeg) f) = f (cpI M a 0 b 0 n) := by
  have c0 : ((0 : Int32)).toNatClampNeg = 0 := cl0
  have cn : (nI n).toNatClampNeg = n := nI_clamp h3
  have n0 : ¬ nI n < 0 := nI_nlt (b := 0) (Nat.zero_le _) h3
  rw [chk_t (⟨by decide, by decide, n0, by rw [c0, cn]; omega, by rw [c0, cn]; omega⟩), bnd_e, c0, cn]
theorem far1 {k e i j : Nat} (he : e = k + i ∨ 131 ≤ e) (hi : 7 ≤ i) (hk : k + 49 ≤ 131) (hj : j ≤ 6) : k + j ≠ e := by omega
theorem far2 {h k e i j : Nat} (he : e = k + i ∨ 131 ≤ e) (hi : i ≤ 9) (hk : h + 49 ≤ k ∨ k + 49 ≤ h) (hh : h + 49 ≤ 131) (hj : j ≤ 9) : h + j ≠ e := by omega
theorem far3 {h k i j : Nat} (hk : h + 49 ≤ k ∨ k + 49 ≤ h) (hi : i ≤ 9) (hj : j ≤ 9) : h + i ≠ k + j := by omega
theorem eOx {k e : Nat} (A : ∀ j, j ≤ 6 → k + j ≠ e) : ¬ (k + 2 ≤ e ∧ e ≤ k + 6) := fun z => A (e - k) (by omega) (by omega)
theorem hOx {h k : Nat} (C : ∀ i j, i ≤ 9 → j ≤ 9 → h + i ≠ k + j) : ∀ i, i ≤ 9 → ¬ (k + 2 ≤ h + i ∧ h + i ≤ k + 6) := fun i hi z => C i (h + i - k) hi (by omega) (by omega)
theorem oiA {k o : Nat} (z : o = k + 1) : k + 1 ≤ o ∧ o ≤ k + 6 := by omega
theorem oiB {k o : Nat} (z : k + 2 ≤ o ∧ o ≤ k + 6) : k + 1 ≤ o ∧ o ≤ k + 6 := by omega
theorem inr26 {k o i : Nat} (z : o = k + i) (h2 : 2 ≤ i) (h6 : i ≤ 6) : k + 2 ≤ o ∧ o ≤ k + 6 := by omega
set_option maxHeartbeats 4000000 in
theorem PW.copy {M : Mem} {h k d5 d6 d7 len e5 e6 e7 len' : Nat} {t : Int32} {se : Nat → Int32} {K : Nat → List (Nat × Ltr)} {fr : List Nat} {us : Nat} {ow : Nat → Nat} (q : CS M h) (q' : CS M k) (hk : h + 49 ≤ k ∨ k + 49 ≤ h) (p : PW M h d5 d6 d7 len t se K fr us ow 0) (w : DS M k e5 e6 e7 len') (hu : us ≤ len') (h64 : 64 ≤ len') (h18 : len' ≤ 18000) (hd : (e5 ≠ d5 ∧ e5 ≠ d6 ∧ e5 ≠ d7) ∧ (e6 ≠ d5 ∧ e6 ≠ d6 ∧ e6 ≠ d7) ∧ (e7 ≠ d5 ∧ e7 ≠ d6 ∧ e7 ≠ d7)) : ∃ M', f_X5_copyFrom (k + 1) (h + 1) M = some M' ∧ PW M' k e5 e6 e7 len' t se K fr us ow 0 ∧ M'.1 = M.1 ∧ (∀ o b, mL M' o b = mL M o b) ∧ (∀ o, ¬ (k + 1 ≤ o ∧ o ≤ k + 6) → o ≠ e5 → o ≠ e6 → o ≠ e7 → ∀ b, mI M' o b = mI M o b) := by
  obtain ⟨⟨hd51, hd52, hd53⟩, ⟨hd61, hd62, hd63⟩, ⟨hd71, hd72, hd73⟩⟩ := hd
  obtain ⟨w0, pc, pn, pch, pla, pma, pbu, pse, ⟨pf1, pf2, pf3⟩, ⟨pu1, pu2, pu3, pu4, pu5⟩, pt, tot, pt1, pt2, pt3⟩ := p
  obtain ⟨⟨a5, a6, a7⟩, ⟨b5, b6, b7⟩, ⟨l5, l6, l7⟩, x1, x2, x3, x4, x5, x6⟩ := w0
  obtain ⟨⟨a5', a6', a7'⟩, ⟨b5', b6', b7'⟩, ⟨l5', l6', l7'⟩, y1, y2, y3, y4, y5, y6⟩ := id w
  have hq := q.2.2.2.2
  have hq' := q'.2.2.2.2
  have hk' : k + 49 ≤ h ∨ h + 49 ≤ k := by omega
  have A5 : ∀ j, j ≤ 6 → k + j ≠ e5 := fun j hj => far1 y1 (by decide) hq'.1 hj
  have A6 : ∀ j, j ≤ 6 → k + j ≠ e6 := fun j hj => far1 y2 (by decide) hq'.1 hj
  have A7 : ∀ j, j ≤ 6 → k + j ≠ e7 := fun j hj => far1 y3 (by decide) hq'.1 hj
  have B5 : ∀ j, j ≤ 9 → h + j ≠ e5 := fun j hj => far2 y1 (by decide) hk hq.1 hj
  have B6 : ∀ j, j ≤ 9 → h + j ≠ e6 := fun j hj => far2 y2 (by decide) hk hq.1 hj
  have B7 : ∀ j, j ≤ 9 → h + j ≠ e7 := fun j hj => far2 y3 (by decide) hk hq.1 hj
  have D5 : ∀ j, j ≤ 9 → k + j ≠ d5 := fun j hj => far2 x1 (by decide) hk' hq'.1 hj
  have D6 : ∀ j, j ≤ 9 → k + j ≠ d6 := fun j hj => far2 x2 (by decide) hk' hq'.1 hj
  have D7 : ∀ j, j ≤ 9 → k + j ≠ d7 := fun j hj => far2 x3 (by decide) hk' hq'.1 hj
  have C0 : ∀ i j, i ≤ 9 → j ≤ 9 → h + i ≠ k + j := fun i j hi hj => far3 hk hi hj
  have lts : ∀ o, o < k + 2 → ¬ (k + 2 ≤ o ∧ o ≤ k + 6) := fun o z y => absurd y.1 (Nat.not_le_of_lt z)
  have eO5 : ¬ (k + 2 ≤ e5 ∧ e5 ≤ k + 6) := eOx A5
  have eO6 : ¬ (k + 2 ≤ e6 ∧ e6 ≤ k + 6) := eOx A6
  have eO7 : ¬ (k + 2 ≤ e7 ∧ e7 ≤ k + 6) := eOx A7
  have hO : ∀ i, i ≤ 9 → ¬ (k + 2 ≤ h + i ∧ h + i ≤ k + 6) := hOx C0
  clear hk hk' x1 x2 x3 y1 y2 y3
  generalize hM1 : cpI M d5 0 e5 0 us = M1
  generalize hM2 : cpI M1 d6 0 e6 0 us = M2
  generalize hM3 : cpI M2 d7 0 e7 0 us = M3
  generalize hM4 : cpI M3 (h + 2) 0 (k + 2) 0 256 = M4
  generalize hM5 : cpI M4 (h + 3) 0 (k + 3) 0 256 = M5
  generalize hM6 : cpI M5 (h + 4) 0 (k + 4) 0 256 = M6
  generalize hM7 : cpI M6 (h + 5) 0 (k + 5) 0 16 = M7
  generalize hM8 : cpI M7 (h + 6) 0 (k + 6) 0 6 = M8
  have s1 : M1.1 = M.1 := by rw [← hM1]; rfl
  have s2 : M2.1 = M.1 := by rw [← hM2]; exact s1
  have s3 : M3.1 = M.1 := by rw [← hM3]; exact s2
  have s4 : M4.1 = M.1 := by rw [← hM4]; exact s3
  have s5 : M5.1 = M.1 := by rw [← hM5]; exact s4
  have s6 : M6.1 = M.1 := by rw [← hM6]; exact s5
  have s7 : M7.1 = M.1 := by rw [← hM7]; exact s6
  have s8 : M8.1 = M.1 := by rw [← hM8]; exact s7
  have L8 : ∀ o b, mL M8 o b = mL M o b := fun o b => by rw [← hM8, ← hM7, ← hM6, ← hM5, ← hM4, ← hM3, ← hM2, ← hM1]; rfl
  have r1 : ∀ o j, mI M1 o j = if o = e5 ∧ j < us then mI M d5 j else mI M o j := fun o j => by rw [← hM1]; exact cp_I _ _ _ _ _ _
  have r2 : ∀ o j, mI M2 o j = if o = e6 ∧ j < us then mI M1 d6 j else mI M1 o j := fun o j => by rw [← hM2]; exact cp_I _ _ _ _ _ _
  have r3 : ∀ o j, mI M3 o j = if o = e7 ∧ j < us then mI M2 d7 j else mI M2 o j := fun o j => by rw [← hM3]; exact cp_I _ _ _ _ _ _
  have r4 : ∀ o j, mI M4 o j = if o = k + 2 ∧ j < 256 then mI M3 (h + 2) j else mI M3 o j := fun o j => by rw [← hM4]; exact cp_I _ _ _ _ _ _
  have r5 : ∀ o j, mI M5 o j = if o = k + 3 ∧ j < 256 then mI M4 (h + 3) j else mI M4 o j := fun o j => by rw [← hM5]; exact cp_I _ _ _ _ _ _
  have r6 : ∀ o j, mI M6 o j = if o = k + 4 ∧ j < 256 then mI M5 (h + 4) j else mI M5 o j := fun o j => by rw [← hM6]; exact cp_I _ _ _ _ _ _
  have r7 : ∀ o j, mI M7 o j = if o = k + 5 ∧ j < 16 then mI M6 (h + 5) j else mI M6 o j := fun o j => by rw [← hM7]; exact cp_I _ _ _ _ _ _
  have r8 : ∀ o j, mI M8 o j = if o = k + 6 ∧ j < 6 then mI M7 (h + 6) j else mI M7 o j := fun o j => by rw [← hM8]; exact cp_I _ _ _ _ _ _
  -- what no step has touched
  have o3 : ∀ o, o ≠ e5 → o ≠ e6 → o ≠ e7 → ∀ j, mI M3 o j = mI M o j := fun o n1 n2 n3 j => by
    rw [r3, if_neg (fun z => n3 z.1), r2, if_neg (fun z => n2 z.1), r1, if_neg (fun z => n1 z.1)]
  have o8 : ∀ o, ¬ (k + 2 ≤ o ∧ o ≤ k + 6) → ∀ j, mI M8 o j = mI M3 o j := fun o n j => by
    rw [r8, if_neg (fun z => n (inr26 z.1 (by decide) (by decide))), r7, if_neg (fun z => n (inr26 z.1 (by decide) (by decide))), r6, if_neg (fun z => n (inr26 z.1 (by decide) (by decide))), r5, if_neg (fun z => n (inr26 z.1 (by decide) (by decide))), r4, if_neg (fun z => n (inr26 z.1 (by decide) (by decide)))]
  have g5 : ∀ j, j < us → mI M8 e5 j = mI M d5 j := fun j hj => by
    rw [o8 _ eO5, r3, if_neg (fun z => y5 z.1), r2, if_neg (fun z => y4 z.1), r1, if_pos ⟨rfl, hj⟩]
  have g6 : ∀ j, j < us → mI M8 e6 j = mI M d6 j := fun j hj => by
    rw [o8 _ eO6, r3, if_neg (fun z => y6 z.1), r2, if_pos ⟨rfl, hj⟩, r1, if_neg (fun z => hd52 z.1.symm)]
  have g7 : ∀ j, j < us → mI M8 e7 j = mI M d7 j := fun j hj => by
    rw [o8 _ eO7, r3, if_pos ⟨rfl, hj⟩, r2, if_neg (fun z => hd63 z.1.symm), r1, if_neg (fun z => hd53 z.1.symm)]
  have hh : ∀ i, i ≤ 6 → ∀ j, mI M3 (h + i) j = mI M (h + i) j := fun i hi j => o3 _ (B5 i (by omega)) (B6 i (by omega)) (B7 i (by omega)) j
  have nk : ∀ i j x, i ≠ j → ¬ (k + i = k + j ∧ x) := fun i j x n z => n (Nat.add_left_cancel z.1)
  have nh : ∀ i j x, i ≤ 9 → j ≤ 9 → ¬ (h + i = k + j ∧ x) := fun i j x hi hj z => C0 i j hi hj z.1
  have c2 : ∀ j, j < 256 → mI M8 (k + 2) j = mI M (h + 2) j := fun j hj => by
    rw [r8, if_neg (nk 2 6 _ (by decide)), r7, if_neg (nk 2 5 _ (by decide)), r6, if_neg (nk 2 4 _ (by decide)), r5, if_neg (nk 2 3 _ (by decide)), r4, if_pos ⟨rfl, hj⟩, hh 2 (by decide)]
  have c3 : ∀ j, j < 256 → mI M8 (k + 3) j = mI M (h + 3) j := fun j hj => by
    rw [r8, if_neg (nk 3 6 _ (by decide)), r7, if_neg (nk 3 5 _ (by decide)), r6, if_neg (nk 3 4 _ (by decide)), r5, if_pos ⟨rfl, hj⟩, r4, if_neg (nh 3 2 _ (by decide) (by decide)), hh 3 (by decide)]
  have c4 : ∀ j, j < 256 → mI M8 (k + 4) j = mI M (h + 4) j := fun j hj => by
    rw [r8, if_neg (nk 4 6 _ (by decide)), r7, if_neg (nk 4 5 _ (by decide)), r6, if_pos ⟨rfl, hj⟩, r5, if_neg (nh 4 3 _ (by decide) (by decide)), r4, if_neg (nh 4 2 _ (by decide) (by decide)), hh 4 (by decide)]
  have c5 : ∀ j, j < 16 → mI M8 (k + 5) j = mI M (h + 5) j := fun j hj => by
    rw [r8, if_neg (nk 5 6 _ (by decide)), r7, if_pos ⟨rfl, hj⟩, r6, if_neg (nh 5 4 _ (by decide) (by decide)), r5, if_neg (nh 5 3 _ (by decide) (by decide)), r4, if_neg (nh 5 2 _ (by decide) (by decide)), hh 5 (by decide)]
  have c6 : ∀ j, j < 6 → mI M8 (k + 6) j = mI M (h + 6) j := fun j hj => by
    rw [r8, if_pos ⟨rfl, hj⟩, r7, if_neg (nh 6 5 _ (by decide) (by decide)), r6, if_neg (nh 6 4 _ (by decide) (by decide)), r5, if_neg (nh 6 3 _ (by decide) (by decide)), r4, if_neg (nh 6 2 _ (by decide) (by decide)), hh 6 (by decide)]
  have f1 : ∀ j, mI M8 (h + 1) j = mI M (h + 1) j := fun j => by rw [o8 _ (hO 1 (by decide)), hh 1 (by decide)]
  have f1' : ∀ M' : Mem, ∀ o, o ≠ k + 1 → ∀ a x j, mI (sI M' (k + 1) a x) o j = mI M' o j := fun M' o n a x j => mI_o _ _ _ _ _ n
  have u1 : ∀ j, mI M1 (h + 1) j = mI M (h + 1) j := fun j => by rw [r1, if_neg (fun z => B5 1 (by decide) z.1)]
  have u2 : ∀ j, mI M2 (h + 1) j = mI M (h + 1) j := fun j => by rw [r2, if_neg (fun z => B6 1 (by decide) z.1), u1]
  have h1k : h + 1 ≠ k + 1 := C0 1 1 (by decide) (by decide)
  generalize hN1 : sI M8 (k + 1) 8 (nI us) = N1
  generalize hN2 : sI N1 (k + 1) 9 (mI M (h + 1) 9) = N2
  generalize hN3 : sI N2 (k + 1) 10 (nI tot) = N3
  generalize hN4 : sI N3 (k + 1) 11 t = N4
  have t1 : N1.1 = M.1 := by rw [← hN1]; exact s8
  have t2 : N2.1 = M.1 := by rw [← hN2]; exact t1
  have t3 : N3.1 = M.1 := by rw [← hN3]; exact t2
  have t4 : N4.1 = M.1 := by rw [← hN4]; exact t3
  have n1 : ∀ o, o ≠ k + 1 → ∀ j, mI N1 o j = mI M8 o j := fun o n j => by rw [← hN1, f1' _ _ n]
  have n2 : ∀ o, o ≠ k + 1 → ∀ j, mI N2 o j = mI M8 o j := fun o n j => by rw [← hN2, f1' _ _ n, n1 _ n]
  have n3 : ∀ o, o ≠ k + 1 → ∀ j, mI N3 o j = mI M8 o j := fun o n j => by rw [← hN3, f1' _ _ n, n2 _ n]
  have n4 : ∀ o, o ≠ k + 1 → ∀ j, mI N4 o j = mI M8 o j := fun o n j => by rw [← hN4, f1' _ _ n, n3 _ n]
  refine ⟨N4, ?_, ⟨w.e t4, fun l hl y hy => ?_, pn, fun l hl => ?_, fun l hl cs z ez => ?_, fun l hl => ?_, fun f hf g hg => ?_, fun j hj => ?_, ⟨pf1, pf2, ?_⟩, ⟨?_, hu, pu3, h18, h64⟩, ?_, tot, ?_, pt2, pt3⟩, t4, fun o b => ?_, fun o na ne5 ne6 ne7 b => ?_⟩
  · have k5 : f_X5_copyFrom_45 (k + 1) (h + 1) M = some N4 := by
      rw [f_X5_copyFrom_45, cs_p q, a5, bnd_e, chk_t b5, cs_p q', a5', bnd_e, chk_t b5', pu1, l5, l5', cp_st _ (by omega) hu (by omega), hM1]
      have q1 := q.e s1
      have q1' := q'.e s1
      have z : ∀ M' : Mem, M'.1 = M.1 → mR M' = mR M ∧ (∀ c o, isO M' c o = isO M c o) ∧ mLn M' = mLn M := fun M' e => by
        refine ⟨?_, fun c o => ?_, ?_⟩
        · unfold mR; rw [e]
        · unfold isO mN mC; rw [e]
        · unfold mLn; rw [e]
      obtain ⟨z1, z1', z1''⟩ := z M1 s1
      obtain ⟨z2, z2', z2''⟩ := z M2 s2
      obtain ⟨z3, z3', z3''⟩ := z M3 s3
      obtain ⟨z4, z4', z4''⟩ := z M4 s4
      obtain ⟨z5, z5', z5''⟩ := z M5 s5
      obtain ⟨z6, z6', z6''⟩ := z M6 s6
      obtain ⟨z7, z7', z7''⟩ := z M7 s7
      have ln : ∀ {h : Nat}, CS M h → mLn M (h + 2) = 256 ∧ mLn M (h + 3) = 256 ∧ mLn M (h + 4) = 256 ∧ mLn M (h + 5) = 16 ∧ mLn M (h + 6) = 6 := fun q => ⟨q.ln (by decide) (by decide) (by decide), q.ln (by decide) (by decide) (by decide), q.ln (by decide) (by decide) (by decide), q.ln (by decide) (by decide) (by decide), q.ln (by decide) (by decide) (by decide)⟩
      obtain ⟨la2, la3, la4, la5, la6⟩ := ln q
      obtain ⟨lb2, lb3, lb4, lb5, lb6⟩ := ln q'
      rw [z1, a6, bnd_e, chk_t ((z1' 100 d6).mpr b6), a6', bnd_e, chk_t ((z1' 100 e6).mpr b6'), u1, pu1, z1'', l6, l6', cp_st _ (by omega) hu (by omega), hM2]
      rw [z2, a7, bnd_e, chk_t ((z2' 100 d7).mpr b7), a7', bnd_e, chk_t ((z2' 100 e7).mpr b7'), u2, pu1, z2'', l7, l7', cp_st _ (by omega) hu (by omega), hM3]
      rw [cs_r2 (q.e s3), bnd_e, cs_a2 (q.e s3), cs_r2 (q'.e s3), bnd_e, cs_a2 (q'.e s3), bnd_e, cs_a2 (q'.e s3), z3'', la2, lb2, show Int32.ofNat 256 = nI 256 from rfl, cp_st _ (Nat.le_refl _) (Nat.le_refl _) (by decide), hM4]
      rw [cs_r3 (q.e s4), bnd_e, cs_a3 (q.e s4), cs_r3 (q'.e s4), bnd_e, cs_a3 (q'.e s4), bnd_e, cs_a3 (q'.e s4), z4'', la3, lb3, show Int32.ofNat 256 = nI 256 from rfl, cp_st _ (Nat.le_refl _) (Nat.le_refl _) (by decide), hM5]
      rw [cs_r4 (q.e s5), bnd_e, cs_a4 (q.e s5), cs_r4 (q'.e s5), bnd_e, cs_a4 (q'.e s5), bnd_e, cs_a4 (q'.e s5), z5'', la4, lb4, show Int32.ofNat 256 = nI 256 from rfl, cp_st _ (Nat.le_refl _) (Nat.le_refl _) (by decide), hM6]
      rw [cs_r5 (q.e s6), bnd_e, cs_a5 (q.e s6), cs_r5 (q'.e s6), bnd_e, cs_a5 (q'.e s6), bnd_e, cs_a5 (q'.e s6), z6'', la5, lb5, show Int32.ofNat 16 = nI 16 from rfl, cp_st _ (Nat.le_refl _) (Nat.le_refl _) (by decide), hM7]
      rw [cs_r6 (q.e s7), bnd_e, cs_a6 (q.e s7), cs_r6 (q'.e s7), bnd_e, cs_a6 (q'.e s7), bnd_e, cs_a6 (q'.e s7), z7'', la6, lb6, show Int32.ofNat 6 = nI 6 from rfl, cp_st _ (Nat.le_refl _) (Nat.le_refl _) (by decide), hM8]
      rw [f1, pu1, hN1, bnd_e, n1 _ h1k, f1, hN2, bnd_e, n2 _ h1k, f1, pt1, hN3, bnd_e, n3 _ h1k, f1, pt, hN4, bnd_e]
    rw [f_X5_copyFrom, cs_p q', a5', bnd_e, chk_t b5', cs_p q, pu1, l5', n32, if_pos (nI_le hu (by omega))]
    exact k5
  · have := pc l hl y hy
    rw [n4 _ (A5 1 (by decide)).symm, n4 _ (A6 1 (by decide)).symm, g5 _ this.1, g6 _ this.1]
    exact this
  · rw [n4 _ (by omega), c2 _ hl]
    refine (pch l hl).cg fun x hx => ?_
    obtain ⟨y, hy, rfl⟩ := List.mem_map.mp hx
    rw [n4 _ (A7 1 (by decide)).symm, g7 _ (pc l hl y hy).1]
  · rw [n4 _ (by omega), c3 _ hl]; exact pla l hl cs z ez
  · rw [n4 _ (by omega), c4 _ hl]; exact pma l hl
  · rw [n4 _ (by omega), c5 _ hf]; exact pbu f hf g hg
  · rw [n4 _ (by omega), c6 _ hj]; exact pse j hj
  · have e9 : mI N4 (k + 1) 9 = mI M (h + 1) 9 := by rw [← hN4, mI_n _ _ _ _ (by decide), ← hN3, mI_n _ _ _ _ (by decide), ← hN2, mI_s]
    rw [e9]
    refine pf3.cg fun x hx => ?_
    rw [n4 _ (A7 1 (by decide)).symm, g7 _ (pf2 x hx).1]
  · rw [← hN4, mI_n _ _ _ _ (by decide), ← hN3, mI_n _ _ _ _ (by decide), ← hN2, mI_n _ _ _ _ (by decide), ← hN1, mI_s]
  · rw [← hN4, mI_s]
  · rw [← hN4, mI_n _ _ _ _ (by decide), ← hN3, mI_s]
  · rw [← hN4, ← hN3, ← hN2, ← hN1]; exact L8 o b
  · rw [n4 _ (fun z => na (oiA z)), o8 _ (fun z => na (oiB z)), o3 _ ne5 ne6 ne7]
/-! ===== the class: one place for another's ===== -/
set_option maxHeartbeats 2000000 in
theorem f_pcp {M : Mem} {h k v : Nat} (q : CS M h) (q' : CS M k) (hk : h + 49 ≤ k ∨ k + 49 ≤ h) (hv : v < 16) (hb : mI M (h + 17 + 2 * v) 8 = 0 ∨ mI M (h + 17 + 2 * v) 8 = 1) : ∃ M', f_X4_copyFrom (k + 17 + 2 * v) (h + 17 + 2 * v) M = some M' ∧ M'.1 = M.1 ∧ (∀ j, j < 16 → j ≠ 10 → mI M' (k + 17 + 2 * v) j = mI M (h + 17 + 2 * v) j) ∧ (∀ j, j < 16 → mI M' (k + 18 + 2 * v) j = mI M (h + 18 + 2 * v) j) ∧ (∀ o, o ≠ k + 17 + 2 * v → o ≠ k + 18 + 2 * v → ∀ j, mI M' o j = mI M o j) ∧ (∀ o j, mL M' o j = mL M o j) := by
  have r0 := cs_pr q hv
  have r0' := cs_pr q' hv
  have i0 : ∀ x : Option Mem, chk (isO M 4 (h + 17 + 2 * v)) x = x := fun x => cs_po q hv x
  have i0' : ∀ x : Option Mem, chk (isO M 4 (k + 17 + 2 * v)) x = x := fun x => cs_po q' hv x
  have j0 : ∀ x : Option Mem, chk (isO M 100 (h + 18 + 2 * v)) x = x := fun x => cs_pa q hv x
  have j0' : ∀ x : Option Mem, chk (isO M 100 (k + 18 + 2 * v)) x = x := fun x => cs_pa q' hv x
  have ln : mLn M (h + 18 + 2 * v) = 16 := by
    have : ∀ v, v < 16 → (tC.getD (14 + (18 + 2 * v)) (0, 0)).2 = 16 := by decide
    have z := q.ln (i := 18 + 2 * v) (by omega) (by omega) (this v hv)
    rwa [← Nat.add_assoc] at z
  have ln' : mLn M (k + 18 + 2 * v) = 16 := by
    have : ∀ v, v < 16 → (tC.getD (14 + (18 + 2 * v)) (0, 0)).2 = 16 := by decide
    have z := q'.ln (i := 18 + 2 * v) (by omega) (by omega) (this v hv)
    rwa [← Nat.add_assoc] at z
  generalize hP : h + 17 + 2 * v = P at *
  generalize hP' : k + 17 + 2 * v = P' at *
  have hne : P ≠ P' := by omega
  generalize hm : mI M P = s at *
  generalize h0 : sI M P' 0 (s 0) = M0
  generalize h1 : sI M0 P' 1 (s 1) = M1
  generalize h2 : sI M1 P' 2 (s 2) = M2
  generalize h3 : sI M2 P' 3 (s 3) = M3
  generalize h4 : sI M3 P' 4 (s 4) = M4
  generalize h5 : sI M4 P' 5 (s 5) = M5
  generalize h6 : sI M5 P' 6 (s 6) = M6
  generalize h7 : sI M6 P' 7 (s 7) = M7
  generalize h8 : sI M7 P' 8 (s 8) = M8
  generalize h9 : sI M8 P' 9 (s 9) = M9
  generalize h10 : cpI M9 (h + 18 + 2 * v) 0 (k + 18 + 2 * v) 0 16 = M10
  generalize h11 : sI M10 P' 11 (s 11) = M11
  generalize h12 : sI M11 P' 12 (s 12) = M12
  generalize h13 : sI M12 P' 13 (s 13) = M13
  generalize h14 : sI M13 P' 14 (s 14) = M14
  generalize h15 : sI M14 P' 15 (s 15) = M15
  have a0 : ∀ j, mI M0 P j = s j := fun j => by rw [← h0, mI_o _ _ _ _ _ hne, hm]
  have a1 : ∀ j, mI M1 P j = s j := fun j => by rw [← h1, mI_o _ _ _ _ _ hne, a0]
  have a2 : ∀ j, mI M2 P j = s j := fun j => by rw [← h2, mI_o _ _ _ _ _ hne, a1]
  have a3 : ∀ j, mI M3 P j = s j := fun j => by rw [← h3, mI_o _ _ _ _ _ hne, a2]
  have a4 : ∀ j, mI M4 P j = s j := fun j => by rw [← h4, mI_o _ _ _ _ _ hne, a3]
  have a5 : ∀ j, mI M5 P j = s j := fun j => by rw [← h5, mI_o _ _ _ _ _ hne, a4]
  have a6 : ∀ j, mI M6 P j = s j := fun j => by rw [← h6, mI_o _ _ _ _ _ hne, a5]
  have a7 : ∀ j, mI M7 P j = s j := fun j => by rw [← h7, mI_o _ _ _ _ _ hne, a6]
  have a8 : ∀ j, mI M8 P j = s j := fun j => by rw [← h8, mI_o _ _ _ _ _ hne, a7]
  have a9 : ∀ j, mI M9 P j = s j := fun j => by rw [← h9, mI_o _ _ _ _ _ hne, a8]
  have a10 : ∀ j, mI M10 P j = s j := fun j => by rw [← h10, cp_I, if_neg (fun z => by omega), a9]
  have a11 : ∀ j, mI M11 P j = s j := fun j => by rw [← h11, mI_o _ _ _ _ _ hne, a10]
  have a12 : ∀ j, mI M12 P j = s j := fun j => by rw [← h12, mI_o _ _ _ _ _ hne, a11]
  have a13 : ∀ j, mI M13 P j = s j := fun j => by rw [← h13, mI_o _ _ _ _ _ hne, a12]
  have a14 : ∀ j, mI M14 P j = s j := fun j => by rw [← h14, mI_o _ _ _ _ _ hne, a13]
  have s9 : M9.1 = M.1 := by rw [← h9, ← h8, ← h7, ← h6, ← h5, ← h4, ← h3, ← h2, ← h1, ← h0]; rfl
  have s15 : M15.1 = M.1 := by rw [← h15, ← h14, ← h13, ← h12, ← h11, ← h10]; exact s9
  have o9 : ∀ o, o ≠ P' → ∀ j, mI M9 o j = mI M o j := fun o n j => by
    rw [← h9, mI_o _ _ _ _ _ n, ← h8, mI_o _ _ _ _ _ n, ← h7, mI_o _ _ _ _ _ n, ← h6, mI_o _ _ _ _ _ n, ← h5, mI_o _ _ _ _ _ n, ← h4, mI_o _ _ _ _ _ n, ← h3, mI_o _ _ _ _ _ n, ← h2, mI_o _ _ _ _ _ n, ← h1, mI_o _ _ _ _ _ n, ← h0, mI_o _ _ _ _ _ n]
  have o15 : ∀ o, o ≠ P' → ∀ j, mI M15 o j = mI M10 o j := fun o n j => by
    rw [← h15, mI_o _ _ _ _ _ n, ← h14, mI_o _ _ _ _ _ n, ← h13, mI_o _ _ _ _ _ n, ← h12, mI_o _ _ _ _ _ n, ← h11, mI_o _ _ _ _ _ n]
  have e9 : ∀ j, mI M9 P' j = if j = 9 then s 9 else if j = 8 then s 8 else if j = 7 then s 7 else if j = 6 then s 6 else if j = 5 then s 5 else if j = 4 then s 4 else if j = 3 then s 3 else if j = 2 then s 2 else if j = 1 then s 1 else if j = 0 then s 0 else mI M P' j := fun j => by
    rw [← h9, mI_sI, ← h8, mI_sI, ← h7, mI_sI, ← h6, mI_sI, ← h5, mI_sI, ← h4, mI_sI, ← h3, mI_sI, ← h2, mI_sI, ← h1, mI_sI, ← h0, mI_sI]
    simp only [true_and]
  have e10 : ∀ j, mI M10 P' j = mI M9 P' j := fun j => by rw [← h10, cp_I, if_neg (fun z => by omega)]
  have e15 : ∀ j, mI M15 P' j = if j = 15 then s 15 else if j = 14 then s 14 else if j = 13 then s 13 else if j = 12 then s 12 else if j = 11 then s 11 else mI M10 P' j := fun j => by
    rw [← h15, mI_sI, ← h14, mI_sI, ← h13, mI_sI, ← h12, mI_sI, ← h11, mI_sI]
    simp only [true_and]
  refine ⟨M15, ?_, s15, fun j hj n => ?_, fun j hj => ?_, fun o n1 n2 j => ?_, fun o j => ?_⟩
  · have R9 : mR M9 = mR M := by unfold mR; rw [s9]
    have I9 : ∀ c o, isO M9 c o = isO M c o := fun c o => by unfold isO mN mC; rw [s9]
    have L9 : mLn M9 = mLn M := by unfold mLn; rw [s9]
    have j9 : ∀ x : Option Mem, chk (isO M9 100 (h + 18 + 2 * v)) x = x := fun x => cs_pa (q.e s9) hv x
    have j9' : ∀ x : Option Mem, chk (isO M9 100 (k + 18 + 2 * v)) x = x := fun x => cs_pa (q'.e s9) hv x
    rw [f_X4_copyFrom, i0, i0', hm, h0, bnd_e, a0, h1, bnd_e, a1, h2, bnd_e, a2, h3, bnd_e, a3, h4, bnd_e, a4, h5, bnd_e, a5, h6, bnd_e, a6, h7, bnd_e, a7, chk_t hb, h8, bnd_e, a8, h9, bnd_e, R9, r0, bnd_e, j9, r0', bnd_e, j9', L9, ln, ln', show (16 : Int32) = nI 16 from rfl, cp_st _ (Nat.le_refl _) (Nat.le_refl _) (by decide), h10, a10, h11, bnd_e, a11, h12, bnd_e, a12, h13, bnd_e, a13, h14, bnd_e, a14, h15, bnd_e]
  · rw [e15]
    rcases (show j = 0 ∨ j = 1 ∨ j = 2 ∨ j = 3 ∨ j = 4 ∨ j = 5 ∨ j = 6 ∨ j = 7 ∨ j = 8 ∨ j = 9 ∨ j = 11 ∨ j = 12 ∨ j = 13 ∨ j = 14 ∨ j = 15 by omega) with rfl | rfl | rfl | rfl | rfl | rfl | rfl | rfl | rfl | rfl | rfl | rfl | rfl | rfl | rfl
    all_goals first | rfl | (rw [e10, e9]; rfl)
  · rw [o15 _ (by omega), ← h10, cp_I, if_pos ⟨rfl, hj⟩, o9 _ (by omega)]
  · rw [o15 _ n1, ← h10, cp_I, if_neg (fun z => n2 z.1), o9 _ n1]
  · rw [← h15, ← h14, ← h13, ← h12, ← h11, ← h10, ← h9, ← h8, ← h7, ← h6, ← h5, ← h4, ← h3, ← h2, ← h1, ← h0]; rfl
set_option maxHeartbeats 2000000 in
theorem hcp_l {h k : Nat} (hk : h + 49 ≤ k ∨ k + 49 ≤ h) : ∀ (d i n : Nat) (M : Mem), i + d = 16 → d + 1 ≤ n → CS M h → CS M k → (∀ v, v < 16 → mI M (h + 17 + 2 * v) 8 = 0 ∨ mI M (h + 17 + 2 * v) 8 = 1) → ∃ M', f_X2_copyFrom_13 n k h (nI i) M = some M' ∧ M'.1 = M.1 ∧ (∀ v, i ≤ v → v < 16 → (∀ j, j < 16 → j ≠ 10 → mI M' (k + 17 + 2 * v) j = mI M (h + 17 + 2 * v) j) ∧ (∀ j, j < 16 → mI M' (k + 18 + 2 * v) j = mI M (h + 18 + 2 * v) j) ∧ mI M' (k + 15) v = mI M (h + 15) v) ∧ (∀ j, 7 ≤ j → j ≤ 15 → mI M' k j = mI M h j) ∧ (∀ o, ¬ (o = k ∨ o = k + 15 ∨ (k + 17 + 2 * i ≤ o ∧ o < k + 49)) → ∀ b, mI M' o b = mI M o b) ∧ (∀ b, b < i → mI M' (k + 15) b = mI M (k + 15) b) ∧ (∀ o j, mL M' o j = mL M o j) := by
  intro d
  induction d with
  | zero =>
    intro i n M hi hn q q' hb
    obtain ⟨n, rfl⟩ : ∃ m, n = m + 1 := ⟨n - 1, by omega⟩
    have hq := q.2.2.2.2
    have hq' := q'.2.2.2.2
    have hne : h ≠ k := by omega
    generalize h7 : sI M k 7 (mI M h 7) = M7
    generalize h8 : sI M7 k 8 (mI M h 8) = M8
    generalize h9 : sI M8 k 9 (mI M h 9) = M9
    generalize h10 : sI M9 k 10 (mI M h 10) = M10
    generalize h11 : sI M10 k 11 (mI M h 11) = M11
    generalize h12 : sI M11 k 12 (mI M h 12) = M12
    generalize h13 : sI M12 k 13 (mI M h 13) = M13
    generalize h14 : sI M13 k 14 (mI M h 14) = M14
    generalize h15 : sI M14 k 15 (mI M h 15) = M15
    have o7 : ∀ o, o ≠ k → ∀ j, mI M7 o j = mI M o j := fun o n j => by rw [← h7, mI_o _ _ _ _ _ n]
    have o8 : ∀ o, o ≠ k → ∀ j, mI M8 o j = mI M o j := fun o n j => by rw [← h8, mI_o _ _ _ _ _ n, o7 _ n]
    have o9 : ∀ o, o ≠ k → ∀ j, mI M9 o j = mI M o j := fun o n j => by rw [← h9, mI_o _ _ _ _ _ n, o8 _ n]
    have o10 : ∀ o, o ≠ k → ∀ j, mI M10 o j = mI M o j := fun o n j => by rw [← h10, mI_o _ _ _ _ _ n, o9 _ n]
    have o11 : ∀ o, o ≠ k → ∀ j, mI M11 o j = mI M o j := fun o n j => by rw [← h11, mI_o _ _ _ _ _ n, o10 _ n]
    have o12 : ∀ o, o ≠ k → ∀ j, mI M12 o j = mI M o j := fun o n j => by rw [← h12, mI_o _ _ _ _ _ n, o11 _ n]
    have o13 : ∀ o, o ≠ k → ∀ j, mI M13 o j = mI M o j := fun o n j => by rw [← h13, mI_o _ _ _ _ _ n, o12 _ n]
    have o14 : ∀ o, o ≠ k → ∀ j, mI M14 o j = mI M o j := fun o n j => by rw [← h14, mI_o _ _ _ _ _ n, o13 _ n]
    have o15 : ∀ o, o ≠ k → ∀ j, mI M15 o j = mI M o j := fun o n j => by rw [← h15, mI_o _ _ _ _ _ n, o14 _ n]
    refine ⟨M15, ?_, by rw [← h15, ← h14, ← h13, ← h12, ← h11, ← h10, ← h9, ← h8, ← h7]; rfl, fun v a b => by omega, fun j j1 j2 => ?_, fun o n b => o15 o (fun z => n (Or.inl z)) b, fun b _ => o15 _ (by omega) b, fun o j => by rw [← h15, ← h14, ← h13, ← h12, ← h11, ← h10, ← h9, ← h8, ← h7]; rfl⟩
    · have : nI i = (16 : Int32) := by rw [show i = 16 by omega]; rfl
      rw [f_X2_copyFrom_13, if_pos (by rw [this]; decide), cs_f q, cs_f q', h7, bnd_e, o7 _ hne, h8, bnd_e, o8 _ hne, h9, bnd_e, o9 _ hne, h10, bnd_e, o10 _ hne, h11, bnd_e, o11 _ hne, h12, bnd_e, o12 _ hne, h13, bnd_e, o13 _ hne, h14, bnd_e, o14 _ hne, h15, bnd_e]
    · have e : ∀ j, mI M15 k j = if j = 15 then mI M h 15 else if j = 14 then mI M h 14 else if j = 13 then mI M h 13 else if j = 12 then mI M h 12 else if j = 11 then mI M h 11 else if j = 10 then mI M h 10 else if j = 9 then mI M h 9 else if j = 8 then mI M h 8 else if j = 7 then mI M h 7 else mI M k j := fun j => by
        rw [← h15, mI_sI, ← h14, mI_sI, ← h13, mI_sI, ← h12, mI_sI, ← h11, mI_sI, ← h10, mI_sI, ← h9, mI_sI, ← h8, mI_sI, ← h7, mI_sI]
        simp only [true_and]
      rw [e]
      rcases (show j = 7 ∨ j = 8 ∨ j = 9 ∨ j = 10 ∨ j = 11 ∨ j = 12 ∨ j = 13 ∨ j = 14 ∨ j = 15 by omega) with rfl | rfl | rfl | rfl | rfl | rfl | rfl | rfl | rfl <;> rfl
  | succ d ih =>
    intro i n M hi hn q q' hb
    obtain ⟨n, rfl⟩ : ∃ m, n = m + 1 := ⟨n - 1, by omega⟩
    have hq := q.2.2.2.2
    have hq' := q'.2.2.2.2
    have i6 : i < 16 := by omega
    obtain ⟨M1, e1, s1, p1, p2, p3, p4⟩ := f_pcp q q' hk i6 (hb i i6)
    have q1 := q.e s1
    have q1' := q'.e s1
    have e15 : mI M1 (h + 15) i = mI M (h + 15) i := p3 _ (by omega) (by omega) i
    generalize hM2 : sI M1 (k + 15) i (mI M (h + 15) i) = M2
    have s2 : M2.1 = M.1 := by rw [← hM2]; exact s1
    have o2 : ∀ o, o ≠ k + 15 → ∀ j, mI M2 o j = mI M1 o j := fun o n j => by rw [← hM2, mI_o _ _ _ _ _ n]
    have src : ∀ o, h ≤ o → o < h + 49 → ∀ j, mI M2 o j = mI M o j := fun o a b j => by
      rw [o2 _ (by omega), p3 _ (by omega) (by omega)]
    obtain ⟨M3, e3, s3, f1, f2, f3, f4, f5⟩ := ih (i + 1) n M2 (by omega) (by omega) (q.e s2) (q'.e s2) (fun v hv => by rw [src _ (by omega) (by omega)]; exact hb v hv)
    refine ⟨M3, ?_, s3.trans s2, fun v a b => ?_, fun j j1 j2 => ?_, fun o n b => ?_, fun b hb' => ?_, fun o j => ?_⟩
    · rw [f_X2_copyFrom_13, if_neg (show ¬ (16 : Int32) ≤ nI i from nI_ge (a := i) (b := 16) (by omega) (by decide)), cs_f q', cs_h2 q', bnd_e, cs_a10 q', cs_i10 q' i6, cs_rpc q' i6, bnd_e, cs_po q' i6, cs_f q, cs_h2 q, bnd_e, cs_a10 q, cs_i10 q i6, cs_rpc q i6, bnd_e, cs_po q i6, e1, obd_s, cs_f q1', cs_h5 q1', bnd_e, cs_a15 q1', cs_f q1, cs_h5 q1, bnd_e, cs_a15 q1, cs_i15 q1 i6, cs_i15 q1' i6, cl_n (by omega), e15, hM2, bnd_e, nI_1, bnd_e, e3]
    · by_cases c : v = i
      · subst c
        refine ⟨fun j hj n => ?_, fun j hj => ?_, ?_⟩
        · rw [f3 _ (by omega), o2 _ (by omega), p1 j hj n]
        · rw [f3 _ (by omega), o2 _ (by omega), p2 j hj]
        · rw [f4 v (by omega), ← hM2, mI_s]
      · obtain ⟨g1, g2, g3⟩ := f1 v (by omega) b
        refine ⟨fun j hj n => ?_, fun j hj => ?_, ?_⟩
        · rw [g1 j hj n, src _ (by omega) (by omega)]
        · rw [g2 j hj, src _ (by omega) (by omega)]
        · rw [g3, src _ (by omega) (by omega)]
    · rw [f2 j j1 j2, src _ (by omega) (by omega)]
    · rw [f3 o (by omega), o2 _ (by omega), p3 _ (by omega) (by omega)]
    · rw [f4 b (by omega), ← hM2, mI_n _ _ _ _ (by omega), p3 _ (by omega) (by omega)]
    · rw [f5, ← hM2]; exact p4 o j
/-! ===== new rows for a hall's letters, empty ones ===== -/
def al1 (M : Mem) (p j len : Nat) : Mem := sR (nw M 100 len len) p j (mN M)
theorem al1_N (M : Mem) (p j len : Nat) : mN (al1 M p j len) = mN M + 1 := rfl
theorem al1_U (M : Mem) (p j len : Nat) : mU (al1 M p j len) = mU M + len := rfl
theorem al1_C (M : Mem) (p j len : Nat) (i : Nat) : (al1 M p j len).1.2.1 i = if i = mN M then (100, len) else M.1.2.1 i := rfl
theorem al1_R (M : Mem) (p j len : Nat) {x : Nat} (y : Nat) (h : x ≠ mN M) : mR (al1 M p j len) x y = if x = p ∧ y = j then mN M else mR M x y := by
  show (if x = p ∧ y = j then mN M else (if x = mN M then NUL else M.1.2.2 x y)) = _
  rw [if_neg h]; rfl
theorem al1_I (M : Mem) (p j len : Nat) {x : Nat} (y : Nat) (h : x ≠ mN M) : mI (al1 M p j len) x y = mI M x y := by
  show (if x = mN M then 0 else M.2.1 x y) = _
  rw [if_neg h]; rfl
theorem al1_L (M : Mem) (p j len : Nat) {x : Nat} (y : Nat) (h : x ≠ mN M) : mL (al1 M p j len) x y = mL M x y := by
  show (if x = mN M then 0 else M.2.2 x y) = _
  rw [if_neg h]; rfl
/-- three new rows for k's letters -/
def al3 (M : Mem) (k len : Nat) : Mem := al1 (al1 (al1 M (k + 1) 5 len) (k + 1) 6 len) (k + 1) 7 len
theorem al3_N (M : Mem) (k len : Nat) : mN (al3 M k len) = mN M + 3 := rfl
theorem al3_U (M : Mem) (k len : Nat) : mU (al3 M k len) = mU M + 3 * len := by
  show mU M + len + len + len = _
  omega
theorem al3_C (M : Mem) (k len : Nat) {i : Nat} (h : i < mN M) : (al3 M k len).1.2.1 i = M.1.2.1 i := by
  unfold al3
  rw [al1_C, al1_N, al1_N, if_neg (by omega), al1_C, al1_N, if_neg (by omega), al1_C, if_neg (by omega)]
theorem al3_K (M : Mem) (k len : Nat) {i : Nat} (h : i < 3) : (al3 M k len).1.2.1 (mN M + i) = (100, len) := by
  unfold al3
  rw [al1_C, al1_N, al1_N]
  by_cases c : i = 2
  · rw [if_pos (by omega)]
  · rw [if_neg (by omega), al1_C, al1_N]
    by_cases c1 : i = 1
    · rw [if_pos (by omega)]
    · rw [if_neg (by omega), al1_C, if_pos (by omega)]
theorem al3_R (M : Mem) (k len : Nat) {x : Nat} (y : Nat) (h : x < mN M) : mR (al3 M k len) x y = if x = k + 1 ∧ y = 7 then mN M + 2 else if x = k + 1 ∧ y = 6 then mN M + 1 else if x = k + 1 ∧ y = 5 then mN M else mR M x y := by
  unfold al3
  rw [al1_R _ _ _ _ _ (by rw [al1_N, al1_N]; omega), al1_R _ _ _ _ _ (by rw [al1_N]; omega), al1_R _ _ _ _ _ (by omega)]
  rfl
theorem al3_I (M : Mem) (k len : Nat) {x : Nat} (y : Nat) (h : x < mN M) : mI (al3 M k len) x y = mI M x y := by
  unfold al3
  rw [al1_I _ _ _ _ _ (by rw [al1_N, al1_N]; omega), al1_I _ _ _ _ _ (by rw [al1_N]; omega), al1_I _ _ _ _ _ (by omega)]
theorem al3_L (M : Mem) (k len : Nat) {x : Nat} (y : Nat) (h : x < mN M) : mL (al3 M k len) x y = mL M x y := by
  unfold al3
  rw [al1_L _ _ _ _ _ (by rw [al1_N, al1_N]; omega), al1_L _ _ _ _ _ (by rw [al1_N]; omega), al1_L _ _ _ _ _ (by omega)]
theorem al3_io {M : Mem} {k len c o : Nat} (h : isO M c o) : isO (al3 M k len) c o := by
  refine ⟨by rw [al3_N]; have := h.1; omega, ?_⟩
  rw [mC, al3_C _ _ _ h.1]; exact h.2
theorem al3_CS {M : Mem} {h k len : Nat} (q : CS M h) (hk : h = k ∨ h + 49 ≤ k ∨ k + 49 ≤ h) : CS (al3 M k len) h := by
  obtain ⟨c1, c2, c3, c4, c5, c6, c7⟩ := q
  have hr : ∀ a b, a < mN M → ¬ (a = k + 1 ∧ 5 ≤ b ∧ b ≤ 7) → mR (al3 M k len) a b = mR M a b := fun a b ha n => by
    rw [al3_R _ _ _ _ ha, if_neg (by omega), if_neg (by omega), if_neg (by omega)]
  refine ⟨fun i hi hn => ?_, fun z hz => ?_, ?_, al3_io c4, c5, c6, by rw [al3_N]; omega⟩
  · rw [al3_C _ _ _ (by omega)]; exact c1 i hi hn
  · have hb : z.1 < 49 ∧ ¬ (z.1 = 1 ∧ 5 ≤ z.2.1) := by
      have : ∀ z, z ∈ tH → z.1 < 49 ∧ ¬ (z.1 = 1 ∧ 5 ≤ z.2.1) := by decide
      exact this z hz
    rw [hr _ _ (by omega) (by omega)]; exact c2 z hz
  · rw [hr _ _ (by omega) (by omega)]; exact c3
/-- new rows: what else the memory holds -/
theorem al3_FrH (M : Mem) (k len : Nat) (hk : k + 1 < mN M) : FrH M (al3 M k len) k := by
  refine ⟨by rw [al3_N]; omega, fun i hi => al3_C _ _ _ hi, fun a b ha n => ?_, fun o ho _ _ _ _ b => al3_I _ _ _ _ ho, fun o ho b => al3_L _ _ _ _ ho, fun j a b => ?_⟩
  · rw [al3_R _ _ _ _ ha, if_neg (by omega), if_neg (by omega), if_neg (by omega)]
  · right
    rw [al3_R _ _ _ _ hk]
    rcases (show j = 5 ∨ j = 6 ∨ j = 7 by omega) with rfl | rfl | rfl <;> simp
theorem al3_DS {M : Mem} {k len : Nat} (hN : 131 ≤ mN M) (hk : k + 49 ≤ 131) : DS (al3 M k len) k (mN M) (mN M + 1) (mN M + 2) len := by
  have hr : ∀ j, mR (al3 M k len) (k + 1) j = _ := fun j => al3_R _ _ _ j (by omega)
  have y0 := al3_K M k len (i := 0) (by decide)
  have y1 := al3_K M k len (i := 1) (by decide)
  have y2 := al3_K M k len (i := 2) (by decide)
  rw [Nat.add_zero] at y0
  refine ⟨⟨by rw [hr]; simp, by rw [hr]; simp, by rw [hr]; simp⟩, ⟨⟨by rw [al3_N]; omega, ?_⟩, ⟨by rw [al3_N]; omega, ?_⟩, ⟨by rw [al3_N]; omega, ?_⟩⟩, ⟨?_, ?_, ?_⟩, by omega⟩
  · rw [mC, y0]
  · rw [mC, y1]
  · rw [mC, y2]
  · rw [mLn, y0]
  · rw [mLn, y1]
  · rw [mLn, y2]
/-- the class's copy of letters, where the rows are too short: as if they had been made before -/
theorem f_cpg {M : Mem} {h k d5 d6 d7 len e5 e6 e7 len' us : Nat} (q : CS M h) (q' : CS M k) (hk : h + 49 ≤ k ∨ k + 49 ≤ h) (w : DS M h d5 d6 d7 len) (w' : DS M k e5 e6 e7 len') (hu : mI M (h + 1) 8 = nI us) (hlt : len' < us) (hul : us ≤ len) (hl : len ≤ 18000) (hN : mN M + 3 ≤ CAP) (hU : mU M + 3 * len ≤ CAPU) : f_X5_copyFrom (k + 1) (h + 1) M = f_X5_copyFrom (k + 1) (h + 1) (al3 M k len) := by
  have hq := q.2.2.2.2
  have hq' := q'.2.2.2.2
  obtain ⟨⟨a5, a6, a7⟩, ⟨b5, b6, b7⟩, ⟨l5, l6, l7⟩, _⟩ := w
  obtain ⟨⟨a5', a6', a7'⟩, ⟨b5', b6', b7'⟩, ⟨l5', l6', l7'⟩, _⟩ := w'
  have Q : CS (al3 M k len) h := al3_CS q (by omega)
  have Q' : CS (al3 M k len) k := al3_CS q' (Or.inl rfl)
  have W' := al3_DS (M := M) (k := k) (len := len) hq.2.2 hq'.1
  have cl : (nI len).toNatClampNeg = len := nI_clamp (by omega)
  have np : ¬ nI len < 0 := nI_nlt (b := 0) (Nat.zero_le _) (by omega)
  have R1 : ∀ b, mR (al1 M (k + 1) 5 len) (h + 1) b = mR M (h + 1) b := fun b => by rw [al1_R _ _ _ _ _ (by omega), if_neg (by omega)]
  have R2 : ∀ b, mR (al1 (al1 M (k + 1) 5 len) (k + 1) 6 len) (h + 1) b = mR M (h + 1) b := fun b => by rw [al1_R _ _ _ _ _ (by rw [al1_N]; omega), if_neg (by omega), R1]
  have i1 : ∀ {c o}, isO M c o → isO (al1 M (k + 1) 5 len) c o := fun {c o} z => ⟨by rw [al1_N]; have := z.1; omega, by rw [mC, al1_C, if_neg (by have := z.1; omega)]; exact z.2⟩
  have i2 : ∀ {c o}, isO M c o → isO (al1 (al1 M (k + 1) 5 len) (k + 1) 6 len) c o := fun {c o} z => ⟨by rw [al1_N, al1_N]; have := z.1; omega, by rw [mC, al1_C, al1_N, if_neg (by have := z.1; omega), al1_C, if_neg (by have := z.1; omega)]; exact z.2⟩
  have n1 : mLn (al1 M (k + 1) 5 len) d5 = len := by rw [mLn, al1_C, if_neg (by have := b5.1; omega)]; exact l5
  have n2 : mLn (al1 (al1 M (k + 1) 5 len) (k + 1) 6 len) d5 = len := by rw [mLn, al1_C, al1_N, if_neg (by have := b5.1; omega), al1_C, if_neg (by have := b5.1; omega)]; exact l5
  have e1 : f_X5_copyFrom (k + 1) (h + 1) (al3 M k len) = f_X5_copyFrom_45 (k + 1) (h + 1) (al3 M k len) := by
    rw [f_X5_copyFrom, cs_p Q', W'.1.1, bnd_e, chk_t W'.2.1.1, cs_p Q, al3_I _ _ _ _ (by omega), hu, W'.2.2.1.1, n32, if_pos (nI_le hul (by omega))]
  rw [e1, f_X5_copyFrom, cs_p q', a5', bnd_e, chk_t b5', cs_p q, hu, l5', n32, if_neg (nI_ge hlt (by omega)), a5, bnd_e, chk_t b5, l5, n32, chk_t np, cl, chk_t (by omega), bnd_e, bnd_e, show sR (nw M 100 len len) (k + 1) 5 (mN M) = al1 M (k + 1) 5 len from rfl, bnd_e, R1, a5, bnd_e, chk_t (i1 b5), n1, n32, chk_t np, cl, chk_t (by rw [al1_N, al1_U]; omega), bnd_e, bnd_e, show sR (nw (al1 M (k + 1) 5 len) 100 len len) (k + 1) 6 (mN (al1 M (k + 1) 5 len)) = al1 (al1 M (k + 1) 5 len) (k + 1) 6 len from rfl, bnd_e, R2, a5, bnd_e, chk_t (i2 b5), n2, n32, chk_t np, cl, chk_t (by rw [al1_N, al1_U, al1_N, al1_U]; omega), bnd_e, bnd_e]
  rfl
/-! ===== the class: one hall for another ===== -/
def TR (M : Mem) (k X Y : Nat) (pb pt : List Row4) : Prop := CS M k ∧ (∃ e5 e6 e7 len, DS M k e5 e6 e7 len ∧ 64 ≤ len ∧ len ≤ 18000) ∧ Rm M k X Y ∧ LG M (k + 11) 30 pb ∧ LG M (k + 13) 40 pt
theorem HV.toTR {M : Mem} {h X Y N : Nat} {t : Int32} {Q : Nat → Int32} {S : St} {pb pt : List Row4} (p : HV M h X Y t N Q S pb pt) : TR M h X Y (pb ++ xE S) (pt ++ xT S) := by
  obtain ⟨q, ⟨d5, d6, d7, len, K, fr, us, ow, w, _⟩, _, rm, ⟨lb, lt⟩, _⟩ := p
  exact ⟨q, ⟨d5, d6, d7, len, w.1, w.2.2.2.2.2.2.2.2.2.1.2.2.2.2, w.2.2.2.2.2.2.2.2.2.1.2.2.2.1⟩, rm, lb, lt⟩
def clr (S : St) : St := (S.1, S.2.1, S.2.2.1, [], [])
theorem clr_R (S : St) : xR (clr S) = xR S := rfl
theorem clr_W (S : St) : xW (clr S) = xW S := rfl
theorem clr_L (S : St) : xL (clr S) = xL S := rfl
theorem far4 {h k e i o : Nat} (he : e = k + i ∨ 131 ≤ e) (hi : i ≤ 9) (hk : h + 49 ≤ k ∨ k + 49 ≤ h) (hh : h + 49 ≤ 131) (h1 : h ≤ o) (h2 : o < h + 49) : o ≠ e := by omega
theorem far5 {k e i o : Nat} (he : e = k + i ∨ 131 ≤ e) (hi : i ≤ 9) (h1 : k + 10 ≤ o) (h2 : o < 131) : o ≠ e := by omega
theorem far6 {k e i : Nat} (he : e = k + i ∨ 131 ≤ e) (hi : 7 ≤ i ∧ i ≤ 9) (hk : k + 49 ≤ 131) : ¬ (e = k ∨ e = k + 15 ∨ (k + 17 + 2 * 0 ≤ e ∧ e < k + 49)) := by omega
theorem far7 {k e i : Nat} (he : e = k + i ∨ 131 ≤ e) (hk : 14 ≤ k) : 1 ≠ e := by omega
theorem far8 {h k o : Nat} (hk : h + 49 ≤ k ∨ k + 49 ≤ h) (h1 : h ≤ o) (h2 : o < h + 49) : ¬ (k ≤ o ∧ o < k + 49) := by omega
set_option maxHeartbeats 1000000 in
theorem HV.copyL {M : Mem} {h k X' Y' N n : Nat} {t : Int32} {Q : Nat → Int32} {S : St} {pb' pt' : List Row4} (q : CS M h) (p : PV M h t S) (hp : HP M h S) (hN : mI M 1 3 = nI N) (hQ : ∀ v, v < N → mI M (h + 15) v = Q v) (r : TR M k X' Y' pb' pt') (hk : h + 49 ≤ k ∨ k + 49 ≤ h) (h16 : N ≤ 16) (hz : ∃ u, u ≤ mLn M (mR M (k + 1) 5) ∧ mI M (h + 1) 8 = nI u) (hD : ∀ i j, 5 ≤ i → i ≤ 7 → 5 ≤ j → j ≤ 7 → mR M (k + 1) i ≠ mR M (h + 1) j) (hb : ∀ v, v < 16 → xR S 10 v = 0 ∨ xR S 10 v = 1) (hW : ∀ v, v < 16 → ∀ w, w ∈ xW S v → w.1 < 16) (hn : 17 ≤ n) : ∃ M', f_X2_copyFrom n k h M = some M' ∧ HV M' k X' Y' t N Q (clr S) pb' pt' ∧ FrH M M' k := by
  obtain ⟨d5, d6, d7, len, K, fr, us, ow, w, hK⟩ := p
  obtain ⟨q', ⟨e5, e6, e7, len', w', h64, h18⟩, rm', lb', lt'⟩ := r
  have hq := q.2.2.2.2
  have hq' := q'.2.2.2.2
  obtain ⟨u, hu64, hu⟩ := hz
  have u8 := w.2.2.2.2.2.2.2.2.2.1
  have us64 : us ≤ len' := by
    rw [w'.1.1, w'.2.2.1.1] at hu64
    have : us = u := (nI_eq (by omega) (by omega)).mp (u8.1.symm.trans hu)
    omega
  have dd : (e5 ≠ d5 ∧ e5 ≠ d6 ∧ e5 ≠ d7) ∧ (e6 ≠ d5 ∧ e6 ≠ d6 ∧ e6 ≠ d7) ∧ (e7 ≠ d5 ∧ e7 ≠ d6 ∧ e7 ≠ d7) := by
    obtain ⟨a5, a6, a7⟩ := w.1.1
    obtain ⟨b5, b6, b7⟩ := w'.1
    rw [← a5, ← a6, ← a7, ← b5, ← b6, ← b7]
    exact ⟨⟨hD 5 5 (by decide) (by decide) (by decide) (by decide), hD 5 6 (by decide) (by decide) (by decide) (by decide), hD 5 7 (by decide) (by decide) (by decide) (by decide)⟩, ⟨hD 6 5 (by decide) (by decide) (by decide) (by decide), hD 6 6 (by decide) (by decide) (by decide) (by decide), hD 6 7 (by decide) (by decide) (by decide) (by decide)⟩, ⟨hD 7 5 (by decide) (by decide) (by decide) (by decide), hD 7 6 (by decide) (by decide) (by decide) (by decide), hD 7 7 (by decide) (by decide) (by decide) (by decide)⟩⟩
  obtain ⟨M1, E1, w1, s1, L1, o1⟩ := PW.copy q q' hk w w' (by omega) h64 h18 dd
  obtain ⟨⟨wa5, wa6, wa7⟩, _, _, y1, y2, y3, y4, y5, y6⟩ := id w'
  obtain ⟨_, _, _, x1, x2, x3, _⟩ := id w.1
  have F5 : ∀ o, h ≤ o → o < h + 49 → o ≠ e5 := fun o a b => far4 y1 (by decide) hk hq.1 a b
  have F6 : ∀ o, h ≤ o → o < h + 49 → o ≠ e6 := fun o a b => far4 y2 (by decide) hk hq.1 a b
  have F7 : ∀ o, h ≤ o → o < h + 49 → o ≠ e7 := fun o a b => far4 y3 (by decide) hk hq.1 a b
  have G5 : ∀ o, k + 10 ≤ o → o < 131 → o ≠ e5 := fun o a b => far5 y1 (by decide) a b
  have G6 : ∀ o, k + 10 ≤ o → o < 131 → o ≠ e6 := fun o a b => far5 y2 (by decide) a b
  have G7 : ∀ o, k + 10 ≤ o → o < 131 → o ≠ e7 := fun o a b => far5 y3 (by decide) a b
  have H5 := far6 y1 (by decide) hq'.1
  have H6 := far6 y2 (by decide) hq'.1
  have H7 := far6 y3 (by decide) hq'.1
  have I5 := far7 y1 hq'.2.1
  have I6 := far7 y2 hq'.2.1
  have I7 := far7 y3 hq'.2.1
  have J : ∀ o, h ≤ o → o < h + 49 → ¬ (k ≤ o ∧ o < k + 49) := fun o a b => far8 hk a b
  have Jk : ∀ o, h ≤ o → o < h + 49 → ¬ (k + 1 ≤ o ∧ o ≤ k + 6) := fun o a b z => J o a b ⟨by omega, by omega⟩
  have us9 := u8.2.2.1
  clear y1 y2 y3 x1 x2 x3 dd hD
  have src1 : ∀ o, h ≤ o → o < h + 49 → ∀ j, mI M1 o j = mI M o j := fun o a b j => o1 o (Jk o a b) (F5 o a b) (F6 o a b) (F7 o a b) j
  obtain ⟨M2, E2, s2, f1, f2, f3, f4, f5⟩ := hcp_l hk 16 0 n M1 rfl hn (q.e s1) (q'.e s1) (fun v hv => by
    rw [src1 _ (by omega) (by omega), (hp.1 v hv).1 (8, 10) (by decide)]; exact hb v hv)
  clear hk
  have S2 : M2.1 = M.1 := s2.trans s1
  have o2 : ∀ o, ¬ (k ≤ o ∧ o < k + 49) → o ≠ e5 → o ≠ e6 → o ≠ e7 → ∀ b, mI M2 o b = mI M o b := fun o n n5 n6 n7 b => by
    rw [f3 o (by omega), o1 o (by omega) n5 n6 n7]
  have lo : ∀ o, (k + 10 ≤ o ∧ o < k + 15) → ∀ b, mI M2 o b = mI M o b := fun o n b => by
    rw [f3 o (by omega), o1 o (by omega) (G5 o n.1 (by omega)) (G6 o n.1 (by omega)) (G7 o n.1 (by omega))]
  refine ⟨M2, ?_, ⟨q'.e S2, ⟨e5, e6, e7, len', K, fr, us, ow, ?_, hK⟩, ⟨fun v hv => ?_, ?_⟩, ?_, ⟨?_, ?_⟩, ?_, fun v hv => ?_⟩, ?_⟩
  · rw [f_X2_copyFrom, cs_f q', cs_h1 q', bnd_e, cs_p q', cs_f q, cs_h1 q, bnd_e, cs_p q, E1, obd_s]
    exact E2
  · exact w1.cg (w'.e S2) (Nat.le_refl _) h18 (fun i a b c => f3 _ (by omega) _) (fun b _ => f3 _ H5 _) (fun b _ => f3 _ H6 _) (fun b _ => f3 _ H7 _)
  · obtain ⟨a1, a2, a3, a4, a5⟩ := hp.1 v hv
    obtain ⟨g1, g2, g3⟩ := f1 v (by omega) hv
    have gg : ∀ j, j < 16 → j ≠ 10 → mI M2 (k + 17 + 2 * v) j = mI M (h + 17 + 2 * v) j := fun j hj n => by
      rw [g1 j hj n, src1 _ (by omega) (by omega)]
    refine ⟨fun p hp => ?_, ?_, fun z => ?_, fun u hu => ?_, fun w hw => ?_⟩
    · have lim : ∀ p, p ∈ ft → p.1 < 16 ∧ p.1 ≠ 10 := by decide
      rw [gg _ (lim p hp).1 (lim p hp).2]; exact a1 p hp
    · rw [gg _ (by decide) (by decide)]; exact a2
    · rw [gg _ (by decide) (by decide)]; exact a3 z
    · rw [gg _ (by decide) (by decide)]; exact a4 u hu
    · rw [g2 _ (hW v hv w hw), src1 _ (by omega) (by omega)]; exact a5 w hw
  · obtain ⟨g7, g8, g9, g10, g11, g12, g13, g14, g15⟩ := hp.2
    have gg : ∀ j, 7 ≤ j → j ≤ 15 → mI M2 k j = mI M h j := fun j a b => by
      rw [f2 j a b, src1 _ (by omega) (by omega)]
    refine ⟨fun v hv => ?_, fun v hv => ?_, fun v hv => ?_, ?_, ?_, ?_, ?_, ?_, ?_⟩
    · rw [gg _ (by decide) (by decide)]; exact g7 v hv
    · rw [gg _ (by decide) (by decide)]; exact g8 v hv
    · rw [gg _ (by decide) (by decide)]; exact g9 v hv
    · rw [gg _ (by decide) (by decide)]; exact g10
    · rw [gg _ (by decide) (by decide)]; exact g11
    · rw [gg _ (by decide) (by decide)]; exact g12
    · rw [gg _ (by decide) (by decide)]; exact g13
    · rw [gg _ (by decide) (by decide)]; exact g14
    · rw [gg _ (by decide) (by decide)]; exact g15
  · unfold Rm mN mU mLn mR at rm' ⊢
    rw [S2]; exact rm'
  · show LG M2 (k + 11) 30 (pb' ++ [])
    rw [List.append_nil]
    exact lb'.cg (lo _ (by omega)) (lo _ (by omega))
  · show LG M2 (k + 13) 40 (pt' ++ [])
    rw [List.append_nil]
    exact lt'.cg (lo _ (by omega)) (lo _ (by omega))
  · rw [o2 1 (by omega) I5 I6 I7]; exact hN
  · rw [(f1 v (by omega) (by omega)).2.2, src1 _ (by omega) (by omega)]; exact hQ v hv
  · refine ⟨by unfold mN; rw [S2]; exact Nat.le_refl _, fun i _ => by rw [S2], fun a b _ _ => by unfold mR; rw [S2], fun o _ n n5 n6 n7 b => o2 o n (by rw [← wa5]; exact n5) (by rw [← wa6]; exact n6) (by rw [← wa7]; exact n7) b, fun o _ b => by rw [f5, L1], fun j _ _ => Or.inl (by unfold mR; rw [S2])⟩
set_option maxHeartbeats 1000000 in
theorem HV.copy {M : Mem} {h k X Y X' Y' N n : Nat} {t : Int32} {Q : Nat → Int32} {S : St} {pb pt pb' pt' : List Row4} (p : HV M h X Y t N Q S pb pt) (r : TR M k X' Y' pb' pt') (hk : h + 49 ≤ k ∨ k + 49 ≤ h) (h16 : N ≤ 16) (hD : ∀ i j, 5 ≤ i → i ≤ 7 → 5 ≤ j → j ≤ 7 → mR M (k + 1) i ≠ mR M (h + 1) j) (hb : ∀ v, v < 16 → xR S 10 v = 0 ∨ xR S 10 v = 1) (hW : ∀ v, v < 16 → ∀ w, w ∈ xW S v → w.1 < 16) (hn : 17 ≤ n) : ∃ M', f_X2_copyFrom n k h M = some M' ∧ HV M' k X' Y' t N Q (clr S) pb' pt' ∧ FrH M M' k := by
  obtain ⟨q, pv, hp, rm, _, hN, hQ⟩ := p
  obtain ⟨d5, d6, d7, len, K, fr, us, ow, w, hK⟩ := id pv
  obtain ⟨q', ⟨e5, e6, e7, len', w', h64, h18⟩, rm', lb', lt'⟩ := id r
  have hq := q.2.2.2.2
  have hq' := q'.2.2.2.2
  have u8 := w.2.2.2.2.2.2.2.2.2.1
  by_cases c : us ≤ len'
  · exact HV.copyL q pv hp hN hQ r hk h16 ⟨us, by rw [w'.1.1, w'.2.2.1.1]; exact c, u8.1⟩ hD hb hW hn
  · have r1 := rm'.1
    have r2 := rm'.2.1
    have r5 := rm'.2.2.2.2
    have s5 := rm.2.2.2.2
    have x1 := rm'.2.2.1
    have x2 := rm'.2.2.2.1
    rw [w'.1.1, w'.2.2.1.1] at r1 r2 r5
    rw [w.1.1.1, w.1.2.2.1.1] at s5
    obtain ⟨u81, u82, u83, u84, u85⟩ := u8
    have E := f_cpg q q' hk w.1 w' u81 (by omega) u82 u84 (by unfold CAP; omega) (by unfold CAPU; omega)
    have Q0 : CS (al3 M k len) h := al3_CS q (by omega)
    have Q1 : CS (al3 M k len) k := al3_CS q' (Or.inl rfl)
    have W1 := al3_DS (M := M) (k := k) (len := len) hq.2.2 hq'.1
    have lo : ∀ o, o < 131 → ∀ b, mI (al3 M k len) o b = mI M o b := fun o ho b => al3_I _ _ _ _ (by omega)
    have F0 := al3_FrH M k len (by omega)
    have B := w.1.2.1
    have rr : ∀ b, mR (al3 M k len) (h + 1) b = mR M (h + 1) b := fun b => F0.2.2.1 _ _ (by omega) (by omega)
    have W0 : DS (al3 M k len) h d5 d6 d7 len := by
      obtain ⟨⟨a5, a6, a7⟩, ⟨b5, b6, b7⟩, ⟨l5, l6, l7⟩, y⟩ := w.1
      refine ⟨⟨by rw [rr]; exact a5, by rw [rr]; exact a6, by rw [rr]; exact a7⟩, ⟨al3_io b5, al3_io b6, al3_io b7⟩, ⟨?_, ?_, ?_⟩, y⟩
      · rw [mLn, al3_C _ _ _ b5.1]; exact l5
      · rw [mLn, al3_C _ _ _ b6.1]; exact l6
      · rw [mLn, al3_C _ _ _ b7.1]; exact l7
    have P0 : PV (al3 M k len) h t S := ⟨d5, d6, d7, len, K, fr, us, ow, w.cg W0 (Nat.le_refl _) u84 (fun i _ _ b => lo _ (by omega) _) (fun b _ => al3_I _ _ _ _ B.1.1) (fun b _ => al3_I _ _ _ _ B.2.1.1) (fun b _ => al3_I _ _ _ _ B.2.2.1), hK⟩
    have H0 : HP (al3 M k len) h S := hp.cg (fun o ho b => lo o (by omega) b) (fun _ _ _ => rfl) rfl
    have len64 : 2 * len' ≤ len := pw_dbl r5 s5 (by omega)
    have R0 : TR (al3 M k len) k X' Y' pb' pt' := by
      refine ⟨Q1, ⟨_, _, _, len, W1, u85, u84⟩, ⟨?_, ?_, x1, x2, ?_⟩, lb'.cg (fun b => lo _ (by omega) b) (fun b => lo _ (by omega) b), lt'.cg (fun b => lo _ (by omega) b) (fun b => lo _ (by omega) b)⟩
      · rw [W1.1.1, W1.2.2.1.1, al3_N]; omega
      · rw [W1.1.1, W1.2.2.1.1, al3_U]; omega
      · rw [W1.1.1, W1.2.2.1.1]; exact s5
    have D0 : ∀ i j, 5 ≤ i → i ≤ 7 → 5 ≤ j → j ≤ 7 → mR (al3 M k len) (k + 1) i ≠ mR (al3 M k len) (h + 1) j := fun i j a b c' d => by
      rw [rr]
      have lt : mR M (h + 1) j < mN M := by
        rcases (show j = 5 ∨ j = 6 ∨ j = 7 by omega) with rfl | rfl | rfl
        · rw [w.1.1.1]; exact B.1.1
        · rw [w.1.1.2.1]; exact B.2.1.1
        · rw [w.1.1.2.2]; exact B.2.2.1
      have : mN M ≤ mR (al3 M k len) (k + 1) i := by
        rcases (show i = 5 ∨ i = 6 ∨ i = 7 by omega) with rfl | rfl | rfl
        · rw [W1.1.1]; exact Nat.le_refl _
        · rw [W1.1.2.1]; omega
        · rw [W1.1.2.2]; omega
      omega
    obtain ⟨M', e, p', f'⟩ := HV.copyL (n := n) (Q := Q) Q0 P0 H0 (by rw [lo 1 (by decide)]; exact hN) (fun v hv => by rw [lo _ (by omega)]; exact hQ v hv) R0 hk h16 ⟨us, by rw [W1.1.1, W1.2.2.1.1]; exact u82, by rw [lo _ (by omega)]; exact u81⟩ D0 hb hW hn
    refine ⟨M', ?_, p', F0.tr f'⟩
    rw [← e, f_X2_copyFrom, f_X2_copyFrom, cs_f q', cs_h1 q', bnd_e, cs_p q', cs_f q, cs_h1 q, bnd_e, cs_p q, E, cs_f Q1, cs_h1 Q1, bnd_e, cs_p Q1, cs_f Q0, cs_h1 Q0, bnd_e, cs_p Q0]
/-! ===== what a move leaves alone ===== -/
def Kp (S S' : St) : Prop := (∀ k i, k = 7 ∨ k = 17 ∨ k = 20 ∨ k = 12 → xR S' k i = xR S k i) ∧ ∀ u, xR S' 0 u = 0 → xR S 0 u = 0
theorem Kp.rf (S : St) : Kp S S := ⟨fun _ _ _ => rfl, fun _ h => h⟩
theorem Kp.tr {S S' S'' : St} (h : Kp S S') (h' : Kp S' S'') : Kp S S'' := ⟨fun k i z => (h'.1 k i z).trans (h.1 k i z), fun u z => h.2 u (h'.2 u z)⟩
theorem Kp.eq {S S' S'' : St} (h : Kp S S') (e : xR S'' = xR S') : Kp S S'' := ⟨fun k i z => by rw [e]; exact h.1 k i z, fun u z => h.2 u (by rw [← e]; exact z)⟩
theorem Kp.r (S : St) {k i : Nat} {x : Int32} (h : k ≠ 0 ∧ k ≠ 7 ∧ k ≠ 17 ∧ k ≠ 20 ∧ k ≠ 12) : Kp S (uR S k i x) := by
  refine ⟨fun k' i' z => ?_, fun u z => ?_⟩
  · rw [xR_uR, if_neg (by omega)]
  · rwa [xR_uR, if_neg (by omega)] at z
theorem Kp.tsn (S : St) (t : Int32) (k f g : Nat) (s : Int32) : Kp S (sn t k f g s S) := by
  refine ⟨fun k' i' z => ?_, fun u z => ?_⟩
  · rw [sn_R _ _ _ _ _ _ (by omega)]
  · rwa [sn_R _ _ _ _ _ _ (by omega)] at z
theorem Kp.tsAl (t : Int32) (k f : Nat) (set s : Int32) (ws : List Nat) (S : St) : Kp S (sAl t k f set s ws S) := by
  refine ⟨fun k' i' z => ?_, fun u z => ?_⟩
  · rw [sAl_R _ _ _ _ _ (by omega)]
  · rwa [sAl_R _ _ _ _ _ (by omega)] at z
theorem Kp.tnob (S : St) (a : Nat) : Kp S (nob a S) := by
  refine Kp.tr (Kp.tr (Kp.r S (k := 8) (i := a) (x := -1) (by decide)) (Kp.r _ (k := 9) (i := a) (x := 0) (by decide))) (Kp.r _ (k := 10) (i := a) (x := 0) (by decide))
theorem Kp.tgF (S : St) (t : Int32) (a : Nat) : Kp S (gF t a S) := by
  unfold gF
  split
  · exact Kp.tnob S a
  · refine Kp.tr ?_ (Kp.tsn _ _ _ _ _ _)
    refine Kp.eq (Kp.tr (Kp.tr (Kp.tnob S a) (Kp.r _ (k := 8) (i := a) (by decide))) (Kp.r _ (k := 9) (i := a) (by decide))) rfl
theorem Kp.trq3 (S : St) (t : Int32) (a : Nat) : Kp S (rq3 t a S) := by
  unfold rq3
  split
  · exact Kp.rf S
  · exact Kp.tr (Kp.r S (k := 10) (i := a) (x := 1) (by decide)) (Kp.tsn _ _ _ _ _ _)
theorem Kp.trq2 (S : St) (t : Int32) (a : Nat) (old : List Wtr) : Kp S (rq2 t a old S) := by
  cases old with
  | nil => exact Kp.rf S
  | cons w r =>
    show Kp S (if ahd w.2 (nI w.1) (xR S 9 a) (xR S 8 a) then _ else S)
    split
    · exact Kp.tsn _ _ _ _ _ _
    · exact Kp.rf S
theorem Kp.W (S : St) (a : Nat) (w : List Wtr) : Kp S (uW S a w) := Kp.eq (Kp.rf S) rfl
theorem Kp.trq (S : St) (t : Int32) (a v : Nat) (s : Int32) : Kp S (rq t a v s S) := by
  unfold rq
  split
  · exact (Kp.W S a _).tr (Kp.tgF _ _ _)
  · split
    · exact ((Kp.W S a _).tr (Kp.trq2 _ _ _ _)).tr (Kp.trq3 _ _ _)
    · exact (Kp.W S a _).tr (Kp.tsn _ _ _ _ _ _)
theorem Kp.tyl (S : St) (t : Int32) (a v : Nat) (s : Int32) : Kp S (yl t a v s S) := by
  unfold yl
  split
  · exact (Kp.W S a _).tr (Kp.tgF _ _ _)
  · exact Kp.rf S
theorem Kp.trl (S : St) (t : Int32) (a v : Nat) (s : Int32) : Kp S (rl t a v s S) := by
  unfold rl
  split
  · exact Kp.tgF _ _ _
  · exact Kp.W S a _
theorem Kp.tyT (S : St) (t : Int32) (v a : Nat) : Kp S (yT t v a S) := by
  unfold yT
  simp only []
  exact ((Kp.tsn S t 4 v a _).tr (Kp.r _ (k := 4) (i := v) (by decide))).tr (Kp.r _ (k := 6) (i := v) (by decide))
theorem Kp.tfdl (t : Int32) (v : Nat) (d : Int32) : ∀ (ws : List Nat) (S : St), Kp S (fdl t v d ws S) := by
  intro ws
  induction ws with
  | nil => intro S; exact Kp.rf S
  | cons w ws ih =>
    intro S
    have e : fdl t v d (w :: ws) S = fdl t v d ws (if bt d w then yT t v w S else S) := by
      unfold fdl
      rw [List.foldl_cons]
    rw [e]
    refine Kp.tr ?_ (ih _)
    split
    · exact Kp.tyT S t v w
    · exact Kp.rf S
theorem Kp.tfd (S : St) (t : Int32) (N v a : Nat) : Kp S (fd t N v a S) := by
  unfold fd
  exact ((Kp.r S (k := 6) (i := v) (by decide)).tr (Kp.tfdl _ _ _ _ _)).tr (Kp.r _ (k := 5) (i := v) (by decide))
theorem Kp.tiq (S : St) (t : Int32) (v a : Nat) : Kp S (iq t v a S) := by
  unfold iq
  split
  · split
    · exact Kp.r S (k := 5) (i := v) (by decide)
    · exact Kp.tyT S t v a
  · exact Kp.rf S
/-- also with an entry -/
def Kq (S S' : St) : Prop := (∀ k i, k = 7 ∨ k = 17 ∨ k = 20 → xR S' k i = xR S k i) ∧ (∀ u, xR S' 0 u = 0 → xR S 0 u = 0) ∧ ∀ u, xR S' 12 u = xR S 12 u ∨ xR S' 12 u = xR S 12 u + 1
theorem Kp.q {S S' : St} (h : Kp S S') : Kq S S' := ⟨fun k i z => h.1 k i (by omega), h.2, fun u => Or.inl (h.1 12 u (by omega))⟩
theorem Kq.tr {S S' S'' : St} (h : Kp S S') (h' : Kq S' S'') : Kq S S'' :=
  ⟨fun k i z => (h'.1 k i z).trans (h.1 k i (by omega)), fun u z => h.2 u (h'.2.1 u z), fun u => by rw [← h.1 12 u (by omega)]; exact h'.2.2 u⟩
theorem en_12 {t : Int32} {N v : Nat} {S : St} {k i : Nat} (hk : k ≠ 15 ∧ k ≠ 21) : xR (en t N v S) k i = if k = 0 ∧ i = v then 2 else if k = 5 ∧ i = v then 0 else if k = 12 ∧ i = v then xR S 12 v + 1 else xR S k i := by
  rw [enC_e]
  unfold enC
  simp only []
  rw [xR_uE, xR_uR, if_neg (by omega), xR_uR, if_neg (by omega), xR_uR, if_neg (by omega), xR_uR, if_neg (by omega), xR_uR, if_neg (by omega), xR_uR, xR_uR, xR_uR, xR_uR]
  by_cases c12 : k = 12 ∧ i = v
  · rw [if_pos c12, if_neg (show ¬ (k = 0 ∧ i = v) from fun z => by omega), if_neg (show ¬ (k = 5 ∧ i = v) from fun z => by omega), if_pos c12]
  · rw [if_neg c12, if_neg (show ¬ (k = 21 ∧ i = v) from fun z => by omega), if_neg c12]
theorem Kq.ten (S : St) (t : Int32) (N v : Nat) : Kq S (en t N v S) := by
  refine ⟨fun k i z => ?_, fun u z => ?_, fun u => ?_⟩
  · rw [en_12 (by omega), if_neg (by omega), if_neg (by omega), if_neg (by omega)]
  · rw [en_12 (by decide)] at z
    by_cases c : u = v
    · rw [if_pos ⟨rfl, c⟩] at z; exact absurd z (by decide)
    · rwa [if_neg (fun y => c y.2), if_neg (fun y => by have := y.1; omega), if_neg (fun y => by have := y.1; omega)] at z
  · rw [en_12 (by decide), if_neg (fun y => by have := y.1; omega), if_neg (fun y => by have := y.1; omega)]
    by_cases c : u = v
    · rw [if_pos ⟨rfl, c⟩, c]; exact Or.inr rfl
    · rw [if_neg (fun y => c y.2)]; exact Or.inl rfl
theorem Kq.tgr (S : St) (t : Int32) (N v a : Nat) : Kq S (gr t N v a S) := by
  unfold gr
  simp only []
  have h : Kp S (uR (uR (uR S 4 v (bon (xR S 4 v) a)) 5 v (bof (xR S 5 v) a)) 6 v (bof (xR S 6 v) a)) :=
    ((Kp.r S (k := 4) (i := v) (by decide)).tr (Kp.r _ (k := 5) (i := v) (by decide))).tr (Kp.r _ (k := 6) (i := v) (by decide))
  split
  · exact Kq.tr h (Kq.ten _ _ _ _)
  · exact h.q
theorem Kq.trd (S : St) (t : Int32) (N k f g : Nat) (s : Int32) : Kq S (rd t N k f g s S) := by
  unfold rd
  simp only []
  have h : Kp S (if s ≤ xR S 1 g then S else uR S 1 g s) := by
    split
    · exact Kp.rf S
    · exact Kp.r S (k := 1) (i := g) (by decide)
  generalize (if s ≤ xR S 1 g then S else uR S 1 g s) = S1 at h ⊢
  refine Kq.tr h ?_
  split
  · exact (Kp.trq _ _ _ _ _).q
  · split
    · exact (Kp.tyl _ _ _ _ _).q
    · split
      · exact (Kp.trl _ _ _ _ _).q
      · split
        · split
          · exact Kq.tgr _ _ _ _ _
          · split
            · exact (Kp.tfd _ _ _ _ _).q
            · exact (Kp.tiq _ _ _ _).q
        · exact (Kp.rf _).q
theorem Kp.twt (S : St) (N k f g : Nat) (s : Int32) : Kp S (wt N k f g s S) :=
  ⟨fun k' i z => wt_R (by omega) (by omega) (by omega) i, fun u z => by rwa [wt_R (by omega) (by omega) (by omega)] at z⟩
theorem Kq.tbr (S : St) (t : Int32) (N f g : Nat) : Kq S (br t N f g S) := by
  unfold br
  split
  · exact (Kp.rf S).q
  · exact Kq.tr ((Kp.eq (Kp.rf S) rfl).tr (Kp.twt (uL S (16 * f + g) _) N _ f g _)) (Kq.trd _ _ _ _ _ _ _)
theorem lv_R {t : Int32} {N v : Nat} {S : St} {k i : Nat} (hk : k ≠ 16) : xR (lv t N v S) k i = if i = v ∧ (k = 0 ∨ (3 ≤ k ∧ k ≤ 6)) then 0 else xR S k i := by
  unfold lv
  rw [sA_R hk, rst_R]
/-- of a move by a draw -/
theorem dm_K {N c v0 : Nat} {S : St} (t : Int32) (hc : c < 272) (hv : c < 256 ∨ c - 256 = v0) : (∀ k i, k = 7 ∨ k = 17 ∨ k = 20 → xR (dm t N c S) k i = xR S k i) ∧ (∀ u, u ≠ v0 ∨ c < 256 → xR (dm t N c S) 0 u = 0 → xR S 0 u = 0) ∧ ∀ u, xR (dm t N c S) 12 u = xR S 12 u ∨ xR (dm t N c S) 12 u = xR S 12 u + 1 := by
  unfold dm
  by_cases h : c < 256
  · rw [if_pos h]
    have := Kq.tbr S t N (c / 16) (c % 16)
    exact ⟨this.1, fun u _ => this.2.1 u, this.2.2⟩
  · rw [if_neg h, if_pos hc]
    refine ⟨fun k i z => ?_, fun u hu z => ?_, fun u => ?_⟩
    · rw [lv_R (by omega), if_neg (by omega)]
    · rwa [lv_R (by decide), if_neg (by omega)] at z
    · rw [lv_R (by decide), if_neg (by omega)]; exact Or.inl rfl
