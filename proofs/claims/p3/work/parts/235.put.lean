/-! ===== the class puts a letter ===== -/
theorem PW.cg {M M' : Mem} {h d5 d6 d7 len e5 e6 e7 len' : Nat} {t : Int32} {se : Nat → Int32} {K : Nat → List (Nat × Ltr)} {fr : List Nat} {us : Nat} {ow : Nat → Nat} {e : Nat} (p : PW M h d5 d6 d7 len t se K fr us ow e) (w : DS M' h e5 e6 e7 len') (hle : len ≤ len') (hlim : len' ≤ 18000) (hi : ∀ i, 1 ≤ i → i ≤ 6 → ∀ b, mI M' (h + i) b = mI M (h + i) b) (g5 : ∀ b, b < len → mI M' e5 b = mI M d5 b) (g6 : ∀ b, b < len → mI M' e6 b = mI M d6 b) (g7 : ∀ b, b < len → mI M' e7 b = mI M d7 b) : PW M' h e5 e6 e7 len' t se K fr us ow e := by
  obtain ⟨w0, pc, pn, pch, pla, pma, pbu, pse, ⟨pf1, pf2, pf3⟩, ⟨pu1, pu2, pu3, pu4, pu5⟩, pt, tot, pt1, pt2, pt3⟩ := p
  have hlt : ∀ l, l < 256 → ∀ x, x ∈ (K l).map Prod.fst → x < len := fun l hl x hx => by
    obtain ⟨y, hy, rfl⟩ := List.mem_map.mp hx
    have := (pc l hl y hy).1
    omega
  refine ⟨w, fun l hl y hy => ?_, pn, fun l hl => ?_, fun l hl cs z ez => ?_, fun l hl => ?_, fun f hf g hg => ?_, fun k hk => ?_, ⟨pf1, pf2, ?_⟩, ⟨?_, by omega, pu3, hlim, by omega⟩, ?_, tot, ?_, pt2, pt3⟩
  · have := pc l hl y hy
    rw [g5 _ (by omega), g6 _ (by omega)]; exact this
  · rw [hi 2 (by decide) (by decide)]
    exact (pch l hl).cg fun x hx => g7 x (hlt l hl x hx)
  · rw [hi 3 (by decide) (by decide)]; exact pla l hl cs z ez
  · rw [hi 4 (by decide) (by decide)]; exact pma l hl
  · rw [hi 5 (by decide) (by decide)]; exact pbu f hf g hg
  · rw [hi 6 (by decide) (by decide)]; exact pse k hk
  · rw [hi 1 (by decide) (by decide)]
    exact pf3.cg fun x hx => g7 x (by have := (pf2 x hx).1; omega)
  · rw [hi 1 (by decide) (by decide)]; exact pu1
  · rw [hi 1 (by decide) (by decide)]; exact pt
  · rw [hi 1 (by decide) (by decide)]; exact pt1
set_option maxHeartbeats 2000000 in
theorem PW.p81 {M : Mem} {h d5 d6 d7 len : Nat} {t : Int32} {se : Nat → Int32} {K : Nat → List (Nat × Ltr)} {fr : List Nat} {us : Nat} {ow : Nat → Nat} (q : CS M h) (p : PW M h d5 d6 d7 len t se K fr us ow 0) (hfr : fr = [] → us < len ∧ us < 9000) {k f g : Nat} {s : Int32} (hk : k < 6) (hf : f < 16) (hg : g < 16) : ∃ M' fr' us' ow' c, f_X5_put_81 (h + 1) (nI k) (nI f) (nI g) s M = some M' ∧ PW M' h d5 d6 d7 len t (up1 se k (se k + 1)) (up1 K (16 * f + g) (K (16 * f + g) ++ [(c, (nI k, s, t))])) fr' us' ow' 0 ∧ M'.1 = M.1 ∧ (∀ o b, mL M' o b = mL M o b) ∧ (∀ o, ¬ (h + 1 ≤ o ∧ o ≤ h + 6) → o ≠ d5 → o ≠ d6 → o ≠ d7 → ∀ b, mI M' o b = mI M o b) := by
  obtain ⟨w, pc, pn, pch, pla, pma, pbu, pse, ⟨pf1, pf2, pf3⟩, ⟨pu1, pu2, pu3, pu4, pu5⟩, pt, tot, pt1, pt2, pt3⟩ := id p
  have wd := w.2.2.2
  have hq := q.2.2.2.2
  have n1 : h + 1 ≠ d5 ∧ h + 1 ≠ d6 ∧ h + 1 ≠ d7 := by omega
  have ch0 : ∀ l c, l < 256 → (¬ ∃ y, y ∈ K l ∧ y.1 = c) → True := fun _ _ _ _ => trivial
  cases hfc : fr with
  | nil =>
    obtain ⟨hus, hus9⟩ := hfr hfc
    rw [hfc] at pf1 pf2 pf3 pt2
    have e9 : mI M (h + 1) 9 = -1 := pf3
    generalize hMa : sI M (h + 1) 8 (nI (us + 1)) = Ma
    have sa : Ma.1 = M.1 := by rw [← hMa]; rfl
    have qa := q.e sa
    have oa : ∀ o, o ≠ h + 1 → ∀ b, mI Ma o b = mI M o b := fun o n b => by rw [← hMa, mI_o _ _ _ _ _ n]
    have ob : ∀ b, b ≠ 8 → mI Ma (h + 1) b = mI M (h + 1) b := fun b n => by rw [← hMa, mI_n _ _ _ _ n]
    have pa : PW Ma h d5 d6 d7 len t se K [] (us + 1) (up1 ow us 257) 1 := by
      refine ⟨w.e sa, fun l hl y hy => ?_, pn, fun l hl => ?_, fun l hl cs z ez => ?_, fun l hl => ?_, fun f hf g hg => ?_, fun k hk => ?_, ⟨List.nodup_nil, fun c hc => by simp at hc, ?_⟩, ⟨?_, by omega, by omega, pu4, pu5⟩, ?_, tot, ?_, ?_, pt3⟩
      · have := pc l hl y hy
        rw [oa _ n1.1.symm, oa _ n1.2.1.symm, up1_o _ _ _ (by omega)]
        exact ⟨by omega, this.2⟩
      · rw [oa _ (by omega)]
        exact (pch l hl).cg fun x _ => oa _ n1.2.2.symm x
      · rw [oa _ (by omega)]; exact pla l hl cs z ez
      · rw [oa _ (by omega)]; exact pma l hl
      · rw [oa _ (by omega)]; exact pbu f hf g hg
      · rw [oa _ (by omega)]; exact pse k hk
      · rw [ob _ (by decide)]; exact e9
      · rw [← hMa, mI_s]
      · rw [ob _ (by decide)]; exact pt
      · rw [ob _ (by decide)]; exact pt1
      · simp only [List.length_nil] at pt2 ⊢; omega
    obtain ⟨M', e', p', m1, m2, m3⟩ := pa.put (s := s) qa (c := us) (by omega) (up1_s _ _ _) hk hf hg
    refine ⟨M', [], us + 1, _, us, ?_, p', m1.trans sa, fun o b => ?_, fun o z1 z5 z6 z7 b => ?_⟩
    · rw [f_X5_put_81, cs_p q, e9, if_pos rfl, pu1, bnd_e, nI_1, hMa, bnd_e, f_X5_put_107, cs_p qa, ob 9 (by decide), e9, if_neg (fun z => m1_ne' 0 (by decide) (by
        have h1 := nI_pos (n := us) (by omega)
        rw [z] at h1
        exact absurd (by decide) h1)), e']
    · rw [m2, ← hMa]; rfl
    · rw [m3 o z1 z5 z6 z7, oa _ (by omega)]
  | cons c cs =>
    rw [hfc] at pf1 pf2 pf3 pt2
    have hcu := pf2 c (by simp)
    have e9 : mI M (h + 1) 9 = nI c := pf3.1
    generalize hMa : sI M (h + 1) 9 (mI M d7 c) = Ma
    have sa : Ma.1 = M.1 := by rw [← hMa]; rfl
    have qa := q.e sa
    have oa : ∀ o, o ≠ h + 1 → ∀ b, mI Ma o b = mI M o b := fun o n b => by rw [← hMa, mI_o _ _ _ _ _ n]
    have ob : ∀ b, b ≠ 9 → mI Ma (h + 1) b = mI M (h + 1) b := fun b n => by rw [← hMa, mI_n _ _ _ _ n]
    have hnd := List.nodup_cons.mp pf1
    have pa : PW Ma h d5 d6 d7 len t se K cs us (up1 ow c 257) 1 := by
      refine ⟨w.e sa, fun l hl y hy => ?_, pn, fun l hl => ?_, fun l hl cs z ez => ?_, fun l hl => ?_, fun f hf g hg => ?_, fun k hk => ?_, ⟨hnd.2, fun x hx => ?_, ?_⟩, ⟨?_, pu2, pu3, pu4, pu5⟩, ?_, tot, ?_, ?_, pt3⟩
      · have := pc l hl y hy
        have hyc : y.1 ≠ c := fun z => by rw [z, hcu.2] at this; omega
        rw [oa _ n1.1.symm, oa _ n1.2.1.symm, up1_o _ _ _ hyc]
        exact this
      · rw [oa _ (by omega)]
        exact (pch l hl).cg fun x _ => oa _ n1.2.2.symm x
      · rw [oa _ (by omega)]; exact pla l hl cs z ez
      · rw [oa _ (by omega)]; exact pma l hl
      · rw [oa _ (by omega)]; exact pbu f hf g hg
      · rw [oa _ (by omega)]; exact pse k hk
      · have hxc : x ≠ c := fun z => hnd.1 (z ▸ hx)
        rw [up1_o _ _ _ hxc]
        exact pf2 x (by simp [hx])
      · rw [← hMa, mI_s, hMa]
        exact pf3.2.cg fun x _ => oa _ n1.2.2.symm x
      · rw [ob _ (by decide)]; exact pu1
      · rw [ob _ (by decide)]; exact pt
      · rw [ob _ (by decide)]; exact pt1
      · simp only [List.length_cons] at pt2; omega
    obtain ⟨M', e', p', m1, m2, m3⟩ := pa.put (s := s) qa (c := c) hcu.1 (up1_s _ _ _) hk hf hg
    refine ⟨M', cs, us, _, c, ?_, p', m1.trans sa, fun o b => ?_, fun o z1 z5 z6 z7 b => ?_⟩
    · have w17 := w.1
      rw [f_X5_put_81, cs_p q, e9, if_neg (fun z => by
        have h1 := nI_pos (n := c) (by omega)
        rw [z] at h1
        exact absurd (by decide) h1), f_X5_put_107, cs_p q, e9, if_pos rfl, w17.2.2, bnd_e, w.c (Or.inr (Or.inr rfl)), w.i (Or.inr (Or.inr rfl)) (by omega) (by omega), mI_d (by omega), hMa, bnd_e, e']
    · rw [m2, ← hMa]; rfl
    · rw [m3 o z1 z5 z6 z7, oa _ (by omega)]
theorem xR_sn16 (t : Int32) (k f g : Nat) (s : Int32) (S : St) : xR (sn t k f g s S) 16 = up1 (xR S 16) k (xR S 16 k + 1) := by
  funext i
  unfold sn
  rw [xR_uL, xR_uR]
  unfold up1
  by_cases e : i = k
  · rw [if_pos ⟨rfl, e⟩, if_pos e]
  · rw [if_neg (fun z => e z.2), if_neg e]
theorem PV.len {M : Mem} {h : Nat} {t : Int32} {S : St} {d5 d6 d7 len : Nat} {K : Nat → List (Nat × Ltr)} {fr : List Nat} {us : Nat} {ow : Nat → Nat} {e : Nat} (p : PW M h d5 d6 d7 len t (xR S 16) K fr us ow e) (hK : ∀ l, l < 256 → (K l).map Prod.snd = xL S l) : mI M (h + 1) 10 = nI (fl S).length ∧ us = (fl S).length + fr.length + e := by
  obtain ⟨tot, pt1, pt2, pt3⟩ := p.2.2.2.2.2.2.2.2.2.2.2
  have : tot = (fl S).length := by
    rw [pt3, fl_r]
    unfold flr
    refine congrArg List.length (fm_cg _ fun l hl => ?_)
    show ((K l).map Prod.snd).map (fun x => (l, x)) = _
    rw [hK l (by have := List.mem_range'_1.mp hl; omega)]
  rw [← this]
  exact ⟨pt1, pt2⟩
theorem cp_io {M : Mem} {a len c o : Nat} (h : isO M c o) : isO (cpI (nw M 100 (2 * len) (2 * len)) a 0 (mN M) 0 len) c o := gw1_io (a := a) (p := 0) (j := 0) h
theorem cp_new (M : Mem) (a len : Nat) : isO (cpI (nw M 100 (2 * len) (2 * len)) a 0 (mN M) 0 len) 100 (mN M) := gw1_new M a 0 0 len
set_option maxHeartbeats 4000000 in
theorem PV.put {M : Mem} {h X Y : Nat} {t : Int32} {S : St} (q : CS M h) (p : PV M h t S) (rm : Rm M h X Y) (hl : (fl S).length < 9000) {k f g : Nat} {s : Int32} (hk : k < 6) (hf : f < 16) (hg : g < 16) : ∃ M', f_X5_put (h + 1) (nI k) (nI f) (nI g) s M = some M' ∧ CS M' h ∧ PV M' h t (sn t k f g s S) ∧ Rm M' h X Y ∧ FrP M M' h := by
  obtain ⟨d5, d6, d7, len, K, fr, us, ow, p, hK⟩ := p
  obtain ⟨et, eu⟩ := PV.len p hK
  obtain ⟨w, pc, pn, pch, pla, pma, pbu, pse, ⟨pf1, pf2, pf3⟩, ⟨pu1, pu2, pu3, pu4, pu5⟩, pt, _⟩ := id p
  obtain ⟨⟨w5, w6, w7⟩, ⟨v5, v6, v7⟩, ⟨u5, u6, u7⟩, wd⟩ := id w
  obtain ⟨r1, r2, r3, r4, r5⟩ := rm
  rw [w5, u5] at r1 r2 r5
  have hq := q.2.2.2.2
  have fin : ∀ (M0 : Mem) (d5 d6 d7 len : Nat), CS M0 h → PW M0 h d5 d6 d7 len t (xR S 16) K fr us ow 0 → (fr = [] → us < len ∧ us < 9000) → Rm M0 h X Y → FrP M M0 h → ∃ M', f_X5_put_81 (h + 1) (nI k) (nI f) (nI g) s M0 = some M' ∧ CS M' h ∧ PV M' h t (sn t k f g s S) ∧ Rm M' h X Y ∧ FrP M M' h := by
    intro M0 d5 d6 d7 len q0 p0 hfr0 rm0 f0
    obtain ⟨M', fr', us', ow', c, e', p', m1, m2, m3⟩ := p0.p81 (s := s) q0 hfr0 hk hf hg
    obtain ⟨⟨w5, w6, w7⟩, _⟩ := p0.1
    refine ⟨M', e', q0.e m1, ⟨d5, d6, d7, len, _, fr', us', ow', by rw [xR_sn16]; exact p', fun l hl => ?_⟩, ?_, FrP.tr f0 ⟨?_, fun i _ => by rw [m1], fun a b _ _ => by unfold mR; rw [m1], fun o _ n1 n5 n6 n7 b => m3 o n1 (by rw [← w5]; exact n5) (by rw [← w6]; exact n6) (by rw [← w7]; exact n7) b, fun o _ b => m2 o b, fun j _ _ => Or.inl (by unfold mR; rw [m1])⟩⟩
    · rw [sn_L]
      by_cases e : l = 16 * f + g
      · rw [if_pos e, e, up1_s, List.map_append, hK _ (by omega)]; rfl
      · rw [if_neg e, up1_o _ _ _ e]; exact hK l hl
    · unfold Rm mN mU mLn mR at rm0 ⊢
      rw [m1]; exact rm0
    · unfold mN; rw [m1]; exact Nat.le_refl _
  have c0 : f_X5_put (h + 1) (nI k) (nI f) (nI g) s M = if mI M (h + 1) 9 = (-1 : Int32) then (if nI us < nI len then f_X5_put_81 (h + 1) (nI k) (nI f) (nI g) s M else obd2 (f_J7_copyOf_59c91 d5 (nI us * (2 : Int32)) M) fun r15 M16 => chk (isO M16 5 (h + 1)) <| chk (isO M16 100 r15) <| bnd (sR M16 (h + 1) 5 r15) fun M18 => bnd (mR M18 (h + 1) 6) fun o23 => chk (isO M18 100 o23) <| obd2 (f_J7_copyOf_59c91 o23 ((mI M18 (h + 1) 8) * (2 : Int32)) M18) fun r27 M28 => chk (isO M28 5 (h + 1)) <| chk (isO M28 100 r27) <| bnd (sR M28 (h + 1) 6 r27) fun M30 => bnd (mR M30 (h + 1) 7) fun o35 => chk (isO M30 100 o35) <| obd2 (f_J7_copyOf_59c91 o35 ((mI M30 (h + 1) 8) * (2 : Int32)) M30) fun r39 M40 => chk (isO M40 5 (h + 1)) <| chk (isO M40 100 r39) <| bnd (sR M40 (h + 1) 7 r39) fun M42 => f_X5_put_81 (h + 1) (nI k) (nI f) (nI g) s M42) else f_X5_put_81 (h + 1) (nI k) (nI f) (nI g) s M := by
    rw [f_X5_put, cs_p q, et, if_pos (by rw [show (131072 : Int32) = nI 131072 from rfl]; exact nI_lt (by omega) (by decide))]
    by_cases e : mI M (h + 1) 9 = -1
    · rw [if_pos e, if_pos e, w5, bnd_e, w.c (Or.inl rfl), u5, n32, pu1]
      by_cases e2 : nI us < nI len
      · rw [if_pos e2, if_pos e2]
      · rw [if_neg e2, if_neg e2, bnd_e, w.c (Or.inl rfl)]
    · rw [if_neg e, if_neg e]
  rw [c0]
  by_cases e9 : mI M (h + 1) 9 = -1
  · rw [if_pos e9]
    have hfr : fr = [] := by
      cases fr with
      | nil => rfl
      | cons c cs =>
        have h9 : mI M (h + 1) 9 = nI c := pf3.1
        have h1 := nI_pos (n := c) (by have := pf2 c (by simp); omega)
        rw [← h9, e9] at h1
        exact absurd (by decide) h1
    rw [hfr, List.length_nil] at eu
    by_cases e2 : us < len
    · rw [if_pos (nI_lt e2 (by omega))]
      exact fin M d5 d6 d7 len q p (fun _ => ⟨e2, by omega⟩) ⟨by rw [w5, u5]; exact r1, by rw [w5, u5]; exact r2, r3, r4, by rw [w5, u5]; exact r5⟩ (FrP.rf M h)
    · have eul : us = len := by omega
      rw [if_neg (nI_nlt (by omega) (by omega)), eul]
      have em : nI len * (2 : Int32) = nI (2 * len) := by rw [show (2 : Int32) = nI 2 from rfl, pk_mul, Nat.mul_comm]
      have pu1' : mI M (h + 1) 8 = nI len := by rw [← eul]; exact pu1
      have hN : mN M + 3 ≤ CAP := by unfold CAP; omega
      have hU : mU M + 6 * len ≤ CAPU := by unfold CAPU; omega
      generalize hG1 : gw1 M d5 (h + 1) 5 len = G1
      have N1 : mN G1 = mN M + 1 := by rw [← hG1]; rfl
      have U1 : mU G1 = mU M + 2 * len := by rw [← hG1]; rfl
      have q1 : CS G1 h := by rw [← hG1]; exact q.gw (by decide)
      have R1 : ∀ a b, a < mN M → mR G1 a b = if a = h + 1 ∧ b = 5 then mN M else mR M a b := fun a b ha => by rw [← hG1]; exact gw1_R _ _ _ _ _ _ (by omega)
      have I1 : ∀ o, o < mN M → ∀ b, mI G1 o b = mI M o b := fun o ho b => by rw [← hG1]; exact gw1_I _ _ _ _ _ _ (by omega)
      have J1 : ∀ b, b < len → mI G1 (mN M) b = mI M d5 b := fun b hb => by rw [← hG1]; exact gw1_J _ _ _ _ _ (by have := v5.1; omega) hb
      have C1 : ∀ i, i < mN M → G1.1.2.1 i = M.1.2.1 i := fun i hi => by rw [← hG1, gw1_C, if_neg (by omega)]
      have L1 : ∀ o, o < mN M → ∀ b, mL G1 o b = mL M o b := fun o ho b => by rw [← hG1]; exact gw1_L _ _ _ _ _ _ (by omega)
      have K1 : G1.1.2.1 (mN M) = (100, 2 * len) := by rw [← hG1, gw1_C, if_pos rfl]
      generalize hG2 : gw1 G1 d6 (h + 1) 6 len = G2
      have N2 : mN G2 = mN M + 2 := by rw [← hG2, gw1_N, N1]
      have U2 : mU G2 = mU M + 4 * len := by rw [← hG2, gw1_U, U1]; omega
      have q2 : CS G2 h := by rw [← hG2]; exact q1.gw (by decide)
      have R2 : ∀ a b, a < mN G1 → mR G2 a b = if a = h + 1 ∧ b = 6 then mN G1 else mR G1 a b := fun a b ha => by rw [← hG2]; exact gw1_R _ _ _ _ _ _ (by omega)
      have I2 : ∀ o, o < mN G1 → ∀ b, mI G2 o b = mI G1 o b := fun o ho b => by rw [← hG2]; exact gw1_I _ _ _ _ _ _ (by omega)
      have J2 : ∀ b, b < len → mI G2 (mN G1) b = mI G1 d6 b := fun b hb => by rw [← hG2]; exact gw1_J _ _ _ _ _ (by have := v6.1; omega) hb
      have C2 : ∀ i, i < mN G1 → G2.1.2.1 i = G1.1.2.1 i := fun i hi => by rw [← hG2, gw1_C, if_neg (by omega)]
      have L2 : ∀ o, o < mN G1 → ∀ b, mL G2 o b = mL G1 o b := fun o ho b => by rw [← hG2]; exact gw1_L _ _ _ _ _ _ (by omega)
      have K2 : G2.1.2.1 (mN G1) = (100, 2 * len) := by rw [← hG2, gw1_C, if_pos rfl]
      generalize hG3 : gw1 G2 d7 (h + 1) 7 len = G3
      have N3 : mN G3 = mN M + 3 := by rw [← hG3, gw1_N, N2]
      have U3 : mU G3 = mU M + 6 * len := by rw [← hG3, gw1_U, U2]; omega
      have q3 : CS G3 h := by rw [← hG3]; exact q2.gw (by decide)
      have R3 : ∀ a b, a < mN G2 → mR G3 a b = if a = h + 1 ∧ b = 7 then mN G2 else mR G2 a b := fun a b ha => by rw [← hG3]; exact gw1_R _ _ _ _ _ _ (by omega)
      have I3 : ∀ o, o < mN G2 → ∀ b, mI G3 o b = mI G2 o b := fun o ho b => by rw [← hG3]; exact gw1_I _ _ _ _ _ _ (by omega)
      have J3 : ∀ b, b < len → mI G3 (mN G2) b = mI G2 d7 b := fun b hb => by rw [← hG3]; exact gw1_J _ _ _ _ _ (by have := v7.1; omega) hb
      have C3 : ∀ i, i < mN G2 → G3.1.2.1 i = G2.1.2.1 i := fun i hi => by rw [← hG3, gw1_C, if_neg (by omega)]
      have L3 : ∀ o, o < mN G2 → ∀ b, mL G3 o b = mL G2 o b := fun o ho b => by rw [← hG3]; exact gw1_L _ _ _ _ _ _ (by omega)
      have K3 : G3.1.2.1 (mN G2) = (100, 2 * len) := by rw [← hG3, gw1_C, if_pos rfl]
      have b5 := v5.1; have b6 := v6.1; have b7 := v7.1
      have z5 : mR G3 (h + 1) 5 = mN M := by rw [R3 _ _ (by omega), if_neg (by omega), R2 _ _ (by omega), if_neg (by omega), R1 _ _ (by omega), if_pos ⟨rfl, rfl⟩]
      have z6 : mR G3 (h + 1) 6 = mN M + 1 := by rw [R3 _ _ (by omega), if_neg (by omega), R2 _ _ (by omega), if_pos ⟨rfl, rfl⟩, N1]
      have z7 : mR G3 (h + 1) 7 = mN M + 2 := by rw [R3 _ _ (by omega), if_pos ⟨rfl, rfl⟩, N2]
      have y5 : G3.1.2.1 (mN M) = (100, 2 * len) := by rw [C3 _ (by omega), C2 _ (by omega), K1]
      have y6 : G3.1.2.1 (mN M + 1) = (100, 2 * len) := by rw [C3 _ (by omega), ← N1, K2]
      have y7 : G3.1.2.1 (mN M + 2) = (100, 2 * len) := by rw [← N2, K3]
      have w3 : DS G3 h (mN M) (mN M + 1) (mN M + 2) (2 * len) := by
        refine ⟨⟨z5, z6, z7⟩, ⟨⟨by omega, ?_⟩, ⟨by omega, ?_⟩, ⟨by omega, ?_⟩⟩, ⟨?_, ?_, ?_⟩, by omega⟩
        · rw [mC, y5]
        · rw [mC, y6]
        · rw [mC, y7]
        · rw [mLn, y5]
        · rw [mLn, y6]
        · rw [mLn, y7]
      have I : ∀ o, o < mN M → ∀ b, mI G3 o b = mI M o b := fun o ho b => by rw [I3 _ (by omega), I2 _ (by omega), I1 _ ho]
      have p3 : PW G3 h (mN M) (mN M + 1) (mN M + 2) (2 * len) t (xR S 16) K fr us ow 0 := by
        refine p.cg w3 (by omega) (by omega) (fun i _ _ b => I _ (by omega) b) (fun b hb => ?_) (fun b hb => ?_) (fun b hb => ?_)
        · rw [I3 _ (by omega), I2 _ (by omega), J1 b hb]
        · rw [I3 _ (by omega), ← N1, J2 b hb, I1 _ b6]
        · rw [← N2, J3 b hb, I2 _ (by omega), I1 _ b7]
      obtain ⟨M', e', g1, g2, g3, g4⟩ := fin G3 _ _ _ _ q3 p3 (fun _ => by omega) ⟨by rw [z5, mLn, y5, N3]; show (mN M + 3) * 64 ≤ X + 3 * (2 * len); omega, by rw [z5, mLn, y5, U3]; show mU M + 6 * len ≤ Y + 6 * (2 * len); omega, r3, r4, by rw [z5, mLn, y5]; obtain ⟨z, ez⟩ := r5; exact ⟨z + 1, by show 2 * len = _; rw [ez, Nat.pow_succ]; omega⟩⟩ ⟨by omega, fun i hi => by rw [C3 _ (by omega), C2 _ (by omega), C1 _ hi], fun a b ha hn => by rw [R3 _ _ (by omega), if_neg (by omega), R2 _ _ (by omega), if_neg (by omega), R1 _ _ ha, if_neg (by omega)], fun o ho _ _ _ _ b => I o ho b, fun o ho b => by rw [L3 _ (by omega), L2 _ (by omega), L1 _ ho], fun j h5 h7 => by
        rcases (show j = 5 ∨ j = 6 ∨ j = 7 by omega) with rfl | rfl | rfl
        · right; rw [z5]; exact Nat.le_refl _
        · right; rw [z6]; omega
        · right; rw [z7]; omega⟩
      refine ⟨M', ?_, g1, g2, g3, g4⟩
      have f1 := f_copyOf (M := M) v5 u5 (by omega) (by omega) (by omega) (by omega)
      have f2 := f_copyOf (M := G1) (a := d6) (len := len) ⟨by omega, by rw [mC, C1 _ b6]; exact v6.2⟩ (by rw [mLn, C1 _ b6]; exact u6) (by omega) (by omega) (by omega) (by omega)
      have f3 := f_copyOf (M := G2) (a := d7) (len := len) ⟨by omega, by rw [mC, C2 _ (by omega), C1 _ b7]; exact v7.2⟩ (by rw [mLn, C2 _ (by omega), C1 _ b7]; exact u7) (by omega) (by omega) (by omega) (by omega)
      have i0 : isO M 5 (h + 1) := q.io (i := 1) (by decide) (by decide) (by decide)
      have i1 : isO G1 5 (h + 1) := q1.io (i := 1) (by decide) (by decide) (by decide)
      have i2 : isO G2 5 (h + 1) := q2.io (i := 1) (by decide) (by decide) (by decide)
      have e6 : mR G1 (h + 1) 6 = d6 := by rw [R1 _ _ (by omega), if_neg (by omega)]; exact w6
      have e7 : mR G2 (h + 1) 7 = d7 := by rw [R2 _ _ (by omega), if_neg (by omega), R1 _ _ (by omega), if_neg (by omega)]; exact w7
      have s1 : mI G1 (h + 1) 8 = nI len := by rw [I1 _ (by omega)]; exact pu1'
      have s2 : mI G2 (h + 1) 8 = nI len := by rw [I2 _ (by omega)]; exact s1
      have o6 : isO G1 100 d6 := ⟨by omega, by rw [mC, C1 _ b6]; exact v6.2⟩
      have o7 : isO G2 100 d7 := ⟨by omega, by rw [mC, C2 _ (by omega), C1 _ b7]; exact v7.2⟩
      rw [em, f1, obd2_s, chk_t (cp_io i0), chk_t (cp_new M d5 len), show sR (cpI (nw M 100 (2 * len) (2 * len)) d5 0 (mN M) 0 len) (h + 1) 5 (mN M) = G1 from hG1, bnd_e, e6, bnd_e, chk_t o6, s1, em, f2, obd2_s, chk_t (cp_io i1), chk_t (cp_new G1 d6 len), show sR (cpI (nw G1 100 (2 * len) (2 * len)) d6 0 (mN G1) 0 len) (h + 1) 6 (mN G1) = G2 from hG2, bnd_e, e7, bnd_e, chk_t o7, s2, em, f3, obd2_s, chk_t (cp_io i2), chk_t (cp_new G2 d7 len), show sR (cpI (nw G2 100 (2 * len) (2 * len)) d7 0 (mN G2) 0 len) (h + 1) 7 (mN G2) = G3 from hG3, bnd_e]
      exact e'
  · rw [if_neg e9]
    refine fin M d5 d6 d7 len q p (fun z => absurd ?_ e9) ⟨by rw [w5, u5]; exact r1, by rw [w5, u5]; exact r2, r3, r4, by rw [w5, u5]; exact r5⟩ (FrP.rf M h)
    rw [z] at pf3
    exact pf3
