/-! ===== the class: one hall's letters for another's ===== -/
theorem cp_I (M : Mem) (a b n o j : Nat) : mI (cpI M a 0 b 0 n) o j = if o = b ∧ j < n then mI M a j else mI M o j := by
  show (if o = b then va_cpy (M.2.1 a) (M.2.1 b) 0 0 n j else M.2.1 o j) = _
  by_cases c : o = b
  · rw [if_pos c]
    by_cases d : j < n
    · rw [pk_cpy_in (Nat.zero_le _) (by omega), if_pos ⟨c, d⟩, Nat.zero_add, Nat.sub_zero]; rfl
    · rw [pk_cpy_out (by omega), if_neg (fun z => d z.2), ← c]; rfl
  · rw [if_neg c, if_neg (fun z => c z.1)]; rfl
theorem cp_st {α : Type} {M : Mem} {a b n la lb : Nat} (f : Mem → Option α) (h1 : n ≤ la) (h2 : n ≤ lb) (h3 : n < 2 ^ 31) : (chk (cp_ok (0 : Int32) (0 : Int32) (nI n) 0 la lb) <| bnd (cpI M a ((0 : Int32)).toNatClampNeg b ((0 : Int32)).toNatClampNeg (nI n).toNatClampNeg) f) = f (cpI M a 0 b 0 n) := by
  have c0 : ((0 : Int32)).toNatClampNeg = 0 := cl0
  have cn : (nI n).toNatClampNeg = n := nI_clamp h3
  have n0 : ¬ nI n < 0 := nI_nlt (b := 0) (Nat.zero_le _) h3
  rw [chk_t (⟨by decide, by decide, n0, by rw [c0, cn]; omega, by rw [c0, cn]; omega⟩), bnd_e, c0, cn]
theorem far1 {k e i j : Nat} (he : e = k + i ∨ 131 ≤ e) (hi : 7 ≤ i) (hk : k + 49 ≤ 131) (hj : j ≤ 6) : k + j ≠ e := by omega
theorem far2 {h k e i j : Nat} (he : e = k + i ∨ 131 ≤ e) (hi : i ≤ 9) (hk : h + 49 ≤ k ∨ k + 49 ≤ h) (hh : h + 49 ≤ 131) (hj : j ≤ 9) : h + j ≠ e := by omega
theorem far3 {h k i j : Nat} (hk : h + 49 ≤ k ∨ k + 49 ≤ h) (hi : i ≤ 9) (hj : j ≤ 9) : h + i ≠ k + j := by omega
theorem eOx {k e : Nat} (A : ∀ j, j ≤ 6 → k + j ≠ e) : ¬ (k + 2 ≤ e ∧ e ≤ k + 6) := fun z => A (e - k) (by omega) (by omega)
theorem hOx {h k : Nat} (C : ∀ i j, i ≤ 9 → j ≤ 9 → h + i ≠ k + j) : ∀ i, i ≤ 9 → ¬ (k + 2 ≤ h + i ∧ h + i ≤ k + 6) := fun i hi z => C i (h + i - k) hi (by omega) (by omega)
theorem oiA {k o : Nat} (z : o = k + 1) : k + 1 ≤ o ∧ o ≤ k + 6 := by omega
theorem oiB {k o : Nat} (z : k + 2 ≤ o ∧ o ≤ k + 6) : k + 1 ≤ o ∧ o ≤ k + 6 := by omega
theorem inr26 {k o i : Nat} (z : o = k + i) (h2 : 2 ≤ i) (h6 : i ≤ 6) : k + 2 ≤ o ∧ o ≤ k + 6 := by omega
set_option maxHeartbeats 4000000 in
theorem PW.copy {M : Mem} {h k d5 d6 d7 len e5 e6 e7 len' : Nat} {t : Int32} {se : Nat → Int32} {K : Nat → List (Nat × Ltr)} {fr : List Nat} {us : Nat} {ow : Nat → Nat} (q : CS M h) (q' : CS M k) (hk : h + 49 ≤ k ∨ k + 49 ≤ h) (p : PW M h d5 d6 d7 len t se K fr us ow 0) (w : DS M k e5 e6 e7 len') (hu : us ≤ len') (h64 : 64 ≤ len') (h18 : len' ≤ 18000) (hd : (e5 ≠ d5 ∧ e5 ≠ d6 ∧ e5 ≠ d7) ∧ (e6 ≠ d5 ∧ e6 ≠ d6 ∧ e6 ≠ d7) ∧ (e7 ≠ d5 ∧ e7 ≠ d6 ∧ e7 ≠ d7)) : ∃ M', f_X5_copyFrom (k + 1) (h + 1) M = some M' ∧ PW M' k e5 e6 e7 len' t se K fr us ow 0 ∧ M'.1 = M.1 ∧ (∀ o b, mL M' o b = mL M o b) ∧ (∀ o, ¬ (k + 1 ≤ o ∧ o ≤ k + 6) → o ≠ e5 → o ≠ e6 → o ≠ e7 → ∀ b, mI M' o b = mI M o b) := by
  obtain ⟨⟨hd51, hd52, hd53⟩, ⟨hd61, hd62, hd63⟩, ⟨hd71, hd72, hd73⟩⟩ := hd
  obtain ⟨w0, pc, pn, pch, pla, pma, pbu, pse, ⟨pf1, pf2, pf3⟩, ⟨pu1, pu2, pu3, pu4, pu5⟩, pt, tot, pt1, pt2, pt3⟩ := p
  obtain ⟨⟨a5, a6, a7⟩, ⟨b5, b6, b7⟩, ⟨l5, l6, l7⟩, x1, x2, x3, x4, x5, x6⟩ := w0
  obtain ⟨⟨a5', a6', a7'⟩, ⟨b5', b6', b7'⟩, ⟨l5', l6', l7'⟩, y1, y2, y3, y4, y5, y6⟩ := id w
  have hq := q.2.2.2.2
  have hq' := q'.2.2.2.2
  have hk' : k + 49 ≤ h ∨ h + 49 ≤ k := hk.symm
  have A5 : ∀ j, j ≤ 6 → k + j ≠ e5 := fun j hj => far1 y1 (by decide) hq'.1 hj
  have A6 : ∀ j, j ≤ 6 → k + j ≠ e6 := fun j hj => far1 y2 (by decide) hq'.1 hj
  have A7 : ∀ j, j ≤ 6 → k + j ≠ e7 := fun j hj => far1 y3 (by decide) hq'.1 hj
  have B5 : ∀ j, j ≤ 9 → h + j ≠ e5 := fun j hj => far2 y1 (by decide) hk hq.1 hj
  have B6 : ∀ j, j ≤ 9 → h + j ≠ e6 := fun j hj => far2 y2 (by decide) hk hq.1 hj
  have B7 : ∀ j, j ≤ 9 → h + j ≠ e7 := fun j hj => far2 y3 (by decide) hk hq.1 hj
  have D5 : ∀ j, j ≤ 9 → k + j ≠ d5 := fun j hj => far2 x1 (by decide) hk' hq'.1 hj
  have D6 : ∀ j, j ≤ 9 → k + j ≠ d6 := fun j hj => far2 x2 (by decide) hk' hq'.1 hj
  have D7 : ∀ j, j ≤ 9 → k + j ≠ d7 := fun j hj => far2 x3 (by decide) hk' hq'.1 hj
  have C0 : ∀ i j, i ≤ 9 → j ≤ 9 → h + i ≠ k + j := fun i j hi hj => far3 hk hi hj
  have lts : ∀ o, o < k + 2 → ¬ (k + 2 ≤ o ∧ o ≤ k + 6) := fun o z y => absurd y.1 (Nat.not_le_of_lt z)
  have eO5 : ¬ (k + 2 ≤ e5 ∧ e5 ≤ k + 6) := eOx A5
  have eO6 : ¬ (k + 2 ≤ e6 ∧ e6 ≤ k + 6) := eOx A6
  have eO7 : ¬ (k + 2 ≤ e7 ∧ e7 ≤ k + 6) := eOx A7
  have hO : ∀ i, i ≤ 9 → ¬ (k + 2 ≤ h + i ∧ h + i ≤ k + 6) := hOx C0
  clear hk hk' x1 x2 x3 y1 y2 y3
  generalize hM1 : cpI M d5 0 e5 0 us = M1
  generalize hM2 : cpI M1 d6 0 e6 0 us = M2
  generalize hM3 : cpI M2 d7 0 e7 0 us = M3
  generalize hM4 : cpI M3 (h + 2) 0 (k + 2) 0 256 = M4
  generalize hM5 : cpI M4 (h + 3) 0 (k + 3) 0 256 = M5
  generalize hM6 : cpI M5 (h + 4) 0 (k + 4) 0 256 = M6
  generalize hM7 : cpI M6 (h + 5) 0 (k + 5) 0 16 = M7
  generalize hM8 : cpI M7 (h + 6) 0 (k + 6) 0 6 = M8
  have s1 : M1.1 = M.1 := by rw [← hM1]; rfl
  have s2 : M2.1 = M.1 := by rw [← hM2]; exact s1
  have s3 : M3.1 = M.1 := by rw [← hM3]; exact s2
  have s4 : M4.1 = M.1 := by rw [← hM4]; exact s3
  have s5 : M5.1 = M.1 := by rw [← hM5]; exact s4
  have s6 : M6.1 = M.1 := by rw [← hM6]; exact s5
  have s7 : M7.1 = M.1 := by rw [← hM7]; exact s6
  have s8 : M8.1 = M.1 := by rw [← hM8]; exact s7
  have L8 : ∀ o b, mL M8 o b = mL M o b := fun o b => by rw [← hM8, ← hM7, ← hM6, ← hM5, ← hM4, ← hM3, ← hM2, ← hM1]; rfl
  have r1 : ∀ o j, mI M1 o j = if o = e5 ∧ j < us then mI M d5 j else mI M o j := fun o j => by rw [← hM1]; exact cp_I _ _ _ _ _ _
  have r2 : ∀ o j, mI M2 o j = if o = e6 ∧ j < us then mI M1 d6 j else mI M1 o j := fun o j => by rw [← hM2]; exact cp_I _ _ _ _ _ _
  have r3 : ∀ o j, mI M3 o j = if o = e7 ∧ j < us then mI M2 d7 j else mI M2 o j := fun o j => by rw [← hM3]; exact cp_I _ _ _ _ _ _
  have r4 : ∀ o j, mI M4 o j = if o = k + 2 ∧ j < 256 then mI M3 (h + 2) j else mI M3 o j := fun o j => by rw [← hM4]; exact cp_I _ _ _ _ _ _
  have r5 : ∀ o j, mI M5 o j = if o = k + 3 ∧ j < 256 then mI M4 (h + 3) j else mI M4 o j := fun o j => by rw [← hM5]; exact cp_I _ _ _ _ _ _
  have r6 : ∀ o j, mI M6 o j = if o = k + 4 ∧ j < 256 then mI M5 (h + 4) j else mI M5 o j := fun o j => by rw [← hM6]; exact cp_I _ _ _ _ _ _
  have r7 : ∀ o j, mI M7 o j = if o = k + 5 ∧ j < 16 then mI M6 (h + 5) j else mI M6 o j := fun o j => by rw [← hM7]; exact cp_I _ _ _ _ _ _
  have r8 : ∀ o j, mI M8 o j = if o = k + 6 ∧ j < 6 then mI M7 (h + 6) j else mI M7 o j := fun o j => by rw [← hM8]; exact cp_I _ _ _ _ _ _
  -- what no step has touched
  have o3 : ∀ o, o ≠ e5 → o ≠ e6 → o ≠ e7 → ∀ j, mI M3 o j = mI M o j := fun o n1 n2 n3 j => by
    rw [r3, if_neg (fun z => n3 z.1), r2, if_neg (fun z => n2 z.1), r1, if_neg (fun z => n1 z.1)]
  have o8 : ∀ o, ¬ (k + 2 ≤ o ∧ o ≤ k + 6) → ∀ j, mI M8 o j = mI M3 o j := fun o n j => by
    rw [r8, if_neg (fun z => n (inr26 z.1 (by decide) (by decide))), r7, if_neg (fun z => n (inr26 z.1 (by decide) (by decide))), r6, if_neg (fun z => n (inr26 z.1 (by decide) (by decide))), r5, if_neg (fun z => n (inr26 z.1 (by decide) (by decide))), r4, if_neg (fun z => n (inr26 z.1 (by decide) (by decide)))]
  have g5 : ∀ j, j < us → mI M8 e5 j = mI M d5 j := fun j hj => by
    rw [o8 _ eO5, r3, if_neg (fun z => y5 z.1), r2, if_neg (fun z => y4 z.1), r1, if_pos ⟨rfl, hj⟩]
  have g6 : ∀ j, j < us → mI M8 e6 j = mI M d6 j := fun j hj => by
    rw [o8 _ eO6, r3, if_neg (fun z => y6 z.1), r2, if_pos ⟨rfl, hj⟩, r1, if_neg (fun z => hd52 z.1.symm)]
  have g7 : ∀ j, j < us → mI M8 e7 j = mI M d7 j := fun j hj => by
    rw [o8 _ eO7, r3, if_pos ⟨rfl, hj⟩, r2, if_neg (fun z => hd63 z.1.symm), r1, if_neg (fun z => hd53 z.1.symm)]
  have hh : ∀ i, i ≤ 6 → ∀ j, mI M3 (h + i) j = mI M (h + i) j := fun i hi j => o3 _ (B5 i (by omega)) (B6 i (by omega)) (B7 i (by omega)) j
  have nk : ∀ i j x, i ≠ j → ¬ (k + i = k + j ∧ x) := fun i j x n z => n (Nat.add_left_cancel z.1)
  have nh : ∀ i j x, i ≤ 9 → j ≤ 9 → ¬ (h + i = k + j ∧ x) := fun i j x hi hj z => C0 i j hi hj z.1
  have c2 : ∀ j, j < 256 → mI M8 (k + 2) j = mI M (h + 2) j := fun j hj => by
    rw [r8, if_neg (nk 2 6 _ (by decide)), r7, if_neg (nk 2 5 _ (by decide)), r6, if_neg (nk 2 4 _ (by decide)), r5, if_neg (nk 2 3 _ (by decide)), r4, if_pos ⟨rfl, hj⟩, hh 2 (by decide)]
  have c3 : ∀ j, j < 256 → mI M8 (k + 3) j = mI M (h + 3) j := fun j hj => by
    rw [r8, if_neg (nk 3 6 _ (by decide)), r7, if_neg (nk 3 5 _ (by decide)), r6, if_neg (nk 3 4 _ (by decide)), r5, if_pos ⟨rfl, hj⟩, r4, if_neg (nh 3 2 _ (by decide) (by decide)), hh 3 (by decide)]
  have c4 : ∀ j, j < 256 → mI M8 (k + 4) j = mI M (h + 4) j := fun j hj => by
    rw [r8, if_neg (nk 4 6 _ (by decide)), r7, if_neg (nk 4 5 _ (by decide)), r6, if_pos ⟨rfl, hj⟩, r5, if_neg (nh 4 3 _ (by decide) (by decide)), r4, if_neg (nh 4 2 _ (by decide) (by decide)), hh 4 (by decide)]
  have c5 : ∀ j, j < 16 → mI M8 (k + 5) j = mI M (h + 5) j := fun j hj => by
    rw [r8, if_neg (nk 5 6 _ (by decide)), r7, if_pos ⟨rfl, hj⟩, r6, if_neg (nh 5 4 _ (by decide) (by decide)), r5, if_neg (nh 5 3 _ (by decide) (by decide)), r4, if_neg (nh 5 2 _ (by decide) (by decide)), hh 5 (by decide)]
  have c6 : ∀ j, j < 6 → mI M8 (k + 6) j = mI M (h + 6) j := fun j hj => by
    rw [r8, if_pos ⟨rfl, hj⟩, r7, if_neg (nh 6 5 _ (by decide) (by decide)), r6, if_neg (nh 6 4 _ (by decide) (by decide)), r5, if_neg (nh 6 3 _ (by decide) (by decide)), r4, if_neg (nh 6 2 _ (by decide) (by decide)), hh 6 (by decide)]
  have f1 : ∀ j, mI M8 (h + 1) j = mI M (h + 1) j := fun j => by rw [o8 _ (hO 1 (by decide)), hh 1 (by decide)]
  have f1' : ∀ M' : Mem, ∀ o, o ≠ k + 1 → ∀ a x j, mI (sI M' (k + 1) a x) o j = mI M' o j := fun M' o n a x j => mI_o _ _ _ _ _ n
  have u1 : ∀ j, mI M1 (h + 1) j = mI M (h + 1) j := fun j => by rw [r1, if_neg (fun z => B5 1 (by decide) z.1)]
  have u2 : ∀ j, mI M2 (h + 1) j = mI M (h + 1) j := fun j => by rw [r2, if_neg (fun z => B6 1 (by decide) z.1), u1]
  have h1k : h + 1 ≠ k + 1 := C0 1 1 (by decide) (by decide)
  generalize hN1 : sI M8 (k + 1) 8 (nI us) = N1
  generalize hN2 : sI N1 (k + 1) 9 (mI M (h + 1) 9) = N2
  generalize hN3 : sI N2 (k + 1) 10 (nI tot) = N3
  generalize hN4 : sI N3 (k + 1) 11 t = N4
  have t1 : N1.1 = M.1 := by rw [← hN1]; exact s8
  have t2 : N2.1 = M.1 := by rw [← hN2]; exact t1
  have t3 : N3.1 = M.1 := by rw [← hN3]; exact t2
  have t4 : N4.1 = M.1 := by rw [← hN4]; exact t3
  have n1 : ∀ o, o ≠ k + 1 → ∀ j, mI N1 o j = mI M8 o j := fun o n j => by rw [← hN1, f1' _ _ n]
  have n2 : ∀ o, o ≠ k + 1 → ∀ j, mI N2 o j = mI M8 o j := fun o n j => by rw [← hN2, f1' _ _ n, n1 _ n]
  have n3 : ∀ o, o ≠ k + 1 → ∀ j, mI N3 o j = mI M8 o j := fun o n j => by rw [← hN3, f1' _ _ n, n2 _ n]
  have n4 : ∀ o, o ≠ k + 1 → ∀ j, mI N4 o j = mI M8 o j := fun o n j => by rw [← hN4, f1' _ _ n, n3 _ n]
  refine ⟨N4, ?_, ⟨w.e t4, fun l hl y hy => ?_, pn, fun l hl => ?_, fun l hl cs z ez => ?_, fun l hl => ?_, fun f hf g hg => ?_, fun j hj => ?_, ⟨pf1, pf2, ?_⟩, ⟨?_, hu, pu3, h18, h64⟩, ?_, tot, ?_, pt2, pt3⟩, t4, fun o b => ?_, fun o na ne5 ne6 ne7 b => ?_⟩
  · have k5 : f_X5_copyFrom_45 (k + 1) (h + 1) M = some N4 := by
      rw [f_X5_copyFrom_45, cs_p q, a5, bnd_e, chk_t b5, cs_p q', a5', bnd_e, chk_t b5', pu1, l5, l5', cp_st _ (by omega) hu (by omega), hM1]
      have q1 := q.e s1
      have q1' := q'.e s1
      have z : ∀ M' : Mem, M'.1 = M.1 → mR M' = mR M ∧ (∀ c o, isO M' c o = isO M c o) ∧ mLn M' = mLn M := fun M' e => by
        refine ⟨?_, fun c o => ?_, ?_⟩
        · unfold mR; rw [e]
        · unfold isO mN mC; rw [e]
        · unfold mLn; rw [e]
      obtain ⟨z1, z1', z1''⟩ := z M1 s1
      obtain ⟨z2, z2', z2''⟩ := z M2 s2
      obtain ⟨z3, z3', z3''⟩ := z M3 s3
      obtain ⟨z4, z4', z4''⟩ := z M4 s4
      obtain ⟨z5, z5', z5''⟩ := z M5 s5
      obtain ⟨z6, z6', z6''⟩ := z M6 s6
      obtain ⟨z7, z7', z7''⟩ := z M7 s7
      have ln : ∀ {h : Nat}, CS M h → mLn M (h + 2) = 256 ∧ mLn M (h + 3) = 256 ∧ mLn M (h + 4) = 256 ∧ mLn M (h + 5) = 16 ∧ mLn M (h + 6) = 6 := fun q => ⟨q.ln (by decide) (by decide) (by decide), q.ln (by decide) (by decide) (by decide), q.ln (by decide) (by decide) (by decide), q.ln (by decide) (by decide) (by decide), q.ln (by decide) (by decide) (by decide)⟩
      obtain ⟨la2, la3, la4, la5, la6⟩ := ln q
      obtain ⟨lb2, lb3, lb4, lb5, lb6⟩ := ln q'
      rw [z1, a6, bnd_e, chk_t ((z1' 100 d6).mpr b6), a6', bnd_e, chk_t ((z1' 100 e6).mpr b6'), u1, pu1, z1'', l6, l6', cp_st _ (by omega) hu (by omega), hM2]
      rw [z2, a7, bnd_e, chk_t ((z2' 100 d7).mpr b7), a7', bnd_e, chk_t ((z2' 100 e7).mpr b7'), u2, pu1, z2'', l7, l7', cp_st _ (by omega) hu (by omega), hM3]
      rw [cs_r2 (q.e s3), bnd_e, cs_a2 (q.e s3), cs_r2 (q'.e s3), bnd_e, cs_a2 (q'.e s3), bnd_e, cs_a2 (q'.e s3), z3'', la2, lb2, show Int32.ofNat 256 = nI 256 from rfl, cp_st _ (Nat.le_refl _) (Nat.le_refl _) (by decide), hM4]
      rw [cs_r3 (q.e s4), bnd_e, cs_a3 (q.e s4), cs_r3 (q'.e s4), bnd_e, cs_a3 (q'.e s4), bnd_e, cs_a3 (q'.e s4), z4'', la3, lb3, show Int32.ofNat 256 = nI 256 from rfl, cp_st _ (Nat.le_refl _) (Nat.le_refl _) (by decide), hM5]
      rw [cs_r4 (q.e s5), bnd_e, cs_a4 (q.e s5), cs_r4 (q'.e s5), bnd_e, cs_a4 (q'.e s5), bnd_e, cs_a4 (q'.e s5), z5'', la4, lb4, show Int32.ofNat 256 = nI 256 from rfl, cp_st _ (Nat.le_refl _) (Nat.le_refl _) (by decide), hM6]
      rw [cs_r5 (q.e s6), bnd_e, cs_a5 (q.e s6), cs_r5 (q'.e s6), bnd_e, cs_a5 (q'.e s6), bnd_e, cs_a5 (q'.e s6), z6'', la5, lb5, show Int32.ofNat 16 = nI 16 from rfl, cp_st _ (Nat.le_refl _) (Nat.le_refl _) (by decide), hM7]
      rw [cs_r6 (q.e s7), bnd_e, cs_a6 (q.e s7), cs_r6 (q'.e s7), bnd_e, cs_a6 (q'.e s7), bnd_e, cs_a6 (q'.e s7), z7'', la6, lb6, show Int32.ofNat 6 = nI 6 from rfl, cp_st _ (Nat.le_refl _) (Nat.le_refl _) (by decide), hM8]
      rw [f1, pu1, hN1, bnd_e, n1 _ h1k, f1, hN2, bnd_e, n2 _ h1k, f1, pt1, hN3, bnd_e, n3 _ h1k, f1, pt, hN4, bnd_e]
    rw [f_X5_copyFrom, cs_p q', a5', bnd_e, chk_t b5', cs_p q, pu1, l5', n32, if_pos (nI_le hu (by omega))]
    exact k5
  · have := pc l hl y hy
    rw [n4 _ (A5 1 (by decide)).symm, n4 _ (A6 1 (by decide)).symm, g5 _ this.1, g6 _ this.1]
    exact this
  · rw [n4 _ (by omega), c2 _ hl]
    refine (pch l hl).cg fun x hx => ?_
    obtain ⟨y, hy, rfl⟩ := List.mem_map.mp hx
    rw [n4 _ (A7 1 (by decide)).symm, g7 _ (pc l hl y hy).1]
  · rw [n4 _ (by omega), c3 _ hl]; exact pla l hl cs z ez
  · rw [n4 _ (by omega), c4 _ hl]; exact pma l hl
  · rw [n4 _ (by omega), c5 _ hf]; exact pbu f hf g hg
  · rw [n4 _ (by omega), c6 _ hj]; exact pse j hj
  · have e9 : mI N4 (k + 1) 9 = mI M (h + 1) 9 := by rw [← hN4, mI_n _ _ _ _ (by decide), ← hN3, mI_n _ _ _ _ (by decide), ← hN2, mI_s]
    rw [e9]
    refine pf3.cg fun x hx => ?_
    rw [n4 _ (A7 1 (by decide)).symm, g7 _ (pf2 x hx).1]
  · rw [← hN4, mI_n _ _ _ _ (by decide), ← hN3, mI_n _ _ _ _ (by decide), ← hN2, mI_n _ _ _ _ (by decide), ← hN1, mI_s]
  · rw [← hN4, mI_s]
  · rw [← hN4, mI_n _ _ _ _ (by decide), ← hN3, mI_s]
  · rw [← hN4, ← hN3, ← hN2, ← hN1]; exact L8 o b
  · rw [n4 _ (fun z => na (oiA z)), o8 _ (fun z => na (oiB z)), o3 _ ne5 ne6 ne7]
