/-! ===== the class's search: its cells ===== -/
def SX (M : Mem) : Prop := isO M 6 114 ∧ (mR M 114 0 = 63 ∧ mR M 114 1 = 115 ∧ mR M 114 2 = 116 ∧ mR M 114 3 = 117 ∧ mR M 114 4 = 118) ∧ (isO M 100 115 ∧ isO M 100 116 ∧ isO M 100 117 ∧ isO M 100 118) ∧ (mLn M 115 = 41 ∧ mLn M 116 = 40 ∧ mLn M 117 = 40 ∧ mLn M 118 = 16) ∧ 131 ≤ mN M
def CL (M : Mem) (dC L e : Nat) : Prop := mR M 114 5 = dC ∧ isO M 100 dC ∧ mLn M dC = L ∧ (dC = 119 ∨ 131 ≤ dC) ∧ mI M 114 6 = nI e ∧ e ≤ L ∧ 1024 ≤ L ∧ L ≤ 1520000 ∧ dC ≠ mR M 64 5 ∧ dC ≠ mR M 64 6 ∧ dC ≠ mR M 64 7
/-- the cells, or another row for them, and the end alone have changed -/
def FrC (M M' : Mem) (dC dC' : Nat) : Prop := mN M ≤ mN M' ∧ (∀ o, o < mN M → M'.1.2.1 o = M.1.2.1 o) ∧ (∀ o b, o < mN M → ¬ (o = 114 ∧ b = 5) → mR M' o b = mR M o b) ∧ (∀ o, o < mN M → o ≠ 114 → o ≠ dC → ∀ b, mI M' o b = mI M o b) ∧ (∀ b, b ≠ 6 → mI M' 114 b = mI M 114 b) ∧ (∀ o, o < mN M → ∀ b, mL M' o b = mL M o b) ∧ (dC' = dC ∨ mN M ≤ dC')
theorem FrC.rf (M : Mem) (dC : Nat) : FrC M M dC dC := ⟨Nat.le_refl _, fun _ _ => rfl, fun _ _ _ _ => rfl, fun _ _ _ _ _ => rfl, fun _ _ => rfl, fun _ _ _ => rfl, Or.inl rfl⟩
theorem FrC.tr {M M' M'' : Mem} {a b c : Nat} (h : FrC M M' a b) (h' : FrC M' M'' b c) : FrC M M'' a c := by
  obtain ⟨a1, a2, a3, a4, a5, a6, a7⟩ := h
  obtain ⟨b1, b2, b3, b4, b5, b6, b7⟩ := h'
  refine ⟨Nat.le_trans a1 b1, fun o ho => (b2 o (by omega)).trans (a2 o ho), fun o k ho n => (b3 o k (by omega) n).trans (a3 o k ho n), fun o ho n1 n2 k => (b4 o (by omega) n1 (by omega) k).trans (a4 o ho n1 n2 k), fun k n => (b5 k n).trans (a5 k n), fun o ho k => (b6 o (by omega) k).trans (a6 o ho k), by omega⟩
theorem SX.fr {M M' : Mem} {a b : Nat} (x : SX M) (f : FrC M M' a b) : SX M' := by
  obtain ⟨⟨i1, i2⟩, ⟨r0, r1, r2, r3, r4⟩, ⟨j1, j2, j3, j4⟩, ⟨l1, l2, l3, l4⟩, hN⟩ := x
  obtain ⟨f1, f2, f3, _⟩ := f
  have io : ∀ c o, isO M c o → isO M' c o := fun c o z => ⟨by have := z.1; omega, by rw [mC, f2 o z.1]; exact z.2⟩
  have ln : ∀ o, o < 131 → mLn M' o = mLn M o := fun o ho => by rw [mLn, f2 o (by omega)]; rfl
  refine ⟨io _ _ ⟨i1, i2⟩, ⟨?_, ?_, ?_, ?_, ?_⟩, ⟨io _ _ j1, io _ _ j2, io _ _ j3, io _ _ j4⟩, ⟨?_, ?_, ?_, ?_⟩, by omega⟩
  · rw [f3 114 0 i1 (by decide)]; exact r0
  · rw [f3 114 1 i1 (by decide)]; exact r1
  · rw [f3 114 2 i1 (by decide)]; exact r2
  · rw [f3 114 3 i1 (by decide)]; exact r3
  · rw [f3 114 4 i1 (by decide)]; exact r4
  · rw [ln 115 (by decide)]; exact l1
  · rw [ln 116 (by decide)]; exact l2
  · rw [ln 117 (by decide)]; exact l3
  · rw [ln 118 (by decide)]; exact l4
theorem HV.frC {M M' : Mem} {X Y X' Y' N a b : Nat} {t : Int32} {Q : Nat → Int32} {S : St} {pb pt : List Row4} (p : HV M 63 X Y t N Q S pb pt) (f : FrC M M' a b) (ha : (a = 119 ∨ 131 ≤ a) ∧ a ≠ mR M 64 5 ∧ a ≠ mR M 64 6 ∧ a ≠ mR M 64 7) (rm' : Rm M' 63 X' Y') : HV M' 63 X' Y' t N Q S pb pt := by
  obtain ⟨q, ⟨d5, d6, d7, len, K, fr, us, ow, w, hK⟩, hp, rm, ⟨lb, lt⟩, hN, hQ⟩ := p
  obtain ⟨f1, f2, f3, f4, f5, f6, f7⟩ := f
  obtain ⟨ha0, ha5, ha6, ha7⟩ := ha
  have hq := q.2.2.2.2
  obtain ⟨⟨w5, w6, w7⟩, ⟨j5, j6, j7⟩, ⟨n5, n6, n7⟩, y⟩ := id w.1
  have io : ∀ c o, isO M c o → isO M' c o := fun c o z => ⟨by have := z.1; omega, by rw [mC, f2 o z.1]; exact z.2⟩
  have ln : ∀ o, o < mN M → mLn M' o = mLn M o := fun o ho => by rw [mLn, f2 o ho]; rfl
  have r64 : ∀ b, mR M' 64 b = mR M 64 b := fun b => f3 64 b (by omega) (by omega)
  have oI : ∀ o, o < 114 → ∀ k, mI M' o k = mI M o k := fun o ho k => f4 o (by omega) (by omega) (by omega) k
  have oD : ∀ o, o < mN M → o ≠ 114 → o ≠ a → ∀ k, mI M' o k = mI M o k := fun o ho n1 n2 k => f4 o ho n1 n2 k
  have cs' : CS M' 63 := by
    refine ⟨fun i hi hn => ?_, fun z hz => ?_, ?_, io _ _ q.2.2.2.1, hq.1, hq.2.1, by omega⟩
    · rw [f2 (63 + i) (by omega)]; exact q.1 i hi hn
    · have hb : ∀ z, z ∈ tH → z.1 < 49 := by decide
      have := hb z hz
      rw [f3 (63 + z.1) z.2.1 (by omega) (by omega)]; exact q.2.1 z hz
    · rw [f3 63 0 (by omega) (by omega)]; exact q.2.2.1
  have ds' : DS M' 63 d5 d6 d7 len := by
    refine ⟨⟨?_, ?_, ?_⟩, ⟨io _ _ j5, io _ _ j6, io _ _ j7⟩, ⟨by rw [ln _ j5.1]; exact n5, by rw [ln _ j6.1]; exact n6, by rw [ln _ j7.1]; exact n7⟩, y⟩
    · show mR M' 64 5 = d5; rw [r64]; exact w5
    · show mR M' 64 6 = d6; rw [r64]; exact w6
    · show mR M' 64 7 = d7; rw [r64]; exact w7
  have e5 : d5 = mR M 64 5 := w5.symm
  have e6 : d6 = mR M 64 6 := w6.symm
  have e7 : d7 = mR M 64 7 := w7.symm
  have hl := w.2.2.2.2.2.2.2.2.2.1
  refine ⟨cs', ⟨d5, d6, d7, len, K, fr, us, ow, w.cg ds' (Nat.le_refl _) (by omega) (fun i i1 i6 k => oI _ (by omega) k) (fun k _ => oD d5 j5.1 (by omega) (by omega) k) (fun k _ => oD d6 j6.1 (by omega) (by omega) k) (fun k _ => oD d7 j7.1 (by omega) (by omega) k), hK⟩, hp.cg (fun o ho k => oI o (by omega) k) (fun _ _ _ => rfl) rfl, rm', ⟨lb.cg (oI _ (by omega)) (oI _ (by omega)), lt.cg (oI _ (by omega)) (oI _ (by omega))⟩, by rw [oI 1 (by omega)]; exact hN, fun v hv => by rw [oI _ (by omega)]; exact hQ v hv⟩
theorem Rm.mo {M : Mem} {h X Y X' Y' : Nat} (r : Rm M h X Y) (a : X ≤ X') (b : Y ≤ Y') (c : X' ≤ 2000000) (d : Y' ≤ 6000000) : Rm M h X' Y' := ⟨by have := r.1; omega, by have := r.2.1; omega, c, d, r.2.2.2.2⟩
section
variable {M : Mem} {X0 Y0 N dC L e : Nat} {t : Int32} {Q : Nat → Int32} {S : St} {pb pt : List Row4}
set_option maxHeartbeats 1000000 in
theorem push1 (sx : SX M) (c : CL M dC L e) (p : HV M 63 (X0 + L / 16) (Y0 + 2 * L) t N Q S pb pt) (hX : X0 ≤ 100000) (hY : Y0 ≤ 1000000) (he : e < 760000) (x : Int32) : ∃ M' dC' L', f_X6_push 114 x M = some M' ∧ SX M' ∧ CL M' dC' L' (e + 1) ∧ HV M' 63 (X0 + L' / 16) (Y0 + 2 * L') t N Q S pb pt ∧ (∀ j, j < e → mI M' dC' j = mI M dC j) ∧ mI M' dC' e = x ∧ FrC M M' dC dC' := by
  obtain ⟨c1, c2, c3, c4, c5, c6, c7, c8, c9, c10, c11⟩ := id c
  have hN := sx.2.2.2.2
  have ha : (dC = 119 ∨ 131 ≤ dC) ∧ dC ≠ mR M 64 5 ∧ dC ≠ mR M 64 6 ∧ dC ≠ mR M 64 7 := ⟨c4, c9, c10, c11⟩
  have d114 : dC ≠ 114 := by omega
  by_cases g : e = L
  · -- a longer row
    have rm := p.2.2.2.1
    have hlen : mLn M (mR M (63 + 1) 5) ≤ 18000 := by
      obtain ⟨d5, d6, d7, len, K, fr, us, ow, w, _⟩ := p.2.1
      rw [w.1.1.1, w.1.2.2.1.1]
      exact w.2.2.2.2.2.2.2.2.2.1.2.2.2.1
    have cap : mN M + 1 ≤ CAP ∧ mU M + 2 * L ≤ CAPU := by
      have a := rm.1
      have b := rm.2.1
      unfold CAP CAPU
      omega
    have ec := f_copyOf c2 c3 (by omega) (by omega) cap.1 cap.2
    generalize hM1 : gw1 M dC 114 5 L = M1
    have io1 : ∀ c o, isO M c o → isO M1 c o := fun c o z => by rw [← hM1]; exact gw1_io z
    have hne : dC ≠ mN M := by have := c2.1; omega
    have i1 : ∀ o, o < mN M → ∀ b, mI M1 o b = mI M o b := fun o ho b => by rw [← hM1]; exact gw1_I _ _ _ _ _ _ (by omega)
    have r1 : ∀ o b, o < mN M → mR M1 o b = if o = 114 ∧ b = 5 then mN M else mR M o b := fun o b ho => by rw [← hM1]; exact gw1_R _ _ _ _ _ _ (by omega)
    have n1 : mN M1 = mN M + 1 := by rw [← hM1]; rfl
    have u1 : mU M1 = mU M + 2 * L := by rw [← hM1]; rfl
    have t1 : ∀ o, o < mN M → M1.1.2.1 o = M.1.2.1 o := fun o ho => by rw [← hM1, gw1_C, if_neg (by omega)]
    have w1 : isO M1 100 (mN M) := by rw [← hM1]; exact gw1_new _ _ _ _ _
    have l1 : mLn M1 (mN M) = 2 * L := by rw [← hM1]; exact gw1_ln' _ _ _ _ _
    have j1 : ∀ b, b < L → mI M1 (mN M) b = mI M dC b := fun b hb => by rw [← hM1]; exact gw1_J _ _ _ _ _ hne hb
    have L1 : ∀ o, o < mN M → ∀ b, mL M1 o b = mL M o b := fun o ho b => by rw [← hM1]; exact gw1_L _ _ _ _ _ _ (by omega)
    generalize hM2 : sI M1 (mN M) e x = M2
    generalize hM3 : sI M2 114 6 (nI (e + 1)) = M3
    have s3 : M3.1 = M1.1 := by rw [← hM3, ← hM2]; rfl
    have i3 : ∀ o, o < mN M → o ≠ 114 → ∀ b, mI M3 o b = mI M o b := fun o ho n b => by
      rw [← hM3, mI_o _ _ _ _ _ n, ← hM2, mI_o _ _ _ _ _ (by omega), i1 o ho]
    have i114 : ∀ b, b ≠ 6 → mI M3 114 b = mI M 114 b := fun b n => by
      rw [← hM3, mI_n _ _ _ _ n, ← hM2, mI_o _ _ _ _ _ (by omega), i1 114 (by omega)]
    have R3 : ∀ o b, mR M3 o b = mR M1 o b := fun o b => by unfold mR; rw [s3]
    have I3 : ∀ c o, isO M1 c o → isO M3 c o := fun c o z => by
      unfold isO mN mC at *
      rw [s3]; exact z
    have N3 : mN M3 = mN M + 1 := by unfold mN at *; rw [s3]; exact n1
    have U3 : mU M3 = mU M + 2 * L := by unfold mU at *; rw [s3]; exact u1
    have ln3 : ∀ o, mLn M3 o = mLn M1 o := fun o => by unfold mLn; rw [s3]
    have F : FrC M M3 dC (mN M) := by
      refine ⟨by omega, fun o ho => by rw [s3]; exact t1 o ho, fun o b ho n => ?_, fun o ho n _ b => i3 o ho n b, i114, fun o ho b => ?_, Or.inr (Nat.le_refl _)⟩
      · rw [R3, r1 o b ho, if_neg n]
      · rw [← hM3, ← hM2]; exact L1 o ho b
    have e64 : ∀ b, mR M3 64 b = mR M 64 b := fun b => by rw [R3, r1 64 b (by omega), if_neg (by omega)]
    have rm3 : Rm M3 63 (X0 + 2 * L / 16) (Y0 + 2 * (2 * L)) := by
      have a := rm.1
      have b := rm.2.1
      have l5 : mLn M3 (mR M3 (63 + 1) 5) = mLn M (mR M (63 + 1) 5) := by
        rw [show mR M3 (63 + 1) 5 = mR M (63 + 1) 5 from e64 5]
        obtain ⟨d5, d6, d7, len, K, fr, us, ow, w, _⟩ := p.2.1
        rw [w.1.1.1]
        rw [mLn, s3, t1 d5 w.1.2.1.1.1]; rfl
      refine ⟨?_, ?_, by omega, by omega, by rw [l5]; exact rm.2.2.2.2⟩
      · rw [l5, N3]; omega
      · rw [l5, U3]; omega
    have d57 : ∀ j, 5 ≤ j → j ≤ 7 → mR M 64 j < mN M := fun j a b => by
      obtain ⟨d5, d6, d7, len, K, fr, us, ow, w, _⟩ := p.2.1
      obtain ⟨⟨z5, z6, z7⟩, ⟨k5, k6, k7⟩, _⟩ := w.1
      have z5' : mR M 64 5 = d5 := z5
      have z6' : mR M 64 6 = d6 := z6
      have z7' : mR M 64 7 = d7 := z7
      have := k5.1
      have := k6.1
      have := k7.1
      rcases (show j = 5 ∨ j = 6 ∨ j = 7 by omega) with rfl | rfl | rfl <;> omega
    refine ⟨M3, mN M, 2 * L, ?_, sx.fr F, ⟨?_, I3 _ _ w1, by rw [ln3]; exact l1, Or.inr hN, ?_, by omega, by omega, by omega, ?_, ?_, ?_⟩, p.frC F ha rm3, fun j hj => ?_, ?_, F⟩
    · rw [f_X6_push, chk_t sx.1, c1, bnd_e, chk_t c2, c5, c3, n32, if_pos (by rw [g]), bnd_e, chk_t c2, show nI e * (2 : Int32) = nI (2 * L) by rw [show (2 : Int32) = nI 2 from rfl, pk_mul, g, Nat.mul_comm], ec, obd2_s]
      rw [chk_t (cp_io sx.1), chk_t (cp_new M dC L)]
      rw [show sR (cpI (nw M 100 (2 * L) (2 * L)) dC 0 (mN M) 0 L) 114 5 (mN M) = M1 from hM1, bnd_e, r1 114 5 (by omega), if_pos ⟨rfl, rfl⟩, bnd_e, chk_t w1, i1 114 (by omega), c5, l1, chk_t (inB_n (by omega) (by omega)), sI_d (by omega), hM2, bnd_e, show mI M2 114 6 = nI e by rw [← hM2, mI_o _ _ _ _ _ (by omega), i1 114 (by omega), c5], nI_1, hM3, bnd_e]
    · rw [R3, r1 114 5 (by omega), if_pos ⟨rfl, rfl⟩]
    · rw [← hM3, mI_s]
    · rw [e64]; have := d57 5 (by decide) (by decide); omega
    · rw [e64]; have := d57 6 (by decide) (by decide); omega
    · rw [e64]; have := d57 7 (by decide) (by decide); omega
    · rw [← hM3, mI_o _ _ _ _ _ (by omega), ← hM2, mI_n _ _ _ _ (by omega), j1 j (by omega)]
    · rw [← hM3, mI_o _ _ _ _ _ (by omega), ← hM2, mI_s]
  · generalize hM2 : sI M dC e x = M2
    generalize hM3 : sI M2 114 6 (nI (e + 1)) = M3
    have s3 : M3.1 = M.1 := by rw [← hM3, ← hM2]; rfl
    have F : FrC M M3 dC dC := by
      refine ⟨by unfold mN; rw [s3]; exact Nat.le_refl _, fun o _ => by rw [s3], fun o b _ _ => by unfold mR; rw [s3], fun o _ n1 n2 b => by rw [← hM3, mI_o _ _ _ _ _ n1, ← hM2, mI_o _ _ _ _ _ n2], fun b n => by rw [← hM3, mI_n _ _ _ _ n, ← hM2, mI_o _ _ _ _ _ (Ne.symm d114)], fun o _ b => by rw [← hM3, ← hM2]; rfl, Or.inl rfl⟩
    have R3 : ∀ o b, mR M3 o b = mR M o b := fun o b => by unfold mR; rw [s3]
    have rm3 : Rm M3 63 (X0 + L / 16) (Y0 + 2 * L) := by
      have rm := p.2.2.2.1
      unfold Rm mN mU mLn mR at rm ⊢
      rw [s3]; exact rm
    refine ⟨M3, dC, L, ?_, sx.fr F, ⟨by rw [R3]; exact c1, ?_, by unfold mLn at *; rw [s3]; exact c3, c4, by rw [← hM3, mI_s], by omega, c7, c8, by rw [R3]; exact c9, by rw [R3]; exact c10, by rw [R3]; exact c11⟩, p.frC F ha rm3, fun j hj => ?_, ?_, F⟩
    · rw [f_X6_push, chk_t sx.1, c1, bnd_e, chk_t c2, c5, c3, n32, if_neg (nI_ne (by omega) (by omega) g), bnd_e, chk_t c2, chk_t (inB_n (by omega) (by omega)), sI_d (by omega), hM2, bnd_e, show mI M2 114 6 = nI e by rw [← hM2, mI_o _ _ _ _ _ (Ne.symm d114), c5], nI_1, hM3, bnd_e]
    · unfold isO mN mC at *
      rw [s3]; exact c2
    · rw [← hM3, mI_o _ _ _ _ _ d114, ← hM2, mI_n _ _ _ _ (by omega)]
    · rw [← hM3, mI_o _ _ _ _ _ d114, ← hM2, mI_s]
end
