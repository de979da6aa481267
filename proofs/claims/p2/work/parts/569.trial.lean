/-! ===== the trial and the search work, the rest of the class stands ===== -/
theorem HV.kt {M M' : Mem} {X Y X' Y' N : Nat} {t : Int32} {Q : Nat → Int32} {S : St} {pb pt : List Row4} (p : HV M 14 X Y t N Q S pb pt) (n1 : mN M ≤ mN M') (tp : ∀ i, i < mN M → M'.1.2.1 i = M.1.2.1 i) (rf : ∀ a b, a < 63 → mR M' a b = mR M a b) (hi : ∀ o, o < 63 ∨ (o = mR M 15 5 ∨ o = mR M 15 6 ∨ o = mR M 15 7) → ∀ b, mI M' o b = mI M o b) (rm : Rm M' 14 X' Y') : HV M' 14 X' Y' t N Q S pb pt := by
  obtain ⟨q, pv, hp, _, ⟨lb, lt⟩, hN, hQ⟩ := p
  have hq := q.2.2.2.2.2.2
  have io : ∀ {c o}, isO M c o → isO M' c o := fun z => ⟨by have := z.1; omega, by rw [mC, tp _ z.1]; exact z.2⟩
  have ln : ∀ {c o l}, isO M c o → mLn M o = l → mLn M' o = l := fun z y => by rw [mLn, tp _ z.1]; exact y
  have lo : ∀ o, o < 63 → ∀ b, mI M' o b = mI M o b := fun o a b => hi o (Or.inl a) b
  have q' : CS M' 14 := by
    obtain ⟨k1, k2, k3, k4, k5, k6, k7⟩ := q
    refine ⟨fun i hi hn => by rw [tp _ (by omega)]; exact k1 i hi hn, fun z hz => ?_, by rw [rf 14 0 (by decide)]; exact k3, io k4, k5, k6, by omega⟩
    have hb : z.1 < 49 := by
      have : ∀ z, z ∈ tH → z.1 < 49 := by decide
      exact this z hz
    rw [rf _ _ (by omega)]; exact k2 z hz
  refine ⟨q', ?_, hp.cg (fun o ho b => lo o (by omega) b) (fun _ _ _ => rfl) rfl, rm, ⟨lb.cg (fun b => lo _ (by omega) b) (fun b => lo _ (by omega) b), lt.cg (fun b => lo _ (by omega) b) (fun b => lo _ (by omega) b)⟩, by rw [lo 1 (by decide)]; exact hN, fun v hv => by rw [lo _ (by omega)]; exact hQ v hv⟩
  obtain ⟨d5, d6, d7, len, K, fr, us, ow, w, hK⟩ := pv
  have ds := w.1
  have ds' : DS M' 14 d5 d6 d7 len := ⟨⟨by rw [rf _ _ (by decide)]; exact ds.1.1, by rw [rf _ _ (by decide)]; exact ds.1.2.1, by rw [rf _ _ (by decide)]; exact ds.1.2.2⟩, ⟨io ds.2.1.1, io ds.2.1.2.1, io ds.2.1.2.2⟩, ⟨ln ds.2.1.1 ds.2.2.1.1, ln ds.2.1.2.1 ds.2.2.1.2.1, ln ds.2.1.2.2 ds.2.2.1.2.2⟩, ds.2.2.2⟩
  exact ⟨d5, d6, d7, len, K, fr, us, ow, w.cg ds' (Nat.le_refl _) w.2.2.2.2.2.2.2.2.2.1.2.2.2.1 (fun i a c b => lo _ (by omega) b) (fun b _ => hi d5 (Or.inr (Or.inl ds.1.1.symm)) b) (fun b _ => hi d6 (Or.inr (Or.inr (Or.inl ds.1.2.1.symm))) b) (fun b _ => hi d7 (Or.inr (Or.inr (Or.inr ds.1.2.2.symm))) b), hK⟩
theorem CW.mov {M M' : Mem} {N X Y L L' e' dC' : Nat} {Q Q' : Nat → Int32} {S S' : St} {t : Int32} {pb pt : List Row4} (p : HV M 14 X Y 0 N Q S [] []) (sb : SB M N S) (xg : XG M) (xc : XC M S) (xv : XV M N S) (lg : ∀ o, o = 7 ∨ o = 9 → ∀ b, mL M' o b = mL M o b) (g : GR M L) (hL : L' ≤ 1520000) (n1 : mN M ≤ mN M') (tp : ∀ i, i < mN M → M'.1.2.1 i = M.1.2.1 i) (rf : ∀ a b, a < mN M → ¬ (a = 64 ∧ 5 ≤ b ∧ b ≤ 7) → ¬ (a = 114 ∧ b = 5) → mR M' a b = mR M a b) (hi : ∀ o, (o < 131 ∧ ¬ (63 ≤ o ∧ o < 112) ∧ ¬ (114 ≤ o ∧ o ≤ 119)) ∨ (o = mR M 15 5 ∨ o = mR M 15 6 ∨ o = mR M 15 7) → ∀ b, mI M' o b = mI M o b) (sp : ∀ j, 5 ≤ j → j ≤ 7 → dC' ≠ mR M 15 j ∧ ∀ i, 5 ≤ i → i ≤ 7 → mR M' 64 i ≠ mR M 15 j) (sx : SX M') (cl : CL M' dC' L' e') (z : mI M' 115 0 = 0) (p63 : HV M' 63 (8384 + 3 * mLn M (mR M 15 5) + L' / 16) (900000 + 6 * mLn M (mR M 15 5) + 2 * L') t N Q' S' pb pt) : CW M' N Q S := by
  have hN := p.1.2.2.2.2.2.2
  have d57 := p.d57
  have R15 : ∀ b, mR M' 15 b = mR M 15 b := fun b => rf 15 b (by omega) (by omega) (by omega)
  have L15 : mLn M' (mR M' 15 5) = mLn M (mR M 15 5) := by
    rw [R15, mLn, tp _ (d57 5 (by decide) (by decide)).2.1]
    rfl
  have s1 : Shp1 M M' := ⟨n1, tp, fun a b ha n => rf a b ha (by omega) (by omega)⟩
  have rm := p63.2.2.2.1
  have l64 := (p63.d57 5 (by decide) (by decide)).2.2.2
  have gr : GR M' L' := by
    refine ⟨?_, ?_, by rw [L15]; exact g.2.2.1, rm.2.2.2.2, by rw [L15]; exact g.2.2.2.2.1, l64⟩
    · rw [L15]
      have : mN M' * 64 ≤ 8384 + 3 * mLn M (mR M 15 5) + L' / 16 + 3 * mLn M' (mR M' 64 5) := rm.1
      omega
    · rw [L15]
      have : mU M' ≤ 900000 + 6 * mLn M (mR M 15 5) + 2 * L' + 6 * mLn M' (mR M' 64 5) := rm.2.1
      omega
  have lo : ∀ o, o < 63 → ∀ b, mI M' o b = mI M o b := fun o a b => hi o (Or.inl ⟨by omega, by omega, by omega⟩) b
  have p14 := p.kt n1 tp (fun a b ha => rf a b (by omega) (by omega) (by omega)) (fun o ho b => ho.elim (fun a => lo o a b) (fun a => hi o (Or.inr a) b)) (gr.r14 hL)
  refine ⟨_, _, L', p14, sb.cg n1 (fun o ho => tp o (by omega)) (fun b => rf 1 b (by omega) (by omega) (by omega)) (lo 1 (by decide)) (lo 2 (by decide)) rfl (fun _ => rfl), xg.s s1, xc.s s1 (fun b => hi 113 (Or.inl ⟨by decide, by decide, by decide⟩) b) (fun _ _ => rfl), xv.s s1 (lo 5 (by decide)) (lo 6 (by decide)) (lo 8 (by decide)) (fun _ => lg) (fun _ => rfl) rfl, ?_, gr, hL⟩
  obtain ⟨d5, d6, d7, len, K, fr, us, ow, w, _⟩ := p63.2.1
  have u := w.2.2.2.2.2.2.2.2.2.1
  exact ⟨e', dC', d5, d6, d7, len, pb ++ xE S', pt ++ xT S', sx, cl, p63.1, ⟨w.1, u.2.2.2.2, u.2.2.2.1⟩, p63.2.2.2.2.1, z, fun j a b => by rw [R15]; exact sp j a b⟩
theorem CW.tri {M : Mem} {N : Nat} {Q : Nat → Int32} {S : St} (h : CW M N Q S) : ∃ X0 Y0 pb pt, TR M 63 X0 Y0 pb pt ∧ (∀ i j, 5 ≤ i → i ≤ 7 → 5 ≤ j → j ≤ 7 → mR M 64 i ≠ mR M 15 j) ∧ ∀ (M' : Mem) (t : Int32) (Q' : Nat → Int32) (S' : St) (pb' pt' : List Row4), FrD M M' 63 → HV M' 63 X0 Y0 t N Q' S' pb' pt' → CW M' N Q S := by
  obtain ⟨X, Y, L, p, sb, xg, xc, xv, xs, g, hL⟩ := h
  obtain ⟨e, dC, e5, e6, e7, len, pb, pt, sx, cl, q, ⟨ds, d64, d18⟩, ⟨lb, lt⟩, z0, dj⟩ := xs
  refine ⟨_, _, pb, pt, ⟨q, ⟨e5, e6, e7, len, ds, d64, d18⟩, g.r63 hL, lb, lt⟩, fun i j a b c d => (dj j c d).2 i a b, fun M' t Q' S' pb' pt' f p63 => ?_⟩
  obtain ⟨x, f⟩ := f
  have hN := p.1.2.2.2.2.2.2
  have d57 := p.d57
  have r57 : ∀ i, 5 ≤ i → i ≤ 7 → mR M 64 i = 63 + 2 + i ∨ 131 ≤ mR M 64 i := by
    obtain ⟨⟨y5, y6, y7⟩, _, _, x5, x6, x7, _⟩ := ds
    have y5' : mR M 64 5 = e5 := y5
    have y6' : mR M 64 6 = e6 := y6
    have y7' : mR M 64 7 = e7 := y7
    intro i a b
    rcases (show i = 5 ∨ i = 6 ∨ i = 7 by omega) with rfl | rfl | rfl
    · rw [y5']; exact x5
    · rw [y6']; exact x6
    · rw [y7']; exact x7
  have r5 := r57 5 (by decide) (by decide)
  have r6 := r57 6 (by decide) (by decide)
  have r7 := r57 7 (by decide) (by decide)
  have fu : FrUp (sL M 63 16 x) M' := f.up hN r57
  have sx' := SX.up (M := sL M 63 16 x) sx fu
  have cl' := (CL.up (M := sL M 63 16 x) cl hN fu).1
  have f4 : ∀ o, o < mN M → ¬ (63 ≤ o ∧ o < 63 + 49) → o ≠ mR M 64 5 → o ≠ mR M 64 6 → o ≠ mR M 64 7 → ∀ b, mI M' o b = mI M o b := f.2.2.2.1
  have f6 : ∀ j, 5 ≤ j → j ≤ 7 → mR M' 64 j = mR M 64 j ∨ mN M ≤ mR M' 64 j := f.2.2.2.2.2
  refine CW.mov p sb xg xc xv (fun o ho b => (f.2.2.2.2.1 o (show o < mN M by omega) b).trans (mL_o _ _ _ _ (by omega))) g hL f.1 f.2.1 (fun a b ha n _ => f.2.2.1 a b ha n) (fun o ho b => ?_) (fun j a b => ⟨(dj j a b).1, fun i c d => ?_⟩) sx' cl' ?_ p63
  · rcases ho with ho | ho
    · exact f4 o (by omega) (by omega) (by omega) (by omega) (by omega) b
    · have key : ∀ j, 5 ≤ j → j ≤ 7 → o = mR M 15 j → mI M' o b = mI M o b := fun j h5 h7 ej => by
        have dd := d57 j h5 h7
        have e1 : (mR M 15 j = 14 + 2 + j ∨ 131 ≤ mR M 15 j) ∧ mR M 15 j < mN M := ⟨dd.1, dd.2.1⟩
        have n5 := (dj j h5 h7).2 5 (by decide) (by decide)
        have n6 := (dj j h5 h7).2 6 (by decide) (by decide)
        have n7 := (dj j h5 h7).2 7 (by decide) (by decide)
        exact f4 o (by omega) (by omega) (by omega) (by omega) (by omega) b
      rcases ho with ho | ho | ho
      · exact key 5 (by decide) (by decide) ho
      · exact key 6 (by decide) (by decide) ho
      · exact key 7 (by decide) (by decide) ho
  · have e1 : mR M 15 j < mN M := (d57 j a b).2.1
    have n := (dj j a b).2 i c d
    rcases f6 i c d with e | e
    · rw [e]; exact n
    · omega
  · rw [f4 115 (by omega) (by omega) (by omega) (by omega) (by omega)]; exact z0
/-- the rows in which the hall's letters lie -/
def D14 (M : Mem) (o : Nat) : Prop := o = mR M 15 5 ∨ o = mR M 15 6 ∨ o = mR M 15 7
theorem D14.e {M : Mem} {o : Nat} (h : D14 M o) : ∃ j, 5 ≤ j ∧ j ≤ 7 ∧ o = mR M 15 j := by
  rcases h with h | h | h
  · exact ⟨5, by decide, by decide, h⟩
  · exact ⟨6, by decide, by decide, h⟩
  · exact ⟨7, by decide, by decide, h⟩
theorem D14.i {M : Mem} {j : Nat} (a : 5 ≤ j) (b : j ≤ 7) : D14 M (mR M 15 j) := by
  rcases (show j = 5 ∨ j = 6 ∨ j = 7 by omega) with rfl | rfl | rfl
  · exact Or.inl rfl
  · exact Or.inr (Or.inl rfl)
  · exact Or.inr (Or.inr rfl)
theorem pw_18 {l : Nat} (h : ∃ z, l = 64 * 2 ^ z) (h18 : l ≤ 18000) : l ≤ 16384 := by
  obtain ⟨z, rfl⟩ := h
  apply Decidable.byContradiction
  intro c
  have : 9 ≤ z := by
    apply Decidable.byContradiction
    intro d
    have := Nat.pow_le_pow_right (n := 2) (by decide) (show z ≤ 8 by omega)
    omega
  have := Nat.pow_le_pow_right (n := 2) (by decide) this
  omega
theorem CW.sea {M : Mem} {N : Nat} {Q : Nat → Int32} {S : St} (h : CW M N Q S) : ∃ X0 Y0 pb pt, SR M X0 Y0 pb pt ∧ X0 ≤ 100000 ∧ Y0 ≤ 1000000 ∧ (∀ i j, 5 ≤ i → i ≤ 7 → 5 ≤ j → j ≤ 7 → mR M 64 i ≠ mR M 15 j) ∧ Sep (D14 M) M (mR M 114 5) ∧ ∀ (M' : Mem) (t : Int32) (Q' : Nat → Int32) (pb' pt' : List Row4) (A P most : Nat) (S0 : St) (ask : Int32) (sn : Nat → Int32) (q : Bq), CM (D14 M) X0 Y0 t N Q' pb' pt' A P most S0 ask sn M' q → FrS (D14 M) M M' → CW M' N Q S := by
  obtain ⟨X, Y, L, p, sb, xg, xc, xv, xs, g, hL⟩ := h
  obtain ⟨e, dC, e5, e6, e7, len, pb, pt, sx, cl, q, ⟨ds, d64, d18⟩, ⟨lb, lt⟩, z0, dj⟩ := xs
  have d57 := p.d57
  have l16 := pw_18 g.2.2.1 g.2.2.2.2.1
  refine ⟨8384 + 3 * mLn M (mR M 15 5), 900000 + 6 * mLn M (mR M 15 5), pb, pt, ⟨L, e, dC, sx, cl, ⟨q, ⟨e5, e6, e7, len, ds, d64, d18⟩, g.r63 hL, lb, lt⟩, z0⟩, by omega, by omega, fun i j a b c d => (dj j c d).2 i a b, fun o ho => ?_, fun M' t Q' pb' pt' A P most S0 ask sn qq hm f => ?_⟩
  · obtain ⟨j, a, b, rfl⟩ := ho.e
    have dd := d57 j a b
    have e1 : (mR M 15 j = 14 + 2 + j ∨ 131 ≤ mR M 15 j) ∧ mR M 15 j < mN M := ⟨dd.1, dd.2.1⟩
    refine ⟨e1.2, by omega, by omega, ?_, fun i c d => ((dj j a b).2 i c d).symm⟩
    rw [cl.1]; exact ((dj j a b).1).symm
  · obtain ⟨S1, e', dC', dd, ⟨L', sx', cl', p63⟩, gs, sq, sep⟩ := hm
    obtain ⟨f1, f2, f3, f4, f5⟩ := f
    refine CW.mov p sb xg xc xv (fun o ho b => f5 o (by have := p.1.2.2.2.2.2.2; omega) b) g cl'.2.2.2.2.2.2.2.1 f1 f2 f3 f4 (fun j a b => ?_) sx' cl' ?_ p63
    · obtain ⟨s1, s2, s3, s4, s5⟩ := sep (mR M 15 j) (D14.i a b)
      exact ⟨fun z => s4 z.symm, fun i c d z => s5 i c d z.symm⟩
    · rw [sq.1.1 0 (Nat.zero_le _)]; rfl
