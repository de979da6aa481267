/-! ===== a row of letters made twice as long ===== -/
def gw1 (M : Mem) (a p j len : Nat) : Mem := sR (cpI (nw M 100 (2 * len) (2 * len)) a 0 (mN M) 0 len) p j (mN M)
theorem gw1_N (M : Mem) (a p j len : Nat) : mN (gw1 M a p j len) = mN M + 1 := rfl
theorem gw1_U (M : Mem) (a p j len : Nat) : mU (gw1 M a p j len) = mU M + 2 * len := rfl
theorem gw1_C (M : Mem) (a p j len : Nat) (i : Nat) : (gw1 M a p j len).1.2.1 i = if i = mN M then (100, 2 * len) else M.1.2.1 i := rfl
theorem gw1_R (M : Mem) (a p j len : Nat) {x : Nat} (y : Nat) (h : x ≠ mN M) : mR (gw1 M a p j len) x y = if x = p ∧ y = j then mN M else mR M x y := by
  show (if x = p ∧ y = j then mN M else (if x = mN M then NUL else M.1.2.2 x y)) = _
  rw [if_neg h]; rfl
theorem gw1_I (M : Mem) (a p j len : Nat) {x : Nat} (y : Nat) (h : x ≠ mN M) : mI (gw1 M a p j len) x y = mI M x y := by
  show (if x = mN M then va_cpy _ _ 0 0 len y else (if x = mN M then 0 else M.2.1 x y)) = _
  rw [if_neg h, if_neg h]; rfl
theorem gw1_J (M : Mem) (a p j len : Nat) {y : Nat} (h : a ≠ mN M) (hy : y < len) : mI (gw1 M a p j len) (mN M) y = mI M a y := by
  show (if mN M = mN M then va_cpy ((nw M 100 (2 * len) (2 * len)).2.1 a) ((nw M 100 (2 * len) (2 * len)).2.1 (mN M)) 0 0 len y else _) = _
  rw [if_pos rfl]
  have e := pk_cpy_in (f := (nw M 100 (2 * len) (2 * len)).2.1 a) (g := (nw M 100 (2 * len) (2 * len)).2.1 (mN M)) (sp := 0) (dp := 0) (n := len) (j := y) (Nat.zero_le _) (by omega)
  rw [e, Nat.zero_add, Nat.sub_zero]
  show (if a = mN M then 0 else M.2.1 a y) = _
  rw [if_neg h]; rfl
theorem gw1_L (M : Mem) (a p j len : Nat) {x : Nat} (y : Nat) (h : x ≠ mN M) : mL (gw1 M a p j len) x y = mL M x y := by
  show (if x = mN M then 0 else M.2.2 x y) = _
  rw [if_neg h]; rfl
theorem gw1_io {M : Mem} {a p j len : Nat} {c o : Nat} (h : isO M c o) : isO (gw1 M a p j len) c o := by
  refine ⟨by rw [gw1_N]; have := h.1; omega, ?_⟩
  rw [mC, gw1_C, if_neg (by have := h.1; omega)]; exact h.2
theorem gw1_new (M : Mem) (a p j len : Nat) : isO (gw1 M a p j len) 100 (mN M) := by
  refine ⟨by rw [gw1_N]; omega, ?_⟩
  rw [mC, gw1_C, if_pos rfl]
theorem gw1_ln {M : Mem} {a p j len : Nat} {o : Nat} (h : o ≠ mN M) : mLn (gw1 M a p j len) o = mLn M o := by
  rw [mLn, gw1_C, if_neg h]; rfl
theorem gw1_ln' (M : Mem) (a p j len : Nat) : mLn (gw1 M a p j len) (mN M) = 2 * len := by
  rw [mLn, gw1_C, if_pos rfl]
theorem n32 (n : Nat) : Int32.ofNat n = nI n := rfl
theorem f_copyOf {M : Mem} {a len : Nat} (ha : isO M 100 a) (hl : mLn M a = len) (h1 : 64 ≤ len) (h2 : len ≤ 1000000) (hN : mN M + 1 ≤ CAP) (hU : mU M + 2 * len ≤ CAPU) : f_J7_copyOf_59c91 a (nI (2 * len)) M = some (mN M, cpI (nw M 100 (2 * len) (2 * len)) a 0 (mN M) 0 len) := by
  have hne : a ≠ mN M := by have := ha.1; omega
  have l1 : mLn (nw M 100 (2 * len) (2 * len)) a = len := by
    show (if a = mN M then (100, 2 * len) else M.1.2.1 a).2 = len
    rw [if_neg hne]; exact hl
  have l2 : mLn (nw M 100 (2 * len) (2 * len)) (mN M) = 2 * len := by
    show (if mN M = mN M then (100, 2 * len) else M.1.2.1 (mN M)).2 = 2 * len
    rw [if_pos rfl]
  have c1 : (nI (2 * len)).toNatClampNeg = 2 * len := nI_clamp (by omega)
  rw [f_J7_copyOf_59c91, chk_t ha, hl, n32, if_neg (nI_ne (by omega) (by omega) (by omega)), chk_t (nI_pos (by omega)), chk_t (by rw [c1]; exact ⟨hN, hU⟩), bnd_e, c1, bnd_e, l1, n32, if_neg (nI_nlt (by omega) (by omega)), chk_t (by
    rw [l2]
    refine ⟨by decide, by decide, nI_pos (by omega), ?_, ?_⟩
    · rw [nI_clamp (by omega), show ((0 : Int32)).toNatClampNeg = 0 by decide]; omega
    · rw [nI_clamp (by omega), show ((0 : Int32)).toNatClampNeg = 0 by decide]; omega), bnd_e, nI_clamp (by omega), show ((0 : Int32)).toNatClampNeg = 0 by decide]
/-- room for a hall's rows of letters -/
def Rm (M : Mem) (h X Y : Nat) : Prop := mN M * 64 ≤ X + 3 * mLn M (mR M (h + 1) 5) ∧ mU M ≤ Y + 6 * mLn M (mR M (h + 1) 5) ∧ X ≤ 2000000 ∧ Y ≤ 6000000 ∧ ∃ z, mLn M (mR M (h + 1) 5) = 64 * 2 ^ z
theorem pw_dbl {a b : Nat} (ha : ∃ z, a = 64 * 2 ^ z) (hb : ∃ z, b = 64 * 2 ^ z) (h : a < b) : 2 * a ≤ b := by
  obtain ⟨x, rfl⟩ := ha
  obtain ⟨y, rfl⟩ := hb
  have hxy : x < y := by
    apply Decidable.byContradiction
    intro c
    have := Nat.pow_le_pow_right (n := 2) (by decide) (show y ≤ x by omega)
    omega
  have := Nat.pow_le_pow_right (n := 2) (by decide) (show x + 1 ≤ y by omega)
  rw [Nat.pow_succ] at this
  omega
/-- a hall's letters alone have changed -/
def FrP (M M' : Mem) (h : Nat) : Prop := mN M ≤ mN M' ∧ (∀ i, i < mN M → M'.1.2.1 i = M.1.2.1 i) ∧ (∀ a b, a < mN M → ¬ (a = h + 1 ∧ 5 ≤ b ∧ b ≤ 7) → mR M' a b = mR M a b) ∧ (∀ o, o < mN M → ¬ (h + 1 ≤ o ∧ o ≤ h + 6) → o ≠ mR M (h + 1) 5 → o ≠ mR M (h + 1) 6 → o ≠ mR M (h + 1) 7 → ∀ b, mI M' o b = mI M o b) ∧ (∀ o, o < mN M → ∀ b, mL M' o b = mL M o b) ∧ (∀ j, 5 ≤ j → j ≤ 7 → mR M' (h + 1) j = mR M (h + 1) j ∨ mN M ≤ mR M' (h + 1) j)
theorem FrP.rf (M : Mem) (h : Nat) : FrP M M h := ⟨Nat.le_refl _, fun _ _ => rfl, fun _ _ _ _ => rfl, fun _ _ _ _ _ _ _ => rfl, fun _ _ _ => rfl, fun _ _ _ => Or.inl rfl⟩
theorem FrP.tr {M M' M'' : Mem} {h : Nat} (p : FrP M M' h) (p' : FrP M' M'' h) : FrP M M'' h := by
  obtain ⟨a1, a2, a3, a4, a5, a6⟩ := p
  obtain ⟨b1, b2, b3, b4, b5, b6⟩ := p'
  refine ⟨Nat.le_trans a1 b1, fun i hi => (b2 i (by omega)).trans (a2 i hi), fun a b ha hn => (b3 a b (by omega) hn).trans (a3 a b ha hn), fun o ho h1 h5 h6 h7 b => ?_, fun o ho b => (b5 o (by omega) b).trans (a5 o ho b), fun j h5 h7 => ?_⟩
  · have n5 : o ≠ mR M' (h + 1) 5 := by rcases a6 5 (by decide) (by decide) with e | e <;> omega
    have n6 : o ≠ mR M' (h + 1) 6 := by rcases a6 6 (by decide) (by decide) with e | e <;> omega
    have n7 : o ≠ mR M' (h + 1) 7 := by rcases a6 7 (by decide) (by decide) with e | e <;> omega
    exact (b4 o (by omega) h1 n5 n6 n7 b).trans (a4 o ho h1 h5 h6 h7 b)
  · rcases b6 j h5 h7 with e | e
    · rcases a6 j h5 h7 with e2 | e2
      · exact Or.inl (e.trans e2)
      · exact Or.inr (by omega)
    · exact Or.inr (by omega)
theorem CS.gw {M : Mem} {h : Nat} (q : CS M h) {a j len : Nat} (hj : 5 ≤ j) : CS (gw1 M a (h + 1) j len) h := by
  obtain ⟨c1, c2, c3, c4, c5, c6, c7⟩ := q
  refine ⟨fun i hi hn => ?_, fun z hz => ?_, ?_, gw1_io c4, c5, c6, by rw [gw1_N]; omega⟩
  · rw [gw1_C, if_neg (by omega)]; exact c1 i hi hn
  · have hb : z.1 < 49 ∧ ¬ (z.1 = 1 ∧ 5 ≤ z.2.1) := by
      have : ∀ z, z ∈ tH → z.1 < 49 ∧ ¬ (z.1 = 1 ∧ 5 ≤ z.2.1) := by decide
      exact this z hz
    rw [gw1_R _ _ _ _ _ _ (by omega), if_neg (by omega)]; exact c2 z hz
  · rw [gw1_R _ _ _ _ _ _ (by omega), if_neg (by omega)]; exact c3
