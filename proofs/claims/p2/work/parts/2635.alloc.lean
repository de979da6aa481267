/-! ===== new rows for a hall's letters, empty ones ===== -/
def al1 (M : Mem) (p j len : Nat) : Mem := sR (nw M 100 len len) p j (mN M)
theorem al1_N (M : Mem) (p j len : Nat) : mN (al1 M p j len) = mN M + 1 := rfl
theorem al1_U (M : Mem) (p j len : Nat) : mU (al1 M p j len) = mU M + len := rfl
theorem al1_C (M : Mem) (p j len : Nat) (i : Nat) : (al1 M p j len).1.2.1 i = if i = mN M then (100, len) else M.1.2.1 i := rfl
theorem al1_R (M : Mem) (p j len : Nat) {x : Nat} (y : Nat) (h : x ≠ mN M) : mR (al1 M p j len) x y = if x = p ∧ y = j then mN M else mR M x y := by
  show (if x = p ∧ y = j then mN M else (if x = mN M then NUL else M.1.2.2 x y)) = _
  rw [if_neg h]; rfl
theorem al1_I (M : Mem) (p j len : Nat) {x : Nat} (y : Nat) (h : x ≠ mN M) : mI (al1 M p j len) x y = mI M x y := by
  show (if x = mN M then 0 else M.2.1 x y) = _
  rw [if_neg h]; rfl
theorem al1_L (M : Mem) (p j len : Nat) {x : Nat} (y : Nat) (h : x ≠ mN M) : mL (al1 M p j len) x y = mL M x y := by
  show (if x = mN M then 0 else M.2.2 x y) = _
  rw [if_neg h]; rfl
/-- three new rows for k's letters -/
def al3 (M : Mem) (k len : Nat) : Mem := al1 (al1 (al1 M (k + 1) 5 len) (k + 1) 6 len) (k + 1) 7 len
theorem al3_N (M : Mem) (k len : Nat) : mN (al3 M k len) = mN M + 3 := rfl
theorem al3_U (M : Mem) (k len : Nat) : mU (al3 M k len) = mU M + 3 * len := by
  show mU M + len + len + len = _
  omega
theorem al3_C (M : Mem) (k len : Nat) {i : Nat} (h : i < mN M) : (al3 M k len).1.2.1 i = M.1.2.1 i := by
  unfold al3
  rw [al1_C, al1_N, al1_N, if_neg (by omega), al1_C, al1_N, if_neg (by omega), al1_C, if_neg (by omega)]
theorem al3_K (M : Mem) (k len : Nat) {i : Nat} (h : i < 3) : (al3 M k len).1.2.1 (mN M + i) = (100, len) := by
  unfold al3
  rw [al1_C, al1_N, al1_N]
  by_cases c : i = 2
  · rw [if_pos (by omega)]
  · rw [if_neg (by omega), al1_C, al1_N]
    by_cases c1 : i = 1
    · rw [if_pos (by omega)]
    · rw [if_neg (by omega), al1_C, if_pos (by omega)]
theorem al3_R (M : Mem) (k len : Nat) {x : Nat} (y : Nat) (h : x < mN M) : mR (al3 M k len) x y = if x = k + 1 ∧ y = 7 then mN M + 2 else if x = k + 1 ∧ y = 6 then mN M + 1 else if x = k + 1 ∧ y = 5 then mN M else mR M x y := by
  unfold al3
  rw [al1_R _ _ _ _ _ (by rw [al1_N, al1_N]; omega), al1_R _ _ _ _ _ (by rw [al1_N]; omega), al1_R _ _ _ _ _ (by omega)]
  rfl
theorem al3_I (M : Mem) (k len : Nat) {x : Nat} (y : Nat) (h : x < mN M) : mI (al3 M k len) x y = mI M x y := by
  unfold al3
  rw [al1_I _ _ _ _ _ (by rw [al1_N, al1_N]; omega), al1_I _ _ _ _ _ (by rw [al1_N]; omega), al1_I _ _ _ _ _ (by omega)]
theorem al3_L (M : Mem) (k len : Nat) {x : Nat} (y : Nat) (h : x < mN M) : mL (al3 M k len) x y = mL M x y := by
  unfold al3
  rw [al1_L _ _ _ _ _ (by rw [al1_N, al1_N]; omega), al1_L _ _ _ _ _ (by rw [al1_N]; omega), al1_L _ _ _ _ _ (by omega)]
theorem al3_io {M : Mem} {k len c o : Nat} (h : isO M c o) : isO (al3 M k len) c o := by
  refine ⟨by rw [al3_N]; have := h.1; omega, ?_⟩
  rw [mC, al3_C _ _ _ h.1]; exact h.2
theorem al3_CS {M : Mem} {h k len : Nat} (q : CS M h) (hk : h = k ∨ h + 49 ≤ k ∨ k + 49 ≤ h) : CS (al3 M k len) h := by
  obtain ⟨c1, c2, c3, c4, c5, c6, c7⟩ := q
  have hr : ∀ a b, a < mN M → ¬ (a = k + 1 ∧ 5 ≤ b ∧ b ≤ 7) → mR (al3 M k len) a b = mR M a b := fun a b ha n => by
    rw [al3_R _ _ _ _ ha, if_neg (by omega), if_neg (by omega), if_neg (by omega)]
  refine ⟨fun i hi hn => ?_, fun z hz => ?_, ?_, al3_io c4, c5, c6, by rw [al3_N]; omega⟩
  · rw [al3_C _ _ _ (by omega)]; exact c1 i hi hn
  · have hb : z.1 < 49 ∧ ¬ (z.1 = 1 ∧ 5 ≤ z.2.1) := by
      have : ∀ z, z ∈ tH → z.1 < 49 ∧ ¬ (z.1 = 1 ∧ 5 ≤ z.2.1) := by decide
      exact this z hz
    rw [hr _ _ (by omega) (by omega)]; exact c2 z hz
  · rw [hr _ _ (by omega) (by omega)]; exact c3
/-- new rows: what else the memory holds -/
theorem al3_FrH (M : Mem) (k len : Nat) (hk : k + 1 < mN M) : FrH M (al3 M k len) k := by
  refine ⟨by rw [al3_N]; omega, fun i hi => al3_C _ _ _ hi, fun a b ha n => ?_, fun o ho _ _ _ _ b => al3_I _ _ _ _ ho, fun o ho b => al3_L _ _ _ _ ho, fun j a b => ?_⟩
  · rw [al3_R _ _ _ _ ha, if_neg (by omega), if_neg (by omega), if_neg (by omega)]
  · right
    rw [al3_R _ _ _ _ hk]
    rcases (show j = 5 ∨ j = 6 ∨ j = 7 by omega) with rfl | rfl | rfl <;> simp
theorem al3_DS {M : Mem} {k len : Nat} (hN : 131 ≤ mN M) (hk : k + 49 ≤ 131) : DS (al3 M k len) k (mN M) (mN M + 1) (mN M + 2) len := by
  have hr : ∀ j, mR (al3 M k len) (k + 1) j = _ := fun j => al3_R _ _ _ j (by omega)
  have y0 := al3_K M k len (i := 0) (by decide)
  have y1 := al3_K M k len (i := 1) (by decide)
  have y2 := al3_K M k len (i := 2) (by decide)
  rw [Nat.add_zero] at y0
  refine ⟨⟨by rw [hr]; simp, by rw [hr]; simp, by rw [hr]; simp⟩, ⟨⟨by rw [al3_N]; omega, ?_⟩, ⟨by rw [al3_N]; omega, ?_⟩, ⟨by rw [al3_N]; omega, ?_⟩⟩, ⟨?_, ?_, ?_⟩, by omega⟩
  · rw [mC, y0]
  · rw [mC, y1]
  · rw [mC, y2]
  · rw [mLn, y0]
  · rw [mLn, y1]
  · rw [mLn, y2]
/-- the class's copy of letters, where the rows are too short: as if they had been made before -/
theorem f_cpg {M : Mem} {h k d5 d6 d7 len e5 e6 e7 len' us : Nat} (q : CS M h) (q' : CS M k) (hk : h + 49 ≤ k ∨ k + 49 ≤ h) (w : DS M h d5 d6 d7 len) (w' : DS M k e5 e6 e7 len') (hu : mI M (h + 1) 8 = nI us) (hlt : len' < us) (hul : us ≤ len) (hl : len ≤ 18000) (hN : mN M + 3 ≤ CAP) (hU : mU M + 3 * len ≤ CAPU) : f_X5_copyFrom (k + 1) (h + 1) M = f_X5_copyFrom (k + 1) (h + 1) (al3 M k len) := by
  have hq := q.2.2.2.2
  have hq' := q'.2.2.2.2
  obtain ⟨⟨a5, a6, a7⟩, ⟨b5, b6, b7⟩, ⟨l5, l6, l7⟩, _⟩ := w
  obtain ⟨⟨a5', a6', a7'⟩, ⟨b5', b6', b7'⟩, ⟨l5', l6', l7'⟩, _⟩ := w'
  have Q : CS (al3 M k len) h := al3_CS q (Or.inr hk)
  have Q' : CS (al3 M k len) k := al3_CS q' (Or.inl rfl)
  have W' := al3_DS (M := M) (k := k) (len := len) hq.2.2 hq'.1
  have cl : (nI len).toNatClampNeg = len := nI_clamp (by omega)
  have np : ¬ nI len < 0 := nI_nlt (b := 0) (Nat.zero_le _) (by omega)
  have R1 : ∀ b, mR (al1 M (k + 1) 5 len) (h + 1) b = mR M (h + 1) b := fun b => by rw [al1_R _ _ _ _ _ (by omega), if_neg (by omega)]
  have R2 : ∀ b, mR (al1 (al1 M (k + 1) 5 len) (k + 1) 6 len) (h + 1) b = mR M (h + 1) b := fun b => by rw [al1_R _ _ _ _ _ (by rw [al1_N]; omega), if_neg (by omega), R1]
  have i1 : ∀ {c o}, isO M c o → isO (al1 M (k + 1) 5 len) c o := fun {c o} z => ⟨by rw [al1_N]; have := z.1; omega, by rw [mC, al1_C, if_neg (by have := z.1; omega)]; exact z.2⟩
  have i2 : ∀ {c o}, isO M c o → isO (al1 (al1 M (k + 1) 5 len) (k + 1) 6 len) c o := fun {c o} z => ⟨by rw [al1_N, al1_N]; have := z.1; omega, by rw [mC, al1_C, al1_N, if_neg (by have := z.1; omega), al1_C, if_neg (by have := z.1; omega)]; exact z.2⟩
  have n1 : mLn (al1 M (k + 1) 5 len) d5 = len := by rw [mLn, al1_C, if_neg (by have := b5.1; omega)]; exact l5
  have n2 : mLn (al1 (al1 M (k + 1) 5 len) (k + 1) 6 len) d5 = len := by rw [mLn, al1_C, al1_N, if_neg (by have := b5.1; omega), al1_C, if_neg (by have := b5.1; omega)]; exact l5
  have e1 : f_X5_copyFrom (k + 1) (h + 1) (al3 M k len) = f_X5_copyFrom_45 (k + 1) (h + 1) (al3 M k len) := by
    rw [f_X5_copyFrom, cs_p Q', W'.1.1, bnd_e, chk_t W'.2.1.1, cs_p Q, al3_I _ _ _ _ (by omega), hu, W'.2.2.1.1, n32, if_pos (nI_le hul (by omega))]
  rw [e1, f_X5_copyFrom, cs_p q', a5', bnd_e, chk_t b5', cs_p q, hu, l5', n32, if_neg (nI_ge hlt (by omega)), a5, bnd_e, chk_t b5, l5, n32, chk_t np, cl, chk_t (by omega), bnd_e, bnd_e, show sR (nw M 100 len len) (k + 1) 5 (mN M) = al1 M (k + 1) 5 len from rfl, bnd_e, R1, a5, bnd_e, chk_t (i1 b5), n1, n32, chk_t np, cl, chk_t (by rw [al1_N, al1_U]; omega), bnd_e, bnd_e, show sR (nw (al1 M (k + 1) 5 len) 100 len len) (k + 1) 6 (mN (al1 M (k + 1) 5 len)) = al1 (al1 M (k + 1) 5 len) (k + 1) 6 len from rfl, bnd_e, R2, a5, bnd_e, chk_t (i2 b5), n2, n32, chk_t np, cl, chk_t (by rw [al1_N, al1_U, al1_N, al1_U]; omega), bnd_e, bnd_e]
  rfl
