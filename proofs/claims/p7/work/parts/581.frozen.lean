/-! ===== the survey, the class: rows of long bits ===== -/
/-- long numbers alone have changed -/
def FrLg (M M' : Mem) : Prop := M'.1 = M.1 ∧ ∀ o b, mI M' o b = mI M o b
theorem FrLg.rf (M : Mem) : FrLg M M := ⟨rfl, fun _ _ => rfl⟩
theorem FrLg.tr {M M' M'' : Mem} (h : FrLg M M') (h' : FrLg M' M'') : FrLg M M'' := ⟨h'.1.trans h.1, fun o b => (h'.2 o b).trans (h.2 o b)⟩
theorem FrLg.s (M : Mem) (o k : Nat) (x : Int64) : FrLg M (sL M o k x) := ⟨rfl, fun _ _ => rfl⟩
def SO (x : Int32) : Prop := ∀ i, 16 ≤ i → i < 32 → bt x i = false
theorem SO.k {x : Int32} (h : SO x) : ∃ k, k < 65536 ∧ x = nI k := ⟨x.toBitVec.toNat, bt_hi (k := 16) (by decide) h, nI_tn x⟩
theorem SO.or {x y : Int32} (h : SO x) (h' : SO y) : SO (x ||| y) := fun i a b => by rw [b_or, h i a b, h' i a b]; rfl
theorem SO.one {v : Nat} (hv : v < 16) : SO ((1 : Int32) <<< (nI v &&& 31)) := fun i a b => by
  rw [b_one (by omega) b]; exact decide_eq_false (by omega)
theorem sh6 {k : Nat} (hk : k < 65536) : nI k >>> ((6 : Int32) &&& 31) = nI (k / 64) := by
  refine b_ext fun i hi => ?_
  rw [show (6 : Int32) = nI 6 from rfl, b_sshr 6 (by decide) _ hi, bt_nI _ hi]
  have e : (k / 64).testBit i = k.testBit (6 + i) := by
    rw [show 64 = 2 ^ 6 from rfl, ← Nat.shiftRight_eq_div_pow, Nat.testBit_shiftRight]
  rw [e]
  by_cases c : 6 + i < 32
  · rw [if_pos c, bt_nI _ c]
  · rw [if_neg c, bt_nI _ (by decide)]
    have big : ∀ j, 16 ≤ j → k.testBit j = false := fun j hj => Nat.testBit_lt_two_pow (Nat.lt_of_lt_of_le hk (Nat.pow_le_pow_right (n := 2) (by decide) hj))
    rw [big 31 (by decide), big (6 + i) (by omega)]
theorem j13 (x : Int64) (M : Mem) : ∃ r, f_J13_bitCount_95d88 x M = some r := ⟨_, rfl⟩
theorem j6 (x : Int32) (M : Mem) : ∃ r, f_J6_bitCount_0f7a4 x M = some r := ⟨_, rfl⟩
theorem low_ex (x : Int64) (M : Mem) : ∃ r, f_X9_lowest x M = some r := by
  rw [f_X9_lowest]
  split
  · exact ⟨_, rfl⟩
  · obtain ⟨r, e⟩ := j13 ((x &&& (-x)) - (1 : Int64)) M
    exact ⟨r, by rw [e, obd_s]⟩
theorem us_p {N : Nat} (h16 : N ≤ 16) : ∃ k, k ≤ 10 ∧ us6 N = 2 ^ k := by
  unfold us6
  by_cases c : 6 < N
  · exact ⟨N - 6, by omega, if_pos c⟩
  · exact ⟨0, by omega, if_neg c⟩
theorem us_b {N : Nat} (h16 : N ≤ 16) : 1 ≤ us6 N ∧ us6 N ≤ 1024 := by
  obtain ⟨k, hk, e⟩ := us_p h16
  rw [e]
  exact ⟨Nat.one_le_two_pow, show 2 ^ k ≤ 2 ^ 10 from Nat.pow_le_pow_right (by decide) hk⟩
/-- a row of bits by sets -/
def F1 (M : Mem) (o q N : Nat) : Prop := (isO M 1 o ∧ mR M o 0 = q ∧ isO M 101 q ∧ mLn M q = 1024) ∧ mI M o 1 = nI N ∧ mI M o 2 = nI (us6 N)
theorem F1.l {M M' : Mem} {o q N : Nat} (h : F1 M o q N) (f : FrLg M M') : F1 M' o q N := by
  obtain ⟨⟨a, b, c, d⟩, e, g⟩ := h
  have io : ∀ {c o}, isO M c o → isO M' c o := fun z => by unfold isO mN mC at *; rw [f.1]; exact z
  exact ⟨⟨io a, by rw [mR_e f.1]; exact b, io c, by rw [mLn_e f.1]; exact d⟩, by rw [f.2]; exact e, by rw [f.2]; exact g⟩
section
variable {M : Mem} {o q N : Nat}
theorem F1.add (f : F1 M o q N) {x : Int32} (hx : SO x) : ∃ M', f_X1_add o x M = some M' ∧ FrLg M M' := by
  obtain ⟨k, hk, rfl⟩ := hx.k
  refine ⟨_, ?_, FrLg.s M q (nI (k / 64)).toNatClampNeg (mL M q (nI (k / 64)).toNatClampNeg ||| ((1 : Int64) <<< (((nI k &&& (63 : Int32))).toInt64 &&& 63)))⟩
  rw [f_X1_add, chk_t f.1.1, f.1.2.1, bnd_e, chk_t f.1.2.2.1, sh6 hk, bnd_e, f.1.2.2.2, chk_t (inB_n (by omega) (by decide)), chk_t (inB_n (by omega) (by decide)), bnd_e]
theorem F1.hv (f : F1 M o q N) (h16 : N ≤ 16) {k : Nat} (hk : k < us6 N) {a : Int32} (ha : a = -1 ∨ ∃ v, v < 16 ∧ a = nI v) : ∃ r, f_X1_having o (nI k) a M = some r := by
  have u := us_b h16
  have ib : inB (nI k) 1024 := inB_n (by omega) (by decide)
  rcases ha with rfl | ⟨v, hv, rfl⟩
  · exact ⟨_, by rw [f_X1_having, if_neg (show ¬ (0 : Int32) ≤ -1 by decide), chk_t f.1.1, f.1.2.1, bnd_e, chk_t f.1.2.2.1, f.1.2.2.2, chk_t ib]⟩
  · rw [f_X1_having, if_pos (show (0 : Int32) ≤ nI v from nI_le (a := 0) (Nat.zero_le _) (by omega))]
    by_cases c : 6 ≤ v
    · rw [if_pos (show (6 : Int32) ≤ nI v from nI_le (a := 6) c (by omega))]
      split
      · exact ⟨_, rfl⟩
      · exact ⟨_, by rw [chk_t f.1.1, f.1.2.1, bnd_e, chk_t f.1.2.2.1, f.1.2.2.2, chk_t ib]⟩
    · rw [if_neg (show ¬ (6 : Int32) ≤ nI v from nI_ge (b := 6) (by omega) (by decide))]
      exact ⟨_, by rw [chk_t f.1.1, f.1.2.1, bnd_e, chk_t f.1.2.2.1, f.1.2.2.2, chk_t ib, chk_t (inB_n (show v < 6 by omega) (by decide))]⟩
theorem wr71 (f : F1 M o q N) (n : Nat) (x : Int64) : ∃ r, f_X1_withoutRest_71 M n o x = some r := by
  rw [f_X1_withoutRest_71, chk_t f.1.1]
  split
  · exact ⟨_, rfl⟩
  · exact ⟨_, rfl⟩
theorem wr17 (f : F1 M o q N) : ∀ (d i n : Nat) (x : Int64), i + d = 6 → d + 1 ≤ n → ∃ r, f_X1_withoutRest_17 M n o x (nI i) = some r := by
  intro d
  induction d with
  | zero =>
    intro i n x hi hn
    obtain ⟨n, rfl⟩ : ∃ m, n = m + 1 := ⟨n - 1, by omega⟩
    rw [f_X1_withoutRest_17, if_pos (show (6 : Int32) ≤ nI i from nI_le (a := 6) (by omega) (by omega))]
    exact wr71 f n x
  | succ d ih =>
    intro i n x hi hn
    obtain ⟨n, rfl⟩ : ∃ m, n = m + 1 := ⟨n - 1, by omega⟩
    rw [f_X1_withoutRest_17, if_neg (show ¬ (6 : Int32) ≤ nI i from nI_ge (b := 6) (by omega) (by decide)), chk_t f.1.1]
    split
    · exact wr71 f n x
    · rw [chk_t (inB_n (show i < 6 by omega) (by decide)), chk_t (inB_n (show i < 6 by omega) (by decide)), bnd_e, bnd_e, nI_1]
      exact ih (i + 1) n _ (by omega) (by omega)
theorem F1.wr (f : F1 M o q N) (h16 : N ≤ 16) {k n : Nat} (hk : k < us6 N) (hn : 10 ≤ n) : ∃ r, f_X1_withoutRest n o (nI k) M = some r := by
  have u := us_b h16
  obtain ⟨r, e⟩ := wr17 f 6 0 n (mL M q (nI (us6 N - 1 - k)).toNatClampNeg) rfl (by omega)
  refine ⟨r, ?_⟩
  rw [f_X1_withoutRest, chk_t f.1.1, f.1.2.1, bnd_e, chk_t f.1.2.2.1, f.2.2, nI_m1' u.1, nI_sb (by omega), f.1.2.2.2, chk_t (inB_n (by omega) (by decide)), bnd_e]
  exact e
theorem F1.tb (f : F1 M o q N) (h16 : N ≤ 16) {v : Nat} (hv : v < 16) : ∀ (d i n : Nat) (c : Int32), i + d = us6 N → d + 1 ≤ n → ∃ r, f_X1_turnedBy_4 M n o (nI v) c (nI i) = some r := by
  have u := us_b h16
  intro d
  induction d with
  | zero =>
    intro i n c hi hn
    obtain ⟨n, rfl⟩ : ∃ m, n = m + 1 := ⟨n - 1, by omega⟩
    exact ⟨c, by rw [f_X1_turnedBy_4, chk_t f.1.1, f.2.2, if_pos (nI_le (by omega) (by omega))]⟩
  | succ d ih =>
    intro i n c hi hn
    obtain ⟨n, rfl⟩ : ∃ m, n = m + 1 := ⟨n - 1, by omega⟩
    obtain ⟨x, ex⟩ := f.hv h16 (k := i) (by omega) (Or.inr ⟨v, hv, rfl⟩)
    obtain ⟨y, ey⟩ := j13 x M
    obtain ⟨z, ez⟩ := j13 (mL M q (nI i).toNatClampNeg) M
    rw [f_X1_turnedBy_4, chk_t f.1.1, f.2.2, if_neg (nI_ge (by omega) (by omega)), ex, obd_s, ey, obd_s, f.1.2.1, bnd_e, chk_t f.1.2.2.1, f.1.2.2.2, chk_t (inB_n (by omega) (by decide)), ez, obd_s, bnd_e, bnd_e, nI_1]
    exact ih (i + 1) n _ (by omega) (by omega)
theorem F1.lb (f : F1 M o q N) (h16 : N ≤ 16) : ∀ (d i n : Nat), i + d = us6 N → d + 20 ≤ n → ∃ r, f_X1_leastBetter_2 M n o (nI i) = some r := by
  have u := us_b h16
  intro d
  induction d with
  | zero =>
    intro i n hi hn
    obtain ⟨n, rfl⟩ : ∃ m, n = m + 1 := ⟨n - 1, by omega⟩
    exact ⟨-1, by rw [f_X1_leastBetter_2, chk_t f.1.1, f.2.2, if_pos (nI_le (by omega) (by omega))]⟩
  | succ d ih =>
    intro i n hi hn
    obtain ⟨n, rfl⟩ : ∃ m, n = m + 1 := ⟨n - 1, by omega⟩
    obtain ⟨x, ex⟩ := f.wr h16 (k := i) (n := n) (by omega) (by omega)
    rw [f_X1_leastBetter_2, chk_t f.1.1, f.2.2, if_neg (nI_ge (by omega) (by omega)), f.1.2.1, bnd_e, chk_t f.1.2.2.1, f.1.2.2.2, chk_t (inB_n (by omega) (by decide)), ex, obd_s, bnd_e]
    split
    · rw [bnd_e, nI_1]; exact ih (i + 1) n (by omega) (by omega)
    · obtain ⟨y, ey⟩ := low_ex ((mL M q (nI i).toNatClampNeg ^^^ (-1 : Int64)) &&& x) M
      exact ⟨_, by rw [ey, obd_s]⟩
theorem ls25 {K : Nat → Int32 → Int32 → Int32 → Option Int32} {i : Nat} {x : Int64} (hK : ∀ v1 v2, ∃ r, K o v1 v2 (nI (i + 1)) = some r) : ∀ (d j n : Nat) (v1 v2 : Int32), j + d = 7 → d + 1 ≤ n → ∃ r, f_X1_leastStop_25 K M n o v1 v2 (nI i) x (nI j) = some r := by
  intro d
  induction d with
  | zero =>
    intro j n v1 v2 hj hn
    obtain ⟨n, rfl⟩ : ∃ m, n = m + 1 := ⟨n - 1, by omega⟩
    rw [f_X1_leastStop_25, if_pos (show (6 : Int32) < nI j from nI_lt (a := 6) (by omega) (by omega)), bnd_e, nI_1]
    exact hK v1 v2
  | succ d ih =>
    intro j n v1 v2 hj hn
    obtain ⟨n, rfl⟩ : ∃ m, n = m + 1 := ⟨n - 1, by omega⟩
    obtain ⟨y, ey⟩ := j6 (nI i) M
    rw [f_X1_leastStop_25, if_neg (show ¬ (6 : Int32) < nI j from nI_nl (a := 6) (by omega) (by decide)), ey, obd_s, bnd_e]
    split
    · rw [bnd_e, nI_1]; exact ih (j + 1) n _ _ (by omega) (by omega)
    · rw [chk_t (inB_n (show j < 7 by omega) (by decide))]
      split
      · rw [bnd_e, nI_1]; exact ih (j + 1) n _ _ (by omega) (by omega)
      · obtain ⟨z, ez⟩ := low_ex (x &&& l_OS (nI j).toNatClampNeg) M
        rw [chk_t (inB_n (show j < 7 by omega) (by decide)), ez, obd_s, bnd_e, bnd_e, nI_1]
        exact ih (j + 1) n _ _ (by omega) (by omega)
theorem F1.ls (f : F1 M o q N) (h16 : N ≤ 16) : ∀ (d i n : Nat) (v1 v2 : Int32), i + d = us6 N → d + 20 ≤ n → ∃ r, f_X1_leastStop_7 M n o v1 v2 (nI i) = some r := by
  have u := us_b h16
  intro d
  induction d with
  | zero =>
    intro i n v1 v2 hi hn
    obtain ⟨n, rfl⟩ : ∃ m, n = m + 1 := ⟨n - 1, by omega⟩
    exact ⟨v1, by rw [f_X1_leastStop_7, chk_t f.1.1, f.2.2, if_pos (nI_le (by omega) (by omega))]⟩
  | succ d ih =>
    intro i n v1 v2 hi hn
    obtain ⟨n, rfl⟩ : ∃ m, n = m + 1 := ⟨n - 1, by omega⟩
    obtain ⟨x, ex⟩ := f.wr h16 (k := i) (n := n) (by omega) (by omega)
    rw [f_X1_leastStop_7, chk_t f.1.1, f.2.2, if_neg (nI_ge (by omega) (by omega)), ex, obd_s]
    exact ls25 (fun v1 v2 => ih (i + 1) n v1 v2 (by omega) (by omega)) 7 0 n v1 v2 rfl (by omega)
theorem wg26 {K : Nat → Int32 → Nat → Int64 → Int32 → Option Int64} {i w : Nat} {a : Int32} (hi : i < 1024) (hw : isO M 101 w) (hl : mLn M w = 17) (hK : ∀ c, ∃ r, K o a w c (nI (i + 1)) = some r) : ∀ (d j n : Nat) (c x : Int64), j + d = 7 → d + 1 ≤ n → ∃ r, f_X1_weigh_26 K M n o a w c (nI i) x (nI j) = some r := by
  have b16 : ∀ i', 16 ≤ i' → i' < 32 → bt (nI i) i' = false := bt_hk (j := 16) (by omega)
  have pl := pc_lj (x := nI i) (j := 10) (by decide) (bt_hk (j := 10) (by omega))
  intro d
  induction d with
  | zero =>
    intro j n c x hj hn
    obtain ⟨n, rfl⟩ : ∃ m, n = m + 1 := ⟨n - 1, by omega⟩
    rw [f_X1_weigh_26, if_pos (show (6 : Int32) < nI j from nI_lt (a := 6) (by omega) (by omega)), bnd_e, nI_1]
    exact hK c
  | succ d ih =>
    intro j n c x hj hn
    obtain ⟨n, rfl⟩ : ∃ m, n = m + 1 := ⟨n - 1, by omega⟩
    rw [f_X1_weigh_26, if_neg (show ¬ (6 : Int32) < nI j from nI_nl (a := 6) (by omega) (by decide))]
    split
    · rw [bnd_e, nI_1]; exact hK c
    · obtain ⟨y, ey⟩ := j13 (x &&& l_OS (nI j).toNatClampNeg) M
      rw [chk_t (inB_n (show j < 7 by omega) (by decide)), ey, obd_s, f_bcx b16 M, obd_s, chk_t hw, nI_add, hl, chk_t (inB_n (by omega) (by decide)), bnd_e, bnd_e, nI_1]
      exact ih (j + 1) n _ _ (by omega) (by omega)
theorem F1.wg (f : F1 M o q N) (h16 : N ≤ 16) {w : Nat} {a : Int32} (ha : a = -1 ∨ ∃ v, v < 16 ∧ a = nI v) (hw : isO M 101 w) (hl : mLn M w = 17) : ∀ (d i n : Nat) (c : Int64), i + d = us6 N → d + 20 ≤ n → ∃ r, f_X1_weigh_5 M n o a w c (nI i) = some r := by
  have u := us_b h16
  intro d
  induction d with
  | zero =>
    intro i n c hi hn
    obtain ⟨n, rfl⟩ : ∃ m, n = m + 1 := ⟨n - 1, by omega⟩
    exact ⟨c, by rw [f_X1_weigh_5, chk_t f.1.1, f.2.2, if_pos (nI_le (by omega) (by omega))]⟩
  | succ d ih =>
    intro i n c hi hn
    obtain ⟨n, rfl⟩ : ∃ m, n = m + 1 := ⟨n - 1, by omega⟩
    obtain ⟨x, ex⟩ := f.hv h16 (k := i) (by omega) ha
    rw [f_X1_weigh_5, chk_t f.1.1, f.2.2, if_neg (nI_ge (by omega) (by omega)), ex, obd_s]
    exact wg26 (by omega) hw hl (fun c => ih (i + 1) n c (by omega) (by omega)) 7 0 n c x rfl (by omega)
end
theorem p8_ex (M : Mem) (a e : Int32) (K : Nat) (he : e ≤ nI K) (hK : K < 1000) : ∀ (d i n : Nat) (c : Int64), i + d = K → d + 1 ≤ n → ∃ r, f_X8_power_5 M n a e c (nI i) = some r := by
  intro d
  induction d with
  | zero =>
    intro i n c hi hn
    obtain ⟨n, rfl⟩ : ∃ m, n = m + 1 := ⟨n - 1, by omega⟩
    exact ⟨c, by rw [f_X8_power_5, if_pos (by rw [show i = K by omega]; exact he)]⟩
  | succ d ih =>
    intro i n c hi hn
    obtain ⟨n, rfl⟩ : ∃ m, n = m + 1 := ⟨n - 1, by omega⟩
    by_cases z : e ≤ nI i
    · exact ⟨c, by rw [f_X8_power_5, if_pos z]⟩
    · rw [f_X8_power_5, if_neg z, bnd_e, bnd_e, nI_1]
      exact ih (i + 1) n _ (by omega) (by omega)
theorem p8 (M : Mem) (a : Int32) {k n : Nat} (hk : k ≤ 16) (hn : 20 ≤ n) : ∃ r, f_X8_power n a (nI k) M = some r :=
  p8_ex M a (nI k) 16 (nI_le hk (by decide)) (by decide) 16 0 n 1 rfl (by omega)
/-- the survey's shapes -/
def W5 (M : Mem) : Prop := (isO M 8 5 ∧ isO M 1 6 ∧ isO M 101 7 ∧ isO M 1 8 ∧ isO M 101 9 ∧ isO M 101 10 ∧ isO M 100 11 ∧ isO M 100 12 ∧ isO M 100 13) ∧ (mR M 5 0 = 6 ∧ mR M 5 1 = 8 ∧ mR M 5 2 = 10 ∧ mR M 5 3 = 11 ∧ mR M 5 4 = 12 ∧ mR M 5 5 = 13 ∧ mR M 6 0 = 7 ∧ mR M 8 0 = 9) ∧ (mLn M 7 = 1024 ∧ mLn M 9 = 1024 ∧ mLn M 10 = 17 ∧ mLn M 11 = 305 ∧ mLn M 12 = 16 ∧ mLn M 13 = 16)
theorem W5.e {M M' : Mem} (h : W5 M) (e : M'.1 = M.1) : W5 M' := by
  unfold W5 isO mN mC mR mLn at *
  rw [e]; exact h
theorem m8_l {N : Nat} (h16 : N ≤ 16) {a v2 : Int32} (ha : a = -1 ∨ ∃ v, v < 16 ∧ a = nI v) : ∀ (d i n : Nat) (M : Mem), i + d = N + 1 → W5 M → F1 M 8 9 N → d + 1100 ≤ n → ∃ x M', f_X8_millionths_3 n 5 a v2 (nI N) (nI i) M = some (x, M') ∧ FrLg M M' := by
  have u := us_b h16
  intro d
  induction d with
  | zero =>
    intro i n M hi w f hn
    obtain ⟨n, rfl⟩ : ∃ m, n = m + 1 := ⟨n - 1, by omega⟩
    obtain ⟨⟨w1, w2, w3, w4, w5, w6, w7, w8, w9⟩, ⟨y1, y2, y3, y4, y5, y6, y7, y8⟩, ⟨z1, z2, z3, z4, z5, z6⟩⟩ := w
    obtain ⟨x, ex⟩ := f.wg h16 ha w6 z3 (us6 N) 0 n 0 (by omega) (by omega)
    have ex' : f_X1_weigh n 8 a 10 M = some x := ex
    rw [f_X8_millionths_3, if_pos (nI_lt (by omega) (by omega)), chk_t w1, y2, bnd_e, chk_t w4, y3, bnd_e, chk_t w6, ex', obd_s]
    by_cases c : 6 ≤ N
    · obtain ⟨p, ep⟩ := p8 M (10 : Int32) (k := N - 6) (n := n) (by omega) (by omega)
      have nz : ¬ (if p < (1 : Int64) then (1 : Int64) else p) = 0 := by
        by_cases z : p < (1 : Int64)
        · rw [if_pos z]; decide
        · rw [if_neg z]
          intro h
          rw [h] at z
          exact z (by decide)
      exact ⟨_, M, by rw [if_pos (show (6 : Int32) ≤ nI N from nI_le (a := 6) c (by omega)), show nI N - (6 : Int32) = nI (N - 6) by rw [show (6 : Int32) = nI 6 from rfl, nI_sb c], ep, obd_s, chk_t nz], FrLg.rf M⟩
    · obtain ⟨p, ep⟩ := p8 M (10 : Int32) (k := 6 - N) (n := n) (by omega) (by omega)
      exact ⟨_, M, by rw [if_neg (show ¬ (6 : Int32) ≤ nI N from nI_ge (b := 6) (by omega) (by decide)), show (6 : Int32) - nI N = nI (6 - N) by rw [show (6 : Int32) = nI 6 from rfl, nI_sb (by omega)], ep, obd_s], FrLg.rf M⟩
  | succ d ih =>
    intro i n M hi w f hn
    obtain ⟨n, rfl⟩ : ∃ m, n = m + 1 := ⟨n - 1, by omega⟩
    obtain ⟨⟨w1, w2, w3, w4, w5, w6, w7, w8, w9⟩, ⟨y1, y2, y3, y4, y5, y6, y7, y8⟩, ⟨z1, z2, z3, z4, z5, z6⟩⟩ := id w
    obtain ⟨p, ep⟩ := p8 M ((10 : Int32) - v2) (k := i) (n := n) (by omega) (by omega)
    obtain ⟨p', ep'⟩ := p8 M v2 (k := N - i) (n := n) (by omega) (by omega)
    have fl := FrLg.s M 10 (nI i).toNatClampNeg (p * p')
    obtain ⟨x, M', e', f'⟩ := ih (i + 1) n (sL M 10 (nI i).toNatClampNeg (p * p')) (by omega) (w.e rfl) (f.l fl) (by omega)
    exact ⟨x, M', by rw [f_X8_millionths_3, if_neg (nI_nl (by omega) (by omega)), chk_t w1, y3, bnd_e, chk_t w6, ep, obd_s, nI_sb (by omega), ep', obd_s, z3, chk_t (inB_n (by omega) (by decide)), bnd_e, bnd_e, nI_1]; exact e', fl.tr f'⟩
