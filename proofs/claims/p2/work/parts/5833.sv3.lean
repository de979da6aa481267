/-! ===== what is none of the family's, of the rest ===== -/
theorem sva_k : ∀ N, N < 6 → ∀ i, i < 64 → qb (((1 : Int64) <<< ((((1 : Int32) <<< (nI N &&& 31))).toInt64 &&& 63)) - (1 : Int64)) i = decide (i < 2 ^ N) := by decide +kernel
/-- a word's places, the first v nodes turned round -/
def rv (v i : Nat) : Nat := i ^^^ (2 ^ v - 1)
theorem rv_lt {v i : Nat} (hv : v ≤ 6) (hi : i < 64) : rv v i < 64 := by
  have h1 : 2 ^ v ≤ 2 ^ 6 := Nat.pow_le_pow_right (by decide) hv
  have h2 : 0 < 2 ^ v := Nat.two_pow_pos v
  exact Nat.xor_lt_two_pow (n := 6) hi (by omega)
theorem rv_s : ∀ v, v < 6 → ∀ i, i < 64 → rv v (i ^^^ 2 ^ v) = rv (v + 1) i := by decide +kernel
theorem rv_x : ∀ v, v < 6 → ∀ i, i < 64 → i ^^^ 2 ^ v < 64 := by decide +kernel
theorem rv_6 : ∀ i, i < 64 → rv 6 i = 63 - i := by decide +kernel
theorem rv_N : ∀ N, N < 6 → ∀ i, i < 64 → i < 2 ^ N → rv N i = 2 ^ N - 1 - i := by decide +kernel
theorem us_64 {N : Nat} (h : 6 ≤ N) : 64 * us6 N = 2 ^ N := by
  unfold us6
  by_cases c : 6 < N
  · rw [if_pos c, show (64 : Nat) = 2 ^ 6 from rfl, ← Nat.pow_add, show 6 + (N - 6) = N by omega]
  · rw [if_neg c, show N = 6 by omega]
theorem us_1 {N : Nat} (h : N ≤ 6) : us6 N = 1 := by
  unfold us6
  exact if_neg (by omega)
section
variable {M : Mem} {o q N : Nat}
theorem wr71v (f : F1 M o q N) (h16 : N ≤ 16) (n : Nat) (x : Int64) : ∃ r, f_X1_withoutRest_71 M n o x = some r ∧ ∀ i, i < 64 → qb r i = (decide (6 ≤ N ∨ i < 2 ^ N) && !qb x i) := by
  rw [f_X1_withoutRest_71, chk_t f.1.1, f.2.1]
  by_cases c : 6 ≤ N
  · refine ⟨_, if_pos (show (6 : Int32) ≤ nI N from nI_le (a := 6) c (by omega)), fun i hi => ?_⟩
    rw [qb_and, qb_not _ hi, qb_m1 i hi, decide_eq_true (Or.inl c)]
  · refine ⟨_, by rw [if_neg (show ¬ (6 : Int32) ≤ nI N from nI_ge (b := 6) (by omega) (by decide)), bnd_e], fun i hi => ?_⟩
    rw [qb_and, qb_not _ hi, sva_k N (by omega) i hi]
    congr 1
    by_cases d : i < 2 ^ N
    · rw [decide_eq_true d, decide_eq_true (Or.inr d)]
    · rw [decide_eq_false d, decide_eq_false (fun z => z.elim c d)]
theorem wr17v (f : F1 M o q N) (h16 : N ≤ 16) (x0 : Int64) : ∀ (d i n : Nat) (x : Int64), i + d = 6 → i ≤ N → (∀ j, j < 64 → qb x j = qb x0 (rv i j)) → d + 1 ≤ n → ∃ r, f_X1_withoutRest_17 M n o x (nI i) = some r ∧ ∀ j, j < 64 → qb r j = (decide (6 ≤ N ∨ j < 2 ^ N) && !qb x0 (rv (min 6 N) j)) := by
  intro d
  induction d with
  | zero =>
    intro i n x hi hN hx hn
    obtain ⟨n, rfl⟩ : ∃ m, n = m + 1 := ⟨n - 1, by omega⟩
    obtain ⟨r, e, h⟩ := wr71v f h16 n x
    refine ⟨r, by rw [f_X1_withoutRest_17, if_pos (show (6 : Int32) ≤ nI i from nI_le (a := 6) (by omega) (by omega))]; exact e, fun j hj => ?_⟩
    rw [h j hj, hx j hj, show min 6 N = i by omega]
  | succ d ih =>
    intro i n x hi hN hx hn
    obtain ⟨n, rfl⟩ : ∃ m, n = m + 1 := ⟨n - 1, by omega⟩
    rw [f_X1_withoutRest_17, if_neg (show ¬ (6 : Int32) ≤ nI i from nI_ge (b := 6) (by omega) (by decide)), chk_t f.1.1, f.2.1]
    by_cases c : N ≤ i
    · obtain ⟨r, e, h⟩ := wr71v f h16 n x
      refine ⟨r, by rw [if_pos (nI_le c (by omega))]; exact e, fun j hj => ?_⟩
      rw [h j hj, hx j hj, show min 6 N = i by omega]
    · rw [if_neg (nI_ge (by omega) (by omega)), chk_t (inB_n (show i < 6 by omega) (by decide)), chk_t (inB_n (show i < 6 by omega) (by decide)), bnd_e, bnd_e, nI_1, nI_clamp (show i < 2 ^ 31 by omega)]
      exact ih (i + 1) n (sww i x) (by omega) (by omega) (fun j hj => by rw [sww_b (by omega) x hj, hx _ (rv_x i (by omega) j hj), rv_s i (by omega) j hj]) (by omega)
theorem F1.wrv (f : F1 M o q N) (h16 : N ≤ 16) {k n : Nat} (hk : k < us6 N) (hn : 10 ≤ n) : ∃ r, f_X1_withoutRest n o (nI k) M = some r ∧ ∀ i, i < 64 → qb r i = (decide (64 * k + i < 2 ^ N) && !fb (mL M q) (2 ^ N - 1 - (64 * k + i))) := by
  have u := us_b h16
  obtain ⟨r, e, h⟩ := wr17v f h16 (mL M q (us6 N - 1 - k)) 6 0 n (mL M q (us6 N - 1 - k)) rfl (Nat.zero_le _) (fun j _ => by unfold rv; simp) (by omega)
  refine ⟨r, ?_, fun i hi => ?_⟩
  · rw [f_X1_withoutRest, chk_t f.1.1, f.1.2.1, bnd_e, chk_t f.1.2.2.1, f.2.2, nI_m1' u.1, nI_sb (by omega), f.1.2.2.2, chk_t (inB_n (by omega) (by decide)), mL_c (by omega), bnd_e]
    exact e
  · rw [h i hi]
    by_cases c : 6 ≤ N
    · have e6 := us_64 c
      have lt : 64 * k + i < 2 ^ N := by omega
      have h1 : (2 ^ N - 1 - (64 * k + i)) / 64 = us6 N - 1 - k := by omega
      have h2 : (2 ^ N - 1 - (64 * k + i)) % 64 = 63 - i := by omega
      rw [decide_eq_true (Or.inl c), decide_eq_true lt, show min 6 N = 6 by omega, rv_6 i hi]
      unfold fb
      rw [h1, h2]
    · have e1 := us_1 (show N ≤ 6 by omega)
      have k0 : k = 0 := by omega
      have p6 : 2 ^ N ≤ 2 ^ 6 := Nat.pow_le_pow_right (by decide) (by omega)
      rw [e1, k0]
      by_cases d : i < 2 ^ N
      · rw [decide_eq_true (Or.inr d), decide_eq_true (show 64 * 0 + i < 2 ^ N by omega), show min 6 N = N by omega, rv_N N (by omega) i hi d]
        unfold fb
        rw [show (2 ^ N - 1 - (64 * 0 + i)) / 64 = 0 by omega, show (2 ^ N - 1 - (64 * 0 + i)) % 64 = 2 ^ N - 1 - i by omega]
      · rw [decide_eq_false (fun z => z.elim c d), decide_eq_false (show ¬ 64 * 0 + i < 2 ^ N by omega)]; rfl
end
/-! ===== the lowest bit ===== -/
theorem low_bk : ∀ k, k < 64 → f_J13_bitCount_95d88 (Int64.ofNat (2 ^ k) - (1 : Int64)) memE = some (nI k) := by decide +kernel
theorem qb_N (x : Int64) (i : Nat) : qb x i = x.toBitVec.toNat.testBit i := rfl
/-- the least bit of a word that isn't empty -/
theorem f_lowx {x : Int64} (h : ∃ i, i < 64 ∧ qb x i = true) (M : Mem) : ∃ k, k < 64 ∧ f_X9_lowest x M = some (nI k) ∧ qb x k = true ∧ ∀ i, i < k → qb x i = false := by
  have hm : x.toBitVec.toNat ≠ 0 := fun z => by
    obtain ⟨i, _, hb⟩ := h
    rw [qb_N, z, Nat.zero_testBit] at hb
    cases hb
  have lt : x.toBitVec.toNat < 2 ^ 64 := x.toBitVec.isLt
  obtain ⟨k, q, e⟩ := low_dec _ hm
  have hp : 0 < 2 ^ k := Nat.two_pow_pos k
  have h2 : 2 ^ k ≤ 2 ^ k * (2 * q + 1) := Nat.le_mul_of_pos_right _ (by omega)
  have hk : k < 64 := by
    apply Decidable.byContradiction
    intro c
    have h1 : 2 ^ 64 ≤ 2 ^ k := Nat.pow_le_pow_right (by decide) (by omega)
    omega
  have e2 : x &&& -x = Int64.ofNat (2 ^ k) := by
    apply Int64.toBitVec_inj.mp
    rw [Int64.toBitVec_and, Int64.toBitVec_neg, show (Int64.ofNat (2 ^ k)).toBitVec = BitVec.ofNat 64 (2 ^ k) from rfl]
    apply BitVec.eq_of_toNat_eq
    rw [BitVec.toNat_and, BitVec.toNat_neg, BitVec.toNat_ofNat, Nat.mod_eq_of_lt (show 2 ^ 64 - x.toBitVec.toNat < 2 ^ 64 by omega), Nat.mod_eq_of_lt (show 2 ^ k < 2 ^ 64 by omega), e]
    exact low_and (by omega)
  have ne : ¬ lg_cmp x (0 : Int64) = 0 := by
    intro c
    unfold lg_cmp at c
    have z : x = 0 := by
      by_cases c1 : x > 0
      · rw [if_pos c1] at c; exact absurd c (by decide)
      · by_cases c2 : x = 0
        · exact c2
        · rw [if_neg c1, if_neg c2] at c; exact absurd c (by decide)
    exact hm (by rw [z]; rfl)
  refine ⟨k, hk, ?_, ?_, fun i hi => ?_⟩
  · rw [f_X9_lowest, if_neg ne, e2, show f_J13_bitCount_95d88 (Int64.ofNat (2 ^ k) - (1 : Int64)) M = some (nI k) from low_bk k hk, obd_s]
  · rw [qb_N, e, Nat.testBit_two_pow_mul, Nat.sub_self, Nat.testBit_zero, decide_eq_true (show k ≥ k by omega), decide_eq_true (show (2 * q + 1) % 2 = 1 by omega)]
    rfl
  · rw [qb_N, e, Nat.testBit_two_pow_mul, decide_eq_false (show ¬ i ≥ k by omega), Bool.false_and]
/-- a word is empty -/
theorem lg_z (x : Int64) : lg_cmp x (0 : Int64) = 0 ↔ ∀ i, i < 64 → qb x i = false := by
  constructor
  · intro c i hi
    have z : x = 0 := by
      unfold lg_cmp at c
      by_cases c1 : x > 0
      · rw [if_pos c1] at c; exact absurd c (by decide)
      · by_cases c2 : x = 0
        · exact c2
        · rw [if_neg c1, if_neg c2] at c; exact absurd c (by decide)
    rw [z, qb_0]
  · intro h
    have z : x = 0 := qb_ext (fun i hi => by rw [h i hi, qb_0])
    rw [z]
    rfl
