/-! ===== Int32 by its bits (the first family of kit/laws/BITS, pasted; then rows of our own) ===== -/
def bt (x : Int32) (i : Nat) : Bool := x.toBitVec.getLsbD i
theorem b_ext {x y : Int32} (h : ∀ i, i < 32 → bt x i = bt y i) : x = y := Int32.toBitVec_inj.mp (BitVec.eq_of_getLsbD_eq (fun i hi => h i hi))
theorem b_or (x y : Int32) (i : Nat) : bt (x ||| y) i = (bt x i || bt y i) := by unfold bt; rw [Int32.toBitVec_or, BitVec.getLsbD_or]
theorem b_and (x y : Int32) (i : Nat) : bt (x &&& y) i = (bt x i && bt y i) := by unfold bt; rw [Int32.toBitVec_and, BitVec.getLsbD_and]
theorem b_xor (x y : Int32) (i : Nat) : bt (x ^^^ y) i = (bt x i ^^ bt y i) := by unfold bt; rw [Int32.toBitVec_xor, BitVec.getLsbD_xor]
theorem b_big {x : Int32} {i : Nat} (h : 32 ≤ i) : bt x i = false := BitVec.getLsbD_of_ge _ _ h
theorem b_m1 : ∀ i, i < 32 → bt (-1) i = true := by decide +kernel
theorem b_0 (i : Nat) : bt 0 i = false := BitVec.getLsbD_zero
theorem s_l : ∀ n, n < 32 → ((nI n &&& 31).toBitVec.smod 32).toNat = n := by decide +kernel
theorem b_shl (n : Nat) (hn : n < 32) (x : Int32) {i : Nat} (hi : i < 32) : bt (x <<< (nI n &&& 31)) i = (decide (n ≤ i) && bt x (i - n)) := by
  unfold bt
  rw [Int32.toBitVec_shiftLeft]
  show (x.toBitVec <<< ((nI n &&& 31).toBitVec.smod 32).toNat).getLsbD i = _
  rw [s_l n hn, BitVec.getLsbD_shiftLeft]
  rcases Nat.lt_or_ge i n with h | h
  · simp [h, Nat.not_le.mpr h]
  · simp [hi, h, Nat.not_lt.mpr h]
theorem b_sshr (n : Nat) (hn : n < 32) (x : Int32) {i : Nat} (hi : i < 32) : bt (x >>> (nI n &&& 31)) i = if n + i < 32 then bt x (n + i) else bt x 31 := by
  unfold bt
  rw [Int32.toBitVec_shiftRight]
  show (x.toBitVec.sshiftRight ((nI n &&& 31).toBitVec.smod 32).toNat).getLsbD i = _
  rw [s_l n hn, BitVec.getLsbD_sshiftRight, BitVec.msb_eq_getLsbD_last]
  simp [hi]
theorem nx_and (a b : Nat) : nI a &&& nI b = nI (a &&& b) := by
  apply Int32.toBitVec_inj.1
  show BitVec.ofNat 32 a &&& BitVec.ofNat 32 b = BitVec.ofNat 32 (a &&& b)
  apply BitVec.eq_of_getLsbD_eq
  intro i hi
  simp [hi]
theorem b_1 : ∀ i, i < 32 → bt 1 i = decide (i = 0) := by decide +kernel
theorem b_one {v i : Nat} (hv : v < 32) (hi : i < 32) : bt ((1 : Int32) <<< (nI v &&& 31)) i = decide (i = v) := by
  rw [b_shl v hv 1 hi, b_1 _ (by omega)]
  by_cases h : i = v
  · subst h; simp
  · by_cases h2 : v ≤ i
    · have : ¬ i - v = 0 := by omega
      simp [h, this]
    · simp [h, h2]
theorem b_not (x : Int32) {i : Nat} (hi : i < 32) : bt (x ^^^ (-1 : Int32)) i = !bt x i := by
  rw [b_xor, b_m1 i hi]; simp
def bon (x : Int32) (v : Nat) : Int32 := x ||| ((1 : Int32) <<< (nI v &&& 31))
def bof (x : Int32) (v : Nat) : Int32 := x &&& (((1 : Int32) <<< (nI v &&& 31)) ^^^ (-1 : Int32))
theorem bt_on (x : Int32) {v i : Nat} (hv : v < 32) (hi : i < 32) : bt (bon x v) i = (bt x i || decide (i = v)) := by
  rw [bon, b_or, b_one hv hi]
theorem bt_off (x : Int32) {v i : Nat} (hv : v < 32) (hi : i < 32) : bt (bof x v) i = (bt x i && !decide (i = v)) := by
  rw [bof, b_and, b_not _ hi, b_one hv hi]
theorem bt_minus (x y : Int32) {i : Nat} (hi : i < 32) : bt (x &&& (y ^^^ (-1 : Int32))) i = (bt x i && !bt y i) := by
  rw [b_and, b_not _ hi]
theorem sh_bit (x : Int32) {v : Nat} (hv : v < 32) : ((x >>> (nI v &&& 31)) &&& (1 : Int32)) = if bt x v then 1 else 0 := by
  apply b_ext
  intro i hi
  rw [b_and, b_sshr v hv x hi, b_1 i hi]
  by_cases h : i = 0
  · subst h
    simp only [Nat.add_zero, hv, if_true, decide_true, Bool.and_true]
    cases bt x v
    · simp [b_0]
    · simp [b_1 0 (by decide)]
  · have h1 : bt 1 i = false := by rw [b_1 i hi]; simp [h]
    cases bt x v <;> simp [h, h1, b_0]
theorem ne10 : ¬ (1 : Int32) = 0 := by decide
theorem ne01 : ¬ (0 : Int32) = 1 := by decide
theorem f_has9 (x : Int32) {v : Nat} (hv : v < 32) (M : Mem) : f_X9_has x (nI v) M = some (if bt x v then 1 else 0) := by
  rw [f_X9_has, sh_bit x hv]
  cases bt x v
  · simp
  · simp [ne10]
theorem f_has10 (x : Int32) {v : Nat} (hv : v < 32) (M : Mem) : f_X10_has x (nI v) M = some (if bt x v then 1 else 0) := by
  rw [f_X10_has, sh_bit x hv]
  cases bt x v
  · simp [ne01]
  · simp
theorem f_with (x : Int32) (v : Nat) (M : Mem) : f_X10_with x (nI v) M = some (bon x v) := rfl
theorem f_without (x : Int32) (v : Nat) (M : Mem) : f_X10_without0 x (nI v) M = some (bof x v) := rfl
theorem bt_z {x : Int32} : x = 0 ↔ ∀ i, i < 32 → bt x i = false :=
  ⟨fun h i _ => by rw [h, b_0], fun h => b_ext fun i hi => by rw [h i hi, b_0]⟩
