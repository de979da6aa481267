/-! ===== long bits ===== -/
theorem qb_ext {x y : Int64} (h : ∀ i, i < 64 → qb x i = qb y i) : x = y := Int64.toBitVec_inj.mp (BitVec.eq_of_getLsbD_eq (fun i hi => h i hi))
theorem qb_or (x y : Int64) (i : Nat) : qb (x ||| y) i = (qb x i || qb y i) := by unfold qb; rw [Int64.toBitVec_or, BitVec.getLsbD_or]
theorem qb_and (x y : Int64) (i : Nat) : qb (x &&& y) i = (qb x i && qb y i) := by unfold qb; rw [Int64.toBitVec_and, BitVec.getLsbD_and]
theorem qb_xor (x y : Int64) (i : Nat) : qb (x ^^^ y) i = (qb x i ^^ qb y i) := by unfold qb; rw [Int64.toBitVec_xor, BitVec.getLsbD_xor]
theorem qb_m1 : ∀ i, i < 64 → qb (-1) i = true := by decide +kernel
theorem qb_0 (i : Nat) : qb 0 i = false := BitVec.getLsbD_zero
theorem qb_big {x : Int64} {i : Nat} (h : 64 ≤ i) : qb x i = false := BitVec.getLsbD_of_ge _ _ h
theorem qb_not (x : Int64) {i : Nat} (hi : i < 64) : qb (x ^^^ (-1 : Int64)) i = !qb x i := by
  rw [qb_xor, qb_m1 i hi]; simp
theorem qsl_k : ∀ v, v < 6 → ((((((1 : Int32) <<< (nI v &&& 31))).toInt64 &&& 63)).toBitVec.smod 64).toNat = 2 ^ v := by decide +kernel
theorem qsr_k : ∀ v, v < 6 → ((((((1 : Int32) <<< (nI v &&& 31))).toInt64.toUInt64 &&& Int64.toUInt64 63)).toBitVec % 64).toNat = 2 ^ v := by decide +kernel
theorem qb_shl {v : Nat} (hv : v < 6) (x : Int64) {i : Nat} (hi : i < 64) : qb (x <<< ((((1 : Int32) <<< (nI v &&& 31))).toInt64 &&& 63)) i = (decide (2 ^ v ≤ i) && qb x (i - 2 ^ v)) := by
  unfold qb
  rw [Int64.toBitVec_shiftLeft]
  show (x.toBitVec <<< ((((((1 : Int32) <<< (nI v &&& 31))).toInt64 &&& 63)).toBitVec.smod 64).toNat).getLsbD i = _
  rw [qsl_k v hv, BitVec.getLsbD_shiftLeft]
  rcases Nat.lt_or_ge i (2 ^ v) with h | h
  · simp [h, Nat.not_le.mpr h]
  · simp [hi, h, Nat.not_lt.mpr h]
theorem qb_ushr {v : Nat} (hv : v < 6) (x : Int64) (i : Nat) : qb ((x.toUInt64 >>> ((((1 : Int32) <<< (nI v &&& 31))).toInt64.toUInt64 &&& Int64.toUInt64 63)).toInt64) i = qb x (2 ^ v + i) := by
  unfold qb
  have e : (x.toUInt64 >>> ((((1 : Int32) <<< (nI v &&& 31))).toInt64.toUInt64 &&& Int64.toUInt64 63)).toInt64.toBitVec = x.toBitVec >>> ((((((1 : Int32) <<< (nI v &&& 31))).toInt64.toUInt64 &&& Int64.toUInt64 63)).toBitVec % 64).toNat := rfl
  rw [e, qsr_k v hv, BitVec.getLsbD_ushiftRight]
theorem hv_k : ∀ v, v < 6 → ∀ i, i < 64 → qb (l_HV v) i = i.testBit v := by decide +kernel
def pcw (m : Nat) : Nat := m % 2 + (m / 2 % 2 + (m / 4 % 2 + (m / 8 % 2 + (m / 16 % 2 + m / 32 % 2))))
theorem os_k : ∀ j, j < 7 → ∀ i, i < 64 → qb (l_OS j) i = decide (pcw i = j) := by decide +kernel
theorem pcw_6 : ∀ i, i < 64 → pcw i ≤ 6 := by decide +kernel
theorem ix_k : ∀ v, v < 6 → ∀ i, i < 64 → (if i.testBit v then decide (2 ^ v ≤ i) && (!(i - 2 ^ v).testBit v && (decide (i - 2 ^ v = i ^^^ 2 ^ v) && (decide (64 ≤ 2 ^ v + i) || !(2 ^ v + i).testBit v))) else (decide (2 ^ v + i = i ^^^ 2 ^ v) && (decide (2 ^ v + i < 64) && ((2 ^ v + i).testBit v && (decide (i < 2 ^ v) || (i - 2 ^ v).testBit v))))) = true := by decide +kernel
/-- a node that is let in, within a word -/
def stw (v : Nat) (x : Int64) : Int64 := x ||| ((x &&& (l_HV v ^^^ (-1 : Int64))) <<< ((((1 : Int32) <<< (nI v &&& 31))).toInt64 &&& 63))
theorem stw_b {v : Nat} (hv : v < 6) (x : Int64) {i : Nat} (hi : i < 64) : qb (stw v x) i = (qb x i || (i.testBit v && qb x (i ^^^ 2 ^ v))) := by
  have k := ix_k v hv i hi
  have p0 := Nat.two_pow_pos v
  unfold stw
  rw [qb_or, qb_shl hv _ hi]
  cases h : i.testBit v
  · rw [h] at k
    simp only [Bool.false_eq_true, if_false, Bool.and_eq_true, decide_eq_true_eq, Bool.or_eq_true] at k
    rcases Nat.lt_or_ge i (2 ^ v) with c | c
    · rw [decide_eq_false (show ¬ 2 ^ v ≤ i by omega)]; simp
    · rw [qb_and, qb_not _ (show i - 2 ^ v < 64 by omega), hv_k v hv _ (show i - 2 ^ v < 64 by omega), k.2.2.2.resolve_left (by omega)]; simp
  · rw [h] at k
    simp only [if_true, Bool.and_eq_true, decide_eq_true_eq, Bool.not_eq_true'] at k
    rw [qb_and, qb_not _ (show i - 2 ^ v < 64 by omega), hv_k v hv _ (show i - 2 ^ v < 64 by omega), k.2.1, k.2.2.1, decide_eq_true k.1]; simp
/-- a node's sets change places, within a word -/
def sww (v : Nat) (x : Int64) : Int64 := (((x &&& l_HV v).toUInt64 >>> ((((1 : Int32) <<< (nI v &&& 31))).toInt64.toUInt64 &&& Int64.toUInt64 63)).toInt64) ||| ((x &&& (l_HV v ^^^ (-1 : Int64))) <<< ((((1 : Int32) <<< (nI v &&& 31))).toInt64 &&& 63))
theorem sww_b {v : Nat} (hv : v < 6) (x : Int64) {i : Nat} (hi : i < 64) : qb (sww v x) i = qb x (i ^^^ 2 ^ v) := by
  have k := ix_k v hv i hi
  have p0 := Nat.two_pow_pos v
  unfold sww
  rw [qb_or, qb_ushr hv, qb_shl hv _ hi, qb_and]
  cases h : i.testBit v
  · rw [h] at k
    simp only [Bool.false_eq_true, if_false, Bool.and_eq_true, decide_eq_true_eq, Bool.or_eq_true] at k
    rw [hv_k v hv _ k.2.1, k.2.2.1, k.1, Bool.and_true]
    rcases Nat.lt_or_ge i (2 ^ v) with c | c
    · rw [decide_eq_false (show ¬ 2 ^ v ≤ i by omega)]; simp
    · rw [qb_and, qb_not _ (show i - 2 ^ v < 64 by omega), hv_k v hv _ (show i - 2 ^ v < 64 by omega), k.2.2.2.resolve_left (by omega)]; simp
  · rw [h] at k
    simp only [if_true, Bool.and_eq_true, decide_eq_true_eq, Bool.not_eq_true', Bool.or_eq_true] at k
    have z : (qb x (2 ^ v + i) && qb (l_HV v) (2 ^ v + i)) = false := by
      rcases k.2.2.2 with c | c
      · rw [qb_big (x := x) c, Bool.false_and]
      · rcases Nat.lt_or_ge (2 ^ v + i) 64 with d | d
        · rw [hv_k v hv _ d, c, Bool.and_false]
        · rw [qb_big (x := x) d, Bool.false_and]
    rw [z, qb_and, qb_not _ (show i - 2 ^ v < 64 by omega), hv_k v hv _ (show i - 2 ^ v < 64 by omega), k.2.1, k.2.2.1, decide_eq_true k.1]; simp
/-! ===== families of sets ===== -/
/-- with node v let in -/
def stp (v : Nat) (F : Nat → Bool) (X : Nat) : Bool := F X || (X.testBit v && F (X ^^^ 2 ^ v))
def upF (F : Nat → Bool) : Nat → Nat → Bool
  | 0 => F
  | v + 1 => stp v (upF F v)
theorem d64 (X i : Nat) : (X / 64).testBit i = X.testBit (6 + i) := by
  rw [show 64 = 2 ^ 6 from rfl, ← Nat.shiftRight_eq_div_pow, Nat.testBit_shiftRight]
theorem m64 (X i : Nat) : (X % 64).testBit i = (decide (i < 6) && X.testBit i) := by
  rw [show 64 = 2 ^ 6 from rfl, Nat.testBit_mod_two_pow]
theorem x_lo (X : Nat) {v : Nat} (hv : v < 6) : (X ^^^ 2 ^ v) / 64 = X / 64 ∧ (X ^^^ 2 ^ v) % 64 = (X % 64) ^^^ 2 ^ v := by
  constructor
  · apply Nat.eq_of_testBit_eq
    intro i
    rw [d64, d64, Nat.testBit_xor, Nat.testBit_two_pow, decide_eq_false (show ¬ v = 6 + i by omega), Bool.xor_false]
  · apply Nat.eq_of_testBit_eq
    intro i
    rw [m64, Nat.testBit_xor, Nat.testBit_xor, m64, Nat.testBit_two_pow]
    by_cases c : i < 6
    · rw [decide_eq_true c, Bool.true_and, Bool.true_and]
    · rw [decide_eq_false c, Bool.false_and, Bool.false_and, decide_eq_false (show ¬ v = i by omega)]; rfl
theorem x_hi (X e : Nat) : (X ^^^ 2 ^ (6 + e)) / 64 = (X / 64) ^^^ 2 ^ e ∧ (X ^^^ 2 ^ (6 + e)) % 64 = X % 64 := by
  constructor
  · apply Nat.eq_of_testBit_eq
    intro i
    rw [d64, Nat.testBit_xor, Nat.testBit_xor, d64, Nat.testBit_two_pow, Nat.testBit_two_pow]
    congr 1
    by_cases c : e = i
    · rw [decide_eq_true c, decide_eq_true (show 6 + e = 6 + i by omega)]
    · rw [decide_eq_false c, decide_eq_false (show ¬ 6 + e = 6 + i by omega)]
  · apply Nat.eq_of_testBit_eq
    intro i
    rw [m64, m64, Nat.testBit_xor, Nat.testBit_two_pow]
    by_cases c : i < 6
    · rw [decide_eq_false (show ¬ 6 + e = i by omega), Bool.xor_false]
    · rw [decide_eq_false c, Bool.false_and, Bool.false_and]
theorem fb_lo {v : Nat} (hv : v < 6) (W : Nat → Int64) (X : Nat) : fb (fun w => stw v (W w)) X = stp v (fb W) X := by
  have x := x_lo X hv
  unfold stp fb
  rw [stw_b hv _ (Nat.mod_lt _ (by decide)), x.1, x.2, m64, decide_eq_true hv, Bool.true_and]
theorem fb_hi (e : Nat) (W : Nat → Int64) (X : Nat) : fb (fun w => if w.testBit e = true then W w ||| W (w ^^^ 2 ^ e) else W w) X = stp (6 + e) (fb W) X := by
  have x := x_hi X e
  unfold stp fb
  show qb (if (X / 64).testBit e = true then W (X / 64) ||| W (X / 64 ^^^ 2 ^ e) else W (X / 64)) (X % 64) = _
  rw [x.1, x.2, d64]
  by_cases c : X.testBit (6 + e) = true
  · rw [if_pos c, qb_or, c, Bool.true_and]
  · rw [if_neg c]
    cases h : X.testBit (6 + e)
    · rw [Bool.false_and, Bool.or_false]
    · exact absurd h c
theorem upF_iff (F : Nat → Bool) : ∀ (v X : Nat), upF F v X = true ↔ ∃ Y, F Y = true ∧ (∀ i, v ≤ i → Y.testBit i = X.testBit i) ∧ ∀ i, Y.testBit i = true → X.testBit i = true := by
  intro v
  induction v with
  | zero =>
    intro X
    constructor
    · intro h; exact ⟨X, h, fun _ _ => rfl, fun _ h => h⟩
    · rintro ⟨Y, h1, h2, _⟩
      rw [← Nat.eq_of_testBit_eq (fun i => h2 i (Nat.zero_le _))]
      exact h1
  | succ v ih =>
    intro X
    show stp v (upF F v) X = true ↔ _
    unfold stp
    rw [Bool.or_eq_true, Bool.and_eq_true, ih X, ih (X ^^^ 2 ^ v)]
    have tb : ∀ i, (X ^^^ 2 ^ v).testBit i = (X.testBit i ^^ decide (v = i)) := fun i => by rw [Nat.testBit_xor, Nat.testBit_two_pow]
    constructor
    · rintro (⟨Y, h1, h2, h3⟩ | ⟨h0, Y, h1, h2, h3⟩)
      · exact ⟨Y, h1, fun i hi => h2 i (by omega), h3⟩
      · refine ⟨Y, h1, fun i hi => ?_, fun i hi => ?_⟩
        · rw [h2 i (by omega), tb, decide_eq_false (show ¬ v = i by omega), Bool.xor_false]
        · have := h3 i hi
          rw [tb] at this
          by_cases c : v = i
          · rw [← c]; exact h0
          · rw [decide_eq_false c, Bool.xor_false] at this; exact this
    · rintro ⟨Y, h1, h2, h3⟩
      by_cases c : Y.testBit v = X.testBit v
      · refine Or.inl ⟨Y, h1, fun i hi => ?_, h3⟩
        by_cases e : i = v
        · rw [e]; exact c
        · exact h2 i (by omega)
      · have yv : Y.testBit v = false := by
          cases hy : Y.testBit v
          · rfl
          · exact absurd (hy.trans (h3 v hy).symm) c
        have xv : X.testBit v = true := by
          cases hx : X.testBit v
          · exact absurd (yv.trans hx.symm) c
          · rfl
        refine Or.inr ⟨xv, Y, h1, fun i hi => ?_, fun i hi => ?_⟩
        · rw [tb]
          by_cases e : v = i
          · rw [decide_eq_true e, ← e, xv, yv]; rfl
          · rw [decide_eq_false e, Bool.xor_false]; exact h2 i (by omega)
        · have ne : ¬ v = i := fun e => by rw [← e, yv] at hi; cases hi
          rw [tb, decide_eq_false ne, Bool.xor_false]
          exact h3 i hi
