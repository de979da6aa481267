/-! ===== Integer.bitCount, as far as it is asked whether it is less than two ===== -/
def bcn (m : Nat) : Nat :=
  (fun x1 => (fun x3 => (fun x5 => (fun x7 => (x7 + (x7 >>> 16)) &&& 63) (x5 + (x5 >>> 8))) ((x3 + (x3 >>> 4)) &&& 252645135)) ((x1 &&& 858993459) + ((x1 >>> 2) &&& 858993459))) (m - ((m >>> 1) &&& 1431655765))
def pq (m : Nat) : Nat := m % 2 + (m / 2 % 2 + (m / 4 % 2 + (m / 8 % 2 + (m / 16 % 2 + (m / 32 % 2 + (m / 64 % 2 + (m / 128 % 2 + (m / 256 % 2 + (m / 512 % 2 + (m / 1024 % 2 + (m / 2048 % 2 + (m / 4096 % 2 + (m / 8192 % 2 + (m / 16384 % 2 + m / 32768 % 2))))))))))))))
theorem by_l1 {a b k c : Nat} (ha : a < 256) (hk : k ≤ 8) (hc : c < 2 ^ (8 - k)) : ((2 ^ 8 * b + a) >>> k) &&& (2 ^ 8 * c + c) = 2 ^ 8 * ((b >>> k) &&& c) + ((a >>> k) &&& c) := by
  have hc8 : c < 2 ^ 8 := Nat.lt_of_lt_of_le hc (Nat.pow_le_pow_right (by decide) (by omega))
  have hr : (a >>> k) &&& c < 2 ^ 8 := Nat.lt_of_le_of_lt Nat.and_le_right hc8
  apply Nat.eq_of_testBit_eq
  intro j
  rw [Nat.testBit_and, Nat.testBit_shiftRight, Nat.testBit_two_pow_mul_add _ ha, Nat.testBit_two_pow_mul_add _ hc8, Nat.testBit_two_pow_mul_add _ hr]
  by_cases h : j < 8
  · rw [if_pos h, if_pos h, Nat.testBit_and, Nat.testBit_shiftRight]
    by_cases h2 : k + j < 8
    · rw [if_pos h2]
    · have z : c.testBit j = false := Nat.testBit_lt_two_pow (Nat.lt_of_lt_of_le hc (Nat.pow_le_pow_right (by decide) (by omega)))
      rw [z, Bool.and_false, Bool.and_false]
  · rw [if_neg h, if_neg h, if_neg (by omega), Nat.testBit_and, Nat.testBit_shiftRight, show k + j - 8 = k + (j - 8) by omega]
theorem and_lo {x C : Nat} (hx : x < 65536) : x &&& C = x &&& (C % 65536) := by
  have h : (x &&& C) % 2 ^ 16 = (x % 2 ^ 16) &&& (C % 2 ^ 16) := Nat.and_mod_two_pow
  rw [Nat.mod_eq_of_lt (Nat.lt_of_le_of_lt Nat.and_le_left hx), Nat.mod_eq_of_lt hx] at h
  exact h
def b1 (a : Nat) : Nat := a - ((a >>> 1) &&& 85)
def b2 (p : Nat) : Nat := (p &&& 51) + ((p >>> 2) &&& 51)
def b3 (p : Nat) : Nat := (p + p / 16) % 16
theorem by_all : ∀ a, a < 256 → ((a >>> 1) &&& 85 ≤ a ∧ b1 a < 256) ∧ (b2 (b1 a) ≤ 68 ∧ b2 (b1 a) % 16 ≤ 4) ∧ b3 (b2 (b1 a)) = pq a ∧ pq a ≤ 8 := by decide +kernel
theorem pq_by {a b : Nat} (ha : a < 256) (hb : b < 256) : pq (256 * b + a) = pq a + pq b := by
  have e1 : (256 * b + a) % 2 = a % 2 := by omega
  have e2 : (256 * b + a) / 2 % 2 = a / 2 % 2 := by omega
  have e3 : (256 * b + a) / 4 % 2 = a / 4 % 2 := by omega
  have e4 : (256 * b + a) / 8 % 2 = a / 8 % 2 := by omega
  have e5 : (256 * b + a) / 16 % 2 = a / 16 % 2 := by omega
  have e6 : (256 * b + a) / 32 % 2 = a / 32 % 2 := by omega
  have e7 : (256 * b + a) / 64 % 2 = a / 64 % 2 := by omega
  have e8 : (256 * b + a) / 128 % 2 = a / 128 % 2 := by omega
  have f1 : (256 * b + a) / 256 % 2 = b % 2 := by omega
  have f2 : (256 * b + a) / 512 % 2 = b / 2 % 2 := by omega
  have f3 : (256 * b + a) / 1024 % 2 = b / 4 % 2 := by omega
  have f4 : (256 * b + a) / 2048 % 2 = b / 8 % 2 := by omega
  have f5 : (256 * b + a) / 4096 % 2 = b / 16 % 2 := by omega
  have f6 : (256 * b + a) / 8192 % 2 = b / 32 % 2 := by omega
  have f7 : (256 * b + a) / 16384 % 2 = b / 64 % 2 := by omega
  have f8 : (256 * b + a) / 32768 % 2 = b / 128 % 2 := by omega
  have z : ∀ x, x < 256 → x / 256 % 2 = 0 ∧ x / 512 % 2 = 0 ∧ x / 1024 % 2 = 0 ∧ x / 2048 % 2 = 0 ∧ x / 4096 % 2 = 0 ∧ x / 8192 % 2 = 0 ∧ x / 16384 % 2 = 0 ∧ x / 32768 % 2 = 0 := fun x hx => ⟨by omega, by omega, by omega, by omega, by omega, by omega, by omega, by omega⟩
  obtain ⟨a1, a2, a3, a4, a5, a6, a7, a8⟩ := z a ha
  obtain ⟨c1, c2, c3, c4, c5, c6, c7, c8⟩ := z b hb
  unfold pq
  rw [e1, e2, e3, e4, e5, e6, e7, e8, f1, f2, f3, f4, f5, f6, f7, f8, a1, a2, a3, a4, a5, a6, a7, a8, c1, c2, c3, c4, c5, c6, c7, c8]
  omega
theorem bcn_e {m : Nat} (hm : m < 65536) : bcn m = pq m := by
  obtain ⟨a, b, ha, hb, rfl⟩ : ∃ a b, a < 256 ∧ b < 256 ∧ m = 256 * b + a := ⟨m % 256, m / 256, Nat.mod_lt _ (by decide), by omega, by omega⟩
  obtain ⟨⟨a1, a2⟩, ⟨a3, a6⟩, a4, a5⟩ := by_all a ha
  obtain ⟨⟨c1, c2⟩, ⟨c3, c6⟩, c4, c5⟩ := by_all b hb
  have s1 : ((256 * b + a) >>> 1) &&& 1431655765 = 256 * ((b >>> 1) &&& 85) + ((a >>> 1) &&& 85) := by
    have := Nat.shiftRight_le (256 * b + a) 1
    rw [and_lo (by omega)]
    exact by_l1 (b := b) (c := 85) ha (by decide) (by decide)
  have x1 : 256 * b + a - (256 * ((b >>> 1) &&& 85) + ((a >>> 1) &&& 85)) = 256 * b1 b + b1 a := by
    unfold b1; omega
  have s2 : (256 * b1 b + b1 a) &&& 858993459 = 256 * (b1 b &&& 51) + (b1 a &&& 51) := by
    rw [and_lo (by omega)]
    exact by_l1 (b := b1 b) (a := b1 a) (k := 0) (c := 51) a2 (by decide) (by decide)
  have s3 : ((256 * b1 b + b1 a) >>> 2) &&& 858993459 = 256 * ((b1 b >>> 2) &&& 51) + ((b1 a >>> 2) &&& 51) := by
    have := Nat.shiftRight_le (256 * b1 b + b1 a) 2
    rw [and_lo (by omega)]
    exact by_l1 (b := b1 b) (a := b1 a) (k := 2) (c := 51) a2 (by decide) (by decide)
  have x3 : 256 * (b1 b &&& 51) + (b1 a &&& 51) + (256 * ((b1 b >>> 2) &&& 51) + ((b1 a >>> 2) &&& 51)) = 256 * b2 (b1 b) + b2 (b1 a) := by
    unfold b2; omega
  generalize hP : b2 (b1 a) = P at *
  generalize hQ : b2 (b1 b) = Q at *
  have x4 : 256 * Q + P + ((256 * Q + P) >>> 4) = 256 * (Q + Q / 16) + (P + P / 16 + 16 * (Q % 16)) := by
    rw [Nat.shiftRight_eq_div_pow]; omega
  have m15 : ∀ x, x &&& 15 = x % 16 := fun x => Nat.and_two_pow_sub_one_eq_mod x 4
  have s5 : (256 * (Q + Q / 16) + (P + P / 16 + 16 * (Q % 16))) &&& 252645135 = 256 * pq b + pq a := by
    rw [and_lo (by omega)]
    have := by_l1 (b := Q + Q / 16) (a := P + P / 16 + 16 * (Q % 16)) (k := 0) (c := 15) (by omega) (by decide) (by decide)
    rw [Nat.shiftRight_zero, Nat.shiftRight_zero, Nat.shiftRight_zero, m15, m15] at this
    have e : (252645135 : Nat) % 65536 = 2 ^ 8 * 15 + 15 := by decide
    rw [e, show (256 : Nat) = 2 ^ 8 from rfl, this, ← a4, ← c4]
    unfold b3
    omega
  have x7 : 256 * pq b + pq a + ((256 * pq b + pq a) >>> 8) = 256 * pq b + (pq a + pq b) := by
    rw [Nat.shiftRight_eq_div_pow]; omega
  have x9 : (256 * pq b + (pq a + pq b) + ((256 * pq b + (pq a + pq b)) >>> 16)) &&& 63 = pq a + pq b := by
    have m63 : ∀ x, x &&& 63 = x % 64 := fun x => Nat.and_two_pow_sub_one_eq_mod x 6
    have z : ∀ p, p < 9 → ∀ q, q < 9 → (256 * q + (p + q) + (256 * q + (p + q)) / 2 ^ 16) % 64 = p + q := by decide +kernel
    rw [m63, Nat.shiftRight_eq_div_pow]; exact z _ (by omega) _ (by omega)
  have e : bcn (256 * b + a) = pq a + pq b := by
    unfold bcn
    simp only []
    rw [s1, x1, s2, s3, x3, x4, s5, x7, x9]
  rw [e, pq_by ha hb]
theorem ush (m k : Nat) (hm : m < 2 ^ 32) (hk : k < 32) : ((nI m).toUInt32 >>> ((nI k).toUInt32 &&& Int32.toUInt32 31)).toInt32 = nI (m >>> k) := by
  apply Int32.toBitVec_inj.mp
  apply BitVec.eq_of_toNat_eq
  show (UInt32.toBitVec ((nI m).toUInt32 >>> ((nI k).toUInt32 &&& Int32.toUInt32 31))).toNat = (BitVec.ofNat 32 (m >>> k)).toNat
  have e1 : (UInt32.toBitVec ((nI m).toUInt32 >>> ((nI k).toUInt32 &&& Int32.toUInt32 31))).toNat = ((nI m).toUInt32.toNat) >>> (((nI k).toUInt32 &&& Int32.toUInt32 31).toNat % 32) := UInt32.toNat_shiftRight _ _
  have e2 : (nI m).toUInt32.toNat = m := by
    show (BitVec.ofNat 32 m).toNat = m
    rw [BitVec.toNat_ofNat]; exact Nat.mod_eq_of_lt hm
  have e3 : ((nI k).toUInt32 &&& Int32.toUInt32 31).toNat = k := by
    have : ∀ k, k < 32 → ((nI k).toUInt32 &&& Int32.toUInt32 31).toNat = k := by decide +kernel
    exact this k hk
  have hs : m >>> k < 2 ^ 32 := Nat.lt_of_le_of_lt (Nat.shiftRight_le m k) hm
  rw [e1, e2, e3, Nat.mod_eq_of_lt hk, BitVec.toNat_ofNat, Nat.mod_eq_of_lt hs]
theorem nI_sb {a b : Nat} (h : b ≤ a) : nI a - nI b = nI (a - b) := by
  have e : nI a = nI (a - b) + nI b := by rw [nI_add]; congr 1; omega
  rw [e, Int32.add_sub_cancel]
theorem f_bc {m : Nat} (hm : m < 65536) (M : Mem) : f_J6_bitCount_0f7a4 (nI m) M = some (nI (bcn m)) := by
  have h1 : (m >>> 1) &&& 1431655765 ≤ m := Nat.le_trans Nat.and_le_left (Nat.shiftRight_le m 1)
  generalize hx1 : m - ((m >>> 1) &&& 1431655765) = x1
  generalize hx3 : (x1 &&& 858993459) + ((x1 >>> 2) &&& 858993459) = x3
  generalize hx5 : (x3 + (x3 >>> 4)) &&& 252645135 = x5
  generalize hx7 : x5 + (x5 >>> 8) = x7
  have eb : bcn m = (x7 + (x7 >>> 16)) &&& 63 := by
    unfold bcn
    rw [hx1]
    show (fun x3 => (fun x5 => (fun x7 => (x7 + (x7 >>> 16)) &&& 63) (x5 + (x5 >>> 8))) ((x3 + (x3 >>> 4)) &&& 252645135)) ((x1 &&& 858993459) + ((x1 >>> 2) &&& 858993459)) = _
    rw [hx3]
    show (fun x5 => (fun x7 => (x7 + (x7 >>> 16)) &&& 63) (x5 + (x5 >>> 8))) ((x3 + (x3 >>> 4)) &&& 252645135) = _
    rw [hx5]
    show (fun x7 => (x7 + (x7 >>> 16)) &&& 63) (x5 + (x5 >>> 8)) = _
    rw [hx7]
  have l1 : x1 ≤ m := by omega
  have l3 : x3 ≤ 2 * x1 := by
    have a1 : x1 &&& 858993459 ≤ x1 := Nat.and_le_left
    have a2 : (x1 >>> 2) &&& 858993459 ≤ x1 >>> 2 := Nat.and_le_left
    have a3 := Nat.shiftRight_le x1 2
    omega
  have l5 : x5 ≤ 2 * x3 := by
    have a1 : (x3 + (x3 >>> 4)) &&& 252645135 ≤ x3 + (x3 >>> 4) := Nat.and_le_left
    have a3 := Nat.shiftRight_le x3 4
    omega
  have l7 : x7 ≤ 2 * x5 := by
    have a3 := Nat.shiftRight_le x5 8
    omega
  have k1 := ush m 1 (by omega) (by decide)
  have k2 := ush x1 2 (by omega) (by decide)
  have k4 := ush x3 4 (by omega) (by decide)
  have k8 := ush x5 8 (by omega) (by decide)
  have k16 := ush x7 16 (by omega) (by decide)
  rw [f_J6_bitCount_0f7a4, show ((1 : Int32)).toUInt32 = (nI 1).toUInt32 from rfl, k1, show (1431655765 : Int32) = nI 1431655765 from rfl, nx_and, nI_sb h1, hx1, bnd_e, show ((2 : Int32)).toUInt32 = (nI 2).toUInt32 from rfl, k2, show (858993459 : Int32) = nI 858993459 from rfl, nx_and, nx_and, nI_add, hx3, bnd_e, show ((4 : Int32)).toUInt32 = (nI 4).toUInt32 from rfl, k4, nI_add, show (252645135 : Int32) = nI 252645135 from rfl, nx_and, hx5, bnd_e, show ((8 : Int32)).toUInt32 = (nI 8).toUInt32 from rfl, k8, nI_add, hx7, bnd_e, show ((16 : Int32)).toUInt32 = (nI 16).toUInt32 from rfl, k16, nI_add, bnd_e, show (63 : Int32) = nI 63 from rfl, nx_and, eb]
theorem pcN_pq {m : Nat} (hm : m < 65536) : pcN m = pq m := by
  have st : ∀ k, k < 65536 → pcN k = k % 2 + pcN (k / 2) := fun k hk => pcN_half (by omega)
  have z : m / 32768 / 2 = 0 := by omega
  rw [st m hm, st (m / 2) (by omega), Nat.div_div_eq_div_mul, st (m / (2 * 2)) (by omega), Nat.div_div_eq_div_mul, st (m / (2 * 2 * 2)) (by omega), Nat.div_div_eq_div_mul, st (m / (2 * 2 * 2 * 2)) (by omega), Nat.div_div_eq_div_mul, st (m / (2 * 2 * 2 * 2 * 2)) (by omega), Nat.div_div_eq_div_mul, st (m / (2 * 2 * 2 * 2 * 2 * 2)) (by omega), Nat.div_div_eq_div_mul, st (m / (2 * 2 * 2 * 2 * 2 * 2 * 2)) (by omega), Nat.div_div_eq_div_mul, st (m / (2 * 2 * 2 * 2 * 2 * 2 * 2 * 2)) (by omega), Nat.div_div_eq_div_mul, st (m / (2 * 2 * 2 * 2 * 2 * 2 * 2 * 2 * 2)) (by omega), Nat.div_div_eq_div_mul, st (m / (2 * 2 * 2 * 2 * 2 * 2 * 2 * 2 * 2 * 2)) (by omega), Nat.div_div_eq_div_mul, st (m / (2 * 2 * 2 * 2 * 2 * 2 * 2 * 2 * 2 * 2 * 2)) (by omega), Nat.div_div_eq_div_mul, st (m / (2 * 2 * 2 * 2 * 2 * 2 * 2 * 2 * 2 * 2 * 2 * 2)) (by omega), Nat.div_div_eq_div_mul, st (m / (2 * 2 * 2 * 2 * 2 * 2 * 2 * 2 * 2 * 2 * 2 * 2 * 2)) (by omega), Nat.div_div_eq_div_mul, st (m / (2 * 2 * 2 * 2 * 2 * 2 * 2 * 2 * 2 * 2 * 2 * 2 * 2 * 2)) (by omega), Nat.div_div_eq_div_mul, st (m / (2 * 2 * 2 * 2 * 2 * 2 * 2 * 2 * 2 * 2 * 2 * 2 * 2 * 2 * 2)) (by omega), show m / (2 * 2 * 2 * 2 * 2 * 2 * 2 * 2 * 2 * 2 * 2 * 2 * 2 * 2 * 2) / 2 = 0 from z, pcN_0]
  rfl
theorem f_bcx {x : Int32} (h : ∀ i, 16 ≤ i → i < 32 → bt x i = false) (M : Mem) : f_J6_bitCount_0f7a4 x M = some (nI (pc x)) := by
  have hx := bt_hi (k := 16) (by decide) h
  have e := f_bc (m := x.toBitVec.toNat) (by omega) M
  rw [bcn_e (by omega), ← pcN_pq (by omega), ← pc_N, ← nI_tn x] at e
  exact e
