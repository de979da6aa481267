/-! ===== Long.bitCount ===== -/
def nL (m : Nat) : Int64 := Int64.ofNat m
theorem nL_tn (x : Int64) : x = nL x.toBitVec.toNat := by
  apply Int64.toBitVec_inj.mp
  show x.toBitVec = BitVec.ofNat 64 x.toBitVec.toNat
  rw [BitVec.ofNat_toNat, BitVec.setWidth_eq]
theorem nL_bv (m : Nat) : (nL m).toBitVec = BitVec.ofNat 64 m := rfl
theorem nL_add (a b : Nat) : nL a + nL b = nL (a + b) := by
  apply Int64.toBitVec_inj.mp
  rw [Int64.toBitVec_add, nL_bv, nL_bv, nL_bv, BitVec.ofNat_add]
theorem nL_mul (a b : Nat) : nL a * nL b = nL (a * b) := by
  apply Int64.toBitVec_inj.mp
  rw [Int64.toBitVec_mul, nL_bv, nL_bv, nL_bv, BitVec.ofNat_mul]
theorem nL_sb {a b : Nat} (h : b ≤ a) : nL a - nL b = nL (a - b) := by
  have e : nL a = nL (a - b) + nL b := by rw [nL_add]; congr 1; omega
  rw [e, Int64.add_sub_cancel]
theorem nL_and (a b : Nat) : nL a &&& nL b = nL (a &&& b) := by
  apply Int64.toBitVec_inj.mp
  rw [Int64.toBitVec_and, nL_bv, nL_bv, nL_bv]
  apply BitVec.eq_of_getLsbD_eq
  intro i hi
  simp [hi]
theorem lsh (m k : Nat) (hm : m < 2 ^ 64) (hk : k < 64) : ((nL m).toUInt64 >>> (((nI k)).toInt64.toUInt64 &&& Int64.toUInt64 63)).toInt64 = nL (m >>> k) := by
  apply Int64.toBitVec_inj.mp
  apply BitVec.eq_of_toNat_eq
  have e3 : ((((nI k)).toInt64.toUInt64 &&& Int64.toUInt64 63).toBitVec % 64).toNat = k := by
    have : ∀ k, k < 64 → ((((nI k)).toInt64.toUInt64 &&& Int64.toUInt64 63).toBitVec % 64).toNat = k := by decide +kernel
    exact this k hk
  have e : ((nL m).toUInt64 >>> (((nI k)).toInt64.toUInt64 &&& Int64.toUInt64 63)).toInt64.toBitVec = (nL m).toBitVec >>> ((((nI k)).toInt64.toUInt64 &&& Int64.toUInt64 63).toBitVec % 64).toNat := rfl
  have hs : m >>> k < 2 ^ 64 := Nat.lt_of_le_of_lt (Nat.shiftRight_le m k) hm
  rw [e, e3, nL_bv, nL_bv, BitVec.toNat_ushiftRight, BitVec.toNat_ofNat, BitVec.toNat_ofNat, Nat.mod_eq_of_lt hm, Nat.mod_eq_of_lt hs]
/-- the number of these bytes, the lowest first -/
def vl : List Nat → Nat
  | [] => 0
  | a :: t => a + 256 * vl t
def mk8 (c : Nat) : Nat → Nat
  | 0 => 0
  | n + 1 => c + 256 * mk8 c n
theorem by_g {a b k c C : Nat} (ha : a < 256) (hk : k ≤ 8) (hc : c < 2 ^ (8 - k)) : ((a + 256 * b) >>> k) &&& (c + 256 * C) = ((a >>> k) &&& c) + 256 * ((b >>> k) &&& C) := by
  have hc8 : c < 2 ^ 8 := Nat.lt_of_lt_of_le hc (Nat.pow_le_pow_right (by decide) (by omega))
  have hr : (a >>> k) &&& c < 2 ^ 8 := Nat.lt_of_le_of_lt Nat.and_le_right hc8
  rw [Nat.add_comm a, Nat.add_comm c, Nat.add_comm ((a >>> k) &&& c), show (256 : Nat) = 2 ^ 8 from rfl]
  apply Nat.eq_of_testBit_eq
  intro j
  rw [Nat.testBit_and, Nat.testBit_shiftRight, Nat.testBit_two_pow_mul_add _ ha, Nat.testBit_two_pow_mul_add _ hc8, Nat.testBit_two_pow_mul_add _ hr]
  by_cases h : j < 8
  · rw [if_pos h, if_pos h, Nat.testBit_and, Nat.testBit_shiftRight]
    by_cases h2 : k + j < 8
    · rw [if_pos h2]
    · have z : c.testBit j = false := Nat.testBit_lt_two_pow (Nat.lt_of_lt_of_le hc (Nat.pow_le_pow_right (by decide) (by omega)))
      rw [z, Bool.and_false, Bool.and_false]
  · rw [if_neg h, if_neg h, if_neg (by omega), Nat.testBit_and, Nat.testBit_shiftRight, show k + j - 8 = k + (j - 8) by omega]
theorem vl_and {k c : Nat} (hk : k ≤ 8) (hc : c < 2 ^ (8 - k)) : ∀ l : List Nat, (∀ a, a ∈ l → a < 256) → (vl l >>> k) &&& mk8 c l.length = vl (l.map fun a => (a >>> k) &&& c) := by
  intro l
  induction l with
  | nil => intro _; show (0 >>> k) &&& 0 = 0; exact Nat.and_zero _
  | cons a t ih =>
    intro h
    show ((a + 256 * vl t) >>> k) &&& (c + 256 * mk8 c t.length) = ((a >>> k) &&& c) + 256 * vl (t.map fun a => (a >>> k) &&& c)
    rw [by_g (h a List.mem_cons_self) hk hc, ih (fun a ha => h a (List.mem_cons_of_mem _ ha))]
theorem vl_sub (g : Nat → Nat) : ∀ l : List Nat, (∀ a, a ∈ l → g a ≤ a) → vl l - vl (l.map g) = vl (l.map fun a => a - g a) ∧ vl (l.map g) ≤ vl l := by
  intro l
  induction l with
  | nil => intro _; exact ⟨rfl, Nat.le_refl _⟩
  | cons a t ih =>
    intro h
    obtain ⟨e1, e2⟩ := ih (fun a ha => h a (List.mem_cons_of_mem _ ha))
    have ha := h a List.mem_cons_self
    show a + 256 * vl t - (g a + 256 * vl (t.map g)) = (a - g a) + 256 * vl (t.map fun a => a - g a) ∧ g a + 256 * vl (t.map g) ≤ a + 256 * vl t
    rw [← e1]
    omega
theorem vl_add (f g : Nat → Nat) : ∀ l : List Nat, vl (l.map f) + vl (l.map g) = vl (l.map fun a => f a + g a) := by
  intro l
  induction l with
  | nil => rfl
  | cons a t ih =>
    show f a + 256 * vl (t.map f) + (g a + 256 * vl (t.map g)) = (f a + g a) + 256 * vl (t.map fun a => f a + g a)
    rw [← ih]; omega
/-- halves of bytes, added up -/
def sh4 : List Nat → List Nat
  | [] => []
  | a :: t => (a + a / 16 + 16 * (vl t % 16)) :: sh4 t
theorem sh4_e : ∀ l : List Nat, vl l + vl l / 16 = vl (sh4 l) := by
  intro l
  induction l with
  | nil => rfl
  | cons a t ih =>
    show a + 256 * vl t + (a + 256 * vl t) / 16 = a + a / 16 + 16 * (vl t % 16) + 256 * vl (sh4 t)
    rw [← ih]; omega
theorem sh4_l : ∀ l : List Nat, (sh4 l).length = l.length := by
  intro l
  induction l with
  | nil => rfl
  | cons a t ih =>
    show (sh4 t).length + 1 = t.length + 1
    rw [ih]
theorem vl_16 : ∀ l : List Nat, (∀ a, a ∈ l → a % 16 ≤ 4) → vl l % 16 ≤ 4 := by
  intro l h
  cases l with
  | nil => exact Nat.zero_le _
  | cons a t =>
    show (a + 256 * vl t) % 16 ≤ 4
    have := h a List.mem_cons_self
    omega
theorem sh4_b : ∀ l : List Nat, (∀ a, a ∈ l → a ≤ 68 ∧ a % 16 ≤ 4) → ∀ a, a ∈ sh4 l → a < 256 := by
  intro l
  induction l with
  | nil => intro _ a h; cases h
  | cons a t ih =>
    intro h b hb
    have hb' : b ∈ (a + a / 16 + 16 * (vl t % 16)) :: sh4 t := hb
    rcases List.mem_cons.mp hb' with e | e
    · have := (h a List.mem_cons_self).1
      have := vl_16 t (fun a ha => (h a (List.mem_cons_of_mem _ ha)).2)
      omega
    · exact ih (fun a ha => h a (List.mem_cons_of_mem _ ha)) b e
theorem sh4_m : ∀ l : List Nat, (sh4 l).map (fun a => a % 16) = l.map b3 := by
  intro l
  induction l with
  | nil => rfl
  | cons a t ih =>
    show (a + a / 16 + 16 * (vl t % 16)) % 16 :: (sh4 t).map (fun a => a % 16) = b3 a :: t.map b3
    rw [ih]
    congr 1
    unfold b3
    omega
def by8 (m : Nat) : List Nat := [m % 256, m / 256 % 256, m / 65536 % 256, m / 16777216 % 256, m / 4294967296 % 256, m / 1099511627776 % 256, m / 281474976710656 % 256, m / 72057594037927936]
theorem st256 (a b : Nat) (h : b = a / 256) : a % 256 + 256 * b = a := by omega
theorem by8_v {m : Nat} : vl (by8 m) = m := by
  show m % 256 + 256 * (m / 256 % 256 + 256 * (m / 65536 % 256 + 256 * (m / 16777216 % 256 + 256 * (m / 4294967296 % 256 + 256 * (m / 1099511627776 % 256 + 256 * (m / 281474976710656 % 256 + 256 * (m / 72057594037927936 + 256 * 0))))))) = m
  rw [Nat.mul_zero, Nat.add_zero]
  rw [st256 (m / 281474976710656) (m / 72057594037927936) (by rw [Nat.div_div_eq_div_mul])]
  rw [st256 (m / 1099511627776) (m / 281474976710656) (by rw [Nat.div_div_eq_div_mul])]
  rw [st256 (m / 4294967296) (m / 1099511627776) (by rw [Nat.div_div_eq_div_mul])]
  rw [st256 (m / 16777216) (m / 4294967296) (by rw [Nat.div_div_eq_div_mul])]
  rw [st256 (m / 65536) (m / 16777216) (by rw [Nat.div_div_eq_div_mul])]
  rw [st256 (m / 256) (m / 65536) (by rw [Nat.div_div_eq_div_mul])]
  rw [st256 (m) (m / 256) (by rfl)]
theorem by8_b {m : Nat} (h : m < 2 ^ 64) : ∀ a, a ∈ by8 m → a < 256 := by
  intro a ha
  unfold by8 at ha
  simp only [List.mem_cons, List.not_mem_nil, or_false] at ha
  rcases ha with e | e | e | e | e | e | e | e
  · rw [e]; exact Nat.mod_lt _ (by decide)
  · rw [e]; exact Nat.mod_lt _ (by decide)
  · rw [e]; exact Nat.mod_lt _ (by decide)
  · rw [e]; exact Nat.mod_lt _ (by decide)
  · rw [e]; exact Nat.mod_lt _ (by decide)
  · rw [e]; exact Nat.mod_lt _ (by decide)
  · rw [e]; exact Nat.mod_lt _ (by decide)
  · rw [e]; exact Nat.div_lt_of_lt_mul (by rw [show 72057594037927936 * 256 = 2 ^ 64 from by decide]; exact h)
theorem m85 : mk8 85 8 = 6148914691236517205 := by decide +kernel
theorem m51 : mk8 51 8 = 3689348814741910323 := by decide +kernel
theorem m15 : mk8 15 8 = 1085102592571150095 := by decide +kernel
theorem d1b {x a R : Nat} (e : x = a + 256 * R) (ha : a < 256) : x / 256 = R := by omega
theorem d2b {x a b R : Nat} (e : x = a + 256 * (b + 256 * R)) (ha : a < 256) (hb : b < 256) : x / 65536 = R := by omega
theorem d4b {x a b c d R : Nat} (e : x = a + 256 * (b + 256 * (c + 256 * (d + 256 * R)))) (ha : a < 256) (hb : b < 256) (hc : c < 256) (hd : d < 256) : x / 4294967296 = R := by
  have e1 := d2b e ha hb
  have e2 := d2b e1 hc hd
  rw [Nat.div_div_eq_div_mul] at e2
  exact e2
theorem m1b {x a R : Nat} (e : x = a + 256 * R) (ha : a < 128) : x % 128 = a := by omega
def pq8 (m : Nat) : Nat := pq (m % 256) + (pq (m / 256 % 256) + (pq (m / 65536 % 256) + (pq (m / 16777216 % 256) + (pq (m / 4294967296 % 256) + (pq (m / 1099511627776 % 256) + (pq (m / 281474976710656 % 256) + pq (m / 72057594037927936)))))))
theorem k7l (p0 p1 p2 p3 p4 p5 p6 p7 : Nat) : p0 + 256 * (p1 + 256 * (p2 + 256 * (p3 + 256 * (p4 + 256 * (p5 + 256 * (p6 + 256 * (p7))))))) + (p1 + 256 * (p2 + 256 * (p3 + 256 * (p4 + 256 * (p5 + 256 * (p6 + 256 * (p7))))))) = (p0 + p1) + 256 * ((p1 + p2) + 256 * ((p2 + p3) + 256 * ((p3 + p4) + 256 * ((p4 + p5) + 256 * ((p5 + p6) + 256 * ((p6 + p7) + 256 * (p7))))))) := by omega
theorem k9l (p0 p1 p2 p3 p4 p5 p6 p7 : Nat) : (p0 + p1) + 256 * ((p1 + p2) + 256 * ((p2 + p3) + 256 * ((p3 + p4) + 256 * ((p4 + p5) + 256 * ((p5 + p6) + 256 * ((p6 + p7) + 256 * (p7))))))) + ((p2 + p3) + 256 * ((p3 + p4) + 256 * ((p4 + p5) + 256 * ((p5 + p6) + 256 * ((p6 + p7) + 256 * (p7)))))) = (p0 + p1 + p2 + p3) + 256 * ((p1 + p2 + p3 + p4) + 256 * ((p2 + p3 + p4 + p5) + 256 * ((p3 + p4 + p5 + p6) + 256 * ((p4 + p5 + p6 + p7) + 256 * ((p5 + p6 + p7) + 256 * ((p6 + p7) + 256 * (p7))))))) := by omega
theorem k11l (p0 p1 p2 p3 p4 p5 p6 p7 : Nat) : (p0 + p1 + p2 + p3) + 256 * ((p1 + p2 + p3 + p4) + 256 * ((p2 + p3 + p4 + p5) + 256 * ((p3 + p4 + p5 + p6) + 256 * ((p4 + p5 + p6 + p7) + 256 * ((p5 + p6 + p7) + 256 * ((p6 + p7) + 256 * (p7))))))) + ((p4 + p5 + p6 + p7) + 256 * ((p5 + p6 + p7) + 256 * ((p6 + p7) + 256 * (p7)))) = (p0 + p1 + p2 + p3 + p4 + p5 + p6 + p7) + 256 * ((p1 + p2 + p3 + p4 + p5 + p6 + p7) + 256 * ((p2 + p3 + p4 + p5 + p6 + p7) + 256 * ((p3 + p4 + p5 + p6 + p7) + 256 * ((p4 + p5 + p6 + p7) + 256 * ((p5 + p6 + p7) + 256 * ((p6 + p7) + 256 * (p7))))))) := by omega
theorem eql (p0 p1 p2 p3 p4 p5 p6 p7 : Nat) : p0 + p1 + p2 + p3 + p4 + p5 + p6 + p7 = p0 + (p1 + (p2 + (p3 + (p4 + (p5 + (p6 + p7)))))) := by omega
theorem bnl5 (p0 p1 p2 p3 p4 p5 p6 p7 : Nat) (q0 : p0 ≤ 8) (q1 : p1 ≤ 8) (q2 : p2 ≤ 8) (q3 : p3 ≤ 8) (q4 : p4 ≤ 8) (q5 : p5 ≤ 8) (q6 : p6 ≤ 8) (q7 : p7 ≤ 8) : p0 + 256 * (p1 + 256 * (p2 + 256 * (p3 + 256 * (p4 + 256 * (p5 + 256 * (p6 + 256 * (p7))))))) < 2 ^ 64 := by omega
theorem bnl7 (p0 p1 p2 p3 p4 p5 p6 p7 : Nat) (q0 : p0 ≤ 8) (q1 : p1 ≤ 8) (q2 : p2 ≤ 8) (q3 : p3 ≤ 8) (q4 : p4 ≤ 8) (q5 : p5 ≤ 8) (q6 : p6 ≤ 8) (q7 : p7 ≤ 8) : (p0 + p1) + 256 * ((p1 + p2) + 256 * ((p2 + p3) + 256 * ((p3 + p4) + 256 * ((p4 + p5) + 256 * ((p5 + p6) + 256 * ((p6 + p7) + 256 * (p7))))))) < 2 ^ 64 := by omega
theorem bnl9 (p0 p1 p2 p3 p4 p5 p6 p7 : Nat) (q0 : p0 ≤ 8) (q1 : p1 ≤ 8) (q2 : p2 ≤ 8) (q3 : p3 ≤ 8) (q4 : p4 ≤ 8) (q5 : p5 ≤ 8) (q6 : p6 ≤ 8) (q7 : p7 ≤ 8) : (p0 + p1 + p2 + p3) + 256 * ((p1 + p2 + p3 + p4) + 256 * ((p2 + p3 + p4 + p5) + 256 * ((p3 + p4 + p5 + p6) + 256 * ((p4 + p5 + p6 + p7) + 256 * ((p5 + p6 + p7) + 256 * ((p6 + p7) + 256 * (p7))))))) < 2 ^ 64 := by omega
theorem le2 {a b : Nat} (ha : a ≤ 8) (hb : b ≤ 8) : a + b < 256 := by omega
theorem le4 {a b c d : Nat} (ha : a ≤ 8) (hb : b ≤ 8) (hc : c ≤ 8) (hd : d ≤ 8) : a + b + c + d < 256 := by omega
theorem le8 {a b c d e f g h : Nat} (ha : a ≤ 8) (hb : b ≤ 8) (hc : c ≤ 8) (hd : d ≤ 8) (he : e ≤ 8) (hf : f ≤ 8) (hg : g ≤ 8) (hh : h ≤ 8) : a + b + c + d + e + f + g + h < 128 := by omega
theorem bc_ar (p0 p1 p2 p3 p4 p5 p6 p7 X5 : Nat) (q0 : p0 ≤ 8) (q1 : p1 ≤ 8) (q2 : p2 ≤ 8) (q3 : p3 ≤ 8) (q4 : p4 ≤ 8) (q5 : p5 ≤ 8) (q6 : p6 ≤ 8) (q7 : p7 ≤ 8) (v5 : X5 = p0 + 256 * (p1 + 256 * (p2 + 256 * (p3 + 256 * (p4 + 256 * (p5 + 256 * (p6 + 256 * (p7)))))))) : X5 < 2 ^ 64 ∧ X5 + X5 >>> 8 < 2 ^ 64 ∧ (X5 + X5 >>> 8) + (X5 + X5 >>> 8) >>> 16 < 2 ^ 64 ∧ (((X5 + X5 >>> 8) + (X5 + X5 >>> 8) >>> 16) + ((X5 + X5 >>> 8) + (X5 + X5 >>> 8) >>> 16) >>> 32) &&& 127 = p0 + (p1 + (p2 + (p3 + (p4 + (p5 + (p6 + p7)))))) := by
  have k7 : X5 + X5 >>> 8 = (p0 + p1) + 256 * ((p1 + p2) + 256 * ((p2 + p3) + 256 * ((p3 + p4) + 256 * ((p4 + p5) + 256 * ((p5 + p6) + 256 * ((p6 + p7) + 256 * (p7))))))) := by
    rw [Nat.shiftRight_eq_div_pow, show (2 : Nat) ^ 8 = 256 from rfl, d1b v5 (Nat.lt_of_le_of_lt q0 (by decide)), v5]
    exact k7l p0 p1 p2 p3 p4 p5 p6 p7
  generalize X5 + X5 >>> 8 = X7 at *
  have k9 : X7 + X7 >>> 16 = (p0 + p1 + p2 + p3) + 256 * ((p1 + p2 + p3 + p4) + 256 * ((p2 + p3 + p4 + p5) + 256 * ((p3 + p4 + p5 + p6) + 256 * ((p4 + p5 + p6 + p7) + 256 * ((p5 + p6 + p7) + 256 * ((p6 + p7) + 256 * (p7))))))) := by
    rw [Nat.shiftRight_eq_div_pow, show (2 : Nat) ^ 16 = 65536 from rfl, d2b k7 (le2 q0 q1) (le2 q1 q2), k7]
    exact k9l p0 p1 p2 p3 p4 p5 p6 p7
  generalize X7 + X7 >>> 16 = X9 at *
  have k11 : X9 + X9 >>> 32 = (p0 + p1 + p2 + p3 + p4 + p5 + p6 + p7) + 256 * ((p1 + p2 + p3 + p4 + p5 + p6 + p7) + 256 * ((p2 + p3 + p4 + p5 + p6 + p7) + 256 * ((p3 + p4 + p5 + p6 + p7) + 256 * ((p4 + p5 + p6 + p7) + 256 * ((p5 + p6 + p7) + 256 * ((p6 + p7) + 256 * (p7))))))) := by
    rw [Nat.shiftRight_eq_div_pow, show (2 : Nat) ^ 32 = 4294967296 from rfl, d4b k9 (le4 q0 q1 q2 q3) (le4 q1 q2 q3 q4) (le4 q2 q3 q4 q5) (le4 q3 q4 q5 q6), k9]
    exact k11l p0 p1 p2 p3 p4 p5 p6 p7
  refine ⟨by rw [v5]; exact bnl5 p0 p1 p2 p3 p4 p5 p6 p7 q0 q1 q2 q3 q4 q5 q6 q7, by rw [k7]; exact bnl7 p0 p1 p2 p3 p4 p5 p6 p7 q0 q1 q2 q3 q4 q5 q6 q7, by rw [k9]; exact bnl9 p0 p1 p2 p3 p4 p5 p6 p7 q0 q1 q2 q3 q4 q5 q6 q7, ?_⟩
  have : (X9 + X9 >>> 32) &&& 127 = (X9 + X9 >>> 32) % 128 := Nat.and_two_pow_sub_one_eq_mod _ 7
  rw [this, m1b k11 (le8 q0 q1 q2 q3 q4 q5 q6 q7)]
  exact eql p0 p1 p2 p3 p4 p5 p6 p7
theorem f_bcl {m : Nat} (hm : m < 2 ^ 64) (M : Mem) : f_J13_bitCount_95d88 (nL m) M = some (nI (pq8 m)) := by
  have hb := by8_b hm
  have hv := by8_v (m := m)
  have l8 : (by8 m).length = 8 := rfl
  -- the first step
  have s1 : (m >>> 1) &&& 6148914691236517205 = vl ((by8 m).map fun a => (a >>> 1) &&& 85) := by
    have e := vl_and (k := 1) (c := 85) (by decide) (by decide) (by8 m) hb
    rw [hv, l8, m85] at e
    exact e
  have t1 := vl_sub (fun a => (a >>> 1) &&& 85) (by8 m) (fun a ha => (by_all a (hb a ha)).1.1)
  rw [hv] at t1
  have x1 : m - ((m >>> 1) &&& 6148914691236517205) = vl ((by8 m).map b1) := by rw [s1]; exact t1.1
  have le1 : (m >>> 1) &&& 6148914691236517205 ≤ m := by rw [s1]; exact t1.2
  generalize hL1 : (by8 m).map b1 = L1 at x1
  have hb1 : ∀ a, a ∈ L1 → a < 256 := fun a ha => by
    rw [← hL1] at ha
    obtain ⟨y, hy, rfl⟩ := List.mem_map.mp ha
    exact (by_all y (hb y hy)).1.2
  have l1 : L1.length = 8 := by rw [← hL1]; rfl
  have s2 : vl L1 &&& 3689348814741910323 = vl (L1.map fun a => a &&& 51) := by
    have e := vl_and (k := 0) (c := 51) (by decide) (by decide) L1 hb1
    rw [l1, m51] at e
    exact e
  have s3 : (vl L1 >>> 2) &&& 3689348814741910323 = vl (L1.map fun a => (a >>> 2) &&& 51) := by
    have e := vl_and (k := 2) (c := 51) (by decide) (by decide) L1 hb1
    rw [l1, m51] at e
    exact e
  have x3 : (vl L1 &&& 3689348814741910323) + ((vl L1 >>> 2) &&& 3689348814741910323) = vl (L1.map b2) := by
    rw [s2, s3]
    exact vl_add (fun a => a &&& 51) (fun a => (a >>> 2) &&& 51) L1
  generalize hL2 : L1.map b2 = L2 at x3
  have hb2 : ∀ a, a ∈ L2 → a ≤ 68 ∧ a % 16 ≤ 4 := fun a ha => by
    rw [← hL2] at ha
    obtain ⟨z, hz, rfl⟩ := List.mem_map.mp ha
    rw [← hL1] at hz
    obtain ⟨y, hy, rfl⟩ := List.mem_map.mp hz
    exact (by_all y (hb y hy)).2.1
  have l2 : L2.length = 8 := by rw [← hL2, List.length_map]; exact l1
  have s5 : (vl L2 + (vl L2 >>> 4)) &&& 1085102592571150095 = vl (L2.map b3) := by
    have e := vl_and (k := 0) (c := 15) (by decide) (by decide) (sh4 L2) (sh4_b L2 hb2)
    rw [sh4_l, l2, ← sh4_e, m15] at e
    have m15b : (fun a : Nat => a >>> 0 &&& 15) = fun a => a % 16 := by
      funext a
      exact Nat.and_two_pow_sub_one_eq_mod a 4
    rw [m15b, sh4_m] at e
    rw [Nat.shiftRight_eq_div_pow]
    exact e
  have x5 : vl (L2.map b3) = vl ((by8 m).map pq) := by
    rw [← hL2, ← hL1, List.map_map, List.map_map]
    congr 1
    apply List.map_congr_left
    intro a ha
    exact (by_all a (hb a ha)).2.2.1
  have p8 : ∀ a, a ∈ by8 m → pq a ≤ 8 := fun a ha => (by_all a (hb a ha)).2.2.2
  have q0 := p8 (m % 256) (by unfold by8; simp)
  have q1 := p8 (m / 256 % 256) (by unfold by8; simp)
  have q2 := p8 (m / 65536 % 256) (by unfold by8; simp)
  have q3 := p8 (m / 16777216 % 256) (by unfold by8; simp)
  have q4 := p8 (m / 4294967296 % 256) (by unfold by8; simp)
  have q5 := p8 (m / 1099511627776 % 256) (by unfold by8; simp)
  have q6 := p8 (m / 281474976710656 % 256) (by unfold by8; simp)
  have q7 := p8 (m / 72057594037927936) (by unfold by8; simp)
  have v5 : vl ((by8 m).map pq) = pq (m % 256) + 256 * (pq (m / 256 % 256) + 256 * (pq (m / 65536 % 256) + 256 * (pq (m / 16777216 % 256) + 256 * (pq (m / 4294967296 % 256) + 256 * (pq (m / 1099511627776 % 256) + 256 * (pq (m / 281474976710656 % 256) + 256 * pq (m / 72057594037927936))))))) := by
    unfold by8
    simp only [List.map_cons, List.map_nil, vl, Nat.mul_zero, Nat.add_zero]
  have ep : pq8 m = pq (m % 256) + (pq (m / 256 % 256) + (pq (m / 65536 % 256) + (pq (m / 16777216 % 256) + (pq (m / 4294967296 % 256) + (pq (m / 1099511627776 % 256) + (pq (m / 281474976710656 % 256) + pq (m / 72057594037927936))))))) := rfl
  generalize pq (m % 256) = p0 at *
  generalize pq (m / 256 % 256) = p1 at *
  generalize pq (m / 65536 % 256) = p2 at *
  generalize pq (m / 16777216 % 256) = p3 at *
  generalize pq (m / 4294967296 % 256) = p4 at *
  generalize pq (m / 1099511627776 % 256) = p5 at *
  generalize pq (m / 281474976710656 % 256) = p6 at *
  generalize pq (m / 72057594037927936) = p7 at *
  generalize hX1 : vl L1 = X1 at *
  generalize hX3 : vl L2 = X3 at *
  generalize hX5 : vl ((by8 m).map pq) = X5 at *
  obtain ⟨b5, b7, b9, ba⟩ := bc_ar p0 p1 p2 p3 p4 p5 p6 p7 X5 q0 q1 q2 q3 q4 q5 q6 q7 v5
  clear v5
  generalize hX7 : X5 + X5 >>> 8 = X7 at *
  generalize hX9 : X7 + X7 >>> 16 = X9 at *
  generalize hX11 : X9 + X9 >>> 32 = X11 at *
  have m127 : X11 &&& 127 = pq8 m := by rw [ba, ep]
  have lX1 : X1 ≤ m := by rw [← x1]; exact Nat.sub_le _ _
  have lX3 : X3 < 2 ^ 64 := by rw [← x3]; exact Nat.lt_of_le_of_lt (Nat.add_le_add Nat.and_le_right Nat.and_le_right) (by decide)
  have h1 := lsh m 1 hm (by decide)
  have h2 := lsh X1 2 (Nat.lt_of_le_of_lt lX1 hm) (by decide)
  have h4 := lsh X3 4 lX3 (by decide)
  have h8 := lsh X5 8 b5 (by decide)
  have h16 := lsh X7 16 b7 (by decide)
  have h32 := lsh X9 32 b9 (by decide)
  have fin : (nL X11).toInt32 &&& (127 : Int32) = nI (X11 &&& 127) := by
    have e : (nL X11).toInt32 = nI X11 := by
      apply Int32.toBitVec_inj.mp
      show (BitVec.ofNat 64 X11).signExtend 32 = BitVec.ofNat 32 X11
      rw [BitVec.signExtend_eq_setWidth_of_le _ (by decide)]
      apply BitVec.eq_of_toNat_eq
      rw [BitVec.toNat_setWidth, BitVec.toNat_ofNat, BitVec.toNat_ofNat]
      exact Nat.mod_mod_of_dvd X11 ⟨2 ^ 32, rfl⟩
    rw [e, show (127 : Int32) = nI 127 from rfl, nx_and]
  rw [f_J13_bitCount_95d88, show ((1 : Int32)).toInt64 = (nI 1).toInt64 from rfl, h1, show (6148914691236517205 : Int64) = nL 6148914691236517205 from rfl, nL_and, nL_sb le1, x1, bnd_e, show ((2 : Int32)).toInt64 = (nI 2).toInt64 from rfl, h2, show (3689348814741910323 : Int64) = nL 3689348814741910323 from rfl, nL_and, nL_and, nL_add, x3, bnd_e, show ((4 : Int32)).toInt64 = (nI 4).toInt64 from rfl, h4, show (1085102592571150095 : Int64) = nL 1085102592571150095 from rfl, nL_add, nL_and, s5, x5, bnd_e, show ((8 : Int32)).toInt64 = (nI 8).toInt64 from rfl, h8, nL_add, hX7, bnd_e, show ((16 : Int32)).toInt64 = (nI 16).toInt64 from rfl, h16, nL_add, hX9, bnd_e, show ((32 : Int32)).toInt64 = (nI 32).toInt64 from rfl, h32, nL_add, hX11, bnd_e, fin, m127]
/-- how many bits a word has -/
def cnw (x : Int64) : Nat := smN (fun i => if qb x i = true then 1 else 0) 64
theorem smN_ap (f : Nat → Nat) (a : Nat) : ∀ b, smN f (a + b) = smN f a + smN (fun i => f (a + i)) b := by
  intro b
  induction b with
  | zero => rfl
  | succ b ih =>
    show smN f (a + b) + f (a + b) = smN f a + (smN (fun i => f (a + i)) b + f (a + b))
    rw [ih]; omega
theorem pq_k : ∀ a, a < 256 → pq a = smN (fun i => if a.testBit i = true then 1 else 0) 8 := by decide +kernel
theorem pq8_s {m : Nat} (hm : m < 2 ^ 64) : pq8 m = smN (fun i => if m.testBit i = true then 1 else 0) 64 := by
  have h : ∀ k, smN (fun i => if m.testBit (8 * k + i) = true then 1 else 0) 8 = pq (m / 2 ^ (8 * k) % 256) := fun k => by
    rw [pq_k _ (Nat.mod_lt _ (by decide))]
    apply smN_c
    intro i hi
    rw [show (256 : Nat) = 2 ^ 8 from rfl, Nat.testBit_mod_two_pow, decide_eq_true hi, Bool.true_and, ← Nat.shiftRight_eq_div_pow, Nat.testBit_shiftRight]
  have e : smN (fun i => if m.testBit i = true then 1 else 0) 64 = smN (fun i => if m.testBit (8 * 0 + i) = true then 1 else 0) 8 + (smN (fun i => if m.testBit (8 * 1 + i) = true then 1 else 0) 8 + (smN (fun i => if m.testBit (8 * 2 + i) = true then 1 else 0) 8 + (smN (fun i => if m.testBit (8 * 3 + i) = true then 1 else 0) 8 + (smN (fun i => if m.testBit (8 * 4 + i) = true then 1 else 0) 8 + (smN (fun i => if m.testBit (8 * 5 + i) = true then 1 else 0) 8 + (smN (fun i => if m.testBit (8 * 6 + i) = true then 1 else 0) 8 + smN (fun i => if m.testBit (8 * 7 + i) = true then 1 else 0) 8)))))) := by
    have z : ∀ b, smN (fun i => if m.testBit i = true then 1 else 0) (8 + b) = smN (fun i => if m.testBit (8 * 0 + i) = true then 1 else 0) 8 + smN (fun i => if m.testBit (8 * 1 + i) = true then 1 else 0) b := fun b => by
      rw [smN_ap]
      congr 1
    have s : ∀ k b, smN (fun i => if m.testBit (8 * k + i) = true then 1 else 0) (8 + b) = smN (fun i => if m.testBit (8 * k + i) = true then 1 else 0) 8 + smN (fun i => if m.testBit (8 * (k + 1) + i) = true then 1 else 0) b := fun k b => by
      rw [smN_ap]
      congr 1
      apply smN_c
      intro i _
      rw [show 8 * k + (8 + i) = 8 * (k + 1) + i by omega]
    rw [show (64 : Nat) = 8 + 56 from rfl, z, show (56 : Nat) = 8 + 48 from rfl, s, show (48 : Nat) = 8 + 40 from rfl, s, show (40 : Nat) = 8 + 32 from rfl, s, show (32 : Nat) = 8 + 24 from rfl, s, show (24 : Nat) = 8 + 16 from rfl, s, show (16 : Nat) = 8 + 8 from rfl, s]
  rw [e, h, h, h, h, h, h, h, h]
  unfold pq8
  have t : m / 2 ^ (8 * 7) % 256 = m / 72057594037927936 := by
    rw [show (2 : Nat) ^ (8 * 7) = 72057594037927936 from rfl]; omega
  rw [t, show (2 : Nat) ^ (8 * 0) = 1 from rfl, Nat.div_one]
theorem f_bcw (x : Int64) (M : Mem) : f_J13_bitCount_95d88 x M = some (nI (cnw x)) := by
  have e := f_bcl x.toBitVec.isLt M
  rw [← nL_tn x, pq8_s x.toBitVec.isLt] at e
  exact e
