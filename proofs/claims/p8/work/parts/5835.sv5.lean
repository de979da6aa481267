/-! ===== Long.bitCount ===== -/
def nL (m : Nat) : Int64 := Int64.ofNat m
theorem nL_tn (x : Int64) : x = nL x.toBitVec.toNat := by
  apply Int64.toBitVec_inj.mp
  show x.toBitVec = BitVec.ofNat 64 x.toBitVec.toNat
  rw [BitVec.ofNat_toNat, BitVec.setWidth_eq]
theorem nL_bv (m : Nat) : (nL m).toBitVec = BitVec.ofNat 64 m := rfl
theorem nL_add (a b : Nat) : nL a + nL b = nL (a + b) := by
  apply Int64.toBitVec_inj.mp
  rw [Int64.toBitVec_add, nL_bv, nL_bv, nL_bv, BitVec.ofNat_add]
theorem nL_mul (a b : Nat) : nL a * nL b = nL (a * b) := by
  apply Int64.toBitVec_inj.mp
  rw [Int64.toBitVec_mul, nL_bv, nL_bv, nL_bv, BitVec.ofNat_mul]
theorem nL_sb {a b : Nat} (h : b ≤ a) : nL a - nL b = nL (a - b) := by
  have e : nL a = nL (a - b) + nL b := by rw [nL_add]; congr 1; omega
  rw [e, Int64.add_sub_cancel]
theorem nL_and (a b : Nat) : nL a &&& nL b = nL (a &&& b) := by
  apply Int64.toBitVec_inj.mp
  rw [Int64.toBitVec_and, nL_bv, nL_bv, nL_bv]
  apply BitVec.eq_of_getLsbD_eq
  intro i hi
  simp [hi]
theorem lsh (m k : Nat) (hm : m < 2 ^ 64) (hk : k < 64) : ((nL m).toUInt64 >>> (((nI k)).toInt64.toUInt64 &&& Int64.toUInt64 63)).toInt64 = nL (m >>> k) := by
  apply Int64.toBitVec_inj.mp
  apply BitVec.eq_of_toNat_eq
  have e3 : ((((nI k)).toInt64.toUInt64 &&& Int64.toUInt64 63).toBitVec % 64).toNat = k := by
    have : ∀ k, k < 64 → ((((nI k)).toInt64.toUInt64 &&& Int64.toUInt64 63).toBitVec % 64).toNat = k := by decide +kernel
    exact this k hk
  have e : ((nL m).toUInt64 >>> (((nI k)).toInt64.toUInt64 &&& Int64.toUInt64 63)).toInt64.toBitVec = (nL m).toBitVec >>> ((((nI k)).toInt64.toUInt64 &&& Int64.toUInt64 63).toBitVec % 64).toNat := rfl
  have hs : m >>> k < 2 ^ 64 := Nat.lt_of_le_of_lt (Nat.shiftRight_le m k) hm
  rw [e, e3, nL_bv, nL_bv, BitVec.toNat_ushiftRight, BitVec.toNat_ofNat, BitVec.toNat_ofNat, Nat.mod_eq_of_lt hm, Nat.mod_eq_of_lt hs]
/-- the number of these bytes, the lowest first -/
def vl : List Nat → Nat
  | [] => 0
  | a :: t => a + 256 * vl t
def mk8 (c : Nat) : Nat → Nat
  | 0 => 0
  | n + 1 => c + 256 * mk8 c n
theorem by_g {a b k c C : Nat} (ha : a < 256) (hk : k ≤ 8) (hc : c < 2 ^ (8 - k)) : ((a + 256 * b) >>> k) &&& (c + 256 * C) = ((a >>> k) &&& c) + 256 * ((b >>> k) &&& C) := by
  have hc8 : c < 2 ^ 8 := Nat.lt_of_lt_of_le hc (Nat.pow_le_pow_right (by decide) (by omega))
  have hr : (a >>> k) &&& c < 2 ^ 8 := Nat.lt_of_le_of_lt Nat.and_le_right hc8
  rw [Nat.add_comm a, Nat.add_comm c, Nat.add_comm ((a >>> k) &&& c), show (256 : Nat) = 2 ^ 8 from rfl]
  apply Nat.eq_of_testBit_eq
  intro j
  rw [Nat.testBit_and, Nat.testBit_shiftRight, Nat.testBit_two_pow_mul_add _ ha, Nat.testBit_two_pow_mul_add _ hc8, Nat.testBit_two_pow_mul_add _ hr]
  by_cases h : j < 8
  · rw [if_pos h, if_pos h, Nat.testBit_and, Nat.testBit_shiftRight]
    by_cases h2 : k + j < 8
    · rw [if_pos h2]
    · have z : c.testBit j = false := Nat.testBit_lt_two_pow (Nat.lt_of_lt_of_le hc (Nat.pow_le_pow_right (by decide) (by omega)))
      rw [z, Bool.and_false, Bool.and_false]
  · rw [if_neg h, if_neg h, if_neg (by omega), Nat.testBit_and, Nat.testBit_shiftRight, show k + j - 8 = k + (j - 8) by omega]
theorem vl_and {k c : Nat} (hk : k ≤ 8) (hc : c < 2 ^ (8 - k)) : ∀ l : List Nat, (∀ a, a ∈ l → a < 256) → (vl l >>> k) &&& mk8 c l.length = vl (l.map fun a => (a >>> k) &&& c) := by
  intro l
  induction l with
  | nil => intro _; show (0 >>> k) &&& 0 = 0; exact Nat.and_zero _
  | cons a t ih =>
    intro h
    show ((a + 256 * vl t) >>> k) &&& (c + 256 * mk8 c t.length) = ((a >>> k) &&& c) + 256 * vl (t.map fun a => (a >>> k) &&& c)
    rw [by_g (h a List.mem_cons_self) hk hc, ih (fun a ha => h a (List.mem_cons_of_mem _ ha))]
theorem vl_sub (g : Nat → Nat) : ∀ l : List Nat, (∀ a, a ∈ l → g a ≤ a) → vl l - vl (l.map g) = vl (l.map fun a => a - g a) ∧ vl (l.map g) ≤ vl l := by
  intro l
  induction l with
  | nil => intro _; exact ⟨rfl, Nat.le_refl _⟩
  | cons a t ih =>
    intro h
    obtain ⟨e1, e2⟩ := ih (fun a ha => h a (List.mem_cons_of_mem _ ha))
    have ha := h a List.mem_cons_self
    show a + 256 * vl t - (g a + 256 * vl (t.map g)) = (a - g a) + 256 * vl (t.map fun a => a - g a) ∧ g a + 256 * vl (t.map g) ≤ a + 256 * vl t
    rw [← e1]
    omega
theorem vl_add (f g : Nat → Nat) : ∀ l : List Nat, vl (l.map f) + vl (l.map g) = vl (l.map fun a => f a + g a) := by
  intro l
  induction l with
  | nil => rfl
  | cons a t ih =>
    show f a + 256 * vl (t.map f) + (g a + 256 * vl (t.map g)) = (f a + g a) + 256 * vl (t.map fun a => f a + g a)
    rw [← ih]; omega
/-- halves of bytes, added up -/
def sh4 : List Nat → List Nat
  | [] => []
  | a :: t => (a + a / 16 + 16 * (vl t % 16)) :: sh4 t
theorem sh4_e : ∀ l : List Nat, vl l + vl l / 16 = vl (sh4 l) := by
  intro l
  induction l with
  | nil => rfl
  | cons a t ih =>
    show a + 256 * vl t + (a + 256 * vl t) / 16 = a + a / 16 + 16 * (vl t % 16) + 256 * vl (sh4 t)
    rw [← ih]; omega
theorem sh4_l : ∀ l : List Nat, (sh4 l).length = l.length := by
  intro l
  induction l with
  | nil => rfl
  | cons a t ih =>
    show (sh4 t).length + 1 = t.length + 1
    rw [ih]
theorem vl_16 : ∀ l : List Nat, (∀ a, a ∈ l → a % 16 ≤ 4) → vl l % 16 ≤ 4 := by
  intro l h
  cases l with
  | nil => exact Nat.zero_le _
  | cons a t =>
    show (a + 256 * vl t) % 16 ≤ 4
    have := h a List.mem_cons_self
    omega
theorem sh4_b : ∀ l : List Nat, (∀ a, a ∈ l → a ≤ 68 ∧ a % 16 ≤ 4) → ∀ a, a ∈ sh4 l → a < 256 := by
  intro l
  induction l with
  | nil => intro _ a h; cases h
  | cons a t ih =>
    intro h b hb
    have hb' : b ∈ (a + a / 16 + 16 * (vl t % 16)) :: sh4 t := hb
    rcases List.mem_cons.mp hb' with e | e
    · have := (h a List.mem_cons_self).1
      have := vl_16 t (fun a ha => (h a (List.mem_cons_of_mem _ ha)).2)
      omega
    · exact ih (fun a ha => h a (List.mem_cons_of_mem _ ha)) b e
theorem sh4_m : ∀ l : List Nat, (sh4 l).map (fun a => a % 16) = l.map b3 := by
  intro l
  induction l with
  | nil => rfl
  | cons a t ih =>
    show (a + a / 16 + 16 * (vl t % 16)) % 16 :: (sh4 t).map (fun a => a % 16) = b3 a :: t.map b3
    rw [ih]
    congr 1
    unfold b3
    omega
def by8 (m : Nat) : List Nat := [m % 256, m / 256 % 256, m / 65536 % 256, m / 16777216 % 256, m / 4294967296 % 256, m / 1099511627776 % 256, m / 281474976710656 % 256, m / 72057594037927936]
theorem st256 (a b : Nat) (h : b = a / 256) : a % 256 + 256 * b = a := by omega
theorem by8_v {m : Nat} : vl (by8 m) = m := by
  show m % 256 + 256 * (m / 256 % 256 + 256 * (m / 65536 % 256 + 256 * (m / 16777216 % 256 + 256 * (m / 4294967296 % 256 + 256 * (m / 1099511627776 % 256 + 256 * (m / 281474976710656 % 256 + 256 * (m / 72057594037927936 + 256 * 0))))))) = m
  rw [Nat.mul_zero, Nat.add_zero]
  rw [st256 (m / 281474976710656) (m / 72057594037927936) (by rw [Nat.div_div_eq_div_mul])]
  rw [st256 (m / 1099511627776) (m / 281474976710656) (by rw [Nat.div_div_eq_div_mul])]
  rw [st256 (m / 4294967296) (m / 1099511627776) (by rw [Nat.div_div_eq_div_mul])]
  rw [st256 (m / 16777216) (m / 4294967296) (by rw [Nat.div_div_eq_div_mul])]
  rw [st256 (m / 65536) (m / 16777216) (by rw [Nat.div_div_eq_div_mul])]
  rw [st256 (m / 256) (m / 65536) (by rw [Nat.div_div_eq_div_mul])]
  rw [st256 (m) (m / 256) (by rfl)]
theorem by8_b {m : Nat} (h : m < 2 ^ 64) : ∀ a, a ∈ by8 m → a < 256 := by
  intro a ha
  unfold by8 at ha
  simp only [List.mem_cons, List.not_mem_nil, or_false] at ha
  rcases ha with e | e | e | e | e | e | e | e
  · rw [e]; exact Nat.mod_lt _ (by decide)
  · rw [e]; exact Nat.mod_lt _ (by decide)
  · rw [e]; exact Nat.mod_lt _ (by decide)
  · rw [e]; exact Nat.mod_lt _ (by decide)
  · rw [e]; exact Nat.mod_lt _ (by decide)
  · rw [e]; exact Nat.mod_lt _ (by decide)
  · rw [e]; exact Nat.mod_lt _ (by decide)
  · rw [e]; exact Nat.div_lt_of_lt_mul (by rw [show 72057594037927936 * 256 = 2 ^ 64 from by decide]; exact h)
theorem m85 : mk8 85 8 = 6148914691236517205 := by decide +kernel
theorem m51 : mk8 51 8 = 3689348814741910323 := by decide +kernel
theorem m15 : mk8 15 8 = 1085102592571150095 := by decide +kernel
theorem d1b {x a R : Nat} (e : x = a + 256 * R) (ha : a < 256) : x / 256 = R := by omega
theorem d2b {x a b R : Nat} (e : x = a + 256 * (b + 256 * R)) (ha : a < 256) (hb : b < 256) : x / 65536 = R := by omega
theorem d4b {x a b c d R : Nat} (e : x = a + 256 * (b + 256 * (c + 256 * (d + 256 * R)))) (ha : a < 256) (hb : b < 256) (hc : c < 256) (hd : d < 256) : x / 4294967296 = R := by
  have e1 := d2b e ha hb
  have e2 := d2b e1 hc hd
  rw [Nat.div_div_eq_div_mul] at e2
  exact e2
theorem m1b {x a R : Nat} (e : x = a + 256 * R) (ha : a < 128) : x % 128 = a := by omega
def pq8 (m : Nat) : Nat := pq (m % 256) + (pq (m / 256 % 256) + (pq (m / 65536 % 256) + (pq (m / 16777216 % 256) + (pq (m / 4294967296 % 256) + (pq (m / 1099511627776 % 256) + (pq (m / 281474976710656 % 256) + pq (m / 72057594037927936)))))))
theorem k7l (p0 p1 p2 p3 p4 p5 p6 p7 : Nat) : p0 + 256 * (p1 + 256 * (p2 + 256 * (p3 + 256 * (p4 + 256 * (p5 + 256 * (p6 + 256 * (p7))))))) + (p1 + 256 * (p2 + 256 * (p3 + 256 * (p4 + 256 * (p5 + 256 * (p6 + 256 * (p7))))))) = (p0 + p1) + 256 * ((p1 + p2) + 256 * ((p2 + p3) + 256 * ((p3 + p4) + 256 * ((p4 + p5) + 256 * ((p5 + p6) + 256 * ((p6 + p7) + 256 * (p7))))))) := by omega
theorem k9l (p0 p1 p2 p3 p4 p5 p6 p7 : Nat) : (p0 + p1) + 256 * ((p1 + p2) + 256 * ((p2 + p3) + 256 * ((p3 + p4) + 256 * ((p4 + p5) + 256 * ((p5 + p6) + 256 * ((p6 + p7) + 256 * (p7))))))) + ((p2 + p3) + 256 * ((p3 + p4) + 256 * ((p4 + p5) + 256 * ((p5 + p6) + 256 * ((p6 + p7) + 256 * (p7)))))) = (p0 + p1 + p2 + p3) + 256 * ((p1 + p2 + p3 + p4) + 256 * ((p2 + p3 + p4 + p5) + 256 * ((p3 + p4 + p5 + p6) + 256 * ((p4 + p5 + p6 + p7) + 256 * ((p5 + p6 + p7) + 256 * ((p6 + p7) + 256 * (p7))))))) := by omega
theorem k11l (p0 p1 p2 p3 p4 p5 p6 p7 : Nat) : (p0 + p1 + p2 + p3) + 256 * ((p1 + p2 + p3 + p4) + 256 * ((p2 + p3 + p4 + p5) + 256 * ((p3 + p4 + p5 + p6) + 256 * ((p4 + p5 + p6 + p7) + 256 * ((p5 + p6 + p7) + 256 * ((p6 + p7) + 256 * (p7))))))) + ((p4 + p5 + p6 + p7) + 256 * ((p5 + p6 + p7) + 256 * ((p6 + p7) + 256 * (p7)))) = (p0 + p1 + p2 + p3 + p4 + p5 + p6 + p7) + 256 * ((p1 + p2 + p3 + p4 + p5 + p6 + p7) + 256 * ((p2 + p3 + p4 + p5 + p6 + p7) + 256 * ((p3 + p4 + p5 + p6 + p7) + 256 * ((p4 + p5 + p6 + p7) + 256 * ((p5 + p6 + p7) + 256 * ((p6 + p7) + 256 * (p7))))))) := by omega
theorem eql (p0 p1 p2 p3 p4 p5 p6 p7 : Nat) : p0 + p1 + p2 + p3 + p4 + p5 + p6 + p7 = p0 + (p1 + (p2 + (p3 + (p4 + (p5 + (p6 + p7)))))) := by omega
theorem bnl5 (p0 p1 p2 p3 p4 p5 p6 p7 : Nat) (q0 : p0 ≤ 8) (q1 : p1 ≤ 8) (q2 : p2 ≤ 8) (q3 : p3 ≤ 8) (q4 : p4 ≤ 8) (q5 : p5 ≤ 8) (q6 : p6 ≤ 8) (q7 : p7 ≤ 8) : p0 + 256 * (p1 + 256 * (p2 + 256 * (p3 + 256 * (p4 + 256 * (p5 + 256 * (p6 + 256 * (p7))))))) < 2 ^ 64 := by omega
theorem bnl7 (p0 p1 p2 p3 p4 p5 p6 p7 : Nat) (q0 : p0 ≤ 8) (q1 : p1 ≤ 8) (q2 : p2 ≤ 8) (q3 : p3 ≤ 8) (q4 : p4 ≤ 8) (q5 : p5 ≤ 8) (q6 : p6 ≤ 8) (q7 : p7 ≤ 8) : (p0 + p1) + 256 * ((p1 + p2) + 256 * ((p2 + p3) + 256 * ((p3 + p4) + 256 * ((p4 + p5) + 256 * ((p5 + p6) + 256 * ((p6 + p7) + 256 * (p7))))))) < 2 ^ 64 := by omega
theorem bnl9 (p0 p1 p2 p3 p4 p5 p6 p7 : Nat) (q0 : p0 ≤ 8) (q1 : p1 ≤ 8) (q2 : p2 ≤ 8) (q3 : p3 ≤ 8) (q4 : p4 ≤ 8) (q5 : p5 ≤ 8) (q6 : p6 ≤ 8) (q7 : p7 ≤ 8) : (p0 + p1 + p2 + p3) + 256 * ((p1 + p2 + p3 + p4) + 256 * ((p2 + p3 + p4 + p5) + 256 * ((p3 + p4 + p5 + p6) + 256 * ((p4 + p5 + p6 + p7) + 256 * ((p5 + p6 + p7) + 256 * ((p6 + p7) + 256 * (p7))))))) < 2 ^ 64 := by omega
theorem le2 {a b : Nat} (ha : a ≤ 8) (hb : b ≤ 8) : a + b < 256 := by omega
theorem le4 {a b c d : Nat} (ha : a ≤ 8) (hb : b ≤ 8) (hc : c ≤ 8) (hd : d ≤ 8) : a + b + c + d < 256 := by omega
theorem le8 {a b c d e f g h : Nat} (ha : a ≤ 8) (hb : b ≤ 8) (hc : c ≤ 8) (hd : d ≤ 8) (he : e ≤ 8) (hf : f ≤ 8) (hg : g ≤ 8) (hh : h ≤ 8) : a + b + c + d + e + f + g + h < 128 := by omega
theorem bc_ar (p0 p1 p2 p3 p4 p5 p6 p7 X5 : Nat) (q0 : p0 ≤ 8) (q1 : p1 ≤ 8) (q2 : p2 ≤ 8) (q3 : p3 ≤ 8) (q4 : p4 ≤ 8) (q5 : p5 ≤ 8) (q6 : p6 ≤ 8) (q7 : p7 ≤ 8) (v5 : X5 = p0 + 256 * (p1 + 256 * (p2 + 256 * (p3 + 256 * (p4 + 256 * (p5 + 256 * (p6 + 256 * (p7)))))))) : X5 < 2 ^ 64 ∧ X5 + X5 >>> 8 < 2 ^ 64 ∧ (X5 + X5 >>> 8) + (X5 + X5 >>> 8) >>> 16 < 2 ^ 64 ∧ (((X5 + X5 >>> 8) + (X5 + X5 >>> 8) >>> 16) + ((X5 + X5 >>> 8) + (X5 + X5 >>> 8) >>> 16) >>> 32) &&& 127 = p0 + (p1 + (p2 + (p3 + (p4 + (p5 + (p6 + p7)))))) := by
  have k7 : X5 + X5 >>> 8 = (p0 + p1) + 256 * ((p1 + p2) + 256 * ((p2 + p3) + 256 * ((p3 + p4) + 256 * ((p4 + p5) + 256 * ((p5 + p6) + 256 * ((p6 + p7) + 256 * (p7))))))) := by
    rw [Nat.shiftRight_eq_div_pow, show (2 : Nat) ^ 8 = 256 from rfl, d1b v5 (Nat.lt_of_le_of_lt q0 (by decide)), v5]
    exact k7l p0 p1 p2 p3 p4 p5 p6 p7
  generalize X5 + X5 >>> 8 = X7 at *
  have k9 : X7 + X7 >>> 16 = (p0 + p1 + p2 + p3) + 256 * ((p1 + p2 + p3 + p4) + 256 * ((p2 + p3 + p4 + p5) + 256 * ((p3 + p4 + p5 + p6) + 256 * ((p4 + p5 + p6 + p7) + 256 * ((p5 + p6 + p7) + 256 * ((p6 + p7) + 256 * (p7))))))) := by
    rw [Nat.shiftRight_eq_div_pow, show (2 : Nat) ^ 16 = 65536 from rfl, d2b k7 (le2 q0 q1) (le2 q1 q2), k7]
    exact k9l p0 p1 p2 p3 p4 p5 p6 p7
  generalize X7 + X7 >>> 16 = X9 at *
  have k11 : X9 + X9 >>> 32 = (p0 + p1 + p2 + p3 + p4 + p5 + p6 + p7) + 256 * ((p1 + p2 + p3 + p4 + p5 + p6 + p7) + 256 * ((p2 + p3 + p4 + p5 + p6 + p7) + 256 * ((p3 + p4 + p5 + p6 + p7) + 256 * ((p4 + p5 + p6 + p7) + 256 * ((p5 + p6 + p7) + 256 * ((p6 + p7) + 256 * (p7))))))) := by
    rw [Nat.shiftRight_eq_div_pow, show (2 : Nat) ^ 32 = 4294967296 from rfl, d4b k9 (le4 q0 q1 q2 q3) (le4 q1 q2 q3 q4) (le4 q2 q3 q4 q5) (le4 q3 q4 q5 q6), k9]
    exact k11l p0 p1 p2 p3 p4 p5 p6 p7
  refine ⟨by rw [v5]; exact bnl5 p0 p1 p2 p3 p4 p5 p6 p7 q0 q1 q2 q3 q4 q5 q6 q7, by rw [k7]; exact bnl7 p0 p1 p2 p3 p4 p5 p6 p7 q0 q1 q2 q3 q4 q5 q6 q7, by rw [k9]; exact bnl9 p0 p1 p2 p3 p4 p5 p6 p7 q0 q1 q2 q3 q4 q5 q6 q7, ?_⟩
  have : (X9 + X9 >>> 32) &&& 127 = (X9 + X9 >>> 32) % 128 := Nat.and_two_pow_sub_one_eq_mod _ 7
  rw [this, m1b k11 (le8 q0 q1 q2 q3 q4 q5 q6 q7)]
  exact eql p0 p1 p2 p3 p4 p5 p6 p7
theorem f_bcl {m : Nat} (hm : m < 2 ^ 64) (M : Mem) : f_J13_bitCount_95d88 (nL m) M = some (nI (pq8 m)) := by
  have hb := by8_b hm
  have hv := by8_v (m := m)
  have l8 : (by8 m).length = 8 := rfl
  -- the first step
  have s1 : (m >>> 1) &&& 6148914691236517205 = vl ((by8 m).map fun a => (a >>> 1) &&& 85) := by
    have e := vl_and (k := 1) (c := 85) (by decide) (by decide) (by8 m) hb
    rw [hv, l8, m85] at e
    exact e
  have t1 := vl_sub (fun a => (a >>> 1) &&& 85) (by8 m) (fun a ha => (by_all a (hb a ha)).1.1)
  rw [hv] at t1
  have x1 : m - ((m >>> 1) &&& 6148914691236517205) = vl ((by8 m).map b1) := by rw [s1]; exact t1.1
  have le1 : (m >>> 1) &&& 6148914691236517205 ≤ m := by rw [s1]; exact t1.2
  generalize hL1 : (by8 m).map b1 = L1 at x1
  have hb1 : ∀ a, a ∈ L1 → a < 256 := fun a ha => by
    rw [← hL1] at ha
    obtain ⟨y, hy, rfl⟩ := List.mem_map.mp ha
    exact (by_all y (hb y hy)).1.2
  have l1 : L1.length = 8 := by rw [← hL1]; rfl
  have s2 : vl L1 &&& 3689348814741910323 = vl (L1.map fun a => a &&& 51) := by
    have e := vl_and (k := 0) (c := 51) (by decide) (by decide) L1 hb1
    rw [l1, m51] at e
    exact e
  have s3 : (vl L1 >>> 2) &&& 3689348814741910323 = vl (L1.map fun a => (a >>> 2) &&& 51) := by
    have e := vl_and (k := 2) (c := 51) (by decide) (by decide) L1 hb1
    rw [l1, m51] at e
    exact e
  have x3 : (vl L1 &&& 3689348814741910323) + ((vl L1 >>> 2) &&& 3689348814741910323) = vl (L1.map b2) := by
    rw [s2, s3]
    exact vl_add (fun a => a &&& 51) (fun a => (a >>> 2) &&& 51) L1
  generalize hL2 : L1.map b2 = L2 at x3
  have hb2 : ∀ a, a ∈ L2 → a ≤ 68 ∧ a % 16 ≤ 4 := fun a ha => by
    rw [← hL2] at ha
    obtain ⟨z, hz, rfl⟩ := List.mem_map.mp ha
    rw [← hL1] at hz
    obtain ⟨y, hy, rfl⟩ := List.mem_map.mp hz
    exact (by_all y (hb y hy)).2.1
  have l2 : L2.length = 8 := by rw [← hL2, List.length_map]; exact l1
  have s5 : (vl L2 + (vl L2 >>> 4)) &&& 1085102592571150095 = vl (L2.map b3) := by
    have e := vl_and (k := 0) (c := 15) (by decide) (by decide) (sh4 L2) (sh4_b L2 hb2)
    rw [sh4_l, l2, ← sh4_e, m15] at e
    have m15b : (fun a : Nat => a >>> 0 &&& 15) = fun a => a % 16 := by
      funext a
      exact Nat.and_two_pow_sub_one_eq_mod a 4
    rw [m15b, sh4_m] at e
    rw [Nat.shiftRight_eq_div_pow]
    exact e
  have x5 : vl (L2.map b3) = vl ((by8 m).map pq) := by
    rw [← hL2, ← hL1, List.map_map, List.map_map]
    congr 1
    apply List.map_congr_left
    intro a ha
    exact (by_all a (hb a ha)).2.2.1
  have p8 : ∀ a, a ∈ by8 m → pq a ≤ 8 := fun a ha => (by_all a (hb a ha)).2.2.2
  have q0 := p8 (m % 256) (by unfold by8; simp)
  have q1 := p8 (m / 256 % 256) (by unfold by8; simp)
  have q2 := p8 (m / 65536 % 256) (by unfold by8; simp)
  have q3 := p8 (m / 16777216 % 256) (by unfold by8; simp)
  have q4 := p8 (m / 4294967296 % 256) (by unfold by8; simp)
  have q5 := p8 (m / 1099511627776 % 256) (by unfold by8; simp)
  have q6 := p8 (m / 281474976710656 % 256) (by unfold by8; simp)
  have q7 := p8 (m / 72057594037927936) (by unfold by8; simp)
  have v5 : vl ((by8 m).map pq) = pq (m % 256) + 256 * (pq (m / 256 % 256) + 256 * (pq (m / 65536 % 256) + 256 * (pq (m / 16777216 % 256) + 256 * (pq (m / 4294967296 % 256) + 256 * (pq (m / 1099511627776 % 256) + 256 * (pq (m / 281474976710656 % 256) + 256 * pq (m / 72057594037927936))))))) := by
    unfold by8
    simp only [List.map_cons, List.map_nil, vl, Nat.mul_zero, Nat.add_zero]
  have ep : pq8 m = pq (m % 256) + (pq (m / 256 % 256) + (pq (m / 65536 % 256) + (pq (m / 16777216 % 256) + (pq (m / 4294967296 % 256) + (pq (m / 1099511627776 % 256) + (pq (m / 281474976710656 % 256) + pq (m / 72057594037927936))))))) := rfl
  generalize pq (m % 256) = p0 at *
  generalize pq (m / 256 % 256) = p1 at *
  generalize pq (m / 65536 % 256) = p2 at *
  generalize pq (m / 16777216 % 256) = p3 at *
  generalize pq (m / 4294967296 % 256) = p4 at *
  generalize pq (m / 1099511627776 % 256) = p5 at *
  generalize pq (m / 281474976710656 % 256) = p6 at *
  generalize pq (m / 72057594037927936) = p7 at *
  generalize hX1 : vl L1 = X1 at *
  generalize hX3 : vl L2 = X3 at *
  generalize hX5 : vl ((by8 m).map pq) = X5 at *
  obtain ⟨b5, b7, b9, ba⟩ := bc_ar p0 p1 p2 p3 p4 p5 p6 p7 X5 q0 q1 q2 q3 q4 q5 q6 q7 v5
  clear v5
  generalize hX7 : X5 + X5 >>> 8 = X7 at *
  generalize hX9 : X7 + X7 >>> 16 = X9 at *
  generalize hX11 : X9 + X9 >>> 32 = X11 at *
  have m127 : X11 &&& 127 = pq8 m := by rw [ba, ep]
  have lX1 : X1 ≤ m := by rw [← x1]; exact Nat.sub_le _ _
  have lX3 : X3 < 2 ^ 64 := by rw [← x3]; exact Nat.lt_of_le_of_lt (Nat.add_le_add Nat.and_le_right Nat.and_le_right) (by decide)
  have h1 := lsh m 1 hm (by decide)
  have h2 := lsh X1 2 (Nat.lt_of_le_of_lt lX1 hm) (by decide)
  have h4 := lsh X3 4 lX3 (by decide)
  have h8 := lsh X5 8 b5 (by decide)
  have h16 := lsh X7 16 b7 (by decide)
  have h32 := lsh X9 32 b9 (by decide)
  have fin : (nL X11).toInt32 &&& (127 : Int32) = nI (X11 &&& 127) := by
    have e : (nL X11).toInt32 = nI X11 := by
      apply Int32.toBitVec_inj.mp
      show (BitVec.ofNat 64 X11).signExtend 32 = BitVec.ofNat 32 X11
      rw [BitVec.signExtend_eq_setWidth_of_le _ (by decide)]
      apply BitVec.eq_of_toNat_eq
      rw [BitVec.toNat_setWidth, BitVec.toNat_ofNat, BitVec.toNat_ofNat]
      exact Nat.mod_mod_of_dvd X11 ⟨2 ^ 32, rfl⟩
    rw [e, show (127 : Int32) = nI 127 from rfl, nx_and]
  rw [f_J13_bitCount_95d88, show ((1 : Int32)).toInt64 = (nI 1).toInt64 from rfl, h1, show (6148914691236517205 : Int64) = nL 6148914691236517205 from rfl, nL_and, nL_sb le1, x1, bnd_e, show ((2 : Int32)).toInt64 = (nI 2).toInt64 from rfl, h2, show (3689348814741910323 : Int64) = nL 3689348814741910323 from rfl, nL_and, nL_and, nL_add, x3, bnd_e, show ((4 : Int32)).toInt64 = (nI 4).toInt64 from rfl, h4, show (1085102592571150095 : Int64) = nL 1085102592571150095 from rfl, nL_add, nL_and, s5, x5, bnd_e, show ((8 : Int32)).toInt64 = (nI 8).toInt64 from rfl, h8, nL_add, hX7, bnd_e, show ((16 : Int32)).toInt64 = (nI 16).toInt64 from rfl, h16, nL_add, hX9, bnd_e, show ((32 : Int32)).toInt64 = (nI 32).toInt64 from rfl, h32, nL_add, hX11, bnd_e, fin, m127]
/-- how many bits a word has -/
def cnw (x : Int64) : Nat := smN (fun i => if qb x i = true then 1 else 0) 64
theorem smN_ap (f : Nat → Nat) (a : Nat) : ∀ b, smN f (a + b) = smN f a + smN (fun i => f (a + i)) b := by
  intro b
  induction b with
  | zero => rfl
  | succ b ih =>
    show smN f (a + b) + f (a + b) = smN f a + (smN (fun i => f (a + i)) b + f (a + b))
    rw [ih]; omega
theorem pq_k : ∀ a, a < 256 → pq a = smN (fun i => if a.testBit i = true then 1 else 0) 8 := by decide +kernel
theorem pq8_s {m : Nat} (hm : m < 2 ^ 64) : pq8 m = smN (fun i => if m.testBit i = true then 1 else 0) 64 := by
  have h : ∀ k, smN (fun i => if m.testBit (8 * k + i) = true then 1 else 0) 8 = pq (m / 2 ^ (8 * k) % 256) := fun k => by
    rw [pq_k _ (Nat.mod_lt _ (by decide))]
    apply smN_c
    intro i hi
    rw [show (256 : Nat) = 2 ^ 8 from rfl, Nat.testBit_mod_two_pow, decide_eq_true hi, Bool.true_and, ← Nat.shiftRight_eq_div_pow, Nat.testBit_shiftRight]
  have e : smN (fun i => if m.testBit i = true then 1 else 0) 64 = smN (fun i => if m.testBit (8 * 0 + i) = true then 1 else 0) 8 + (smN (fun i => if m.testBit (8 * 1 + i) = true then 1 else 0) 8 + (smN (fun i => if m.testBit (8 * 2 + i) = true then 1 else 0) 8 + (smN (fun i => if m.testBit (8 * 3 + i) = true then 1 else 0) 8 + (smN (fun i => if m.testBit (8 * 4 + i) = true then 1 else 0) 8 + (smN (fun i => if m.testBit (8 * 5 + i) = true then 1 else 0) 8 + (smN (fun i => if m.testBit (8 * 6 + i) = true then 1 else 0) 8 + smN (fun i => if m.testBit (8 * 7 + i) = true then 1 else 0) 8)))))) := by
    have z : ∀ b, smN (fun i => if m.testBit i = true then 1 else 0) (8 + b) = smN (fun i => if m.testBit (8 * 0 + i) = true then 1 else 0) 8 + smN (fun i => if m.testBit (8 * 1 + i) = true then 1 else 0) b := fun b => by
      rw [smN_ap]
      congr 1
    have s : ∀ k b, smN (fun i => if m.testBit (8 * k + i) = true then 1 else 0) (8 + b) = smN (fun i => if m.testBit (8 * k + i) = true then 1 else 0) 8 + smN (fun i => if m.testBit (8 * (k + 1) + i) = true then 1 else 0) b := fun k b => by
      rw [smN_ap]
      congr 1
      apply smN_c
      intro i _
      rw [show 8 * k + (8 + i) = 8 * (k + 1) + i by omega]
    rw [show (64 : Nat) = 8 + 56 from rfl, z, show (56 : Nat) = 8 + 48 from rfl, s, show (48 : Nat) = 8 + 40 from rfl, s, show (40 : Nat) = 8 + 32 from rfl, s, show (32 : Nat) = 8 + 24 from rfl, s, show (24 : Nat) = 8 + 16 from rfl, s, show (16 : Nat) = 8 + 8 from rfl, s]
  rw [e, h, h, h, h, h, h, h, h]
  unfold pq8
  have t : m / 2 ^ (8 * 7) % 256 = m / 72057594037927936 := by
    rw [show (2 : Nat) ^ (8 * 7) = 72057594037927936 from rfl]; omega
  rw [t, show (2 : Nat) ^ (8 * 0) = 1 from rfl, Nat.div_one]
theorem f_bcw (x : Int64) (M : Mem) : f_J13_bitCount_95d88 x M = some (nI (cnw x)) := by
  have e := f_bcl x.toBitVec.isLt M
  rw [← nL_tn x, pq8_s x.toBitVec.isLt] at e
  exact e
/-! ===== counts of sets, the class ===== -/
theorem smN_fl (f : Nat → Nat) : ∀ u, smN (fun w => smN (fun j => f (64 * w + j)) 64) u = smN f (64 * u) := by
  intro u
  induction u with
  | zero => rfl
  | succ u ih =>
    rw [show 64 * (u + 1) = 64 * u + 64 by omega, smN_ap f (64 * u) 64, ← ih]
    rfl
theorem smN_z {f : Nat → Nat} : ∀ n, (∀ i, i < n → f i = 0) → smN f n = 0 := by
  intro n
  induction n with
  | zero => intro _; rfl
  | succ n ih =>
    intro h
    show smN f n + f n = 0
    rw [ih (fun i hi => h i (by omega)), h n (by omega)]
theorem smN_cut {f : Nat → Nat} {a b : Nat} (h : a ≤ b) (z : ∀ i, a ≤ i → i < b → f i = 0) : smN f b = smN f a := by
  obtain ⟨c, rfl⟩ : ∃ c, b = a + c := ⟨b - a, by omega⟩
  rw [smN_ap, smN_z c (fun i hi => z (a + i) (by omega) (by omega)), Nat.add_zero]
def smL (f : Nat → Int64) : Nat → Int64
  | 0 => 0
  | n + 1 => smL f n + f n
theorem smL_ap (f : Nat → Int64) (a : Nat) : ∀ b, smL f (a + b) = smL f a + smL (fun i => f (a + i)) b := by
  intro b
  induction b with
  | zero => exact (Int64.add_zero _).symm
  | succ b ih =>
    show smL f (a + b) + f (a + b) = smL f a + (smL (fun i => f (a + i)) b + f (a + b))
    rw [ih, Int64.add_assoc]
theorem smL_c {f g : Nat → Int64} : ∀ n, (∀ i, i < n → f i = g i) → smL f n = smL g n := by
  intro n
  induction n with
  | zero => intro _; rfl
  | succ n ih =>
    intro h
    show smL f n + f n = smL g n + g n
    rw [ih (fun i hi => h i (by omega)), h n (by omega)]
theorem smL_z {f : Nat → Int64} : ∀ n, (∀ i, i < n → f i = 0) → smL f n = 0 := by
  intro n
  induction n with
  | zero => intro _; rfl
  | succ n ih =>
    intro h
    show smL f n + f n = 0
    rw [ih (fun i hi => h i (by omega)), h n (by omega), Int64.add_zero]
theorem smL_add (f g : Nat → Int64) : ∀ n, smL f n + smL g n = smL (fun i => f i + g i) n := by
  intro n
  induction n with
  | zero => exact Int64.add_zero _
  | succ n ih =>
    show smL f n + f n + (smL g n + g n) = smL (fun i => f i + g i) n + (f n + g n)
    rw [← ih]
    ac_rfl
theorem smL_fl (f : Nat → Int64) : ∀ u, smL (fun w => smL (fun j => f (64 * w + j)) 64) u = smL f (64 * u) := by
  intro u
  induction u with
  | zero => rfl
  | succ u ih =>
    rw [show 64 * (u + 1) = 64 * u + 64 by omega, smL_ap f (64 * u) 64, ← ih]
    rfl
theorem smL_cut {f : Nat → Int64} {a b : Nat} (h : a ≤ b) (z : ∀ i, a ≤ i → i < b → f i = 0) : smL f b = smL f a := by
  obtain ⟨c, rfl⟩ : ∃ c, b = a + c := ⟨b - a, by omega⟩
  rw [smL_ap, smL_z c (fun i hi => z (a + i) (by omega) (by omega)), Int64.add_zero]
theorem smL_one (x : Int64) (V : Int64) : ∀ n, nL (smN (fun i => if qb x i = true then 1 else 0) n) * V = smL (fun i => if qb x i = true then V else 0) n := by
  intro n
  induction n with
  | zero => exact Int64.zero_mul
  | succ n ih =>
    show nL (smN (fun i => if qb x i = true then 1 else 0) n + (if qb x n = true then 1 else 0)) * V = smL (fun i => if qb x i = true then V else 0) n + (if qb x n = true then V else 0)
    rw [← nL_add, Int64.add_mul, ih]
    congr 1
    by_cases c : qb x n = true
    · rw [if_pos c, if_pos c]; exact Int64.one_mul _
    · rw [if_neg c, if_neg c]; exact Int64.zero_mul
/-- of all sets, or those with a node -/
def hvp (a : Int32) (h : Nat → Bool) : Prop := (a = -1 ∧ ∀ X, h X = true) ∨ ∃ v, v < 16 ∧ a = nI v ∧ ∀ X, h X = X.testBit v
section
variable {M : Mem} {o q N : Nat}
theorem F1.hvv (f : F1 M o q N) (h16 : N ≤ 16) {k : Nat} (hk : k < us6 N) {a : Int32} {h : Nat → Bool} (ha : hvp a h) : ∃ r, f_X1_having o (nI k) a M = some r ∧ ∀ j, j < 64 → qb r j = (fb (mL M q) (64 * k + j) && h (64 * k + j)) := by
  have u := us_b h16
  have ib : inB (nI k) 1024 := inB_n (by omega) (by decide)
  rcases ha with ⟨rfl, hh⟩ | ⟨v, hv, rfl, hh⟩
  · refine ⟨mL M q k, by rw [f_X1_having, if_neg (show ¬ (0 : Int32) ≤ -1 by decide), chk_t f.1.1, f.1.2.1, bnd_e, chk_t f.1.2.2.1, f.1.2.2.2, chk_t ib, mL_c (by omega)], fun j hj => ?_⟩
    rw [fb_w _ hj, hh, Bool.and_true]
  · rw [f_X1_having, if_pos (show (0 : Int32) ≤ nI v from nI_le (a := 0) (Nat.zero_le _) (by omega))]
    by_cases c : 6 ≤ v
    · rw [if_pos (show (6 : Int32) ≤ nI v from nI_le (a := 6) c (by omega)), show nI v - (6 : Int32) = nI (v - 6) by rw [show (6 : Int32) = nI 6 from rfl, nI_sb c], sh_bit (nI k) (show v - 6 < 32 by omega), bt_nI _ (show v - 6 < 32 by omega)]
      have tb : ∀ j, j < 64 → (64 * k + j).testBit v = k.testBit (v - 6) := fun j hj => by
        have := d64 (64 * k + j) (v - 6)
        rw [show (64 * k + j) / 64 = k by omega, show 6 + (v - 6) = v by omega] at this
        exact this.symm
      by_cases b : k.testBit (v - 6) = true
      · refine ⟨mL M q k, by rw [if_pos b, if_neg ne10, chk_t f.1.1, f.1.2.1, bnd_e, chk_t f.1.2.2.1, f.1.2.2.2, chk_t ib, mL_c (by omega)], fun j hj => ?_⟩
        rw [fb_w _ hj, hh, tb j hj, b, Bool.and_true]
      · refine ⟨0, by rw [if_neg b, if_pos rfl], fun j hj => ?_⟩
        rw [qb_0, hh, tb j hj]
        cases z : k.testBit (v - 6)
        · rw [Bool.and_false]
        · exact absurd z b
    · rw [if_neg (show ¬ (6 : Int32) ≤ nI v from nI_ge (b := 6) (by omega) (by decide))]
      refine ⟨mL M q k &&& l_HV v, by rw [chk_t f.1.1, f.1.2.1, bnd_e, chk_t f.1.2.2.1, f.1.2.2.2, chk_t ib, chk_t (inB_n (show v < 6 by omega) (by decide)), mL_c (by omega), nI_clamp (show v < 2 ^ 31 by omega)], fun j hj => ?_⟩
      have tb : (64 * k + j).testBit v = j.testBit v := by
        have := m64 (64 * k + j) v
        rw [show (64 * k + j) % 64 = j by omega, decide_eq_true (show v < 6 by omega), Bool.true_and] at this
        exact this.symm
      rw [qb_and, fb_w _ hj, hv_k v (by omega) j hj, hh, tb]
/-- how many sets of a word -/
def cwd (W : Nat → Int64) (h : Nat → Bool) (w : Nat) : Nat := smN (fun j => if (fb W (64 * w + j) && h (64 * w + j)) = true then 1 else 0) 64
theorem cwd_e {x : Int64} {W : Nat → Int64} {h : Nat → Bool} {w : Nat} (e : ∀ j, j < 64 → qb x j = (fb W (64 * w + j) && h (64 * w + j))) : cnw x = cwd W h w :=
  smN_c 64 (fun j hj => by rw [e j hj])
theorem F1.tbv (f : F1 M o q N) (h16 : N ≤ 16) {v : Nat} (hv : v < 16) : ∀ (d i n : Nat) (c : Int32) (a l : Nat), i + d = us6 N → c + nI l = nI (2 * a) → d + 1 ≤ n → ∃ r, f_X1_turnedBy_4 M n o (nI v) c (nI i) = some r ∧ r + nI (l + smN (fun t => cwd (mL M q) (fun _ => true) (i + t)) d) = nI (2 * (a + smN (fun t => cwd (mL M q) (fun X => X.testBit v) (i + t)) d)) := by
  have u := us_b h16
  intro d
  induction d with
  | zero =>
    intro i n c a l hi hc hn
    obtain ⟨n, rfl⟩ : ∃ m, n = m + 1 := ⟨n - 1, by omega⟩
    exact ⟨c, by rw [f_X1_turnedBy_4, chk_t f.1.1, f.2.2, if_pos (nI_le (by omega) (by omega))], hc⟩
  | succ d ih =>
    intro i n c a l hi hc hn
    obtain ⟨n, rfl⟩ : ∃ m, n = m + 1 := ⟨n - 1, by omega⟩
    obtain ⟨x, ex, hx⟩ := f.hvv h16 (k := i) (by omega) (a := nI v) (h := fun X => X.testBit v) (Or.inr ⟨v, hv, rfl, fun _ => rfl⟩)
    have cx : cnw x = cwd (mL M q) (fun X => X.testBit v) i := cwd_e hx
    have cy : cnw (mL M q i) = cwd (mL M q) (fun _ => true) i := cwd_e (fun j hj => by rw [fb_w _ hj, Bool.and_true])
    have sh : ∀ g : Nat → Nat, smN (fun t => g (i + t)) (d + 1) = g i + smN (fun t => g (i + 1 + t)) d := fun g => by
      rw [Nat.add_comm d 1, smN_ap]
      show (0 + g (i + 0)) + _ = _
      rw [Nat.zero_add, Nat.add_zero]
      congr 1
      apply smN_c
      intro t _
      show g (i + (1 + t)) = g (i + 1 + t)
      rw [Nat.add_assoc]
    obtain ⟨r, er, hr⟩ := ih (i + 1) n (c + (((2 : Int32) * nI (cnw x)) - nI (cnw (mL M q i)))) (a + cwd (mL M q) (fun X => X.testBit v) i) (l + cwd (mL M q) (fun _ => true) i) (by omega) (by
      rw [cx, cy, ← nI_add]
      have e2 : ∀ z y : Int32, z - y + y = z := fun z y => Int32.sub_add_cancel z y
      have e3 : c + ((2 : Int32) * nI (cwd (mL M q) (fun X => X.testBit v) i) - nI (cwd (mL M q) (fun _ => true) i)) + (nI l + nI (cwd (mL M q) (fun _ => true) i)) = (c + nI l) + ((2 : Int32) * nI (cwd (mL M q) (fun X => X.testBit v) i) - nI (cwd (mL M q) (fun _ => true) i) + nI (cwd (mL M q) (fun _ => true) i)) := by ac_rfl
      rw [e3, e2, hc, show (2 : Int32) = nI 2 from rfl, pk_mul, nI_add]
      congr 1
      omega) (by omega)
    refine ⟨r, ?_, ?_⟩
    · rw [f_X1_turnedBy_4, chk_t f.1.1, f.2.2, if_neg (nI_ge (by omega) (by omega)), ex, obd_s, f_bcw, obd_s, f.1.2.1, bnd_e, chk_t f.1.2.2.1, f.1.2.2.2, chk_t (inB_n (by omega) (by decide)), mL_c (by omega), f_bcw, obd_s, bnd_e, bnd_e, nI_1]
      exact er
    · rw [sh (cwd (mL M q) (fun _ => true)), sh (cwd (mL M q) (fun X => X.testBit v)), ← Nat.add_assoc, ← Nat.add_assoc]
      exact hr
/-- how many sets of the family are with a node -/
def cfm (F : Nat → Bool) (n : Nat) : Nat := smN (fun X => if F X = true then 1 else 0) n
theorem F1.tb_s (f : F1 M o q N) (h16 : N ≤ 16) {F : Nat → Bool} (hF : ∀ X, X < 2 ^ N → fb (mL M q) X = F X) (h0 : ∀ X, 2 ^ N ≤ X → X < 64 * us6 N → fb (mL M q) X = false) {v : Nat} (hv : v < 16) {n : Nat} (hn : 1100 ≤ n) : ∃ r, f_X1_turnedBy n o (nI v) M = some r ∧ r + nI (cfm F (2 ^ N)) = nI (2 * cfm (fun X => F X && X.testBit v) (2 ^ N)) := by
  have u := us_b h16
  have u2 := us_N2 h16
  obtain ⟨r, e, h⟩ := f.tbv h16 hv (us6 N) 0 n 0 0 0 (by omega) (by decide) (by omega)
  have fl : ∀ g : Nat → Bool, smN (fun t => cwd (mL M q) g (0 + t)) (us6 N) = cfm (fun X => F X && g X) (2 ^ N) := fun g => by
    have e1 : smN (fun t => cwd (mL M q) g (0 + t)) (us6 N) = smN (fun w => smN (fun j => (fun X => if (fb (mL M q) X && g X) = true then 1 else 0) (64 * w + j)) 64) (us6 N) := smN_c _ (fun w _ => by rw [Nat.zero_add]; rfl)
    rw [e1, smN_fl (fun X => if (fb (mL M q) X && g X) = true then 1 else 0), smN_cut (f := (fun X => if (fb (mL M q) X && g X) = true then 1 else 0)) u2 (fun X h1 h2 => by show (if (fb (mL M q) X && g X) = true then 1 else 0) = 0; rw [h0 X h1 h2]; rfl)]
    exact smN_c _ (fun X hX => by rw [hF X hX])
  refine ⟨r, e, ?_⟩
  rw [fl, fl, Nat.zero_add, Nat.zero_add] at h
  have e2 : cfm (fun X => F X && (fun _ => true) X) (2 ^ N) = cfm F (2 ^ N) := smN_c _ (fun X _ => by show (if (F X && true) = true then 1 else 0) = _; rw [Bool.and_true])
  rw [e2] at h
  exact h
theorem nI_L : ∀ k, k < 65 → (nI k).toInt64 = nL k := by decide +kernel
theorem cnw_64 (x : Int64) : cnw x ≤ 64 := by
  have h := smN_le (f := fun i => if qb x i = true then 1 else 0) (g := fun _ => 1) 64 (fun i _ => by show (if qb x i = true then 1 else 0) ≤ 1; split <;> omega)
  rw [smN_k] at h
  exact h
theorem wg26v {K : Nat → Int32 → Nat → Int64 → Int32 → Option Int64} {i w : Nat} {a : Int32} (hi : i < 1024) (hw : isO M 101 w) (hl : mLn M w = 17) : ∀ (d j n : Nat) (c x : Int64), j + d = 7 → d + 1 ≤ n → f_X1_weigh_26 K M n o a w c (nI i) x (nI j) = K o a w (c + smL (fun b => if qb x b = true ∧ j ≤ pcw b then mL M w (pcN i + pcw b) else 0) 64) (nI (i + 1)) := by
  have bc : f_J6_bitCount_0f7a4 (nI i) M = some (nI (pcN i)) := by
    rw [f_bcx (bt_hk (j := 16) (by omega)) M, pc_N]
  have pl := pcN_10 hi
  intro d
  induction d with
  | zero =>
    intro j n c x hj hn
    obtain ⟨n, rfl⟩ : ∃ m, n = m + 1 := ⟨n - 1, by omega⟩
    rw [f_X1_weigh_26, if_pos (show (6 : Int32) < nI j from nI_lt (a := 6) (by omega) (by omega)), bnd_e, nI_1, smL_z 64 (fun b hb => if_neg (fun z => by have := pcw_6 b hb; have := z.2; omega)), Int64.add_zero]
  | succ d ih =>
    intro j n c x hj hn
    obtain ⟨n, rfl⟩ : ∃ m, n = m + 1 := ⟨n - 1, by omega⟩
    have j7 : j < 7 := by omega
    rw [f_X1_weigh_26, if_neg (show ¬ (6 : Int32) < nI j from nI_nl (a := 6) (by omega) (by decide))]
    by_cases z : lg_cmp x (0 : Int64) = 0
    · rw [if_pos z, bnd_e, nI_1, smL_z 64 (fun b hb => if_neg (fun y => by rw [(lg_z x).mp z b hb] at y; cases y.1)), Int64.add_zero]
    · rw [if_neg z, chk_t (inB_n j7 (by decide)), f_bcw, obd_s, bc, obd_s, chk_t hw, nI_add, hl, chk_t (inB_n (by omega) (by decide)), bnd_e, bnd_e, nI_1, mL_c (by omega), nI_L _ (by have := cnw_64 (x &&& l_OS (nI j).toNatClampNeg); omega), nI_clamp (show j < 2 ^ 31 by omega), ih (j + 1) n _ x (by omega) (by omega)]
      refine congrArg (fun z => K o a w z (nI (i + 1))) ?_
      have e1 : nL (cnw (x &&& l_OS j)) * mL M w (pcN i + j) = smL (fun b => if qb (x &&& l_OS j) b = true then mL M w (pcN i + j) else 0) 64 := smL_one _ _ 64
      rw [e1, Int64.add_assoc, smL_add]
      refine congrArg (fun z => c + z) ?_
      apply smL_c
      intro b hb
      have qe : qb (x &&& l_OS j) b = true ↔ qb x b = true ∧ pcw b = j := by rw [qb_and, Bool.and_eq_true, os_k j j7 b hb, decide_eq_true_eq]
      by_cases c1 : qb x b = true
      · by_cases c2 : pcw b = j
        · rw [if_pos (qe.mpr ⟨c1, c2⟩), if_neg (fun y => by have := y.2; omega), if_pos ⟨c1, by omega⟩, Int64.add_zero, c2]
        · rw [if_neg (fun y => c2 (qe.mp y).2), Int64.zero_add]
          by_cases c3 : j + 1 ≤ pcw b
          · rw [if_pos ⟨c1, c3⟩, if_pos ⟨c1, by omega⟩]
          · rw [if_neg (fun y => c3 y.2), if_neg (fun y => by have := y.2; omega)]
      · rw [if_neg (fun y => c1 (qe.mp y).1), if_neg (fun y => c1 y.1), if_neg (fun y => c1 y.1), Int64.add_zero]
/-- what a word's sets weigh -/
def wwd (W V : Nat → Int64) (h : Nat → Bool) (w : Nat) : Int64 := smL (fun j => if (fb W (64 * w + j) && h (64 * w + j)) = true then V (pcN w + pcw j) else 0) 64
theorem F1.wgv (f : F1 M o q N) (h16 : N ≤ 16) {w : Nat} {a : Int32} {h : Nat → Bool} (ha : hvp a h) (hw : isO M 101 w) (hl : mLn M w = 17) : ∀ (d i n : Nat) (c : Int64), i + d = us6 N → d + 20 ≤ n → f_X1_weigh_5 M n o a w c (nI i) = some (c + smL (fun t => wwd (mL M q) (mL M w) h (i + t)) d) := by
  have u := us_b h16
  intro d
  induction d with
  | zero =>
    intro i n c hi hn
    obtain ⟨n, rfl⟩ : ∃ m, n = m + 1 := ⟨n - 1, by omega⟩
    rw [f_X1_weigh_5, chk_t f.1.1, f.2.2, if_pos (nI_le (by omega) (by omega))]
    exact congrArg some (Int64.add_zero c).symm
  | succ d ih =>
    intro i n c hi hn
    obtain ⟨n, rfl⟩ : ∃ m, n = m + 1 := ⟨n - 1, by omega⟩
    obtain ⟨x, ex, hx⟩ := f.hvv h16 (k := i) (by omega) ha
    rw [f_X1_weigh_5, chk_t f.1.1, f.2.2, if_neg (nI_ge (by omega) (by omega)), ex, obd_s]
    have e := wg26v (M := M) (o := o) (K := f_X1_weigh_5 M n) (i := i) (a := a) (by omega) hw hl 7 0 n c x rfl (by omega)
    refine Eq.trans e ?_
    rw [ih (i + 1) n _ (by omega) (by omega), Nat.add_comm d 1, smL_ap, Int64.add_assoc]
    refine congrArg some (congrArg (fun z => c + z) (congr (congrArg HAdd.hAdd ?_) ?_))
    · show _ = (0 : Int64) + wwd (mL M q) (mL M w) h (i + 0)
      rw [Int64.zero_add, Nat.add_zero]
      exact smL_c 64 (fun b hb => by
        rw [hx b hb]
        by_cases z : (fb (mL M q) (64 * i + b) && h (64 * i + b)) = true
        · rw [if_pos ⟨z, Nat.zero_le _⟩, if_pos z]
        · rw [if_neg (fun y => z y.1), if_neg z])
    · exact smL_c d (fun t _ => by rw [Nat.add_assoc])
theorem F1.wg_s (f : F1 M o q N) (h16 : N ≤ 16) {F : Nat → Bool} (hF : ∀ X, X < 2 ^ N → fb (mL M q) X = F X) (h0 : ∀ X, 2 ^ N ≤ X → X < 64 * us6 N → fb (mL M q) X = false) {w : Nat} {a : Int32} {h : Nat → Bool} (ha : hvp a h) (hw : isO M 101 w) (hl : mLn M w = 17) {n : Nat} (hn : 1100 ≤ n) : f_X1_weigh n o a w M = some (smL (fun X => if (F X && h X) = true then mL M w (pcN X) else 0) (2 ^ N)) := by
  have u := us_b h16
  have u2 := us_N2 h16
  have e := f.wgv h16 ha hw hl (us6 N) 0 n 0 (by omega) (by omega)
  rw [Int64.zero_add] at e
  rw [f_X1_weigh]
  refine Eq.trans e (congrArg some ?_)
  have e1 : smL (fun t => wwd (mL M q) (mL M w) h (0 + t)) (us6 N) = smL (fun w' => smL (fun j => (fun X => if (fb (mL M q) X && h X) = true then mL M w (pcN X) else 0) (64 * w' + j)) 64) (us6 N) := smL_c _ (fun w' hw' => by
    rw [Nat.zero_add]
    unfold wwd
    exact smL_c 64 (fun j hj => by
      have : pcN (64 * w' + j) = pcN w' + pcw j := by
        rw [pcN_64 (by omega), show (64 * w' + j) / 64 = w' by omega, show (64 * w' + j) % 64 = j by omega]
      show _ = if (fb (mL M q) (64 * w' + j) && h (64 * w' + j)) = true then mL M w (pcN (64 * w' + j)) else 0
      rw [this]))
  rw [e1, smL_fl (fun X => if (fb (mL M q) X && h X) = true then mL M w (pcN X) else 0), smL_cut (f := (fun X => if (fb (mL M q) X && h X) = true then mL M w (pcN X) else 0)) u2 (fun X h1 h2 => by show (if (fb (mL M q) X && h X) = true then mL M w (pcN X) else 0) = 0; rw [h0 X h1 h2]; rfl)]
  exact smL_c _ (fun X hX => by rw [hF X hX])
end
/-! ===== the survey, the reference: what it answers ===== -/
theorem nI_comp {N b : Nat} (h16 : N ≤ 16) (hb : b < 2 ^ N) {i : Nat} (hi : i < 32) : bt (nI (2 ^ N - 1 - b)) i = (decide (i < N) && !bt (nI b) i) := by
  rw [bt_nI _ hi, bt_nI _ hi, show 2 ^ N - 1 - b = 2 ^ N - (b + 1) by omega, Nat.testBit_two_pow_sub_succ hb]
theorem pc_comp : ∀ N, N ≤ 16 → ∀ b, b < 2 ^ N → pcN b + pcN (2 ^ N - 1 - b) = N := by
  intro N
  induction N with
  | zero =>
    intro _ b hb
    have : b = 0 := by omega
    rw [this]
    decide
  | succ N ih =>
    intro h b hb
    have p := p16 (N := N) (by omega)
    rw [Nat.pow_succ] at hb ⊢
    rw [pcN_half (show b < 2 ^ 31 by omega), pcN_half (show 2 ^ N * 2 - 1 - b < 2 ^ 31 by omega), show (2 ^ N * 2 - 1 - b) / 2 = 2 ^ N - 1 - b / 2 by omega]
    have := ih (by omega) (b / 2) (by omega)
    omega
theorem smL_rev (f : Nat → Int64) : ∀ n, smL f n = smL (fun t => f (n - 1 - t)) n := by
  intro n
  induction n with
  | zero => rfl
  | succ n ih =>
    rw [Nat.add_comm n 1, smL_ap (fun t => f (1 + n - 1 - t)) 1 n]
    have e1 : smL (fun t => f (1 + n - 1 - t)) 1 = f n := by
      show (0 : Int64) + f (1 + n - 1 - 0) = f n
      rw [Int64.zero_add, show 1 + n - 1 - 0 = n by omega]
    have e2 : smL (fun i => f (1 + n - 1 - (1 + i))) n = smL f n := by
      rw [ih]
      exact smL_c n (fun i hi => by rw [show 1 + n - 1 - (1 + i) = n - 1 - i by omega])
    rw [e1]
    refine Eq.trans ?_ (congrArg (fun z => f n + z) e2.symm)
    rw [Nat.add_comm 1 n]
    show smL f n + f n = f n + smL f n
    exact Int64.add_comm _ _
theorem lvB_iff {N : Nat} {S : St} {X : Nat} : lvB N S X = true ↔ ∃ v, v < N ∧ xR S 17 v &&& (nI X ^^^ (-1 : Int32)) = 0 := by
  unfold lvB
  rw [List.any_eq_true]
  constructor
  · rintro ⟨v, h1, h2⟩
    have := List.mem_range'_1.mp h1
    exact ⟨v, by omega, of_decide_eq_true h2⟩
  · rintro ⟨v, h1, h2⟩
    exact ⟨v, List.mem_range'_1.mpr ⟨Nat.zero_le _, by omega⟩, decide_eq_true h2⟩
/-- by the broken ones b there is no quorum -/
def stb (N : Nat) (S : St) (b : Nat) : Prop := cor N S (nI b) = 0
def od (N u k : Nat) : Int64 := pwv (nI u).toInt64 (pcN k) 1 * pwv ((10 : Int64) - (nI u).toInt64) (N - pcN k) 1
def mll (N : Nat) (a : Int64) : Int32 := if N < 6 then (a * pwv 10 (6 - N) 1).toInt32 else (a / pwv 10 (N - 6) 1).toInt32
section
variable {M : Mem} {N : Nat} {tw : Bool} {t : Int32} {S : St} {pb pt : List Row4}
theorem mny_v {k n : Nat} (hk : k < 65536) (hn : 40 ≤ n) (M : Mem) : f_X10_many n (nI k) M = some (nI (pcN k)) := by
  rw [mny_k hk hn, pc_N]
theorem pcN_le {k : Nat} (h16 : N ≤ 16) (hk : k < 2 ^ N) : pcN k ≤ N := by
  have := pc_comp N h16 k hk
  omega
theorem RV.oddsv (r : RV M tw t S pb pt) (hN : xR S 20 0 = nI N) (h16 : N ≤ 16) {k n : Nat} (hk : k < 2 ^ N) (u : Nat) (hn : 100 ≤ n) : f_X10_oddsOf n 120 (nI k) (nI u) M = some (od N u k) := by
  have p := p16 h16
  have pl := pcN_le h16 hk
  have e1 := pw_v M (nI u).toInt64 (pcN k) (by omega) (pcN k) 0 n 1 (by omega) (by omega)
  have e2 := pw_v M ((10 : Int64) - (nI u).toInt64) (N - pcN k) (by omega) (N - pcN k) 0 n 1 (by omega) (by omega)
  rw [f_X10_oddsOf, mny_v (by omega) (by omega), obd_s, f_X10_power, show f_X10_power_5 M n (nI u).toInt64 (nI (pcN k)) 1 0 = some (pwv (nI u).toInt64 (pcN k) 1) from e1, obd_s, rs_f r.1, rs_0 r.1, bnd_e, rs_fa r.1, rs_c0 r.1, obd_s, cl0, r.N hN, nI_sb pl, f_X10_power, show f_X10_power_5 M n ((10 : Int64) - (nI u).toInt64) (nI (N - pcN k)) 1 0 = some (pwv ((10 : Int64) - (nI u).toInt64) (N - pcN k) 1) from e2, obd_s]
  rfl
theorem RV.millv (r : RV M tw t S pb pt) (hN : xR S 20 0 = nI N) (h16 : N ≤ 16) (a : Int64) {n : Nat} (hn : 100 ≤ n) : f_X10_millionths n 120 a M = some (mll N a) := by
  have h0 : mI M 121 ((0 : Int32).toNatClampNeg) = nI N := by rw [cl0]; exact r.N hN
  unfold mll
  by_cases c : N < 6
  · have e1 := pw_v M 10 (6 - N) (by omega) (6 - N) 0 n 1 (by omega) (by omega)
    rw [f_X10_millionths, rs_f r.1, rs_0 r.1, bnd_e, rs_fa r.1, rs_c0 r.1, h0, if_pos (show nI N < (6 : Int32) from nI_lt (b := 6) c (by decide)), bnd_e, rs_fa r.1, rs_c0 r.1, h0, f_X10_power, show (6 : Int32) - nI N = nI (6 - N) by rw [show (6 : Int32) = nI 6 from rfl, nI_sb (by omega)], show f_X10_power_5 M n 10 (nI (6 - N)) 1 0 = some (pwv 10 (6 - N) 1) from e1, obd_s, if_pos c]
  · have e1 := pw_v M 10 (N - 6) (by omega) (N - 6) 0 n 1 (by omega) (by omega)
    rw [f_X10_millionths, rs_f r.1, rs_0 r.1, bnd_e, rs_fa r.1, rs_c0 r.1, h0, if_neg (show ¬ nI N < (6 : Int32) from nI_nl (a := N) (b := 6) (by omega) (by omega)), bnd_e, rs_fa r.1, rs_c0 r.1, h0, f_X10_power, show nI N - (6 : Int32) = nI (N - 6) by rw [show (6 : Int32) = nI 6 from rfl, nI_sb (by omega)], show f_X10_power_5 M n 10 (nI (N - 6)) 1 0 = some (pwv 10 (N - 6) 1) from e1, obd_s, chk_t (pw10 (N - 6) (by omega)), if_neg c]
theorem rlv_v (r : RV M tw t S pb pt) (hN : xR S 20 0 = nI N) (h16 : N ≤ 16) (b : Int32) : ∀ (d i n : Nat), i + d = N → d + 1 ≤ n → f_X10_isLive_2 M n 120 b (nI i) = some (if (List.range' i d).any (fun v => decide (xR S 17 v &&& (b ^^^ (-1 : Int32)) = 0)) = true then 1 else 0) := by
  intro d
  induction d with
  | zero =>
    intro i n hi hn
    obtain ⟨n, rfl⟩ : ∃ m, n = m + 1 := ⟨n - 1, by omega⟩
    rw [f_X10_isLive_2, rs_f r.1, rs_0 r.1, bnd_e, rs_fa r.1, rs_c0 r.1, cl0, r.N hN, if_pos (nI_le (by omega) (by omega))]
    rfl
  | succ d ih =>
    intro i n hi hn
    obtain ⟨n, rfl⟩ : ∃ m, n = m + 1 := ⟨n - 1, by omega⟩
    rw [f_X10_isLive_2, rs_f r.1, rs_0 r.1, bnd_e, rs_fa r.1, rs_c0 r.1, cl0, r.N hN, if_neg (nI_ge (by omega) (by omega)), r.base (by omega), obd_s, List.range'_succ, List.any_cons]
    by_cases c : xR S 17 i &&& (b ^^^ (-1 : Int32)) = 0
    · rw [if_pos c, decide_eq_true c, Bool.true_or, if_pos rfl]
    · rw [if_neg c, decide_eq_false c, Bool.false_or, bnd_e, nI_1, ih (i + 1) n (by omega) (by omega)]
theorem RV.lvv (r : RV M tw t S pb pt) (hN : xR S 20 0 = nI N) (h16 : N ≤ 16) (X : Nat) {n : Nat} (hn : 100 ≤ n) : f_X10_isLive n 120 (nI X) M = some (if lvB N S X = true then 1 else 0) :=
  rlv_v r hN h16 (nI X) N 0 n (by omega) (by omega)
theorem nI_orb {i v : Nat} (hv : v < 16) : nI i ||| ((1 : Int32) <<< (nI v &&& 31)) = nI (i ||| 2 ^ v) := by
  apply b_ext
  intro j hj
  rw [bt_or1 _ (by omega) hj, bt_nI _ hj, bt_nI _ hj, Nat.testBit_or, Nat.testBit_two_pow]
  congr 1
  by_cases c : j = v
  · rw [decide_eq_true c, decide_eq_true c.symm]
  · rw [decide_eq_false c, decide_eq_false (fun z => c z.symm)]
/-- a set without v that is not live but with v -/
def pvt (N : Nat) (S : St) (v X : Nat) : Bool := !X.testBit v && (!lvB N S X && lvB N S (X ||| 2 ^ v))
theorem rpv_v (r : RV M tw t S pb pt) (hN : xR S 20 0 = nI N) (h16 : N ≤ 16) {v : Nat} (hv : v < 16) : ∀ (d i n c : Nat), i + d = 2 ^ N → d + 101 ≤ n → f_X10_pivotal_14 M n 120 (nI v) (nI c) (nI i) = some (nI (c + smN (fun t => if pvt N S v (i + t) = true then 1 else 0) d)) := by
  have p := p16 h16
  intro d
  induction d with
  | zero =>
    intro i n c hi hn
    obtain ⟨n, rfl⟩ : ∃ m, n = m + 1 := ⟨n - 1, by omega⟩
    rw [f_X10_pivotal_14, rs_f r.1, r.al hN h16, obd_s, if_pos (nI_lt (by omega) (by omega))]
    rfl
  | succ d ih =>
    intro i n c hi hn
    obtain ⟨n, rfl⟩ : ∃ m, n = m + 1 := ⟨n - 1, by omega⟩
    have sh : smN (fun t => if pvt N S v (i + t) = true then 1 else 0) (d + 1) = (if pvt N S v i = true then 1 else 0) + smN (fun t => if pvt N S v (i + 1 + t) = true then 1 else 0) d := by
      rw [Nat.add_comm d 1, smN_ap]
      congr 1
      · show 0 + _ = _
        rw [Nat.zero_add]; rfl
      · exact smN_c d (fun t _ => by rw [Nat.add_assoc])
    have nx : ∀ x : Nat, x = (if pvt N S v i = true then 1 else 0) → f_X10_pivotal_14 M n 120 (nI v) (nI (c + x)) (nI (i + 1)) = some (nI (c + smN (fun t => if pvt N S v (i + t) = true then 1 else 0) (d + 1))) := fun x hx => by
      rw [ih (i + 1) n (c + x) (by omega) (by omega), sh, hx, Nat.add_assoc]
    have z0 : nI c + (0 : Int32) = nI (c + 0) := by rw [Int32.add_zero]; rfl
    rw [f_X10_pivotal_14, rs_f r.1, r.al hN h16, obd_s, if_neg (nI_nl (by omega) (by omega)), f_has10 _ (show v < 32 by omega), obd_s, bt_nI _ (show v < 32 by omega), nI_orb hv, r.lvv hN h16 i (n := n) (by omega), obd_s, r.lvv hN h16 (i ||| 2 ^ v) (n := n) (by omega), obd_s]
    simp only [bnd_e]
    rw [nI_1, nI_1, z0]
    by_cases b1 : i.testBit v = true
    · rw [if_pos b1, if_neg ne10]
      exact nx 0 (by unfold pvt; rw [b1]; rfl)
    · have f1 : i.testBit v = false := by cases z : i.testBit v <;> first | rfl | exact absurd z b1
      rw [if_neg b1, if_pos rfl]
      by_cases b2 : lvB N S i = true
      · rw [if_pos b2, if_neg ne10]
        exact nx 0 (by unfold pvt; rw [b2, f1]; rfl)
      · have f2 : lvB N S i = false := by cases z : lvB N S i <;> first | rfl | exact absurd z b2
        rw [if_neg b2, if_pos rfl]
        by_cases b3 : lvB N S (i ||| 2 ^ v) = true
        · rw [if_pos b3, if_neg ne10]
          exact nx 1 (by unfold pvt; rw [f1, f2, b3]; rfl)
        · have f3 : lvB N S (i ||| 2 ^ v) = false := by cases z : lvB N S (i ||| 2 ^ v) <;> first | rfl | exact absurd z b3
          rw [if_neg b3, if_pos rfl]
          exact nx 0 (by unfold pvt; rw [f1, f2, f3]; rfl)
/-- meets all bases and holds none -/
def btr (N : Nat) (S : St) (X : Nat) : Prop := ∀ v, v < N → ¬ xR S 17 v &&& nI X = 0 ∧ ¬ xR S 17 v &&& (nI X ^^^ (-1 : Int32)) = 0
theorem rib_v (r : RV M tw t S pb pt) (hN : xR S 20 0 = nI N) (h16 : N ≤ 16) (X : Nat) : ∀ (d i n : Nat), i + d = N → d + 1 ≤ n → (f_X10_isBetter_2 M n 120 (nI X) (nI i) = some 1 ∧ ∀ v, i ≤ v → v < N → ¬ xR S 17 v &&& nI X = 0 ∧ ¬ xR S 17 v &&& (nI X ^^^ (-1 : Int32)) = 0) ∨ (f_X10_isBetter_2 M n 120 (nI X) (nI i) = some 0 ∧ ¬ btr N S X) := by
  intro d
  induction d with
  | zero =>
    intro i n hi hn
    obtain ⟨n, rfl⟩ : ∃ m, n = m + 1 := ⟨n - 1, by omega⟩
    exact Or.inl ⟨by rw [f_X10_isBetter_2, rs_f r.1, rs_0 r.1, bnd_e, rs_fa r.1, rs_c0 r.1, cl0, r.N hN, if_pos (nI_le (by omega) (by omega))], fun v h1 h2 => by omega⟩
  | succ d ih =>
    intro i n hi hn
    obtain ⟨n, rfl⟩ : ∃ m, n = m + 1 := ⟨n - 1, by omega⟩
    have st : ∀ y, (if xR S 17 i &&& nI X = 0 then some (0 : Int32) else if xR S 17 i &&& (nI X ^^^ (-1 : Int32)) = 0 then some 0 else f_X10_isBetter_2 M n 120 (nI X) (nI (i + 1))) = y → f_X10_isBetter_2 M (n + 1) 120 (nI X) (nI i) = y := fun y hy => by
      rw [f_X10_isBetter_2, rs_f r.1, rs_0 r.1, bnd_e, rs_fa r.1, rs_c0 r.1, cl0, r.N hN, if_neg (nI_ge (by omega) (by omega)), r.base (by omega), obd_s, obd_s, bnd_e, nI_1]
      exact hy
    by_cases c1 : xR S 17 i &&& nI X = 0
    · exact Or.inr ⟨st _ (if_pos c1), fun h => (h i (by omega)).1 c1⟩
    · by_cases c2 : xR S 17 i &&& (nI X ^^^ (-1 : Int32)) = 0
      · exact Or.inr ⟨st _ (by rw [if_neg c1, if_pos c2]), fun h => (h i (by omega)).2 c2⟩
      · rcases ih (i + 1) n (by omega) (by omega) with ⟨e, h⟩ | ⟨e, h⟩
        · refine Or.inl ⟨st _ (by rw [if_neg c1, if_neg c2]; exact e), fun v h1 h2 => ?_⟩
          by_cases z : v = i
          · rw [z]; exact ⟨c1, c2⟩
          · exact h v (by omega) h2
        · exact Or.inr ⟨st _ (by rw [if_neg c1, if_neg c2]; exact e), h⟩
theorem rbt_v (r : RV M tw t S pb pt) (hN : xR S 20 0 = nI N) (h16 : N ≤ 16) : ∀ (d i n : Nat), i + d = 2 ^ N → d + 101 ≤ n → (∃ X, i ≤ X ∧ X < 2 ^ N ∧ btr N S X ∧ (∀ Y, i ≤ Y → Y < X → ¬ btr N S Y) ∧ f_X10_better_2 M n 120 (nI i) = some (nI X)) ∨ ((∀ Y, i ≤ Y → Y < 2 ^ N → ¬ btr N S Y) ∧ f_X10_better_2 M n 120 (nI i) = some (-1)) := by
  have p := p16 h16
  intro d
  induction d with
  | zero =>
    intro i n hi hn
    obtain ⟨n, rfl⟩ : ∃ m, n = m + 1 := ⟨n - 1, by omega⟩
    exact Or.inr ⟨fun Y h1 h2 => by omega, by rw [f_X10_better_2, rs_f r.1, r.al hN h16, obd_s, if_pos (nI_lt (by omega) (by omega))]⟩
  | succ d ih =>
    intro i n hi hn
    obtain ⟨n, rfl⟩ : ∃ m, n = m + 1 := ⟨n - 1, by omega⟩
    have st : ∀ q y, f_X10_isBetter n 120 (nI i) M = some q → (if q = 0 then f_X10_better_2 M n 120 (nI (i + 1)) else some (nI i)) = y → f_X10_better_2 M (n + 1) 120 (nI i) = y := fun q y e hy => by
      rw [f_X10_better_2, rs_f r.1, r.al hN h16, obd_s, if_neg (nI_nl (by omega) (by omega)), e, obd_s, bnd_e, nI_1]
      exact hy
    rcases rib_v r hN h16 i N 0 n (by omega) (by omega) with ⟨e, h⟩ | ⟨e, h⟩
    · exact Or.inl ⟨i, Nat.le_refl _, by omega, fun v hv => h v (Nat.zero_le _) hv, fun Y a b => by omega, st 1 _ e (if_neg ne10)⟩
    · rcases ih (i + 1) n (by omega) (by omega) with ⟨X, h1, h2, h3, h4, h5⟩ | ⟨h1, h2⟩
      · refine Or.inl ⟨X, by omega, h2, h3, fun Y a b => ?_, st 0 _ e (by rw [if_pos rfl]; exact h5)⟩
        by_cases z : Y = i
        · rw [z]; exact h
        · exact h4 Y (by omega) b
      · refine Or.inr ⟨fun Y a b => ?_, st 0 _ e (by rw [if_pos rfl]; exact h2)⟩
        by_cases z : Y = i
        · rw [z]; exact h
        · exact h1 Y (by omega) b
end
section
variable {N : Nat} {tw : Bool} {t : Int32} {S : St} {pb pt : List Row4}
theorem RV.sbv (cq : ∀ b, cor N S b = 0 ↔ ∀ v, v < N → qby N S v b = 0) (hN : xR S 20 0 = nI N) (h16 : N ≤ 16) (ht : xR S 20 1 = 1 → N % 2 = 1) (b : Int32) {M : Mem} (r : RV M tw t S pb pt) {n : Nat} (hn : 100 ≤ n) : ∃ M', f_X10_stopsBy n 120 b M = some (if cor N S b = 0 then 1 else 0, M') ∧ RV M' tw t S pb pt ∧ Fr P2 M M' := by
  obtain ⟨y, M', e, hy, r', f'⟩ := rst_v (M := M) hN h16 ht b N 0 n M r (by omega) (by omega)
  refine ⟨M', ?_, r', f'⟩
  have hy2 : y = if cor N S b = 0 then 1 else 0 := by
    rcases hy with ⟨e, h⟩ | ⟨e, v, hv, h⟩
    · rw [if_pos ((cq b).mpr (fun v hv => h v (Nat.zero_le _) hv))]; exact e
    · rw [if_neg (fun z => h ((cq b).mp z v hv))]; exact e
  rw [f_X10_stopsBy, show f_X10_stopsBy_2 n 120 b 0 M = some (y, M') from e, hy2]
def isMinT (N : Nat) (S : St) (m : Nat) : Prop := (m < 2 ^ N ∧ stb N S m) ∧ ∀ X, X < 2 ^ N → stb N S X → pcN m < pcN X ∨ (pcN m = pcN X ∧ m ≤ X)
theorem rwk_v (cq : ∀ b, cor N S b = 0 ↔ ∀ v, v < N → qby N S v b = 0) (hN : xR S 20 0 = nI N) (h16 : N ≤ 16) (ht : xR S 20 1 = 1 → N % 2 = 1) (v1 : Int32) : ∀ (k m n : Nat) (M : Mem), RV M tw t S pb pt → k < 2 ^ N + 1 → m < 2 ^ N → stb N S m → (∀ X, k ≤ X → X < 2 ^ N → stb N S X → pcN m < pcN X ∨ (pcN m = pcN X ∧ m ≤ X)) → k ≤ m + 1 → k + 201 ≤ n → ∃ m' M', isMinT N S m' ∧ f_X10_weakest_21 n 120 v1 (nI m) (nI k - 1) M = some (if v1 = 0 then nI (pcN m') else nI m', M') ∧ RV M' tw t S pb pt ∧ Fr P2 M M' := by
  have p := p16 h16
  intro k
  induction k with
  | zero =>
    intro m n M r hk hm sm h hkm hn
    obtain ⟨n, rfl⟩ : ∃ j, n = j + 1 := ⟨n - 1, by omega⟩
    refine ⟨m, M, ⟨⟨hm, sm⟩, fun X hX sX => h X (Nat.zero_le _) hX sX⟩, ?_, r, Fr.rf _ _⟩
    rw [show nI 0 - (1 : Int32) = -1 by decide, f_X10_weakest_21, if_pos (show (-1 : Int32) < 0 by decide)]
    by_cases z : v1 = 0
    · rw [if_pos z, if_pos z, mny_v (by omega) (by omega), obd_s]
    · rw [if_neg z, if_neg z]
  | succ k ih =>
    intro m n M r hk hm sm h hkm hn
    obtain ⟨n, rfl⟩ : ∃ j, n = j + 1 := ⟨n - 1, by omega⟩
    obtain ⟨M1, e1, r1, f1⟩ := RV.sbv cq hN h16 ht (nI k) r (n := n) (by omega)
    have d1 : nI k + (-1 : Int32) = nI k - 1 := (Int32.sub_eq_add_neg _ _).symm
    have pk : pcN k ≤ 32 := by rw [← pc_N]; exact pc_le _
    have pm : pcN m ≤ 32 := by rw [← pc_N]; exact pc_le _
    rw [nI_pred, f_X10_weakest_21, if_neg (show ¬ nI k < (0 : Int32) from nI_nl (a := k) (b := 0) (by omega) (by omega)), mny_v (show k < 65536 by omega) (by omega), obd_s, mny_v (show m < 65536 by omega) (by omega), obd_s]
    by_cases c : nI (pcN m) < nI (pcN k)
    · have lt : pcN m < pcN k := by
        apply Decidable.byContradiction
        intro z
        exact absurd c (nI_nl (by omega) (by omega))
      obtain ⟨m', M', h1, h2, h3, h4⟩ := ih m n M r (by omega) hm sm (fun X a b sX => by
        by_cases z : X = k
        · rw [z]; exact Or.inl lt
        · exact h X (by omega) b sX) (by omega) (by omega)
      exact ⟨m', M', h1, by rw [if_pos c, bnd_e, d1]; exact h2, h3, h4⟩
    · have le : pcN k ≤ pcN m := by
        apply Decidable.byContradiction
        intro z
        exact c (nI_lt (by omega) (by omega))
      rw [if_neg c, rs_f r.1, e1, obd2_s]
      by_cases z : cor N S (nI k) = 0
      · obtain ⟨m', M', h1, h2, h3, h4⟩ := ih k n M1 r1 (by omega) (by omega) z (fun X a b sX => by
          by_cases e : X = k
          · rw [e]; exact Or.inr ⟨rfl, Nat.le_refl _⟩
          · rcases h X (by omega) b sX with q | ⟨q, _⟩
            · exact Or.inl (by omega)
            · by_cases w : pcN k = pcN X
              · exact Or.inr ⟨w, by omega⟩
              · exact Or.inl (by omega)) (by omega) (by omega)
        exact ⟨m', M', h1, by rw [if_pos z, if_neg ne10, bnd_e, d1]; exact h2, h3, f1.tr h4⟩
      · obtain ⟨m', M', h1, h2, h3, h4⟩ := ih m n M1 r1 (by omega) hm sm (fun X a b sX => by
          by_cases e : X = k
          · rw [e] at sX; exact absurd sX z
          · exact h X (by omega) b sX) (by omega) (by omega)
        exact ⟨m', M', h1, by rw [if_neg z, if_pos rfl, bnd_e, d1]; exact h2, h3, f1.tr h4⟩
theorem rch_v (cq : ∀ b, cor N S b = 0 ↔ ∀ v, v < N → qby N S v b = 0) (hN : xR S 20 0 = nI N) (h16 : N ≤ 16) (ht : xR S 20 1 = 1 → N % 2 = 1) (u : Nat) : ∀ (d i n : Nat) (c : Int64) (M : Mem), RV M tw t S pb pt → i + d = 2 ^ N → d + 201 ≤ n → ∃ M', f_X10_chance_17 n 120 (nI u) c (nI i) M = some (mll N (c + smL (fun t => if cor N S (nI (i + t)) = 0 then 0 else od N u (i + t)) d), M') ∧ RV M' tw t S pb pt ∧ Fr P2 M M' := by
  have p := p16 h16
  intro d
  induction d with
  | zero =>
    intro i n c M r hi hn
    obtain ⟨n, rfl⟩ : ∃ j, n = j + 1 := ⟨n - 1, by omega⟩
    refine ⟨M, ?_, r, Fr.rf _ _⟩
    rw [f_X10_chance_17, rs_f r.1, r.al hN h16, obd_s, if_pos (nI_lt (by omega) (by omega)), r.millv hN h16 c (n := n) (by omega), obd_s]
    show _ = some (mll N (c + 0), M)
    rw [Int64.add_zero]
  | succ d ih =>
    intro i n c M r hi hn
    obtain ⟨n, rfl⟩ : ∃ j, n = j + 1 := ⟨n - 1, by omega⟩
    obtain ⟨M1, e1, r1, f1⟩ := RV.sbv cq hN h16 ht (nI i) r (n := n) (by omega)
    have sh : ∀ x : Int64, x = (if cor N S (nI i) = 0 then 0 else od N u i) → c + x + smL (fun t => if cor N S (nI (i + 1 + t)) = 0 then 0 else od N u (i + 1 + t)) d = c + smL (fun t => if cor N S (nI (i + t)) = 0 then 0 else od N u (i + t)) (d + 1) := fun x hx => by
      rw [Nat.add_comm d 1, smL_ap, Int64.add_assoc]
      congr 2
      · show x = (0 : Int64) + (if cor N S (nI (i + 0)) = 0 then 0 else od N u (i + 0))
        rw [Int64.zero_add, hx]; rfl
      · exact smL_c d (fun t _ => by rw [Nat.add_assoc])
    rw [f_X10_chance_17, rs_f r.1, r.al hN h16, obd_s, if_neg (nI_nl (by omega) (by omega)), e1, obd2_s]
    by_cases z : cor N S (nI i) = 0
    · obtain ⟨M', e', r', f'⟩ := ih (i + 1) n c M1 r1 (by omega) (by omega)
      refine ⟨M', ?_, r', f1.tr f'⟩
      rw [if_pos z, if_neg ne10, bnd_e, nI_1, e', ← sh 0 (by rw [if_pos z]), Int64.add_zero]
    · obtain ⟨M', e', r', f'⟩ := ih (i + 1) n (c + od N u i) M1 r1 (by omega) (by omega)
      refine ⟨M', ?_, r', f1.tr f'⟩
      rw [if_neg z, if_pos rfl, rs_f r1.1, r1.oddsv hN h16 (show i < 2 ^ N by omega) u (by omega), obd_s, bnd_e, bnd_e, nI_1, e', ← sh (od N u i) (by rw [if_neg z])]
theorem rco_v (hN : xR S 20 0 = nI N) (h16 : N ≤ 16) (ht : xR S 20 1 = 1 → N % 2 = 1) {v : Nat} (hv : v < 16) (qc : ∀ b, qby N S v b = 0 ↔ cor N S b = 0) (u : Nat) : ∀ (d i n : Nat) (c : Int64) (M : Mem), RV M tw t S pb pt → i + d = 2 ^ N → d + 201 ≤ n → ∃ M', f_X10_chanceOf_25 n 120 (nI v) (nI u) c (nI i) M = some (mll N (c + smL (fun t => if (i + t).testBit v = true then 0 else if cor N S (nI (i + t)) = 0 then 0 else od N u (i + t)) d), M') ∧ RV M' tw t S pb pt ∧ Fr P2 M M' := by
  have p := p16 h16
  intro d
  induction d with
  | zero =>
    intro i n c M r hi hn
    obtain ⟨n, rfl⟩ : ∃ j, n = j + 1 := ⟨n - 1, by omega⟩
    refine ⟨M, ?_, r, Fr.rf _ _⟩
    rw [f_X10_chanceOf_25, rs_f r.1, r.al hN h16, obd_s, if_pos (nI_lt (by omega) (by omega)), r.millv hN h16 c (n := n) (by omega), obd_s]
    show _ = some (mll N (c + 0), M)
    rw [Int64.add_zero]
  | succ d ih =>
    intro i n c M r hi hn
    obtain ⟨n, rfl⟩ : ∃ j, n = j + 1 := ⟨n - 1, by omega⟩
    obtain ⟨M1, e1, r1, f1⟩ := r.tqby (n := n) hN h16 ht hv (nI i) (by omega)
    have sh : ∀ x : Int64, x = (if i.testBit v = true then 0 else if cor N S (nI i) = 0 then 0 else od N u i) → c + x + smL (fun t => if (i + 1 + t).testBit v = true then 0 else if cor N S (nI (i + 1 + t)) = 0 then 0 else od N u (i + 1 + t)) d = c + smL (fun t => if (i + t).testBit v = true then 0 else if cor N S (nI (i + t)) = 0 then 0 else od N u (i + t)) (d + 1) := fun x hx => by
      rw [Nat.add_comm d 1, smL_ap, Int64.add_assoc]
      congr 2
      · show x = (0 : Int64) + (if (i + 0).testBit v = true then 0 else if cor N S (nI (i + 0)) = 0 then 0 else od N u (i + 0))
        rw [Int64.zero_add, hx]; rfl
      · exact smL_c d (fun t _ => by rw [Nat.add_assoc])
    rw [f_X10_chanceOf_25, rs_f r.1, r.al hN h16, obd_s, if_neg (nI_nl (by omega) (by omega)), f_has10 _ (show v < 32 by omega), obd_s, bt_nI _ (show v < 32 by omega)]
    by_cases b : i.testBit v = true
    · obtain ⟨M', e', r', f'⟩ := ih (i + 1) n c M r (by omega) (by omega)
      refine ⟨M', ?_, r', f'⟩
      rw [if_pos b, if_neg ne10, bnd_e, nI_1, e', ← sh 0 (by rw [if_pos b]), Int64.add_zero]
    · rw [if_neg b, if_pos rfl, e1, obd2_s]
      by_cases z : cor N S (nI i) = 0
      · obtain ⟨M', e', r', f'⟩ := ih (i + 1) n c M1 r1 (by omega) (by omega)
        refine ⟨M', ?_, r', f1.tr f'⟩
        rw [if_pos ((qc _).mpr z), bnd_e, nI_1, e', ← sh 0 (by rw [if_neg b, if_pos z]), Int64.add_zero]
      · obtain ⟨M', e', r', f'⟩ := ih (i + 1) n (c + od N u i) M1 r1 (by omega) (by omega)
        refine ⟨M', ?_, r', f1.tr f'⟩
        rw [if_neg (fun y => z ((qc _).mp y)), rs_f r1.1, r1.oddsv hN h16 (show i < 2 ^ N by omega) u (by omega), obd_s, bnd_e, bnd_e, nI_1, e', ← sh (od N u i) (by rw [if_neg b, if_neg z])]
end
/-! ===== the survey taken: what its rows tell ===== -/
theorem one_k : ∀ m, m < 64 → ∀ i, i < 64 → qb ((1 : Int64) <<< ((nI m).toInt64 &&& 63)) i = decide (i = m) := by decide +kernel
theorem F1.addv {M : Mem} {o q N : Nat} (f : F1 M o q N) {k : Nat} (hk : k < 65536) : ∃ M', f_X1_add o (nI k) M = some M' ∧ FLq q M M' ∧ ∀ X, fb (mL M' q) X = (fb (mL M q) X || decide (X = k)) := by
  have e63 : nI k &&& (63 : Int32) = nI (k % 64) := by
    rw [show (63 : Int32) = nI 63 from rfl, nx_and]
    congr 1
    exact Nat.and_two_pow_sub_one_eq_mod k 6
  refine ⟨sL M q (k / 64) (mL M q (k / 64) ||| ((1 : Int64) <<< ((nI (k % 64)).toInt64 &&& 63))), ?_, FLq.s q M _ _, fun X => ?_⟩
  · rw [f_X1_add, chk_t f.1.1, f.1.2.1, bnd_e, chk_t f.1.2.2.1, sh6 hk, bnd_e, f.1.2.2.2, chk_t (inB_n (by omega) (by decide)), chk_t (inB_n (by omega) (by decide)), bnd_e, mL_c (by omega), sL_c (by omega), e63]
  · unfold fb
    by_cases c : X / 64 = k / 64
    · rw [c, mL_s, qb_or, one_k _ (Nat.mod_lt _ (by decide)) _ (Nat.mod_lt _ (by decide))]
      congr 1
      by_cases d : X = k
      · rw [decide_eq_true d, decide_eq_true (by rw [d])]
      · rw [decide_eq_false d, decide_eq_false (fun z => d (by omega))]
    · rw [mL_o M q (k / 64) _ (fun z => c z.2), decide_eq_false (fun z => c (by rw [z])), Bool.or_false]
/-! the tree's wholes -/
def Dj (β x : Int32) : Prop := x &&& β = 0
theorem Dj_or {β x y : Int32} : Dj β (x ||| y) ↔ Dj β x ∧ Dj β y := by
  have key : ∀ x : Int32, Dj β x ↔ ∀ i, i < 32 → (bt x i && bt β i) = false := fun x => by
    unfold Dj
    constructor
    · intro h i _
      rw [← b_and, h, b_0]
    · intro h
      exact b_ext fun i hi => by rw [b_and, h i hi, b_0]
  rw [key, key, key]
  constructor
  · intro h
    refine ⟨fun i hi => ?_, fun i hi => ?_⟩
    · have := h i hi
      rw [b_or] at this
      cases a : bt x i <;> cases b : bt β i <;> simp_all
    · have := h i hi
      rw [b_or] at this
      cases a : bt y i <;> cases b : bt β i <;> simp_all
  · rintro ⟨h1, h2⟩ i hi
    have a1 := h1 i hi
    have a2 := h2 i hi
    rw [b_or]
    cases a : bt x i <;> cases b : bt y i <;> cases c : bt β i <;> simp_all
theorem Dj_one {β : Int32} {v : Nat} (hv : v < 32) : Dj β ((1 : Int32) <<< (nI v &&& 31)) ↔ bt β v = false := by
  unfold Dj
  constructor
  · intro h
    have := b_and ((1 : Int32) <<< (nI v &&& 31)) β v
    rw [h, b_0, b_one hv hv, decide_eq_true (Eq.refl v), Bool.true_and] at this
    exact this.symm
  · intro h
    refine b_ext fun i hi => ?_
    rw [b_and, b_one hv hi, b_0]
    by_cases c : i = v
    · rw [c, h, Bool.and_false]
    · rw [decide_eq_false c, Bool.false_and]
def Ex (β : Int32) (M : Mem) (a b : Nat) : Prop := ∃ j, a ≤ j ∧ j < b ∧ Dj β (mI M 11 j)
theorem Ex_s {β : Int32} {M : Mem} {a b : Nat} (h : a < b) : Ex β M a b ↔ Dj β (mI M 11 a) ∨ Ex β M (a + 1) b := by
  constructor
  · rintro ⟨j, h1, h2, h3⟩
    by_cases c : j = a
    · rw [c] at h3; exact Or.inl h3
    · exact Or.inr ⟨j, by omega, h2, h3⟩
  · rintro (h3 | ⟨j, h1, h2, h3⟩)
    · exact ⟨a, Nat.le_refl _, h, h3⟩
    · exact ⟨j, by omega, h2, h3⟩
theorem Ex_0 {β : Int32} {M : Mem} {a : Nat} : ¬ Ex β M a a := fun ⟨j, h1, h2, _⟩ => by omega
theorem Ex_sp {β : Int32} {M : Mem} {a m b : Nat} (h1 : a ≤ m) (h2 : m ≤ b) : Ex β M a b ↔ Ex β M a m ∨ Ex β M m b := by
  constructor
  · rintro ⟨j, k1, k2, k3⟩
    rcases Nat.lt_or_ge j m with c | c
    · exact Or.inl ⟨j, k1, c, k3⟩
    · exact Or.inr ⟨j, c, k2, k3⟩
  · rintro (⟨j, k1, k2, k3⟩ | ⟨j, k1, k2, k3⟩)
    · exact ⟨j, k1, by omega, k3⟩
    · exact ⟨j, by omega, k2, k3⟩
theorem Ex_c {β : Int32} {M M' : Mem} {a b c : Nat} (h : ∀ j, j < c → mI M' 11 j = mI M 11 j) (hb : b ≤ c) : Ex β M' a b ↔ Ex β M a b := by
  constructor
  · rintro ⟨j, k1, k2, k3⟩
    exact ⟨j, k1, k2, by rw [← h j (by omega)]; exact k3⟩
  · rintro ⟨j, k1, k2, k3⟩
    exact ⟨j, k1, k2, by rw [h j (by omega)]; exact k3⟩
/-- x is a set of the N nodes -/
def SN (N : Nat) (x : Int32) : Prop := ∀ i, N ≤ i → i < 32 → bt x i = false
theorem SN.or {N : Nat} {x y : Int32} (h : SN N x) (h' : SN N y) : SN N (x ||| y) := fun i a b => by rw [b_or, h i a b, h' i a b]; rfl
theorem SN.one {N v : Nat} (h16 : N ≤ 16) (hv : v < N) : SN N ((1 : Int32) <<< (nI v &&& 31)) := fun i a b => by
  rw [b_one (by omega) b]; exact decide_eq_false (by omega)
/-- what a listing leaves alone -/
def FvT (M M' : Mem) : Prop := M'.1 = M.1 ∧ (∀ o, o ≠ 5 → o ≠ 11 → ∀ b, mI M' o b = mI M o b) ∧ (∀ b, b ≠ 6 → mI M' 5 b = mI M 5 b) ∧ ∀ o b, mL M' o b = mL M o b
theorem FvT.rf (M : Mem) : FvT M M := ⟨rfl, fun _ _ _ _ => rfl, fun _ _ => rfl, fun _ _ => rfl⟩
theorem FvT.tr {M M' M'' : Mem} (h : FvT M M') (h' : FvT M' M'') : FvT M M'' := ⟨h'.1.trans h.1, fun o n n' b => (h'.2.1 o n n' b).trans (h.2.1 o n n' b), fun b n => (h'.2.2.1 b n).trans (h.2.2.1 b n), fun o b => (h'.2.2.2 o b).trans (h.2.2.2 o b)⟩
theorem FvT.x {M M' : Mem} (h : FvT M M') : Fx M M' := ⟨h.1, fun o n n' b => h.2.1 o n (by omega) b, h.2.2.1⟩
def TWn (N : Nat) (M : Mem) (c : Nat) : Prop := mI M 5 6 = nI c ∧ c ≤ 305 ∧ ∀ j, j < c → SN N (mI M 11 j)
theorem lw1v {N : Nat} {M : Mem} {c : Nat} {x : Int32} (w : W5 M) (h : TWn N M c) (hx : SN N x) (hc : c < 305) : ∃ M', f_X8_listWhole 5 x M = some M' ∧ TWn N M' (c + 1) ∧ FvT M M' ∧ mI M' 11 c = x ∧ ∀ j, j < c → mI M' 11 j = mI M 11 j := by
  obtain ⟨⟨w1, w2, w3, w4, w5, w6, w7, w8, w9⟩, ⟨y1, y2, y3, y4, y5, y6, y7, y8⟩, ⟨z1, z2, z3, z4, z5, z6⟩⟩ := w
  obtain ⟨t1, t2, t3⟩ := h
  have e5 : mI (sI M 11 c x) 5 6 = nI c := by rw [mI_o _ _ _ _ _ (by decide)]; exact t1
  refine ⟨sI (sI M 11 c x) 5 6 (nI (c + 1)), ?_, ⟨mI_s _ _ _ _, by omega, fun j hj => ?_⟩, ⟨rfl, fun o n n' b => by rw [mI_o _ _ _ _ _ n, mI_o _ _ _ _ _ n'], fun b n => by rw [mI_n _ _ _ _ n, mI_o _ _ _ _ _ (by decide)], fun _ _ => rfl⟩, by rw [mI_o _ _ _ _ _ (by decide), mI_s], fun j hj => by rw [mI_o _ _ _ _ _ (by decide), mI_n _ _ _ _ (by omega)]⟩
  · rw [f_X8_listWhole, chk_t w1, t1, if_neg (show ¬ (305 : Int32) ≤ nI c from nI_ge (b := 305) (by omega) (by decide)), y4, bnd_e, chk_t w7, z4, chk_t (inB_n (by omega) (by decide)), sI_c (by omega), bnd_e, e5, nI_1, bnd_e]
  · rw [mI_o _ _ _ _ _ (by decide)]
    by_cases e : j = c
    · rw [e, mI_s]; exact hx
    · rw [mI_n _ _ _ _ e]; exact t3 j (by omega)
theorem lw92v {N v r b : Nat} (h16 : N ≤ 16) (hv : v < N) (hr : r < 16) : ∀ (d j n : Nat) (M : Mem) (c : Nat), j + d = b → W5 M → TWn N M c → mI M 13 r = nI b → b ≤ c → c + d ≤ 305 → d + 1 ≤ n → ∃ M', f_X8_listWholes_92 n 5 (nI v) (nI r) (nI j) M = some M' ∧ TWn N M' (c + d) ∧ FvT M M' ∧ (∀ j, j < c → mI M' 11 j = mI M 11 j) ∧ ∀ β, Ex β M' c (c + d) ↔ bt β v = false ∧ Ex β M j b := by
  intro d
  induction d with
  | zero =>
    intro j n M c hj w h hb hc _ hn
    obtain ⟨n, rfl⟩ : ∃ m, n = m + 1 := ⟨n - 1, by omega⟩
    have h305 := h.2.1
    obtain ⟨⟨w1, w2, w3, w4, w5, w6, w7, w8, w9⟩, ⟨y1, y2, y3, y4, y5, y6, y7, y8⟩, ⟨z1, z2, z3, z4, z5, z6⟩⟩ := w
    obtain rfl : j = b := by omega
    exact ⟨M, by rw [f_X8_listWholes_92, chk_t w1, y6, bnd_e, chk_t w9, z6, chk_t (inB_n hr (by decide)), mI_c (by omega), hb, if_pos (nI_le (by omega) (by omega))], h, FvT.rf M, fun _ _ => rfl, fun β => ⟨fun z => absurd z Ex_0, fun z => absurd z.2 Ex_0⟩⟩
  | succ d ih =>
    intro j n M c hj w h hb hc hcd hn
    obtain ⟨n, rfl⟩ : ∃ m, n = m + 1 := ⟨n - 1, by omega⟩
    have h305 := h.2.1
    obtain ⟨⟨w1, w2, w3, w4, w5, w6, w7, w8, w9⟩, ⟨y1, y2, y3, y4, y5, y6, y7, y8⟩, ⟨z1, z2, z3, z4, z5, z6⟩⟩ := id w
    obtain ⟨M1, e1, t1, f1, x1, k1⟩ := lw1v w h ((SN.one h16 hv).or (h.2.2 j (by omega))) (by omega)
    obtain ⟨M', e', t', f', k', X'⟩ := ih (j + 1) n M1 (c + 1) (by omega) (w.e f1.1) t1 (by rw [f1.2.1 13 (by decide) (by decide)]; exact hb) (by omega) (by omega) (by omega)
    refine ⟨M', by rw [f_X8_listWholes_92, chk_t w1, y6, bnd_e, chk_t w9, z6, chk_t (inB_n hr (by decide)), mI_c (by omega), hb, if_neg (nI_ge (by omega) (by omega)), y4, bnd_e, chk_t w7, z4, chk_t (inB_n (by omega) (by decide)), mI_c (by omega), e1, obd_s, bnd_e, nI_1]; exact e', by rw [show c + (d + 1) = c + 1 + d by omega]; exact t', f1.tr f', fun i hi => by rw [k' i (by omega), k1 i hi], fun β => ?_⟩
    have := X' β
    rw [Ex_c k1 (show b ≤ c by omega)] at this
    rw [Ex_s (show c < c + (d + 1) by omega), Ex_s (show j < b by omega), k' c (by omega), x1, Dj_or, Dj_one (by omega), show c + (d + 1) = c + 1 + d by omega, this]
    constructor
    · rintro (⟨a, b⟩ | ⟨a, b⟩)
      · exact ⟨a, Or.inl b⟩
      · exact ⟨a, Or.inr b⟩
    · rintro ⟨a, b | b⟩
      · exact Or.inl ⟨a, b⟩
      · exact Or.inr ⟨a, b⟩
theorem lw42v {N v l r i br : Nat} (hr : r < 16) {K : Nat → Int32 → Int32 → Int32 → Int32 → Mem → Option Mem} : ∀ (d j n : Nat) (M : Mem) (c : Nat), j + d = br → W5 M → TWn N M c → mI M 13 r = nI br → br ≤ c → i < c → c + d ≤ 305 → d + 1 ≤ n → ∃ M', f_X8_listWholes_42 K n 5 (nI v) (nI l) (nI r) (nI i) (nI j) M = K 5 (nI v) (nI l) (nI r) (nI (i + 1)) M' ∧ TWn N M' (c + d) ∧ FvT M M' ∧ (∀ j, j < c → mI M' 11 j = mI M 11 j) ∧ ∀ β, Ex β M' c (c + d) ↔ Dj β (mI M 11 i) ∧ Ex β M j br := by
  intro d
  induction d with
  | zero =>
    intro j n M c hj w h rb hc hi _ hn
    obtain ⟨n, rfl⟩ : ∃ m, n = m + 1 := ⟨n - 1, by omega⟩
    have h305 := h.2.1
    obtain ⟨⟨w1, w2, w3, w4, w5, w6, w7, w8, w9⟩, ⟨y1, y2, y3, y4, y5, y6, y7, y8⟩, ⟨z1, z2, z3, z4, z5, z6⟩⟩ := id w
    obtain rfl : j = br := by omega
    exact ⟨M, by rw [f_X8_listWholes_42, chk_t w1, y6, bnd_e, chk_t w9, z6, chk_t (inB_n hr (by decide)), mI_c (by omega), rb, if_pos (nI_le (by omega) (by omega)), bnd_e, nI_1], h, FvT.rf M, fun _ _ => rfl, fun β => ⟨fun z => absurd z Ex_0, fun z => absurd z.2 Ex_0⟩⟩
  | succ d ih =>
    intro j n M c hj w h rb hc hi hcd hn
    obtain ⟨n, rfl⟩ : ∃ m, n = m + 1 := ⟨n - 1, by omega⟩
    have h305 := h.2.1
    obtain ⟨⟨w1, w2, w3, w4, w5, w6, w7, w8, w9⟩, ⟨y1, y2, y3, y4, y5, y6, y7, y8⟩, ⟨z1, z2, z3, z4, z5, z6⟩⟩ := id w
    obtain ⟨M1, e1, t1, f1, x1, k1⟩ := lw1v w h ((h.2.2 i (by omega)).or (h.2.2 j (by omega))) (by omega)
    obtain ⟨M', e', t', f', k', X'⟩ := ih (j + 1) n M1 (c + 1) (by omega) (w.e f1.1) t1 (by rw [f1.2.1 13 (by decide) (by decide)]; exact rb) (by omega) (by omega) (by omega) (by omega)
    refine ⟨M', by rw [f_X8_listWholes_42, chk_t w1, y6, bnd_e, chk_t w9, z6, chk_t (inB_n hr (by decide)), mI_c (by omega), rb, if_neg (nI_ge (by omega) (by omega)), y4, bnd_e, chk_t w7, z4, chk_t (inB_n (by omega) (by decide)), bnd_e, chk_t w7, z4, chk_t (inB_n (by omega) (by decide)), mI_c (by omega), mI_c (by omega), e1, obd_s, bnd_e, nI_1]; exact e', by rw [show c + (d + 1) = c + 1 + d by omega]; exact t', f1.tr f', fun i hi => by rw [k' i (by omega), k1 i hi], fun β => ?_⟩
    have := X' β
    rw [Ex_c k1 (show br ≤ c by omega), k1 i hi] at this
    rw [Ex_s (show c < c + (d + 1) by omega), Ex_s (show j < br by omega), k' c (by omega), x1, Dj_or, show c + (d + 1) = c + 1 + d by omega, this]
    constructor
    · rintro (⟨a, b⟩ | ⟨a, b⟩)
      · exact ⟨a, Or.inl b⟩
      · exact ⟨a, Or.inr b⟩
    · rintro ⟨a, b | b⟩
      · exact Or.inl ⟨a, b⟩
      · exact Or.inr ⟨a, b⟩
theorem lw8v {N v l r ar br bl : Nat} (h16 : N ≤ 16) (hv : v < N) (hl : l < 16) (hr : r < 16) (hab : ar ≤ br) : ∀ (d i n : Nat) (M : Mem) (c : Nat), i + d = bl → W5 M → TWn N M c → mI M 12 r = nI ar → mI M 13 r = nI br → mI M 13 l = nI bl → bl ≤ c → br ≤ c → c + (d * (1 + (br - ar)) + (br - ar)) ≤ 305 → d + 400 ≤ n → ∃ M', f_X8_listWholes_8 n 5 (nI v) (nI l) (nI r) (nI i) M = some M' ∧ TWn N M' (c + (d * (1 + (br - ar)) + (br - ar))) ∧ FvT M M' ∧ (∀ j, j < c → mI M' 11 j = mI M 11 j) ∧ ∀ β, Ex β M' c (c + (d * (1 + (br - ar)) + (br - ar))) ↔ (bt β v = false ∧ Ex β M i bl) ∨ (Ex β M i bl ∧ Ex β M ar br) ∨ (bt β v = false ∧ Ex β M ar br) := by
  intro d
  induction d with
  | zero =>
    intro i n M c hi w h ra rb lb hbl hbr hcc hn
    obtain ⟨n, rfl⟩ : ∃ m, n = m + 1 := ⟨n - 1, by omega⟩
    have h305 := h.2.1
    obtain ⟨⟨w1, w2, w3, w4, w5, w6, w7, w8, w9⟩, ⟨y1, y2, y3, y4, y5, y6, y7, y8⟩, ⟨z1, z2, z3, z4, z5, z6⟩⟩ := id w
    rw [Nat.zero_mul, Nat.zero_add] at hcc ⊢
    obtain ⟨M', e', t', f', k', X'⟩ := lw92v (v := v) (r := r) (b := br) h16 hv hr (br - ar) ar n M c (by omega) w h rb (by omega) hcc (by omega)
    obtain rfl : i = bl := by omega
    refine ⟨M', by rw [f_X8_listWholes_8, chk_t w1, y6, bnd_e, chk_t w9, z6, chk_t (inB_n hl (by decide)), mI_c (by omega), lb, if_pos (nI_le (by omega) (by omega)), y5, bnd_e, chk_t w8, z5, chk_t (inB_n hr (by decide)), mI_c (by omega), ra, bnd_e]; exact e', t', f', k', fun β => ?_⟩
    rw [X' β]
    constructor
    · exact fun z => Or.inr (Or.inr z)
    · rintro (⟨_, z⟩ | ⟨z, _⟩ | z)
      · exact absurd z Ex_0
      · exact absurd z Ex_0
      · exact z
  | succ d ih =>
    intro i n M c hi w h ra rb lb hbl hbr hcc hn
    obtain ⟨n, rfl⟩ : ∃ m, n = m + 1 := ⟨n - 1, by omega⟩
    have h305 := h.2.1
    obtain ⟨⟨w1, w2, w3, w4, w5, w6, w7, w8, w9⟩, ⟨y1, y2, y3, y4, y5, y6, y7, y8⟩, ⟨z1, z2, z3, z4, z5, z6⟩⟩ := id w
    have em : (d + 1) * (1 + (br - ar)) = d * (1 + (br - ar)) + (1 + (br - ar)) := Nat.succ_mul _ _
    rw [em] at hcc ⊢
    generalize hP : d * (1 + (br - ar)) = P at *
    obtain ⟨M1, e1, t1, f1, x1, k1⟩ := lw1v w h ((SN.one h16 hv).or (h.2.2 i (by omega))) (by omega)
    have g : ∀ o, o = 12 ∨ o = 13 → ∀ b, mI M1 o b = mI M o b := fun o ho b => f1.2.1 o (by omega) (by omega) b
    have W1 := w.e f1.1
    obtain ⟨M2, e2, t2, f2, k2, X2⟩ := lw42v (v := v) (l := l) (r := r) (i := i) (br := br) hr (K := f_X8_listWholes_8 n) (br - ar) ar n M1 (c + 1) (by omega) W1 t1 (by rw [g 13 (by omega)]; exact rb) (by omega) (by omega) (by omega) (by omega)
    have g2 : ∀ o, o = 12 ∨ o = 13 → ∀ b, mI M2 o b = mI M o b := fun o ho b => by rw [f2.2.1 o (by omega) (by omega) b, g o ho b]
    obtain ⟨M3, e3, t3, f3, k3, X3⟩ := ih (i + 1) n M2 (c + 1 + (br - ar)) (by omega) (W1.e f2.1) t2 (by rw [g2 12 (by omega)]; exact ra) (by rw [g2 13 (by omega)]; exact rb) (by rw [g2 13 (by omega)]; exact lb) (by omega) (by omega) (by omega) (by omega)
    have k12 : ∀ j, j < c → mI M2 11 j = mI M 11 j := fun j hj => by rw [k2 j (by omega), k1 j hj]
    refine ⟨M3, ?_, ?_, f1.tr (f2.tr f3), fun j hj => by rw [k3 j (by omega), k12 j hj], fun β => ?_⟩
    · rw [f_X8_listWholes_8, chk_t w1, y6, bnd_e, chk_t w9, z6, chk_t (inB_n hl (by decide)), mI_c (by omega), lb, if_neg (nI_ge (by omega) (by omega)), y4, bnd_e, chk_t w7, z4, chk_t (inB_n (by omega) (by decide)), mI_c (by omega), e1, obd_s, chk_t W1.1.1, W1.2.1.2.2.2.2.1, bnd_e, chk_t W1.1.2.2.2.2.2.2.2.1, W1.2.2.2.2.2.2.1, chk_t (inB_n hr (by decide)), mI_c (by omega), g 12 (by omega), ra, bnd_e]
      exact e2.trans e3
    · rw [show c + (P + (1 + (br - ar)) + (br - ar)) = c + 1 + (br - ar) + (P + (br - ar)) by omega]; exact t3
    · have q2 := X2 β
      have q3 := X3 β
      rw [Ex_c k1 (show br ≤ c by omega), k1 i (by omega)] at q2
      rw [Ex_c k12 (show bl ≤ c by omega), Ex_c k12 (show br ≤ c by omega)] at q3
      have s2 : Ex β M3 (c + 1) (c + 1 + (br - ar)) ↔ Ex β M2 (c + 1) (c + 1 + (br - ar)) := Ex_c k3 (Nat.le_refl _)
      rw [show c + (P + (1 + (br - ar)) + (br - ar)) = c + 1 + (br - ar) + (P + (br - ar)) by omega, Ex_s (show c < c + 1 + (br - ar) + (P + (br - ar)) by omega), Ex_sp (show c + 1 ≤ c + 1 + (br - ar) by omega) (show c + 1 + (br - ar) ≤ c + 1 + (br - ar) + (P + (br - ar)) by omega), s2, q2, q3, k3 c (by omega), k2 c (by omega), x1, Dj_or, Dj_one (by omega), Ex_s (show i < bl by omega)]
      generalize (bt β v = false) = A
      generalize Dj β (mI M 11 i) = B
      generalize Ex β M (i + 1) bl = C
      generalize Ex β M ar br = D
      constructor
      · rintro (⟨a, b⟩ | ⟨b, d⟩ | ⟨a, c⟩ | ⟨c, d⟩ | ⟨a, d⟩)
        · exact Or.inl ⟨a, Or.inl b⟩
        · exact Or.inr (Or.inl ⟨Or.inl b, d⟩)
        · exact Or.inl ⟨a, Or.inr c⟩
        · exact Or.inr (Or.inl ⟨Or.inr c, d⟩)
        · exact Or.inr (Or.inr ⟨a, d⟩)
      · rintro (⟨a, b | c⟩ | ⟨b | c, d⟩ | ⟨a, d⟩)
        · exact Or.inl ⟨a, b⟩
        · exact Or.inr (Or.inr (Or.inl ⟨a, c⟩))
        · exact Or.inr (Or.inl ⟨b, d⟩)
        · exact Or.inr (Or.inr (Or.inr (Or.inl ⟨c, d⟩)))
        · exact Or.inr (Or.inr (Or.inr (Or.inr ⟨a, d⟩)))
/-- how many wholes of a node are listed, of N nodes -/
def cnW (N : Nat) : Nat → Nat → Nat
  | 0, _ => 0
  | f + 1, u => if N ≤ 2 * u + 2 then 1 else cnW N f (2 * u + 1) * (1 + cnW N f (2 * u + 2)) + cnW N f (2 * u + 2)
def ttD (N : Nat) : Nat → Nat
  | 0 => 0
  | d + 1 => ttD N d + cnW N 5 (N - 1 - d)
theorem tt_k : ([3, 7, 15] : List Nat).all (fun N => (List.range N).all fun v => (decide (ttD N (N - v) = ttD N (N - (v + 1)) + (if N ≤ 2 * v + 2 then 1 else (ttD N (N - (2 * v + 1)) - ttD N (N - (2 * v + 2))) * (1 + (ttD N (N - (2 * v + 2)) - ttD N (N - (2 * v + 3)))) + (ttD N (N - (2 * v + 2)) - ttD N (N - (2 * v + 3))))) && (decide (ttD N (N - v) ≤ 305) && decide (ttD N (N - (v + 1)) ≤ ttD N (N - v)))) && (List.range N).all fun u => decide (u ≤ v) || decide (ttD N (N - u) ≤ ttD N (N - (v + 1)))) = true := by decide +kernel
theorem tt_e {N v : Nat} (h : N = 3 ∨ N = 7 ∨ N = 15) (hv : v < N) : (ttD N (N - v) = ttD N (N - (v + 1)) + (if N ≤ 2 * v + 2 then 1 else (ttD N (N - (2 * v + 1)) - ttD N (N - (2 * v + 2))) * (1 + (ttD N (N - (2 * v + 2)) - ttD N (N - (2 * v + 3)))) + (ttD N (N - (2 * v + 2)) - ttD N (N - (2 * v + 3))))) ∧ (ttD N (N - v) ≤ 305 ∧ ttD N (N - (v + 1)) ≤ ttD N (N - v)) ∧ ∀ u, v < u → u < N → ttD N (N - u) ≤ ttD N (N - (v + 1)) := by
  have m : N ∈ ([3, 7, 15] : List Nat) := by
    rcases h with rfl | rfl | rfl <;> simp
  have h := List.all_eq_true.mp (List.all_eq_true.mp tt_k N m) v (List.mem_range.mpr hv)
  simp only [Bool.and_eq_true] at h
  refine ⟨of_decide_eq_true h.1.1, ⟨of_decide_eq_true h.1.2.1, of_decide_eq_true h.1.2.2⟩, fun u h1 h2 => ?_⟩
  have z := List.all_eq_true.mp h.2 u (List.mem_range.mpr h2)
  rw [decide_eq_false (show ¬ u ≤ v by omega), Bool.false_or] at z
  exact of_decide_eq_true z
theorem wh_nz {N : Nat} {β : Int32} {u : Nat} (hu : u < N) (h16 : N ≤ 16) (hN : N % 2 = 1) : ¬ wh N β u = 0 ↔ if N ≤ 2 * u + 2 then bt β u = false else (bt β u = false ∧ ¬ wh N β (2 * u + 1) = 0) ∨ (¬ wh N β (2 * u + 1) = 0 ∧ ¬ wh N β (2 * u + 2) = 0) ∨ (bt β u = false ∧ ¬ wh N β (2 * u + 2) = 0) := by
  have e := wh_e β hu hN
  by_cases c : 2 * u + 1 < N
  · rw [if_neg (show ¬ N ≤ 2 * u + 2 by omega)]
    simp only [c, if_true] at e
    have orz : ∀ x y : Int32, ¬ x = 0 → ¬ x ||| y = 0 := fun x y hx z => hx (b_ext fun i _ => by
      have := b_or x y i
      rw [z, b_0] at this
      rw [b_0]
      exact (Bool.or_eq_false_iff.mp this.symm).1)
    by_cases b : bt β u = true
    · have nb : ¬ bt β u = false := by rw [b]; decide
      rw [if_pos b] at e
      by_cases l : wh N β (2 * u + 1) = 0
      · rw [if_pos l] at e
        rw [e]
        constructor
        · intro z; exact absurd rfl z
        · rintro (⟨z, _⟩ | ⟨z, _⟩ | ⟨z, _⟩)
          · exact absurd z nb
          · exact absurd l z
          · exact absurd z nb
      · rw [if_neg l] at e
        by_cases r : wh N β (2 * u + 2) = 0
        · rw [if_pos r] at e
          rw [e]
          constructor
          · intro z; exact absurd rfl z
          · rintro (⟨z, _⟩ | ⟨_, z⟩ | ⟨z, _⟩)
            · exact absurd z nb
            · exact absurd r z
            · exact absurd z nb
        · rw [if_neg r] at e
          rw [e]
          exact ⟨fun _ => Or.inr (Or.inl ⟨l, r⟩), fun _ => orz _ _ l⟩
    · have nb : bt β u = false := by cases z : bt β u <;> first | rfl | exact absurd z b
      rw [if_neg b] at e
      by_cases l : wh N β (2 * u + 1) = 0
      · rw [if_pos l] at e
        by_cases r : wh N β (2 * u + 2) = 0
        · rw [if_pos r] at e
          rw [e]
          constructor
          · intro z; exact absurd rfl z
          · rintro (⟨_, z⟩ | ⟨z, _⟩ | ⟨_, z⟩)
            · exact absurd l z
            · exact absurd l z
            · exact absurd r z
        · rw [if_neg r] at e
          rw [e]
          exact ⟨fun _ => Or.inr (Or.inr ⟨nb, r⟩), fun _ => bit_nz _ (by omega)⟩
      · rw [if_neg l] at e
        rw [e]
        exact ⟨fun _ => Or.inl ⟨nb, l⟩, fun _ => bit_nz _ (by omega)⟩
  · rw [if_pos (show N ≤ 2 * u + 2 by omega)]
    simp only [c, if_false] at e
    by_cases b : bt β u = true
    · rw [if_pos b] at e
      rw [e, b]
      exact ⟨fun z => absurd rfl z, fun z => by cases z⟩
    · have nb : bt β u = false := by cases z : bt β u <;> first | rfl | exact absurd z b
      rw [if_neg b] at e
      rw [e]
      refine ⟨fun _ => nb, fun _ z => ?_⟩
      have := bit_nz 0 (show u < 32 by omega)
      rw [Int32.zero_or] at this
      exact this z
/-! ===== the tree's wholes, listed and added ===== -/
/-- the nodes from k on are listed -/
def LSD (M : Mem) (N k : Nat) : Prop := TWn N M (ttD N (N - k)) ∧ ∀ u, k ≤ u → u < N → mI M 12 u = nI (ttD N (N - (u + 1))) ∧ mI M 13 u = nI (ttD N (N - u)) ∧ ∀ β, Ex β M (ttD N (N - (u + 1))) (ttD N (N - u)) ↔ ¬ wh N β u = 0
theorem aw9v {N : Nat} (hN : N = 3 ∨ N = 7 ∨ N = 15) (h16 : N ≤ 16) (hodd : N % 2 = 1) : ∀ (k n : Nat) (M : Mem), k ≤ N → W5 M → LSD M N k → k + 1000 ≤ n → ∃ M' n', LSD M' N 0 ∧ Fx M M' ∧ (∀ o b, mL M' o b = mL M o b) ∧ f_X8_addWholes_9 n 5 (nI N) (nB k) M = f_X8_addWholes_80 n' 5 (nI (ttD N (N - 1))) M' ∧ 999 ≤ n' := by
  intro k
  induction k with
  | zero =>
    intro n M hk w h hn
    obtain ⟨n, rfl⟩ : ∃ m, n = m + 1 := ⟨n - 1, by omega⟩
    obtain ⟨⟨w1, w2, w3, w4, w5, w6, w7, w8, w9⟩, ⟨y1, y2, y3, y4, y5, y6, y7, y8⟩, ⟨z1, z2, z3, z4, z5, z6⟩⟩ := id w
    have e0 : mI M 12 0 = nI (ttD N (N - 1)) := (h.2 0 (Nat.le_refl _) (by omega)).1
    exact ⟨M, n, h, Fx.rf M, fun _ _ => rfl, by rw [f_X8_addWholes_9, if_pos (show nB 0 < (0 : Int32) by decide), chk_t w1, y5, bnd_e, chk_t w8, z5, chk_t (show inB (0 : Int32) 16 by decide), show mI M 12 ((0 : Int32)).toNatClampNeg = nI (ttD N (N - 1)) from e0, bnd_e], by omega⟩
  | succ v ih =>
    intro n M hk w h hn
    obtain ⟨n, rfl⟩ : ∃ m, n = m + 1 := ⟨n - 1, by omega⟩
    have v16 : v < 16 := by omega
    obtain ⟨tw, hu⟩ := h
    obtain ⟨te, ⟨t305, tle⟩, tu⟩ := tt_e hN (show v < N by omega)
    generalize hc : ttD N (N - (v + 1)) = c at *
    obtain ⟨⟨w1, w2, w3, w4, w5, w6, w7, w8, w9⟩, ⟨y1, y2, y3, y4, y5, y6, y7, y8⟩, ⟨z1, z2, z3, z4, z5, z6⟩⟩ := id w
    have f0 : Fx M (sI M 12 v (nI c)) := Fx.s (by omega)
    generalize hM1 : sI M 12 v (nI c) = M1 at f0
    have W1 := w.e f0.1
    have i11 : ∀ b, mI M1 11 b = mI M 11 b := fun b => by rw [← hM1, mI_o _ _ _ _ _ (by decide)]
    have t1 : TWn N M1 c := ⟨by rw [← hM1, mI_o _ _ _ _ _ (by decide)]; exact tw.1, tw.2.1, fun j hj => by rw [i11]; exact tw.2.2 j hj⟩
    have r12 : ∀ u, u ≠ v → mI M1 12 u = mI M 12 u := fun u n => by rw [← hM1, mI_n _ _ _ _ n]
    have r12v : mI M1 12 v = nI c := by rw [← hM1, mI_s]
    have r13 : ∀ u, mI M1 13 u = mI M 13 u := fun u => by rw [← hM1, mI_o _ _ _ _ _ (by decide)]
    have rest : ∀ (M2 : Mem), TWn N M2 (ttD N (N - v)) → FvT M1 M2 → (∀ j, j < c → mI M2 11 j = mI M1 11 j) → (∀ β, Ex β M2 c (ttD N (N - v)) ↔ ¬ wh N β v = 0) → ∃ M' n', LSD M' N 0 ∧ Fx M M' ∧ (∀ o b, mL M' o b = mL M o b) ∧ (chk (isO M2 8 5) <| bnd (mR M2 5 5) fun o24 => chk (isO M2 100 o24) <| chk (inB (nI v) (mLn M2 o24)) <| bnd (sI M2 o24 (nI v).toNatClampNeg (mI M2 5 6)) fun M28 => bnd (nI v + (-1 : Int32)) fun x32 => f_X8_addWholes_9 n 5 (nI N) x32 M28) = f_X8_addWholes_80 n' 5 (nI (ttD N (N - 1))) M' ∧ 999 ≤ n' := by
      intro M2 t2 fw kp xv
      have W2 := W1.e fw.1
      obtain ⟨⟨u1, u2, u3, u4, u5, u6, u7, u8, u9⟩, ⟨x1, x2, x3, x4, x5, x6, x7, x8⟩, ⟨q1, q2, q3, q4, q5, q6⟩⟩ := id W2
      have f3 : Fx M2 (sI M2 13 v (nI (ttD N (N - v)))) := Fx.s (by omega)
      have i3 : ∀ b, mI (sI M2 13 v (nI (ttD N (N - v)))) 11 b = mI M2 11 b := fun b => mI_o _ _ _ _ _ (by decide)
      have exc : ∀ β a b, Ex β (sI M2 13 v (nI (ttD N (N - v)))) a b ↔ Ex β M2 a b := fun β a b => Ex_c (c := b) (fun j _ => i3 j) (Nat.le_refl _)
      obtain ⟨M', n', h', f', l', e', hn'⟩ := ih n (sI M2 13 v (nI (ttD N (N - v)))) (by omega) (W2.e rfl) ⟨⟨by rw [mI_o _ _ _ _ _ (by decide)]; exact t2.1, t2.2.1, fun j hj => by rw [i3]; exact t2.2.2 j hj⟩, fun u huk huN => by
        by_cases e : u = v
        · refine ⟨?_, ?_, fun β => ?_⟩
          · rw [e, mI_o _ _ _ _ _ (by decide), fw.2.1 12 (by decide) (by decide), hc]; exact r12v
          · rw [e, mI_s]
          · rw [exc, e, hc]; exact xv β
        · obtain ⟨a1, a2, a3⟩ := hu u (by omega) huN
          refine ⟨by rw [mI_o _ _ _ _ _ (by decide), fw.2.1 12 (by decide) (by decide), r12 u e]; exact a1, by rw [mI_n _ _ _ _ e, fw.2.1 13 (by decide) (by decide), r13]; exact a2, fun β => ?_⟩
          rw [exc, Ex_c (c := c) (M := M) (fun j hj => by rw [kp j hj, i11]) (tu u (by omega) huN)]
          exact a3 β⟩ (by omega)
      exact ⟨M', n', h', (f0.tr fw.x).tr (f3.tr f'), fun o b => by rw [l', show mL (sI M2 13 v (nI (ttD N (N - v)))) o b = mL M2 o b from rfl, fw.2.2.2, ← hM1]; rfl, by rw [chk_t u1, x6, bnd_e, chk_t u9, q6, chk_t (inB_n v16 (by decide)), t2.1, sI_c (by omega), bnd_e, nB_s, bnd_e]; exact e', hn'⟩
    have hd : ∀ y, (if nI N ≤ (((2 : Int32) * nI v) + (2 : Int32)) then (obd (f_X8_listWhole 5 ((1 : Int32) <<< (nI v &&& 31)) M1) fun M22 => chk (isO M22 8 5) <| bnd (mR M22 5 5) fun o24 => chk (isO M22 100 o24) <| chk (inB (nI v) (mLn M22 o24)) <| bnd (sI M22 o24 (nI v).toNatClampNeg (mI M22 5 6)) fun M28 => bnd (nI v + (-1 : Int32)) fun x32 => f_X8_addWholes_9 n 5 (nI N) x32 M28) else (obd (f_X8_listWholes n 5 (nI v) (((2 : Int32) * nI v) + (1 : Int32)) (((2 : Int32) * nI v) + (2 : Int32)) M1) fun M22 => chk (isO M22 8 5) <| bnd (mR M22 5 5) fun o24 => chk (isO M22 100 o24) <| chk (inB (nI v) (mLn M22 o24)) <| bnd (sI M22 o24 (nI v).toNatClampNeg (mI M22 5 6)) fun M28 => bnd (nI v + (-1 : Int32)) fun x32 => f_X8_addWholes_9 n 5 (nI N) x32 M28)) = y → f_X8_addWholes_9 (n + 1) 5 (nI N) (nB (v + 1)) M = y := by
      intro y hy
      rw [show nB (v + 1) = nI v from rfl, f_X8_addWholes_9, if_neg (show ¬ nI v < (0 : Int32) from nI_nlt (b := 0) (Nat.zero_le _) (by omega)), chk_t w1, y5, bnd_e, chk_t w8, z5, chk_t (inB_n v16 (by decide)), tw.1, sI_c (by omega), hM1, bnd_e]
      exact hy
    have e22 : ((2 : Int32) * nI v) + (2 : Int32) = nI (2 * v + 2) := by rw [show (2 : Int32) = nI 2 from rfl, pk_mul, nI_add]
    have e21 : ((2 : Int32) * nI v) + (1 : Int32) = nI (2 * v + 1) := by rw [show (2 : Int32) = nI 2 from rfl, pk_mul, nI_1]
    by_cases leaf : N ≤ 2 * v + 2
    · rw [if_pos leaf] at te
      obtain ⟨M2, e2, t2, fw, x2, kp⟩ := lw1v W1 t1 (SN.one h16 (show v < N by omega)) (by omega)
      rw [← te] at t2
      obtain ⟨M', n', h', f', l', e', hn'⟩ := rest M2 t2 fw kp (fun β => by
        rw [te, Ex_s (show c < c + 1 by omega), x2, Dj_one (by omega), wh_nz (show v < N by omega) h16 hodd, if_pos leaf]
        exact ⟨fun z => z.elim id (fun z => absurd z Ex_0), Or.inl⟩)
      exact ⟨M', n', h', f', l', (hd _ (by rw [e22, if_pos (nI_le leaf (by omega)), e2, obd_s])).trans e', hn'⟩
    · rw [if_neg leaf] at te
      obtain ⟨l1, l2, l3⟩ := hu (2 * v + 1) (by omega) (by omega)
      obtain ⟨r1, r2, r3⟩ := hu (2 * v + 2) (by omega) (by omega)
      have ul := tu (2 * v + 1) (by omega) (by omega)
      have ur := tu (2 * v + 2) (by omega) (by omega)
      obtain ⟨_, ⟨_, lel⟩, _⟩ := tt_e hN (show 2 * v + 1 < N by omega)
      obtain ⟨_, ⟨_, ler⟩, _⟩ := tt_e hN (show 2 * v + 2 < N by omega)
      rw [show 2 * v + 1 + 1 = 2 * v + 2 by omega] at l1 l3 lel
      rw [show 2 * v + 2 + 1 = 2 * v + 3 by omega] at r1 r3 ler
      generalize ttD N (N - (2 * v + 1)) = p1 at *
      generalize ttD N (N - (2 * v + 2)) = p2 at *
      generalize ttD N (N - (2 * v + 3)) = p3 at *
      have a1 : mI M1 12 (2 * v + 1) = nI p2 := by rw [r12 _ (by omega)]; exact l1
      obtain ⟨M2, e2, t2, fw, kp, X2⟩ := lw8v (v := v) (l := 2 * v + 1) (r := 2 * v + 2) (ar := p3) (br := p2) (bl := p1) h16 (show v < N by omega) (by omega) (by omega) ler (p1 - p2) p2 n M1 c (by omega) W1 t1 (by rw [r12 _ (by omega)]; exact r1) (by rw [r13]; exact r2) (by rw [r13]; exact l2) ul ur (by omega) (by omega)
      rw [← te] at t2 X2
      obtain ⟨M', n', h', f', l', e', hn'⟩ := rest M2 t2 fw kp (fun β => by
        rw [X2 β, wh_nz (show v < N by omega) h16 hodd, if_neg leaf, ← l3 β, ← r3 β, Ex_c (c := c) (fun j _ => i11 j) ul, Ex_c (c := c) (fun j _ => i11 j) ur])
      have W1' := W1
      obtain ⟨⟨u1, u2, u3, u4, u5, u6, u7, u8, u9⟩, ⟨x1, x2, x3, x4, x5, x6, x7, x8⟩, ⟨q1, q2, q3, q4, q5, q6⟩⟩ := W1'
      have eW : f_X8_listWholes n 5 (nI v) (nI (2 * v + 1)) (nI (2 * v + 2)) M1 = some M2 := by
        rw [f_X8_listWholes, chk_t u1, x5, bnd_e, chk_t u8, q5, chk_t (inB_n (by omega) (by decide)), mI_c (by omega), a1, bnd_e]
        exact e2
      exact ⟨M', n', h', f', l', (hd _ (by rw [e22, e21, if_neg (nI_ge (by omega) (by omega)), eW, obd_s])).trans e', hn'⟩
theorem aw80v {N b : Nat} (h16 : N ≤ 16) : ∀ (d j n : Nat) (M : Mem) (c : Nat), j + d = b → W5 M → TWn N M c → F1 M 8 9 N → mI M 13 0 = nI b → b ≤ c → d + 1 ≤ n → ∃ M', f_X8_addWholes_80 n 5 (nI j) M = some M' ∧ FLq 9 M M' ∧ ∀ X, fb (mL M' 9) X = true ↔ fb (mL M 9) X = true ∨ ∃ i, j ≤ i ∧ i < b ∧ mI M 11 i = nI X ∧ X < 65536 := by
  intro d
  induction d with
  | zero =>
    intro j n M c hj w h f hb hc hn
    obtain ⟨n, rfl⟩ : ∃ m, n = m + 1 := ⟨n - 1, by omega⟩
    have h305 := h.2.1
    obtain ⟨⟨w1, w2, w3, w4, w5, w6, w7, w8, w9⟩, ⟨y1, y2, y3, y4, y5, y6, y7, y8⟩, ⟨z1, z2, z3, z4, z5, z6⟩⟩ := w
    exact ⟨M, by rw [f_X8_addWholes_80, chk_t w1, y6, bnd_e, chk_t w9, z6, chk_t (show inB (0 : Int32) 16 by decide), show mI M 13 ((0 : Int32)).toNatClampNeg = nI b from hb, if_pos (nI_le (by omega) (by omega))], FLq.rf 9 M, fun X => ⟨Or.inl, fun z => z.elim id (fun ⟨i, h1, h2, _⟩ => by omega)⟩⟩
  | succ d ih =>
    intro j n M c hj w h f hb hc hn
    obtain ⟨n, rfl⟩ : ∃ m, n = m + 1 := ⟨n - 1, by omega⟩
    have h305 := h.2.1
    obtain ⟨⟨w1, w2, w3, w4, w5, w6, w7, w8, w9⟩, ⟨y1, y2, y3, y4, y5, y6, y7, y8⟩, ⟨z1, z2, z3, z4, z5, z6⟩⟩ := id w
    obtain ⟨k, hk, ek⟩ := SO.k (x := mI M 11 j) (fun i a b => h.2.2 j (by omega) i (by omega) b)
    obtain ⟨M1, e1, f1, x1⟩ := f.addv hk
    have t1 : TWn N M1 c := ⟨by rw [f1.2.1]; exact h.1, h.2.1, fun j hj => by rw [f1.2.1]; exact h.2.2 j hj⟩
    obtain ⟨M', e', f', x'⟩ := ih (j + 1) n M1 c (by omega) (w.e f1.1) t1 (f.l f1.lg) (by rw [f1.2.1]; exact hb) hc (by omega)
    refine ⟨M', by rw [f_X8_addWholes_80, chk_t w1, y6, bnd_e, chk_t w9, z6, chk_t (show inB (0 : Int32) 16 by decide), show mI M 13 ((0 : Int32)).toNatClampNeg = nI b from hb, if_neg (nI_ge (by omega) (by omega)), y2, bnd_e, chk_t w4, y4, bnd_e, chk_t w7, z4, chk_t (inB_n (by omega) (by decide)), mI_c (by omega), ek, e1, obd_s, bnd_e, nI_1]; exact e', f1.tr f', fun X => ?_⟩
    rw [x' X, x1 X, Bool.or_eq_true, decide_eq_true_eq]
    constructor
    · rintro ((a | a) | ⟨i, h1, h2, h3, h4⟩)
      · exact Or.inl a
      · exact Or.inr ⟨j, Nat.le_refl _, by omega, by rw [a]; exact ek, by omega⟩
      · exact Or.inr ⟨i, by omega, h2, by rw [← f1.2.1]; exact h3, h4⟩
    · rintro (a | ⟨i, h1, h2, h3, h4⟩)
      · exact Or.inl (Or.inl a)
      · by_cases z : i = j
        · rw [z, ek] at h3
          exact Or.inl (Or.inr ((nI_eq (by omega) (by omega)).mp h3.symm))
        · exact Or.inr ⟨i, by omega, h2, by rw [f1.2.1]; exact h3, h4⟩
/-! the bases added -/
def bsN (S : St) (v : Nat) : Nat := (xR S 17 v).toBitVec.toNat
theorem bsN_e (S : St) (v : Nat) : xR S 17 v = nI (bsN S v) := nI_tn _
theorem bsN_lt {N : Nat} {S : St} (h16 : N ≤ 16) (bi : BI N S) {v : Nat} (hv : v < N) : bsN S v < 2 ^ N := bt_hi (by omega) (fun i a b => bi v hv i a b)
theorem sub_iff {X Y : Nat} (hX : X < 65536) (hY : Y < 65536) : nI Y &&& (nI X ^^^ (-1 : Int32)) = 0 ↔ ∀ i, Y.testBit i = true → X.testBit i = true := by
  constructor
  · intro h i hi
    have i32 : i < 32 := by
      apply Decidable.byContradiction
      intro c
      rw [Nat.testBit_lt_two_pow (Nat.lt_of_lt_of_le hY (show 2 ^ 16 ≤ 2 ^ i from Nat.pow_le_pow_right (by decide) (by omega)))] at hi
      cases hi
    have := bt_minus (nI Y) (nI X) i32
    rw [h, b_0, bt_nI _ i32, bt_nI _ i32, hi, Bool.true_and] at this
    cases z : X.testBit i
    · rw [z] at this; cases this
    · rfl
  · intro h
    refine b_ext fun i hi => ?_
    rw [bt_minus _ _ hi, bt_nI _ hi, bt_nI _ hi, b_0]
    cases z : Y.testBit i
    · rfl
    · rw [h i z]; rfl
theorem tb_hi {N X : Nat} (h : X < 2 ^ N) {i : Nat} (hi : N ≤ i) : X.testBit i = false := Nat.testBit_lt_two_pow (Nat.lt_of_lt_of_le h (Nat.pow_le_pow_right (by decide) hi))
/-- the closure of a family of sets of the N nodes -/
theorem upF_N {F : Nat → Bool} {N X : Nat} (hF : ∀ Y, F Y = true → Y < 2 ^ N) : upF F N X = true ↔ X < 2 ^ N ∧ ∃ Y, F Y = true ∧ ∀ i, Y.testBit i = true → X.testBit i = true := by
  rw [upF_iff]
  constructor
  · rintro ⟨Y, h1, h2, h3⟩
    refine ⟨?_, Y, h1, h3⟩
    apply Nat.lt_pow_two_of_testBit
    intro i hi
    rw [← h2 i hi]
    exact tb_hi (hF Y h1) hi
  · rintro ⟨hX, Y, h1, h3⟩
    exact ⟨Y, h1, fun i hi => by rw [tb_hi (hF Y h1) hi, tb_hi hX hi], h3⟩
