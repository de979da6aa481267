theorem rng3 {L N : Nat} (hL : 0 < L ∧ L < 1000) (hN : N < 1000) (a : Int32) : (a < nI L ∨ nI (N + 1) ≤ a) ∨ ∃ k, L ≤ k ∧ k ≤ N ∧ a = nI k := by
  rcases out_in (N := N + 1) (by omega) a with h | ⟨k, hk, rfl⟩
  · rcases h with h | h
    · have : (0 : Int32) < nI L := nI_lt (a := 0) hL.1 (by omega)
      exact Or.inl (Or.inl (Int32.lt_trans h this))
    · exact Or.inl (Or.inr h)
  · by_cases h2 : L ≤ k
    · exact Or.inr ⟨k, h2, by omega, rfl⟩
    · exact Or.inl (Or.inl (nI_lt (by omega) (by omega)))
theorem gt3 {N : Nat} (hN : N < 1000) {a : Int32} (h : nI (N + 1) ≤ a) : nI N < a := by
  rw [Int32.lt_iff_toInt_lt]
  rw [Int32.le_iff_toInt_le] at h
  have e : ∀ k, k < 2000 → (nI k).toInt = k := fun k hk => by
    have := (nI_ltI (a := k) (b := k + 1) (by omega) (by omega))
    have e2 : (nI k).toInt = if 2 * (nI k).toBitVec.toNat < 2 ^ 32 then ((nI k).toBitVec.toNat : Int) else ((nI k).toBitVec.toNat : Int) - (2 ^ 32 : Nat) := BitVec.toInt_eq_toNat_cond _
    have e3 : (nI k).toBitVec.toNat = k := by
      show (BitVec.ofNat 32 k).toNat = k
      rw [BitVec.toNat_ofNat]; exact Nat.mod_eq_of_lt (by omega)
    rw [e2, e3, if_pos (by omega)]
  rw [e N (by omega)]
  rw [e (N + 1) (by omega)] at h
  omega
theorem is_out3 {L N : Nat} {M : Mem} (hN : N < 1000) {a : Int32} (h : a < nI L ∨ nI (N + 1) ≤ a) : f_X10_isIn a (nI L) (nI N) M = some 0 := by
  rw [f_X10_isIn]
  by_cases q : a < nI L
  · rw [if_pos q]
  · rw [if_neg q, if_pos (gt3 hN (h.resolve_left q))]
theorem is_in3 {L N k : Nat} {M : Mem} (hN : N < 1000) (h : L ≤ k) (h2 : k ≤ N) : f_X10_isIn (nI k) (nI L) (nI N) M = some 1 := by
  rw [f_X10_isIn, if_neg (nI_nlt h (by omega)), if_neg (nI_nlt h2 (by omega))]

theorem Mf_57r {i : Nat} (a : 5 ≤ i) (b : i ≤ 7) : mR Mf 15 i = i + 16 ∧ mR Mf 64 i = i + 65 := by
  have := Mf_57 (j := i - 5) (by omega)
  rw [show 5 + (i - 5) = i by omega] at this
  exact ⟨by rw [this.1]; omega, by rw [this.2]; omega⟩
