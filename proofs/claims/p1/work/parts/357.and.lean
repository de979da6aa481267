theorem and_le (a : Int32) (m : Nat) (hm : m < 2147483648) : ∃ k, k ≤ m ∧ a &&& nI m = nI k := by
  refine ⟨(a &&& nI m).toBitVec.toNat, ?_, ?_⟩
  · have e : (a &&& nI m).toBitVec = a.toBitVec &&& (nI m).toBitVec := Int32.toBitVec_and a (nI m)
    have h2 : (nI m).toBitVec.toNat = m := by
      show (BitVec.ofNat 32 m).toNat = m
      rw [BitVec.toNat_ofNat]
      exact Nat.mod_eq_of_lt (by omega)
    rw [e, BitVec.toNat_and, h2]
    exact Nat.and_le_right
  · apply Int32.toBitVec_inj.mp
    show _ = BitVec.ofNat 32 _
    rw [BitVec.ofNat_toNat, BitVec.setWidth_eq]
