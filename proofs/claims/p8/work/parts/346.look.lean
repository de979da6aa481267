theorem selN {N : Nat} (hN : N < 2147483648) (x : Int32) : x < 0 ∨ nI N ≤ x ∨ ∃ k, k < N ∧ x = nI k := by
  have ez : (0 : Int32).toInt = 0 := by decide
  have eN : ∀ k, k < 2147483648 → (nI k).toInt = (k : Int) := fun k hk => by
    show (Int32.ofNat k).toInt = _
    rw [Int32.toInt_ofNat_of_lt (by omega)]
  by_cases h1 : x < 0
  · exact Or.inl h1
  · by_cases h2 : nI N ≤ x
    · exact Or.inr (Or.inl h2)
    · refine Or.inr (Or.inr ⟨x.toInt.toNat, ?_, ?_⟩)
      · rw [Int32.lt_iff_toInt_lt, ez] at h1
        rw [Int32.le_iff_toInt_le, eN N hN] at h2
        omega
      · rw [Int32.lt_iff_toInt_lt, ez] at h1
        rw [Int32.le_iff_toInt_le, eN N hN] at h2
        rw [← Int32.toInt_inj, eN _ (by omega)]
        omega
/-- x lies outside 0 .. N - 1 -/
def Out (N : Nat) (x : Int32) : Prop := x < 0 ∨ nI N ≤ x
theorem out_in {N : Nat} (hN : N < 2147483648) (x : Int32) : Out N x ∨ ∃ k, k < N ∧ x = nI k := by
  rcases selN hN x with h | h | h
  · exact Or.inl (Or.inl h)
  · exact Or.inl (Or.inr h)
  · exact Or.inr h
theorem out_ne {N k : Nat} {x : Int32} (h : Out N x) (hd : ¬ nI k < 0 ∧ ¬ nI N ≤ nI k) : ¬ x = nI k := fun e => by
  rw [e] at h
  rcases h with h | h
  · exact hd.1 h
  · exact hd.2 h
theorem out_is {N : Nat} {x y : Int32} {M : Mem} (h : Out N x) (hy : ∀ z : Int32, nI N ≤ z → y < z) : f_X10_isIn x 0 y M = some 0 := by
  rw [f_X10_isIn]
  by_cases h1 : x < 0
  · rw [if_pos h1]
  · rw [if_neg h1, if_pos]
    exact hy x (h.resolve_left h1)
theorem lt_of {y : Int32} {N : Nat} (h : y.toInt < (nI N).toInt) (z : Int32) (hz : nI N ≤ z) : y < z := by
  rw [Int32.lt_iff_toInt_lt]; rw [Int32.le_iff_toInt_le] at hz; omega
theorem Mf_10 : isO Mf 10 120 := Mf_RK.1
theorem all_k {P : Nat → Bool} {N k : Nat} (h : (List.range N).all P = true) (hk : k < N) : P k = true := List.all_eq_true.mp h k (List.mem_range.mpr hk)
theorem n10 : ¬ (1 : Int32) = 0 := by decide
