/-! ===== one call on the fresh objects: the calls that only look ===== -/
theorem selN {N : Nat} (hN : N < 2147483648) (x : Int32) : x < 0 ∨ nI N ≤ x ∨ ∃ k, k < N ∧ x = nI k := by
  have ez : (0 : Int32).toInt = 0 := by decide
  have eN : ∀ k, k < 2147483648 → (nI k).toInt = (k : Int) := fun k hk => by
    show (Int32.ofNat k).toInt = _
    rw [Int32.toInt_ofNat_of_lt (by omega)]
  by_cases h1 : x < 0
  · exact Or.inl h1
  · by_cases h2 : nI N ≤ x
    · exact Or.inr (Or.inl h2)
    · refine Or.inr (Or.inr ⟨x.toInt.toNat, ?_, ?_⟩)
      · rw [Int32.lt_iff_toInt_lt, ez] at h1
        rw [Int32.le_iff_toInt_le, eN N hN] at h2
        omega
      · rw [Int32.lt_iff_toInt_lt, ez] at h1
        rw [Int32.le_iff_toInt_le, eN N hN] at h2
        rw [← Int32.toInt_inj, eN _ (by omega)]
        omega
/-- x lies outside 0 .. N - 1 -/
def Out (N : Nat) (x : Int32) : Prop := x < 0 ∨ nI N ≤ x
theorem out_in {N : Nat} (hN : N < 2147483648) (x : Int32) : Out N x ∨ ∃ k, k < N ∧ x = nI k := by
  rcases selN hN x with h | h | h
  · exact Or.inl (Or.inl h)
  · exact Or.inl (Or.inr h)
  · exact Or.inr h
theorem out_ne {N k : Nat} {x : Int32} (h : Out N x) (hd : ¬ nI k < 0 ∧ ¬ nI N ≤ nI k) : ¬ x = nI k := fun e => by
  rw [e] at h
  rcases h with h | h
  · exact hd.1 h
  · exact hd.2 h
theorem out_is {N : Nat} {x y : Int32} {M : Mem} (h : Out N x) (hy : ∀ z : Int32, nI N ≤ z → y < z) : f_X10_isIn x 0 y M = some 0 := by
  rw [f_X10_isIn]
  by_cases h1 : x < 0
  · rw [if_pos h1]
  · rw [if_neg h1, if_pos]
    exact hy x (h.resolve_left h1)
theorem lt_of {y : Int32} {N : Nat} (h : y.toInt < (nI N).toInt) (z : Int32) (hz : nI N ≤ z) : y < z := by
  rw [Int32.lt_iff_toInt_lt]; rw [Int32.le_iff_toInt_le] at hz; omega
theorem nd7 {a : Int32} (h : Out 4 a) : f_X7_isNode 1 a Mf = some 0 := by
  rw [f_X7_isNode]
  by_cases h1 : a < 0
  · rw [if_pos h1]
  · rw [if_neg h1, fc1, fI13, if_pos]
    exact h.resolve_left h1
theorem fin0 : inB (0 : Int32) (mLn Mf 121) := rk_in (k := 0) Mf_RK (by decide)
theorem nd10 {a : Int32} (h : Out 4 a) : f_X10_isNode 120 a Mf = some 0 := by
  rw [f_X10_isNode, fc120, bnd_e, fRr, fc121, chk_t fin0]
  rw [show mI Mf 121 ((0 : Int32)).toNatClampNeg = 4 from fIr0, out_is h (lt_of (by decide)), obd_s, chk_t (by decide)]
theorem E_pp {x : Option Int32} {g : Mem → Option Int32} {M : Mem} {r : Int32} (h0 : isO M 10 120) (h1 : x = some r) (h2 : g M = some r) : E (lf x M) (fun M => lf (g M) M) = true := by
  have h3 : (fun M => lf (g M) M) M = some (r, M) := by
    show lf (g M) M = _
    rw [h2]; rfl
  rw [h1]
  exact E_s r M M _ h0 h3
theorem E_pm {x : Option Int32} {g : Mem → Option (Int32 × Mem)} {M M2 : Mem} {r : Int32} (h0 : isO M 10 120) (h1 : x = some r) (h2 : g M = some (r, M2)) : E (lf x M) g = true := by
  rw [h1]
  exact E_s r M M2 _ h0 h2
theorem E_mm {x : Option (Int32 × Mem)} {g : Mem → Option (Int32 × Mem)} {M1 M2 : Mem} {r : Int32} (h0 : isO M1 10 120) (h1 : x = some (r, M1)) (h2 : g M1 = some (r, M2)) : E x g = true := by
  rw [h1]
  exact E_s r M1 M2 _ h0 h2
theorem E_mp {x : Option (Int32 × Mem)} {g : Mem → Option Int32} {M1 : Mem} {r : Int32} (h0 : isO M1 10 120) (h1 : x = some (r, M1)) (h2 : g M1 = some r) : E x (fun M => lf (g M) M) = true := by
  have h3 : (fun M => lf (g M) M) M1 = some (r, M1) := by
    show lf (g M1) M1 = _
    rw [h2]; rfl
  rw [h1]
  exact E_s r M1 M1 _ h0 h3
theorem Mf_10 : isO Mf 10 120 := Mf_RK.1
theorem all_k {P : Nat → Bool} {N k : Nat} (h : (List.range N).all P = true) (hk : k < N) : P k = true := List.all_eq_true.mp h k (List.mem_range.mpr hk)
theorem nd7v {k : Nat} (hk : k < 4) : f_X7_isNode 1 (nI k) Mf = some 1 := by
  rw [f_X7_isNode, fc1, fI13, if_neg, if_neg]
  · revert k; decide
  · revert k; decide
theorem nd10v {k : Nat} (hk : k < 4) : f_X10_isNode 120 (nI k) Mf = some 1 := by
  rw [f_X10_isNode, fc120, bnd_e, fRr, fc121, chk_t fin0]
  rw [show mI Mf 121 ((0 : Int32)).toNatClampNeg = 4 from fIr0, f_X10_isIn, if_neg, if_neg]
  · rfl
  · revert k; decide
  · revert k; decide
theorem n10 : ¬ (1 : Int32) = 0 := by decide
