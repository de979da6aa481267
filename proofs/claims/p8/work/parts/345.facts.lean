/-! ===== what the fresh memory holds; the two answers at one call as one check ===== -/
theorem wA_1 (M : Mem) (A : Nat) (f : Nat → Int32) : (wA M A f).1 = M.1 := rfl
theorem Mf_1 : Mf.1 = MA0.1 := by unfold Mf; exact wA_1 _ _ _
theorem mN_e {M M' : Mem} (h : M.1 = M'.1) : mN M = mN M' := by simp only [mN, h]
theorem mC_e {M M' : Mem} (h : M.1 = M'.1) (i : Nat) : mC M i = mC M' i := by simp only [mC, h]
theorem mLn_e {M M' : Mem} (h : M.1 = M'.1) (i : Nat) : mLn M i = mLn M' i := by simp only [mLn, h]
theorem mR_e {M M' : Mem} (h : M.1 = M'.1) (i k : Nat) : mR M i k = mR M' i k := by simp only [mR, h]
theorem io_f {i c : Nat} (h : i < 131) (hc : (tC.getD i (0, 0)).1 = c) : isO Mf c i := by
  refine ⟨?_, ?_⟩
  · rw [mN_e Mf_1, MA_t.2.2.2]; exact h
  · rw [mC_e Mf_1, mC, MA_c h]; exact hc
theorem ln_f {i l : Nat} (h : i < 131) (hc : (tC.getD i (0, 0)).2 = l) : mLn Mf i = l := by
  rw [mLn_e Mf_1, mLn, MA_c h]; exact hc
theorem R_f {q : Nat × Nat × Nat} (h : tF.contains q = true) : mR Mf q.1 q.2.1 = q.2.2 := by
  rw [mR_e Mf_1]
  exact of_decide_eq_true (List.all_eq_true.mp MA_t.2.1 q (List.contains_iff_mem.mp h))
theorem fR00 : mR Mf 0 0 = 1 := R_f (q := (0, 0, 1)) (by decide)
theorem fR01 : mR Mf 0 1 = 5 := R_f (q := (0, 1, 5)) (by decide)
theorem fR02 : mR Mf 0 2 = 14 := R_f (q := (0, 2, 14)) (by decide)
theorem fR03 : mR Mf 0 3 = 63 := R_f (q := (0, 3, 63)) (by decide)
theorem fR04 : mR Mf 0 4 = 112 := R_f (q := (0, 4, 112)) (by decide)
theorem fR05 : mR Mf 0 5 = 114 := R_f (q := (0, 5, 114)) (by decide)
theorem fR141 : mR Mf 14 1 = 15 := R_f (q := (14, 1, 15)) (by decide)
theorem fR142 : mR Mf 14 2 = 24 := R_f (q := (14, 2, 24)) (by decide)
theorem fR143 : mR Mf 14 3 = 25 := R_f (q := (14, 3, 25)) (by decide)
theorem fR144 : mR Mf 14 4 = 27 := R_f (q := (14, 4, 27)) (by decide)
theorem fR145 : mR Mf 14 5 = 29 := R_f (q := (14, 5, 29)) (by decide)
theorem fR154 : mR Mf 15 4 = 20 := R_f (q := (15, 4, 20)) (by decide)
theorem fRr : mR Mf 120 0 = 121 := Mf_RK.2.1
section
variable {α : Type} (x : Option α)
theorem fc0 : chk (isO Mf 9 0) x = x := chk_t (io_f (by decide) (by decide))
theorem fc1 : chk (isO Mf 7 1) x = x := chk_t (io_f (by decide) (by decide))
theorem fc5 : chk (isO Mf 8 5) x = x := chk_t (io_f (by decide) (by decide))
theorem fc14 : chk (isO Mf 2 14) x = x := chk_t (io_f (by decide) (by decide))
theorem fc15 : chk (isO Mf 5 15) x = x := chk_t (io_f (by decide) (by decide))
theorem fc24 : chk (isO Mf 102 24) x = x := chk_t (io_f (by decide) (by decide))
theorem fc25 : chk (isO Mf 3 25) x = x := chk_t (io_f (by decide) (by decide))
theorem fc27 : chk (isO Mf 3 27) x = x := chk_t (io_f (by decide) (by decide))
theorem fc63 : chk (isO Mf 2 63) x = x := chk_t (io_f (by decide) (by decide))
theorem fc112 : chk (isO Mf 0 112) x = x := chk_t (io_f (by decide) (by decide))
theorem fc114 : chk (isO Mf 6 114) x = x := chk_t (io_f (by decide) (by decide))
theorem fc120 : chk (isO Mf 10 120) x = x := chk_t (io_f (by decide) (by decide))
theorem fc121 : chk (isO Mf 100 121) x = x := chk_t (io_f (by decide) (by decide))
end
theorem fln121 : mLn Mf 121 = 10465 := Mf_RK.2.2.2
theorem wA_o (M : Mem) (A : Nat) (f : Nat → Int32) {i : Nat} (h : i ≠ A) (k : Nat) : mI (wA M A f) i k = mI M i k := by simp only [wA, mI, if_neg h]
theorem wA_s (M : Mem) (A : Nat) (f : Nat → Int32) (k : Nat) : mI (wA M A f) A k = f k := by simp only [wA, mI, if_pos]
theorem Mf_o {i : Nat} (h : i ≠ 121) (k : Nat) : mI Mf i k = mI MA0 i k := by unfold Mf; exact wA_o _ _ _ h k
theorem Mf_s (k : Nat) : mI Mf 121 k = mff (mI MA0 121) 4 k := by unfold Mf; exact wA_s _ _ _ k
set_option maxRecDepth 1000000 in
theorem MA_I13 : mI MA0 1 3 = 4 := by decide +kernel
theorem fI13 : mI Mf 1 3 = 4 := by
  rw [Mf_o (by decide)]
  exact MA_I13
theorem fIr0 : mI Mf 121 0 = 4 := by
  rw [Mf_s]
  rfl
def E (x : Option (Int32 × Mem)) (y : Mem → Option (Int32 × Mem)) : Bool := match x with
  | none => false
  | some p => decide (isO p.2 10 120) && (match y p.2 with
    | none => false
    | some q => decide (p.1 = q.1))
theorem E_ok {x : Option (Int32 × Mem)} {y : Mem → Option (Int32 × Mem)} (h : E x y = true) : ∃ rr M1 M2, x = some (rr, M1) ∧ isO M1 10 120 ∧ y M1 = some (rr, M2) := by
  cases hx : x with
  | none => rw [hx] at h; cases h
  | some p =>
    rw [hx] at h
    simp only [E, Bool.and_eq_true] at h
    obtain ⟨h1, h2⟩ := h
    cases hy : y p.2 with
    | none => rw [hy] at h2; cases h2
    | some q =>
      rw [hy] at h2
      have h3 : p.1 = q.1 := of_decide_eq_true h2
      exact ⟨p.1, p.2, q.2, rfl, of_decide_eq_true h1, by rw [hy, h3]⟩
def lf (x : Option Int32) (M : Mem) : Option (Int32 × Mem) := match x with
  | none => none
  | some a => some (a, M)
theorem lf_ok {x : Option Int32} {M M1 : Mem} {r : Int32} (h : lf x M = some (r, M1)) : x = some r ∧ M1 = M := by
  cases x with
  | none => cases h
  | some a => cases h; exact ⟨rfl, rfl⟩
theorem E_s (r : Int32) (M M2 : Mem) (y : Mem → Option (Int32 × Mem)) (h1 : isO M 10 120) (h2 : y M = some (r, M2)) : E (some (r, M)) y = true := by
  simp only [E, h2, decide_true, Bool.and_true]
  exact decide_eq_true h1
theorem fin4 (a : Int32) : a < 0 ∨ (0 ≤ a ∧ (4 : Int32) ≤ a) ∨ a = nI 0 ∨ a = nI 1 ∨ a = nI 2 ∨ a = nI 3 := by
  have e0 : (nI 0).toInt = 0 := by decide
  have e1 : (nI 1).toInt = 1 := by decide
  have e2 : (nI 2).toInt = 2 := by decide
  have e3 : (nI 3).toInt = 3 := by decide
  have e4 : (4 : Int32).toInt = 4 := by decide
  have ez : (0 : Int32).toInt = 0 := by decide
  simp only [Int32.lt_iff_toInt_lt, Int32.le_iff_toInt_le, ← Int32.toInt_inj, e0, e1, e2, e3, e4, ez]
  omega
