/-! ===== grid, filled, majority on the fresh objects ===== -/
theorem rng2 {N : Nat} (hN : N < 1000) (a : Int32) : (a < 2 ∨ nI (N + 1) ≤ a) ∨ ∃ k, 2 ≤ k ∧ k ≤ N ∧ a = nI k := by
  rcases out_in (N := N + 1) (by omega) a with h | ⟨k, hk, rfl⟩
  · rcases h with h | h
    · refine Or.inl (Or.inl ?_)
      have e0 : (0 : Int32).toInt = 0 := by decide
      have e2 : (2 : Int32).toInt = 2 := by decide
      rw [Int32.lt_iff_toInt_lt] at h ⊢; omega
    · exact Or.inl (Or.inr h)
  · by_cases h2 : 2 ≤ k
    · exact Or.inr ⟨k, h2, by omega, rfl⟩
    · refine Or.inl (Or.inl ?_)
      rcases (show k = 0 ∨ k = 1 by omega) with rfl | rfl <;> decide
theorem is_out2 {a y : Int32} {N : Nat} {M : Mem} (h : a < 2 ∨ nI N ≤ a) (hy : y.toInt < (nI N).toInt) : f_X10_isIn a 2 y M = some 0 := by
  rw [f_X10_isIn]
  by_cases q : a < 2
  · rw [if_pos q]
  · rw [if_neg q, if_pos (lt_of hy a (h.resolve_left q))]
theorem is_in2 {k N : Nat} {M : Mem} (h : 2 ≤ k) (h2 : k ≤ N) (hN : N < 1000) : f_X10_isIn (nI k) 2 (nI N) M = some 1 := by
  rw [f_X10_isIn, if_neg, if_neg]
  · exact Int32.not_lt.mpr (nI_le h2 (by omega))
  · rw [show (2 : Int32) = nI 2 from rfl]
    exact Int32.not_lt.mpr (nI_le h (by omega))
def RKb (M : Mem) : Bool := decide (isO M 10 120 ∧ mR M 120 0 = 121 ∧ isO M 100 121 ∧ mLn M 121 = 10465)
theorem RKb_ok {M : Mem} (h : RKb M = true) : RK M 120 121 := by
  have h2 : isO M 10 120 ∧ mR M 120 0 = 121 ∧ isO M 100 121 ∧ mLn M 121 = 10465 := of_decide_eq_true h
  exact h2
def GQ0 (k : Nat) : Bool := match f_X9_grid 59999 0 (nI k) Mf with
  | none => false
  | some p => RKb p.2 && decide (p.1 = nI (k * k))
set_option maxRecDepth 1000000 in
theorem op0_v : (List.range 5).all (fun k => decide (k < 2) || GQ0 k) = true := by decide +kernel
theorem op0 (a : Int32) : E (f_X9_grid 59999 0 a Mf) (fun M => f_X10_grid 59999 120 a M) = true := by
  rcases rng2 (N := 4) (by decide) a with h | ⟨k, h2, hk, rfl⟩
  · refine E_mm (r := -1) (M1 := Mf) (M2 := Mf) Mf_10 ?_ ?_
    · rw [f_X9_grid]
      by_cases q : a < 2
      · rw [if_pos q]
      · rw [if_neg q, if_neg (le_out (by decide) (h.resolve_left q))]
    · rw [f_X10_grid, is_out2 h (by decide), obd_s, if_pos rfl]
  · have q := all_k op0_v (show k < 5 by omega)
    have q1 : GQ0 k = true := by
      rcases Bool.or_eq_true _ _ |>.mp q with h | h
      · exact absurd (of_decide_eq_true h) (by omega)
      · exact h
    unfold GQ0 at q1
    cases hx : f_X9_grid 59999 0 (nI k) Mf with
    | none => rw [hx] at q1; cases q1
    | some p =>
      rw [hx] at q1
      obtain ⟨hr, hv⟩ := Bool.and_eq_true _ _ |>.mp q1
      have hR := RKb_ok hr
      have hv2 : p.1 = nI (k * k) := of_decide_eq_true hv
      refine E_mm (r := p.1) (M1 := p.2) (M2 := wA p.2 121 (mff (mI p.2 121) (k * k))) hR.1 rfl ?_
      rw [f_X10_grid, show (4 : Int32) = nI 4 from rfl, is_in2 h2 hk (by decide), obd_s, if_neg n10, chk_t hR.1, hv2]
      rw [f_X10_makeGrid, chk_t hR.1, pk_mul, f_filled (N := k * k) (Nat.le_trans (by decide) (Nat.mul_le_mul h2 h2)) (Nat.le_trans (Nat.mul_le_mul hk hk) (by decide)) hR (by decide), obd2_s, obd2_s]
def GQ2 (k : Nat) : Bool := match f_X9_filled 59999 0 (nI k) Mf with
  | none => false
  | some p => RKb p.2 && decide (p.1 = nI (k))
set_option maxRecDepth 1000000 in
theorem op2_v : (List.range 17).all (fun k => decide (k < 2) || GQ2 k) = true := by decide +kernel
theorem op2 (a : Int32) : E (f_X9_filled 59999 0 a Mf) (fun M => f_X10_filled 59999 120 a M) = true := by
  rcases rng2 (N := 16) (by decide) a with h | ⟨k, h2, hk, rfl⟩
  · refine E_mm (r := -1) (M1 := Mf) (M2 := Mf) Mf_10 ?_ ?_
    · rw [f_X9_filled]
      by_cases q : a < 2
      · rw [if_pos q]
      · rw [if_neg q, if_neg (le_out (by decide) (h.resolve_left q))]
    · rw [f_X10_filled, is_out2 h (by decide), obd_s, if_pos rfl]
  · have q := all_k op2_v (show k < 17 by omega)
    have q1 : GQ2 k = true := by
      rcases Bool.or_eq_true _ _ |>.mp q with h | h
      · exact absurd (of_decide_eq_true h) (by omega)
      · exact h
    unfold GQ2 at q1
    cases hx : f_X9_filled 59999 0 (nI k) Mf with
    | none => rw [hx] at q1; cases q1
    | some p =>
      rw [hx] at q1
      obtain ⟨hr, hv⟩ := Bool.and_eq_true _ _ |>.mp q1
      have hR := RKb_ok hr
      have hv2 : p.1 = nI (k) := of_decide_eq_true hv
      refine E_mm (r := p.1) (M1 := p.2) (M2 := wA p.2 121 (mff (mI p.2 121) (k))) hR.1 rfl ?_
      rw [f_X10_filled, show (16 : Int32) = nI 16 from rfl, is_in2 h2 hk (by decide), obd_s, if_neg n10, chk_t hR.1, hv2]
      rw [f_filled h2 (by omega) hR (by decide), obd2_s]
def HQ3 (k : Nat) : Bool := match f_X9_majority 59999 0 (nI k) Mf with
  | none => false
  | some p => RKb p.2 && (match f_X10_majority_20 59999 120 (nI k) 0 (wA p.2 121 (bgf (mI p.2 121) (nI k) 0)) with
    | none => false
    | some q => decide (p.1 = q.1))
set_option maxRecDepth 1000000 in
theorem op3_v : (List.range 17).all (fun k => decide (k < 2) || HQ3 k) = true := by decide +kernel
theorem op3 (a : Int32) : E (f_X9_majority 59999 0 a Mf) (fun M => f_X10_majority 59999 120 a M) = true := by
  rcases rng2 (N := 16) (by decide) a with h | ⟨k, h2, hk, rfl⟩
  · refine E_mm (r := -1) (M1 := Mf) (M2 := Mf) Mf_10 ?_ ?_
    · rw [f_X9_majority]
      by_cases q : a < 2
      · rw [if_pos q]
      · rw [if_neg q, if_neg (le_out (by decide) (h.resolve_left q))]
    · rw [f_X10_majority, is_out2 h (by decide), obd_s, if_pos rfl]
  · have q := all_k op3_v (show k < 17 by omega)
    have q1 : HQ3 k = true := by
      rcases Bool.or_eq_true _ _ |>.mp q with h | h
      · exact absurd (of_decide_eq_true h) (by omega)
      · exact h
    unfold HQ3 at q1
    cases hx : f_X9_majority 59999 0 (nI k) Mf with
    | none => rw [hx] at q1; cases q1
    | some p =>
      rw [hx] at q1
      obtain ⟨hr, hv⟩ := Bool.and_eq_true _ _ |>.mp q1
      have hR := RKb_ok hr
      have hb := f_begin (N := nI k) (t := 0) (n := 59999) hR (by decide)
      rw [if_pos rfl] at hb
      cases hy : f_X10_majority_20 59999 120 (nI k) 0 (wA p.2 121 (bgf (mI p.2 121) (nI k) 0)) with
      | none => rw [hy] at hv; cases hv
      | some z =>
        rw [hy] at hv
        have hv2 : p.1 = z.1 := of_decide_eq_true hv
        refine E_mm (r := p.1) (M1 := p.2) (M2 := z.2) hR.1 rfl ?_
        rw [f_X10_majority, show (16 : Int32) = nI 16 from rfl, is_in2 h2 hk (by decide), obd_s, if_neg n10, chk_t hR.1, hb, obd_s, hy, hv2]
