theorem cn8_x {b : Int32} (h : Out 3 b) (a : Int32) (M : Mem) : f_X9_quorum 0 a b M = f_X9_quorum 0 a 99 M := by
  have hl := h
  have h99 : Out 3 (99 : Int32) := Or.inr (by decide)
  have e0 : (b = (0 : Int32)) = False := eq_false (out_ne (k := 0) h (by decide))
  have c0 : ((99 : Int32) = (0 : Int32)) = False := eq_false (by decide)
  have e1 : (b = (1 : Int32)) = False := eq_false (out_ne (k := 1) h (by decide))
  have c1 : ((99 : Int32) = (1 : Int32)) = False := eq_false (by decide)
  have e2 : (b = (2 : Int32)) = False := eq_false (out_ne (k := 2) h (by decide))
  have c2 : ((99 : Int32) = (2 : Int32)) = False := eq_false (by decide)
  have i1 : ∀ M, f_X10_isIn b 0 2 M = some 0 := fun M => out_is h (lt_of (by decide))
  have i2 : ∀ M, f_X10_isIn 99 0 2 M = some 0 := fun M => out_is h99 (lt_of (by decide))
  have i3 : ∀ M, f_X10_isIn b 0 2 M = some 0 := fun M => out_is h (lt_of (by decide))
  simp only [f_X9_quorum, e0, c0, e1, c1, e2, c2, if_false, i1, i2, obd_s]
theorem cn8_y {b : Int32} (h : Out 3 b) (a : Int32) (M : Mem) : f_X10_quorum 59999 120 a b M = f_X10_quorum 59999 120 a 99 M := by
  have hl := h
  have h99 : Out 3 (99 : Int32) := Or.inr (by decide)
  have e0 : (b = (0 : Int32)) = False := eq_false (out_ne (k := 0) h (by decide))
  have c0 : ((99 : Int32) = (0 : Int32)) = False := eq_false (by decide)
  have e1 : (b = (1 : Int32)) = False := eq_false (out_ne (k := 1) h (by decide))
  have c1 : ((99 : Int32) = (1 : Int32)) = False := eq_false (by decide)
  have e2 : (b = (2 : Int32)) = False := eq_false (out_ne (k := 2) h (by decide))
  have c2 : ((99 : Int32) = (2 : Int32)) = False := eq_false (by decide)
  have i1 : ∀ M, f_X10_isIn b 0 2 M = some 0 := fun M => out_is h (lt_of (by decide))
  have i2 : ∀ M, f_X10_isIn 99 0 2 M = some 0 := fun M => out_is h99 (lt_of (by decide))
  have i3 : ∀ M, f_X10_isIn b 0 2 M = some 0 := fun M => out_is h (lt_of (by decide))
  simp only [f_X10_quorum, e0, c0, e1, c1, e2, c2, if_false, i1, i2, obd_s]
set_option maxRecDepth 1000000 in
theorem op8_v : (List.range 4).all (fun k => (List.range 3).all fun j => (E (lf (f_X9_quorum 0 (nI k) (nI j) Mf) Mf) (fun M => f_X10_quorum 59999 120 (nI k) (nI j) M))) = true := by decide +kernel
set_option maxRecDepth 1000000 in
theorem op8_w : (List.range 4).all (fun k => (E (lf (f_X9_quorum 0 (nI k) 99 Mf) Mf) (fun M => f_X10_quorum 59999 120 (nI k) 99 M))) = true := by decide +kernel
theorem op8 (a b : Int32) : E (lf (f_X9_quorum 0 a b Mf) Mf) (fun M => f_X10_quorum 59999 120 a b M) = true := by
  rcases out_in (N := 4) (by decide) a with h | ⟨k, hk, rfl⟩
  · refine E_pm (r := -1) (M2 := Mf) Mf_10 ?_ ?_ <;> simp only [f_X9_quorum, f_X10_quorum, fc0, fc1, fc5, fc14, fc15, fc24, fc25, fc27, fc63, fc112, fc114, fc120, fc121, fR00, fR01, fR02, fR03, fR04, fR05, fR141, fR142, fR143, fR144, fR145, fR154, fRr, bnd_e, obd_s, obd2_s, nd7 h, nd10 h, if_pos]
  · rcases out_in (N := 3) (by decide) b with h | ⟨j, hj, rfl⟩
    · simp only [cn8_x h, cn8_y h]
      have q := all_k op8_w hk
      exact q
    · have q := all_k (all_k op8_v hk) hj
      exact q
