set_option maxRecDepth 1000000 in
theorem op21_v : (List.range 4).all (fun k => E (f_X9_ask 59999 0 (nI k) Mf) (fun M => f_X10_ask 59999 120 (nI k) M)) = true := by decide +kernel
theorem op21 (a : Int32) : E (f_X9_ask 59999 0 a Mf) (fun M => f_X10_ask 59999 120 a M) = true := by
  rcases out_in (N := 4) (by decide) a with h | ⟨k, hk, rfl⟩
  · refine E_mm (r := -1) (M1 := Mf) (M2 := Mf) Mf_10 ?_ ?_ <;> simp only [f_X9_ask, f_X10_ask, fc0, fc1, fc5, fc14, fc15, fc24, fc25, fc27, fc63, fc112, fc114, fc120, fc121, fR00, fR01, fR02, fR03, fR04, fR05, fR141, fR142, fR143, fR144, fR145, fR154, fRr, bnd_e, obd_s, obd2_s, nd7 h, nd10 h, if_pos]
  · have q := all_k op21_v hk
    exact q
set_option maxRecDepth 1000000 in
theorem op22_v : (List.range 4).all (fun k => E (f_X9_leave 59999 0 (nI k) Mf) (fun M => f_X10_leave 59999 120 (nI k) M)) = true := by decide +kernel
theorem op22 (a : Int32) : E (f_X9_leave 59999 0 a Mf) (fun M => f_X10_leave 59999 120 a M) = true := by
  rcases out_in (N := 4) (by decide) a with h | ⟨k, hk, rfl⟩
  · refine E_mm (r := 0) (M1 := Mf) (M2 := Mf) Mf_10 ?_ ?_ <;> simp only [f_X9_leave, f_X10_leave, fc0, fc1, fc5, fc14, fc15, fc24, fc25, fc27, fc63, fc112, fc114, fc120, fc121, fR00, fR01, fR02, fR03, fR04, fR05, fR141, fR142, fR143, fR144, fR145, fR154, fRr, bnd_e, obd_s, obd2_s, nd7 h, nd10 h, if_pos]
  · have q := all_k op22_v hk
    exact q
set_option maxRecDepth 1000000 in
theorem op24_v : (List.range 4).all (fun k => E (f_X9_withdraw 59999 0 (nI k) Mf) (fun M => f_X10_withdraw 59999 120 (nI k) M)) = true := by decide +kernel
theorem op24 (a : Int32) : E (f_X9_withdraw 59999 0 a Mf) (fun M => f_X10_withdraw 59999 120 a M) = true := by
  rcases out_in (N := 4) (by decide) a with h | ⟨k, hk, rfl⟩
  · refine E_mm (r := 0) (M1 := Mf) (M2 := Mf) Mf_10 ?_ ?_ <;> simp only [f_X9_withdraw, f_X10_withdraw, fc0, fc1, fc5, fc14, fc15, fc24, fc25, fc27, fc63, fc112, fc114, fc120, fc121, fR00, fR01, fR02, fR03, fR04, fR05, fR141, fR142, fR143, fR144, fR145, fR154, fRr, bnd_e, obd_s, obd2_s, nd7 h, nd10 h, if_pos]
  · have q := all_k op24_v hk
    exact q
set_option maxRecDepth 1000000 in
theorem op25_v : (List.range 4).all (fun k => E (f_X9_breakDown 59999 0 (nI k) Mf) (fun M => f_X10_breakDown 59999 120 (nI k) M)) = true := by decide +kernel
theorem op25 (a : Int32) : E (f_X9_breakDown 59999 0 a Mf) (fun M => f_X10_breakDown 59999 120 a M) = true := by
  rcases out_in (N := 4) (by decide) a with h | ⟨k, hk, rfl⟩
  · refine E_mm (r := 0) (M1 := Mf) (M2 := Mf) Mf_10 ?_ ?_ <;> simp only [f_X9_breakDown, f_X10_breakDown, fc0, fc1, fc5, fc14, fc15, fc24, fc25, fc27, fc63, fc112, fc114, fc120, fc121, fR00, fR01, fR02, fR03, fR04, fR05, fR141, fR142, fR143, fR144, fR145, fR154, fRr, bnd_e, obd_s, obd2_s, nd7 h, nd10 h, if_pos]
  · have q := all_k op25_v hk
    exact q
set_option maxRecDepth 1000000 in
theorem op26_v : (List.range 4).all (fun k => E (f_X9_mend 59999 0 (nI k) Mf) (fun M => f_X10_mend 59999 120 (nI k) M)) = true := by decide +kernel
theorem op26 (a : Int32) : E (f_X9_mend 59999 0 a Mf) (fun M => f_X10_mend 59999 120 a M) = true := by
  rcases out_in (N := 4) (by decide) a with h | ⟨k, hk, rfl⟩
  · refine E_mm (r := 0) (M1 := Mf) (M2 := Mf) Mf_10 ?_ ?_ <;> simp only [f_X9_mend, f_X10_mend, fc0, fc1, fc5, fc14, fc15, fc24, fc25, fc27, fc63, fc112, fc114, fc120, fc121, fR00, fR01, fR02, fR03, fR04, fR05, fR141, fR142, fR143, fR144, fR145, fR154, fRr, bnd_e, obd_s, obd2_s, nd7 h, nd10 h, if_pos]
  · have q := all_k op26_v hk
    exact q
theorem cn31_x {b : Int32} (h : Out 13 b) (M : Mem) : f_X9_is 59999 0 b M = f_X9_is 59999 0 99 M := by
  have hl := h
  have h99 : Out 13 (99 : Int32) := Or.inr (by decide)
  have e0 : (b = (0 : Int32)) = False := eq_false (out_ne (k := 0) h (by decide))
  have c0 : ((99 : Int32) = (0 : Int32)) = False := eq_false (by decide)
  have e1 : (b = (1 : Int32)) = False := eq_false (out_ne (k := 1) h (by decide))
  have c1 : ((99 : Int32) = (1 : Int32)) = False := eq_false (by decide)
  have e2 : (b = (2 : Int32)) = False := eq_false (out_ne (k := 2) h (by decide))
  have c2 : ((99 : Int32) = (2 : Int32)) = False := eq_false (by decide)
  have e3 : (b = (3 : Int32)) = False := eq_false (out_ne (k := 3) h (by decide))
  have c3 : ((99 : Int32) = (3 : Int32)) = False := eq_false (by decide)
  have e4 : (b = (4 : Int32)) = False := eq_false (out_ne (k := 4) h (by decide))
  have c4 : ((99 : Int32) = (4 : Int32)) = False := eq_false (by decide)
  have e5 : (b = (5 : Int32)) = False := eq_false (out_ne (k := 5) h (by decide))
  have c5 : ((99 : Int32) = (5 : Int32)) = False := eq_false (by decide)
  have e6 : (b = (6 : Int32)) = False := eq_false (out_ne (k := 6) h (by decide))
  have c6 : ((99 : Int32) = (6 : Int32)) = False := eq_false (by decide)
  have e7 : (b = (7 : Int32)) = False := eq_false (out_ne (k := 7) h (by decide))
  have c7 : ((99 : Int32) = (7 : Int32)) = False := eq_false (by decide)
  have e8 : (b = (8 : Int32)) = False := eq_false (out_ne (k := 8) h (by decide))
  have c8 : ((99 : Int32) = (8 : Int32)) = False := eq_false (by decide)
  have e9 : (b = (9 : Int32)) = False := eq_false (out_ne (k := 9) h (by decide))
  have c9 : ((99 : Int32) = (9 : Int32)) = False := eq_false (by decide)
  have e10 : (b = (10 : Int32)) = False := eq_false (out_ne (k := 10) h (by decide))
  have c10 : ((99 : Int32) = (10 : Int32)) = False := eq_false (by decide)
  have e11 : (b = (11 : Int32)) = False := eq_false (out_ne (k := 11) h (by decide))
  have c11 : ((99 : Int32) = (11 : Int32)) = False := eq_false (by decide)
  have e12 : (b = (12 : Int32)) = False := eq_false (out_ne (k := 12) h (by decide))
  have c12 : ((99 : Int32) = (12 : Int32)) = False := eq_false (by decide)
  have i1 : ∀ M, f_X10_isIn b 0 12 M = some 0 := fun M => out_is h (lt_of (by decide))
  have i2 : ∀ M, f_X10_isIn 99 0 12 M = some 0 := fun M => out_is h99 (lt_of (by decide))
  have i3 : ∀ M, f_X10_isIn b 0 12 M = some 0 := fun M => out_is h (lt_of (by decide))
  simp only [f_X9_is, e0, c0, e1, c1, e2, c2, e3, c3, e4, c4, e5, c5, e6, c6, e7, c7, e8, c8, e9, c9, e10, c10, e11, c11, e12, c12, if_false, i1, i2, obd_s]
theorem cn31_y {b : Int32} (h : Out 13 b) (M : Mem) : f_X10_is 59999 120 b M = f_X10_is 59999 120 99 M := by
  have hl := h
  have h99 : Out 13 (99 : Int32) := Or.inr (by decide)
  have e0 : (b = (0 : Int32)) = False := eq_false (out_ne (k := 0) h (by decide))
  have c0 : ((99 : Int32) = (0 : Int32)) = False := eq_false (by decide)
  have e1 : (b = (1 : Int32)) = False := eq_false (out_ne (k := 1) h (by decide))
  have c1 : ((99 : Int32) = (1 : Int32)) = False := eq_false (by decide)
  have e2 : (b = (2 : Int32)) = False := eq_false (out_ne (k := 2) h (by decide))
  have c2 : ((99 : Int32) = (2 : Int32)) = False := eq_false (by decide)
  have e3 : (b = (3 : Int32)) = False := eq_false (out_ne (k := 3) h (by decide))
  have c3 : ((99 : Int32) = (3 : Int32)) = False := eq_false (by decide)
  have e4 : (b = (4 : Int32)) = False := eq_false (out_ne (k := 4) h (by decide))
  have c4 : ((99 : Int32) = (4 : Int32)) = False := eq_false (by decide)
  have e5 : (b = (5 : Int32)) = False := eq_false (out_ne (k := 5) h (by decide))
  have c5 : ((99 : Int32) = (5 : Int32)) = False := eq_false (by decide)
  have e6 : (b = (6 : Int32)) = False := eq_false (out_ne (k := 6) h (by decide))
  have c6 : ((99 : Int32) = (6 : Int32)) = False := eq_false (by decide)
  have e7 : (b = (7 : Int32)) = False := eq_false (out_ne (k := 7) h (by decide))
  have c7 : ((99 : Int32) = (7 : Int32)) = False := eq_false (by decide)
  have e8 : (b = (8 : Int32)) = False := eq_false (out_ne (k := 8) h (by decide))
  have c8 : ((99 : Int32) = (8 : Int32)) = False := eq_false (by decide)
  have e9 : (b = (9 : Int32)) = False := eq_false (out_ne (k := 9) h (by decide))
  have c9 : ((99 : Int32) = (9 : Int32)) = False := eq_false (by decide)
  have e10 : (b = (10 : Int32)) = False := eq_false (out_ne (k := 10) h (by decide))
  have c10 : ((99 : Int32) = (10 : Int32)) = False := eq_false (by decide)
  have e11 : (b = (11 : Int32)) = False := eq_false (out_ne (k := 11) h (by decide))
  have c11 : ((99 : Int32) = (11 : Int32)) = False := eq_false (by decide)
  have e12 : (b = (12 : Int32)) = False := eq_false (out_ne (k := 12) h (by decide))
  have c12 : ((99 : Int32) = (12 : Int32)) = False := eq_false (by decide)
  have i1 : ∀ M, f_X10_isIn b 0 12 M = some 0 := fun M => out_is h (lt_of (by decide))
  have i2 : ∀ M, f_X10_isIn 99 0 12 M = some 0 := fun M => out_is h99 (lt_of (by decide))
  have i3 : ∀ M, f_X10_isIn b 0 12 M = some 0 := fun M => out_is h (lt_of (by decide))
  simp only [f_X10_is, e0, c0, e1, c1, e2, c2, e3, c3, e4, c4, e5, c5, e6, c6, e7, c7, e8, c8, e9, c9, e10, c10, e11, c11, e12, c12, if_false, i1, i2, obd_s]
set_option maxRecDepth 1000000 in
theorem op31_v : (List.range 13).all (fun k => E (f_X9_is 59999 0 (nI k) Mf) (fun M => f_X10_is 59999 120 (nI k) M)) = true := by decide +kernel
set_option maxRecDepth 1000000 in
theorem op31_w : (List.range 1).all (fun _ => E (f_X9_is 59999 0 99 Mf) (fun M => f_X10_is 59999 120 99 M)) = true := by decide +kernel
theorem op31 (b : Int32) : E (f_X9_is 59999 0 b Mf) (fun M => f_X10_is 59999 120 b M) = true := by
  rcases out_in (N := 13) (by decide) b with h | ⟨k, hk, rfl⟩
  · simp only [cn31_x h, cn31_y h]
    have q := all_k op31_w (show 0 < 1 by decide)
    exact q
  · have q := all_k op31_v hk
    exact q
