theorem cn27_x {b : Int32} (h : Out 8 b) (a : Int32) (M : Mem) : f_X9_node 0 a b M = f_X9_node 0 a 99 M := by
  have hl := h
  have h99 : Out 8 (99 : Int32) := Or.inr (by decide)
  have e0 : (b = (0 : Int32)) = False := eq_false (out_ne (k := 0) h (by decide))
  have c0 : ((99 : Int32) = (0 : Int32)) = False := eq_false (by decide)
  have e1 : (b = (1 : Int32)) = False := eq_false (out_ne (k := 1) h (by decide))
  have c1 : ((99 : Int32) = (1 : Int32)) = False := eq_false (by decide)
  have e2 : (b = (2 : Int32)) = False := eq_false (out_ne (k := 2) h (by decide))
  have c2 : ((99 : Int32) = (2 : Int32)) = False := eq_false (by decide)
  have e3 : (b = (3 : Int32)) = False := eq_false (out_ne (k := 3) h (by decide))
  have c3 : ((99 : Int32) = (3 : Int32)) = False := eq_false (by decide)
  have e4 : (b = (4 : Int32)) = False := eq_false (out_ne (k := 4) h (by decide))
  have c4 : ((99 : Int32) = (4 : Int32)) = False := eq_false (by decide)
  have e5 : (b = (5 : Int32)) = False := eq_false (out_ne (k := 5) h (by decide))
  have c5 : ((99 : Int32) = (5 : Int32)) = False := eq_false (by decide)
  have e6 : (b = (6 : Int32)) = False := eq_false (out_ne (k := 6) h (by decide))
  have c6 : ((99 : Int32) = (6 : Int32)) = False := eq_false (by decide)
  have e7 : (b = (7 : Int32)) = False := eq_false (out_ne (k := 7) h (by decide))
  have c7 : ((99 : Int32) = (7 : Int32)) = False := eq_false (by decide)
  have i1 : ∀ M, f_X10_isIn b 0 7 M = some 0 := fun M => out_is h (lt_of (by decide))
  have i2 : ∀ M, f_X10_isIn 99 0 7 M = some 0 := fun M => out_is h99 (lt_of (by decide))
  have i3 : ∀ M, f_X10_isIn b 0 7 M = some 0 := fun M => out_is h (lt_of (by decide))
  simp only [f_X9_node, e0, c0, e1, c1, e2, c2, e3, c3, e4, c4, e5, c5, e6, c6, e7, c7, if_false, i1, i2, obd_s]
theorem cn27_y {b : Int32} (h : Out 8 b) (a : Int32) (M : Mem) : f_X10_node 120 a b M = f_X10_node 120 a 99 M := by
  have hl := h
  have h99 : Out 8 (99 : Int32) := Or.inr (by decide)
  have e0 : (b = (0 : Int32)) = False := eq_false (out_ne (k := 0) h (by decide))
  have c0 : ((99 : Int32) = (0 : Int32)) = False := eq_false (by decide)
  have e1 : (b = (1 : Int32)) = False := eq_false (out_ne (k := 1) h (by decide))
  have c1 : ((99 : Int32) = (1 : Int32)) = False := eq_false (by decide)
  have e2 : (b = (2 : Int32)) = False := eq_false (out_ne (k := 2) h (by decide))
  have c2 : ((99 : Int32) = (2 : Int32)) = False := eq_false (by decide)
  have e3 : (b = (3 : Int32)) = False := eq_false (out_ne (k := 3) h (by decide))
  have c3 : ((99 : Int32) = (3 : Int32)) = False := eq_false (by decide)
  have e4 : (b = (4 : Int32)) = False := eq_false (out_ne (k := 4) h (by decide))
  have c4 : ((99 : Int32) = (4 : Int32)) = False := eq_false (by decide)
  have e5 : (b = (5 : Int32)) = False := eq_false (out_ne (k := 5) h (by decide))
  have c5 : ((99 : Int32) = (5 : Int32)) = False := eq_false (by decide)
  have e6 : (b = (6 : Int32)) = False := eq_false (out_ne (k := 6) h (by decide))
  have c6 : ((99 : Int32) = (6 : Int32)) = False := eq_false (by decide)
  have e7 : (b = (7 : Int32)) = False := eq_false (out_ne (k := 7) h (by decide))
  have c7 : ((99 : Int32) = (7 : Int32)) = False := eq_false (by decide)
  have i1 : ∀ M, f_X10_isIn b 0 7 M = some 0 := fun M => out_is h (lt_of (by decide))
  have i2 : ∀ M, f_X10_isIn 99 0 7 M = some 0 := fun M => out_is h99 (lt_of (by decide))
  have i3 : ∀ M, f_X10_isIn b 0 7 M = some 0 := fun M => out_is h (lt_of (by decide))
  simp only [f_X10_node, e0, c0, e1, c1, e2, c2, e3, c3, e4, c4, e5, c5, e6, c6, e7, c7, if_false, i1, i2, obd_s]
set_option maxRecDepth 1000000 in
theorem op27_v : (List.range 4).all (fun k => (List.range 8).all fun j => (E (lf (f_X9_node 0 (nI k) (nI j) Mf) Mf) (fun M => lf (f_X10_node 120 (nI k) (nI j) M) M))) = true := by decide +kernel
set_option maxRecDepth 1000000 in
theorem op27_w : (List.range 4).all (fun k => (E (lf (f_X9_node 0 (nI k) 99 Mf) Mf) (fun M => lf (f_X10_node 120 (nI k) 99 M) M))) = true := by decide +kernel
theorem op27 (a b : Int32) : E (lf (f_X9_node 0 a b Mf) Mf) (fun M => lf (f_X10_node 120 a b M) M) = true := by
  rcases out_in (N := 4) (by decide) a with h | ⟨k, hk, rfl⟩
  · refine E_pp (r := -1) Mf_10 ?_ ?_ <;> simp only [f_X9_node, f_X10_node, fc0, fc1, fc5, fc14, fc15, fc24, fc25, fc27, fc63, fc112, fc114, fc120, fc121, fR00, fR01, fR02, fR03, fR04, fR05, fR141, fR142, fR143, fR144, fR145, fR154, fRr, bnd_e, obd_s, obd2_s, nd7 h, nd10 h, if_pos]
  · rcases out_in (N := 8) (by decide) b with h | ⟨j, hj, rfl⟩
    · simp only [cn27_x h, cn27_y h]
      have q := all_k op27_w hk
      exact q
    · have q := all_k (all_k op27_v hk) hj
      exact q
