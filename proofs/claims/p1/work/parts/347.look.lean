set_option maxRecDepth 1000000 in
theorem op10 : E (lf (f_X9_apart 59999 0 Mf) Mf) (fun M => lf (f_X10_apart 59999 120 M) M) = true := by decide +kernel
set_option maxRecDepth 1000000 in
theorem op14 : E (lf (f_X9_needless 59999 0 Mf) Mf) (fun M => lf (f_X10_needless 59999 120 M) M) = true := by decide +kernel
set_option maxRecDepth 1000000 in
theorem op19 : E (lf (f_X9_fair 59999 0 Mf) Mf) (fun M => lf (f_X10_fair 59999 120 M) M) = true := by decide +kernel
set_option maxRecDepth 1000000 in
theorem op47 : E (lf (f_X9_mean 59999 0 Mf) Mf) (fun M => lf (f_X10_mean 59999 120 M) M) = true := by decide +kernel
set_option maxRecDepth 1000000 in
theorem op11_v : (List.range 4).all (fun k => decide (E (lf (f_X9_load 59999 0 (nI k) Mf) Mf) (fun M => lf (f_X10_load 59999 120 (nI k) M) M) = true)) = true := by decide +kernel
theorem op11 (a : Int32) : E (lf (f_X9_load 59999 0 a Mf) Mf) (fun M => lf (f_X10_load 59999 120 a M) M) = true := by
  rcases out_in (N := 4) (by decide) a with h | ⟨k, hk, rfl⟩
  · refine E_pp (r := -1) Mf_10 ?_ ?_ <;> simp only [f_X9_load, f_X10_load, fc0, fc1, fc5, fc14, fc15, fc24, fc25, fc27, fc63, fc112, fc114, fc120, fc121, fR00, fR01, fR02, fR03, fR04, fR05, fR141, fR142, fR143, fR144, fR145, fR154, fRr, bnd_e, obd_s, obd2_s, nd7 h, nd10 h, if_pos]
  · exact of_decide_eq_true (all_k op11_v hk)
set_option maxRecDepth 1000000 in
theorem op32_v : (List.range 4).all (fun k => decide (E (lf (f_X9_handled 0 (nI k) Mf) Mf) (fun M => lf (f_X10_handled 120 (nI k) M) M) = true)) = true := by decide +kernel
theorem op32 (a : Int32) : E (lf (f_X9_handled 0 a Mf) Mf) (fun M => lf (f_X10_handled 120 a M) M) = true := by
  rcases out_in (N := 4) (by decide) a with h | ⟨k, hk, rfl⟩
  · refine E_pp (r := -1) Mf_10 ?_ ?_ <;> simp only [f_X9_handled, f_X10_handled, fc0, fc1, fc5, fc14, fc15, fc24, fc25, fc27, fc63, fc112, fc114, fc120, fc121, fR00, fR01, fR02, fR03, fR04, fR05, fR141, fR142, fR143, fR144, fR145, fR154, fRr, bnd_e, obd_s, obd2_s, nd7 h, nd10 h, if_pos]
  · exact of_decide_eq_true (all_k op32_v hk)
set_option maxRecDepth 1000000 in
theorem op35_v : (List.range 4).all (fun k => decide (E (lf (f_X9_waitsFor 59999 0 (nI k) Mf) Mf) (fun M => lf (f_X10_waitsFor 59999 120 (nI k) M) M) = true)) = true := by decide +kernel
theorem op35 (a : Int32) : E (lf (f_X9_waitsFor 59999 0 a Mf) Mf) (fun M => lf (f_X10_waitsFor 59999 120 a M) M) = true := by
  rcases out_in (N := 4) (by decide) a with h | ⟨k, hk, rfl⟩
  · refine E_pp (r := -1) Mf_10 ?_ ?_ <;> simp only [f_X9_waitsFor, f_X10_waitsFor, fc0, fc1, fc5, fc14, fc15, fc24, fc25, fc27, fc63, fc112, fc114, fc120, fc121, fR00, fR01, fR02, fR03, fR04, fR05, fR141, fR142, fR143, fR144, fR145, fR154, fRr, bnd_e, obd_s, obd2_s, nd7 h, nd10 h, if_pos]
  · exact of_decide_eq_true (all_k op35_v hk)
set_option maxRecDepth 1000000 in
theorem op36_v : (List.range 4).all (fun k => decide (E (lf (f_X9_unheard 0 (nI k) Mf) Mf) (fun M => lf (f_X10_unheard 120 (nI k) M) M) = true)) = true := by decide +kernel
theorem op36 (a : Int32) : E (lf (f_X9_unheard 0 a Mf) Mf) (fun M => lf (f_X10_unheard 120 a M) M) = true := by
  rcases out_in (N := 4) (by decide) a with h | ⟨k, hk, rfl⟩
  · refine E_pp (r := -1) Mf_10 ?_ ?_ <;> simp only [f_X9_unheard, f_X10_unheard, fc0, fc1, fc5, fc14, fc15, fc24, fc25, fc27, fc63, fc112, fc114, fc120, fc121, fR00, fR01, fR02, fR03, fR04, fR05, fR141, fR142, fR143, fR144, fR145, fR154, fRr, bnd_e, obd_s, obd2_s, nd7 h, nd10 h, if_pos]
  · exact of_decide_eq_true (all_k op36_v hk)
