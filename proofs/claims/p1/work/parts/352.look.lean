set_option maxRecDepth 1000000 in
theorem op9_v : (List.range 4).all (fun k => (List.range 4).all fun j => (E (lf (f_X9_meeting 0 (nI k) (nI j) Mf) Mf) (fun M => lf (f_X10_meeting 59999 120 (nI k) (nI j) M) M))) = true := by decide +kernel
theorem op9 (a b : Int32) : E (lf (f_X9_meeting 0 a b Mf) Mf) (fun M => lf (f_X10_meeting 59999 120 a b M) M) = true := by
  rcases out_in (N := 4) (by decide) a with h | ⟨k, hk, rfl⟩
  · refine E_pp (r := -1) Mf_10 ?_ ?_ <;> simp only [f_X9_meeting, f_X10_meeting, fc0, fc1, fc5, fc14, fc15, fc24, fc25, fc27, fc63, fc112, fc114, fc120, fc121, fR00, fR01, fR02, fR03, fR04, fR05, fR141, fR142, fR143, fR144, fR145, fR154, fRr, bnd_e, obd_s, obd2_s, nd7 h, nd10 h, if_pos]
  · rcases out_in (N := 4) (by decide) b with h | ⟨j, hj, rfl⟩
    · refine E_pp (r := -1) Mf_10 ?_ ?_ <;> simp only [f_X9_meeting, f_X10_meeting, fc0, fc1, fc5, fc14, fc15, fc24, fc25, fc27, fc63, fc112, fc114, fc120, fc121, fR00, fR01, fR02, fR03, fR04, fR05, fR141, fR142, fR143, fR144, fR145, fR154, fRr, bnd_e, obd_s, obd2_s, nd7v hk, nd10v hk, nd7 h, nd10 h, if_pos, if_neg n10]
    · have q := all_k (all_k op9_v hk) hj
      exact q
set_option maxRecDepth 1000000 in
theorem MA_logs : mI MA0 25 2 = 0 ∧ mI MA0 27 2 = 0 := by decide +kernel
theorem fI252 : mI Mf 25 2 = 0 := by rw [Mf_o (by decide)]; exact MA_logs.1
theorem fI272 : mI Mf 27 2 = 0 := by rw [Mf_o (by decide)]; exact MA_logs.2
set_option maxRecDepth 1000000 in
theorem fr_z : (mI Mf 121 9857 = 0 ∧ mI Mf 121 9858 = 0 ∧ mI Mf 121 850 = 0) := by
  refine ⟨?_, ?_, ?_⟩ <;> rw [Mf_s] <;> decide +kernel
theorem is_none (a : Int32) (M : Mem) : f_X10_isIn a 0 (0 - 1) M = some 0 := by
  rw [f_X10_isIn]
  by_cases q : a < 0
  · rw [if_pos q]
  · rw [if_neg q, if_pos]
    have : (0 : Int32).toInt = 0 := by decide
    have : ((0 : Int32) - 1).toInt = -1 := by decide
    rw [Int32.lt_iff_toInt_lt] at q ⊢; omega
theorem le0 {a : Int32} (h : ¬ a < 0) : (0 : Int32) ≤ a := by
  rw [Int32.lt_iff_toInt_lt] at h; rw [Int32.le_iff_toInt_le]; omega
theorem op34 (a b : Int32) : E (lf (f_X9_book 0 a b Mf) Mf) (fun M => lf (f_X10_book 120 a b M) M) = true := by
  have z : mI Mf 121 ((9857 : Int32)).toNatClampNeg = 0 := by
    rw [show (9857 : Int32) = nI 9857 from rfl, nI_clamp (by decide)]
    exact fr_z.1
  have iN : inB (9857 : Int32) (mLn Mf 121) := by
    rw [show (9857 : Int32) = nI 9857 from rfl]
    exact rk_in Mf_RK (by decide)
  by_cases h : a = -1
  · refine E_pp (r := 0) Mf_10 ?_ ?_
    · simp only [f_X9_book, f_X3_tell, fc0, fc1, fc5, fc14, fc15, fc24, fc25, fc27, fc63, fc112, fc114, fc120, fc121, fR00, fR01, fR02, fR03, fR04, fR05, fR141, fR142, fR143, fR144, fR145, fR154, fRr, bnd_e, obd_s, obd2_s, if_pos h, fI252, fI272]
    · rw [f_X10_book, if_pos h, fc120, bnd_e, fRr, fc121, chk_t iN, z]
  · refine E_pp (r := -2) Mf_10 ?_ ?_
    · simp only [f_X9_book, f_X3_tell, fc0, fc1, fc5, fc14, fc15, fc24, fc25, fc27, fc63, fc112, fc114, fc120, fc121, fR00, fR01, fR02, fR03, fR04, fR05, fR141, fR142, fR143, fR144, fR145, fR154, fRr, bnd_e, obd_s, obd2_s, if_neg h, fI252, fI272]
      by_cases q : a < 0
      · simp only [if_pos q, obd_s]
      · simp only [if_neg q, if_pos (le0 q), obd_s]
    · rw [f_X10_book, if_neg h, fc120, bnd_e, fRr, fc121, chk_t iN, z, is_none, obd_s, if_pos rfl]
theorem op38 (a b : Int32) : E (lf (f_X9_trace 0 a b Mf) Mf) (fun M => lf (f_X10_trace 120 a b M) M) = true := by
  have z : mI Mf 121 ((9858 : Int32)).toNatClampNeg = 0 := by
    rw [show (9858 : Int32) = nI 9858 from rfl, nI_clamp (by decide)]
    exact fr_z.2.1
  have iN : inB (9858 : Int32) (mLn Mf 121) := by
    rw [show (9858 : Int32) = nI 9858 from rfl]
    exact rk_in Mf_RK (by decide)
  by_cases h : a = -1
  · refine E_pp (r := 0) Mf_10 ?_ ?_
    · simp only [f_X9_trace, f_X3_tell, fc0, fc1, fc5, fc14, fc15, fc24, fc25, fc27, fc63, fc112, fc114, fc120, fc121, fR00, fR01, fR02, fR03, fR04, fR05, fR141, fR142, fR143, fR144, fR145, fR154, fRr, bnd_e, obd_s, obd2_s, if_pos h, fI252, fI272]
    · rw [f_X10_trace, if_pos h, fc120, bnd_e, fRr, fc121, chk_t iN, z]
  · refine E_pp (r := -2) Mf_10 ?_ ?_
    · simp only [f_X9_trace, f_X3_tell, fc0, fc1, fc5, fc14, fc15, fc24, fc25, fc27, fc63, fc112, fc114, fc120, fc121, fR00, fR01, fR02, fR03, fR04, fR05, fR141, fR142, fR143, fR144, fR145, fR154, fRr, bnd_e, obd_s, obd2_s, if_neg h, fI252, fI272]
      by_cases q : a < 0
      · simp only [if_pos q, obd_s]
      · simp only [if_neg q, if_pos (le0 q), obd_s]
    · rw [f_X10_trace, if_neg h, fc120, bnd_e, fRr, fc121, chk_t iN, z, is_none, obd_s, if_pos rfl]
