set_option maxRecDepth 1000000 in
theorem op16_v0 : (List.range 11).all (fun j => E (f_X9_chanceOf 59999 0 (nI 0) (nI j) Mf) (fun M => f_X10_chanceOf 59999 120 (nI 0) (nI j) M)) = true := by decide +kernel
set_option maxRecDepth 1000000 in
theorem op16_v1 : (List.range 11).all (fun j => E (f_X9_chanceOf 59999 0 (nI 1) (nI j) Mf) (fun M => f_X10_chanceOf 59999 120 (nI 1) (nI j) M)) = true := by decide +kernel
set_option maxRecDepth 1000000 in
theorem op16_v2 : (List.range 11).all (fun j => E (f_X9_chanceOf 59999 0 (nI 2) (nI j) Mf) (fun M => f_X10_chanceOf 59999 120 (nI 2) (nI j) M)) = true := by decide +kernel
set_option maxRecDepth 1000000 in
theorem op16_v3 : (List.range 11).all (fun j => E (f_X9_chanceOf 59999 0 (nI 3) (nI j) Mf) (fun M => f_X10_chanceOf 59999 120 (nI 3) (nI j) M)) = true := by decide +kernel
set_option maxRecDepth 1000000 in
theorem op23_v : (List.range 4).all (fun k => (List.range 4).all fun j => E (f_X9_bring 59999 0 (nI k) (nI j) Mf) (fun M => f_X10_bring 59999 120 (nI k) (nI j) M)) = true := by decide +kernel
theorem MA_R140 : mR Mf 14 0 = 1 := R_f (q := (14, 0, 1)) (by decide)
theorem op23 (a b : Int32) : E (f_X9_bring 59999 0 a b Mf) (fun M => f_X10_bring 59999 120 a b M) = true := by
  rcases out_in (N := 4) (by decide) a with h | ⟨k, hk, rfl⟩
  · refine E_mm (r := -1) (M1 := Mf) (M2 := Mf) Mf_10 ?_ ?_ <;> simp only [f_X9_bring, f_X2_bringFirst, f_X2_bringFirst_35, f_X10_bring, f_X10_bring_26, MA_R140, fc0, fc1, fc5, fc14, fc15, fc24, fc25, fc27, fc63, fc112, fc114, fc120, fc121, fR00, fR01, fR02, fR03, fR04, fR05, fR141, fR142, fR143, fR144, fR145, fR154, fRr, bnd_e, obd_s, obd2_s, nd7 h, nd10 h, if_pos]
  · rcases out_in (N := 4) (by decide) b with h | ⟨j, hj, rfl⟩
    · refine E_mm (r := -1) (M1 := Mf) (M2 := Mf) Mf_10 ?_ ?_ <;> simp only [f_X9_bring, f_X2_bringFirst, f_X2_bringFirst_35, f_X10_bring, f_X10_bring_26, MA_R140, fc0, fc1, fc5, fc14, fc15, fc24, fc25, fc27, fc63, fc112, fc114, fc120, fc121, fR00, fR01, fR02, fR03, fR04, fR05, fR141, fR142, fR143, fR144, fR145, fR154, fRr, bnd_e, obd_s, obd2_s, nd7v hk, nd10v hk, nd7 h, nd10 h, if_pos, if_neg n10]
    · have q := all_k (all_k op23_v hk) hj
      exact q
set_option maxRecDepth 1000000 in
theorem op43_v : (List.range 4).all (fun k => (List.range 4).all fun j => (List.range 10).all fun i => E (f_X9_delay 0 (nI k) (nI j) (nI i) Mf) (fun M => f_X10_delay 120 (nI k) (nI j) (nI i) M)) = true := by decide +kernel
theorem op43 (a b c : Int32) : E (f_X9_delay 0 a b c Mf) (fun M => f_X10_delay 120 a b c M) = true := by
  rcases out_in (N := 4) (by decide) a with h | ⟨k, hk, rfl⟩
  · refine E_mm (r := 0) (M1 := Mf) (M2 := Mf) Mf_10 ?_ ?_ <;> simp only [f_X9_delay, f_X10_delay, fc0, fc1, fc5, fc14, fc15, fc24, fc25, fc27, fc63, fc112, fc114, fc120, fc121, fR00, fR01, fR02, fR03, fR04, fR05, fR141, fR142, fR143, fR144, fR145, fR154, fRr, bnd_e, obd_s, obd2_s, nd7 h, nd10 h, if_pos]
  · rcases out_in (N := 4) (by decide) b with h | ⟨j, hj, rfl⟩
    · refine E_mm (r := 0) (M1 := Mf) (M2 := Mf) Mf_10 ?_ ?_ <;> simp only [f_X9_delay, f_X10_delay, fc0, fc1, fc5, fc14, fc15, fc24, fc25, fc27, fc63, fc112, fc114, fc120, fc121, fR00, fR01, fR02, fR03, fR04, fR05, fR141, fR142, fR143, fR144, fR145, fR154, fRr, bnd_e, obd_s, obd2_s, nd7v hk, nd10v hk, nd7 h, nd10 h, if_pos, if_neg n10]
    · rcases out_in (N := 10) (by decide) c with h | ⟨i, hi, rfl⟩
      · have i1 : ∀ M, f_X10_isIn c 1 9 M = some 0 := fun M => by
          rw [f_X10_isIn]
          by_cases q : c < 1
          · rw [if_pos q]
          · rw [if_neg q, if_pos]
            rcases h with h | h
            · exact absurd (Int32.lt_iff_toInt_lt.mpr (by
                have e0 : (0 : Int32).toInt = 0 := by decide
                have e1 : (1 : Int32).toInt = 1 := by decide
                rw [Int32.lt_iff_toInt_lt] at h; omega)) q
            · exact lt_of (by decide) c h
        refine E_mm (r := 0) (M1 := Mf) (M2 := Mf) Mf_10 ?_ ?_
        · rw [f_X9_delay, fc0, bnd_e, fR00, fc1, nd7v hk, obd_s, if_neg n10, bnd_e, fc1, nd7v hj, obd_s, if_neg n10]
          by_cases q : c < 1
          · rw [if_pos q]
          · rw [if_neg q]
            rcases h with h | h
            · exact absurd (Int32.lt_iff_toInt_lt.mpr (by
                have e0 : (0 : Int32).toInt = 0 := by decide
                have e1 : (1 : Int32).toInt = 1 := by decide
                rw [Int32.lt_iff_toInt_lt] at h; omega)) q
            · rw [if_neg (le_out (by decide) h)]
        · simp only [f_X10_delay, fc120, nd10v hk, nd10v hj, obd_s, if_neg n10, i1, if_pos]
      · have q := all_k (all_k (all_k op43_v hk) hj) hi
        exact q
