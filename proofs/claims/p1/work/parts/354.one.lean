set_option maxRecDepth 1000000 in
theorem op12_v : (List.range 16).all (fun k => E (f_X9_stops 59999 0 (nI k) Mf) (fun M => f_X10_stops 59999 120 (nI k) M)) = true := by decide +kernel
set_option maxRecDepth 1000000 in
theorem op13_v : (List.range 2).all (fun k => E (f_X9_weakest 59999 0 (nI k) Mf) (fun M => f_X10_weakest 59999 120 (nI k) M)) = true := by decide +kernel
theorem le_out13 {N : Nat} {y : Int32} (h : y.toInt < (nI N).toInt) {z : Int32} (hz : nI N ≤ z) : ¬ z ≤ y := by
  rw [Int32.le_iff_toInt_le]; rw [Int32.le_iff_toInt_le] at hz; omega
theorem op13 (a : Int32) : E (f_X9_weakest 59999 0 a Mf) (fun M => f_X10_weakest 59999 120 a M) = true := by
  rcases out_in (N := 2) (by decide) a with h | ⟨k, hk, rfl⟩
  · have i1 : ∀ M, f_X10_isIn a 0 1 M = some 0 := fun M => out_is h (lt_of (by decide))
    refine E_mm (r := -1) (M1 := Mf) (M2 := Mf) Mf_10 ?_ ?_
    · rw [f_X9_weakest]
      by_cases q : a < 0
      · rw [if_pos q]
      · rw [if_neg q, if_neg (le_out13 (by decide) (h.resolve_left q))]
    · simp only [f_X10_weakest, i1, obd_s, if_pos]
  · have q := all_k op13_v hk
    exact q
set_option maxRecDepth 1000000 in
theorem op15_v : (List.range 11).all (fun k => E (f_X9_chance 59999 0 (nI k) Mf) (fun M => f_X10_chance 59999 120 (nI k) M)) = true := by decide +kernel
theorem le_out15 {N : Nat} {y : Int32} (h : y.toInt < (nI N).toInt) {z : Int32} (hz : nI N ≤ z) : ¬ z ≤ y := by
  rw [Int32.le_iff_toInt_le]; rw [Int32.le_iff_toInt_le] at hz; omega
theorem op15 (a : Int32) : E (f_X9_chance 59999 0 a Mf) (fun M => f_X10_chance 59999 120 a M) = true := by
  rcases out_in (N := 11) (by decide) a with h | ⟨k, hk, rfl⟩
  · have i1 : ∀ M, f_X10_isIn a 0 10 M = some 0 := fun M => out_is h (lt_of (by decide))
    refine E_mm (r := -1) (M1 := Mf) (M2 := Mf) Mf_10 ?_ ?_
    · rw [f_X9_chance]
      by_cases q : a < 0
      · rw [if_pos q]
      · rw [if_neg q, if_neg (le_out15 (by decide) (h.resolve_left q))]
    · simp only [f_X10_chance, i1, obd_s, if_pos]
  · have q := all_k op15_v hk
    exact q
set_option maxRecDepth 1000000 in
theorem op18_v : (List.range 4).all (fun k => E (f_X9_pivotal 59999 0 (nI k) Mf) (fun M => lf (f_X10_pivotal 59999 120 (nI k) M) M)) = true := by decide +kernel
theorem op18 (a : Int32) : E (f_X9_pivotal 59999 0 a Mf) (fun M => lf (f_X10_pivotal 59999 120 a M) M) = true := by
  rcases out_in (N := 4) (by decide) a with h | ⟨k, hk, rfl⟩
  · refine E_mp (r := -1) (M1 := Mf) Mf_10 ?_ ?_ <;> simp only [f_X9_pivotal, f_X10_pivotal, fc0, fc1, fc5, fc14, fc15, fc24, fc25, fc27, fc63, fc112, fc114, fc120, fc121, fR00, fR01, fR02, fR03, fR04, fR05, fR141, fR142, fR143, fR144, fR145, fR154, fRr, bnd_e, obd_s, obd2_s, nd7 h, nd10 h, if_pos]
  · have q := all_k op18_v hk
    exact q
set_option maxRecDepth 1000000 in
theorem op20 : E (f_X9_better 59999 0 Mf) (fun M => lf (f_X10_better 59999 120 M) M) = true := by decide +kernel
