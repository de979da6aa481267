theorem op16 (a b : Int32) : E (f_X9_chanceOf 59999 0 a b Mf) (fun M => f_X10_chanceOf 59999 120 a b M) = true := by
  rcases out_in (N := 4) (by decide) a with h | ⟨k, hk, rfl⟩
  · refine E_mm (r := -1) (M1 := Mf) (M2 := Mf) Mf_10 ?_ ?_ <;> simp only [f_X9_chanceOf, f_X10_chanceOf, fc0, fc1, fc5, fc14, fc15, fc24, fc25, fc27, fc63, fc112, fc114, fc120, fc121, fR00, fR01, fR02, fR03, fR04, fR05, fR141, fR142, fR143, fR144, fR145, fR154, fRr, bnd_e, obd_s, obd2_s, nd7 h, nd10 h, if_pos]
  · rcases out_in (N := 11) (by decide) b with h | ⟨j, hj, rfl⟩
    · have i1 : ∀ M, f_X10_isIn b 0 10 M = some 0 := fun M => out_is h (lt_of (by decide))
      refine E_mm (r := -1) (M1 := Mf) (M2 := Mf) Mf_10 ?_ ?_
      · rw [f_X9_chanceOf, fc0, bnd_e, fR00, fc1, nd7v hk, obd_s, if_neg n10]
        by_cases q : b < 0
        · rw [if_pos q]
        · rw [if_neg q, if_neg (le_out15 (by decide) (h.resolve_left q))]
      · simp only [f_X10_chanceOf, fc120, nd10v hk, obd_s, if_neg n10, i1, if_pos]
    · rcases (show k = 0 ∨ k = 1 ∨ k = 2 ∨ k = 3 by omega) with rfl | rfl | rfl | rfl
      · have q := all_k op16_v0 hj
        exact q
      · have q := all_k op16_v1 hj
        exact q
      · have q := all_k op16_v2 hj
        exact q
      · have q := all_k op16_v3 hj
        exact q
