set_option maxRecDepth 1000000 in
theorem op17_v : (List.range 3).all (fun k => E (lf (f_X9_sizes 59999 0 (nI k) Mf) Mf) (fun M => lf (f_X10_sizes 59999 120 (nI k) M) M)) = true := by decide +kernel
set_option maxRecDepth 1000000 in
theorem op37_v : (List.range 2).all (fun k => E (lf (f_X9_crowded 59999 0 (nI k) Mf) Mf) (fun M => lf (f_X10_crowded 59999 120 (nI k) M) M)) = true := by decide +kernel
set_option maxRecDepth 1000000 in
theorem op33_v : (List.range 7).all (fun k => E (lf (f_X9_sent 59999 0 (nI k) Mf) Mf) (fun M => lf (f_X10_sent 59999 120 (nI k) M) M)) = true := by decide +kernel
theorem op17 (a : Int32) : E (lf (f_X9_sizes 59999 0 a Mf) Mf) (fun M => lf (f_X10_sizes 59999 120 a M) M) = true := by
  rcases out_in (N := 3) (by decide) a with h | ⟨k, hk, rfl⟩
  · have e0 : (a = (0 : Int32)) = False := eq_false (out_ne (k := 0) h (by decide))
    have e1 : (a = (1 : Int32)) = False := eq_false (out_ne (k := 1) h (by decide))
    have e2 : (a = (2 : Int32)) = False := eq_false (out_ne (k := 2) h (by decide))
    have i1 : ∀ M, f_X10_isIn a 0 2 M = some 0 := fun M => out_is h (lt_of (by decide))
    refine E_pp (r := -1) Mf_10 ?_ ?_ <;> simp only [f_X9_sizes, f_X10_sizes, e0, e1, e2, if_false, i1, obd_s, if_pos]
  · have q := all_k op17_v hk
    exact q
theorem le_out {N : Nat} {y : Int32} (h : y.toInt < (nI N).toInt) {z : Int32} (hz : nI N ≤ z) : ¬ z ≤ y := by
  rw [Int32.le_iff_toInt_le]; rw [Int32.le_iff_toInt_le] at hz; omega
theorem op37 (a : Int32) : E (lf (f_X9_crowded 59999 0 a Mf) Mf) (fun M => lf (f_X10_crowded 59999 120 a M) M) = true := by
  rcases out_in (N := 2) (by decide) a with h | ⟨k, hk, rfl⟩
  · have i1 : ∀ M, f_X10_isIn a 0 1 M = some 0 := fun M => out_is h (lt_of (by decide))
    refine E_pp (r := -1) Mf_10 ?_ ?_
    · rw [f_X9_crowded]
      by_cases q : a < 0
      · rw [if_pos q]
      · rw [if_neg q, if_neg (le_out (by decide) (h.resolve_left q))]
    · simp only [f_X10_crowded, i1, obd_s, if_pos]
  · have q := all_k op37_v hk
    exact q
theorem op33 (a : Int32) : E (lf (f_X9_sent 59999 0 a Mf) Mf) (fun M => lf (f_X10_sent 59999 120 a M) M) = true := by
  rcases out_in (N := 7) (by decide) a with h | ⟨k, hk, rfl⟩
  · have h6 : Out 6 a := by
      rcases h with h | h
      · exact Or.inl h
      · refine Or.inr ?_
        have : (nI 6).toInt = 6 := by decide
        have : (nI 7).toInt = 7 := by decide
        rw [Int32.le_iff_toInt_le] at h ⊢; omega
    have i1 : ∀ M, f_X10_isIn a 0 5 M = some 0 := fun M => out_is h6 (lt_of (by decide))
    have e6 : (a = (6 : Int32)) = False := eq_false (out_ne (k := 6) h (by decide))
    refine E_pp (r := -1) Mf_10 ?_ ?_
    · rw [f_X9_sent]
      by_cases q : a < 0
      · rw [if_pos q]
      · rw [if_neg q, if_neg (le_out (by decide) (h.resolve_left q))]
    · simp only [f_X10_sent, e6, if_false, i1, obd_s, if_pos]
  · have q := all_k op33_v hk
    exact q
