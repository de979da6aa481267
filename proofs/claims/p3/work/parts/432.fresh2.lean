/-! ===== the search on the fresh objects ===== -/
set_option maxRecDepth 1000000 in
theorem MA_U : mU MA0 ≤ 900000 ∧ mI MA0 114 6 = 0 ∧ mI MA0 115 0 = 0 := by decide +kernel
theorem Mf_SX : SX Mf := by
  refine ⟨io_f (by decide) (by decide), ⟨R_f (q := (114, 0, 63)) (by decide), R_f (q := (114, 1, 115)) (by decide), R_f (q := (114, 2, 116)) (by decide), R_f (q := (114, 3, 117)) (by decide), R_f (q := (114, 4, 118)) (by decide)⟩, ⟨io_f (by decide) (by decide), io_f (by decide) (by decide), io_f (by decide) (by decide), io_f (by decide) (by decide)⟩, ⟨ln_f (by decide) (by decide), ln_f (by decide) (by decide), ln_f (by decide) (by decide), ln_f (by decide) (by decide)⟩, ?_⟩
  rw [mN_e Mf_1, MA_t.2.2.2]; exact Nat.le_refl _
theorem Mf_SR : SR Mf 8384 1000000 [] [] := by
  have r57 := fun (i : Nat) a b => (Mf_57r (i := i) a b).2
  refine ⟨1024, 0, 119, Mf_SX, ⟨R_f (q := (114, 5, 119)) (by decide), io_f (by decide) (by decide), ln_f (by decide) (by decide), Or.inl rfl, ?_, Nat.zero_le _, Nat.le_refl _, by decide, ?_, ?_, ?_⟩, ⟨Mf_CS63, ⟨70, 71, 72, 64, Mf_DS63, by decide, by decide⟩, ⟨?_, ?_, by decide, by decide, 0, by rw [(Mf_57 (j := 0) (by decide)).2, ln_f (l := 64) (by decide) (by decide)]⟩, MA_lg.2.1, MA_lg.2.2⟩, ?_⟩
  · rw [Mf_o (by decide), MA_U.2.1]; rfl
  · rw [r57 5 (by decide) (by decide)]; decide
  · rw [r57 6 (by decide) (by decide)]; decide
  · rw [r57 7 (by decide) (by decide)]; decide
  · rw [mN_e Mf_1, MA_t.2.2.2]; omega
  · have e : mU Mf = mU MA0 := by unfold mU; rw [Mf_1]
    rw [e]
    have := MA_U.1
    omega
  · rw [Mf_o (by decide), MA_U.2.2]
