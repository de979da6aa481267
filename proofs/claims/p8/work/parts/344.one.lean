/-! ===== the law's way to the fresh objects; one call of it ===== -/
def Mf : Mem := wA MA0 121 (mff (mI MA0 121) 4)
theorem RK_o {M : Mem} {c o A : Nat} {f : Nat → Int32} (h : isO M c o) : isO (wA M A f) c o := h
theorem RK_w {M : Mem} {r A B : Nat} {f : Nat → Int32} (h : RK M r A) : RK (wA M B f) r A := h
theorem Mf_RK : RK Mf 120 121 := RK_w MA_RK
theorem lg_self (x : Int64) : lg_cmp x x = 0 := by simp [lg_cmp]
set_option maxRecDepth 100000 in
theorem init_ok : f_X10_init FU 120 (nw Mx 10 0 25) = some Mf := by
  have h := init_pre (n := FU) (M := nw Mx 10 0 25) (by show mN Mx + 1 = 121; rw [Mx_k.2.1]) (by show mU Mx + 25 = 7655; rw [Mx_k.2.2]) (io_nwn rfl (Mx_k.2.1).symm)
  rw [h, f_X10_makeGrid]
  have hf := f_filled (r := 120) (A := 121) (N := 4) (n := FU) (M := MA0) (by decide) (by decide) MA_RK (by decide)
  have e : f_X10_makeFilled FU 120 ((2 : Int32) * (2 : Int32)) (mA (nw Mx 10 0 25)) = some (nI 4, Mf) := hf
  rw [chk_t (show isO (mA (nw Mx 10 0 25)) 10 120 from MA_RK.1), e]
  rfl
set_option maxRecDepth 1000000 in
theorem Mf_9 : isO Mf 9 0 := RK_o (show isO MA0 9 0 from ⟨by rw [MA_t.2.2.2]; decide, by show (MA0.1.2.1 0).1 = 9; rw [MA_c (by decide)]; decide⟩)
