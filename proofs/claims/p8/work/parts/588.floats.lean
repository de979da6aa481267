/-! ===== floats that are numbers ===== -/
theorem i32m1 {v : Int32} (h : -2000 ≤ v.toInt) : (v + (-1 : Int32)).toInt = v.toInt - 1 := by
  have h1 := v.toInt_lt
  rw [Int32.toInt_add, show (-1 : Int32).toInt = -1 from rfl, Int.bmod_eq_of_le (by omega) (by omega)]
  omega
theorem i32p1 {v : Int32} (h : v.toInt ≤ 2000) : (v + (1 : Int32)).toInt = v.toInt + 1 := by
  have h1 := v.le_toInt
  rw [Int32.toInt_add, show (1 : Int32).toInt = 1 from rfl, Int.bmod_eq_of_le (by omega) (by omega)]
theorem nq2 {v : UInt32} (h : nq32 v) : nq32 (FP.fdiv v FP.fconst2) := Jvm.Free.Fl.fdiv_out h (by unfold Jvm.Free.Fl.Fin32; decide +kernel) (by unfold Jvm.Free.Fl.Nz32; decide +kernel)
theorem nqm2 {v : UInt32} (h : nq32 v) : nq32 (FP.fmul v FP.fconst2) := Jvm.Free.Fl.fmul_outNz h (by unfold Jvm.Free.Fl.Fin32; decide +kernel) (by unfold Jvm.Free.Fl.Nz32; decide +kernel)
theorem nqs {v : UInt32} (h : nq32 v) : nq32 (FP.fsub v FP.fconst1) := Jvm.Free.Fl.fsub_out h (by unfold Jvm.Free.Fl.Fin32; decide +kernel)
theorem nqm {v : UInt32} (h : nq32 v) : nq32 (FP.fmul v (1258291200 : UInt32)) := Jvm.Free.Fl.fmul_outNz h (by unfold Jvm.Free.Fl.Fin32; decide +kernel) (by unfold Jvm.Free.Fl.Nz32; decide +kernel)
theorem nqd2 {v : UInt64} (h : nq64 v) : nq64 (FP.ddiv v (4611686018427387904 : UInt64)) := Jvm.Free.Fl.ddiv_out h (by unfold Jvm.Free.Fl.Fin64; decide +kernel) (by unfold Jvm.Free.Fl.Nz64; decide +kernel)
theorem nqdm2 {v : UInt64} (h : nq64 v) : nq64 (FP.dmul v (4611686018427387904 : UInt64)) := Jvm.Free.Fl.dmul_outNz h (by unfold Jvm.Free.Fl.Fin64; decide +kernel) (by unfold Jvm.Free.Fl.Nz64; decide +kernel)
theorem nqds {v : UInt64} (h : nq64 v) : nq64 (FP.dsub v FP.dconst1) := Jvm.Free.Fl.dsub_out h (by unfold Jvm.Free.Fl.Fin64; decide +kernel)
theorem nqdm {v : UInt64} (h : nq64 v) : nq64 (FP.dmul v (4841369599423283200 : UInt64)) := Jvm.Free.Fl.dmul_outNz h (by unfold Jvm.Free.Fl.Fin64; decide +kernel) (by unfold Jvm.Free.Fl.Nz64; decide +kernel)
theorem nqi {a b : Int32} (h : b ≠ 0) : nq32 (FP.fdiv (FP.i2f a) (FP.i2f b)) := Jvm.Free.Fl.fdiv_out (Jvm.Free.Fl.i2f_fin a).noNaN (Jvm.Free.Fl.i2f_fin b) (Jvm.Free.Fl.i2f_nz h)
theorem nqdi {a : UInt64} {b : Int32} (h0 : nq64 a) (h : b ≠ 0) : nq64 (FP.ddiv a (FP.i2d b)) := Jvm.Free.Fl.ddiv_out h0 (Jvm.Free.Fl.i2d_fin b) (Jvm.Free.Fl.i2d_nz h)
theorem nqdj (a : Int32) : nq64 (FP.i2d a) := (Jvm.Free.Fl.i2d_fin a).noNaN
theorem fb26 (M : Mem) : ∀ (d n : Nat) (v1 : UInt32) (v2 : Int32), nq32 v1 → v2.toInt + 126 ≤ d → d + 1 ≤ n → ∃ r, f_X9_floatBits_26 M n v1 v2 = some r := by
  intro d
  induction d with
  | zero =>
    intro n v1 v2 h1 h2 hn
    obtain ⟨n, rfl⟩ : ∃ m, n = m + 1 := ⟨n - 1, by omega⟩
    have c : v2 ≤ (-126 : Int32) := Int32.le_iff_toInt_le.mpr (by rw [show (-126 : Int32).toInt = -126 from rfl]; omega)
    rw [f_X9_floatBits_26, if_pos c, chk_t (nqs h1), chk_t (nqm (nqs h1))]
    split <;> exact ⟨_, rfl⟩
  | succ d ih =>
    intro n v1 v2 h1 h2 hn
    obtain ⟨n, rfl⟩ : ∃ m, n = m + 1 := ⟨n - 1, by omega⟩
    by_cases c : v2 ≤ (-126 : Int32)
    · rw [f_X9_floatBits_26, if_pos c, chk_t (nqs h1), chk_t (nqm (nqs h1))]
      split <;> exact ⟨_, rfl⟩
    · have c2 : -126 < v2.toInt := by
        have := Int32.lt_iff_toInt_lt.mp (Int32.not_le.mp c)
        rwa [show (-126 : Int32).toInt = -126 from rfl] at this
      rw [f_X9_floatBits_26, if_neg c, chk_t (nqs h1), chk_t (nqm (nqs h1)), chk_t (nqm2 h1), bnd_e, bnd_e]
      obtain ⟨r, e⟩ := ih n (FP.fmul v1 FP.fconst2) (v2 + (-1 : Int32)) (nqm2 h1) (by rw [i32m1 (by omega)]; omega) (by omega)
      split
      · exact ⟨_, rfl⟩
      · exact ⟨r, e⟩
theorem fb4 (M : Mem) : ∀ (d n : Nat) (v1 : UInt32) (v2 : Int32), nq32 v1 → v2.toInt ≤ 127 → 127 ≤ v2.toInt + d → d + 300 ≤ n → ∃ r, f_X9_floatBits_4 M n v1 v2 = some r := by
  intro d
  induction d with
  | zero =>
    intro n v1 v2 h1 h2 h3 hn
    obtain ⟨n, rfl⟩ : ∃ m, n = m + 1 := ⟨n - 1, by omega⟩
    have c : (127 : Int32) ≤ v2 := Int32.le_iff_toInt_le.mpr (by rw [show (127 : Int32).toInt = 127 from rfl]; omega)
    obtain ⟨r, e⟩ := fb26 M 253 n v1 v2 h1 (by omega) (by omega)
    rw [f_X9_floatBits_4, if_pos c, e]
    split <;> exact ⟨_, rfl⟩
  | succ d ih =>
    intro n v1 v2 h1 h2 h3 hn
    obtain ⟨n, rfl⟩ : ∃ m, n = m + 1 := ⟨n - 1, by omega⟩
    obtain ⟨r, e⟩ := fb26 M 253 n v1 v2 h1 (by omega) (by omega)
    by_cases c : (127 : Int32) ≤ v2
    · rw [f_X9_floatBits_4, if_pos c, e]
      split <;> exact ⟨_, rfl⟩
    · have c2 : v2.toInt < 127 := by
        have := Int32.lt_iff_toInt_lt.mp (Int32.not_le.mp c)
        rwa [show (127 : Int32).toInt = 127 from rfl] at this
      rw [f_X9_floatBits_4, if_neg c, e, chk_t (nq2 h1), bnd_e, bnd_e]
      obtain ⟨r', e'⟩ := ih n (FP.fdiv v1 FP.fconst2) (v2 + (1 : Int32)) (nq2 h1) (by rw [i32p1 (by omega)]; omega) (by rw [i32p1 (by omega)]; omega) (by omega)
      split
      · exact ⟨r, rfl⟩
      · exact ⟨r', e'⟩
theorem fbits {M : Mem} {n : Nat} {a : UInt32} (h : nq32 a) (hn : 500 ≤ n) : ∃ r, f_X9_floatBits n a M = some r := by
  rw [f_X9_floatBits]
  exact fb4 M 127 n a 0 h (by decide) (by decide) (by omega)
theorem db59 (M : Mem) (n : Nat) {v1 : UInt64} (v2 : Int32) (h1 : nq64 v1) : ∃ r, f_X9_doubleBits_59 M n v1 v2 = some r := by
  rw [f_X9_doubleBits_59, chk_t (nqds h1), chk_t (nqdm (nqds h1))]
  exact ⟨_, rfl⟩
theorem db33 (M : Mem) : ∀ (d n : Nat) (v1 : UInt64) (v2 : Int32), nq64 v1 → v2.toInt + 1022 ≤ d → d + 1 ≤ n → ∃ r, f_X9_doubleBits_33 M n v1 v2 = some r := by
  intro d
  induction d with
  | zero =>
    intro n v1 v2 h1 h2 hn
    obtain ⟨n, rfl⟩ : ∃ m, n = m + 1 := ⟨n - 1, by omega⟩
    have c : v2 ≤ (-1022 : Int32) := Int32.le_iff_toInt_le.mpr (by rw [show (-1022 : Int32).toInt = -1022 from rfl]; omega)
    obtain ⟨r, e⟩ := db59 M n v2 h1
    rw [f_X9_doubleBits_33, if_pos c, e]
    split <;> exact ⟨_, rfl⟩
  | succ d ih =>
    intro n v1 v2 h1 h2 hn
    obtain ⟨n, rfl⟩ : ∃ m, n = m + 1 := ⟨n - 1, by omega⟩
    obtain ⟨r0, e0⟩ := db59 M n v2 h1
    by_cases c : v2 ≤ (-1022 : Int32)
    · rw [f_X9_doubleBits_33, if_pos c, e0]
      split <;> exact ⟨_, rfl⟩
    · have c2 : -1022 < v2.toInt := by
        have := Int32.lt_iff_toInt_lt.mp (Int32.not_le.mp c)
        rwa [show (-1022 : Int32).toInt = -1022 from rfl] at this
      rw [f_X9_doubleBits_33, if_neg c, e0, chk_t (nqdm2 h1), bnd_e, bnd_e]
      obtain ⟨r, e⟩ := ih n (FP.dmul v1 (4611686018427387904 : UInt64)) (v2 + (-1 : Int32)) (nqdm2 h1) (by rw [i32m1 (by omega)]; omega) (by omega)
      split
      · exact ⟨r0, rfl⟩
      · exact ⟨r, e⟩
theorem db5 (M : Mem) : ∀ (d n : Nat) (v1 : UInt64) (v2 : Int32), nq64 v1 → v2.toInt ≤ 1023 → 1023 ≤ v2.toInt + d → d + 2100 ≤ n → ∃ r, f_X9_doubleBits_5 M n v1 v2 = some r := by
  intro d
  induction d with
  | zero =>
    intro n v1 v2 h1 h2 h3 hn
    obtain ⟨n, rfl⟩ : ∃ m, n = m + 1 := ⟨n - 1, by omega⟩
    have c : (1023 : Int32) ≤ v2 := Int32.le_iff_toInt_le.mpr (by rw [show (1023 : Int32).toInt = 1023 from rfl]; omega)
    obtain ⟨r, e⟩ := db33 M 2045 n v1 v2 h1 (by omega) (by omega)
    rw [f_X9_doubleBits_5, if_pos c, e]
    split <;> exact ⟨_, rfl⟩
  | succ d ih =>
    intro n v1 v2 h1 h2 h3 hn
    obtain ⟨n, rfl⟩ : ∃ m, n = m + 1 := ⟨n - 1, by omega⟩
    obtain ⟨r, e⟩ := db33 M 2045 n v1 v2 h1 (by omega) (by omega)
    by_cases c : (1023 : Int32) ≤ v2
    · rw [f_X9_doubleBits_5, if_pos c, e]
      split <;> exact ⟨_, rfl⟩
    · have c2 : v2.toInt < 1023 := by
        have := Int32.lt_iff_toInt_lt.mp (Int32.not_le.mp c)
        rwa [show (1023 : Int32).toInt = 1023 from rfl] at this
      rw [f_X9_doubleBits_5, if_neg c, e, chk_t (nqd2 h1), bnd_e, bnd_e]
      obtain ⟨r', e'⟩ := ih n (FP.ddiv v1 (4611686018427387904 : UInt64)) (v2 + (1 : Int32)) (nqd2 h1) (by rw [i32p1 (by omega)]; omega) (by rw [i32p1 (by omega)]; omega) (by omega)
      split
      · exact ⟨r, rfl⟩
      · exact ⟨r', e'⟩
theorem dbits {M : Mem} {n : Nat} {a : UInt64} (h : nq64 a) (hn : 4000 ≤ n) : ∃ r, f_X9_doubleBits n a M = some r := by
  rw [f_X9_doubleBits]
  exact db5 M 1023 n a 0 h (by decide) (by decide) (by omega)
theorem rbitsF (M : Mem) (a : UInt32) : ∃ r, f_Jxf58ca_floatToIntBits_5c35a a M = some r := by
  rw [f_Jxf58ca_floatToIntBits_5c35a, f_Jxf58ca_isNaN_12338]
  split
  · exact ⟨_, by rw [obd_s, if_pos rfl]⟩
  · exact ⟨_, by rw [obd_s, if_neg ne10]⟩
theorem rbitsD (M : Mem) (a : UInt64) : ∃ r, f_Jxe99ae_doubleToLongBits_ccdee a M = some r := by
  rw [f_Jxe99ae_doubleToLongBits_ccdee, f_Jxe99ae_isNaN_b9ae7]
  split
  · exact ⟨_, by rw [obd_s, if_pos rfl]⟩
  · exact ⟨_, by rw [obd_s, if_neg ne10]⟩
theorem wroot (M : Mem) (a : Int32) : ∀ (d i n : Nat), i + d = 16 → 1 ≤ i → d + 1 ≤ n → ∃ j, 1 ≤ j ∧ j ≤ 16 ∧ f_X9_wholeRoot_2 M n a (nI i) = some (nI j) := by
  intro d
  induction d with
  | zero =>
    intro i n hi h1 hn
    obtain ⟨n, rfl⟩ : ∃ m, n = m + 1 := ⟨n - 1, by omega⟩
    exact ⟨i, h1, by omega, by rw [f_X9_wholeRoot_2, if_pos (show (16 : Int32) ≤ nI i from nI_le (a := 16) (by omega) (by omega))]⟩
  | succ d ih =>
    intro i n hi h1 hn
    obtain ⟨n, rfl⟩ : ∃ m, n = m + 1 := ⟨n - 1, by omega⟩
    obtain ⟨j, j1, j2, e⟩ := ih (i + 1) n (by omega) (by omega) (by omega)
    rw [f_X9_wholeRoot_2, if_neg (show ¬ (16 : Int32) ≤ nI i from nI_ge (b := 16) (by omega) (by decide)), bnd_e, nI_1, e]
    split
    · exact ⟨i, h1, by omega, rfl⟩
    · exact ⟨j, j1, j2, rfl⟩
section
variable {M : Mem} {N A i : Nat} {Q : Nat → Int32} {S : St}
theorem WJ.c47 (w : WJ M N A i Q S) {n : Nat} (hn : 10000 ≤ n) : ∃ r, f2_X9_mean n 0 M = some r := by
  obtain ⟨X, Y, L, p, sb, xg, xr⟩ := id w.1
  have q := p.1
  obtain ⟨r, e⟩ := csi_l q 6 0 n 0 rfl (by omega)
  rw [f2_X9_mean, chk_t xg.1, xg.2.2.2.1, bnd_e, cs_f q]
  split
  · rename_i c
    have z : mI M 14 11 ≠ 0 := fun z => by rw [z] at c; exact absurd c (by decide)
    obtain ⟨r2, e2⟩ := fbits (M := M) (n := n) (a := FP.fdiv (FP.i2f r) (FP.i2f (mI M 14 11))) (nqi z) (by omega)
    exact ⟨r2, by rw [bnd_e, cs_f q, cs_h1 q, bnd_e, cs_p q, f_X5_sentInAll, show f_X5_sentInAll_4 M n (14 + 1) 0 0 = some r from e, obd_s, bnd_e, cs_f q, chk_t (nqi z), e2, obd_s]⟩
  · exact ⟨_, rfl⟩
theorem WJ.c48 (w : WJ M N A i Q S) {n : Nat} (hn : 10000 ≤ n) : ∃ r, f2_X9_byRoot n 0 M = some r := by
  obtain ⟨X, Y, L, p, sb, xg, xr⟩ := id w.1
  have q := p.1
  obtain ⟨r, e⟩ := csi_l q 6 0 n 0 rfl (by omega)
  rw [f2_X9_byRoot, chk_t xg.1, xg.2.2.2.1, bnd_e, cs_f q]
  split
  · rename_i c
    have z : mI M 14 11 ≠ 0 := fun z => by rw [z] at c; exact absurd c (by decide)
    obtain ⟨j, j1, j2, e1⟩ := wroot M (mI M 1 3) 15 1 n rfl (by decide) (by omega)
    have zj : nI j ≠ 0 := nI_ne (b := 0) (by omega) (by decide) (by omega)
    have h1 : nq64 (FP.ddiv (FP.i2d r) (FP.i2d (mI M 14 11))) := nqdi (nqdj r) z
    obtain ⟨r2, e2⟩ := dbits (M := M) (n := n) (a := FP.ddiv (FP.ddiv (FP.i2d r) (FP.i2d (mI M 14 11))) (FP.i2d (nI j))) (nqdi h1 zj) (by omega)
    exact ⟨r2, by rw [bnd_e, cs_f q, cs_h1 q, bnd_e, cs_p q, f_X5_sentInAll, show f_X5_sentInAll_4 M n (14 + 1) 0 0 = some r from e, obd_s, bnd_e, cs_f q, chk_t h1, bnd_e, xg.2.1, bnd_e, sb.f, f_X9_wholeRoot, show f_X9_wholeRoot_2 M n (mI M 1 3) (1 : Int32) = some (nI j) from e1, obd_s, chk_t (nqdi h1 zj), e2, obd_s]⟩
  · exact ⟨_, rfl⟩
end
section
variable {M : Mem} {tw : Bool} {t : Int32} {S : St} {pb pt : List Row4} {N : Nat}
theorem RV.r47 (r : RV M tw t S pb pt) {n : Nat} (hn : 10000 ≤ n) : ∃ x, f2_X10_mean n 120 M = some x := by
  obtain ⟨z, e⟩ := rsa_l r.1 6 0 n 0 rfl (by omega)
  have hc : inB (9851 : Int32) (mLn M 121) := rs_in r.1 (k := 9851) (by decide)
  rw [f2_X10_mean, rs_f r.1, rs_0 r.1, bnd_e, rs_fa r.1, chk_t hc]
  split
  · exact ⟨_, rfl⟩
  · rename_i c
    obtain ⟨x, e2⟩ := rbitsF M (FP.fdiv (FP.i2f z) (FP.i2f (mI M 121 ((9851 : Int32)).toNatClampNeg)))
    exact ⟨x, by rw [f_X10_sentAll, show f_X10_sentAll_4 M n 120 0 0 = some z from e, obd_s, bnd_e, rs_fa r.1, chk_t hc, chk_t (nqi c), e2, obd_s]⟩
theorem RV.root (r : RV M tw t S pb pt) (hN : xR S 20 0 = nI N) (h16 : N ≤ 16) (c : mI M 121 ((9851 : Int32)).toNatClampNeg ≠ 0) : ∀ (d i n : Nat), i + d = 4 → 1 ≤ i → d + 100 ≤ n → ∃ x, f2_X10_byRoot_15 M n 120 (nI i) = some x := by
  have hc : inB (9851 : Int32) (mLn M 121) := rs_in r.1 (k := 9851) (by decide)
  have hc0 : inB (0 : Int32) (mLn M 121) := rs_in r.1 (k := 0) (by decide)
  have e0 : mI M 121 ((0 : Int32)).toNatClampNeg = nI N := by
    have e := r.rg (k := 20) (i := 0) (by unfold vk; omega)
    rw [show ad 20 0 = 0 from rfl] at e
    rw [show ((0 : Int32)).toNatClampNeg = 0 from rfl, e, hN]
  intro d
  induction d with
  | zero =>
    intro i n hi h1 hn
    obtain ⟨n, rfl⟩ : ∃ m, n = m + 1 := ⟨n - 1, by omega⟩
    obtain ⟨z, e⟩ := rsa_l r.1 6 0 n 0 rfl (by omega)
    obtain rfl : i = 4 := by omega
    have h5 : nI N < (nI 4 + (1 : Int32)) * (nI 4 + (1 : Int32)) := nI_ltx (a := N) (b := 25) (by omega) (by decide)
    have z4 : nI 4 ≠ 0 := by decide
    obtain ⟨x, e2⟩ := rbitsD M (FP.ddiv (FP.ddiv (FP.i2d z) (FP.i2d (mI M 121 ((9851 : Int32)).toNatClampNeg))) (FP.i2d (nI 4)))
    exact ⟨x, by rw [f2_X10_byRoot_15, rs_f r.1, rs_0 r.1, bnd_e, rs_fa r.1, chk_t hc0, e0, if_pos h5, f_X10_sentAll, show f_X10_sentAll_4 M n 120 0 0 = some z from e, obd_s, bnd_e, rs_fa r.1, chk_t hc, chk_t (nqdi (nqdj z) c), chk_t (nqdi (nqdi (nqdj z) c) z4), e2, obd_s]⟩
  | succ d ih =>
    intro i n hi h1 hn
    obtain ⟨n, rfl⟩ : ∃ m, n = m + 1 := ⟨n - 1, by omega⟩
    obtain ⟨z, e⟩ := rsa_l r.1 6 0 n 0 rfl (by omega)
    have zi : nI i ≠ 0 := nI_ne (b := 0) (by omega) (by decide) (by omega)
    obtain ⟨x, e2⟩ := rbitsD M (FP.ddiv (FP.ddiv (FP.i2d z) (FP.i2d (mI M 121 ((9851 : Int32)).toNatClampNeg))) (FP.i2d (nI i)))
    obtain ⟨x', e'⟩ := ih (i + 1) n (by omega) (by omega) (by omega)
    rw [f2_X10_byRoot_15, rs_f r.1, rs_0 r.1, bnd_e, rs_fa r.1, chk_t hc0, e0]
    split
    · exact ⟨x, by rw [f_X10_sentAll, show f_X10_sentAll_4 M n 120 0 0 = some z from e, obd_s, bnd_e, rs_fa r.1, chk_t hc, chk_t (nqdi (nqdj z) c), chk_t (nqdi (nqdi (nqdj z) c) zi), e2, obd_s]⟩
    · exact ⟨x', by rw [bnd_e, nI_1]; exact e'⟩
theorem RV.r48 (r : RV M tw t S pb pt) (hN : xR S 20 0 = nI N) (h16 : N ≤ 16) {n : Nat} (hn : 10000 ≤ n) : ∃ x, f2_X10_byRoot n 120 M = some x := by
  have hc : inB (9851 : Int32) (mLn M 121) := rs_in r.1 (k := 9851) (by decide)
  rw [f2_X10_byRoot, rs_f r.1, rs_0 r.1, bnd_e, rs_fa r.1, chk_t hc]
  split
  · exact ⟨_, rfl⟩
  · rename_i c
    exact r.root hN h16 c 3 1 n rfl (by decide) (by omega)
end
/-! ===== the world at the start ===== -/
set_option maxRecDepth 1000000 in
theorem MA_w0 : ((List.range 256).all fun l => decide (mI MA0 113 l = 1)) = true := by decide +kernel
set_option maxRecDepth 1000000 in
theorem MA_w1 : ((List.range 4).all fun v => decide (crv (kk 4) 4 v = mI MA0 2 v)) = true := by decide +kernel
set_option maxRecDepth 1000000 in
theorem MA_w2 : mI MA0 1 3 = nI 4 ∧ mI MA0 1 4 = 0 ∧ mI MA0 5 7 = 0 := by decide +kernel
theorem Sf_19 {l : Nat} (h : l < 256) : xR Sf 19 l = 1 := by
  have a := ad_cases (k := 19) (i := l) (by unfold vk; omega)
  rw [Sf_R (by decide), show ad 19 l = 10209 + l by omega, Mf_s]
  unfold mff
  rw [if_neg (by omega)]
  unfold bgf
  rw [if_neg (by omega), if_neg (by omega), if_neg (by omega), if_neg (by omega), if_neg (by omega), if_neg (by omega), if_pos (by omega)]
theorem Sf_200 : xR Sf 20 0 = nI 4 := by
  rw [Sf_R (by decide), show ad 20 0 = 0 from rfl, Mf_s]
  unfold mff
  rw [if_neg (by omega)]
  unfold bgf
  rw [if_pos rfl]
theorem Sf_201 : xR Sf 20 1 = 0 := by
  rw [Sf_R (by decide), show ad 20 1 = 1 from rfl]
  exact fr_1
theorem Sf_BI : BI 4 Sf := fun v hv i h1 h2 => by
  rw [Sf_17 hv, ← Sf_qm hv]
  exact Sf_qb v hv i h1 h2
theorem Sf_v {k v : Nat} (hv : v < 16) (hk : k < 8) : xR Sf k v = 0 := Sf_0 (by unfold vk; omega) (by omega) (by omega) (by omega) (by omega)
theorem Sf_IX : IX 4 Sf := by
  refine ⟨fun a _ w hw => ?_, fun v hv z => ?_, fun x hx z => ?_⟩
  · have hw' : w ∈ (([] : List Wtr)) := hw
    simp at hw'
  · rw [Sf_v (by omega) (by decide)] at z; exact absurd z (by decide)
  · rw [Sf_v (by omega) (by decide)] at z; exact absurd z (by decide)
theorem Sf_IZ : IZ 4 Sf := by
  refine ⟨fun v hv i _ z => ?_, fun v hv _ => Sf_v hv (by decide), fun v _ hv => ⟨Sf_v hv (by decide), Sf_8 hv⟩⟩
  rw [Sf_v hv (by decide), b_0] at z; cases z
theorem Sf_Ph (a : Nat) : Ph a Sf = 0 := by
  have h1 : phL a Sf = 0 := by
    unfold phL
    rw [Sf_fl]; rfl
  have h2 : phB a Sf = 0 := by
    unfold phB
    have : smN (phv Sf a) 16 = smN (fun _ => 0) 16 := smN_c 16 (fun v hv => by
      unfold phv
      rw [Sf_v (k := 4) hv (by omega), Sf_v (k := 5) hv (by omega), b_0, if_neg (fun z => by cases z.1), if_neg (by decide)])
    rw [this, smN_k]
  unfold Ph
  omega
theorem Sf_SW : SW 4 0 0 Sf :=
  ⟨⟨by decide, by decide⟩, Sf_200, Or.inl Sf_201, fun z => absurd (Sf_201.symm.trans z) (by decide), Sf_BI, Sf_Inv, Sf_IX, Sf_IZ, Nat.zero_le _, fun a _ => by rw [Sf_Ph]; exact Nat.zero_le _, ⟨fun v hv => by show ¬ xR Sf 17 v = 0; rw [Sf_17 hv]; exact nz_of fi_z (rg_mem (L := 2) (d := 15) (N := 4) (by decide) (by decide)) hv, fun z => absurd (Sf_201.symm.trans z) (by decide)⟩⟩
theorem Mf_SB : SB Mf 4 Sf := by
  refine ⟨⟨io_f (by decide) (by decide), io_f (by decide) (by decide), io_f (by decide) (by decide), io_f (by decide) (by decide)⟩, ⟨R_f (q := (1, 0, 2)) (by decide), R_f (q := (1, 1, 3)) (by decide), R_f (q := (1, 2, 4)) (by decide)⟩, ⟨ln_f (by decide) (by decide), ln_f (by decide) (by decide), ln_f (by decide) (by decide)⟩, (Mf_o (by decide) 3).trans MA_w2.1, by rw [Sf_201]; exact (Mf_o (by decide) 4).trans MA_w2.2.1, fun v hv => ?_⟩
  rw [Sf_17 hv, of_decide_eq_true (all_r MA_w1 hv)]
  exact Mf_o (by decide) v
theorem Mf_XG : XG Mf := ⟨Mf_9, R_f (q := (0, 0, 1)) (by decide), R_f (q := (0, 1, 5)) (by decide), R_f (q := (0, 2, 14)) (by decide), R_f (q := (0, 3, 63)) (by decide), R_f (q := (0, 4, 112)) (by decide), R_f (q := (0, 5, 114)) (by decide)⟩
theorem Mf_XC : XC Mf Sf :=
  ⟨io_f (by decide) (by decide), R_f (q := (112, 0, 113)) (by decide), io_f (by decide) (by decide), ln_f (by decide) (by decide), fun l hl => ⟨by rw [Sf_19 hl, Mf_o (by decide)]; exact of_decide_eq_true (all_r MA_w0 hl), 1, by decide, by decide, Sf_19 hl⟩⟩
theorem Mf_XV : XV Mf 4 Sf :=
  ⟨⟨⟨io_f (by decide) (by decide), io_f (by decide) (by decide), io_f (by decide) (by decide), io_f (by decide) (by decide), io_f (by decide) (by decide), io_f (by decide) (by decide), io_f (by decide) (by decide), io_f (by decide) (by decide), io_f (by decide) (by decide)⟩, ⟨R_f (q := (5, 0, 6)) (by decide), R_f (q := (5, 1, 8)) (by decide), R_f (q := (5, 2, 10)) (by decide), R_f (q := (5, 3, 11)) (by decide), R_f (q := (5, 4, 12)) (by decide), R_f (q := (5, 5, 13)) (by decide), R_f (q := (6, 0, 7)) (by decide), R_f (q := (8, 0, 9)) (by decide)⟩, ⟨ln_f (by decide) (by decide), ln_f (by decide) (by decide), ln_f (by decide) (by decide), ln_f (by decide) (by decide), ln_f (by decide) (by decide), ln_f (by decide) (by decide)⟩, Or.inl ((Mf_o (by decide) 7).trans MA_w2.2.2)⟩, fun z => absurd (((Mf_o (by decide) 7).trans MA_w2.2.2).symm.trans z) (by decide)⟩
theorem Mf_XS : XS Mf 1024 := by
  have r57 := fun (i : Nat) a b => (Mf_57r (i := i) a b).2
  refine ⟨0, 119, 70, 71, 72, 64, [], [], Mf_SX, ⟨R_f (q := (114, 5, 119)) (by decide), io_f (by decide) (by decide), ln_f (by decide) (by decide), Or.inl rfl, ?_, Nat.zero_le _, Nat.le_refl _, by decide, ?_, ?_, ?_⟩, Mf_CS63, ⟨Mf_DS63, by decide, by decide⟩, ⟨MA_lg.2.1, MA_lg.2.2⟩, ?_, fun j j5 j7 => ⟨?_, fun i i5 i7 => ?_⟩⟩
  · rw [Mf_o (by decide), MA_U.2.1]; rfl
  · rw [r57 5 (by decide) (by decide)]; decide
  · rw [r57 6 (by decide) (by decide)]; decide
  · rw [r57 7 (by decide) (by decide)]; decide
  · rw [Mf_o (by decide), MA_U.2.2]
  · rw [(Mf_57r j5 j7).1]; omega
  · rw [(Mf_57r j5 j7).1, (Mf_57r i5 i7).2]; omega
theorem Mf_GR : GR Mf 1024 := by
  have e1 : mLn Mf (mR Mf 15 5) = 64 := by rw [(Mf_57 (j := 0) (by decide)).1]; exact ln_f (by decide) (by decide)
  have e2 : mLn Mf (mR Mf 64 5) = 64 := by rw [(Mf_57 (j := 0) (by decide)).2]; exact ln_f (by decide) (by decide)
  have e3 : mN Mf = 131 := by rw [mN_e Mf_1, MA_t.2.2.2]
  have e4 : mU Mf = mU MA0 := by unfold mU; rw [Mf_1]
  have e5 := MA_U.1
  unfold GR
  rw [e1, e2, e3, e4]
  exact ⟨by decide, by omega, ⟨0, rfl⟩, ⟨0, rfl⟩, by decide, by decide⟩
theorem Mf_WI : WI 0 Mf :=
  ⟨4, 0, _, Sf, ⟨2000000, 6000000, 1024, Mf_HV, Mf_SB, Mf_XG, Mf_XC, Mf_XV, Mf_XS, Mf_GR, by decide⟩, Mf_RV false, fI120 (by decide), Sf_SW, Sf_Q⟩
