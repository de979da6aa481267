theorem has0 (k : Nat) (hk : k < 16) (M : Mem) : f_X9_has 0 (nI k) M = some 0 := by
  rw [f_X9_has, if_pos]
  exact of_decide_eq_true (all_k (P := fun k => decide ((((0 : Int32) >>> (nI k &&& 31)) &&& (1 : Int32)) = 0)) (N := 16) (by decide) hk)
theorem wt_l {o : Nat} {M : Mem} {b : Int32} (ho : isO M 4 o) (h9 : mI M o 9 = 0) (d j : Nat) (hd : d ≤ 16) : f_X4_waiterAt_2 M (d + j + 1) o b (nI (16 - d)) = some (-1) := by
  induction d with
  | zero => rw [Nat.zero_add, f_X4_waiterAt_2, if_pos (by decide)]
  | succ d ih =>
    have hk : 16 - (d + 1) < 16 := by omega
    have e1 : nI (16 - (d + 1)) + 1 = nI (16 - d) := by rw [nI_1]; congr 1; omega
    have hn : ¬ (16 : Int32) ≤ nI (16 - (d + 1)) := by
      rw [show (16 : Int32) = nI 16 from rfl]
      exact nI_ge hk (by decide)
    rw [show d + 1 + j + 1 = (d + j + 1) + 1 by omega, f_X4_waiterAt_2, if_neg hn, chk_t ho, h9, has0 _ hk, obd_s, if_pos rfl, bnd_e, e1]
    exact ih (by omega)
set_option maxRecDepth 1000000 in
theorem op29_z : (List.range 4).all (fun k => decide (inB (nI k) (mLn Mf 24) ∧ isO Mf 4 (mR Mf 24 (nI k).toNatClampNeg) ∧ mI Mf (mR Mf 24 (nI k).toNatClampNeg) 9 = 0 ∧ f_X10_of 120 (nI k) 3 Mf = some 0)) = true := by decide +kernel
theorem op29 (a b c : Int32) : E (lf (f_X9_waiting 59999 0 a b c Mf) Mf) (fun M => lf (f_X10_waiting 120 a b c M) M) = true := by
  rcases out_in (N := 4) (by decide) a with h | ⟨k, hk, rfl⟩
  · refine E_pp (r := -1) Mf_10 ?_ ?_ <;> simp only [f_X9_waiting, f_X10_waiting, fc0, fc1, fc5, fc14, fc15, fc24, fc25, fc27, fc63, fc112, fc114, fc120, fc121, fR00, fR01, fR02, fR03, fR04, fR05, fR141, fR142, fR143, fR144, fR145, fR154, fRr, bnd_e, obd_s, obd2_s, nd7 h, nd10 h, if_pos]
  · have z : inB (nI k) (mLn Mf 24) ∧ isO Mf 4 (mR Mf 24 (nI k).toNatClampNeg) ∧ mI Mf (mR Mf 24 (nI k).toNatClampNeg) 9 = 0 ∧ f_X10_of 120 (nI k) 3 Mf = some 0 := of_decide_eq_true (all_k op29_z hk)
    refine E_pp (r := -1) Mf_10 ?_ ?_
    · rw [f_X9_waiting, fc0, bnd_e, fR00, fc1, nd7v hk, obd_s, if_neg n10]
      by_cases q : c < 0
      · rw [if_pos q]
      · rw [if_neg q]
        by_cases q2 : c ≤ 1
        · rw [if_pos q2, bnd_e, fR02, fc14, fR142, bnd_e, fc24, chk_t z.1, bnd_e, chk_t z.2.1, f_X4_waiterAt]
          have q3 := wt_l (b := b) z.2.1 z.2.2.1 16 59982 (Nat.le_refl _)
          rw [show f_X4_waiterAt_2 Mf 59999 (mR Mf 24 (nI k).toNatClampNeg) b 0 = some (-1) from q3, obd_s, if_pos rfl]
        · rw [if_neg q2]
    · rw [f_X10_waiting, fc120, nd10v hk, obd_s, if_neg n10, z.2.2.2, obd_s, is_none, obd_s, if_pos rfl]
