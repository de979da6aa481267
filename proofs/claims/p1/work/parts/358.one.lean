set_option maxRecDepth 1000000 in
theorem op12_c : (List.range 16).all (fun k => match f_X9_stops 59999 0 (nI k) Mf with
  | none => false
  | some p => decide (f_X10_all 120 p.2 = some 15)) = true := by decide +kernel
set_option maxRecDepth 1000000 in
theorem an7 : f_X7_allNodes 1 Mf = some 15 := by decide +kernel
theorem op12 (a : Int32) : E (f_X9_stops 59999 0 a Mf) (fun M => f_X10_stops 59999 120 a M) = true := by
  obtain ⟨k, hk, e⟩ := and_le a 15 (by decide)
  have e2 : nI k &&& nI 15 = nI k := by
    rw [← e, Int32.and_assoc, Int32.and_self]
  have h0 : f_X9_stops 59999 0 a Mf = f_X9_stops 59999 0 (nI k) Mf := by
    rw [f_X9_stops, f_X9_stops]
    simp only [fc0, fR00, fc1, bnd_e, an7, obd_s]
    rw [show a &&& (15 : Int32) = nI k from e, show nI k &&& (15 : Int32) = nI k from e2]
  have q := all_k op12_v (show k < 16 by omega)
  obtain ⟨rr, M1, M2, q1, q2, q3⟩ := E_ok q
  have c := all_k op12_c (show k < 16 by omega)
  rw [q1] at c
  have c1 : f_X10_all 120 M1 = some 15 := of_decide_eq_true c
  refine E_mm (r := rr) (M1 := M1) (M2 := M2) q2 (h0.trans q1) ?_
  rw [← q3, f_X10_stops, f_X10_stops, chk_t q2, chk_t q2, c1, obd_s, obd_s, show a &&& (15 : Int32) = nI k from e, show nI k &&& (15 : Int32) = nI k from e2]
set_option maxRecDepth 1000000 in
theorem op30_v : (List.range 4).all (fun k => (List.range 4).all fun j => E (lf (f_X9_way 59999 0 (nI k) (nI j) (-1) Mf) Mf) (fun M => lf (f_X10_way 59999 120 (nI k) (nI j) (-1) M) M)) = true := by decide +kernel
set_option maxRecDepth 1000000 in
theorem op30_z : (List.range 4).all (fun k => (List.range 4).all fun j => decide (inB ((nI k * (16 : Int32)) + nI j) (mLn Mf 18) ∧ mI Mf 18 (((nI k * (16 : Int32)) + nI j)).toNatClampNeg = 0)) = true := by decide +kernel
theorem fR152 : mR Mf 15 2 = 18 := R_f (q := (15, 2, 18)) (by decide)
theorem fc18 {α : Type} (x : Option α) : chk (isO Mf 100 18) x = x := chk_t (io_f (by decide) (by decide))
theorem op30 (a b c : Int32) : E (lf (f_X9_way 59999 0 a b c Mf) Mf) (fun M => lf (f_X10_way 59999 120 a b c M) M) = true := by
  have z : mI Mf 121 ((850 : Int32)).toNatClampNeg = 0 := by
    rw [show (850 : Int32) = nI 850 from rfl, nI_clamp (by decide)]
    exact fr_z.2.2
  have iN : inB (850 : Int32) (mLn Mf 121) := by
    rw [show (850 : Int32) = nI 850 from rfl]
    exact rk_in Mf_RK (by decide)
  rcases out_in (N := 4) (by decide) a with h | ⟨k, hk, rfl⟩
  · refine E_pp (r := -1) Mf_10 ?_ ?_ <;> simp only [f_X9_way, f_X10_way, fc0, fc1, fc5, fc14, fc15, fc24, fc25, fc27, fc63, fc112, fc114, fc120, fc121, fR00, fR01, fR02, fR03, fR04, fR05, fR141, fR142, fR143, fR144, fR145, fR154, fRr, bnd_e, obd_s, obd2_s, nd7 h, nd10 h, if_pos]
  · rcases out_in (N := 4) (by decide) b with h | ⟨j, hj, rfl⟩
    · refine E_pp (r := -1) Mf_10 ?_ ?_ <;> simp only [f_X9_way, f_X10_way, fc0, fc1, fc5, fc14, fc15, fc24, fc25, fc27, fc63, fc112, fc114, fc120, fc121, fR00, fR01, fR02, fR03, fR04, fR05, fR141, fR142, fR143, fR144, fR145, fR154, fRr, bnd_e, obd_s, obd2_s, nd7v hk, nd10v hk, nd7 h, nd10 h, if_pos, if_neg n10]
    · by_cases hc : c = -1
      · rw [hc]
        have q := all_k (all_k op30_v hk) hj
        exact q
      · have hz : inB ((nI k * (16 : Int32)) + nI j) (mLn Mf 18) ∧ mI Mf 18 (((nI k * (16 : Int32)) + nI j)).toNatClampNeg = 0 := of_decide_eq_true (all_k (all_k op30_z hk) hj)
        refine E_pp (r := -1) Mf_10 ?_ ?_
        · rw [f_X9_way, fc0, bnd_e, fR00, fc1, nd7v hk, obd_s, if_neg n10, bnd_e, fc1, nd7v hj, obd_s, if_neg n10, if_neg hc, fR02, bnd_e, fc14, fR141, bnd_e, fc15, f_X5_kindAt, bnd_e]
          by_cases q : c < 0
          · rw [if_pos q]; rfl
          · rw [if_neg q, fc15, fR152, bnd_e, fc18, chk_t hz.1, hz.2, if_neg q]; rfl
        · rw [f_X10_way, fc120, nd10v hk, obd_s, if_neg n10, nd10v hj, obd_s, if_neg n10]
          by_cases q : (-1 : Int32) ≤ c
          · rw [if_pos q, f_X10_way_29, fc120, fRr, bnd_e, fc121, chk_t iN, z, if_pos (by decide), if_neg hc]
          · rw [if_neg q]
set_option maxRecDepth 1000000 in
theorem op48_v : decide (f_X9_byRoot 59999 0 Mf = some 0 ∧ f_X10_byRoot 59999 120 Mf = some 0) = true := by decide +kernel
theorem op48 : f_X9_byRoot 59999 0 Mf = some 0 ∧ f_X10_byRoot 59999 120 Mf = some 0 := of_decide_eq_true op48_v
