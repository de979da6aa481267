theorem op7_v {k s : Nat} (hk : k < 4) (hs : s < 16) : ((s == 0) || BQ k s) = true := by
  have e : s = 4 * (s / 4) + s % 4 := by omega
  have hg : s / 4 < 4 := by omega
  have hr : s % 4 < 4 := by omega
  generalize s / 4 = g at e hg
  generalize s % 4 = r at e hr
  subst e
  rcases (show k = 0 ∨ k = 1 ∨ k = 2 ∨ k = 3 by omega) with rfl | rfl | rfl | rfl <;> rcases (show g = 0 ∨ g = 1 ∨ g = 2 ∨ g = 3 by omega) with rfl | rfl | rfl | rfl
  · have q := all_k op7_v00 hr
    exact q
  · have q := all_k op7_v01 hr
    exact q
  · have q := all_k op7_v02 hr
    exact q
  · have q := all_k op7_v03 hr
    exact q
  · have q := all_k op7_v10 hr
    exact q
  · have q := all_k op7_v11 hr
    exact q
  · have q := all_k op7_v12 hr
    exact q
  · have q := all_k op7_v13 hr
    exact q
  · have q := all_k op7_v20 hr
    exact q
  · have q := all_k op7_v21 hr
    exact q
  · have q := all_k op7_v22 hr
    exact q
  · have q := all_k op7_v23 hr
    exact q
  · have q := all_k op7_v30 hr
    exact q
  · have q := all_k op7_v31 hr
    exact q
  · have q := all_k op7_v32 hr
    exact q
  · have q := all_k op7_v33 hr
    exact q
set_option maxRecDepth 1000000 in
theorem all10 : f_X10_all 120 Mf = some 15 := by decide +kernel
theorem nz16 {s : Nat} (hs : s < 16) (h0 : s ≠ 0) : ¬ nI s = 0 := by
  have q := all_k (P := fun s => (s == 0) || decide (¬ nI s = 0)) (N := 16) (by decide) hs
  rcases Bool.or_eq_true _ _ |>.mp q with h | h
  · exact absurd (eq_of_beq h) h0
  · exact of_decide_eq_true h
theorem m16 {s : Nat} (hs : s < 16) : (nI s &&& ((15 : Int32) ^^^ (-1 : Int32))) = 0 :=
  of_decide_eq_true (all_k (P := fun s => decide ((nI s &&& ((15 : Int32) ^^^ (-1 : Int32))) = 0)) (N := 16) (by decide) hs)
theorem and_or32 (a b c : Int32) : a &&& (b ||| c) = (a &&& b) ||| (a &&& c) := by
  apply Int32.toBitVec_inj.mp
  simp only [Int32.toBitVec_and, Int32.toBitVec_or]
  exact BitVec.and_or_distrib_left
theorem op7_b {k s : Nat} (hk : k < 4) (hs : s < 16) (h0 : s ≠ 0) : E (f_X9_base 59999 0 (nI k) (nI s) Mf) (fun M => f_X10_base 59999 120 (nI k) (nI s) M) = true := by
  have q := op7_v hk hs
  have q1 : BQ k s = true := by
    rcases Bool.or_eq_true _ _ |>.mp q with h | h
    · exact absurd (eq_of_beq h) h0
    · exact h
  unfold BQ at q1
  cases hx : f_X9_base 59999 0 (nI k) (nI s) Mf with
  | none => rw [hx] at q1; cases q1
  | some p =>
    rw [hx] at q1
    obtain ⟨hr, hI, hn, ha, hp⟩ := of_decide_eq_true q1
    have hR : RK p.2 120 121 := hr
    have hW : RK (wA p.2 121 (bgf (mI p.2 121) 4 0)) 120 121 := RK_w hR
    have hz : ¬ nI s = 0 := nz16 hs h0
    have hm : (nI s &&& ((15 : Int32) ^^^ (-1 : Int32))) = 0 := m16 hs
    have hin : inB ((2 : Int32) + nI k) (mLn (wA p.2 121 (bgf (mI p.2 121) 4 0)) 121) := by
      rw [show (2 : Int32) = nI 2 from rfl, nI_add]
      exact rk_in hW (by omega)
    have hin0 : inB (0 : Int32) (mLn p.2 121) := rk_in (k := 0) hR (by decide)
    have hI' : mI p.2 121 ((0 : Int32)).toNatClampNeg = 4 := hI
    have hb := f_begin (N := 4) (t := 0) (n := 59999) hR (by decide)
    rw [if_pos rfl] at hb
    refine E_mm (r := p.1) (M1 := p.2) (M2 := sI (wA p.2 121 (bgf (mI p.2 121) 4 0)) 121 (2 + k) (nI s)) hR.1 rfl ?_
    rw [f_X10_base, chk_t hR.1, hn, obd_s, if_neg n10, if_neg hz, ha, obd_s, if_pos hm, hR.2.1, bnd_e, chk_t hR.2.2.1, chk_t hin0, hI', hb, obd_s, chk_t hW.1, hW.2.1, bnd_e, chk_t hW.2.2.1, chk_t hin, bnd_e]
    rw [show ((2 : Int32) + nI k).toNatClampNeg = 2 + k by rw [show (2 : Int32) = nI 2 from rfl, nI_add, nI_clamp (by omega)], hp, obd_s]
theorem op7 (a b : Int32) : E (f_X9_base 59999 0 a b Mf) (fun M => f_X10_base 59999 120 a b M) = true := by
  rcases out_in (N := 4) (by decide) a with h | ⟨k, hk, rfl⟩
  · refine E_mm (r := -1) (M1 := Mf) (M2 := Mf) Mf_10 ?_ ?_
    · rw [f_X9_base, fc0, bnd_e, fR00, fc1, nd7 h, obd_s, if_pos rfl]
    · rw [f_X10_base, fc120, nd10 h, obd_s, if_pos rfl]
  · by_cases h0 : b = 0
    · refine E_mm (r := -1) (M1 := Mf) (M2 := Mf) Mf_10 ?_ ?_
      · rw [f_X9_base, fc0, bnd_e, fR00, fc1, nd7v hk, obd_s, if_neg n10, if_pos h0]
      · rw [f_X10_base, fc120, nd10v hk, obd_s, if_neg n10, if_pos h0]
    · by_cases hm : (b &&& ((15 : Int32) ^^^ (-1 : Int32))) = 0
      · obtain ⟨s, hs, e⟩ := and_le b 15 (by decide)
        have eb : b = nI s := by
          rw [← e]
          have h1 : b = b &&& ((15 : Int32) ||| ((15 : Int32) ^^^ (-1 : Int32))) := by
            rw [show ((15 : Int32) ||| ((15 : Int32) ^^^ (-1 : Int32))) = -1 by decide, Int32.and_neg_one]
          have h2 : b &&& ((15 : Int32) ||| ((15 : Int32) ^^^ (-1 : Int32))) = (b &&& 15) ||| (b &&& ((15 : Int32) ^^^ (-1 : Int32))) := and_or32 _ _ _
          rw [hm, Int32.or_zero] at h2
          exact h1.trans h2
        rw [eb]
        refine op7_b hk (by omega) ?_
        intro hs0
        rw [hs0] at eb
        exact h0 eb
      · refine E_mm (r := -1) (M1 := Mf) (M2 := Mf) Mf_10 ?_ ?_
        · rw [f_X9_base, fc0, bnd_e, fR00, fc1, nd7v hk, obd_s, if_neg n10, if_neg h0, bnd_e, fc1, f_X7_isSetOfNodes, fc1, an7, obd_s, if_neg hm, obd_s, if_pos rfl]
        · rw [f_X10_base, fc120, nd10v hk, obd_s, if_neg n10, if_neg h0, all10, obd_s, if_neg hm]
