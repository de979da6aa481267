/-! ===== entersBy on the fresh objects ===== -/
theorem Mf_57r {i : Nat} (a : 5 ≤ i) (b : i ≤ 7) : mR Mf 15 i = i + 16 ∧ mR Mf 64 i = i + 65 := by
  have := Mf_57 (j := i - 5) (by omega)
  rw [show 5 + (i - 5) = i by omega] at this
  exact ⟨by rw [this.1]; omega, by rw [this.2]; omega⟩
theorem Mf_copy : ∃ M1, f_X2_copyFrom 59999 63 14 Mf = some M1 ∧ HV M1 63 2000000 6000000 0 4 (fun v => mI Mf 29 v) Sf [] [] ∧ FrH Mf M1 63 := by
  have hA := Sf_Inv.1
  obtain ⟨M1, e1, p1, f1⟩ := Mf_HV.copy (n := 59999) Mf_TR (by decide) (by decide) ⟨0, by decide, Mf_158⟩ (fun i j a b c d => by rw [(Mf_57r a b).2, (Mf_57r c d).1]; omega) (fun v hv => (hA v hv).2.2.2) (fun v _ w hw => by
    have hw' : w ∈ (([] : List Wtr)) := hw
    simp at hw') (by decide)
  exact ⟨M1, e1, p1, f1⟩
theorem Mf_O {M1 : Mem} (f : FrH Mf M1 63) : FrO Mf M1 := f.o Mf_XT.2.2.2.2 (fun i a b => Or.inl (by rw [(Mf_57r a b).2]; omega))
theorem Sf_mv : mv0 4 Sf = [] := by
  have v0 : ∀ v, v < 16 → xR Sf 0 v = 0 := fun v hv => Sf_0 (by unfold vk; omega) (by decide) (by decide) (by decide) (by decide)
  have h1 : lanes Sf = [] := by
    unfold lanes
    rw [List.filter_eq_nil_iff]
    intro l _
    show ¬ (!([] : List Ltr).isEmpty) = true
    simp
  have h2 : inss 4 Sf = [] := by
    unfold inss
    rw [List.filter_eq_nil_iff]
    intro v hv
    rw [v0 v (by have := List.mem_range.mp hv; omega)]
    decide
  unfold mv0
  rw [h1, h2]
  rfl
theorem op40_in {v s : Nat} (hv : v < 4) (hs : s < 2 ^ 31) : E (f_X9_entersBy 59999 0 (nI v) (nI s) Mf) (fun M => f_X10_entersBy 59999 120 (nI v) (nI s) M) = true := by
  have v0 : ∀ v, v < 16 → xR Sf 0 v = 0 := fun v hv => Sf_0 (by unfold vk; omega) (by decide) (by decide) (by decide) (by decide)
  obtain ⟨M1, e1, p1, f1⟩ := Mf_copy
  have x1 := Mf_XT.fr f1
  generalize hM2 : sL M1 63 16 ((nI s).toInt64) = M2
  have p2 : HV M2 63 2000000 6000000 0 4 (fun v => mI Mf 29 v) Sf [] [] := by rw [← hM2]; exact p1.tsL _ _ _
  have x2 : XT M2 := by rw [← hM2]; exact x1.sL _ _ _
  have g2 : mL M2 63 16 = (nI s).toInt64 := by rw [← hM2, mL_s]
  have o2 : FrO Mf M2 := by
    refine (Mf_O f1).tr ?_
    rw [← hM2]
    refine ⟨Nat.le_refl _, fun o a b => ⟨rfl, fun _ => rfl, fun _ => rfl, fun b' => ?_⟩⟩
    rw [mL_sL, if_neg (by omega)]
  have hd := (p2.dr (n := 59998) Sf_Inv (by decide) (by decide) (by decide) (by rw [Sf_fl]; decide) (by have := x2.2.2.2.2; omega) g2 (lN_Gk hs) (by decide)).1 Sf_mv
  have hb := p2.2.2.1.2.1 v (by omega)
  have hb' : bt (mI M2 63 7) v = false := by rw [hb, v0 v (by omega)]; simp
  have ec : f_X9_entersBy 59999 0 (nI v) (nI s) Mf = some (-1, M2) := by
    rw [f_X9_entersBy, chk_t Mf_XT.1, Mf_XT.2.1, bnd_e, fc1, nd7v hv, obd_s, if_neg n10, if_pos (show 0 ≤ nI s from nI_le (a := 0) (Nat.zero_le _) hs), Mf_XT.2.2.2.1, bnd_e, fc63, Mf_XT.2.2.1, bnd_e, fc14, e1, obd_s, chk_t x1.1, x1.2.2.2.1, bnd_e, cs_f p1.1, hM2, bnd_e, show (59999 : Nat) = 59998 + 1 from rfl, f_X9_entersBy_39, chk_t x2.1, x2.2.2.2.1, bnd_e, cs_f p2.1, f_has9 _ (by omega), obd_s, hb', if_neg (show ¬ false = true by decide), if_pos rfl, if_neg (show ¬ (500 : Int32) ≤ 0 by decide), bnd_e, cs_f p2.1, hd, obd2_s, if_pos rfl]
  -- the reference
  have r2 := (Mf_RV false).mv o2
  have k2 : ∀ k, mI M2 120 k = mI Mf 120 k := (o2.2 120 (by decide) (by decide)).2.2.1
  have ea := f_aside r2.1 (n := 59999) (by decide)
  generalize hMa : cpF M2 121 126 0 = Ma at ea
  have pa : RV Ma false 0 Sf [] [] := by
    have o : ∀ o, o ≠ 126 → ∀ b, mI Ma o b = mI M2 o b := fun o n b => by
      rw [← hMa]
      show (if o = 126 ∧ 0 ≤ b ∧ b < 10465 then M2.2.1 121 b else M2.2.1 o b) = M2.2.1 o b
      rw [if_neg (fun z => n z.1)]
    exact r2.cg (by rw [← hMa]; rfl) (o 120 (by decide) 3) (o 121 (by decide)) (o 123 (by decide))
  have pb : RV (sL Ma 120 8 ((nI s).toInt64)) false 0 Sf [] [] := pa.tsL _ _ _
  have ka : mI (sL Ma 120 8 ((nI s).toInt64)) 120 7 = 0 := by
    show mI Ma 120 7 = 0
    rw [← hMa]
    show (if 120 = 126 ∧ 0 ≤ 7 ∧ 7 < 10465 then M2.2.1 121 7 else M2.2.1 120 7) = 0
    rw [if_neg (by decide)]
    exact (k2 7).trans (fI120 (by decide))
  obtain ⟨M3, s1, _, _⟩ := pb.goO (n := 59998) Sf_Inv Sf_20.1 (by decide) (by decide) (fun z => by rw [Sf_20.2] at z; exact absurd z (by decide)) (by decide) (by rw [Sf_fl]; decide) ka (mL_s _ _ _ _) (lN_Gk hs) (by decide)
  obtain ⟨eg, p3, _⟩ := s1 Sf_mv
  have eb := f_back p3.1 (n := 59998) (by decide)
  have er : f_X10_entersBy 59999 120 (nI v) (nI s) M2 = some (-1, cpF M3 126 121 0) := by
    have nd : f_X10_isNode 120 (nI v) M2 = some 1 := nd10m r2.1.toRK (by
      have := r2.rg (k := 20) (i := 0) (by unfold vk; omega)
      exact this.trans Sf_20.1) hv
    rw [f_X10_entersBy, rs_f r2.1, nd, obd_s, if_neg n10, if_pos (show 0 ≤ nI s from nI_le (a := 0) (Nat.zero_le _) hs), ea, obd_s, rs_f pa.1, bnd_e, show (59999 : Nat) = 59998 + 1 from rfl, f_X10_entersBy_26, if_neg (show ¬ (500 : Int32) ≤ 0 by decide), rs_f pb.1, pb.get0 (by omega), obd_s, v0 v (by omega), if_neg (show ¬ (0 : Int32) = 2 by decide), eg, obd2_s, if_pos rfl, f_X10_entersBy_56, rs_f p3.1, p3.get0 (by omega), obd_s, v0 v (by omega), if_neg (show ¬ (0 : Int32) = 2 by decide), f_X10_entersBy_71, rs_f p3.1, eb, obd_s, if_pos rfl]
  exact E_mm (r2.1.io (i := 120) (by decide) (by decide) (by decide)) ec er
theorem op40 (a b : Int32) : E (f_X9_entersBy 59999 0 a b Mf) (fun M => f_X10_entersBy 59999 120 a b M) = true := by
  rcases out_in (N := 4) (by decide) a with h | ⟨v, hv, rfl⟩
  · refine E_mm (r := -1) (M1 := Mf) (M2 := Mf) Mf_10 ?_ ?_
    · rw [f_X9_entersBy, fc0, fR00, bnd_e, fc1, nd7 h, obd_s, if_pos rfl]
    · rw [f_X10_entersBy, fc120, nd10 h, obd_s, if_pos rfl]
  · by_cases hb : b < 0
    · have n0 : ¬ 0 ≤ b := Int32.not_le.mpr hb
      refine E_mm (r := -1) (M1 := Mf) (M2 := Mf) Mf_10 ?_ ?_
      · rw [f_X9_entersBy, fc0, fR00, bnd_e, fc1, nd7v hv, obd_s, if_neg n10, if_neg n0]
      · rw [f_X10_entersBy, fc120, nd10v hv, obd_s, if_neg n10, if_neg n0]
    · obtain ⟨s, hs, rfl⟩ := nn_e hb
      exact op40_in hv hs
