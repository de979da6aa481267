/-! ===== the world at the start ===== -/
set_option maxRecDepth 1000000 in
theorem MA_w0 : ((List.range 256).all fun l => decide (mI MA0 113 l = 1)) = true := by decide +kernel
set_option maxRecDepth 1000000 in
theorem MA_w1 : ((List.range 4).all fun v => decide (crv (kk 4) 4 v = mI MA0 2 v)) = true := by decide +kernel
set_option maxRecDepth 1000000 in
theorem MA_w2 : mI MA0 1 3 = nI 4 ∧ mI MA0 1 4 = 0 ∧ mI MA0 5 7 = 0 := by decide +kernel
theorem Sf_19 {l : Nat} (h : l < 256) : xR Sf 19 l = 1 := by
  have a := ad_cases (k := 19) (i := l) (by unfold vk; omega)
  rw [Sf_R (by decide), show ad 19 l = 10209 + l by omega, Mf_s]
  unfold mff
  rw [if_neg (by omega)]
  unfold bgf
  rw [if_neg (by omega), if_neg (by omega), if_neg (by omega), if_neg (by omega), if_neg (by omega), if_neg (by omega), if_pos (by omega)]
theorem Sf_200 : xR Sf 20 0 = nI 4 := by
  rw [Sf_R (by decide), show ad 20 0 = 0 from rfl, Mf_s]
  unfold mff
  rw [if_neg (by omega)]
  unfold bgf
  rw [if_pos rfl]
theorem Sf_201 : xR Sf 20 1 = 0 := by
  rw [Sf_R (by decide), show ad 20 1 = 1 from rfl]
  exact fr_1
theorem Sf_BI : BI 4 Sf := fun v hv i h1 h2 => by
  rw [Sf_17 hv, ← Sf_qm hv]
  exact Sf_qb v hv i h1 h2
theorem Sf_v {k v : Nat} (hv : v < 16) (hk : k < 8) : xR Sf k v = 0 := Sf_0 (by unfold vk; omega) (by omega) (by omega) (by omega) (by omega)
theorem Sf_IX : IX 4 Sf := by
  refine ⟨fun a _ w hw => ?_, fun v hv z => ?_, fun x hx z => ?_⟩
  · have hw' : w ∈ (([] : List Wtr)) := hw
    simp at hw'
  · rw [Sf_v (by omega) (by decide)] at z; exact absurd z (by decide)
  · rw [Sf_v (by omega) (by decide)] at z; exact absurd z (by decide)
theorem Sf_IZ : IZ 4 Sf := by
  refine ⟨fun v hv i _ z => ?_, fun v hv _ => Sf_v hv (by decide), fun v _ hv => ⟨Sf_v hv (by decide), Sf_8 hv⟩⟩
  rw [Sf_v hv (by decide), b_0] at z; cases z
theorem Sf_Ph (a : Nat) : Ph a Sf = 0 := by
  have h1 : phL a Sf = 0 := by
    unfold phL
    rw [Sf_fl]; rfl
  have h2 : phB a Sf = 0 := by
    unfold phB
    have : smN (phv Sf a) 16 = smN (fun _ => 0) 16 := smN_c 16 (fun v hv => by
      unfold phv
      rw [Sf_v (k := 4) hv (by omega), Sf_v (k := 5) hv (by omega), b_0, if_neg (fun z => by cases z.1), if_neg (by decide)])
    rw [this, smN_k]
  unfold Ph
  omega
theorem Sf_SW : SW 4 0 0 Sf :=
  ⟨⟨by decide, by decide⟩, Sf_200, Or.inl Sf_201, fun z => absurd (Sf_201.symm.trans z) (by decide), Sf_BI, Sf_Inv, Sf_IX, Sf_IZ, Nat.zero_le _, fun a _ => by rw [Sf_Ph]; exact Nat.zero_le _, ⟨fun v hv => by show ¬ xR Sf 17 v = 0; rw [Sf_17 hv]; exact nz_of fi_z (rg_mem (L := 2) (d := 15) (N := 4) (by decide) (by decide)) hv, fun z => absurd (Sf_201.symm.trans z) (by decide)⟩⟩
theorem Mf_SB : SB Mf 4 Sf := by
  refine ⟨⟨io_f (by decide) (by decide), io_f (by decide) (by decide), io_f (by decide) (by decide), io_f (by decide) (by decide)⟩, ⟨R_f (q := (1, 0, 2)) (by decide), R_f (q := (1, 1, 3)) (by decide), R_f (q := (1, 2, 4)) (by decide)⟩, ⟨ln_f (by decide) (by decide), ln_f (by decide) (by decide), ln_f (by decide) (by decide)⟩, (Mf_o (by decide) 3).trans MA_w2.1, by rw [Sf_201]; exact (Mf_o (by decide) 4).trans MA_w2.2.1, fun v hv => ?_⟩
  rw [Sf_17 hv, of_decide_eq_true (all_r MA_w1 hv)]
  exact Mf_o (by decide) v
theorem Mf_XG : XG Mf := ⟨Mf_9, R_f (q := (0, 0, 1)) (by decide), R_f (q := (0, 1, 5)) (by decide), R_f (q := (0, 2, 14)) (by decide), R_f (q := (0, 3, 63)) (by decide), R_f (q := (0, 4, 112)) (by decide), R_f (q := (0, 5, 114)) (by decide)⟩
theorem Mf_XC : XC Mf Sf :=
  ⟨io_f (by decide) (by decide), R_f (q := (112, 0, 113)) (by decide), io_f (by decide) (by decide), ln_f (by decide) (by decide), fun l hl => ⟨by rw [Sf_19 hl, Mf_o (by decide)]; exact of_decide_eq_true (all_r MA_w0 hl), 1, by decide, by decide, Sf_19 hl⟩⟩
theorem Mf_XV : XV Mf 4 Sf :=
  ⟨⟨⟨io_f (by decide) (by decide), io_f (by decide) (by decide), io_f (by decide) (by decide), io_f (by decide) (by decide), io_f (by decide) (by decide), io_f (by decide) (by decide), io_f (by decide) (by decide), io_f (by decide) (by decide), io_f (by decide) (by decide)⟩, ⟨R_f (q := (5, 0, 6)) (by decide), R_f (q := (5, 1, 8)) (by decide), R_f (q := (5, 2, 10)) (by decide), R_f (q := (5, 3, 11)) (by decide), R_f (q := (5, 4, 12)) (by decide), R_f (q := (5, 5, 13)) (by decide), R_f (q := (6, 0, 7)) (by decide), R_f (q := (8, 0, 9)) (by decide)⟩, ⟨ln_f (by decide) (by decide), ln_f (by decide) (by decide), ln_f (by decide) (by decide), ln_f (by decide) (by decide), ln_f (by decide) (by decide), ln_f (by decide) (by decide)⟩, Or.inl ((Mf_o (by decide) 7).trans MA_w2.2.2)⟩, fun z => absurd (((Mf_o (by decide) 7).trans MA_w2.2.2).symm.trans z) (by decide)⟩
theorem Mf_XS : XS Mf 1024 := by
  have r57 := fun (i : Nat) a b => (Mf_57r (i := i) a b).2
  refine ⟨0, 119, 70, 71, 72, 64, [], [], Mf_SX, ⟨R_f (q := (114, 5, 119)) (by decide), io_f (by decide) (by decide), ln_f (by decide) (by decide), Or.inl rfl, ?_, Nat.zero_le _, Nat.le_refl _, by decide, ?_, ?_, ?_⟩, Mf_CS63, ⟨Mf_DS63, by decide, by decide⟩, ⟨MA_lg.2.1, MA_lg.2.2⟩, ?_, fun j j5 j7 => ⟨?_, fun i i5 i7 => ?_⟩⟩
  · rw [Mf_o (by decide), MA_U.2.1]; rfl
  · rw [r57 5 (by decide) (by decide)]; decide
  · rw [r57 6 (by decide) (by decide)]; decide
  · rw [r57 7 (by decide) (by decide)]; decide
  · rw [Mf_o (by decide), MA_U.2.2]
  · rw [(Mf_57r j5 j7).1]; omega
  · rw [(Mf_57r j5 j7).1, (Mf_57r i5 i7).2]; omega
theorem Mf_GR : GR Mf 1024 := by
  have e1 : mLn Mf (mR Mf 15 5) = 64 := by rw [(Mf_57 (j := 0) (by decide)).1]; exact ln_f (by decide) (by decide)
  have e2 : mLn Mf (mR Mf 64 5) = 64 := by rw [(Mf_57 (j := 0) (by decide)).2]; exact ln_f (by decide) (by decide)
  have e3 : mN Mf = 131 := by rw [mN_e Mf_1, MA_t.2.2.2]
  have e4 : mU Mf = mU MA0 := by unfold mU; rw [Mf_1]
  have e5 := MA_U.1
  unfold GR
  rw [e1, e2, e3, e4]
  exact ⟨by decide, by omega, ⟨0, rfl⟩, ⟨0, rfl⟩, by decide, by decide⟩
theorem Mf_WI : WI 0 Mf :=
  ⟨4, 0, _, Sf, ⟨2000000, 6000000, 1024, Mf_HV, Mf_SB, Mf_XG, Mf_XC, Mf_XV, Mf_XS, Mf_GR, by decide⟩, Mf_RV false, fI120 (by decide), Sf_SW, Sf_Q⟩
