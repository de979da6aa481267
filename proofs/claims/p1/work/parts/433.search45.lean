/-! ===== searched, searchedBy, soonest on the fresh objects ===== -/
theorem Sf_SK {m : Nat} (h : m ≤ 40) : SK 4 0 16 m Sf := ⟨by decide, by decide, h, by decide, by decide, Sf_20.1, fun z => by rw [Sf_20.2] at z; exact absurd z (by decide), Sf_qb⟩
theorem Sf_GS : GS 4 0 16 Sf Sf 0 := by
  refine ⟨Sf_Inv, ?_, Qk.rf _, Kn.rf _ _⟩
  have hi := idl_le Sf 4
  unfold Psi
  rw [Sf_fl, List.length_nil]
  omega
theorem Mf_run (ask : Int32) {m : Nat} (h1 : 1 ≤ m) (h40 : m ≤ 40) : ∃ M', f_X6_run 59999 114 14 ask (nI m) Mf = some M' ∧ GQ 4 0 16 m Sf (bfq 4 m ask Sf) ∧ CM 8384 1000000 0 4 (fun v => mI Mf 29 v) [] [] 0 16 m Sf ask (fun v => xR Sf 2 v) M' (bfq 4 m ask Sf) ∧ FrS Mf M' := by
  have r57 := fun (i : Nat) a b => Mf_57r (i := i) a b
  exact run_w Mf_HV Mf_SR (Sf_SK h40) h1 Sf_GS (by decide) (by decide) Sf_Q ⟨0, by decide, Mf_158⟩ (fun i j a b c d => by rw [(r57 i a b).2, (r57 j c d).1]; omega) (n := 59999) (by decide)
theorem FrS.mr {M M' : Mem} {tw : Bool} {t : Int32} {S : St} {pb pt : List Row4} (f : FrS M M') (h : RV M tw t S pb pt) : RV M' tw t S pb pt :=
  h.mr f.1 (fun o a b => ⟨f.2.1 o b, fun c => f.2.2.1 o c b (by omega) (by omega), f.2.2.2.1 o b (by omega) (by omega)⟩)
theorem FrS.io {M M' : Mem} (f : FrS M M') {c o : Nat} (ho : o < 131) (h : isO M c o) : isO M' c o := ⟨by have := f.1; have := h.1; omega, by rw [mC, f.2.1 o ho]; exact h.2⟩
theorem op45 (a b : Int32) : E (f_X9_soonest 59999 0 a b Mf) (fun M => f_X10_soonest 59999 120 a b M) = true := by
  have i0 : isO Mf 9 0 := io_f (by decide) (by decide)
  have i1 : isO Mf 7 1 := io_f (by decide) (by decide)
  rcases out_in (N := 4) (by decide) a with h | ⟨v, hv, rfl⟩
  · refine E_mm (r := -1) (M1 := Mf) (M2 := Mf) Mf_10 ?_ ?_
    · rw [f_X9_soonest, chk_t i0, fR00, bnd_e, chk_t i1, nd7 h, obd_s, if_pos rfl]
    · rw [f_X10_soonest, chk_t Mf_10, nd10 h, obd_s, if_pos rfl]
  · rcases rng3 (L := 1) (N := 40) (by decide) (by decide) b with h | ⟨m, h1, h40, rfl⟩
    · refine E_mm (r := -1) (M1 := Mf) (M2 := Mf) Mf_10 ?_ ?_
      · rw [f_X9_soonest, chk_t i0, fR00, bnd_e, chk_t i1, nd7v hv, obd_s, if_neg ne10]
        by_cases q : b < 1
        · rw [if_pos q]
        · rw [if_neg q, if_neg (Int32.not_le.mpr (lt_of (y := 40) (N := 41) (by decide) b (h.resolve_left q)))]
      · rw [f_X10_soonest, chk_t Mf_10, nd10v hv, obd_s, if_neg ne10, show (40 : Int32) = nI 40 from rfl, show (1 : Int32) = nI 1 from rfl, is_out3 (by decide) h, obd_s, if_pos rfl]
    · obtain ⟨M1, e1, gq, cm, f⟩ := Mf_run 0 h1 h40
      have p1 := f.mr (Mf_RV false)
      have j0 : isO M1 9 0 := f.io (by decide) i0
      have j5 : mR M1 0 5 = 114 := by rw [f.2.2.1 0 5 (by decide) (by decide) (by decide)]; exact fR05
      have j114 : isO M1 6 114 := f.io (by decide) Mf_SX.1
      have i14 : isO Mf 2 14 := io_f (by decide) (by decide)
      have nd : f_X10_isNode 120 (nI v) M1 = some 1 := nd10m p1.1.toRK (by
        have := p1.rg (k := 20) (i := 0) (by unfold vk; omega)
        exact this.trans Sf_20.1) hv
      obtain ⟨M2, e2⟩ := p1.ssn (n := 59999) (Sf_SK h40) h1 Sf_GS (by rw [f.2.2.2.1 120 (by decide) (by decide) (by decide)]; exact fI120 (by decide)) hv nd (by decide)
      refine E_mm (f.io (by decide) Mf_10) (M1 := M1) (M2 := M2) (r := cSon v (bfq 4 m 0 Sf).1) ?_ e2
      rw [f_X9_soonest, chk_t i0, fR00, bnd_e, chk_t i1, nd7v hv, obd_s, if_neg ne10, if_neg (show ¬ nI m < (1 : Int32) from nI_nl (a := m) (b := 1) h1 (by omega)), if_pos (show nI m ≤ (40 : Int32) from nI_le (a := m) (b := 40) h40 (by decide)), fR05, bnd_e, chk_t Mf_SX.1, fR02, bnd_e, chk_t i14, e1, obd_s, chk_t j0, j5, bnd_e, chk_t j114, f_sonE cm gq h40 (by omega) (by decide), obd_s]
