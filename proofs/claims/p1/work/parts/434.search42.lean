/-! ===== searched and searchedBy on the fresh objects ===== -/
theorem tell_out {c : Int32} (h : Out 6 c) {M : Mem} : f_X6_tell 114 c M = some (-1) := by
  have n : ∀ k, k < 6 → ¬ c = nI k := fun k hk e => by
    rw [e] at h
    rcases h with h | h
    · exact absurd h (show ¬ nI k < 0 from nI_nl (a := k) (b := 0) (Nat.zero_le _) (by omega))
    · exact absurd h (nI_ge hk (by decide))
  rw [f_X6_tell, if_neg (show ¬ c = (0 : Int32) from n 0 (by decide)), if_neg (show ¬ c = (1 : Int32) from n 1 (by decide)), if_neg (show ¬ c = (2 : Int32) from n 2 (by decide)), if_neg (show ¬ c = (3 : Int32) from n 3 (by decide)), if_neg (show ¬ c = (4 : Int32) from n 4 (by decide)), if_neg (show ¬ c = (5 : Int32) from n 5 (by decide))]
theorem e15 : (((1 : Int32) <<< (nI 4 &&& 31)) - 1) = 15 := by decide
theorem Mf_both (ask : Int32) (ha : ask &&& ((15 : Int32) ^^^ (-1 : Int32)) = 0) {m : Nat} (h1 : 1 ≤ m) (h40 : m ≤ 40) (c : Int32) : ∃ M1 r M2, f_X6_run 59999 114 14 ask (nI m) Mf = some M1 ∧ FrS Mf M1 ∧ f_X6_tell 114 c M1 = some r ∧ f_X10_searchedBy 59999 120 ask (nI m) c M1 = some (r, M2) := by
  obtain ⟨M1, e1, gq, cm, f⟩ := Mf_run ask h1 h40
  have p1 := f.mr (Mf_RV false)
  rcases out_in (N := 6) (by decide) c with h | ⟨w, hw, rfl⟩
  · refine ⟨M1, -1, M1, e1, f, tell_out h, ?_⟩
    have i1 : f_X10_isIn (nI m) (1 : Int32) (40 : Int32) M1 = some 1 := is_in3 (L := 1) (N := 40) (by decide) h1 h40
    rw [f_X10_searchedBy, rs_f p1.1, f_all p1 Sf_20.1, obd_s, e15, if_pos ha, i1, obd_s, if_neg ne10, out_is h (lt_of (by decide)), obd_s, if_pos rfl]
  · obtain ⟨M2, e2⟩ := p1.sby (n := 59999) (w := w) (Sf_SK h40) h1 Sf_GS (by rw [e15]; exact ha) hw (by decide)
    exact ⟨M1, _, M2, e1, f, f_tellE cm (bfq_dn _ _ _ _) hw, e2⟩
theorem Mf_tl {M1 : Mem} (f : FrS Mf M1) : isO M1 9 0 ∧ mR M1 0 5 = 114 ∧ isO M1 6 114 ∧ isO Mf 2 14 ∧ isO M1 10 120 :=
  ⟨f.io (by decide) (io_f (by decide) (by decide)), by rw [f.2.2.1 0 5 (by decide) (by decide) (by decide)]; exact fR05, f.io (by decide) Mf_SX.1, io_f (by decide) (by decide), f.io (by decide) Mf_10⟩
theorem op42 (a b c : Int32) : E (f_X9_searchedBy 59999 0 a b c Mf) (fun M => f_X10_searchedBy 59999 120 a b c M) = true := by
  have i0 : isO Mf 9 0 := io_f (by decide) (by decide)
  have i1 : isO Mf 7 1 := io_f (by decide) (by decide)
  by_cases ha : a &&& ((15 : Int32) ^^^ (-1 : Int32)) = 0
  · rcases rng3 (L := 1) (N := 40) (by decide) (by decide) b with h | ⟨m, h1, h40, rfl⟩
    · refine E_mm (r := -1) (M1 := Mf) (M2 := Mf) Mf_10 ?_ ?_
      · rw [f_X9_searchedBy, chk_t i0, fR00, bnd_e, chk_t i1, f_X7_isSetOfNodes, chk_t i1, an7, obd_s, if_pos ha, obd_s, if_neg ne10]
        by_cases q : b < 1
        · rw [if_pos q]
        · rw [if_neg q, if_neg (Int32.not_le.mpr (lt_of (y := 40) (N := 41) (by decide) b (h.resolve_left q)))]
      · rw [f_X10_searchedBy, chk_t Mf_10, all10, obd_s, if_pos ha, show (40 : Int32) = nI 40 from rfl, show (1 : Int32) = nI 1 from rfl, is_out3 (by decide) h, obd_s, if_pos rfl]
    · obtain ⟨M1, r, M2, e1, f, et, e2⟩ := Mf_both a ha h1 h40 c
      obtain ⟨j0, j5, j114, i14, j120⟩ := Mf_tl f
      refine E_mm j120 (M1 := M1) (M2 := M2) (r := r) ?_ e2
      rw [f_X9_searchedBy, chk_t i0, fR00, bnd_e, chk_t i1, f_X7_isSetOfNodes, chk_t i1, an7, obd_s, if_pos ha, obd_s, if_neg ne10, if_neg (show ¬ nI m < (1 : Int32) from nI_nl (a := m) (b := 1) h1 (by omega)), if_pos (show nI m ≤ (40 : Int32) from nI_le (a := m) (b := 40) h40 (by decide)), fR05, bnd_e, chk_t Mf_SX.1, fR02, bnd_e, chk_t i14, e1, obd_s, chk_t j0, j5, bnd_e, chk_t j114, et, obd_s]
  · refine E_mm (r := -1) (M1 := Mf) (M2 := Mf) Mf_10 ?_ ?_
    · rw [f_X9_searchedBy, chk_t i0, fR00, bnd_e, chk_t i1, f_X7_isSetOfNodes, chk_t i1, an7, obd_s, if_neg ha, obd_s, if_pos rfl]
    · rw [f_X10_searchedBy, chk_t Mf_10, all10, obd_s, if_neg ha]
theorem op41 (a b : Int32) : E (f_X9_searched 59999 0 a b Mf) (fun M => f_X10_searched 59999 120 a b M) = true := by
  have i0 : isO Mf 9 0 := io_f (by decide) (by decide)
  have ha : (0 : Int32) &&& ((15 : Int32) ^^^ (-1 : Int32)) = 0 := by decide
  rcases rng3 (L := 1) (N := 40) (by decide) (by decide) a with h | ⟨m, h1, h40, rfl⟩
  · refine E_mm (r := -1) (M1 := Mf) (M2 := Mf) Mf_10 ?_ ?_
    · rw [f_X9_searched]
      by_cases q : a < 1
      · rw [if_pos q]
      · rw [if_neg q, if_neg (Int32.not_le.mpr (lt_of (y := 40) (N := 41) (by decide) a (h.resolve_left q)))]
    · rw [f_X10_searched, chk_t Mf_10, f_X10_searchedBy, chk_t Mf_10, all10, obd_s, if_pos ha, show (40 : Int32) = nI 40 from rfl, show (1 : Int32) = nI 1 from rfl, is_out3 (by decide) h, obd_s, if_pos rfl, obd2_s]
  · obtain ⟨M1, r, M2, e1, f, et, e2⟩ := Mf_both 0 ha h1 h40 b
    obtain ⟨j0, j5, j114, i14, j120⟩ := Mf_tl f
    refine E_mm j120 (M1 := M1) (M2 := M2) (r := r) ?_ ?_
    · rw [f_X9_searched, if_neg (show ¬ nI m < (1 : Int32) from nI_nl (a := m) (b := 1) h1 (by omega)), if_pos (show nI m ≤ (40 : Int32) from nI_le (a := m) (b := 40) h40 (by decide)), chk_t i0, fR05, bnd_e, chk_t Mf_SX.1, fR02, bnd_e, chk_t i14, e1, obd_s, chk_t j0, j5, bnd_e, chk_t j114, et, obd_s]
    · rw [f_X10_searched, chk_t j120, e2, obd2_s]
