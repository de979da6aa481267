/-! ===== one call of the law, for every call ===== -/
theorem WI.h9 {M : Mem} {i : Nat} (h : WI i M) : isO M 9 0 := by
  obtain ⟨N, A, Q, S, w⟩ := h
  obtain ⟨X, Y, L, p, sb, xg, xr⟩ := w.1
  exact xg.1
section
variable {M : Mem} {i n L : Nat} {xs : Nat → Int32} {v3 : Int32}
theorem lb_0 (h : WI i M) (hi : i ≤ 511) (hn : 100000 ≤ n) (b1 : inB (v3 + (1 : Int32)) L) (b2 : inB (v3 + (2 : Int32)) L) (b3 : inB (v3 + (3 : Int32)) L) : ∃ M', WI (i + 1) M' ∧ (
    chk (inB (v3 + (1 : Int32)) L) <|
    chk (isO M 9 0) <|
    obd2 (f_X9_grid n 0 (xs ((v3 + (1 : Int32))).toNatClampNeg) M) fun r11 M12 =>
    chk (inB (v3 + (1 : Int32)) L) <|
    chk (isO M12 10 120) <|
    obd2 (f_X10_grid n 120 (xs ((v3 + (1 : Int32))).toNatClampNeg) M12) fun r16 M17 =>
    bnd (v3 + (4 : Int32)) fun x18 =>
    f_L2_law_18 L xs n 0 120 x18 M17) = f_L2_law_18 L xs n 0 120 (v3 + (4 : Int32)) M' := by
  obtain ⟨r, M1, M2, e1, e2, e3, e4⟩ := op0 h (xs ((v3 + (1 : Int32))).toNatClampNeg) hn
  have e3 : f_X10_grid n 120 (xs ((v3 + (1 : Int32))).toNatClampNeg) M1 = some (r, M2) := e3
  exact ⟨M2, e4, by rw [chk_t b1, chk_t h.h9, e1, obd2_s, chk_t b1, chk_t e2, e3, obd2_s, bnd_e]⟩
theorem lb_1 (h : WI i M) (hi : i ≤ 511) (hn : 100000 ≤ n) (b1 : inB (v3 + (1 : Int32)) L) (b2 : inB (v3 + (2 : Int32)) L) (b3 : inB (v3 + (3 : Int32)) L) : ∃ M', WI (i + 1) M' ∧ (
    chk (inB (v3 + (1 : Int32)) L) <|
    chk (isO M 9 0) <|
    obd2 (f_X9_plane n 0 (xs ((v3 + (1 : Int32))).toNatClampNeg) M) fun r25 M26 =>
    chk (inB (v3 + (1 : Int32)) L) <|
    chk (isO M26 10 120) <|
    obd2 (f_X10_plane n 120 (xs ((v3 + (1 : Int32))).toNatClampNeg) M26) fun r30 M31 =>
    bnd (v3 + (4 : Int32)) fun x32 =>
    f_L2_law_18 L xs n 0 120 x32 M31) = f_L2_law_18 L xs n 0 120 (v3 + (4 : Int32)) M' := by
  obtain ⟨r, M1, M2, e1, e2, e3, e4⟩ := op1 h (xs ((v3 + (1 : Int32))).toNatClampNeg) hn
  have e3 : f_X10_plane n 120 (xs ((v3 + (1 : Int32))).toNatClampNeg) M1 = some (r, M2) := e3
  exact ⟨M2, e4, by rw [chk_t b1, chk_t h.h9, e1, obd2_s, chk_t b1, chk_t e2, e3, obd2_s, bnd_e]⟩
theorem lb_2 (h : WI i M) (hi : i ≤ 511) (hn : 100000 ≤ n) (b1 : inB (v3 + (1 : Int32)) L) (b2 : inB (v3 + (2 : Int32)) L) (b3 : inB (v3 + (3 : Int32)) L) : ∃ M', WI (i + 1) M' ∧ (
    chk (inB (v3 + (1 : Int32)) L) <|
    chk (isO M 9 0) <|
    obd2 (f_X9_filled n 0 (xs ((v3 + (1 : Int32))).toNatClampNeg) M) fun r39 M40 =>
    chk (inB (v3 + (1 : Int32)) L) <|
    chk (isO M40 10 120) <|
    obd2 (f_X10_filled n 120 (xs ((v3 + (1 : Int32))).toNatClampNeg) M40) fun r44 M45 =>
    bnd (v3 + (4 : Int32)) fun x46 =>
    f_L2_law_18 L xs n 0 120 x46 M45) = f_L2_law_18 L xs n 0 120 (v3 + (4 : Int32)) M' := by
  obtain ⟨r, M1, M2, e1, e2, e3, e4⟩ := op2 h (xs ((v3 + (1 : Int32))).toNatClampNeg) hn
  have e3 : f_X10_filled n 120 (xs ((v3 + (1 : Int32))).toNatClampNeg) M1 = some (r, M2) := e3
  exact ⟨M2, e4, by rw [chk_t b1, chk_t h.h9, e1, obd2_s, chk_t b1, chk_t e2, e3, obd2_s, bnd_e]⟩
theorem lb_3 (h : WI i M) (hi : i ≤ 511) (hn : 100000 ≤ n) (b1 : inB (v3 + (1 : Int32)) L) (b2 : inB (v3 + (2 : Int32)) L) (b3 : inB (v3 + (3 : Int32)) L) : ∃ M', WI (i + 1) M' ∧ (
    chk (inB (v3 + (1 : Int32)) L) <|
    chk (isO M 9 0) <|
    obd2 (f_X9_majority n 0 (xs ((v3 + (1 : Int32))).toNatClampNeg) M) fun r53 M54 =>
    chk (inB (v3 + (1 : Int32)) L) <|
    chk (isO M54 10 120) <|
    obd2 (f_X10_majority n 120 (xs ((v3 + (1 : Int32))).toNatClampNeg) M54) fun r58 M59 =>
    bnd (v3 + (4 : Int32)) fun x60 =>
    f_L2_law_18 L xs n 0 120 x60 M59) = f_L2_law_18 L xs n 0 120 (v3 + (4 : Int32)) M' := by
  obtain ⟨r, M1, M2, e1, e2, e3, e4⟩ := op3 h (xs ((v3 + (1 : Int32))).toNatClampNeg) hn
  have e3 : f_X10_majority n 120 (xs ((v3 + (1 : Int32))).toNatClampNeg) M1 = some (r, M2) := e3
  exact ⟨M2, e4, by rw [chk_t b1, chk_t h.h9, e1, obd2_s, chk_t b1, chk_t e2, e3, obd2_s, bnd_e]⟩
theorem lb_4 (h : WI i M) (hi : i ≤ 511) (hn : 100000 ≤ n) (b1 : inB (v3 + (1 : Int32)) L) (b2 : inB (v3 + (2 : Int32)) L) (b3 : inB (v3 + (3 : Int32)) L) : ∃ M', WI (i + 1) M' ∧ (
    chk (inB (v3 + (1 : Int32)) L) <|
    chk (isO M 9 0) <|
    obd2 (f_X9_wheel n 0 (xs ((v3 + (1 : Int32))).toNatClampNeg) M) fun r67 M68 =>
    chk (inB (v3 + (1 : Int32)) L) <|
    chk (isO M68 10 120) <|
    obd2 (f_X10_wheel n 120 (xs ((v3 + (1 : Int32))).toNatClampNeg) M68) fun r72 M73 =>
    bnd (v3 + (4 : Int32)) fun x74 =>
    f_L2_law_18 L xs n 0 120 x74 M73) = f_L2_law_18 L xs n 0 120 (v3 + (4 : Int32)) M' := by
  obtain ⟨r, M1, M2, e1, e2, e3, e4⟩ := op4 h (xs ((v3 + (1 : Int32))).toNatClampNeg) hn
  have e3 : f_X10_wheel n 120 (xs ((v3 + (1 : Int32))).toNatClampNeg) M1 = some (r, M2) := e3
  exact ⟨M2, e4, by rw [chk_t b1, chk_t h.h9, e1, obd2_s, chk_t b1, chk_t e2, e3, obd2_s, bnd_e]⟩
theorem lb_5 (h : WI i M) (hi : i ≤ 511) (hn : 100000 ≤ n) (b1 : inB (v3 + (1 : Int32)) L) (b2 : inB (v3 + (2 : Int32)) L) (b3 : inB (v3 + (3 : Int32)) L) : ∃ M', WI (i + 1) M' ∧ (
    chk (inB (v3 + (1 : Int32)) L) <|
    chk (isO M 9 0) <|
    obd2 (f_X9_tree n 0 (xs ((v3 + (1 : Int32))).toNatClampNeg) M) fun r81 M82 =>
    chk (inB (v3 + (1 : Int32)) L) <|
    chk (isO M82 10 120) <|
    obd2 (f_X10_tree n 120 (xs ((v3 + (1 : Int32))).toNatClampNeg) M82) fun r86 M87 =>
    bnd (v3 + (4 : Int32)) fun x88 =>
    f_L2_law_18 L xs n 0 120 x88 M87) = f_L2_law_18 L xs n 0 120 (v3 + (4 : Int32)) M' := by
  obtain ⟨r, M1, M2, e1, e2, e3, e4⟩ := op5 h (xs ((v3 + (1 : Int32))).toNatClampNeg) hn
  have e3 : f_X10_tree n 120 (xs ((v3 + (1 : Int32))).toNatClampNeg) M1 = some (r, M2) := e3
  exact ⟨M2, e4, by rw [chk_t b1, chk_t h.h9, e1, obd2_s, chk_t b1, chk_t e2, e3, obd2_s, bnd_e]⟩
theorem lb_6 (h : WI i M) (hi : i ≤ 511) (hn : 100000 ≤ n) (b1 : inB (v3 + (1 : Int32)) L) (b2 : inB (v3 + (2 : Int32)) L) (b3 : inB (v3 + (3 : Int32)) L) : ∃ M', WI (i + 1) M' ∧ (
    chk (inB (v3 + (1 : Int32)) L) <|
    chk (inB (v3 + (2 : Int32)) L) <|
    chk (isO M 9 0) <|
    obd2 (f_X9_within n 0 (xs ((v3 + (1 : Int32))).toNatClampNeg) (xs ((v3 + (2 : Int32))).toNatClampNeg) M) fun r96 M97 =>
    chk (inB (v3 + (1 : Int32)) L) <|
    chk (inB (v3 + (2 : Int32)) L) <|
    chk (isO M97 10 120) <|
    obd2 (f_X10_within n 120 (xs ((v3 + (1 : Int32))).toNatClampNeg) (xs ((v3 + (2 : Int32))).toNatClampNeg) M97) fun r102 M103 =>
    if r96 = r102 then (
      bnd (v3 + (4 : Int32)) fun x106 =>
      f_L2_law_18 L xs n 0 120 x106 M103
      ) else (
      some ((0 : Int32), M103)
      )) = f_L2_law_18 L xs n 0 120 (v3 + (4 : Int32)) M' := by
  obtain ⟨r, M1, M2, e1, e2, e3, e4⟩ := op6 h (xs ((v3 + (1 : Int32))).toNatClampNeg) (xs ((v3 + (2 : Int32))).toNatClampNeg) hn
  have e3 : f_X10_within n 120 (xs ((v3 + (1 : Int32))).toNatClampNeg) (xs ((v3 + (2 : Int32))).toNatClampNeg) M1 = some (r, M2) := e3
  exact ⟨M2, e4, by rw [chk_t b1, chk_t b2, chk_t h.h9, e1, obd2_s, chk_t b1, chk_t b2, chk_t e2, e3, obd2_s, if_pos rfl, bnd_e]⟩
theorem lb_7 (h : WI i M) (hi : i ≤ 511) (hn : 100000 ≤ n) (b1 : inB (v3 + (1 : Int32)) L) (b2 : inB (v3 + (2 : Int32)) L) (b3 : inB (v3 + (3 : Int32)) L) : ∃ M', WI (i + 1) M' ∧ (
    chk (inB (v3 + (1 : Int32)) L) <|
    chk (inB (v3 + (2 : Int32)) L) <|
    chk (isO M 9 0) <|
    obd2 (f_X9_base n 0 (xs ((v3 + (1 : Int32))).toNatClampNeg) (xs ((v3 + (2 : Int32))).toNatClampNeg) M) fun r114 M115 =>
    chk (inB (v3 + (1 : Int32)) L) <|
    chk (inB (v3 + (2 : Int32)) L) <|
    chk (isO M115 10 120) <|
    obd2 (f_X10_base n 120 (xs ((v3 + (1 : Int32))).toNatClampNeg) (xs ((v3 + (2 : Int32))).toNatClampNeg) M115) fun r120 M121 =>
    bnd (v3 + (4 : Int32)) fun x122 =>
    f_L2_law_18 L xs n 0 120 x122 M121) = f_L2_law_18 L xs n 0 120 (v3 + (4 : Int32)) M' := by
  obtain ⟨r, M1, M2, e1, e2, e3, e4⟩ := op7 h (xs ((v3 + (1 : Int32))).toNatClampNeg) (xs ((v3 + (2 : Int32))).toNatClampNeg) hn
  have e3 : f_X10_base n 120 (xs ((v3 + (1 : Int32))).toNatClampNeg) (xs ((v3 + (2 : Int32))).toNatClampNeg) M1 = some (r, M2) := e3
  exact ⟨M2, e4, by rw [chk_t b1, chk_t b2, chk_t h.h9, e1, obd2_s, chk_t b1, chk_t b2, chk_t e2, e3, obd2_s, bnd_e]⟩
theorem lb_8 (h : WI i M) (hi : i ≤ 511) (hn : 100000 ≤ n) (b1 : inB (v3 + (1 : Int32)) L) (b2 : inB (v3 + (2 : Int32)) L) (b3 : inB (v3 + (3 : Int32)) L) : ∃ M', WI (i + 1) M' ∧ (
    chk (inB (v3 + (1 : Int32)) L) <|
    chk (inB (v3 + (2 : Int32)) L) <|
    chk (isO M 9 0) <|
    obd (f_X9_quorum 0 (xs ((v3 + (1 : Int32))).toNatClampNeg) (xs ((v3 + (2 : Int32))).toNatClampNeg) M) fun r130 =>
    chk (inB (v3 + (1 : Int32)) L) <|
    chk (inB (v3 + (2 : Int32)) L) <|
    chk (isO M 10 120) <|
    obd2 (f_X10_quorum n 120 (xs ((v3 + (1 : Int32))).toNatClampNeg) (xs ((v3 + (2 : Int32))).toNatClampNeg) M) fun r135 M136 =>
    bnd (v3 + (4 : Int32)) fun x137 =>
    f_L2_law_18 L xs n 0 120 x137 M136) = f_L2_law_18 L xs n 0 120 (v3 + (4 : Int32)) M' := by
  obtain ⟨N, A, Q, S, w⟩ := id h
  obtain ⟨r, r', M2, e1, e2, e3⟩ := op8 h (xs ((v3 + (1 : Int32))).toNatClampNeg) (xs ((v3 + (2 : Int32))).toNatClampNeg) hn
  exact ⟨M2, e3, by rw [chk_t b1, chk_t b2, chk_t h.h9, e1, obd_s, chk_t b1, chk_t b2, rs_f w.2.1.1, e2, obd2_s, bnd_e]⟩
theorem lb_9 (h : WI i M) (hi : i ≤ 511) (hn : 100000 ≤ n) (b1 : inB (v3 + (1 : Int32)) L) (b2 : inB (v3 + (2 : Int32)) L) (b3 : inB (v3 + (3 : Int32)) L) : ∃ M', WI (i + 1) M' ∧ (
    chk (inB (v3 + (1 : Int32)) L) <|
    chk (inB (v3 + (2 : Int32)) L) <|
    chk (isO M 9 0) <|
    obd (f_X9_meeting 0 (xs ((v3 + (1 : Int32))).toNatClampNeg) (xs ((v3 + (2 : Int32))).toNatClampNeg) M) fun r145 =>
    chk (inB (v3 + (1 : Int32)) L) <|
    chk (inB (v3 + (2 : Int32)) L) <|
    chk (isO M 10 120) <|
    obd (f_X10_meeting n 120 (xs ((v3 + (1 : Int32))).toNatClampNeg) (xs ((v3 + (2 : Int32))).toNatClampNeg) M) fun r150 =>
    bnd (v3 + (4 : Int32)) fun x151 =>
    f_L2_law_18 L xs n 0 120 x151 M) = f_L2_law_18 L xs n 0 120 (v3 + (4 : Int32)) M' := by
  obtain ⟨N, A, Q, S, w⟩ := id h
  have hN := w.2.2.2.1.n
  have h2 := w.2.2.2.1.n2
  have h16 := w.2.2.2.1.n16
  have hB := w.2.2.2.1.bi
  obtain ⟨r, e1⟩ := w.c9 (xs ((v3 + (1 : Int32))).toNatClampNeg) (xs ((v3 + (2 : Int32))).toNatClampNeg)
  obtain ⟨x, e2⟩ := w.2.1.r9 hN h2 h16 (xs ((v3 + (1 : Int32))).toNatClampNeg) (xs ((v3 + (2 : Int32))).toNatClampNeg) (n := n) (by omega)
  exact ⟨M, w.mo, by rw [chk_t b1, chk_t b2, chk_t h.h9, e1, obd_s, chk_t b1, chk_t b2, rs_f w.2.1.1, e2, obd_s, bnd_e]⟩
theorem lb_10 (h : WI i M) (hi : i ≤ 511) (hn : 100000 ≤ n) (b1 : inB (v3 + (1 : Int32)) L) (b2 : inB (v3 + (2 : Int32)) L) (b3 : inB (v3 + (3 : Int32)) L) : ∃ M', WI (i + 1) M' ∧ (
    chk (isO M 9 0) <|
    obd (f_X9_apart n 0 M) fun r157 =>
    chk (isO M 10 120) <|
    obd (f_X10_apart n 120 M) fun r160 =>
    bnd (v3 + (4 : Int32)) fun x161 =>
    f_L2_law_18 L xs n 0 120 x161 M) = f_L2_law_18 L xs n 0 120 (v3 + (4 : Int32)) M' := by
  obtain ⟨N, A, Q, S, w⟩ := id h
  obtain ⟨r, e1, e2⟩ := op10 h hn
  exact ⟨M, w.mo, by rw [chk_t h.h9, e1, obd_s, rs_f w.2.1.1, e2, obd_s, bnd_e]⟩
theorem lb_11 (h : WI i M) (hi : i ≤ 511) (hn : 100000 ≤ n) (b1 : inB (v3 + (1 : Int32)) L) (b2 : inB (v3 + (2 : Int32)) L) (b3 : inB (v3 + (3 : Int32)) L) : ∃ M', WI (i + 1) M' ∧ (
    chk (inB (v3 + (1 : Int32)) L) <|
    chk (isO M 9 0) <|
    obd (f_X9_load n 0 (xs ((v3 + (1 : Int32))).toNatClampNeg) M) fun r168 =>
    chk (inB (v3 + (1 : Int32)) L) <|
    chk (isO M 10 120) <|
    obd (f_X10_load n 120 (xs ((v3 + (1 : Int32))).toNatClampNeg) M) fun r172 =>
    bnd (v3 + (4 : Int32)) fun x173 =>
    f_L2_law_18 L xs n 0 120 x173 M) = f_L2_law_18 L xs n 0 120 (v3 + (4 : Int32)) M' := by
  obtain ⟨N, A, Q, S, w⟩ := id h
  have hN := w.2.2.2.1.n
  have h2 := w.2.2.2.1.n2
  have h16 := w.2.2.2.1.n16
  have hB := w.2.2.2.1.bi
  obtain ⟨r, e1⟩ := w.c11 (xs ((v3 + (1 : Int32))).toNatClampNeg) (n := n) (by omega)
  obtain ⟨x, e2⟩ := w.2.1.r11 hN h2 h16 (xs ((v3 + (1 : Int32))).toNatClampNeg) (n := n) (by omega)
  exact ⟨M, w.mo, by rw [chk_t b1, chk_t h.h9, e1, obd_s, chk_t b1, rs_f w.2.1.1, e2, obd_s, bnd_e]⟩
theorem lb_12 (h : WI i M) (hi : i ≤ 511) (hn : 100000 ≤ n) (b1 : inB (v3 + (1 : Int32)) L) (b2 : inB (v3 + (2 : Int32)) L) (b3 : inB (v3 + (3 : Int32)) L) : ∃ M', WI (i + 1) M' ∧ (
    chk (inB (v3 + (1 : Int32)) L) <|
    chk (isO M 9 0) <|
    obd2 (f_X9_stops n 0 (xs ((v3 + (1 : Int32))).toNatClampNeg) M) fun r180 M181 =>
    chk (inB (v3 + (1 : Int32)) L) <|
    chk (isO M181 10 120) <|
    obd2 (f_X10_stops n 120 (xs ((v3 + (1 : Int32))).toNatClampNeg) M181) fun r185 M186 =>
    bnd (v3 + (4 : Int32)) fun x187 =>
    f_L2_law_18 L xs n 0 120 x187 M186) = f_L2_law_18 L xs n 0 120 (v3 + (4 : Int32)) M' := by
  obtain ⟨r, r', M1, M2, e1, e2, e3, e4⟩ := op12 h (xs ((v3 + (1 : Int32))).toNatClampNeg) hn
  have e3 : f_X10_stops n 120 (xs ((v3 + (1 : Int32))).toNatClampNeg) M1 = some (r', M2) := e3
  exact ⟨M2, e4, by rw [chk_t b1, chk_t h.h9, e1, obd2_s, chk_t b1, chk_t e2, e3, obd2_s, bnd_e]⟩
theorem lb_13 (h : WI i M) (hi : i ≤ 511) (hn : 100000 ≤ n) (b1 : inB (v3 + (1 : Int32)) L) (b2 : inB (v3 + (2 : Int32)) L) (b3 : inB (v3 + (3 : Int32)) L) : ∃ M', WI (i + 1) M' ∧ (
    chk (inB (v3 + (1 : Int32)) L) <|
    chk (isO M 9 0) <|
    obd2 (f_X9_weakest n 0 (xs ((v3 + (1 : Int32))).toNatClampNeg) M) fun r194 M195 =>
    chk (inB (v3 + (1 : Int32)) L) <|
    chk (isO M195 10 120) <|
    obd2 (f_X10_weakest n 120 (xs ((v3 + (1 : Int32))).toNatClampNeg) M195) fun r199 M200 =>
    bnd (v3 + (4 : Int32)) fun x201 =>
    f_L2_law_18 L xs n 0 120 x201 M200) = f_L2_law_18 L xs n 0 120 (v3 + (4 : Int32)) M' := by
  obtain ⟨r, r', M1, M2, e1, e2, e3, e4⟩ := op13 h (xs ((v3 + (1 : Int32))).toNatClampNeg) hn
  have e3 : f_X10_weakest n 120 (xs ((v3 + (1 : Int32))).toNatClampNeg) M1 = some (r', M2) := e3
  exact ⟨M2, e4, by rw [chk_t b1, chk_t h.h9, e1, obd2_s, chk_t b1, chk_t e2, e3, obd2_s, bnd_e]⟩
theorem lb_14 (h : WI i M) (hi : i ≤ 511) (hn : 100000 ≤ n) (b1 : inB (v3 + (1 : Int32)) L) (b2 : inB (v3 + (2 : Int32)) L) (b3 : inB (v3 + (3 : Int32)) L) : ∃ M', WI (i + 1) M' ∧ (
    chk (isO M 9 0) <|
    obd (f_X9_needless n 0 M) fun r207 =>
    chk (isO M 10 120) <|
    obd (f_X10_needless n 120 M) fun r210 =>
    bnd (v3 + (4 : Int32)) fun x211 =>
    f_L2_law_18 L xs n 0 120 x211 M) = f_L2_law_18 L xs n 0 120 (v3 + (4 : Int32)) M' := by
  obtain ⟨N, A, Q, S, w⟩ := id h
  have hN := w.2.2.2.1.n
  have h2 := w.2.2.2.1.n2
  have h16 := w.2.2.2.1.n16
  have hB := w.2.2.2.1.bi
  obtain ⟨r, e1⟩ := w.c14 (n := n) (by omega)
  obtain ⟨x, e2⟩ := w.2.1.r14 hN h16 (n := n) (by omega)
  exact ⟨M, w.mo, by rw [chk_t h.h9, e1, obd_s, rs_f w.2.1.1, e2, obd_s, bnd_e]⟩
theorem lb_15 (h : WI i M) (hi : i ≤ 511) (hn : 100000 ≤ n) (b1 : inB (v3 + (1 : Int32)) L) (b2 : inB (v3 + (2 : Int32)) L) (b3 : inB (v3 + (3 : Int32)) L) : ∃ M', WI (i + 1) M' ∧ (
    chk (inB (v3 + (1 : Int32)) L) <|
    chk (isO M 9 0) <|
    obd2 (f_X9_chance n 0 (xs ((v3 + (1 : Int32))).toNatClampNeg) M) fun r218 M219 =>
    chk (inB (v3 + (1 : Int32)) L) <|
    chk (isO M219 10 120) <|
    obd2 (f_X10_chance n 120 (xs ((v3 + (1 : Int32))).toNatClampNeg) M219) fun r223 M224 =>
    bnd (v3 + (4 : Int32)) fun x225 =>
    f_L2_law_18 L xs n 0 120 x225 M224) = f_L2_law_18 L xs n 0 120 (v3 + (4 : Int32)) M' := by
  obtain ⟨r, r', M1, M2, e1, e2, e3, e4⟩ := op15 h (xs ((v3 + (1 : Int32))).toNatClampNeg) hn
  have e3 : f_X10_chance n 120 (xs ((v3 + (1 : Int32))).toNatClampNeg) M1 = some (r', M2) := e3
  exact ⟨M2, e4, by rw [chk_t b1, chk_t h.h9, e1, obd2_s, chk_t b1, chk_t e2, e3, obd2_s, bnd_e]⟩
theorem lb_16 (h : WI i M) (hi : i ≤ 511) (hn : 100000 ≤ n) (b1 : inB (v3 + (1 : Int32)) L) (b2 : inB (v3 + (2 : Int32)) L) (b3 : inB (v3 + (3 : Int32)) L) : ∃ M', WI (i + 1) M' ∧ (
    chk (inB (v3 + (1 : Int32)) L) <|
    chk (inB (v3 + (2 : Int32)) L) <|
    chk (isO M 9 0) <|
    obd2 (f_X9_chanceOf n 0 (xs ((v3 + (1 : Int32))).toNatClampNeg) (xs ((v3 + (2 : Int32))).toNatClampNeg) M) fun r233 M234 =>
    chk (inB (v3 + (1 : Int32)) L) <|
    chk (inB (v3 + (2 : Int32)) L) <|
    chk (isO M234 10 120) <|
    obd2 (f_X10_chanceOf n 120 (xs ((v3 + (1 : Int32))).toNatClampNeg) (xs ((v3 + (2 : Int32))).toNatClampNeg) M234) fun r239 M240 =>
    bnd (v3 + (4 : Int32)) fun x241 =>
    f_L2_law_18 L xs n 0 120 x241 M240) = f_L2_law_18 L xs n 0 120 (v3 + (4 : Int32)) M' := by
  obtain ⟨r, r', M1, M2, e1, e2, e3, e4⟩ := op16 h (xs ((v3 + (1 : Int32))).toNatClampNeg) (xs ((v3 + (2 : Int32))).toNatClampNeg) hn
  have e3 : f_X10_chanceOf n 120 (xs ((v3 + (1 : Int32))).toNatClampNeg) (xs ((v3 + (2 : Int32))).toNatClampNeg) M1 = some (r', M2) := e3
  exact ⟨M2, e4, by rw [chk_t b1, chk_t b2, chk_t h.h9, e1, obd2_s, chk_t b1, chk_t b2, chk_t e2, e3, obd2_s, bnd_e]⟩
theorem lb_17 (h : WI i M) (hi : i ≤ 511) (hn : 100000 ≤ n) (b1 : inB (v3 + (1 : Int32)) L) (b2 : inB (v3 + (2 : Int32)) L) (b3 : inB (v3 + (3 : Int32)) L) : ∃ M', WI (i + 1) M' ∧ (
    chk (inB (v3 + (1 : Int32)) L) <|
    chk (isO M 9 0) <|
    obd (f_X9_sizes n 0 (xs ((v3 + (1 : Int32))).toNatClampNeg) M) fun r248 =>
    chk (inB (v3 + (1 : Int32)) L) <|
    chk (isO M 10 120) <|
    obd (f_X10_sizes n 120 (xs ((v3 + (1 : Int32))).toNatClampNeg) M) fun r252 =>
    bnd (v3 + (4 : Int32)) fun x253 =>
    f_L2_law_18 L xs n 0 120 x253 M) = f_L2_law_18 L xs n 0 120 (v3 + (4 : Int32)) M' := by
  obtain ⟨N, A, Q, S, w⟩ := id h
  have hN := w.2.2.2.1.n
  have h2 := w.2.2.2.1.n2
  have h16 := w.2.2.2.1.n16
  have hB := w.2.2.2.1.bi
  obtain ⟨r, e1⟩ := w.c17 (xs ((v3 + (1 : Int32))).toNatClampNeg) (n := n) (by omega)
  obtain ⟨x, e2⟩ := w.2.1.r17 hN h16 hB (xs ((v3 + (1 : Int32))).toNatClampNeg) (n := n) (by omega)
  exact ⟨M, w.mo, by rw [chk_t b1, chk_t h.h9, e1, obd_s, chk_t b1, rs_f w.2.1.1, e2, obd_s, bnd_e]⟩
theorem lb_18 (h : WI i M) (hi : i ≤ 511) (hn : 100000 ≤ n) (b1 : inB (v3 + (1 : Int32)) L) (b2 : inB (v3 + (2 : Int32)) L) (b3 : inB (v3 + (3 : Int32)) L) : ∃ M', WI (i + 1) M' ∧ (
    chk (inB (v3 + (1 : Int32)) L) <|
    chk (isO M 9 0) <|
    obd2 (f_X9_pivotal n 0 (xs ((v3 + (1 : Int32))).toNatClampNeg) M) fun r260 M261 =>
    chk (inB (v3 + (1 : Int32)) L) <|
    chk (isO M261 10 120) <|
    obd (f_X10_pivotal n 120 (xs ((v3 + (1 : Int32))).toNatClampNeg) M261) fun r265 =>
    bnd (v3 + (4 : Int32)) fun x266 =>
    f_L2_law_18 L xs n 0 120 x266 M261) = f_L2_law_18 L xs n 0 120 (v3 + (4 : Int32)) M' := by
  obtain ⟨x, x', M1, e1, e2, e3, e4⟩ := op18 h (xs ((v3 + (1 : Int32))).toNatClampNeg) hn
  exact ⟨M1, e4, by rw [chk_t b1, chk_t h.h9, e1, obd2_s, chk_t b1, chk_t e2, e3, obd_s, bnd_e]⟩
theorem lb_19 (h : WI i M) (hi : i ≤ 511) (hn : 100000 ≤ n) (b1 : inB (v3 + (1 : Int32)) L) (b2 : inB (v3 + (2 : Int32)) L) (b3 : inB (v3 + (3 : Int32)) L) : ∃ M', WI (i + 1) M' ∧ (
    chk (isO M 9 0) <|
    obd (f_X9_fair n 0 M) fun r272 =>
    chk (isO M 10 120) <|
    obd (f_X10_fair n 120 M) fun r275 =>
    bnd (v3 + (4 : Int32)) fun x276 =>
    f_L2_law_18 L xs n 0 120 x276 M) = f_L2_law_18 L xs n 0 120 (v3 + (4 : Int32)) M' := by
  obtain ⟨N, A, Q, S, w⟩ := id h
  have hN := w.2.2.2.1.n
  have h2 := w.2.2.2.1.n2
  have h16 := w.2.2.2.1.n16
  have hB := w.2.2.2.1.bi
  obtain ⟨r, e1⟩ := w.c19 (n := n) (by omega)
  obtain ⟨x, e2⟩ := w.2.1.r19 hN h2 h16 hB (n := n) (by omega)
  exact ⟨M, w.mo, by rw [chk_t h.h9, e1, obd_s, rs_f w.2.1.1, e2, obd_s, bnd_e]⟩
theorem lb_20 (h : WI i M) (hi : i ≤ 511) (hn : 100000 ≤ n) (b1 : inB (v3 + (1 : Int32)) L) (b2 : inB (v3 + (2 : Int32)) L) (b3 : inB (v3 + (3 : Int32)) L) : ∃ M', WI (i + 1) M' ∧ (
    chk (isO M 9 0) <|
    obd2 (f_X9_better n 0 M) fun r282 M283 =>
    chk (isO M283 10 120) <|
    obd (f_X10_better n 120 M283) fun r286 =>
    bnd (v3 + (4 : Int32)) fun x287 =>
    f_L2_law_18 L xs n 0 120 x287 M283) = f_L2_law_18 L xs n 0 120 (v3 + (4 : Int32)) M' := by
  obtain ⟨x, x', M1, e1, e2, e3, e4⟩ := op20 h hn
  exact ⟨M1, e4, by rw [chk_t h.h9, e1, obd2_s, chk_t e2, e3, obd_s, bnd_e]⟩
theorem lb_21 (h : WI i M) (hi : i ≤ 511) (hn : 100000 ≤ n) (b1 : inB (v3 + (1 : Int32)) L) (b2 : inB (v3 + (2 : Int32)) L) (b3 : inB (v3 + (3 : Int32)) L) : ∃ M', WI (i + 1) M' ∧ (
    chk (inB (v3 + (1 : Int32)) L) <|
    chk (isO M 9 0) <|
    obd2 (f_X9_ask n 0 (xs ((v3 + (1 : Int32))).toNatClampNeg) M) fun r294 M295 =>
    chk (inB (v3 + (1 : Int32)) L) <|
    chk (isO M295 10 120) <|
    obd2 (f_X10_ask n 120 (xs ((v3 + (1 : Int32))).toNatClampNeg) M295) fun r299 M300 =>
    bnd (v3 + (4 : Int32)) fun x301 =>
    f_L2_law_18 L xs n 0 120 x301 M300) = f_L2_law_18 L xs n 0 120 (v3 + (4 : Int32)) M' := by
  obtain ⟨r, M1, M2, e1, e2, e3, e4⟩ := op21 h hi (xs ((v3 + (1 : Int32))).toNatClampNeg) hn
  have e3 : f_X10_ask n 120 (xs ((v3 + (1 : Int32))).toNatClampNeg) M1 = some (r, M2) := e3
  exact ⟨M2, e4, by rw [chk_t b1, chk_t h.h9, e1, obd2_s, chk_t b1, chk_t e2, e3, obd2_s, bnd_e]⟩
theorem lb_22 (h : WI i M) (hi : i ≤ 511) (hn : 100000 ≤ n) (b1 : inB (v3 + (1 : Int32)) L) (b2 : inB (v3 + (2 : Int32)) L) (b3 : inB (v3 + (3 : Int32)) L) : ∃ M', WI (i + 1) M' ∧ (
    chk (inB (v3 + (1 : Int32)) L) <|
    chk (isO M 9 0) <|
    obd2 (f_X9_leave n 0 (xs ((v3 + (1 : Int32))).toNatClampNeg) M) fun r308 M309 =>
    chk (inB (v3 + (1 : Int32)) L) <|
    chk (isO M309 10 120) <|
    obd2 (f_X10_leave n 120 (xs ((v3 + (1 : Int32))).toNatClampNeg) M309) fun r313 M314 =>
    bnd (v3 + (4 : Int32)) fun x315 =>
    f_L2_law_18 L xs n 0 120 x315 M314) = f_L2_law_18 L xs n 0 120 (v3 + (4 : Int32)) M' := by
  obtain ⟨r, M1, M2, e1, e2, e3, e4⟩ := op22 h hi (xs ((v3 + (1 : Int32))).toNatClampNeg) hn
  have e3 : f_X10_leave n 120 (xs ((v3 + (1 : Int32))).toNatClampNeg) M1 = some (r, M2) := e3
  exact ⟨M2, e4, by rw [chk_t b1, chk_t h.h9, e1, obd2_s, chk_t b1, chk_t e2, e3, obd2_s, bnd_e]⟩
theorem lb_23 (h : WI i M) (hi : i ≤ 511) (hn : 100000 ≤ n) (b1 : inB (v3 + (1 : Int32)) L) (b2 : inB (v3 + (2 : Int32)) L) (b3 : inB (v3 + (3 : Int32)) L) : ∃ M', WI (i + 1) M' ∧ (
    chk (inB (v3 + (1 : Int32)) L) <|
    chk (inB (v3 + (2 : Int32)) L) <|
    chk (isO M 9 0) <|
    obd2 (f_X9_bring n 0 (xs ((v3 + (1 : Int32))).toNatClampNeg) (xs ((v3 + (2 : Int32))).toNatClampNeg) M) fun r323 M324 =>
    chk (inB (v3 + (1 : Int32)) L) <|
    chk (inB (v3 + (2 : Int32)) L) <|
    chk (isO M324 10 120) <|
    obd2 (f_X10_bring n 120 (xs ((v3 + (1 : Int32))).toNatClampNeg) (xs ((v3 + (2 : Int32))).toNatClampNeg) M324) fun r329 M330 =>
    bnd (v3 + (4 : Int32)) fun x331 =>
    f_L2_law_18 L xs n 0 120 x331 M330) = f_L2_law_18 L xs n 0 120 (v3 + (4 : Int32)) M' := by
  obtain ⟨r, M1, M2, e1, e2, e3, e4⟩ := op23 h hi (xs ((v3 + (1 : Int32))).toNatClampNeg) (xs ((v3 + (2 : Int32))).toNatClampNeg) hn
  have e3 : f_X10_bring n 120 (xs ((v3 + (1 : Int32))).toNatClampNeg) (xs ((v3 + (2 : Int32))).toNatClampNeg) M1 = some (r, M2) := e3
  exact ⟨M2, e4, by rw [chk_t b1, chk_t b2, chk_t h.h9, e1, obd2_s, chk_t b1, chk_t b2, chk_t e2, e3, obd2_s, bnd_e]⟩
theorem lb_24 (h : WI i M) (hi : i ≤ 511) (hn : 100000 ≤ n) (b1 : inB (v3 + (1 : Int32)) L) (b2 : inB (v3 + (2 : Int32)) L) (b3 : inB (v3 + (3 : Int32)) L) : ∃ M', WI (i + 1) M' ∧ (
    chk (inB (v3 + (1 : Int32)) L) <|
    chk (isO M 9 0) <|
    obd2 (f_X9_withdraw n 0 (xs ((v3 + (1 : Int32))).toNatClampNeg) M) fun r338 M339 =>
    chk (inB (v3 + (1 : Int32)) L) <|
    chk (isO M339 10 120) <|
    obd2 (f_X10_withdraw n 120 (xs ((v3 + (1 : Int32))).toNatClampNeg) M339) fun r343 M344 =>
    bnd (v3 + (4 : Int32)) fun x345 =>
    f_L2_law_18 L xs n 0 120 x345 M344) = f_L2_law_18 L xs n 0 120 (v3 + (4 : Int32)) M' := by
  obtain ⟨r, M1, M2, e1, e2, e3, e4⟩ := op24 h hi (xs ((v3 + (1 : Int32))).toNatClampNeg) hn
  have e3 : f_X10_withdraw n 120 (xs ((v3 + (1 : Int32))).toNatClampNeg) M1 = some (r, M2) := e3
  exact ⟨M2, e4, by rw [chk_t b1, chk_t h.h9, e1, obd2_s, chk_t b1, chk_t e2, e3, obd2_s, bnd_e]⟩
theorem lb_25 (h : WI i M) (hi : i ≤ 511) (hn : 100000 ≤ n) (b1 : inB (v3 + (1 : Int32)) L) (b2 : inB (v3 + (2 : Int32)) L) (b3 : inB (v3 + (3 : Int32)) L) : ∃ M', WI (i + 1) M' ∧ (
    chk (inB (v3 + (1 : Int32)) L) <|
    chk (isO M 9 0) <|
    obd2 (f_X9_breakDown n 0 (xs ((v3 + (1 : Int32))).toNatClampNeg) M) fun r352 M353 =>
    chk (inB (v3 + (1 : Int32)) L) <|
    chk (isO M353 10 120) <|
    obd2 (f_X10_breakDown n 120 (xs ((v3 + (1 : Int32))).toNatClampNeg) M353) fun r357 M358 =>
    bnd (v3 + (4 : Int32)) fun x359 =>
    f_L2_law_18 L xs n 0 120 x359 M358) = f_L2_law_18 L xs n 0 120 (v3 + (4 : Int32)) M' := by
  obtain ⟨r, M1, M2, e1, e2, e3, e4⟩ := op25 h hi (xs ((v3 + (1 : Int32))).toNatClampNeg) hn
  have e3 : f_X10_breakDown n 120 (xs ((v3 + (1 : Int32))).toNatClampNeg) M1 = some (r, M2) := e3
  exact ⟨M2, e4, by rw [chk_t b1, chk_t h.h9, e1, obd2_s, chk_t b1, chk_t e2, e3, obd2_s, bnd_e]⟩
theorem lb_26 (h : WI i M) (hi : i ≤ 511) (hn : 100000 ≤ n) (b1 : inB (v3 + (1 : Int32)) L) (b2 : inB (v3 + (2 : Int32)) L) (b3 : inB (v3 + (3 : Int32)) L) : ∃ M', WI (i + 1) M' ∧ (
    chk (inB (v3 + (1 : Int32)) L) <|
    chk (isO M 9 0) <|
    obd2 (f_X9_mend n 0 (xs ((v3 + (1 : Int32))).toNatClampNeg) M) fun r366 M367 =>
    chk (inB (v3 + (1 : Int32)) L) <|
    chk (isO M367 10 120) <|
    obd2 (f_X10_mend n 120 (xs ((v3 + (1 : Int32))).toNatClampNeg) M367) fun r371 M372 =>
    bnd (v3 + (4 : Int32)) fun x373 =>
    f_L2_law_18 L xs n 0 120 x373 M372) = f_L2_law_18 L xs n 0 120 (v3 + (4 : Int32)) M' := by
  obtain ⟨r, M1, M2, e1, e2, e3, e4⟩ := op26 h hi (xs ((v3 + (1 : Int32))).toNatClampNeg) hn
  have e3 : f_X10_mend n 120 (xs ((v3 + (1 : Int32))).toNatClampNeg) M1 = some (r, M2) := e3
  exact ⟨M2, e4, by rw [chk_t b1, chk_t h.h9, e1, obd2_s, chk_t b1, chk_t e2, e3, obd2_s, bnd_e]⟩
theorem lb_27 (h : WI i M) (hi : i ≤ 511) (hn : 100000 ≤ n) (b1 : inB (v3 + (1 : Int32)) L) (b2 : inB (v3 + (2 : Int32)) L) (b3 : inB (v3 + (3 : Int32)) L) : ∃ M', WI (i + 1) M' ∧ (
    chk (inB (v3 + (1 : Int32)) L) <|
    chk (inB (v3 + (2 : Int32)) L) <|
    chk (isO M 9 0) <|
    obd (f_X9_node 0 (xs ((v3 + (1 : Int32))).toNatClampNeg) (xs ((v3 + (2 : Int32))).toNatClampNeg) M) fun r381 =>
    chk (inB (v3 + (1 : Int32)) L) <|
    chk (inB (v3 + (2 : Int32)) L) <|
    chk (isO M 10 120) <|
    obd (f_X10_node 120 (xs ((v3 + (1 : Int32))).toNatClampNeg) (xs ((v3 + (2 : Int32))).toNatClampNeg) M) fun r386 =>
    bnd (v3 + (4 : Int32)) fun x387 =>
    f_L2_law_18 L xs n 0 120 x387 M) = f_L2_law_18 L xs n 0 120 (v3 + (4 : Int32)) M' := by
  obtain ⟨N, A, Q, S, w⟩ := id h
  have hN := w.2.2.2.1.n
  have h2 := w.2.2.2.1.n2
  have h16 := w.2.2.2.1.n16
  have hB := w.2.2.2.1.bi
  obtain ⟨r, e1⟩ := w.c27 (xs ((v3 + (1 : Int32))).toNatClampNeg) (xs ((v3 + (2 : Int32))).toNatClampNeg)
  obtain ⟨x, e2⟩ := w.2.1.r27 hN h2 h16 (xs ((v3 + (1 : Int32))).toNatClampNeg) (xs ((v3 + (2 : Int32))).toNatClampNeg)
  exact ⟨M, w.mo, by rw [chk_t b1, chk_t b2, chk_t h.h9, e1, obd_s, chk_t b1, chk_t b2, rs_f w.2.1.1, e2, obd_s, bnd_e]⟩
theorem lb_28 (h : WI i M) (hi : i ≤ 511) (hn : 100000 ≤ n) (b1 : inB (v3 + (1 : Int32)) L) (b2 : inB (v3 + (2 : Int32)) L) (b3 : inB (v3 + (3 : Int32)) L) : ∃ M', WI (i + 1) M' ∧ (
    chk (inB (v3 + (1 : Int32)) L) <|
    chk (inB (v3 + (2 : Int32)) L) <|
    chk (isO M 9 0) <|
    obd (f_X9_arbiter 0 (xs ((v3 + (1 : Int32))).toNatClampNeg) (xs ((v3 + (2 : Int32))).toNatClampNeg) M) fun r395 =>
    chk (inB (v3 + (1 : Int32)) L) <|
    chk (inB (v3 + (2 : Int32)) L) <|
    chk (isO M 10 120) <|
    obd (f_X10_arbiter 120 (xs ((v3 + (1 : Int32))).toNatClampNeg) (xs ((v3 + (2 : Int32))).toNatClampNeg) M) fun r400 =>
    bnd (v3 + (4 : Int32)) fun x401 =>
    f_L2_law_18 L xs n 0 120 x401 M) = f_L2_law_18 L xs n 0 120 (v3 + (4 : Int32)) M' := by
  obtain ⟨N, A, Q, S, w⟩ := id h
  have hN := w.2.2.2.1.n
  have h2 := w.2.2.2.1.n2
  have h16 := w.2.2.2.1.n16
  have hB := w.2.2.2.1.bi
  obtain ⟨r, e1⟩ := w.c28 (xs ((v3 + (1 : Int32))).toNatClampNeg) (xs ((v3 + (2 : Int32))).toNatClampNeg)
  obtain ⟨x, e2⟩ := w.2.1.r28 hN h2 h16 (xs ((v3 + (1 : Int32))).toNatClampNeg) (xs ((v3 + (2 : Int32))).toNatClampNeg)
  exact ⟨M, w.mo, by rw [chk_t b1, chk_t b2, chk_t h.h9, e1, obd_s, chk_t b1, chk_t b2, rs_f w.2.1.1, e2, obd_s, bnd_e]⟩
theorem lb_29 (h : WI i M) (hi : i ≤ 511) (hn : 100000 ≤ n) (b1 : inB (v3 + (1 : Int32)) L) (b2 : inB (v3 + (2 : Int32)) L) (b3 : inB (v3 + (3 : Int32)) L) : ∃ M', WI (i + 1) M' ∧ (
    chk (inB (v3 + (1 : Int32)) L) <|
    chk (inB (v3 + (2 : Int32)) L) <|
    chk (inB (v3 + (3 : Int32)) L) <|
    chk (isO M 9 0) <|
    obd (f_X9_waiting n 0 (xs ((v3 + (1 : Int32))).toNatClampNeg) (xs ((v3 + (2 : Int32))).toNatClampNeg) (xs ((v3 + (3 : Int32))).toNatClampNeg) M) fun r410 =>
    chk (inB (v3 + (1 : Int32)) L) <|
    chk (inB (v3 + (2 : Int32)) L) <|
    chk (inB (v3 + (3 : Int32)) L) <|
    chk (isO M 10 120) <|
    obd (f_X10_waiting 120 (xs ((v3 + (1 : Int32))).toNatClampNeg) (xs ((v3 + (2 : Int32))).toNatClampNeg) (xs ((v3 + (3 : Int32))).toNatClampNeg) M) fun r416 =>
    bnd (v3 + (4 : Int32)) fun x417 =>
    f_L2_law_18 L xs n 0 120 x417 M) = f_L2_law_18 L xs n 0 120 (v3 + (4 : Int32)) M' := by
  obtain ⟨N, A, Q, S, w⟩ := id h
  have hN := w.2.2.2.1.n
  have h2 := w.2.2.2.1.n2
  have h16 := w.2.2.2.1.n16
  have hB := w.2.2.2.1.bi
  obtain ⟨r, e1⟩ := w.c29 (xs ((v3 + (1 : Int32))).toNatClampNeg) (xs ((v3 + (2 : Int32))).toNatClampNeg) (xs ((v3 + (3 : Int32))).toNatClampNeg) (n := n) (by omega)
  obtain ⟨x, e2⟩ := w.2.1.r29 hN h2 h16 (xs ((v3 + (1 : Int32))).toNatClampNeg) (xs ((v3 + (2 : Int32))).toNatClampNeg) (xs ((v3 + (3 : Int32))).toNatClampNeg)
  exact ⟨M, w.mo, by rw [chk_t b1, chk_t b2, chk_t b3, chk_t h.h9, e1, obd_s, chk_t b1, chk_t b2, chk_t b3, rs_f w.2.1.1, e2, obd_s, bnd_e]⟩
theorem lb_30 (h : WI i M) (hi : i ≤ 511) (hn : 100000 ≤ n) (b1 : inB (v3 + (1 : Int32)) L) (b2 : inB (v3 + (2 : Int32)) L) (b3 : inB (v3 + (3 : Int32)) L) : ∃ M', WI (i + 1) M' ∧ (
    chk (inB (v3 + (1 : Int32)) L) <|
    chk (inB (v3 + (2 : Int32)) L) <|
    chk (inB (v3 + (3 : Int32)) L) <|
    chk (isO M 9 0) <|
    obd (f_X9_way n 0 (xs ((v3 + (1 : Int32))).toNatClampNeg) (xs ((v3 + (2 : Int32))).toNatClampNeg) (xs ((v3 + (3 : Int32))).toNatClampNeg) M) fun r426 =>
    chk (inB (v3 + (1 : Int32)) L) <|
    chk (inB (v3 + (2 : Int32)) L) <|
    chk (inB (v3 + (3 : Int32)) L) <|
    chk (isO M 10 120) <|
    obd (f_X10_way n 120 (xs ((v3 + (1 : Int32))).toNatClampNeg) (xs ((v3 + (2 : Int32))).toNatClampNeg) (xs ((v3 + (3 : Int32))).toNatClampNeg) M) fun r432 =>
    bnd (v3 + (4 : Int32)) fun x433 =>
    f_L2_law_18 L xs n 0 120 x433 M) = f_L2_law_18 L xs n 0 120 (v3 + (4 : Int32)) M' := by
  obtain ⟨N, A, Q, S, w⟩ := id h
  have hN := w.2.2.2.1.n
  have h2 := w.2.2.2.1.n2
  have h16 := w.2.2.2.1.n16
  have hB := w.2.2.2.1.bi
  obtain ⟨r, e1⟩ := w.c30 hi (xs ((v3 + (1 : Int32))).toNatClampNeg) (xs ((v3 + (2 : Int32))).toNatClampNeg) (xs ((v3 + (3 : Int32))).toNatClampNeg) (n := n) (by omega)
  obtain ⟨x, e2⟩ := w.2.1.r30 hN h2 h16 (xs ((v3 + (1 : Int32))).toNatClampNeg) (xs ((v3 + (2 : Int32))).toNatClampNeg) (xs ((v3 + (3 : Int32))).toNatClampNeg) (n := n) (by omega)
  exact ⟨M, w.mo, by rw [chk_t b1, chk_t b2, chk_t b3, chk_t h.h9, e1, obd_s, chk_t b1, chk_t b2, chk_t b3, rs_f w.2.1.1, e2, obd_s, bnd_e]⟩
theorem lb_31 (h : WI i M) (hi : i ≤ 511) (hn : 100000 ≤ n) (b1 : inB (v3 + (1 : Int32)) L) (b2 : inB (v3 + (2 : Int32)) L) (b3 : inB (v3 + (3 : Int32)) L) : ∃ M', WI (i + 1) M' ∧ (
    chk (inB (v3 + (1 : Int32)) L) <|
    chk (isO M 9 0) <|
    obd2 (f_X9_is n 0 (xs ((v3 + (1 : Int32))).toNatClampNeg) M) fun r440 M441 =>
    chk (inB (v3 + (1 : Int32)) L) <|
    chk (isO M441 10 120) <|
    obd2 (f_X10_is n 120 (xs ((v3 + (1 : Int32))).toNatClampNeg) M441) fun r445 M446 =>
    bnd (v3 + (4 : Int32)) fun x447 =>
    f_L2_law_18 L xs n 0 120 x447 M446) = f_L2_law_18 L xs n 0 120 (v3 + (4 : Int32)) M' := by
  obtain ⟨r, r', M1, M2, e1, e2, e3, e4⟩ := op31 h (xs ((v3 + (1 : Int32))).toNatClampNeg) hn
  have e3 : f_X10_is n 120 (xs ((v3 + (1 : Int32))).toNatClampNeg) M1 = some (r', M2) := e3
  exact ⟨M2, e4, by rw [chk_t b1, chk_t h.h9, e1, obd2_s, chk_t b1, chk_t e2, e3, obd2_s, bnd_e]⟩
theorem lb_32 (h : WI i M) (hi : i ≤ 511) (hn : 100000 ≤ n) (b1 : inB (v3 + (1 : Int32)) L) (b2 : inB (v3 + (2 : Int32)) L) (b3 : inB (v3 + (3 : Int32)) L) : ∃ M', WI (i + 1) M' ∧ (
    chk (inB (v3 + (1 : Int32)) L) <|
    chk (isO M 9 0) <|
    obd (f_X9_handled 0 (xs ((v3 + (1 : Int32))).toNatClampNeg) M) fun r454 =>
    chk (inB (v3 + (1 : Int32)) L) <|
    chk (isO M 10 120) <|
    obd (f_X10_handled 120 (xs ((v3 + (1 : Int32))).toNatClampNeg) M) fun r458 =>
    bnd (v3 + (4 : Int32)) fun x459 =>
    f_L2_law_18 L xs n 0 120 x459 M) = f_L2_law_18 L xs n 0 120 (v3 + (4 : Int32)) M' := by
  obtain ⟨N, A, Q, S, w⟩ := id h
  have hN := w.2.2.2.1.n
  have h2 := w.2.2.2.1.n2
  have h16 := w.2.2.2.1.n16
  have hB := w.2.2.2.1.bi
  obtain ⟨r, e1⟩ := w.c32 (xs ((v3 + (1 : Int32))).toNatClampNeg)
  obtain ⟨x, e2⟩ := w.2.1.r32 hN h2 h16 (xs ((v3 + (1 : Int32))).toNatClampNeg)
  exact ⟨M, w.mo, by rw [chk_t b1, chk_t h.h9, e1, obd_s, chk_t b1, rs_f w.2.1.1, e2, obd_s, bnd_e]⟩
theorem lb_33 (h : WI i M) (hi : i ≤ 511) (hn : 100000 ≤ n) (b1 : inB (v3 + (1 : Int32)) L) (b2 : inB (v3 + (2 : Int32)) L) (b3 : inB (v3 + (3 : Int32)) L) : ∃ M', WI (i + 1) M' ∧ (
    chk (inB (v3 + (1 : Int32)) L) <|
    chk (isO M 9 0) <|
    obd (f_X9_sent n 0 (xs ((v3 + (1 : Int32))).toNatClampNeg) M) fun r466 =>
    chk (inB (v3 + (1 : Int32)) L) <|
    chk (isO M 10 120) <|
    obd (f_X10_sent n 120 (xs ((v3 + (1 : Int32))).toNatClampNeg) M) fun r470 =>
    bnd (v3 + (4 : Int32)) fun x471 =>
    f_L2_law_18 L xs n 0 120 x471 M) = f_L2_law_18 L xs n 0 120 (v3 + (4 : Int32)) M' := by
  obtain ⟨N, A, Q, S, w⟩ := id h
  have hN := w.2.2.2.1.n
  have h2 := w.2.2.2.1.n2
  have h16 := w.2.2.2.1.n16
  have hB := w.2.2.2.1.bi
  obtain ⟨r, e1⟩ := w.c33 (xs ((v3 + (1 : Int32))).toNatClampNeg) (n := n) (by omega)
  obtain ⟨x, e2⟩ := w.2.1.r33 (xs ((v3 + (1 : Int32))).toNatClampNeg) (n := n) (by omega)
  exact ⟨M, w.mo, by rw [chk_t b1, chk_t h.h9, e1, obd_s, chk_t b1, rs_f w.2.1.1, e2, obd_s, bnd_e]⟩
theorem lb_34 (h : WI i M) (hi : i ≤ 511) (hn : 100000 ≤ n) (b1 : inB (v3 + (1 : Int32)) L) (b2 : inB (v3 + (2 : Int32)) L) (b3 : inB (v3 + (3 : Int32)) L) : ∃ M', WI (i + 1) M' ∧ (
    chk (inB (v3 + (1 : Int32)) L) <|
    chk (inB (v3 + (2 : Int32)) L) <|
    chk (isO M 9 0) <|
    obd (f_X9_book 0 (xs ((v3 + (1 : Int32))).toNatClampNeg) (xs ((v3 + (2 : Int32))).toNatClampNeg) M) fun r479 =>
    chk (inB (v3 + (1 : Int32)) L) <|
    chk (inB (v3 + (2 : Int32)) L) <|
    chk (isO M 10 120) <|
    obd (f_X10_book 120 (xs ((v3 + (1 : Int32))).toNatClampNeg) (xs ((v3 + (2 : Int32))).toNatClampNeg) M) fun r484 =>
    bnd (v3 + (4 : Int32)) fun x485 =>
    f_L2_law_18 L xs n 0 120 x485 M) = f_L2_law_18 L xs n 0 120 (v3 + (4 : Int32)) M' := by
  obtain ⟨N, A, Q, S, w⟩ := id h
  have hN := w.2.2.2.1.n
  have h2 := w.2.2.2.1.n2
  have h16 := w.2.2.2.1.n16
  have hB := w.2.2.2.1.bi
  obtain ⟨r, e1⟩ := w.c34 (xs ((v3 + (1 : Int32))).toNatClampNeg) (xs ((v3 + (2 : Int32))).toNatClampNeg)
  obtain ⟨x, e2⟩ := w.2.1.r34 (xs ((v3 + (1 : Int32))).toNatClampNeg) (xs ((v3 + (2 : Int32))).toNatClampNeg)
  exact ⟨M, w.mo, by rw [chk_t b1, chk_t b2, chk_t h.h9, e1, obd_s, chk_t b1, chk_t b2, rs_f w.2.1.1, e2, obd_s, bnd_e]⟩
theorem lb_35 (h : WI i M) (hi : i ≤ 511) (hn : 100000 ≤ n) (b1 : inB (v3 + (1 : Int32)) L) (b2 : inB (v3 + (2 : Int32)) L) (b3 : inB (v3 + (3 : Int32)) L) : ∃ M', WI (i + 1) M' ∧ (
    chk (inB (v3 + (1 : Int32)) L) <|
    chk (isO M 9 0) <|
    obd (f_X9_waitsFor n 0 (xs ((v3 + (1 : Int32))).toNatClampNeg) M) fun r492 =>
    chk (inB (v3 + (1 : Int32)) L) <|
    chk (isO M 10 120) <|
    obd (f_X10_waitsFor n 120 (xs ((v3 + (1 : Int32))).toNatClampNeg) M) fun r496 =>
    bnd (v3 + (4 : Int32)) fun x497 =>
    f_L2_law_18 L xs n 0 120 x497 M) = f_L2_law_18 L xs n 0 120 (v3 + (4 : Int32)) M' := by
  obtain ⟨N, A, Q, S, w⟩ := id h
  have hN := w.2.2.2.1.n
  have h2 := w.2.2.2.1.n2
  have h16 := w.2.2.2.1.n16
  have hB := w.2.2.2.1.bi
  obtain ⟨r, e1⟩ := w.c35 (xs ((v3 + (1 : Int32))).toNatClampNeg) (n := n) (by omega)
  obtain ⟨x, e2⟩ := w.2.1.r35 hN h2 h16 (xs ((v3 + (1 : Int32))).toNatClampNeg) (n := n) (by omega)
  exact ⟨M, w.mo, by rw [chk_t b1, chk_t h.h9, e1, obd_s, chk_t b1, rs_f w.2.1.1, e2, obd_s, bnd_e]⟩
theorem lb_36 (h : WI i M) (hi : i ≤ 511) (hn : 100000 ≤ n) (b1 : inB (v3 + (1 : Int32)) L) (b2 : inB (v3 + (2 : Int32)) L) (b3 : inB (v3 + (3 : Int32)) L) : ∃ M', WI (i + 1) M' ∧ (
    chk (inB (v3 + (1 : Int32)) L) <|
    chk (isO M 9 0) <|
    obd (f_X9_unheard 0 (xs ((v3 + (1 : Int32))).toNatClampNeg) M) fun r504 =>
    chk (inB (v3 + (1 : Int32)) L) <|
    chk (isO M 10 120) <|
    obd (f_X10_unheard 120 (xs ((v3 + (1 : Int32))).toNatClampNeg) M) fun r508 =>
    bnd (v3 + (4 : Int32)) fun x509 =>
    f_L2_law_18 L xs n 0 120 x509 M) = f_L2_law_18 L xs n 0 120 (v3 + (4 : Int32)) M' := by
  obtain ⟨N, A, Q, S, w⟩ := id h
  have hN := w.2.2.2.1.n
  have h2 := w.2.2.2.1.n2
  have h16 := w.2.2.2.1.n16
  have hB := w.2.2.2.1.bi
  obtain ⟨r, e1⟩ := w.c36 (xs ((v3 + (1 : Int32))).toNatClampNeg)
  obtain ⟨x, e2⟩ := w.2.1.r36 hN h2 h16 (xs ((v3 + (1 : Int32))).toNatClampNeg)
  exact ⟨M, w.mo, by rw [chk_t b1, chk_t h.h9, e1, obd_s, chk_t b1, rs_f w.2.1.1, e2, obd_s, bnd_e]⟩
theorem lb_37 (h : WI i M) (hi : i ≤ 511) (hn : 100000 ≤ n) (b1 : inB (v3 + (1 : Int32)) L) (b2 : inB (v3 + (2 : Int32)) L) (b3 : inB (v3 + (3 : Int32)) L) : ∃ M', WI (i + 1) M' ∧ (
    chk (inB (v3 + (1 : Int32)) L) <|
    chk (isO M 9 0) <|
    obd (f_X9_crowded n 0 (xs ((v3 + (1 : Int32))).toNatClampNeg) M) fun r516 =>
    chk (inB (v3 + (1 : Int32)) L) <|
    chk (isO M 10 120) <|
    obd (f_X10_crowded n 120 (xs ((v3 + (1 : Int32))).toNatClampNeg) M) fun r520 =>
    bnd (v3 + (4 : Int32)) fun x521 =>
    f_L2_law_18 L xs n 0 120 x521 M) = f_L2_law_18 L xs n 0 120 (v3 + (4 : Int32)) M' := by
  obtain ⟨N, A, Q, S, w⟩ := id h
  have hN := w.2.2.2.1.n
  have h2 := w.2.2.2.1.n2
  have h16 := w.2.2.2.1.n16
  have hB := w.2.2.2.1.bi
  obtain ⟨r, e1⟩ := w.c37 (xs ((v3 + (1 : Int32))).toNatClampNeg) (n := n) (by omega)
  obtain ⟨x, e2⟩ := w.2.1.r37 hN h16 (xs ((v3 + (1 : Int32))).toNatClampNeg) (n := n) (by omega)
  exact ⟨M, w.mo, by rw [chk_t b1, chk_t h.h9, e1, obd_s, chk_t b1, rs_f w.2.1.1, e2, obd_s, bnd_e]⟩
theorem lb_38 (h : WI i M) (hi : i ≤ 511) (hn : 100000 ≤ n) (b1 : inB (v3 + (1 : Int32)) L) (b2 : inB (v3 + (2 : Int32)) L) (b3 : inB (v3 + (3 : Int32)) L) : ∃ M', WI (i + 1) M' ∧ (
    chk (inB (v3 + (1 : Int32)) L) <|
    chk (inB (v3 + (2 : Int32)) L) <|
    chk (isO M 9 0) <|
    obd (f_X9_trace 0 (xs ((v3 + (1 : Int32))).toNatClampNeg) (xs ((v3 + (2 : Int32))).toNatClampNeg) M) fun r529 =>
    chk (inB (v3 + (1 : Int32)) L) <|
    chk (inB (v3 + (2 : Int32)) L) <|
    chk (isO M 10 120) <|
    obd (f_X10_trace 120 (xs ((v3 + (1 : Int32))).toNatClampNeg) (xs ((v3 + (2 : Int32))).toNatClampNeg) M) fun r534 =>
    bnd (v3 + (4 : Int32)) fun x535 =>
    f_L2_law_18 L xs n 0 120 x535 M) = f_L2_law_18 L xs n 0 120 (v3 + (4 : Int32)) M' := by
  obtain ⟨N, A, Q, S, w⟩ := id h
  have hN := w.2.2.2.1.n
  have h2 := w.2.2.2.1.n2
  have h16 := w.2.2.2.1.n16
  have hB := w.2.2.2.1.bi
  obtain ⟨r, e1⟩ := w.c38 (xs ((v3 + (1 : Int32))).toNatClampNeg) (xs ((v3 + (2 : Int32))).toNatClampNeg)
  obtain ⟨x, e2⟩ := w.2.1.r38 (xs ((v3 + (1 : Int32))).toNatClampNeg) (xs ((v3 + (2 : Int32))).toNatClampNeg)
  exact ⟨M, w.mo, by rw [chk_t b1, chk_t b2, chk_t h.h9, e1, obd_s, chk_t b1, chk_t b2, rs_f w.2.1.1, e2, obd_s, bnd_e]⟩
theorem lb_39 (h : WI i M) (hi : i ≤ 511) (hn : 100000 ≤ n) (b1 : inB (v3 + (1 : Int32)) L) (b2 : inB (v3 + (2 : Int32)) L) (b3 : inB (v3 + (3 : Int32)) L) : ∃ M', WI (i + 1) M' ∧ (
    chk (inB (v3 + (1 : Int32)) L) <|
    chk (inB (v3 + (2 : Int32)) L) <|
    chk (isO M 9 0) <|
    obd2 (f_X9_goOn n 0 (xs ((v3 + (1 : Int32))).toNatClampNeg) (xs ((v3 + (2 : Int32))).toNatClampNeg) M) fun r543 M544 =>
    chk (inB (v3 + (1 : Int32)) L) <|
    chk (inB (v3 + (2 : Int32)) L) <|
    chk (isO M544 10 120) <|
    obd2 (f_X10_goOn n 120 (xs ((v3 + (1 : Int32))).toNatClampNeg) (xs ((v3 + (2 : Int32))).toNatClampNeg) M544) fun r549 M550 =>
    bnd (v3 + (4 : Int32)) fun x551 =>
    f_L2_law_18 L xs n 0 120 x551 M550) = f_L2_law_18 L xs n 0 120 (v3 + (4 : Int32)) M' := by
  obtain ⟨r, M1, M2, e1, e2, e3, e4⟩ := op39 h hi (xs ((v3 + (1 : Int32))).toNatClampNeg) (xs ((v3 + (2 : Int32))).toNatClampNeg) hn
  have e3 : f_X10_goOn n 120 (xs ((v3 + (1 : Int32))).toNatClampNeg) (xs ((v3 + (2 : Int32))).toNatClampNeg) M1 = some (r, M2) := e3
  exact ⟨M2, e4, by rw [chk_t b1, chk_t b2, chk_t h.h9, e1, obd2_s, chk_t b1, chk_t b2, chk_t e2, e3, obd2_s, bnd_e]⟩
theorem lb_40 (h : WI i M) (hi : i ≤ 511) (hn : 100000 ≤ n) (b1 : inB (v3 + (1 : Int32)) L) (b2 : inB (v3 + (2 : Int32)) L) (b3 : inB (v3 + (3 : Int32)) L) : ∃ M', WI (i + 1) M' ∧ (
    chk (inB (v3 + (1 : Int32)) L) <|
    chk (inB (v3 + (2 : Int32)) L) <|
    chk (isO M 9 0) <|
    obd2 (f_X9_entersBy n 0 (xs ((v3 + (1 : Int32))).toNatClampNeg) (xs ((v3 + (2 : Int32))).toNatClampNeg) M) fun r559 M560 =>
    chk (inB (v3 + (1 : Int32)) L) <|
    chk (inB (v3 + (2 : Int32)) L) <|
    chk (isO M560 10 120) <|
    obd2 (f_X10_entersBy n 120 (xs ((v3 + (1 : Int32))).toNatClampNeg) (xs ((v3 + (2 : Int32))).toNatClampNeg) M560) fun r565 M566 =>
    bnd (v3 + (4 : Int32)) fun x567 =>
    f_L2_law_18 L xs n 0 120 x567 M566) = f_L2_law_18 L xs n 0 120 (v3 + (4 : Int32)) M' := by
  obtain ⟨r, M1, M2, e1, e2, e3, e4⟩ := op40 h hi (xs ((v3 + (1 : Int32))).toNatClampNeg) (xs ((v3 + (2 : Int32))).toNatClampNeg) hn
  have e3 : f_X10_entersBy n 120 (xs ((v3 + (1 : Int32))).toNatClampNeg) (xs ((v3 + (2 : Int32))).toNatClampNeg) M1 = some (r, M2) := e3
  exact ⟨M2, e4, by rw [chk_t b1, chk_t b2, chk_t h.h9, e1, obd2_s, chk_t b1, chk_t b2, chk_t e2, e3, obd2_s, bnd_e]⟩
theorem lb_41 (h : WI i M) (hi : i ≤ 511) (hn : 100000 ≤ n) (b1 : inB (v3 + (1 : Int32)) L) (b2 : inB (v3 + (2 : Int32)) L) (b3 : inB (v3 + (3 : Int32)) L) : ∃ M', WI (i + 1) M' ∧ (
    chk (inB (v3 + (1 : Int32)) L) <|
    chk (inB (v3 + (2 : Int32)) L) <|
    chk (isO M 9 0) <|
    obd2 (f_X9_searched n 0 (xs ((v3 + (1 : Int32))).toNatClampNeg) (xs ((v3 + (2 : Int32))).toNatClampNeg) M) fun r575 M576 =>
    chk (inB (v3 + (1 : Int32)) L) <|
    chk (inB (v3 + (2 : Int32)) L) <|
    chk (isO M576 10 120) <|
    obd2 (f_X10_searched n 120 (xs ((v3 + (1 : Int32))).toNatClampNeg) (xs ((v3 + (2 : Int32))).toNatClampNeg) M576) fun r581 M582 =>
    bnd (v3 + (4 : Int32)) fun x583 =>
    f_L2_law_18 L xs n 0 120 x583 M582) = f_L2_law_18 L xs n 0 120 (v3 + (4 : Int32)) M' := by
  obtain ⟨r, M1, M2, e1, e2, e3, e4⟩ := op41 h hi (xs ((v3 + (1 : Int32))).toNatClampNeg) (xs ((v3 + (2 : Int32))).toNatClampNeg) hn
  have e3 : f_X10_searched n 120 (xs ((v3 + (1 : Int32))).toNatClampNeg) (xs ((v3 + (2 : Int32))).toNatClampNeg) M1 = some (r, M2) := e3
  exact ⟨M2, e4, by rw [chk_t b1, chk_t b2, chk_t h.h9, e1, obd2_s, chk_t b1, chk_t b2, chk_t e2, e3, obd2_s, bnd_e]⟩
theorem lb_42 (h : WI i M) (hi : i ≤ 511) (hn : 100000 ≤ n) (b1 : inB (v3 + (1 : Int32)) L) (b2 : inB (v3 + (2 : Int32)) L) (b3 : inB (v3 + (3 : Int32)) L) : ∃ M', WI (i + 1) M' ∧ (
    chk (inB (v3 + (1 : Int32)) L) <|
    chk (inB (v3 + (2 : Int32)) L) <|
    chk (inB (v3 + (3 : Int32)) L) <|
    chk (isO M 9 0) <|
    obd2 (f_X9_searchedBy n 0 (xs ((v3 + (1 : Int32))).toNatClampNeg) (xs ((v3 + (2 : Int32))).toNatClampNeg) (xs ((v3 + (3 : Int32))).toNatClampNeg) M) fun r592 M593 =>
    chk (inB (v3 + (1 : Int32)) L) <|
    chk (inB (v3 + (2 : Int32)) L) <|
    chk (inB (v3 + (3 : Int32)) L) <|
    chk (isO M593 10 120) <|
    obd2 (f_X10_searchedBy n 120 (xs ((v3 + (1 : Int32))).toNatClampNeg) (xs ((v3 + (2 : Int32))).toNatClampNeg) (xs ((v3 + (3 : Int32))).toNatClampNeg) M593) fun r599 M600 =>
    bnd (v3 + (4 : Int32)) fun x601 =>
    f_L2_law_18 L xs n 0 120 x601 M600) = f_L2_law_18 L xs n 0 120 (v3 + (4 : Int32)) M' := by
  obtain ⟨r, M1, M2, e1, e2, e3, e4⟩ := op42 h hi (xs ((v3 + (1 : Int32))).toNatClampNeg) (xs ((v3 + (2 : Int32))).toNatClampNeg) (xs ((v3 + (3 : Int32))).toNatClampNeg) hn
  have e3 : f_X10_searchedBy n 120 (xs ((v3 + (1 : Int32))).toNatClampNeg) (xs ((v3 + (2 : Int32))).toNatClampNeg) (xs ((v3 + (3 : Int32))).toNatClampNeg) M1 = some (r, M2) := e3
  exact ⟨M2, e4, by rw [chk_t b1, chk_t b2, chk_t b3, chk_t h.h9, e1, obd2_s, chk_t b1, chk_t b2, chk_t b3, chk_t e2, e3, obd2_s, bnd_e]⟩
theorem lb_43 (h : WI i M) (hi : i ≤ 511) (hn : 100000 ≤ n) (b1 : inB (v3 + (1 : Int32)) L) (b2 : inB (v3 + (2 : Int32)) L) (b3 : inB (v3 + (3 : Int32)) L) : ∃ M', WI (i + 1) M' ∧ (
    chk (inB (v3 + (1 : Int32)) L) <|
    chk (inB (v3 + (2 : Int32)) L) <|
    chk (inB (v3 + (3 : Int32)) L) <|
    chk (isO M 9 0) <|
    obd2 (f_X9_delay 0 (xs ((v3 + (1 : Int32))).toNatClampNeg) (xs ((v3 + (2 : Int32))).toNatClampNeg) (xs ((v3 + (3 : Int32))).toNatClampNeg) M) fun r610 M611 =>
    chk (inB (v3 + (1 : Int32)) L) <|
    chk (inB (v3 + (2 : Int32)) L) <|
    chk (inB (v3 + (3 : Int32)) L) <|
    chk (isO M611 10 120) <|
    obd2 (f_X10_delay 120 (xs ((v3 + (1 : Int32))).toNatClampNeg) (xs ((v3 + (2 : Int32))).toNatClampNeg) (xs ((v3 + (3 : Int32))).toNatClampNeg) M611) fun r617 M618 =>
    bnd (v3 + (4 : Int32)) fun x619 =>
    f_L2_law_18 L xs n 0 120 x619 M618) = f_L2_law_18 L xs n 0 120 (v3 + (4 : Int32)) M' := by
  obtain ⟨r, M1, M2, e1, e2, e3, e4⟩ := op43 h (xs ((v3 + (1 : Int32))).toNatClampNeg) (xs ((v3 + (2 : Int32))).toNatClampNeg) (xs ((v3 + (3 : Int32))).toNatClampNeg) hn
  have e3 : f_X10_delay 120 (xs ((v3 + (1 : Int32))).toNatClampNeg) (xs ((v3 + (2 : Int32))).toNatClampNeg) (xs ((v3 + (3 : Int32))).toNatClampNeg) M1 = some (r, M2) := e3
  exact ⟨M2, e4, by rw [chk_t b1, chk_t b2, chk_t b3, chk_t h.h9, e1, obd2_s, chk_t b1, chk_t b2, chk_t b3, chk_t e2, e3, obd2_s, bnd_e]⟩
theorem lb_44 (h : WI i M) (hi : i ≤ 511) (hn : 100000 ≤ n) (b1 : inB (v3 + (1 : Int32)) L) (b2 : inB (v3 + (2 : Int32)) L) (b3 : inB (v3 + (3 : Int32)) L) : ∃ M', WI (i + 1) M' ∧ (
    chk (inB (v3 + (1 : Int32)) L) <|
    chk (inB (v3 + (2 : Int32)) L) <|
    chk (inB (v3 + (3 : Int32)) L) <|
    chk (isO M 9 0) <|
    obd2 (f_X9_timed n 0 (xs ((v3 + (1 : Int32))).toNatClampNeg) (xs ((v3 + (2 : Int32))).toNatClampNeg) (xs ((v3 + (3 : Int32))).toNatClampNeg) M) fun r628 M629 =>
    chk (inB (v3 + (1 : Int32)) L) <|
    chk (inB (v3 + (2 : Int32)) L) <|
    chk (inB (v3 + (3 : Int32)) L) <|
    chk (isO M629 10 120) <|
    obd2 (f_X10_timed n 120 (xs ((v3 + (1 : Int32))).toNatClampNeg) (xs ((v3 + (2 : Int32))).toNatClampNeg) (xs ((v3 + (3 : Int32))).toNatClampNeg) M629) fun r635 M636 =>
    bnd (v3 + (4 : Int32)) fun x637 =>
    f_L2_law_18 L xs n 0 120 x637 M636) = f_L2_law_18 L xs n 0 120 (v3 + (4 : Int32)) M' := by
  obtain ⟨r, r', M1, M2, e1, e2, e3, e4⟩ := op44 h hi (xs ((v3 + (1 : Int32))).toNatClampNeg) (xs ((v3 + (2 : Int32))).toNatClampNeg) (xs ((v3 + (3 : Int32))).toNatClampNeg) hn
  have e3 : f_X10_timed n 120 (xs ((v3 + (1 : Int32))).toNatClampNeg) (xs ((v3 + (2 : Int32))).toNatClampNeg) (xs ((v3 + (3 : Int32))).toNatClampNeg) M1 = some (r', M2) := e3
  exact ⟨M2, e4, by rw [chk_t b1, chk_t b2, chk_t b3, chk_t h.h9, e1, obd2_s, chk_t b1, chk_t b2, chk_t b3, chk_t e2, e3, obd2_s, bnd_e]⟩
theorem lb_45 (h : WI i M) (hi : i ≤ 511) (hn : 100000 ≤ n) (b1 : inB (v3 + (1 : Int32)) L) (b2 : inB (v3 + (2 : Int32)) L) (b3 : inB (v3 + (3 : Int32)) L) : ∃ M', WI (i + 1) M' ∧ (
    chk (inB (v3 + (1 : Int32)) L) <|
    chk (inB (v3 + (2 : Int32)) L) <|
    chk (isO M 9 0) <|
    obd2 (f_X9_soonest n 0 (xs ((v3 + (1 : Int32))).toNatClampNeg) (xs ((v3 + (2 : Int32))).toNatClampNeg) M) fun r645 M646 =>
    chk (inB (v3 + (1 : Int32)) L) <|
    chk (inB (v3 + (2 : Int32)) L) <|
    chk (isO M646 10 120) <|
    obd2 (f_X10_soonest n 120 (xs ((v3 + (1 : Int32))).toNatClampNeg) (xs ((v3 + (2 : Int32))).toNatClampNeg) M646) fun r651 M652 =>
    bnd (v3 + (4 : Int32)) fun x653 =>
    f_L2_law_18 L xs n 0 120 x653 M652) = f_L2_law_18 L xs n 0 120 (v3 + (4 : Int32)) M' := by
  obtain ⟨r, M1, M2, e1, e2, e3, e4⟩ := op45 h hi (xs ((v3 + (1 : Int32))).toNatClampNeg) (xs ((v3 + (2 : Int32))).toNatClampNeg) hn
  have e3 : f_X10_soonest n 120 (xs ((v3 + (1 : Int32))).toNatClampNeg) (xs ((v3 + (2 : Int32))).toNatClampNeg) M1 = some (r, M2) := e3
  exact ⟨M2, e4, by rw [chk_t b1, chk_t b2, chk_t h.h9, e1, obd2_s, chk_t b1, chk_t b2, chk_t e2, e3, obd2_s, bnd_e]⟩
theorem lb_46 (h : WI i M) (hi : i ≤ 511) (hn : 100000 ≤ n) (b1 : inB (v3 + (1 : Int32)) L) (b2 : inB (v3 + (2 : Int32)) L) (b3 : inB (v3 + (3 : Int32)) L) : ∃ M', WI (i + 1) M' ∧ (
    chk (inB (v3 + (1 : Int32)) L) <|
    chk (inB (v3 + (2 : Int32)) L) <|
    chk (inB (v3 + (3 : Int32)) L) <|
    chk (isO M 9 0) <|
    obd2 (f_X9_crowd n 0 (xs ((v3 + (1 : Int32))).toNatClampNeg) (xs ((v3 + (2 : Int32))).toNatClampNeg) (xs ((v3 + (3 : Int32))).toNatClampNeg) M) fun r662 M663 =>
    chk (inB (v3 + (1 : Int32)) L) <|
    chk (inB (v3 + (2 : Int32)) L) <|
    chk (inB (v3 + (3 : Int32)) L) <|
    chk (isO M663 10 120) <|
    obd2 (f_X10_crowd n 120 (xs ((v3 + (1 : Int32))).toNatClampNeg) (xs ((v3 + (2 : Int32))).toNatClampNeg) (xs ((v3 + (3 : Int32))).toNatClampNeg) M663) fun r669 M670 =>
    bnd (v3 + (4 : Int32)) fun x671 =>
    f_L2_law_18 L xs n 0 120 x671 M670) = f_L2_law_18 L xs n 0 120 (v3 + (4 : Int32)) M' := by
  obtain ⟨r, r', M1, M2, e1, e2, e3, e4⟩ := op46 h hi (xs ((v3 + (1 : Int32))).toNatClampNeg) (xs ((v3 + (2 : Int32))).toNatClampNeg) (xs ((v3 + (3 : Int32))).toNatClampNeg) hn
  have e3 : f_X10_crowd n 120 (xs ((v3 + (1 : Int32))).toNatClampNeg) (xs ((v3 + (2 : Int32))).toNatClampNeg) (xs ((v3 + (3 : Int32))).toNatClampNeg) M1 = some (r', M2) := e3
  exact ⟨M2, e4, by rw [chk_t b1, chk_t b2, chk_t b3, chk_t h.h9, e1, obd2_s, chk_t b1, chk_t b2, chk_t b3, chk_t e2, e3, obd2_s, bnd_e]⟩
theorem lb_47 (h : WI i M) (hi : i ≤ 511) (hn : 100000 ≤ n) (b1 : inB (v3 + (1 : Int32)) L) (b2 : inB (v3 + (2 : Int32)) L) (b3 : inB (v3 + (3 : Int32)) L) : ∃ M', WI (i + 1) M' ∧ (
    chk (isO M 9 0) <|
    obd (f2_X9_mean n 0 M) fun r677 =>
    chk (isO M 10 120) <|
    obd (f2_X10_mean n 120 M) fun r680 =>
    bnd (v3 + (4 : Int32)) fun x681 =>
    f_L2_law_18 L xs n 0 120 x681 M) = f_L2_law_18 L xs n 0 120 (v3 + (4 : Int32)) M' := by
  obtain ⟨N, A, Q, S, w⟩ := id h
  have hN := w.2.2.2.1.n
  have h2 := w.2.2.2.1.n2
  have h16 := w.2.2.2.1.n16
  have hB := w.2.2.2.1.bi
  obtain ⟨r, e1⟩ := w.c47 (n := n) (by omega)
  obtain ⟨x, e2⟩ := w.2.1.r47  (n := n) (by omega)
  exact ⟨M, w.mo, by rw [chk_t h.h9, e1, obd_s, rs_f w.2.1.1, e2, obd_s, bnd_e]⟩
theorem lb_48 (h : WI i M) (hi : i ≤ 511) (hn : 100000 ≤ n) (b1 : inB (v3 + (1 : Int32)) L) (b2 : inB (v3 + (2 : Int32)) L) (b3 : inB (v3 + (3 : Int32)) L) : ∃ M', WI (i + 1) M' ∧ (
    chk (isO M 9 0) <|
    obd (f2_X9_byRoot n 0 M) fun r687 =>
    chk (isO M 10 120) <|
    obd (f2_X10_byRoot n 120 M) fun r690 =>
    bnd (v3 + (4 : Int32)) fun x691 =>
    f_L2_law_18 L xs n 0 120 x691 M) = f_L2_law_18 L xs n 0 120 (v3 + (4 : Int32)) M' := by
  obtain ⟨N, A, Q, S, w⟩ := id h
  have hN := w.2.2.2.1.n
  have h2 := w.2.2.2.1.n2
  have h16 := w.2.2.2.1.n16
  have hB := w.2.2.2.1.bi
  obtain ⟨r, e1⟩ := w.c48 (n := n) (by omega)
  obtain ⟨x, e2⟩ := w.2.1.r48 hN h16 (n := n) (by omega)
  exact ⟨M, w.mo, by rw [chk_t h.h9, e1, obd_s, rs_f w.2.1.1, e2, obd_s, bnd_e]⟩
set_option maxHeartbeats 4000000 in
theorem ls_all (h : WI i M) (hi : i ≤ 511) (hn : 100000 ≤ n) (hc : ¬ ((Int32.ofNat L) - (4 : Int32)) < v3) (b0 : inB v3 L) (b1 : inB (v3 + (1 : Int32)) L) (b2 : inB (v3 + (2 : Int32)) L) (b3 : inB (v3 + (3 : Int32)) L) : ∃ M', WI (i + 1) M' ∧ f_L2_law_18 L xs (n + 1) 0 120 v3 M = f_L2_law_18 L xs n 0 120 (v3 + (4 : Int32)) M' := by
  rw [f_L2_law_18, if_neg hc, chk_t b0, bnd_e]
  by_cases c0 : (xs (v3).toNatClampNeg) &&& (63 : Int32) = (0 : Int32)
  · rw [if_pos c0]; exact lb_0 h hi hn b1 b2 b3
  rw [if_neg c0]
  by_cases c1 : (xs (v3).toNatClampNeg) &&& (63 : Int32) = (1 : Int32)
  · rw [if_pos c1]; exact lb_1 h hi hn b1 b2 b3
  rw [if_neg c1]
  by_cases c2 : (xs (v3).toNatClampNeg) &&& (63 : Int32) = (2 : Int32)
  · rw [if_pos c2]; exact lb_2 h hi hn b1 b2 b3
  rw [if_neg c2]
  by_cases c3 : (xs (v3).toNatClampNeg) &&& (63 : Int32) = (3 : Int32)
  · rw [if_pos c3]; exact lb_3 h hi hn b1 b2 b3
  rw [if_neg c3]
  by_cases c4 : (xs (v3).toNatClampNeg) &&& (63 : Int32) = (4 : Int32)
  · rw [if_pos c4]; exact lb_4 h hi hn b1 b2 b3
  rw [if_neg c4]
  by_cases c5 : (xs (v3).toNatClampNeg) &&& (63 : Int32) = (5 : Int32)
  · rw [if_pos c5]; exact lb_5 h hi hn b1 b2 b3
  rw [if_neg c5]
  by_cases c6 : (xs (v3).toNatClampNeg) &&& (63 : Int32) = (6 : Int32)
  · rw [if_pos c6]; exact lb_6 h hi hn b1 b2 b3
  rw [if_neg c6]
  by_cases c7 : (xs (v3).toNatClampNeg) &&& (63 : Int32) = (7 : Int32)
  · rw [if_pos c7]; exact lb_7 h hi hn b1 b2 b3
  rw [if_neg c7]
  by_cases c8 : (xs (v3).toNatClampNeg) &&& (63 : Int32) = (8 : Int32)
  · rw [if_pos c8]; exact lb_8 h hi hn b1 b2 b3
  rw [if_neg c8]
  by_cases c9 : (xs (v3).toNatClampNeg) &&& (63 : Int32) = (9 : Int32)
  · rw [if_pos c9]; exact lb_9 h hi hn b1 b2 b3
  rw [if_neg c9]
  by_cases c10 : (xs (v3).toNatClampNeg) &&& (63 : Int32) = (10 : Int32)
  · rw [if_pos c10]; exact lb_10 h hi hn b1 b2 b3
  rw [if_neg c10]
  by_cases c11 : (xs (v3).toNatClampNeg) &&& (63 : Int32) = (11 : Int32)
  · rw [if_pos c11]; exact lb_11 h hi hn b1 b2 b3
  rw [if_neg c11]
  by_cases c12 : (xs (v3).toNatClampNeg) &&& (63 : Int32) = (12 : Int32)
  · rw [if_pos c12]; exact lb_12 h hi hn b1 b2 b3
  rw [if_neg c12]
  by_cases c13 : (xs (v3).toNatClampNeg) &&& (63 : Int32) = (13 : Int32)
  · rw [if_pos c13]; exact lb_13 h hi hn b1 b2 b3
  rw [if_neg c13]
  by_cases c14 : (xs (v3).toNatClampNeg) &&& (63 : Int32) = (14 : Int32)
  · rw [if_pos c14]; exact lb_14 h hi hn b1 b2 b3
  rw [if_neg c14]
  by_cases c15 : (xs (v3).toNatClampNeg) &&& (63 : Int32) = (15 : Int32)
  · rw [if_pos c15]; exact lb_15 h hi hn b1 b2 b3
  rw [if_neg c15]
  by_cases c16 : (xs (v3).toNatClampNeg) &&& (63 : Int32) = (16 : Int32)
  · rw [if_pos c16]; exact lb_16 h hi hn b1 b2 b3
  rw [if_neg c16]
  by_cases c17 : (xs (v3).toNatClampNeg) &&& (63 : Int32) = (17 : Int32)
  · rw [if_pos c17]; exact lb_17 h hi hn b1 b2 b3
  rw [if_neg c17]
  by_cases c18 : (xs (v3).toNatClampNeg) &&& (63 : Int32) = (18 : Int32)
  · rw [if_pos c18]; exact lb_18 h hi hn b1 b2 b3
  rw [if_neg c18]
  by_cases c19 : (xs (v3).toNatClampNeg) &&& (63 : Int32) = (19 : Int32)
  · rw [if_pos c19]; exact lb_19 h hi hn b1 b2 b3
  rw [if_neg c19]
  by_cases c20 : (xs (v3).toNatClampNeg) &&& (63 : Int32) = (20 : Int32)
  · rw [if_pos c20]; exact lb_20 h hi hn b1 b2 b3
  rw [if_neg c20]
  by_cases c21 : (xs (v3).toNatClampNeg) &&& (63 : Int32) = (21 : Int32)
  · rw [if_pos c21]; exact lb_21 h hi hn b1 b2 b3
  rw [if_neg c21]
  by_cases c22 : (xs (v3).toNatClampNeg) &&& (63 : Int32) = (22 : Int32)
  · rw [if_pos c22]; exact lb_22 h hi hn b1 b2 b3
  rw [if_neg c22]
  by_cases c23 : (xs (v3).toNatClampNeg) &&& (63 : Int32) = (23 : Int32)
  · rw [if_pos c23]; exact lb_23 h hi hn b1 b2 b3
  rw [if_neg c23]
  by_cases c24 : (xs (v3).toNatClampNeg) &&& (63 : Int32) = (24 : Int32)
  · rw [if_pos c24]; exact lb_24 h hi hn b1 b2 b3
  rw [if_neg c24]
  by_cases c25 : (xs (v3).toNatClampNeg) &&& (63 : Int32) = (25 : Int32)
  · rw [if_pos c25]; exact lb_25 h hi hn b1 b2 b3
  rw [if_neg c25]
  by_cases c26 : (xs (v3).toNatClampNeg) &&& (63 : Int32) = (26 : Int32)
  · rw [if_pos c26]; exact lb_26 h hi hn b1 b2 b3
  rw [if_neg c26]
  by_cases c27 : (xs (v3).toNatClampNeg) &&& (63 : Int32) = (27 : Int32)
  · rw [if_pos c27]; exact lb_27 h hi hn b1 b2 b3
  rw [if_neg c27]
  by_cases c28 : (xs (v3).toNatClampNeg) &&& (63 : Int32) = (28 : Int32)
  · rw [if_pos c28]; exact lb_28 h hi hn b1 b2 b3
  rw [if_neg c28]
  by_cases c29 : (xs (v3).toNatClampNeg) &&& (63 : Int32) = (29 : Int32)
  · rw [if_pos c29]; exact lb_29 h hi hn b1 b2 b3
  rw [if_neg c29]
  by_cases c30 : (xs (v3).toNatClampNeg) &&& (63 : Int32) = (30 : Int32)
  · rw [if_pos c30]; exact lb_30 h hi hn b1 b2 b3
  rw [if_neg c30]
  by_cases c31 : (xs (v3).toNatClampNeg) &&& (63 : Int32) = (31 : Int32)
  · rw [if_pos c31]; exact lb_31 h hi hn b1 b2 b3
  rw [if_neg c31]
  by_cases c32 : (xs (v3).toNatClampNeg) &&& (63 : Int32) = (32 : Int32)
  · rw [if_pos c32]; exact lb_32 h hi hn b1 b2 b3
  rw [if_neg c32]
  by_cases c33 : (xs (v3).toNatClampNeg) &&& (63 : Int32) = (33 : Int32)
  · rw [if_pos c33]; exact lb_33 h hi hn b1 b2 b3
  rw [if_neg c33]
  by_cases c34 : (xs (v3).toNatClampNeg) &&& (63 : Int32) = (34 : Int32)
  · rw [if_pos c34]; exact lb_34 h hi hn b1 b2 b3
  rw [if_neg c34]
  by_cases c35 : (xs (v3).toNatClampNeg) &&& (63 : Int32) = (35 : Int32)
  · rw [if_pos c35]; exact lb_35 h hi hn b1 b2 b3
  rw [if_neg c35]
  by_cases c36 : (xs (v3).toNatClampNeg) &&& (63 : Int32) = (36 : Int32)
  · rw [if_pos c36]; exact lb_36 h hi hn b1 b2 b3
  rw [if_neg c36]
  by_cases c37 : (xs (v3).toNatClampNeg) &&& (63 : Int32) = (37 : Int32)
  · rw [if_pos c37]; exact lb_37 h hi hn b1 b2 b3
  rw [if_neg c37]
  by_cases c38 : (xs (v3).toNatClampNeg) &&& (63 : Int32) = (38 : Int32)
  · rw [if_pos c38]; exact lb_38 h hi hn b1 b2 b3
  rw [if_neg c38]
  by_cases c39 : (xs (v3).toNatClampNeg) &&& (63 : Int32) = (39 : Int32)
  · rw [if_pos c39]; exact lb_39 h hi hn b1 b2 b3
  rw [if_neg c39]
  by_cases c40 : (xs (v3).toNatClampNeg) &&& (63 : Int32) = (40 : Int32)
  · rw [if_pos c40]; exact lb_40 h hi hn b1 b2 b3
  rw [if_neg c40]
  by_cases c41 : (xs (v3).toNatClampNeg) &&& (63 : Int32) = (41 : Int32)
  · rw [if_pos c41]; exact lb_41 h hi hn b1 b2 b3
  rw [if_neg c41]
  by_cases c42 : (xs (v3).toNatClampNeg) &&& (63 : Int32) = (42 : Int32)
  · rw [if_pos c42]; exact lb_42 h hi hn b1 b2 b3
  rw [if_neg c42]
  by_cases c43 : (xs (v3).toNatClampNeg) &&& (63 : Int32) = (43 : Int32)
  · rw [if_pos c43]; exact lb_43 h hi hn b1 b2 b3
  rw [if_neg c43]
  by_cases c44 : (xs (v3).toNatClampNeg) &&& (63 : Int32) = (44 : Int32)
  · rw [if_pos c44]; exact lb_44 h hi hn b1 b2 b3
  rw [if_neg c44]
  by_cases c45 : (xs (v3).toNatClampNeg) &&& (63 : Int32) = (45 : Int32)
  · rw [if_pos c45]; exact lb_45 h hi hn b1 b2 b3
  rw [if_neg c45]
  by_cases c46 : (xs (v3).toNatClampNeg) &&& (63 : Int32) = (46 : Int32)
  · rw [if_pos c46]; exact lb_46 h hi hn b1 b2 b3
  rw [if_neg c46]
  by_cases c47 : (xs (v3).toNatClampNeg) &&& (63 : Int32) = (47 : Int32)
  · rw [if_pos c47]; exact lb_47 h hi hn b1 b2 b3
  rw [if_neg c47]
  by_cases c48 : (xs (v3).toNatClampNeg) &&& (63 : Int32) = (48 : Int32)
  · rw [if_pos c48]; exact lb_48 h hi hn b1 b2 b3
  rw [if_neg c48]
  obtain ⟨N, A, Q, S, w⟩ := id h
  exact ⟨M, w.mo, rfl⟩
end
/-! ===== all calls of the law ===== -/
theorem lw_end {L k : Nat} (hL : L ≤ 2048) (hk : k ≤ 2048) : (L < k + 4 → ((Int32.ofNat L) - (4 : Int32)) < nI k) ∧ (k + 4 ≤ L → ¬ ((Int32.ofNat L) - (4 : Int32)) < nI k) := by
  by_cases c : L < 4
  · have h1 : ∀ L, L < 4 → ((Int32.ofNat L) - (4 : Int32)) < 0 := by decide +kernel
    have h2 : (0 : Int32) ≤ nI k := nI_le (a := 0) (Nat.zero_le _) (by omega)
    exact ⟨fun _ => Int32.lt_of_lt_of_le (h1 L c) h2, fun z => absurd z (by omega)⟩
  · have e : (Int32.ofNat L) - (4 : Int32) = nI (L - 4) := nI_sb (a := L) (b := 4) (by omega)
    rw [e]
    exact ⟨fun z => nI_ltx (by omega) (by omega), fun z => nI_nl (by omega) (by omega)⟩
theorem law_loop {L : Nat} (hL : L ≤ 2048) (xs : Nat → Int32) : ∀ (d i n : Nat) (M : Mem), i + d = 512 → WI i M → 100000 + d + 1 ≤ n → ∃ M', f_L2_law_18 L xs n 0 120 (nI (4 * i)) M = some ((1 : Int32), M') := by
  intro d
  induction d with
  | zero =>
    intro i n M hi h hn
    obtain ⟨n, rfl⟩ : ∃ m, n = m + 1 := ⟨n - 1, by omega⟩
    exact ⟨M, by rw [f_L2_law_18, if_pos ((lw_end hL (by omega)).1 (by omega))]⟩
  | succ d ih =>
    intro i n M hi h hn
    obtain ⟨n, rfl⟩ : ∃ m, n = m + 1 := ⟨n - 1, by omega⟩
    by_cases c : L < 4 * i + 4
    · exact ⟨M, by rw [f_L2_law_18, if_pos ((lw_end hL (by omega)).1 c)]⟩
    · have e1 : nI (4 * i) + (1 : Int32) = nI (4 * i + 1) := nI_add (4 * i) 1
      have e2 : nI (4 * i) + (2 : Int32) = nI (4 * i + 2) := nI_add (4 * i) 2
      have e3 : nI (4 * i) + (3 : Int32) = nI (4 * i + 3) := nI_add (4 * i) 3
      have e4 : nI (4 * i) + (4 : Int32) = nI (4 * (i + 1)) := nI_add (4 * i) 4
      obtain ⟨M1, w1, q⟩ := ls_all (L := L) (xs := xs) (v3 := nI (4 * i)) h (by omega) (n := n) (by omega) ((lw_end hL (by omega)).2 (by omega)) (inB_n (by omega) (by omega)) (by rw [e1]; exact inB_n (by omega) (by omega)) (by rw [e2]; exact inB_n (by omega) (by omega)) (by rw [e3]; exact inB_n (by omega) (by omega))
      obtain ⟨M2, z⟩ := ih (i + 1) n M1 (by omega) w1 (by omega)
      exact ⟨M2, by rw [q, e4]; exact z⟩
set_option maxRecDepth 100000 in
theorem law_pre2 (L : Nat) (xs : Nat → Int32) : f_L2_law L xs FU memE = f_L2_law_18 L xs FU 0 120 0 Mf := by
  rw [f_L2_law, chk_t (by decide), bnd_e, bnd_e]
  rw [show f_X9_init FU (mN memE) (nw memE 9 0 6) = some Mx from Mx_ok, obd_s, chk_t (by rw [Mx_k.2.1, Mx_k.2.2]; decide), bnd_e, bnd_e]
  rw [show mN Mx = 120 from Mx_k.2.1, init_ok, obd_s]
  rfl
theorem law_t {L : Nat} (hL : L ≤ 2048) (xs : Nat → Int32) : ∃ M, f_L2_law L xs FU memE = some ((1 : Int32), M) := by
  obtain ⟨M, h⟩ := law_loop hL xs 512 0 FU Mf rfl Mf_WI (by unfold FU; omega)
  exact ⟨M, by rw [law_pre2]; exact h⟩
set_option maxHeartbeats 4000000 in
theorem start_of2 {p : Program} {e : Env} {s : State} {m : MethodId} {below : List Frame} {meth : Method} {c : Code} (l : Launch) {b L n : Nat} {xs : Nat → Int32} {rv : Mem} (C0 : lw_At p s m meth c b L xs) (hf : f_L2_law L xs n memE = some ((1 : Int32), rv)) : W p l e room_1 s m #[Value.ref b] below meth c s.heap [] 0 0 (lw_Z below #[Value.ref b] s) (entryFrame m ([Value.ref b] : List Value).toArray 4) := by
  obtain ⟨hx, hb, hr, hml, hown, hts, hX, hbl, hlocks, hgv⟩ := id C0
  refine W.base ?_
  have hd0 := Drawn.sameBut.refl s.drawn lw_cs
  obtain ⟨G, hB, hK, hSt⟩ := start_K hts hgv
  have hl := lv_entry ([.ref b]) (n := 4) (Nat.le_of_ble_eq_true rfl)
  rw [lg_entry_eq]
  generalize (lg_sl ([.ref b]) ++ List.replicate (4 - (lg_sl ([.ref b])).length) Slot.unset).toArray = ls at hl ⊢
  have hl : lv_has ls 4 [(0, .ref b)] := hl
  have X : Cx p room_1 (s.setDrawn s.drawn) m #[Value.ref b] c G memE cL_law yL_law.cls 4 11 257 :=
    ⟨hx, hb, hown, fun w hw => hts w (List.mem_filter.mp hw).1, hK, ⟨rfl, rfl, Nat.le_of_ble_eq_true rfl, Nat.le_of_ble_eq_true rfl⟩, hSt, hml, hB.symm⟩
  have hL : LawB s s.drawn (s.setDrawn s.drawn) b L xs G memE := ⟨hX, hbl, by show ¬ gB G ≤ b; rw [hB]; exact Nat.not_le.mpr hbl, hd0, rfl, rfl, rfl⟩
  exact law_walk2 X hr hlocks hL hf ⟨Nat.le_refl _, Nat.le_refl _, Nat.zero_le _, Nat.zero_le _⟩ s.heap [] ls hl (fun k q h => by simp [ren, memE, mN] at h) va_S.rf
