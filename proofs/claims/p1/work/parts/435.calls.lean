/-! ===== the law: each call of it on the fresh objects ===== -/
theorem lq_0 {xs : Nat → Int32} (hk : (xs ((0 : Int32)).toNatClampNeg) &&& (63 : Int32) = (0 : Int32)) : ∃ M, f_L_law_18 4 xs (59998 + 1 + 1) 0 120 0 Mf = some ((1 : Int32), M) := by
  obtain ⟨rr, M1, M2, h1, h2, h3⟩ := E_ok (op0 (xs (((0 : Int32) + (1 : Int32))).toNatClampNeg))
  exact ⟨_, lw4_0 (n := 59998) hk h1 h2 h3⟩
theorem lq_1 {xs : Nat → Int32} (hk : (xs ((0 : Int32)).toNatClampNeg) &&& (63 : Int32) = (1 : Int32)) : ∃ M, f_L_law_18 4 xs (59998 + 1 + 1) 0 120 0 Mf = some ((1 : Int32), M) := by
  obtain ⟨rr, M1, M2, h1, h2, h3⟩ := E_ok (op1 (xs (((0 : Int32) + (1 : Int32))).toNatClampNeg))
  exact ⟨_, lw4_1 (n := 59998) hk h1 h2 h3⟩
theorem lq_2 {xs : Nat → Int32} (hk : (xs ((0 : Int32)).toNatClampNeg) &&& (63 : Int32) = (2 : Int32)) : ∃ M, f_L_law_18 4 xs (59998 + 1 + 1) 0 120 0 Mf = some ((1 : Int32), M) := by
  obtain ⟨rr, M1, M2, h1, h2, h3⟩ := E_ok (op2 (xs (((0 : Int32) + (1 : Int32))).toNatClampNeg))
  exact ⟨_, lw4_2 (n := 59998) hk h1 h2 h3⟩
theorem lq_3 {xs : Nat → Int32} (hk : (xs ((0 : Int32)).toNatClampNeg) &&& (63 : Int32) = (3 : Int32)) : ∃ M, f_L_law_18 4 xs (59998 + 1 + 1) 0 120 0 Mf = some ((1 : Int32), M) := by
  obtain ⟨rr, M1, M2, h1, h2, h3⟩ := E_ok (op3 (xs (((0 : Int32) + (1 : Int32))).toNatClampNeg))
  exact ⟨_, lw4_3 (n := 59998) hk h1 h2 h3⟩
theorem lq_4 {xs : Nat → Int32} (hk : (xs ((0 : Int32)).toNatClampNeg) &&& (63 : Int32) = (4 : Int32)) : ∃ M, f_L_law_18 4 xs (59998 + 1 + 1) 0 120 0 Mf = some ((1 : Int32), M) := by
  obtain ⟨rr, M1, M2, h1, h2, h3⟩ := E_ok (op4 (xs (((0 : Int32) + (1 : Int32))).toNatClampNeg))
  exact ⟨_, lw4_4 (n := 59998) hk h1 h2 h3⟩
theorem lq_5 {xs : Nat → Int32} (hk : (xs ((0 : Int32)).toNatClampNeg) &&& (63 : Int32) = (5 : Int32)) : ∃ M, f_L_law_18 4 xs (59998 + 1 + 1) 0 120 0 Mf = some ((1 : Int32), M) := by
  obtain ⟨rr, M1, M2, h1, h2, h3⟩ := E_ok (op5 (xs (((0 : Int32) + (1 : Int32))).toNatClampNeg))
  exact ⟨_, lw4_5 (n := 59998) hk h1 h2 h3⟩
theorem lq_6 {xs : Nat → Int32} (hk : (xs ((0 : Int32)).toNatClampNeg) &&& (63 : Int32) = (6 : Int32)) : ∃ M, f_L_law_18 4 xs (59998 + 1 + 1) 0 120 0 Mf = some ((1 : Int32), M) := by
  obtain ⟨rr, M1, M2, h1, h2, h3⟩ := E_ok (op6 (xs (((0 : Int32) + (1 : Int32))).toNatClampNeg) (xs (((0 : Int32) + (2 : Int32))).toNatClampNeg))
  exact ⟨_, lw4_6 (n := 59998) hk h1 h2 h3⟩
theorem lq_7 {xs : Nat → Int32} (hk : (xs ((0 : Int32)).toNatClampNeg) &&& (63 : Int32) = (7 : Int32)) : ∃ M, f_L_law_18 4 xs (59998 + 1 + 1) 0 120 0 Mf = some ((1 : Int32), M) := by
  obtain ⟨rr, M1, M2, h1, h2, h3⟩ := E_ok (op7 (xs (((0 : Int32) + (1 : Int32))).toNatClampNeg) (xs (((0 : Int32) + (2 : Int32))).toNatClampNeg))
  exact ⟨_, lw4_7 (n := 59998) hk h1 h2 h3⟩
theorem lq_8 {xs : Nat → Int32} (hk : (xs ((0 : Int32)).toNatClampNeg) &&& (63 : Int32) = (8 : Int32)) : ∃ M, f_L_law_18 4 xs (59998 + 1 + 1) 0 120 0 Mf = some ((1 : Int32), M) := by
  obtain ⟨rr, M1, M2, h1, h2, h3⟩ := E_ok (op8 (xs (((0 : Int32) + (1 : Int32))).toNatClampNeg) (xs (((0 : Int32) + (2 : Int32))).toNatClampNeg))
  obtain ⟨g1, z⟩ := lf_ok h1
  clear h1
  subst z
  exact ⟨_, lw4_8 (n := 59998) hk g1 h2 h3⟩
theorem lq_9 {xs : Nat → Int32} (hk : (xs ((0 : Int32)).toNatClampNeg) &&& (63 : Int32) = (9 : Int32)) : ∃ M, f_L_law_18 4 xs (59998 + 1 + 1) 0 120 0 Mf = some ((1 : Int32), M) := by
  obtain ⟨rr, M1, M2, h1, h2, h3⟩ := E_ok (op9 (xs (((0 : Int32) + (1 : Int32))).toNatClampNeg) (xs (((0 : Int32) + (2 : Int32))).toNatClampNeg))
  obtain ⟨g1, z⟩ := lf_ok h1
  clear h1
  subst z
  obtain ⟨g3, _⟩ := lf_ok h3
  exact ⟨_, lw4_9 (n := 59998) hk g1 h2 g3⟩
theorem lq_10 {xs : Nat → Int32} (hk : (xs ((0 : Int32)).toNatClampNeg) &&& (63 : Int32) = (10 : Int32)) : ∃ M, f_L_law_18 4 xs (59998 + 1 + 1) 0 120 0 Mf = some ((1 : Int32), M) := by
  obtain ⟨rr, M1, M2, h1, h2, h3⟩ := E_ok (op10 )
  obtain ⟨g1, z⟩ := lf_ok h1
  clear h1
  subst z
  obtain ⟨g3, _⟩ := lf_ok h3
  exact ⟨_, lw4_10 (n := 59998) hk g1 h2 g3⟩
theorem lq_11 {xs : Nat → Int32} (hk : (xs ((0 : Int32)).toNatClampNeg) &&& (63 : Int32) = (11 : Int32)) : ∃ M, f_L_law_18 4 xs (59998 + 1 + 1) 0 120 0 Mf = some ((1 : Int32), M) := by
  obtain ⟨rr, M1, M2, h1, h2, h3⟩ := E_ok (op11 (xs (((0 : Int32) + (1 : Int32))).toNatClampNeg))
  obtain ⟨g1, z⟩ := lf_ok h1
  clear h1
  subst z
  obtain ⟨g3, _⟩ := lf_ok h3
  exact ⟨_, lw4_11 (n := 59998) hk g1 h2 g3⟩
theorem lq_12 {xs : Nat → Int32} (hk : (xs ((0 : Int32)).toNatClampNeg) &&& (63 : Int32) = (12 : Int32)) : ∃ M, f_L_law_18 4 xs (59998 + 1 + 1) 0 120 0 Mf = some ((1 : Int32), M) := by
  obtain ⟨rr, M1, M2, h1, h2, h3⟩ := E_ok (op12 (xs (((0 : Int32) + (1 : Int32))).toNatClampNeg))
  exact ⟨_, lw4_12 (n := 59998) hk h1 h2 h3⟩
theorem lq_13 {xs : Nat → Int32} (hk : (xs ((0 : Int32)).toNatClampNeg) &&& (63 : Int32) = (13 : Int32)) : ∃ M, f_L_law_18 4 xs (59998 + 1 + 1) 0 120 0 Mf = some ((1 : Int32), M) := by
  obtain ⟨rr, M1, M2, h1, h2, h3⟩ := E_ok (op13 (xs (((0 : Int32) + (1 : Int32))).toNatClampNeg))
  exact ⟨_, lw4_13 (n := 59998) hk h1 h2 h3⟩
theorem lq_14 {xs : Nat → Int32} (hk : (xs ((0 : Int32)).toNatClampNeg) &&& (63 : Int32) = (14 : Int32)) : ∃ M, f_L_law_18 4 xs (59998 + 1 + 1) 0 120 0 Mf = some ((1 : Int32), M) := by
  obtain ⟨rr, M1, M2, h1, h2, h3⟩ := E_ok (op14 )
  obtain ⟨g1, z⟩ := lf_ok h1
  clear h1
  subst z
  obtain ⟨g3, _⟩ := lf_ok h3
  exact ⟨_, lw4_14 (n := 59998) hk g1 h2 g3⟩
theorem lq_15 {xs : Nat → Int32} (hk : (xs ((0 : Int32)).toNatClampNeg) &&& (63 : Int32) = (15 : Int32)) : ∃ M, f_L_law_18 4 xs (59998 + 1 + 1) 0 120 0 Mf = some ((1 : Int32), M) := by
  obtain ⟨rr, M1, M2, h1, h2, h3⟩ := E_ok (op15 (xs (((0 : Int32) + (1 : Int32))).toNatClampNeg))
  exact ⟨_, lw4_15 (n := 59998) hk h1 h2 h3⟩
theorem lq_16 {xs : Nat → Int32} (hk : (xs ((0 : Int32)).toNatClampNeg) &&& (63 : Int32) = (16 : Int32)) : ∃ M, f_L_law_18 4 xs (59998 + 1 + 1) 0 120 0 Mf = some ((1 : Int32), M) := by
  obtain ⟨rr, M1, M2, h1, h2, h3⟩ := E_ok (op16 (xs (((0 : Int32) + (1 : Int32))).toNatClampNeg) (xs (((0 : Int32) + (2 : Int32))).toNatClampNeg))
  exact ⟨_, lw4_16 (n := 59998) hk h1 h2 h3⟩
theorem lq_17 {xs : Nat → Int32} (hk : (xs ((0 : Int32)).toNatClampNeg) &&& (63 : Int32) = (17 : Int32)) : ∃ M, f_L_law_18 4 xs (59998 + 1 + 1) 0 120 0 Mf = some ((1 : Int32), M) := by
  obtain ⟨rr, M1, M2, h1, h2, h3⟩ := E_ok (op17 (xs (((0 : Int32) + (1 : Int32))).toNatClampNeg))
  obtain ⟨g1, z⟩ := lf_ok h1
  clear h1
  subst z
  obtain ⟨g3, _⟩ := lf_ok h3
  exact ⟨_, lw4_17 (n := 59998) hk g1 h2 g3⟩
theorem lq_18 {xs : Nat → Int32} (hk : (xs ((0 : Int32)).toNatClampNeg) &&& (63 : Int32) = (18 : Int32)) : ∃ M, f_L_law_18 4 xs (59998 + 1 + 1) 0 120 0 Mf = some ((1 : Int32), M) := by
  obtain ⟨rr, M1, M2, h1, h2, h3⟩ := E_ok (op18 (xs (((0 : Int32) + (1 : Int32))).toNatClampNeg))
  obtain ⟨g3, _⟩ := lf_ok h3
  exact ⟨_, lw4_18 (n := 59998) hk h1 h2 g3⟩
theorem lq_19 {xs : Nat → Int32} (hk : (xs ((0 : Int32)).toNatClampNeg) &&& (63 : Int32) = (19 : Int32)) : ∃ M, f_L_law_18 4 xs (59998 + 1 + 1) 0 120 0 Mf = some ((1 : Int32), M) := by
  obtain ⟨rr, M1, M2, h1, h2, h3⟩ := E_ok (op19 )
  obtain ⟨g1, z⟩ := lf_ok h1
  clear h1
  subst z
  obtain ⟨g3, _⟩ := lf_ok h3
  exact ⟨_, lw4_19 (n := 59998) hk g1 h2 g3⟩
theorem lq_20 {xs : Nat → Int32} (hk : (xs ((0 : Int32)).toNatClampNeg) &&& (63 : Int32) = (20 : Int32)) : ∃ M, f_L_law_18 4 xs (59998 + 1 + 1) 0 120 0 Mf = some ((1 : Int32), M) := by
  obtain ⟨rr, M1, M2, h1, h2, h3⟩ := E_ok (op20 )
  obtain ⟨g3, _⟩ := lf_ok h3
  exact ⟨_, lw4_20 (n := 59998) hk h1 h2 g3⟩
theorem lq_21 {xs : Nat → Int32} (hk : (xs ((0 : Int32)).toNatClampNeg) &&& (63 : Int32) = (21 : Int32)) : ∃ M, f_L_law_18 4 xs (59998 + 1 + 1) 0 120 0 Mf = some ((1 : Int32), M) := by
  obtain ⟨rr, M1, M2, h1, h2, h3⟩ := E_ok (op21 (xs (((0 : Int32) + (1 : Int32))).toNatClampNeg))
  exact ⟨_, lw4_21 (n := 59998) hk h1 h2 h3⟩
theorem lq_22 {xs : Nat → Int32} (hk : (xs ((0 : Int32)).toNatClampNeg) &&& (63 : Int32) = (22 : Int32)) : ∃ M, f_L_law_18 4 xs (59998 + 1 + 1) 0 120 0 Mf = some ((1 : Int32), M) := by
  obtain ⟨rr, M1, M2, h1, h2, h3⟩ := E_ok (op22 (xs (((0 : Int32) + (1 : Int32))).toNatClampNeg))
  exact ⟨_, lw4_22 (n := 59998) hk h1 h2 h3⟩
theorem lq_23 {xs : Nat → Int32} (hk : (xs ((0 : Int32)).toNatClampNeg) &&& (63 : Int32) = (23 : Int32)) : ∃ M, f_L_law_18 4 xs (59998 + 1 + 1) 0 120 0 Mf = some ((1 : Int32), M) := by
  obtain ⟨rr, M1, M2, h1, h2, h3⟩ := E_ok (op23 (xs (((0 : Int32) + (1 : Int32))).toNatClampNeg) (xs (((0 : Int32) + (2 : Int32))).toNatClampNeg))
  exact ⟨_, lw4_23 (n := 59998) hk h1 h2 h3⟩
theorem lq_24 {xs : Nat → Int32} (hk : (xs ((0 : Int32)).toNatClampNeg) &&& (63 : Int32) = (24 : Int32)) : ∃ M, f_L_law_18 4 xs (59998 + 1 + 1) 0 120 0 Mf = some ((1 : Int32), M) := by
  obtain ⟨rr, M1, M2, h1, h2, h3⟩ := E_ok (op24 (xs (((0 : Int32) + (1 : Int32))).toNatClampNeg))
  exact ⟨_, lw4_24 (n := 59998) hk h1 h2 h3⟩
theorem lq_25 {xs : Nat → Int32} (hk : (xs ((0 : Int32)).toNatClampNeg) &&& (63 : Int32) = (25 : Int32)) : ∃ M, f_L_law_18 4 xs (59998 + 1 + 1) 0 120 0 Mf = some ((1 : Int32), M) := by
  obtain ⟨rr, M1, M2, h1, h2, h3⟩ := E_ok (op25 (xs (((0 : Int32) + (1 : Int32))).toNatClampNeg))
  exact ⟨_, lw4_25 (n := 59998) hk h1 h2 h3⟩
theorem lq_26 {xs : Nat → Int32} (hk : (xs ((0 : Int32)).toNatClampNeg) &&& (63 : Int32) = (26 : Int32)) : ∃ M, f_L_law_18 4 xs (59998 + 1 + 1) 0 120 0 Mf = some ((1 : Int32), M) := by
  obtain ⟨rr, M1, M2, h1, h2, h3⟩ := E_ok (op26 (xs (((0 : Int32) + (1 : Int32))).toNatClampNeg))
  exact ⟨_, lw4_26 (n := 59998) hk h1 h2 h3⟩
theorem lq_27 {xs : Nat → Int32} (hk : (xs ((0 : Int32)).toNatClampNeg) &&& (63 : Int32) = (27 : Int32)) : ∃ M, f_L_law_18 4 xs (59998 + 1 + 1) 0 120 0 Mf = some ((1 : Int32), M) := by
  obtain ⟨rr, M1, M2, h1, h2, h3⟩ := E_ok (op27 (xs (((0 : Int32) + (1 : Int32))).toNatClampNeg) (xs (((0 : Int32) + (2 : Int32))).toNatClampNeg))
  obtain ⟨g1, z⟩ := lf_ok h1
  clear h1
  subst z
  obtain ⟨g3, _⟩ := lf_ok h3
  exact ⟨_, lw4_27 (n := 59998) hk g1 h2 g3⟩
theorem lq_28 {xs : Nat → Int32} (hk : (xs ((0 : Int32)).toNatClampNeg) &&& (63 : Int32) = (28 : Int32)) : ∃ M, f_L_law_18 4 xs (59998 + 1 + 1) 0 120 0 Mf = some ((1 : Int32), M) := by
  obtain ⟨rr, M1, M2, h1, h2, h3⟩ := E_ok (op28 (xs (((0 : Int32) + (1 : Int32))).toNatClampNeg) (xs (((0 : Int32) + (2 : Int32))).toNatClampNeg))
  obtain ⟨g1, z⟩ := lf_ok h1
  clear h1
  subst z
  obtain ⟨g3, _⟩ := lf_ok h3
  exact ⟨_, lw4_28 (n := 59998) hk g1 h2 g3⟩
theorem lq_29 {xs : Nat → Int32} (hk : (xs ((0 : Int32)).toNatClampNeg) &&& (63 : Int32) = (29 : Int32)) : ∃ M, f_L_law_18 4 xs (59998 + 1 + 1) 0 120 0 Mf = some ((1 : Int32), M) := by
  obtain ⟨rr, M1, M2, h1, h2, h3⟩ := E_ok (op29 (xs (((0 : Int32) + (1 : Int32))).toNatClampNeg) (xs (((0 : Int32) + (2 : Int32))).toNatClampNeg) (xs (((0 : Int32) + (3 : Int32))).toNatClampNeg))
  obtain ⟨g1, z⟩ := lf_ok h1
  clear h1
  subst z
  obtain ⟨g3, _⟩ := lf_ok h3
  exact ⟨_, lw4_29 (n := 59998) hk g1 h2 g3⟩
theorem lq_30 {xs : Nat → Int32} (hk : (xs ((0 : Int32)).toNatClampNeg) &&& (63 : Int32) = (30 : Int32)) : ∃ M, f_L_law_18 4 xs (59998 + 1 + 1) 0 120 0 Mf = some ((1 : Int32), M) := by
  obtain ⟨rr, M1, M2, h1, h2, h3⟩ := E_ok (op30 (xs (((0 : Int32) + (1 : Int32))).toNatClampNeg) (xs (((0 : Int32) + (2 : Int32))).toNatClampNeg) (xs (((0 : Int32) + (3 : Int32))).toNatClampNeg))
  obtain ⟨g1, z⟩ := lf_ok h1
  clear h1
  subst z
  obtain ⟨g3, _⟩ := lf_ok h3
  exact ⟨_, lw4_30 (n := 59998) hk g1 h2 g3⟩
theorem lq_31 {xs : Nat → Int32} (hk : (xs ((0 : Int32)).toNatClampNeg) &&& (63 : Int32) = (31 : Int32)) : ∃ M, f_L_law_18 4 xs (59998 + 1 + 1) 0 120 0 Mf = some ((1 : Int32), M) := by
  obtain ⟨rr, M1, M2, h1, h2, h3⟩ := E_ok (op31 (xs (((0 : Int32) + (1 : Int32))).toNatClampNeg))
  exact ⟨_, lw4_31 (n := 59998) hk h1 h2 h3⟩
theorem lq_32 {xs : Nat → Int32} (hk : (xs ((0 : Int32)).toNatClampNeg) &&& (63 : Int32) = (32 : Int32)) : ∃ M, f_L_law_18 4 xs (59998 + 1 + 1) 0 120 0 Mf = some ((1 : Int32), M) := by
  obtain ⟨rr, M1, M2, h1, h2, h3⟩ := E_ok (op32 (xs (((0 : Int32) + (1 : Int32))).toNatClampNeg))
  obtain ⟨g1, z⟩ := lf_ok h1
  clear h1
  subst z
  obtain ⟨g3, _⟩ := lf_ok h3
  exact ⟨_, lw4_32 (n := 59998) hk g1 h2 g3⟩
theorem lq_33 {xs : Nat → Int32} (hk : (xs ((0 : Int32)).toNatClampNeg) &&& (63 : Int32) = (33 : Int32)) : ∃ M, f_L_law_18 4 xs (59998 + 1 + 1) 0 120 0 Mf = some ((1 : Int32), M) := by
  obtain ⟨rr, M1, M2, h1, h2, h3⟩ := E_ok (op33 (xs (((0 : Int32) + (1 : Int32))).toNatClampNeg))
  obtain ⟨g1, z⟩ := lf_ok h1
  clear h1
  subst z
  obtain ⟨g3, _⟩ := lf_ok h3
  exact ⟨_, lw4_33 (n := 59998) hk g1 h2 g3⟩
theorem lq_34 {xs : Nat → Int32} (hk : (xs ((0 : Int32)).toNatClampNeg) &&& (63 : Int32) = (34 : Int32)) : ∃ M, f_L_law_18 4 xs (59998 + 1 + 1) 0 120 0 Mf = some ((1 : Int32), M) := by
  obtain ⟨rr, M1, M2, h1, h2, h3⟩ := E_ok (op34 (xs (((0 : Int32) + (1 : Int32))).toNatClampNeg) (xs (((0 : Int32) + (2 : Int32))).toNatClampNeg))
  obtain ⟨g1, z⟩ := lf_ok h1
  clear h1
  subst z
  obtain ⟨g3, _⟩ := lf_ok h3
  exact ⟨_, lw4_34 (n := 59998) hk g1 h2 g3⟩
theorem lq_35 {xs : Nat → Int32} (hk : (xs ((0 : Int32)).toNatClampNeg) &&& (63 : Int32) = (35 : Int32)) : ∃ M, f_L_law_18 4 xs (59998 + 1 + 1) 0 120 0 Mf = some ((1 : Int32), M) := by
  obtain ⟨rr, M1, M2, h1, h2, h3⟩ := E_ok (op35 (xs (((0 : Int32) + (1 : Int32))).toNatClampNeg))
  obtain ⟨g1, z⟩ := lf_ok h1
  clear h1
  subst z
  obtain ⟨g3, _⟩ := lf_ok h3
  exact ⟨_, lw4_35 (n := 59998) hk g1 h2 g3⟩
theorem lq_36 {xs : Nat → Int32} (hk : (xs ((0 : Int32)).toNatClampNeg) &&& (63 : Int32) = (36 : Int32)) : ∃ M, f_L_law_18 4 xs (59998 + 1 + 1) 0 120 0 Mf = some ((1 : Int32), M) := by
  obtain ⟨rr, M1, M2, h1, h2, h3⟩ := E_ok (op36 (xs (((0 : Int32) + (1 : Int32))).toNatClampNeg))
  obtain ⟨g1, z⟩ := lf_ok h1
  clear h1
  subst z
  obtain ⟨g3, _⟩ := lf_ok h3
  exact ⟨_, lw4_36 (n := 59998) hk g1 h2 g3⟩
theorem lq_37 {xs : Nat → Int32} (hk : (xs ((0 : Int32)).toNatClampNeg) &&& (63 : Int32) = (37 : Int32)) : ∃ M, f_L_law_18 4 xs (59998 + 1 + 1) 0 120 0 Mf = some ((1 : Int32), M) := by
  obtain ⟨rr, M1, M2, h1, h2, h3⟩ := E_ok (op37 (xs (((0 : Int32) + (1 : Int32))).toNatClampNeg))
  obtain ⟨g1, z⟩ := lf_ok h1
  clear h1
  subst z
  obtain ⟨g3, _⟩ := lf_ok h3
  exact ⟨_, lw4_37 (n := 59998) hk g1 h2 g3⟩
theorem lq_38 {xs : Nat → Int32} (hk : (xs ((0 : Int32)).toNatClampNeg) &&& (63 : Int32) = (38 : Int32)) : ∃ M, f_L_law_18 4 xs (59998 + 1 + 1) 0 120 0 Mf = some ((1 : Int32), M) := by
  obtain ⟨rr, M1, M2, h1, h2, h3⟩ := E_ok (op38 (xs (((0 : Int32) + (1 : Int32))).toNatClampNeg) (xs (((0 : Int32) + (2 : Int32))).toNatClampNeg))
  obtain ⟨g1, z⟩ := lf_ok h1
  clear h1
  subst z
  obtain ⟨g3, _⟩ := lf_ok h3
  exact ⟨_, lw4_38 (n := 59998) hk g1 h2 g3⟩
theorem lq_39 {xs : Nat → Int32} (hk : (xs ((0 : Int32)).toNatClampNeg) &&& (63 : Int32) = (39 : Int32)) : ∃ M, f_L_law_18 4 xs (59998 + 1 + 1) 0 120 0 Mf = some ((1 : Int32), M) := by
  obtain ⟨rr, M1, M2, h1, h2, h3⟩ := E_ok (op39 (xs (((0 : Int32) + (1 : Int32))).toNatClampNeg) (xs (((0 : Int32) + (2 : Int32))).toNatClampNeg))
  exact ⟨_, lw4_39 (n := 59998) hk h1 h2 h3⟩
theorem lq_40 {xs : Nat → Int32} (hk : (xs ((0 : Int32)).toNatClampNeg) &&& (63 : Int32) = (40 : Int32)) : ∃ M, f_L_law_18 4 xs (59998 + 1 + 1) 0 120 0 Mf = some ((1 : Int32), M) := by
  obtain ⟨rr, M1, M2, h1, h2, h3⟩ := E_ok (op40 (xs (((0 : Int32) + (1 : Int32))).toNatClampNeg) (xs (((0 : Int32) + (2 : Int32))).toNatClampNeg))
  exact ⟨_, lw4_40 (n := 59998) hk h1 h2 h3⟩
theorem lq_41 {xs : Nat → Int32} (hk : (xs ((0 : Int32)).toNatClampNeg) &&& (63 : Int32) = (41 : Int32)) : ∃ M, f_L_law_18 4 xs (59998 + 1 + 1) 0 120 0 Mf = some ((1 : Int32), M) := by
  obtain ⟨rr, M1, M2, h1, h2, h3⟩ := E_ok (op41 (xs (((0 : Int32) + (1 : Int32))).toNatClampNeg) (xs (((0 : Int32) + (2 : Int32))).toNatClampNeg))
  exact ⟨_, lw4_41 (n := 59998) hk h1 h2 h3⟩
theorem lq_42 {xs : Nat → Int32} (hk : (xs ((0 : Int32)).toNatClampNeg) &&& (63 : Int32) = (42 : Int32)) : ∃ M, f_L_law_18 4 xs (59998 + 1 + 1) 0 120 0 Mf = some ((1 : Int32), M) := by
  obtain ⟨rr, M1, M2, h1, h2, h3⟩ := E_ok (op42 (xs (((0 : Int32) + (1 : Int32))).toNatClampNeg) (xs (((0 : Int32) + (2 : Int32))).toNatClampNeg) (xs (((0 : Int32) + (3 : Int32))).toNatClampNeg))
  exact ⟨_, lw4_42 (n := 59998) hk h1 h2 h3⟩
theorem lq_43 {xs : Nat → Int32} (hk : (xs ((0 : Int32)).toNatClampNeg) &&& (63 : Int32) = (43 : Int32)) : ∃ M, f_L_law_18 4 xs (59998 + 1 + 1) 0 120 0 Mf = some ((1 : Int32), M) := by
  obtain ⟨rr, M1, M2, h1, h2, h3⟩ := E_ok (op43 (xs (((0 : Int32) + (1 : Int32))).toNatClampNeg) (xs (((0 : Int32) + (2 : Int32))).toNatClampNeg) (xs (((0 : Int32) + (3 : Int32))).toNatClampNeg))
  exact ⟨_, lw4_43 (n := 59998) hk h1 h2 h3⟩
theorem lq_44 {xs : Nat → Int32} (hk : (xs ((0 : Int32)).toNatClampNeg) &&& (63 : Int32) = (44 : Int32)) : ∃ M, f_L_law_18 4 xs (59998 + 1 + 1) 0 120 0 Mf = some ((1 : Int32), M) := by
  obtain ⟨rr, M1, M2, h1, h2, h3⟩ := E_ok (op44 (xs (((0 : Int32) + (1 : Int32))).toNatClampNeg) (xs (((0 : Int32) + (2 : Int32))).toNatClampNeg) (xs (((0 : Int32) + (3 : Int32))).toNatClampNeg))
  exact ⟨_, lw4_44 (n := 59998) hk h1 h2 h3⟩
theorem lq_45 {xs : Nat → Int32} (hk : (xs ((0 : Int32)).toNatClampNeg) &&& (63 : Int32) = (45 : Int32)) : ∃ M, f_L_law_18 4 xs (59998 + 1 + 1) 0 120 0 Mf = some ((1 : Int32), M) := by
  obtain ⟨rr, M1, M2, h1, h2, h3⟩ := E_ok (op45 (xs (((0 : Int32) + (1 : Int32))).toNatClampNeg) (xs (((0 : Int32) + (2 : Int32))).toNatClampNeg))
  exact ⟨_, lw4_45 (n := 59998) hk h1 h2 h3⟩
theorem lq_46 {xs : Nat → Int32} (hk : (xs ((0 : Int32)).toNatClampNeg) &&& (63 : Int32) = (46 : Int32)) : ∃ M, f_L_law_18 4 xs (59998 + 1 + 1) 0 120 0 Mf = some ((1 : Int32), M) := by
  obtain ⟨rr, M1, M2, h1, h2, h3⟩ := E_ok (op46 (xs (((0 : Int32) + (1 : Int32))).toNatClampNeg) (xs (((0 : Int32) + (2 : Int32))).toNatClampNeg) (xs (((0 : Int32) + (3 : Int32))).toNatClampNeg))
  exact ⟨_, lw4_46 (n := 59998) hk h1 h2 h3⟩
theorem lq_47 {xs : Nat → Int32} (hk : (xs ((0 : Int32)).toNatClampNeg) &&& (63 : Int32) = (47 : Int32)) : ∃ M, f_L_law_18 4 xs (59998 + 1 + 1) 0 120 0 Mf = some ((1 : Int32), M) := by
  obtain ⟨rr, M1, M2, h1, h2, h3⟩ := E_ok (op47 )
  obtain ⟨g1, z⟩ := lf_ok h1
  clear h1
  subst z
  obtain ⟨g3, _⟩ := lf_ok h3
  exact ⟨_, lw4_47 (n := 59998) hk g1 h2 g3⟩
theorem lq_48 {xs : Nat → Int32} (hk : (xs ((0 : Int32)).toNatClampNeg) &&& (63 : Int32) = (48 : Int32)) : ∃ M, f_L_law_18 4 xs (59998 + 1 + 1) 0 120 0 Mf = some ((1 : Int32), M) := by
  exact ⟨_, lw4_48 (n := 59998) hk op48.1 Mf_10 op48.2⟩
theorem lq_df {xs : Nat → Int32} {k : Nat} (h49 : 49 ≤ k) (h64 : k < 64) (hk : (xs ((0 : Int32)).toNatClampNeg) &&& (63 : Int32) = nI k) : ∃ M, f_L_law_18 4 xs (59998 + 1 + 1) 0 120 0 Mf = some ((1 : Int32), M) := by
  have n : ∀ j, j < 49 → ¬ nI k = nI j := fun j hj => nI_ne (by omega) (by omega) (by omega)
  refine ⟨Mf, ?_⟩
  rw [f_L_law_18, if_neg (by decide), chk_t (by decide), bnd_e, hk]
  rw [if_neg (show ¬ nI k = (0 : Int32) from n 0 (by decide))]
  rw [if_neg (show ¬ nI k = (1 : Int32) from n 1 (by decide))]
  rw [if_neg (show ¬ nI k = (2 : Int32) from n 2 (by decide))]
  rw [if_neg (show ¬ nI k = (3 : Int32) from n 3 (by decide))]
  rw [if_neg (show ¬ nI k = (4 : Int32) from n 4 (by decide))]
  rw [if_neg (show ¬ nI k = (5 : Int32) from n 5 (by decide))]
  rw [if_neg (show ¬ nI k = (6 : Int32) from n 6 (by decide))]
  rw [if_neg (show ¬ nI k = (7 : Int32) from n 7 (by decide))]
  rw [if_neg (show ¬ nI k = (8 : Int32) from n 8 (by decide))]
  rw [if_neg (show ¬ nI k = (9 : Int32) from n 9 (by decide))]
  rw [if_neg (show ¬ nI k = (10 : Int32) from n 10 (by decide))]
  rw [if_neg (show ¬ nI k = (11 : Int32) from n 11 (by decide))]
  rw [if_neg (show ¬ nI k = (12 : Int32) from n 12 (by decide))]
  rw [if_neg (show ¬ nI k = (13 : Int32) from n 13 (by decide))]
  rw [if_neg (show ¬ nI k = (14 : Int32) from n 14 (by decide))]
  rw [if_neg (show ¬ nI k = (15 : Int32) from n 15 (by decide))]
  rw [if_neg (show ¬ nI k = (16 : Int32) from n 16 (by decide))]
  rw [if_neg (show ¬ nI k = (17 : Int32) from n 17 (by decide))]
  rw [if_neg (show ¬ nI k = (18 : Int32) from n 18 (by decide))]
  rw [if_neg (show ¬ nI k = (19 : Int32) from n 19 (by decide))]
  rw [if_neg (show ¬ nI k = (20 : Int32) from n 20 (by decide))]
  rw [if_neg (show ¬ nI k = (21 : Int32) from n 21 (by decide))]
  rw [if_neg (show ¬ nI k = (22 : Int32) from n 22 (by decide))]
  rw [if_neg (show ¬ nI k = (23 : Int32) from n 23 (by decide))]
  rw [if_neg (show ¬ nI k = (24 : Int32) from n 24 (by decide))]
  rw [if_neg (show ¬ nI k = (25 : Int32) from n 25 (by decide))]
  rw [if_neg (show ¬ nI k = (26 : Int32) from n 26 (by decide))]
  rw [if_neg (show ¬ nI k = (27 : Int32) from n 27 (by decide))]
  rw [if_neg (show ¬ nI k = (28 : Int32) from n 28 (by decide))]
  rw [if_neg (show ¬ nI k = (29 : Int32) from n 29 (by decide))]
  rw [if_neg (show ¬ nI k = (30 : Int32) from n 30 (by decide))]
  rw [if_neg (show ¬ nI k = (31 : Int32) from n 31 (by decide))]
  rw [if_neg (show ¬ nI k = (32 : Int32) from n 32 (by decide))]
  rw [if_neg (show ¬ nI k = (33 : Int32) from n 33 (by decide))]
  rw [if_neg (show ¬ nI k = (34 : Int32) from n 34 (by decide))]
  rw [if_neg (show ¬ nI k = (35 : Int32) from n 35 (by decide))]
  rw [if_neg (show ¬ nI k = (36 : Int32) from n 36 (by decide))]
  rw [if_neg (show ¬ nI k = (37 : Int32) from n 37 (by decide))]
  rw [if_neg (show ¬ nI k = (38 : Int32) from n 38 (by decide))]
  rw [if_neg (show ¬ nI k = (39 : Int32) from n 39 (by decide))]
  rw [if_neg (show ¬ nI k = (40 : Int32) from n 40 (by decide))]
  rw [if_neg (show ¬ nI k = (41 : Int32) from n 41 (by decide))]
  rw [if_neg (show ¬ nI k = (42 : Int32) from n 42 (by decide))]
  rw [if_neg (show ¬ nI k = (43 : Int32) from n 43 (by decide))]
  rw [if_neg (show ¬ nI k = (44 : Int32) from n 44 (by decide))]
  rw [if_neg (show ¬ nI k = (45 : Int32) from n 45 (by decide))]
  rw [if_neg (show ¬ nI k = (46 : Int32) from n 46 (by decide))]
  rw [if_neg (show ¬ nI k = (47 : Int32) from n 47 (by decide))]
  rw [if_neg (show ¬ nI k = (48 : Int32) from n 48 (by decide))]
  first
    | rw [bnd_e, f_L_law_18, if_pos (by decide)]
    | rw [f_L_law_18, if_pos (by decide)]
    | rfl
theorem and63 (x : Int32) : ∃ k, k < 64 ∧ x &&& (63 : Int32) = nI k := by
  refine ⟨x.toBitVec.toNat &&& 63, by have := @Nat.and_le_right x.toBitVec.toNat 63; omega, ?_⟩
  rw [← nx_and, ← nI_tn x]
  rfl
theorem lq_all (xs : Nat → Int32) : ∃ M, f_L_law_18 4 xs (59998 + 1 + 1) 0 120 0 Mf = some ((1 : Int32), M) := by
  obtain ⟨k, hk, e⟩ := and63 (xs ((0 : Int32)).toNatClampNeg)
  by_cases c0 : k = 0
  · exact lq_0 (by rw [e, c0]; rfl)
  by_cases c1 : k = 1
  · exact lq_1 (by rw [e, c1]; rfl)
  by_cases c2 : k = 2
  · exact lq_2 (by rw [e, c2]; rfl)
  by_cases c3 : k = 3
  · exact lq_3 (by rw [e, c3]; rfl)
  by_cases c4 : k = 4
  · exact lq_4 (by rw [e, c4]; rfl)
  by_cases c5 : k = 5
  · exact lq_5 (by rw [e, c5]; rfl)
  by_cases c6 : k = 6
  · exact lq_6 (by rw [e, c6]; rfl)
  by_cases c7 : k = 7
  · exact lq_7 (by rw [e, c7]; rfl)
  by_cases c8 : k = 8
  · exact lq_8 (by rw [e, c8]; rfl)
  by_cases c9 : k = 9
  · exact lq_9 (by rw [e, c9]; rfl)
  by_cases c10 : k = 10
  · exact lq_10 (by rw [e, c10]; rfl)
  by_cases c11 : k = 11
  · exact lq_11 (by rw [e, c11]; rfl)
  by_cases c12 : k = 12
  · exact lq_12 (by rw [e, c12]; rfl)
  by_cases c13 : k = 13
  · exact lq_13 (by rw [e, c13]; rfl)
  by_cases c14 : k = 14
  · exact lq_14 (by rw [e, c14]; rfl)
  by_cases c15 : k = 15
  · exact lq_15 (by rw [e, c15]; rfl)
  by_cases c16 : k = 16
  · exact lq_16 (by rw [e, c16]; rfl)
  by_cases c17 : k = 17
  · exact lq_17 (by rw [e, c17]; rfl)
  by_cases c18 : k = 18
  · exact lq_18 (by rw [e, c18]; rfl)
  by_cases c19 : k = 19
  · exact lq_19 (by rw [e, c19]; rfl)
  by_cases c20 : k = 20
  · exact lq_20 (by rw [e, c20]; rfl)
  by_cases c21 : k = 21
  · exact lq_21 (by rw [e, c21]; rfl)
  by_cases c22 : k = 22
  · exact lq_22 (by rw [e, c22]; rfl)
  by_cases c23 : k = 23
  · exact lq_23 (by rw [e, c23]; rfl)
  by_cases c24 : k = 24
  · exact lq_24 (by rw [e, c24]; rfl)
  by_cases c25 : k = 25
  · exact lq_25 (by rw [e, c25]; rfl)
  by_cases c26 : k = 26
  · exact lq_26 (by rw [e, c26]; rfl)
  by_cases c27 : k = 27
  · exact lq_27 (by rw [e, c27]; rfl)
  by_cases c28 : k = 28
  · exact lq_28 (by rw [e, c28]; rfl)
  by_cases c29 : k = 29
  · exact lq_29 (by rw [e, c29]; rfl)
  by_cases c30 : k = 30
  · exact lq_30 (by rw [e, c30]; rfl)
  by_cases c31 : k = 31
  · exact lq_31 (by rw [e, c31]; rfl)
  by_cases c32 : k = 32
  · exact lq_32 (by rw [e, c32]; rfl)
  by_cases c33 : k = 33
  · exact lq_33 (by rw [e, c33]; rfl)
  by_cases c34 : k = 34
  · exact lq_34 (by rw [e, c34]; rfl)
  by_cases c35 : k = 35
  · exact lq_35 (by rw [e, c35]; rfl)
  by_cases c36 : k = 36
  · exact lq_36 (by rw [e, c36]; rfl)
  by_cases c37 : k = 37
  · exact lq_37 (by rw [e, c37]; rfl)
  by_cases c38 : k = 38
  · exact lq_38 (by rw [e, c38]; rfl)
  by_cases c39 : k = 39
  · exact lq_39 (by rw [e, c39]; rfl)
  by_cases c40 : k = 40
  · exact lq_40 (by rw [e, c40]; rfl)
  by_cases c41 : k = 41
  · exact lq_41 (by rw [e, c41]; rfl)
  by_cases c42 : k = 42
  · exact lq_42 (by rw [e, c42]; rfl)
  by_cases c43 : k = 43
  · exact lq_43 (by rw [e, c43]; rfl)
  by_cases c44 : k = 44
  · exact lq_44 (by rw [e, c44]; rfl)
  by_cases c45 : k = 45
  · exact lq_45 (by rw [e, c45]; rfl)
  by_cases c46 : k = 46
  · exact lq_46 (by rw [e, c46]; rfl)
  by_cases c47 : k = 47
  · exact lq_47 (by rw [e, c47]; rfl)
  by_cases c48 : k = 48
  · exact lq_48 (by rw [e, c48]; rfl)
  exact lq_df (by omega) hk e
theorem law_t {L : Nat} (hL : L ≤ 4) (xs : Nat → Int32) : ∃ M, f_L_law L xs FU memE = some ((1 : Int32), M) := by
  by_cases c : L < 4
  · exact ⟨_, law_0 c xs⟩
  · have e : L = 4 := by omega
    obtain ⟨M, h⟩ := lq_all xs
    refine ⟨M, ?_⟩
    rw [e, law_pre]
    exact h
