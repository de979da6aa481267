/-! ===== goOn on the fresh objects ===== -/
theorem mI_sL (M : Mem) (o k : Nat) (x : Int64) (a b : Nat) : mI (sL M o k x) a b = mI M a b := rfl
theorem mR_sL (M : Mem) (o k : Nat) (x : Int64) (a b : Nat) : mR (sL M o k x) a b = mR M a b := rfl
theorem mLn_sL (M : Mem) (o k : Nat) (x : Int64) (a : Nat) : mLn (sL M o k x) a = mLn M a := rfl
theorem bc_M (a : Int32) (M M' : Mem) : f_J6_bitCount_0f7a4 a M = f_J6_bitCount_0f7a4 a M' := rfl
theorem cm_L (M : Mem) (o k : Nat) (x : Int64) (n : Nat) : ∀ a b c, f_X2_countMoves_10 (sL M o k x) n a b c = f_X2_countMoves_10 M n a b c := by
  induction n with
  | zero => intros; rfl
  | succ n ih =>
    intro a b c
    rw [f_X2_countMoves_10, f_X2_countMoves_10]
    simp only [ih]
    rfl
theorem cm_L2 (M : Mem) (o k : Nat) (x : Int64) (n a : Nat) : f_X2_countMoves n a (sL M o k x) = f_X2_countMoves n a M := by
  rw [f_X2_countMoves, f_X2_countMoves]
  simp only [cm_L]
  rfl
/-- a row of the reference on which nothing can move -/
def Still (M : Mem) : Prop := RK M 120 121 ∧ mI M 121 850 = 0 ∧ mI M 121 0 = 4 ∧ (∀ v, v < 4 → mI M 121 (18 + 8 * v) = 0) ∧ mI M 120 7 = 0
set_option maxRecDepth 1000000 in
theorem MA_I1207 : mI MA0 120 7 = 0 := by decide +kernel
set_option maxRecDepth 1000000 in
theorem op21_g : (List.range 4).all (fun k => decide (f_X10_get 120 (nI k) 0 Mf = some 0)) = true := by decide +kernel
theorem Mf_still : Still Mf := by
  refine ⟨Mf_RK, fr_z.2.2, fIr0, ?_, ?_⟩
  · intro v hv
    have h := f_get (v := v) (w := 0) Mf_RK (by omega) (by omega)
    have q := all_k op21_g hv
    have q2 : f_X10_get 120 (nI v) 0 Mf = some 0 := of_decide_eq_true q
    rw [show nI 0 = (0 : Int32) from rfl, q2] at h
    exact (Option.some.inj h).symm
  · rw [Mf_o (by decide)]; exact MA_I1207
theorem Still.L {M : Mem} (h : Still M) (o k : Nat) (x : Int64) : Still (sL M o k x) := h
theorem Still.I {M : Mem} (h : Still M) (x : Int32) : Still (sI M 120 6 x) := by
  refine ⟨h.1.s _ _ _, ?_, ?_, ?_, ?_⟩
  · rw [mI_o _ _ _ _ _ (by decide)]; exact h.2.1
  · rw [mI_o _ _ _ _ _ (by decide)]; exact h.2.2.1
  · intro v hv
    rw [mI_o _ _ _ _ _ (by decide)]; exact h.2.2.2.1 v hv
  · rw [mI_n _ _ _ _ (by decide)]; exact h.2.2.2.2
theorem stIn0 {M : Mem} (h : Still M) : inB (0 : Int32) (mLn M 121) := rk_in (k := 0) h.1 (by decide)
theorem still0 {M : Mem} (h : Still M) : mI M 121 ((0 : Int32)).toNatClampNeg = 4 := h.2.2.1
theorem hasX0 : ∀ k, k < 4 → ∀ M, f_X10_has 0 (nI k) M = some 0 := fun k hk M => of_decide_eq_true (all_k (P := fun k => decide (f_X10_has 0 (nI k) memE = some 0)) (N := 4) (by decide +kernel) hk)
theorem lay136 {M : Mem} (h : Still M) (d j : Nat) (hd : d ≤ 4) : f_X10_layMoves_136 (d + j + 1) 120 (nI (4 - d)) M = some M := by
  induction d with
  | zero =>
    rw [Nat.zero_add, f_X10_layMoves_136, chk_t h.1.1, h.1.2.1, bnd_e, chk_t h.1.2.2.1, chk_t (stIn0 h), still0 h, if_pos (by decide)]
  | succ d ih =>
    have hk : 4 - (d + 1) < 4 := by omega
    have e1 : nI (4 - (d + 1)) + 1 = nI (4 - d) := by rw [nI_1]; congr 1; omega
    have hn : ¬ (4 : Int32) ≤ nI (4 - (d + 1)) := by
      rw [show (4 : Int32) = nI 4 from rfl]
      exact nI_ge hk (by decide)
    rw [show d + 1 + j + 1 = (d + j + 1) + 1 by omega, f_X10_layMoves_136, chk_t h.1.1, h.1.2.1, bnd_e, chk_t h.1.2.2.1, chk_t (stIn0 h), still0 h, if_neg hn, h.2.2.2.2, hasX0 _ hk, obd_s, if_pos rfl, bnd_e, e1]
    exact ih (by omega)
theorem lay83 {M : Mem} (h : Still M) (d j : Nat) (hd : d ≤ 4) : f_X10_layMoves_83 (d + j + 6) 120 (nI (4 - d)) M = some M := by
  induction d with
  | zero =>
    rw [show 0 + j + 6 = (j + 5) + 1 by omega, f_X10_layMoves_83, chk_t h.1.1, h.1.2.1, bnd_e, chk_t h.1.2.2.1, chk_t (stIn0 h), still0 h, if_pos (by decide)]
    have q := lay136 h 4 j (Nat.le_refl _)
    rw [show 4 + j + 1 = j + 5 by omega] at q
    exact q
  | succ d ih =>
    have hk : 4 - (d + 1) < 4 := by omega
    have e1 : nI (4 - (d + 1)) + 1 = nI (4 - d) := by rw [nI_1]; congr 1; omega
    have hn : ¬ (4 : Int32) ≤ nI (4 - (d + 1)) := by
      rw [show (4 : Int32) = nI 4 from rfl]
      exact nI_ge hk (by decide)
    have hg : f_X10_get 120 (nI (4 - (d + 1))) 0 M = some 0 := by
      have q := f_get (v := 4 - (d + 1)) (w := 0) h.1 (by omega) (by omega)
      rw [show 18 + 8 * (4 - (d + 1)) + 0 = 18 + 8 * (4 - (d + 1)) by omega, h.2.2.2.1 _ hk] at q
      exact q
    rw [show d + 1 + j + 6 = (d + j + 6) + 1 by omega, f_X10_layMoves_83, chk_t h.1.1, h.1.2.1, bnd_e, chk_t h.1.2.2.1, chk_t (stIn0 h), still0 h, if_neg hn, hg, obd_s, if_neg (by decide), bnd_e, e1]
    exact ih (by omega)
theorem layF {M : Mem} (h : Still M) (j : Nat) : f_X10_layMoves (j + 11) 120 M = some (sI M 120 6 0) := by
  have h1 := h.I 0
  have iN : inB (850 : Int32) (mLn (sI M 120 6 0) 121) := by
    rw [show (850 : Int32) = nI 850 from rfl]
    exact rk_in h1.1 (by decide)
  have z : mI (sI M 120 6 0) 121 ((850 : Int32)).toNatClampNeg = 0 := by
    rw [show (850 : Int32) = nI 850 from rfl, nI_clamp (by decide)]
    exact h1.2.1
  rw [f_X10_layMoves, chk_t h.1.1, bnd_e, show j + 11 = (j + 10) + 1 by omega, f_X10_layMoves_9, chk_t h1.1.1, h1.1.2.1, bnd_e, chk_t h1.1.2.2.1, chk_t iN, z, if_pos (by decide)]
  have q := lay83 h1 4 j (Nat.le_refl _)
  rw [show 4 + j + 6 = j + 10 by omega] at q
  exact q
theorem goOnceF {M : Mem} (h : Still M) (j : Nat) : f_X10_goOnce (j + 11) 120 M = some (0, sI M 120 6 0) := by
  rw [f_X10_goOnce, chk_t h.1.1, layF h, obd_s, chk_t (h.I 0).1.1, mI_s, if_pos rfl]
set_option maxRecDepth 1000000 in
theorem cmF : f_X2_countMoves 59998 14 Mf = some 0 := by decide +kernel
theorem le10 : ¬ (1 : Int32) ≤ 0 := by decide
theorem op39 (a b : Int32) : E (f_X9_goOn 59999 0 a b Mf) (fun M => f_X10_goOn 59999 120 a b M) = true := by
  by_cases ha : a < 0
  · refine E_mm (r := -1) (M1 := Mf) (M2 := Mf) Mf_10 ?_ ?_
    · rw [f_X9_goOn, if_pos ha]
    · rw [f_X10_goOn, if_pos ha]
  · rcases out_in (N := 501) (by decide) b with h | ⟨k, hk, rfl⟩
    · have i1 : ∀ M, f_X10_isIn b 0 500 M = some 0 := fun M => out_is h (lt_of (by decide))
      refine E_mm (r := -1) (M1 := Mf) (M2 := Mf) Mf_10 ?_ ?_
      · rw [f_X9_goOn, if_neg ha]
        by_cases q : b < 0
        · rw [if_pos q]
        · rw [if_neg q, if_neg (le_out (by decide) (h.resolve_left q))]
      · rw [f_X10_goOn, if_neg ha, i1, obd_s, if_pos rfl]
    · have k1 : ¬ nI k < 0 := by
        rw [show (0 : Int32) = nI 0 from rfl]
        intro q
        exact absurd q (Int32.not_lt.mpr (nI_le (Nat.zero_le _) (by omega)))
      have k2 : nI k ≤ (500 : Int32) := by
        rw [show (500 : Int32) = nI 500 from rfl]
        exact nI_le (by omega) (by decide)
      have k3 : ¬ (500 : Int32) < nI k := Int32.not_lt.mpr k2
      have i1 : ∀ M, f_X10_isIn (nI k) 0 500 M = some 1 := fun M => by
        rw [f_X10_isIn, if_neg k1, if_neg k3]
      have h14 : isO Mf 2 14 := io_f (by decide) (by decide)
      have ho14 : isO (sL Mf 14 16 a.toInt64) 2 14 := h14
      have hm : f_X2_moveByDraw 59998 14 (sL Mf 14 16 a.toInt64) = some (0, sL Mf 14 16 a.toInt64) := by
        rw [f_X2_moveByDraw, chk_t ho14, cm_L2, cmF, obd_s, if_neg le10]
      have hs : Still (sL (sL Mf 14 16 a.toInt64) 120 8 a.toInt64) := (Mf_still.L 14 16 a.toInt64).L 120 8 a.toInt64
      have ho : isO (sL Mf 14 16 a.toInt64) 9 0 := Mf_9
      have hX : isO (sL Mf 14 16 a.toInt64) 10 120 := (Mf_still.L 14 16 a.toInt64).1.1
      by_cases q : nI k ≤ 0
      · refine E_mm (r := 0) (M1 := sL Mf 14 16 a.toInt64) (M2 := sL (sL Mf 14 16 a.toInt64) 120 8 a.toInt64) hX ?_ ?_
        · rw [f_X9_goOn, if_neg ha, if_neg k1, if_pos k2, fc0, bnd_e, fR02, fc14, bnd_e, f_X9_goOn_28, if_pos q]
        · rw [f_X10_goOn, if_neg ha, i1, obd_s, if_neg n10, chk_t hX, bnd_e, f_X10_goOn_25, if_pos q]
      · refine E_mm (r := 0) (M1 := sL Mf 14 16 a.toInt64) (M2 := sI (sL (sL Mf 14 16 a.toInt64) 120 8 a.toInt64) 120 6 0) hX ?_ ?_
        · rw [f_X9_goOn, if_neg ha, if_neg k1, if_pos k2, fc0, bnd_e, fR02, fc14, bnd_e, f_X9_goOn_28, if_neg q, chk_t ho, bnd_e, show mR (sL Mf 14 16 a.toInt64) 0 2 = 14 from fR02, chk_t ho14, hm, obd2_s, if_pos rfl]
        · rw [f_X10_goOn, if_neg ha, i1, obd_s, if_neg n10, chk_t hX, bnd_e, f_X10_goOn_25, if_neg q, chk_t hs.1.1, goOnceF hs 59987, obd2_s, if_pos rfl]
