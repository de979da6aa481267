/-! ===== majorities ===== -/
theorem maj_M (M M' : Mem) (n : Nat) : ∀ a b c d : Int32, f_X7_majorityFrom_4 M n a b c d = f_X7_majorityFrom_4 M' n a b c d := by
  induction n with
  | zero => intros; rfl
  | succ n ih =>
    intro a b c d
    simp only [f_X7_majorityFrom_4, bnd_e, ih]
theorem maj_10 (M : Mem) (n : Nat) : ∀ a b c d : Int32, f_X10_majorityOf_4 M n a b c d = f_X7_majorityFrom_4 M n a b c d := by
  induction n with
  | zero => intros; rfl
  | succ n ih =>
    intro a b c d
    simp only [f_X10_majorityOf_4, f_X7_majorityFrom_4, bnd_e, ih]
theorem maj_mono (M : Mem) (m n : Nat) : ∀ (a b c d x : Int32), f_X7_majorityFrom_4 M n a b c d = some x → f_X7_majorityFrom_4 M (n + m) a b c d = some x := by
  induction n with
  | zero => intro a b c d x h; exact (pk_none h).elim
  | succ n ih =>
    intro a b c d x h
    rw [show n + 1 + m = (n + m) + 1 by omega, f_X7_majorityFrom_4]
    rw [f_X7_majorityFrom_4] at h
    obtain ⟨q0, h⟩ := pk_chk h
    rw [chk_t q0]
    have hs := pk_ite h
    by_cases h1 : b / (2 : Int32) < d
    · rw [if_pos h1]; exact hs.1 h1
    · rw [if_neg h1]
      have h2 := hs.2 h1
      obtain ⟨q1, h2⟩ := pk_chk h2
      rw [chk_t q1, bnd_e, bnd_e]
      exact ih _ _ _ _ _ h2
def mjv (v N : Nat) : Int32 := (f_X7_majorityFrom_4 memE 12 (nI v) (nI N) 0 0).getD 0
set_option maxRecDepth 1000000 in
theorem maj_k : (List.range 17).all (fun N => (List.range N).all fun v => decide (N < 2) || ((f_X7_majorityFrom_4 memE 12 (nI v) (nI N) 0 0).isSome && decide ((mjv v N).toBitVec.toNat < 2 ^ N))) = true := by decide +kernel
theorem maj_e {N v : Nat} (h1 : 2 ≤ N) (h2 : N ≤ 16) (hv : v < N) : (f_X7_majorityFrom_4 memE 12 (nI v) (nI N) 0 0 = some (mjv v N)) ∧ (mjv v N).toBitVec.toNat < 2 ^ N := by
  have h := List.all_eq_true.mp (List.all_eq_true.mp maj_k N (List.mem_range.mpr (by omega))) v (List.mem_range.mpr hv)
  have h3 : ¬ N < 2 := by omega
  simp only [h3, decide_false, Bool.false_or, Bool.and_eq_true] at h
  obtain ⟨x, hx⟩ := Option.isSome_iff_exists.mp h.1
  refine ⟨?_, of_decide_eq_true h.2⟩
  rw [hx]
  unfold mjv
  rw [hx]; rfl
theorem f_maj9 {N v n : Nat} {M : Mem} (h1 : 2 ≤ N) (h2 : N ≤ 16) (hv : v < N) (hn : 12 ≤ n) : f_X7_majorityFrom n (nI v) (nI N) M = some (mjv v N) := by
  rw [f_X7_majorityFrom, maj_M M memE, show n = 12 + (n - 12) by omega]
  exact maj_mono _ _ _ _ _ _ _ _ (maj_e h1 h2 hv).1
theorem f_maj10 {N v n : Nat} {M : Mem} (h1 : 2 ≤ N) (h2 : N ≤ 16) (hv : v < N) (hn : 12 ≤ n) : f_X10_majorityOf n (nI v) (nI N) M = some (mjv v N) := by
  rw [f_X10_majorityOf, maj_10, maj_M M memE, show n = 12 + (n - 12) by omega]
  exact maj_mono _ _ _ _ _ _ _ _ (maj_e h1 h2 hv).1
theorem bt_bd {x : Int32} {N i : Nat} (h : x.toBitVec.toNat < 2 ^ N) (hi : N ≤ i) : bt x i = false := by
  unfold bt BitVec.getLsbD
  exact Nat.testBit_lt_two_pow (Nat.lt_of_lt_of_le h (Nat.pow_le_pow_right (by decide) hi))
theorem mc_maj {M : Mem} {N n : Nat} (z : SZ M) (h1 : 2 ≤ N) (h2 : N ≤ 16) (hn : 60 ≤ n) : ∃ M', f_X7_makeMajority n 1 (nI N) M = some M' ∧ MC N (fun v => mjv v N) 0 M M' := by
  obtain ⟨M1, e1, b1⟩ := z.bg (N := N) (n := n) (by omega)
  have z1 := z.e b1.1
  obtain ⟨M2, e2, l2⟩ := lpw (F := fun n x M => f_X7_makeMajority_7 n 1 (nI N) x M) (G := some) (M0 := M1) (o := 2) (c := 0) (N := N) (K := 13) (C := fun v => mjv v N) (fun i n M hi l hn => by
    have zz := z1.e l.1
    refine ⟨sI M 2 i (mjv i N), ?_, by rw [Nat.zero_add]; exact Wc.s _ _ _ _⟩
    show f_X7_makeMajority_7 (n + 1) 1 (nI N) (nI i) M = _
    rw [f_X7_makeMajority_7, if_neg (nI_ge hi (by omega)), zz.f, zz.r2, bnd_e, zz.a2, f_maj9 h1 h2 hi (by omega), obd_s, zz.i2 (by omega), sI_c (by omega), bnd_e, bnd_e, nI_1]) (fun n M l => by
    show f_X7_makeMajority_7 (n + 1) 1 (nI N) (nI N) M = _
    rw [f_X7_makeMajority_7, if_pos (nI_le (Nat.le_refl _) (by omega))]) N 0 n M1 (by omega) (Lp.r _ _ _ _) (by omega)
  exact ⟨M2, by rw [f_X7_makeMajority, z.f, e1, obd_s]; exact e2, b1.mc l2⟩
theorem rm_maj {M : Mem} {N n : Nat} (h : RK M 120 121) (h1 : 2 ≤ N) (h2 : N ≤ 16) (hn : 12000 ≤ n) : ∃ M', f_X10_majority n 120 (nI N) M = some (nI N, M') ∧ RE N 0 (fun v => mjv v N) M M' := by
  have e1 := f_begin (N := nI N) (t := 0) h (n := n) (by omega)
  have h1' : RK (wA M 121 (bgf (mI M 121) (nI N) 0)) 120 121 := h
  generalize hM1 : wA M 121 (bgf (mI M 121) (nI N) 0) = M1 at h1'
  obtain ⟨M2, e2, l2⟩ := lpw (F := fun n x M => f_X10_majority_20 n 120 (nI N) x M) (G := fun M => some (nI N, M)) (M0 := M1) (o := 121) (c := 2) (N := N) (K := 13) (C := fun v => mjv v N) (fun i n M hi l hn => by
    have zz := h1'.e l.1
    refine ⟨sI M 121 (2 + i) (mjv i N), ?_, Wc.s _ _ _ _⟩
    show f_X10_majority_20 (n + 1) 120 (nI N) (nI i) M = _
    rw [f_X10_majority_20, if_neg (nI_ge hi (by omega)), zz.f, zz.r, bnd_e, zz.a, f_maj10 h1 h2 hi (by omega), obd_s, show (2 : Int32) + nI i = nI (2 + i) by rw [show (2 : Int32) = nI 2 from rfl, nI_add], zz.i (by omega), sI_c (by omega), bnd_e, bnd_e, nI_1]) (fun n M l => by
    show f_X10_majority_20 (n + 1) 120 (nI N) (nI N) M = _
    rw [f_X10_majority_20, if_pos (nI_le (Nat.le_refl _) (by omega))]) N 0 n M1 (by omega) (Lp.r _ _ _ _) (by omega)
  refine ⟨M2, ?_, RE_of (by rw [hM1]; exact l2)⟩
  rw [f_X10_majority, show (2 : Int32) = nI 2 from rfl, show (16 : Int32) = nI 16 from rfl, is_in3 (by decide) h1 h2, obd_s, if_neg ne10, h.f, e1, if_pos rfl, obd_s, hM1]
  exact e2
theorem out2 {α : Type} {a : Int32} {L N : Nat} {x y : α} (hN : N < 1000) (hL : L ≤ N) (ha : a < nI L ∨ nI (N + 1) ≤ a) : (if a < nI L then x else if a ≤ nI N then y else x) = x := by
  by_cases c : a < nI L
  · rw [if_pos c]
  · rw [if_neg c, if_neg (Int32.not_le.mpr (gt3 hN (ha.resolve_left c)))]
theorem in2 {α : Type} {k L N : Nat} {x y : α} (hN : N < 1000) (h1 : L ≤ k) (h2 : k ≤ N) : (if nI k < nI L then x else if nI k ≤ nI N then y else x) = y := by
  rw [if_neg (nI_nlt h1 (by omega)), if_pos (nI_le h2 (by omega))]
theorem nz_of {f : Nat → Nat → Int32} {L : List Nat} (h : L.all (fun N => (List.range N).all fun v => decide (¬ f v N = 0)) = true) {N v : Nat} (hN : N ∈ L) (hv : v < N) : ¬ f v N = 0 :=
  of_decide_eq_true (List.all_eq_true.mp (List.all_eq_true.mp h N hN) v (List.mem_range.mpr hv))
theorem rg_mem {N L d : Nat} (h1 : L ≤ N) (h2 : N < L + d) : N ∈ List.range' L d := List.mem_range'_1.mpr ⟨h1, h2⟩
set_option maxRecDepth 1000000 in
theorem maj_z : (List.range' 2 15).all (fun N => (List.range N).all fun v => decide (¬ mjv v N = 0)) = true := by decide +kernel
/-- majority -/
theorem op3 {M : Mem} {i n : Nat} (h : WI i M) (a : Int32) (hn : 100000 ≤ n) : Okk i (f_X9_majority n 0 a M) (fun M1 => f_X10_majority n 120 a M1) := by
  obtain ⟨N, A, Q, S, w⟩ := h
  obtain ⟨X, Y, L, p, sb, xg, xr⟩ := id w.1
  rcases rng3 (L := 2) (N := 16) (by decide) (by decide) a with ha | ⟨k, hk1, hk2, rfl⟩
  · refine Okk.same w (r := -1) ?_ ?_
    · rw [f_X9_majority]
      exact out2 (L := 2) (N := 16) (by decide) (by decide) ha
    · show f_X10_majority n 120 a M = _
      rw [f_X10_majority, show (2 : Int32) = nI 2 from rfl, show (16 : Int32) = nI 16 from rfl, is_out3 (by decide) ha, obd_s, if_pos rfl]
  · obtain ⟨M1, e1, m1⟩ := mc_maj (n := n) sb.z hk1 hk2 (by omega)
    refine Okk.mk (n := n) (C := fun v => mjv v k) (tr := 0) w hk1 hk2 (Or.inl rfl) (fun z => absurd z (by decide)) (fun v hv i a _ => bt_bd (maj_e hk1 hk2 hv).2 a) ⟨fun v hv => nz_of maj_z (rg_mem hk1 (by omega)) hv, fun z => absurd z (by decide)⟩ (by omega) ⟨M1, m1, ?_⟩ (fun M2 rk => rm_maj rk hk1 hk2 (by omega))
    rw [f_X9_majority]
    refine Eq.trans (in2 (L := 2) (N := 16) (by decide) hk1 hk2) ?_
    rw [chk_t xg.1, xg.2.1, bnd_e, sb.f, e1, obd_s, chk_t (xg.s (Shp1.e m1.1)).1]
