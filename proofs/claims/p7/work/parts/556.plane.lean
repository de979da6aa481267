/-! ===== plane, wheel, tree ===== -/
def fpO (v1 v2 v3 : Int32) : Nat → Int32 → Int32 → Option Int32
  | 0, _, _ => none
  | n + 1, v4, x => if v1 < v4 then some x else if inB v4 4 then fpO v1 v2 v3 n (v4 + 1) (x ||| ((1 : Int32) <<< (((v3 + (l_PS (v4).toNatClampNeg)) - (v3 + (l_PS (v4).toNatClampNeg)) / v2 * v2) &&& 31))) else none
theorem fp_l {k : Nat → Int32 → Int32 → Int32 → Mem → Option Mem} {v1 v2 : Int32} {v : Nat} (h0 : ¬ v2 = 0) (hv : v < 16) : ∀ (m : Nat) (v4 : Int32) (M : Mem) (n : Nat) (x : Int32), SZ M → fpO v1 v2 (nI v) m v4 (mI M 2 v) = some x → m ≤ n → ∃ M', f_X7_makePlane_23 k n 1 v1 v2 (nI v) v4 M = k 1 v1 v2 (nI (v + 1)) M' ∧ Wc 2 v x M M' := by
  intro m
  induction m with
  | zero => intro v4 M n x z h _; cases h
  | succ m ih =>
    intro v4 M n x z h hn
    obtain ⟨n, rfl⟩ : ∃ r, n = r + 1 := ⟨n - 1, by omega⟩
    unfold fpO at h
    by_cases c : v1 < v4
    · rw [if_pos c] at h
      refine ⟨M, ?_, ?_⟩
      · rw [f_X7_makePlane_23, if_pos c, bnd_e, nI_1]
      · rw [← Option.some.inj h]; exact Wc.r M 2 v
    · rw [if_neg c] at h
      by_cases d : inB v4 4
      · rw [if_pos d] at h
        generalize hA : sI M 2 v (mI M 2 v ||| ((1 : Int32) <<< (((nI v + (l_PS (v4).toNatClampNeg)) - (nI v + (l_PS (v4).toNatClampNeg)) / v2 * v2) &&& 31))) = MA
        have wA : Wc 2 v (mI M 2 v ||| ((1 : Int32) <<< (((nI v + (l_PS (v4).toNatClampNeg)) - (nI v + (l_PS (v4).toNatClampNeg)) / v2 * v2) &&& 31))) M MA := by rw [← hA]; exact Wc.s _ _ _ _
        obtain ⟨M', e, w⟩ := ih (v4 + 1) MA n x (z.e wA.1) (by rw [wA.2.1]; exact h) (by omega)
        refine ⟨M', ?_, wA.tr w⟩
        rw [f_X7_makePlane_23, if_neg c, z.f, z.r2, bnd_e, z.a2, z.i2 hv, chk_t d, chk_t h0, z.i2 hv, mI_c (by omega), sI_c (by omega), hA, bnd_e, bnd_e]
        exact e
      · rw [if_neg d] at h; cases h
/-- the base of a node in a plane, as the reference makes it -/
def plv (q N v : Nat) : Int32 := ((((1 : Int32) <<< (nI v &&& 31)) ||| ((1 : Int32) <<< (((nI v + (1 : Int32)) - (nI v + (1 : Int32)) / nI N * nI N) &&& 31))) ||| ((1 : Int32) <<< (((nI v + (3 : Int32)) - (nI v + (3 : Int32)) / nI N * nI N) &&& 31))) ||| (if q = 3 then ((1 : Int32) <<< (((nI v + (9 : Int32)) - (nI v + (9 : Int32)) / nI N * nI N) &&& 31)) else 0)
set_option maxRecDepth 1000000 in
theorem fp_k : ([(2, 7), (3, 13)] : List (Nat × Nat)).all (fun q => (List.range q.2).all fun v => decide (fpO (nI q.1) (nI q.2) (nI v) 6 0 0 = some (plv q.1 q.2 v)) && decide ((plv q.1 q.2 v).toBitVec.toNat < 2 ^ q.2)) = true := by decide +kernel
theorem fp_e {q N v : Nat} (h : (q = 2 ∧ N = 7) ∨ (q = 3 ∧ N = 13)) (hv : v < N) : fpO (nI q) (nI N) (nI v) 6 0 0 = some (plv q N v) ∧ (plv q N v).toBitVec.toNat < 2 ^ N := by
  have m : (q, N) ∈ ([(2, 7), (3, 13)] : List (Nat × Nat)) := by
    rcases h with ⟨rfl, rfl⟩ | ⟨rfl, rfl⟩ <;> simp
  have h := List.all_eq_true.mp (List.all_eq_true.mp fp_k (q, N) m) v (List.mem_range.mpr hv)
  simp only [Bool.and_eq_true] at h
  exact ⟨of_decide_eq_true h.1, of_decide_eq_true h.2⟩
theorem mc_plane {M : Mem} {q N n : Nat} (z : SZ M) (h : (q = 2 ∧ N = 7) ∨ (q = 3 ∧ N = 13)) (hn : 60 ≤ n) : ∃ M', f_X7_makePlane n 1 (nI q) M = some M' ∧ MC N (plv q N) 0 M M' := by
  have hN : N ≤ 13 := by omega
  have hN0 : 7 ≤ N := by omega
  obtain ⟨M1, e1, b1⟩ := z.bg (N := N) (n := n) (by omega)
  have z1 := z.e b1.1
  have ex : ((nI q * nI q) + nI q) + (1 : Int32) = nI N := by
    rcases h with ⟨rfl, rfl⟩ | ⟨rfl, rfl⟩ <;> decide
  obtain ⟨M2, e2, l2⟩ := lpw (F := fun n x M => f_X7_makePlane_15 n 1 (nI q) (nI N) x M) (G := some) (M0 := M1) (o := 2) (c := 0) (N := N) (K := 13) (C := plv q N) (fun i n M hi l hn => by
    have zz := z1.e l.1
    have r0 : mI M 2 i = 0 := by rw [l.2.2.1 i (by omega)]; exact b1.2.2.2.1 i (by omega)
    obtain ⟨M', e, w⟩ := fp_l (k := f_X7_makePlane_15 n) (v1 := nI q) (v2 := nI N) (v := i) (nI_n0 (by omega) (by omega)) (by omega) 6 0 M n (plv q N i) zz (by rw [r0]; exact (fp_e h hi).1) (by omega)
    refine ⟨M', ?_, by rw [Nat.zero_add]; exact w⟩
    show f_X7_makePlane_15 (n + 1) 1 (nI q) (nI N) (nI i) M = _
    rw [f_X7_makePlane_15, if_neg (nI_ge hi (by omega))]
    exact e) (fun n M l => by
    show f_X7_makePlane_15 (n + 1) 1 (nI q) (nI N) (nI N) M = _
    rw [f_X7_makePlane_15, if_pos (nI_le (Nat.le_refl _) (by omega))]) N 0 n M1 (by omega) (Lp.r _ _ _ _) (by omega)
  exact ⟨M2, by rw [f_X7_makePlane, bnd_e, z.f, ex, e1, obd_s]; exact e2, b1.mc l2⟩
theorem rm_plane {M : Mem} {q N n : Nat} (h : RK M 120 121) (hq : (q = 2 ∧ N = 7) ∨ (q = 3 ∧ N = 13)) (hn : 12000 ≤ n) : ∃ M', f_X10_plane n 120 (nI q) M = some (nI N, M') ∧ RE N 0 (plv q N) M M' := by
  have hN : N ≤ 13 := by omega
  have hN0 : 7 ≤ N := by omega
  have e1 := f_begin (N := nI N) (t := 0) h (n := n) (by omega)
  have h1' : RK (wA M 121 (bgf (mI M 121) (nI N) 0)) 120 121 := h
  generalize hM1 : wA M 121 (bgf (mI M 121) (nI N) 0) = M1 at h1'
  obtain ⟨M2, e2, l2⟩ := lpw (F := fun n x M => f_X10_plane_32 n 120 (nI q) (nI N) x M) (G := fun M => some (nI N, M)) (M0 := M1) (o := 121) (c := 2) (N := N) (K := 13) (C := plv q N) (fun i n M hi l hn => by
    have zz := h1'.e l.1
    refine ⟨sI M 121 (2 + i) (plv q N i), ?_, Wc.s _ _ _ _⟩
    show f_X10_plane_32 (n + 1) 120 (nI q) (nI N) (nI i) M = _
    have n0 := nI_n0 (N := N) (by omega) (by omega)
    rw [f_X10_plane_32, if_neg (nI_ge hi (by omega)), zz.f, zz.r, bnd_e, zz.a, chk_t n0, chk_t n0]
    rcases hq with ⟨rfl, rfl⟩ | ⟨rfl, rfl⟩
    · rw [if_neg (show ¬ nI 2 = (3 : Int32) by decide), show (2 : Int32) + nI i = nI (2 + i) by rw [show (2 : Int32) = nI 2 from rfl, nI_add], zz.i (by omega), sI_c (by omega), bnd_e, bnd_e, nI_1]
      rw [plv, if_neg (by decide), nI_1]
    · rw [if_pos (show nI 3 = (3 : Int32) from rfl), chk_t n0, show (2 : Int32) + nI i = nI (2 + i) by rw [show (2 : Int32) = nI 2 from rfl, nI_add], zz.i (by omega), sI_c (by omega), bnd_e, bnd_e, nI_1]
      rw [plv, if_pos rfl, nI_1]) (fun n M l => by
    show f_X10_plane_32 (n + 1) 120 (nI q) (nI N) (nI N) M = _
    rw [f_X10_plane_32, if_pos (nI_le (Nat.le_refl _) (by omega))]) N 0 n M1 (by omega) (Lp.r _ _ _ _) (by omega)
  refine ⟨M2, ?_, RE_of (by rw [hM1]; exact l2)⟩
  have e3 : f_X10_plane_23 n 120 (nI q) (nI N) M = some (nI N, M2) := by
    rw [f_X10_plane_23, h.f, e1, if_pos rfl, obd_s, hM1]
    exact e2
  rw [f_X10_plane, show (2 : Int32) = nI 2 from rfl, show (3 : Int32) = nI 3 from rfl, is_in3 (by decide) (by omega) (by omega), obd_s, if_neg ne10]
  rcases hq with ⟨rfl, rfl⟩ | ⟨rfl, rfl⟩
  · rw [if_pos rfl]; exact e3
  · rw [if_neg (by decide)]; exact e3
set_option maxRecDepth 1000000 in
theorem fp_z : ([(2, 7), (3, 13)] : List (Nat × Nat)).all (fun q => (List.range q.2).all fun v => decide (¬ plv q.1 q.2 v = 0)) = true := by decide +kernel
theorem fp_nz {q N v : Nat} (h : (q = 2 ∧ N = 7) ∨ (q = 3 ∧ N = 13)) (hv : v < N) : ¬ plv q N v = 0 := by
  have m : (q, N) ∈ ([(2, 7), (3, 13)] : List (Nat × Nat)) := by
    rcases h with ⟨rfl, rfl⟩ | ⟨rfl, rfl⟩ <;> simp
  exact of_decide_eq_true (List.all_eq_true.mp (List.all_eq_true.mp fp_z (q, N) m) v (List.mem_range.mpr hv))
theorem op1 {M : Mem} {i n : Nat} (h : WI i M) (a : Int32) (hn : 100000 ≤ n) : Okk i (f_X9_plane n 0 a M) (fun M1 => f_X10_plane n 120 a M1) := by
  obtain ⟨N, A, Q, S, w⟩ := h
  obtain ⟨X, Y, L, p, sb, xg, xr⟩ := id w.1
  rcases rng3 (L := 2) (N := 3) (by decide) (by decide) a with ha | ⟨k, hk1, hk2, rfl⟩
  · refine Okk.same w (r := -1) ?_ ?_
    · rw [f_X9_plane]
      exact out2 (L := 2) (N := 3) (by decide) (by decide) ha
    · show f_X10_plane n 120 a M = _
      rw [f_X10_plane, show (2 : Int32) = nI 2 from rfl, show (3 : Int32) = nI 3 from rfl, is_out3 (by decide) ha, obd_s, if_pos rfl]
  · obtain ⟨K, hK⟩ : ∃ K, (k = 2 ∧ K = 7) ∨ (k = 3 ∧ K = 13) := by
      rcases (show k = 2 ∨ k = 3 by omega) with e | e
      · exact ⟨7, Or.inl ⟨e, rfl⟩⟩
      · exact ⟨13, Or.inr ⟨e, rfl⟩⟩
    obtain ⟨M1, e1, m1⟩ := mc_plane (n := n) sb.z hK (by omega)
    refine Okk.mk (n := n) (N := K) (C := plv k K) (tr := 0) w (by omega) (by omega) (Or.inl rfl) (fun z => absurd z (by decide)) (fun v hv i a _ => bt_bd (fp_e hK hv).2 a) ⟨fun v hv => fp_nz hK hv, fun z => absurd z (by decide)⟩ (by omega) ⟨M1, m1, ?_⟩ (fun M2 rk => rm_plane rk hK (by omega))
    rw [f_X9_plane]
    refine Eq.trans (in2 (L := 2) (N := 3) (by decide) hk1 hk2) ?_
    rw [chk_t xg.1, xg.2.1, bnd_e, sb.f, e1, obd_s, chk_t (xg.s (Shp1.e m1.1)).1]
/-- the base of a node in a wheel -/
def whv (N v : Nat) : Int32 := if v = 0 then (((1 : Int32) <<< (nI N &&& 31)) - (1 : Int32)) &&& (-2 : Int32) else (1 : Int32) ||| ((1 : Int32) <<< (nI v &&& 31))
set_option maxRecDepth 1000000 in
theorem wh_k : (List.range 17).all (fun N => decide (N < 3) || (decide ((((1 : Int32) <<< (nI N &&& 31)) - (1 : Int32)) - (1 : Int32) = whv N 0) && (List.range N).all fun v => decide ((whv N v).toBitVec.toNat < 2 ^ N))) = true := by decide +kernel
theorem whv_e {N v : Nat} (h1 : 3 ≤ N) (h2 : N ≤ 16) (hv : v < N) : (((1 : Int32) <<< (nI N &&& 31)) - (1 : Int32)) - (1 : Int32) = whv N 0 ∧ (whv N v).toBitVec.toNat < 2 ^ N := by
  have h := List.all_eq_true.mp wh_k N (List.mem_range.mpr (by omega))
  have h3 : ¬ N < 3 := by omega
  simp only [h3, decide_false, Bool.false_or, Bool.and_eq_true] at h
  exact ⟨of_decide_eq_true h.1, of_decide_eq_true (List.all_eq_true.mp h.2 v (List.mem_range.mpr hv))⟩
theorem Lp.sh {M0 M1 M : Mem} {o c n : Nat} {C : Nat → Int32} (w : Wc o c (C 0) M0 M1) (l : Lp M1 o (c + 1) (fun i => C (i + 1)) n M) : Lp M0 o c C (n + 1) M := by
  obtain ⟨l1, l2, l3, l4, l5⟩ := l
  refine ⟨l1.trans w.1, fun v hv => ?_, fun b hb => ?_, fun a n b => (l4 a n b).trans (w.2.2.2.1 a n b), fun a b => (l5 a b).trans (w.2.2.2.2 a b)⟩
  · by_cases e : v = 0
    · rw [e, l3 _ (by omega)]; exact w.2.1
    · have := l2 (v - 1) (by omega)
      rw [show c + 1 + (v - 1) = c + v by omega] at this
      rw [this]
      show C (v - 1 + 1) = C v
      rw [show v - 1 + 1 = v by omega]
  · rw [l3 b (by omega), w.2.2.1 b (by omega)]
theorem mc_wheel {M : Mem} {N n : Nat} (z : SZ M) (h1 : 3 ≤ N) (h2 : N ≤ 16) (hn : 60 ≤ n) : ∃ M', f_X7_makeWheel n 1 (nI N) M = some M' ∧ MC N (whv N) 0 M M' := by
  obtain ⟨M1, e1, b1⟩ := z.bg (N := N) (n := n) (by omega)
  have z1 := z.e b1.1
  have w0 : Wc 2 0 (whv N 0) M1 (sI M1 2 0 (whv N 0)) := Wc.s _ _ _ _
  generalize hMw : sI M1 2 0 (whv N 0) = Mw at w0
  have zw := z1.e w0.1
  obtain ⟨M2, e2, l2⟩ := lpw (F := fun n x M => f_X7_makeWheel_20 n 1 (nI N) (x + 1) M) (G := some) (M0 := Mw) (o := 2) (c := 0 + 1) (N := N - 1) (K := 13) (C := fun i => whv N (i + 1)) (fun i n M hi l hn => by
    have zz := zw.e l.1
    refine ⟨sI M 2 (i + 1) (whv N (i + 1)), ?_, by rw [show 0 + 1 + i = i + 1 by omega]; exact Wc.s _ _ _ _⟩
    show f_X7_makeWheel_20 (n + 1) 1 (nI N) (nI i + 1) M = f_X7_makeWheel_20 n 1 (nI N) (nI (i + 1) + 1) _
    rw [nI_1, f_X7_makeWheel_20, if_neg (nI_ge (by omega) (by omega)), zz.f, zz.r2, bnd_e, zz.a2, zz.i2 (by omega), sI_c (by omega), bnd_e, bnd_e]
    rw [whv, if_neg (by omega)]) (fun n M l => by
    show f_X7_makeWheel_20 (n + 1) 1 (nI N) (nI (N - 1) + 1) M = _
    rw [nI_1, show N - 1 + 1 = N by omega, f_X7_makeWheel_20, if_pos (nI_le (Nat.le_refl _) (by omega))]) (N - 1) 0 n Mw (by omega) (Lp.r _ _ _ _) (by omega)
  have l3 := Lp.sh (C := whv N) w0 l2
  rw [show N - 1 + 1 = N by omega] at l3
  refine ⟨M2, ?_, b1.mc l3⟩
  rw [f_X7_makeWheel, z.f, e1, obd_s, z1.f, z1.r2, bnd_e, z1.a2, f_X7_allNodes, z1.f, b1.2.1, obd_s, chk_t (show inB (0 : Int32) (mLn M1 2) by rw [z1.2.2.1]; decide), show Int32.toNatClampNeg 0 = 0 by decide, show (((1 : Int32) <<< (nI N &&& 31)) - (1 : Int32)) &&& (-2 : Int32) = whv N 0 from rfl, hMw, bnd_e]
  exact e2
theorem rm_wheel {M : Mem} {N n : Nat} (h : RK M 120 121) (h1 : 3 ≤ N) (h2 : N ≤ 16) (hn : 12000 ≤ n) : ∃ M', f_X10_wheel n 120 (nI N) M = some (nI N, M') ∧ RE N 0 (whv N) M M' := by
  have e1 := f_begin (N := nI N) (t := 0) h (n := n) (by omega)
  have h1' : RK (wA M 121 (bgf (mI M 121) (nI N) 0)) 120 121 := h
  have m0 : mI (wA M 121 (bgf (mI M 121) (nI N) 0)) 121 0 = nI N := rfl
  generalize hM1 : wA M 121 (bgf (mI M 121) (nI N) 0) = M1 at h1' m0
  have w0 : Wc 121 2 (whv N 0) M1 (sI M1 121 2 (whv N 0)) := Wc.s _ _ _ _
  generalize hMw : sI M1 121 2 (whv N 0) = Mw at w0
  have zw := h1'.e w0.1
  obtain ⟨M2, e2, l2⟩ := lpw (F := fun n x M => f_X10_wheel_32 n 120 (nI N) (x + 1) M) (G := fun M => some (nI N, M)) (M0 := Mw) (o := 121) (c := 2 + 1) (N := N - 1) (K := 13) (C := fun i => whv N (i + 1)) (fun i n M hi l hn => by
    have zz := zw.e l.1
    refine ⟨sI M 121 (2 + (i + 1)) (whv N (i + 1)), ?_, by rw [show 2 + 1 + i = 2 + (i + 1) by omega]; exact Wc.s _ _ _ _⟩
    show f_X10_wheel_32 (n + 1) 120 (nI N) (nI i + 1) M = f_X10_wheel_32 n 120 (nI N) (nI (i + 1) + 1) _
    rw [nI_1, f_X10_wheel_32, if_neg (nI_ge (by omega) (by omega)), zz.f, zz.r, bnd_e, zz.a, show (2 : Int32) + nI (i + 1) = nI (2 + (i + 1)) by rw [show (2 : Int32) = nI 2 from rfl, nI_add], zz.i (by omega), sI_c (by omega), bnd_e, bnd_e]
    rw [whv, if_neg (by omega), Int32.or_comm]) (fun n M l => by
    show f_X10_wheel_32 (n + 1) 120 (nI N) (nI (N - 1) + 1) M = _
    rw [nI_1, show N - 1 + 1 = N by omega, f_X10_wheel_32, if_pos (nI_le (Nat.le_refl _) (by omega))]) (N - 1) 0 n Mw (by omega) (Lp.r _ _ _ _) (by omega)
  have l3 := Lp.sh (C := whv N) w0 l2
  rw [show N - 1 + 1 = N by omega] at l3
  refine ⟨M2, ?_, RE_of (by rw [hM1]; exact l3)⟩
  rw [f_X10_wheel, show (3 : Int32) = nI 3 from rfl, show (16 : Int32) = nI 16 from rfl, is_in3 (by decide) h1 h2, obd_s, if_neg ne10, h.f, e1, if_pos rfl, obd_s, hM1, h1'.f, h1'.r, bnd_e, h1'.a, f_X10_all, h1'.f, h1'.r, bnd_e, h1'.a, chk_t (show inB (0 : Int32) (mLn M1 121) from rk_in h1' (k := 0) (by decide)), show Int32.toNatClampNeg 0 = 0 by decide, m0, obd_s, chk_t (show inB (2 : Int32) (mLn M1 121) from rk_in h1' (k := 2) (by decide)), show Int32.toNatClampNeg 2 = 2 by decide, (whv_e (v := 0) h1 h2 (by omega)).1, hMw, bnd_e]
  exact e2
set_option maxRecDepth 1000000 in
theorem whv_z : (List.range' 2 15).all (fun N => (List.range N).all fun v => decide (¬ (fun v N => whv N v) v N = 0)) = true := by decide +kernel
theorem op4 {M : Mem} {i n : Nat} (h : WI i M) (a : Int32) (hn : 100000 ≤ n) : Okk i (f_X9_wheel n 0 a M) (fun M1 => f_X10_wheel n 120 a M1) := by
  obtain ⟨N, A, Q, S, w⟩ := h
  obtain ⟨X, Y, L, p, sb, xg, xr⟩ := id w.1
  rcases rng3 (L := 3) (N := 16) (by decide) (by decide) a with ha | ⟨k, hk1, hk2, rfl⟩
  · refine Okk.same w (r := -1) ?_ ?_
    · rw [f_X9_wheel]
      exact out2 (L := 3) (N := 16) (by decide) (by decide) ha
    · show f_X10_wheel n 120 a M = _
      rw [f_X10_wheel, show (3 : Int32) = nI 3 from rfl, show (16 : Int32) = nI 16 from rfl, is_out3 (by decide) ha, obd_s, if_pos rfl]
  · obtain ⟨M1, e1, m1⟩ := mc_wheel (n := n) sb.z hk1 hk2 (by omega)
    refine Okk.mk (n := n) (C := whv k) (tr := 0) w (by omega) hk2 (Or.inl rfl) (fun z => absurd z (by decide)) (fun v hv i a _ => bt_bd (whv_e hk1 hk2 hv).2 a) ⟨fun v hv => nz_of whv_z (rg_mem (show 2 ≤ k by omega) (by omega)) hv, fun z => absurd z (by decide)⟩ (by omega) ⟨M1, m1, ?_⟩ (fun M2 rk => rm_wheel rk hk1 hk2 (by omega))
    rw [f_X9_wheel]
    refine Eq.trans (in2 (L := 3) (N := 16) (by decide) hk1 hk2) ?_
    rw [chk_t xg.1, xg.2.1, bnd_e, sb.f, e1, obd_s, chk_t (xg.s (Shp1.e m1.1)).1]
