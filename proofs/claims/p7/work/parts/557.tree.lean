/-! ===== tree ===== -/
def fuO : Nat → Int32 → Int32 → Option Int32
  | 0, _, _ => none
  | n + 1, v4, x => if v4 ≤ 0 then some x else fuO n ((v4 - (1 : Int32)) / (2 : Int32)) (x ||| ((1 : Int32) <<< (v4 &&& 31)))
def fdO (v2 : Int32) : Nat → Int32 → Int32 → Option Int32
  | 0, _, _ => none
  | n + 1, v4, x => if v2 ≤ v4 then some x else fdO v2 n (((2 : Int32) * v4) + (1 : Int32)) (x ||| ((1 : Int32) <<< (v4 &&& 31)))
theorem c2z : ¬ (2 : Int32) = 0 := by decide
theorem fd9_l {k : Nat → Int32 → Int32 → Mem → Option Mem} {v2 : Int32} {v : Nat} (hv : v < 16) : ∀ (m : Nat) (v4 : Int32) (M : Mem) (n : Nat) (x : Int32), SZ M → fdO v2 m v4 (mI M 2 v) = some x → m ≤ n → ∃ M', f_X7_makeTree_69 k n 1 v2 (nI v) v4 M = k 1 v2 (nI (v + 1)) M' ∧ Wc 2 v x M M' := by
  intro m
  induction m with
  | zero => intro v4 M n x z h _; cases h
  | succ m ih =>
    intro v4 M n x z h hn
    obtain ⟨n, rfl⟩ : ∃ r, n = r + 1 := ⟨n - 1, by omega⟩
    unfold fdO at h
    by_cases c : v2 ≤ v4
    · rw [if_pos c] at h
      refine ⟨M, ?_, ?_⟩
      · rw [f_X7_makeTree_69, if_pos c, bnd_e, nI_1]
      · rw [← Option.some.inj h]; exact Wc.r M 2 v
    · rw [if_neg c] at h
      generalize hA : sI M 2 v (mI M 2 v ||| ((1 : Int32) <<< (v4 &&& 31))) = MA
      have wA : Wc 2 v (mI M 2 v ||| ((1 : Int32) <<< (v4 &&& 31))) M MA := by rw [← hA]; exact Wc.s _ _ _ _
      obtain ⟨M', e, w⟩ := ih (((2 : Int32) * v4) + (1 : Int32)) MA n x (z.e wA.1) (by rw [wA.2.1]; exact h) (by omega)
      refine ⟨M', ?_, wA.tr w⟩
      rw [f_X7_makeTree_69, if_neg c, z.f, z.r2, bnd_e, z.a2, z.i2 hv, z.i2 hv, mI_c (by omega), sI_c (by omega), hA, bnd_e, bnd_e]
      exact e
theorem fu9_l {k : Nat → Int32 → Int32 → Mem → Option Mem} {v2 : Int32} {v : Nat} (hv : v < 16) : ∀ (m : Nat) (v4 : Int32) (M : Mem) (n : Nat) (x : Int32), SZ M → fuO m v4 (mI M 2 v) = some x → m ≤ n → ∃ M' n', f_X7_makeTree_33 k n 1 v2 (nI v) v4 M = f_X7_makeTree_69 k n' 1 v2 (nI v) (((2 : Int32) * nI v) + (1 : Int32)) M' ∧ Wc 2 v x M M' ∧ n ≤ n' + m := by
  intro m
  induction m with
  | zero => intro v4 M n x z h _; cases h
  | succ m ih =>
    intro v4 M n x z h hn
    obtain ⟨n, rfl⟩ : ∃ r, n = r + 1 := ⟨n - 1, by omega⟩
    unfold fuO at h
    by_cases c : v4 ≤ 0
    · rw [if_pos c] at h
      refine ⟨M, n, ?_, ?_, by omega⟩
      · rw [f_X7_makeTree_33, if_pos c, bnd_e]
      · rw [← Option.some.inj h]; exact Wc.r M 2 v
    · rw [if_neg c] at h
      generalize hA : sI M 2 v (mI M 2 v ||| ((1 : Int32) <<< (v4 &&& 31))) = MA
      have wA : Wc 2 v (mI M 2 v ||| ((1 : Int32) <<< (v4 &&& 31))) M MA := by rw [← hA]; exact Wc.s _ _ _ _
      obtain ⟨M', n', e, w, hn'⟩ := ih ((v4 - (1 : Int32)) / (2 : Int32)) MA n x (z.e wA.1) (by rw [wA.2.1]; exact h) (by omega)
      refine ⟨M', n', ?_, wA.tr w, by omega⟩
      rw [f_X7_makeTree_33, if_neg c, z.f, z.r2, bnd_e, z.a2, z.i2 hv, z.i2 hv, mI_c (by omega), sI_c (by omega), hA, bnd_e, chk_t c2z, bnd_e]
      exact e
theorem fd10_l {k : Nat → Int32 → Int32 → Mem → Option (Int32 × Mem)} {v2 : Int32} {v : Nat} (hv : v < 16) : ∀ (m : Nat) (v4 : Int32) (M : Mem) (n : Nat) (x : Int32), RK M 120 121 → fdO v2 m v4 (mI M 121 (2 + v)) = some x → m ≤ n → ∃ M', f_X10_tree_76 k n 120 v2 (nI v) v4 M = k 120 v2 (nI (v + 1)) M' ∧ Wc 121 (2 + v) x M M' := by
  intro m
  induction m with
  | zero => intro v4 M n x z h _; cases h
  | succ m ih =>
    intro v4 M n x z h hn
    obtain ⟨n, rfl⟩ : ∃ r, n = r + 1 := ⟨n - 1, by omega⟩
    unfold fdO at h
    by_cases c : v2 ≤ v4
    · rw [if_pos c] at h
      refine ⟨M, ?_, ?_⟩
      · rw [f_X10_tree_76, if_pos c, bnd_e, nI_1]
      · rw [← Option.some.inj h]; exact Wc.r M 121 (2 + v)
    · rw [if_neg c] at h
      generalize hA : sI M 121 (2 + v) (mI M 121 (2 + v) ||| ((1 : Int32) <<< (v4 &&& 31))) = MA
      have wA : Wc 121 (2 + v) (mI M 121 (2 + v) ||| ((1 : Int32) <<< (v4 &&& 31))) M MA := by rw [← hA]; exact Wc.s _ _ _ _
      obtain ⟨M', e, w⟩ := ih (((2 : Int32) * v4) + (1 : Int32)) MA n x (z.e wA.1) (by rw [wA.2.1]; exact h) (by omega)
      refine ⟨M', ?_, wA.tr w⟩
      rw [f_X10_tree_76, if_neg c, z.f, z.r, bnd_e, z.a, show (2 : Int32) + nI v = nI (2 + v) by rw [show (2 : Int32) = nI 2 from rfl, nI_add], bnd_e, z.i (by omega), z.i (by omega), mI_c (by omega), sI_c (by omega), hA, bnd_e, bnd_e]
      exact e
theorem fu10_l {k : Nat → Int32 → Int32 → Mem → Option (Int32 × Mem)} {v2 : Int32} {v : Nat} (hv : v < 16) : ∀ (m : Nat) (v4 : Int32) (M : Mem) (n : Nat) (x : Int32), RK M 120 121 → fuO m v4 (mI M 121 (2 + v)) = some x → m ≤ n → ∃ M' n', f_X10_tree_42 k n 120 v2 (nI v) v4 M = f_X10_tree_76 k n' 120 v2 (nI v) (nI v) M' ∧ Wc 121 (2 + v) x M M' ∧ n ≤ n' + m := by
  intro m
  induction m with
  | zero => intro v4 M n x z h _; cases h
  | succ m ih =>
    intro v4 M n x z h hn
    obtain ⟨n, rfl⟩ : ∃ r, n = r + 1 := ⟨n - 1, by omega⟩
    unfold fuO at h
    by_cases c : v4 ≤ 0
    · rw [if_pos c] at h
      refine ⟨M, n, ?_, ?_, by omega⟩
      · rw [f_X10_tree_42, if_pos c]
      · rw [← Option.some.inj h]; exact Wc.r M 121 (2 + v)
    · rw [if_neg c] at h
      generalize hA : sI M 121 (2 + v) (mI M 121 (2 + v) ||| ((1 : Int32) <<< (v4 &&& 31))) = MA
      have wA : Wc 121 (2 + v) (mI M 121 (2 + v) ||| ((1 : Int32) <<< (v4 &&& 31))) M MA := by rw [← hA]; exact Wc.s _ _ _ _
      obtain ⟨M', n', e, w, hn'⟩ := ih ((v4 - (1 : Int32)) / (2 : Int32)) MA n x (z.e wA.1) (by rw [wA.2.1]; exact h) (by omega)
      refine ⟨M', n', ?_, wA.tr w, by omega⟩
      rw [f_X10_tree_42, if_neg c, z.f, z.r, bnd_e, z.a, show (2 : Int32) + nI v = nI (2 + v) by rw [show (2 : Int32) = nI 2 from rfl, nI_add], bnd_e, z.i (by omega), z.i (by omega), mI_c (by omega), sI_c (by omega), hA, bnd_e, chk_t c2z, bnd_e]
      exact e
def tuv (v : Nat) : Int32 := (fuO 6 (nI v) 1).getD 0
def tvv (N v : Nat) : Int32 := (fdO (nI N) 6 (((2 : Int32) * nI v) + (1 : Int32)) (tuv v)).getD 0
set_option maxRecDepth 1000000 in
theorem tr_k : ([3, 7, 15] : List Nat).all (fun N => (List.range N).all fun v => (decide (fuO 6 (nI v) 1 = some (tuv v)) && decide (fdO (nI N) 6 (((2 : Int32) * nI v) + (1 : Int32)) (tuv v) = some (tvv N v))) && (decide (fdO (nI N) 7 (nI v) (tuv v) = some (tvv N v)) && decide ((tvv N v).toBitVec.toNat < 2 ^ N))) = true := by decide +kernel
theorem tr_e {N v : Nat} (h : N = 3 ∨ N = 7 ∨ N = 15) (hv : v < N) : fuO 6 (nI v) 1 = some (tuv v) ∧ fdO (nI N) 6 (((2 : Int32) * nI v) + (1 : Int32)) (tuv v) = some (tvv N v) ∧ fdO (nI N) 7 (nI v) (tuv v) = some (tvv N v) ∧ (tvv N v).toBitVec.toNat < 2 ^ N := by
  have m : N ∈ ([3, 7, 15] : List Nat) := by
    rcases h with rfl | rfl | rfl <;> simp
  have h := List.all_eq_true.mp (List.all_eq_true.mp tr_k N m) v (List.mem_range.mpr hv)
  simp only [Bool.and_eq_true] at h
  exact ⟨of_decide_eq_true h.1.1, of_decide_eq_true h.1.2, of_decide_eq_true h.2.1, of_decide_eq_true h.2.2⟩
theorem mc_tree {M : Mem} {N q n : Nat} (z : SZ M) (h : (q = 2 ∧ N = 3) ∨ (q = 3 ∧ N = 7) ∨ (q = 4 ∧ N = 15)) (hn : 60 ≤ n) : ∃ M', f_X7_makeTree n 1 (nI q) M = some M' ∧ MC N (tvv N) 1 M M' := by
  have hN : N = 3 ∨ N = 7 ∨ N = 15 := by omega
  have ex : ((1 : Int32) <<< (nI q &&& 31)) - (1 : Int32) = nI N := by
    rcases h with ⟨rfl, rfl⟩ | ⟨rfl, rfl⟩ | ⟨rfl, rfl⟩ <;> decide
  obtain ⟨M1, e1, b1⟩ := z.bg (N := N) (n := n) (by omega)
  have z1 := z.e b1.1
  generalize hMt : sI M1 1 4 1 = Mt
  have bt1 : Bg N 1 M Mt := by
    obtain ⟨a1, a2, a3, a4, a5, a6⟩ := b1
    rw [← hMt]
    exact ⟨a1, by rw [mI_n _ _ _ _ (by decide)]; exact a2, mI_s _ _ _ _, fun v hv => by rw [mI_o _ _ _ _ _ (by decide)]; exact a4 v hv, fun o n1 n2 b => by rw [mI_o _ _ _ _ _ n1]; exact a5 o n1 n2 b, a6⟩
  have zt := z.e bt1.1
  obtain ⟨M2, e2, l2⟩ := lpw (F := fun n x M => f_X7_makeTree_18 n 1 (nI N) x M) (G := some) (M0 := Mt) (o := 2) (c := 0) (N := N) (K := 15) (C := tvv N) (fun i n M hi l hn => by
    have zz := zt.e l.1
    obtain ⟨t1, t2, _, _⟩ := tr_e hN hi
    generalize hA : sI M 2 i 1 = MA
    have wA : Wc 2 i 1 M MA := by rw [← hA]; exact Wc.s _ _ _ _
    obtain ⟨MB, nB, eB, wB, hB⟩ := fu9_l (k := f_X7_makeTree_18 n) (v2 := nI N) (v := i) (by omega) 6 (nI i) MA n (tuv i) (zz.e wA.1) (by rw [wA.2.1]; exact t1) (by omega)
    obtain ⟨MC, eC, wC⟩ := fd9_l (k := f_X7_makeTree_18 n) (v2 := nI N) (v := i) (by omega) 6 _ MB nB (tvv N i) ((zz.e wA.1).e wB.1) (by rw [wB.2.1]; exact t2) (by omega)
    refine ⟨MC, ?_, by rw [Nat.zero_add]; exact wA.tr (wB.tr wC)⟩
    show f_X7_makeTree_18 (n + 1) 1 (nI N) (nI i) M = _
    rw [f_X7_makeTree_18, if_neg (nI_ge hi (by omega)), zz.f, zz.r2, bnd_e, zz.a2, zz.i2 (by omega), sI_c (by omega), hA, bnd_e, eB, eC]) (fun n M l => by
    show f_X7_makeTree_18 (n + 1) 1 (nI N) (nI N) M = _
    rw [f_X7_makeTree_18, if_pos (nI_le (Nat.le_refl _) (by omega))]) N 0 n Mt (by omega) (Lp.r _ _ _ _) (by omega)
  exact ⟨M2, by rw [f_X7_makeTree, bnd_e, z.f, ex, e1, obd_s, z1.f, chk_t (Or.inr rfl), hMt, bnd_e]; exact e2, bt1.mc l2⟩
theorem rm_tree {M : Mem} {N q n : Nat} (h : RK M 120 121) (hq : (q = 2 ∧ N = 3) ∨ (q = 3 ∧ N = 7) ∨ (q = 4 ∧ N = 15)) (hn : 12000 ≤ n) : ∃ M', f_X10_tree n 120 (nI q) M = some (nI N, M') ∧ RE N 1 (tvv N) M M' := by
  have hN : N = 3 ∨ N = 7 ∨ N = 15 := by omega
  have ex : ((1 : Int32) <<< (nI q &&& 31)) - (1 : Int32) = nI N := by
    rcases hq with ⟨rfl, rfl⟩ | ⟨rfl, rfl⟩ | ⟨rfl, rfl⟩ <;> decide
  have e1 := f_begin (N := nI N) (t := 1) h (n := n) (by omega)
  rw [if_neg ne10] at e1
  have h1' : RK (wA M 121 (bgf (mI M 121) (nI N) 1)) 120 121 := h
  generalize hM1 : wA M 121 (bgf (mI M 121) (nI N) 1) = M1 at h1' e1
  obtain ⟨M2, e2, l2⟩ := lpw (F := fun n x M => f_X10_tree_25 n 120 (nI N) x M) (G := fun M => some (nI N, M)) (M0 := M1) (o := 121) (c := 2) (N := N) (K := 15) (C := tvv N) (fun i n M hi l hn => by
    have zz := h1'.e l.1
    obtain ⟨t1, _, t2, _⟩ := tr_e hN hi
    generalize hA : sI M 121 (2 + i) 1 = MA
    have wA : Wc 121 (2 + i) 1 M MA := by rw [← hA]; exact Wc.s _ _ _ _
    obtain ⟨MB, nB, eB, wB, hB⟩ := fu10_l (k := f_X10_tree_25 n) (v2 := nI N) (v := i) (by omega) 6 (nI i) MA n (tuv i) (zz.e wA.1) (by rw [wA.2.1]; exact t1) (by omega)
    obtain ⟨MC, eC, wC⟩ := fd10_l (k := f_X10_tree_25 n) (v2 := nI N) (v := i) (by omega) 7 _ MB nB (tvv N i) ((zz.e wA.1).e wB.1) (by rw [wB.2.1]; exact t2) (by omega)
    refine ⟨MC, ?_, wA.tr (wB.tr wC)⟩
    show f_X10_tree_25 (n + 1) 120 (nI N) (nI i) M = _
    rw [f_X10_tree_25, if_neg (nI_ge hi (by omega)), zz.f, zz.r, bnd_e, zz.a, show (2 : Int32) + nI i = nI (2 + i) by rw [show (2 : Int32) = nI 2 from rfl, nI_add], zz.i (by omega), sI_c (by omega), hA, bnd_e, eB, eC]) (fun n M l => by
    show f_X10_tree_25 (n + 1) 120 (nI N) (nI N) M = _
    rw [f_X10_tree_25, if_pos (nI_le (Nat.le_refl _) (by omega))]) N 0 n M1 (by omega) (Lp.r _ _ _ _) (by omega)
  refine ⟨M2, ?_, RE_of (by rw [hM1]; exact l2)⟩
  rw [f_X10_tree, show f_X10_isIn (nI q) (2 : Int32) (4 : Int32) M = some 1 from is_in3 (L := 2) (N := 4) (by decide) (by omega) (by omega), obd_s, if_neg ne10, bnd_e, h.f, ex, e1, obd_s]
  exact e2
set_option maxRecDepth 1000000 in
theorem tr_z : ([3, 7, 15] : List Nat).all (fun N => (List.range N).all fun v => (decide (¬ tvv N v = 0) && bt (tvv N v) 0) && (List.range 15).all fun u => decide (N ≤ 2 * u + 2) || (!bt (tvv N v) u || (bt (tvv N v) (2 * u + 1) || bt (tvv N v) (2 * u + 2)))) = true := by decide +kernel
theorem tr_TB {N : Nat} (h : N = 3 ∨ N = 7 ∨ N = 15) : TBs N (tvv N) 1 := by
  have m : N ∈ ([3, 7, 15] : List Nat) := by
    rcases h with rfl | rfl | rfl <;> simp
  have k : ∀ v, v < N → ((decide (¬ tvv N v = 0) && bt (tvv N v) 0) && (List.range 15).all fun u => decide (N ≤ 2 * u + 2) || (!bt (tvv N v) u || (bt (tvv N v) (2 * u + 1) || bt (tvv N v) (2 * u + 2)))) = true := fun v hv => List.all_eq_true.mp (List.all_eq_true.mp tr_z N m) v (List.mem_range.mpr hv)
  refine ⟨fun v hv => ?_, fun _ => ⟨h, fun v hv => ⟨?_, fun u hu hb => ?_⟩⟩⟩
  · exact of_decide_eq_true (Bool.and_eq_true _ _ |>.mp (Bool.and_eq_true _ _ |>.mp (k v hv)).1).1
  · exact (Bool.and_eq_true _ _ |>.mp (Bool.and_eq_true _ _ |>.mp (k v hv)).1).2
  · have z := List.all_eq_true.mp (Bool.and_eq_true _ _ |>.mp (k v hv)).2 u (List.mem_range.mpr (by omega))
    rw [decide_eq_false (show ¬ N ≤ 2 * u + 2 by omega), hb] at z
    exact (Bool.or_eq_true _ _).mp z
theorem op5 {M : Mem} {i n : Nat} (h : WI i M) (a : Int32) (hn : 100000 ≤ n) : Okk i (f_X9_tree n 0 a M) (fun M1 => f_X10_tree n 120 a M1) := by
  obtain ⟨N, A, Q, S, w⟩ := h
  obtain ⟨X, Y, L, p, sb, xg, xr⟩ := id w.1
  rcases rng3 (L := 2) (N := 4) (by decide) (by decide) a with ha | ⟨k, hk1, hk2, rfl⟩
  · refine Okk.same w (r := -1) ?_ ?_
    · rw [f_X9_tree]
      exact out2 (L := 2) (N := 4) (by decide) (by decide) ha
    · show f_X10_tree n 120 a M = _
      rw [f_X10_tree, show f_X10_isIn a (2 : Int32) (4 : Int32) M = some 0 from is_out3 (L := 2) (N := 4) (by decide) ha, obd_s, if_pos rfl]
  · obtain ⟨K, hK⟩ : ∃ K, (k = 2 ∧ K = 3) ∨ (k = 3 ∧ K = 7) ∨ (k = 4 ∧ K = 15) := by
      rcases (show k = 2 ∨ k = 3 ∨ k = 4 by omega) with e | e | e
      · exact ⟨3, Or.inl ⟨e, rfl⟩⟩
      · exact ⟨7, Or.inr (Or.inl ⟨e, rfl⟩)⟩
      · exact ⟨15, Or.inr (Or.inr ⟨e, rfl⟩)⟩
    obtain ⟨M1, e1, m1⟩ := mc_tree (n := n) sb.z hK (by omega)
    refine Okk.mk (n := n) (N := K) (C := tvv K) (tr := 1) w (by omega) (by omega) (Or.inr rfl) (fun _ => by omega) (fun v hv i a _ => bt_bd (tr_e (by omega) hv).2.2.2 a) (tr_TB (by omega)) (by omega) ⟨M1, m1, ?_⟩ (fun M2 rk => rm_tree rk hK (by omega))
    rw [f_X9_tree]
    refine Eq.trans (in2 (L := 2) (N := 4) (by decide) hk1 hk2) ?_
    rw [chk_t xg.1, xg.2.1, bnd_e, sb.f, e1, obd_s, chk_t (xg.s (Shp1.e m1.1)).1]
