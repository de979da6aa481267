/-! ===== tree ===== -/
def fuO : Nat → Int32 → Int32 → Option Int32
  | 0, _, _ => none
  | n + 1, v4, x => if v4 ≤ 0 then some x else fuO n ((v4 - (1 : Int32)) / (2 : Int32)) (x ||| ((1 : Int32) <<< (v4 &&& 31)))
def fdO (v2 : Int32) : Nat → Int32 → Int32 → Option Int32
  | 0, _, _ => none
  | n + 1, v4, x => if v2 ≤ v4 then some x else fdO v2 n (((2 : Int32) * v4) + (1 : Int32)) (x ||| ((1 : Int32) <<< (v4 &&& 31)))
theorem c2z : ¬ (2 : Int32) = 0 := by decide
theorem fd9_l {k : Nat → Int32 → Int32 → Mem → Option Mem} {v2 : Int32} {v : Nat} (hv : v < 16) : ∀ (m : Nat) (v4 : Int32) (M : Mem) (n : Nat) (x : Int32), SZ M → fdO v2 m v4 (mI M 2 v) = some x → m ≤ n → ∃ M', f_X7_makeTree_69 k n 1 v2 (nI v) v4 M = k 1 v2 (nI (v + 1)) M' ∧ Wc 2 v x M M' := by
  intro m
  induction m with
  | zero => intro v4 M n x z h _; cases h
  | succ m ih =>
    intro v4 M n x z h hn
    obtain ⟨n, rfl⟩ : ∃ r, n = r + 1 := ⟨n - 1, by omega⟩
    unfold fdO at h
    by_cases c : v2 ≤ v4
    · rw [if_pos c] at h
      refine ⟨M, ?_, ?_⟩
      · rw [f_X7_makeTree_69, if_pos c, bnd_e, nI_1]
      · rw [← Option.some.inj h]; exact Wc.r M 2 v
    · rw [if_neg c] at h
      generalize hA : sI M 2 v (mI M 2 v ||| ((1 : Int32) <<< (v4 &&& 31))) = MA
      have wA : Wc 2 v (mI M 2 v ||| ((1 : Int32) <<< (v4 &&& 31))) M MA := by rw [← hA]; exact Wc.s _ _ _ _
      obtain ⟨M', e, w⟩ := ih (((2 : Int32) * v4) + (1 : Int32)) MA n x (z.e wA.1) (by rw [wA.2.1]; exact h) (by omega)
      refine ⟨M', ?_, wA.tr w⟩
      rw [f_X7_makeTree_69, if_neg c, z.f, z.r2, bnd_e, z.a2, z.i2 hv, z.i2 hv, mI_c (by omega), sI_c (by omega), hA, bnd_e, bnd_e]
      exact e
theorem fu9_l {k : Nat → Int32 → Int32 → Mem → Option Mem} {v2 : Int32} {v : Nat} (hv : v < 16) : ∀ (m : Nat) (v4 : Int32) (M : Mem) (n : Nat) (x : Int32), SZ M → fuO m v4 (mI M 2 v) = some x → m ≤ n → ∃ M' n', f_X7_makeTree_33 k n 1 v2 (nI v) v4 M = f_X7_makeTree_69 k n' 1 v2 (nI v) (((2 : Int32) * nI v) + (1 : Int32)) M' ∧ Wc 2 v x M M' ∧ n ≤ n' + m := by
  intro m
  induction m with
  | zero => intro v4 M n x z h _; cases h
  | succ m ih =>
    intro v4 M n x z h hn
    obtain ⟨n, rfl⟩ : ∃ r, n = r + 1 := ⟨n - 1, by omega⟩
    unfold fuO at h
    by_cases c : v4 ≤ 0
    · rw [if_pos c] at h
      refine ⟨M, n, ?_, ?_, by omega⟩
      · rw [f_X7_makeTree_33, if_pos c, bnd_e]
      · rw [← Option.some.inj h]; exact Wc.r M 2 v
    · rw [if_neg c] at h
      generalize hA : sI M 2 v (mI M 2 v ||| ((1 : Int32) <<< (v4 &&& 31))) = MA
      have wA : Wc 2 v (mI M 2 v ||| ((1 : Int32) <<< (v4 &&& 31))) M MA := by rw [← hA]; exact Wc.s _ _ _ _
      obtain ⟨M', n', e, w, hn'⟩ := ih ((v4 - (1 : Int32)) / (2 : Int32)) MA n x (z.e wA.1) (by rw [wA.2.1]; exact h) (by omega)
      refine ⟨M', n', ?_, wA.tr w, by omega⟩
      rw [f_X7_makeTree_33, if_neg c, z.f, z.r2, bnd_e, z.a2, z.i2 hv, z.i2 hv, mI_c (by omega), sI_c (by omega), hA, bnd_e, chk_t c2z, bnd_e]
      exact e
theorem fd10_l {k : Nat → Int32 → Int32 → Mem → Option (Int32 × Mem)} {v2 : Int32} {v : Nat} (hv : v < 16) : ∀ (m : Nat) (v4 : Int32) (M : Mem) (n : Nat) (x : Int32), RK M 120 121 → fdO v2 m v4 (mI M 121 (2 + v)) = some x → m ≤ n → ∃ M', f_X10_tree_76 k n 120 v2 (nI v) v4 M = k 120 v2 (nI (v + 1)) M' ∧ Wc 121 (2 + v) x M M' := by
  intro m
  induction m with
  | zero => intro v4 M n x z h _; cases h
  | succ m ih =>
    intro v4 M n x z h hn
    obtain ⟨n, rfl⟩ : ∃ r, n = r + 1 := ⟨n - 1, by omega⟩
    unfold fdO at h
    by_cases c : v2 ≤ v4
    · rw [if_pos c] at h
      refine ⟨M, ?_, ?_⟩
      · rw [f_X10_tree_76, if_pos c, bnd_e, nI_1]
      · rw [← Option.some.inj h]; exact Wc.r M 121 (2 + v)
    · rw [if_neg c] at h
      generalize hA : sI M 121 (2 + v) (mI M 121 (2 + v) ||| ((1 : Int32) <<< (v4 &&& 31))) = MA
      have wA : Wc 121 (2 + v) (mI M 121 (2 + v) ||| ((1 : Int32) <<< (v4 &&& 31))) M MA := by rw [← hA]; exact Wc.s _ _ _ _
      obtain ⟨M', e, w⟩ := ih (((2 : Int32) * v4) + (1 : Int32)) MA n x (z.e wA.1) (by rw [wA.2.1]; exact h) (by omega)
      refine ⟨M', ?_, wA.tr w⟩
      rw [f_X10_tree_76, if_neg c, z.f, z.r, bnd_e, z.a, show (2 : Int32) + nI v = nI (2 + v) by rw [show (2 : Int32) = nI 2 from rfl, nI_add], bnd_e, z.i (by omega), z.i (by omega), mI_c (by omega), sI_c (by omega), hA, bnd_e, bnd_e]
      exact e
theorem fu10_l {k : Nat → Int32 → Int32 → Mem → Option (Int32 × Mem)} {v2 : Int32} {v : Nat} (hv : v < 16) : ∀ (m : Nat) (v4 : Int32) (M : Mem) (n : Nat) (x : Int32), RK M 120 121 → fuO m v4 (mI M 121 (2 + v)) = some x → m ≤ n → ∃ M' n', f_X10_tree_42 k n 120 v2 (nI v) v4 M = f_X10_tree_76 k n' 120 v2 (nI v) (nI v) M' ∧ Wc 121 (2 + v) x M M' ∧ n ≤ n' + m := by
  intro m
  induction m with
  | zero => intro v4 M n x z h _; cases h
  | succ m ih =>
    intro v4 M n x z h hn
    obtain ⟨n, rfl⟩ : ∃ r, n = r + 1 := ⟨n - 1, by omega⟩
    unfold fuO at h
    by_cases c : v4 ≤ 0
    · rw [if_pos c] at h
      refine ⟨M, n, ?_, ?_, by omega⟩
      · rw [f_X10_tree_42, if_pos c]
      · rw [← Option.some.inj h]; exact Wc.r M 121 (2 + v)
    · rw [if_neg c] at h
      generalize hA : sI M 121 (2 + v) (mI M 121 (2 + v) ||| ((1 : Int32) <<< (v4 &&& 31))) = MA
      have wA : Wc 121 (2 + v) (mI M 121 (2 + v) ||| ((1 : Int32) <<< (v4 &&& 31))) M MA := by rw [← hA]; exact Wc.s _ _ _ _
      obtain ⟨M', n', e, w, hn'⟩ := ih ((v4 - (1 : Int32)) / (2 : Int32)) MA n x (z.e wA.1) (by rw [wA.2.1]; exact h) (by omega)
      refine ⟨M', n', ?_, wA.tr w, by omega⟩
      rw [f_X10_tree_42, if_neg c, z.f, z.r, bnd_e, z.a, show (2 : Int32) + nI v = nI (2 + v) by rw [show (2 : Int32) = nI 2 from rfl, nI_add], bnd_e, z.i (by omega), z.i (by omega), mI_c (by omega), sI_c (by omega), hA, bnd_e, chk_t c2z, bnd_e]
      exact e
def tuv (v : Nat) : Int32 := (fuO 6 (nI v) 1).getD 0
def tvv (N v : Nat) : Int32 := (fdO (nI N) 6 (((2 : Int32) * nI v) + (1 : Int32)) (tuv v)).getD 0
set_option maxRecDepth 1000000 in
theorem tr_k : ([3, 7, 15] : List Nat).all (fun N => (List.range N).all fun v => (decide (fuO 6 (nI v) 1 = some (tuv v)) && decide (fdO (nI N) 6 (((2 : Int32) * nI v) + (1 : Int32)) (tuv v) = some (tvv N v))) && (decide (fdO (nI N) 7 (nI v) (tuv v) = some (tvv N v)) && decide ((tvv N v).toBitVec.toNat < 2 ^ N))) = true := by decide +kernel
theorem tr_e {N v : Nat} (h : N = 3 ∨ N = 7 ∨ N = 15) (hv : v < N) : fuO 6 (nI v) 1 = some (tuv v) ∧ fdO (nI N) 6 (((2 : Int32) * nI v) + (1 : Int32)) (tuv v) = some (tvv N v) ∧ fdO (nI N) 7 (nI v) (tuv v) = some (tvv N v) ∧ (tvv N v).toBitVec.toNat < 2 ^ N := by
  have m : N ∈ ([3, 7, 15] : List Nat) := by
    rcases h with rfl | rfl | rfl <;> simp
  have h := List.all_eq_true.mp (List.all_eq_true.mp tr_k N m) v (List.mem_range.mpr hv)
  simp only [Bool.and_eq_true] at h
  exact ⟨of_decide_eq_true h.1.1, of_decide_eq_true h.1.2, of_decide_eq_true h.2.1, of_decide_eq_true h.2.2⟩
theorem mc_tree {M : Mem} {N q n : Nat} (z : SZ M) (h : (q = 2 ∧ N = 3) ∨ (q = 3 ∧ N = 7) ∨ (q = 4 ∧ N = 15)) (hn : 60 ≤ n) : ∃ M', f_X7_makeTree n 1 (nI q) M = some M' ∧ MC N (tvv N) 1 M M' := by
  have hN : N = 3 ∨ N = 7 ∨ N = 15 := by omega
  have ex : ((1 : Int32) <<< (nI q &&& 31)) - (1 : Int32) = nI N := by
    rcases h with ⟨rfl, rfl⟩ | ⟨rfl, rfl⟩ | ⟨rfl, rfl⟩ <;> decide
  obtain ⟨M1, e1, b1⟩ := z.bg (N := N) (n := n) (by omega)
  have z1 := z.e b1.1
  generalize hMt : sI M1 1 4 1 = Mt
  have bt1 : Bg N 1 M Mt := by
    obtain ⟨a1, a2, a3, a4, a5, a6⟩ := b1
    rw [← hMt]
    exact ⟨a1, by rw [mI_n _ _ _ _ (by decide)]; exact a2, mI_s _ _ _ _, fun v hv => by rw [mI_o _ _ _ _ _ (by decide)]; exact a4 v hv, fun o n1 n2 b => by rw [mI_o _ _ _ _ _ n1]; exact a5 o n1 n2 b, a6⟩
  have zt := z.e bt1.1
  obtain ⟨M2, e2, l2⟩ := lpw (F := fun n x M => f_X7_makeTree_18 n 1 (nI N) x M) (G := some) (M0 := Mt) (o := 2) (c := 0) (N := N) (K := 15) (C := tvv N) (fun i n M hi l hn => by
    have zz := zt.e l.1
    obtain ⟨t1, t2, _, _⟩ := tr_e hN hi
    generalize hA : sI M 2 i 1 = MA
    have wA : Wc 2 i 1 M MA := by rw [← hA]; exact Wc.s _ _ _ _
    obtain ⟨MB, nB, eB, wB, hB⟩ := fu9_l (k := f_X7_makeTree_18 n) (v2 := nI N) (v := i) (by omega) 6 (nI i) MA n (tuv i) (zz.e wA.1) (by rw [wA.2.1]; exact t1) (by omega)
    obtain ⟨MC, eC, wC⟩ := fd9_l (k := f_X7_makeTree_18 n) (v2 := nI N) (v := i) (by omega) 6 _ MB nB (tvv N i) ((zz.e wA.1).e wB.1) (by rw [wB.2.1]; exact t2) (by omega)
    refine ⟨MC, ?_, by rw [Nat.zero_add]; exact wA.tr (wB.tr wC)⟩
    show f_X7_makeTree_18 (n + 1) 1 (nI N) (nI i) M = _
    rw [f_X7_makeTree_18, if_neg (nI_ge hi (by omega)), zz.f, zz.r2, bnd_e, zz.a2, zz.i2 (by omega), sI_c (by omega), hA, bnd_e, eB, eC]) (fun n M l => by
    show f_X7_makeTree_18 (n + 1) 1 (nI N) (nI N) M = _
    rw [f_X7_makeTree_18, if_pos (nI_le (Nat.le_refl _) (by omega))]) N 0 n Mt (by omega) (Lp.r _ _ _ _) (by omega)
  exact ⟨M2, by rw [f_X7_makeTree, bnd_e, z.f, ex, e1, obd_s, z1.f, chk_t (Or.inr rfl), hMt, bnd_e]; exact e2, bt1.mc l2⟩
theorem rm_tree {M : Mem} {N q n : Nat} (h : RK M 120 121) (hq : (q = 2 ∧ N = 3) ∨ (q = 3 ∧ N = 7) ∨ (q = 4 ∧ N = 15)) (hn : 12000 ≤ n) : ∃ M', f_X10_tree n 120 (nI q) M = some (nI N, M') ∧ RE N 1 (tvv N) M M' := by
  have hN : N = 3 ∨ N = 7 ∨ N = 15 := by omega
  have ex : ((1 : Int32) <<< (nI q &&& 31)) - (1 : Int32) = nI N := by
    rcases hq with ⟨rfl, rfl⟩ | ⟨rfl, rfl⟩ | ⟨rfl, rfl⟩ <;> decide
  have e1 := f_begin (N := nI N) (t := 1) h (n := n) (by omega)
  rw [if_neg ne10] at e1
  have h1' : RK (wA M 121 (bgf (mI M 121) (nI N) 1)) 120 121 := h
  generalize hM1 : wA M 121 (bgf (mI M 121) (nI N) 1) = M1 at h1' e1
  obtain ⟨M2, e2, l2⟩ := lpw (F := fun n x M => f_X10_tree_25 n 120 (nI N) x M) (G := fun M => some (nI N, M)) (M0 := M1) (o := 121) (c := 2) (N := N) (K := 15) (C := tvv N) (fun i n M hi l hn => by
    have zz := h1'.e l.1
    obtain ⟨t1, _, t2, _⟩ := tr_e hN hi
    generalize hA : sI M 121 (2 + i) 1 = MA
    have wA : Wc 121 (2 + i) 1 M MA := by rw [← hA]; exact Wc.s _ _ _ _
    obtain ⟨MB, nB, eB, wB, hB⟩ := fu10_l (k := f_X10_tree_25 n) (v2 := nI N) (v := i) (by omega) 6 (nI i) MA n (tuv i) (zz.e wA.1) (by rw [wA.2.1]; exact t1) (by omega)
    obtain ⟨MC, eC, wC⟩ := fd10_l (k := f_X10_tree_25 n) (v2 := nI N) (v := i) (by omega) 7 _ MB nB (tvv N i) ((zz.e wA.1).e wB.1) (by rw [wB.2.1]; exact t2) (by omega)
    refine ⟨MC, ?_, wA.tr (wB.tr wC)⟩
    show f_X10_tree_25 (n + 1) 120 (nI N) (nI i) M = _
    rw [f_X10_tree_25, if_neg (nI_ge hi (by omega)), zz.f, zz.r, bnd_e, zz.a, show (2 : Int32) + nI i = nI (2 + i) by rw [show (2 : Int32) = nI 2 from rfl, nI_add], zz.i (by omega), sI_c (by omega), hA, bnd_e, eB, eC]) (fun n M l => by
    show f_X10_tree_25 (n + 1) 120 (nI N) (nI N) M = _
    rw [f_X10_tree_25, if_pos (nI_le (Nat.le_refl _) (by omega))]) N 0 n M1 (by omega) (Lp.r _ _ _ _) (by omega)
  refine ⟨M2, ?_, RE_of (by rw [hM1]; exact l2)⟩
  rw [f_X10_tree, show f_X10_isIn (nI q) (2 : Int32) (4 : Int32) M = some 1 from is_in3 (L := 2) (N := 4) (by decide) (by omega) (by omega), obd_s, if_neg ne10, bnd_e, h.f, ex, e1, obd_s]
  exact e2
set_option maxRecDepth 1000000 in
theorem tr_z : ([3, 7, 15] : List Nat).all (fun N => (List.range N).all fun v => (decide (¬ tvv N v = 0) && bt (tvv N v) 0) && (List.range 15).all fun u => decide (N ≤ 2 * u + 2) || (!bt (tvv N v) u || (bt (tvv N v) (2 * u + 1) || bt (tvv N v) (2 * u + 2)))) = true := by decide +kernel
theorem tr_TB {N : Nat} (h : N = 3 ∨ N = 7 ∨ N = 15) : TBs N (tvv N) 1 := by
  have m : N ∈ ([3, 7, 15] : List Nat) := by
    rcases h with rfl | rfl | rfl <;> simp
  have k : ∀ v, v < N → ((decide (¬ tvv N v = 0) && bt (tvv N v) 0) && (List.range 15).all fun u => decide (N ≤ 2 * u + 2) || (!bt (tvv N v) u || (bt (tvv N v) (2 * u + 1) || bt (tvv N v) (2 * u + 2)))) = true := fun v hv => List.all_eq_true.mp (List.all_eq_true.mp tr_z N m) v (List.mem_range.mpr hv)
  refine ⟨fun v hv => ?_, fun _ => ⟨h, fun v hv => ⟨?_, fun u hu hb => ?_⟩⟩⟩
  · exact of_decide_eq_true (Bool.and_eq_true _ _ |>.mp (Bool.and_eq_true _ _ |>.mp (k v hv)).1).1
  · exact (Bool.and_eq_true _ _ |>.mp (Bool.and_eq_true _ _ |>.mp (k v hv)).1).2
  · have z := List.all_eq_true.mp (Bool.and_eq_true _ _ |>.mp (k v hv)).2 u (List.mem_range.mpr (by omega))
    rw [decide_eq_false (show ¬ N ≤ 2 * u + 2 by omega), hb] at z
    exact (Bool.or_eq_true _ _).mp z
theorem op5 {M : Mem} {i n : Nat} (h : WI i M) (a : Int32) (hn : 100000 ≤ n) : Okk i (f_X9_tree n 0 a M) (fun M1 => f_X10_tree n 120 a M1) := by
  obtain ⟨N, A, Q, S, w⟩ := h
  obtain ⟨X, Y, L, p, sb, xg, xr⟩ := id w.1
  rcases rng3 (L := 2) (N := 4) (by decide) (by decide) a with ha | ⟨k, hk1, hk2, rfl⟩
  · refine Okk.same w (r := -1) ?_ ?_
    · rw [f_X9_tree]
      exact out2 (L := 2) (N := 4) (by decide) (by decide) ha
    · show f_X10_tree n 120 a M = _
      rw [f_X10_tree, show f_X10_isIn a (2 : Int32) (4 : Int32) M = some 0 from is_out3 (L := 2) (N := 4) (by decide) ha, obd_s, if_pos rfl]
  · obtain ⟨K, hK⟩ : ∃ K, (k = 2 ∧ K = 3) ∨ (k = 3 ∧ K = 7) ∨ (k = 4 ∧ K = 15) := by
      rcases (show k = 2 ∨ k = 3 ∨ k = 4 by omega) with e | e | e
      · exact ⟨3, Or.inl ⟨e, rfl⟩⟩
      · exact ⟨7, Or.inr (Or.inl ⟨e, rfl⟩)⟩
      · exact ⟨15, Or.inr (Or.inr ⟨e, rfl⟩)⟩
    obtain ⟨M1, e1, m1⟩ := mc_tree (n := n) sb.z hK (by omega)
    refine Okk.mk (n := n) (N := K) (C := tvv K) (tr := 1) w (by omega) (by omega) (Or.inr rfl) (fun _ => by omega) (fun v hv i a _ => bt_bd (tr_e (by omega) hv).2.2.2 a) (tr_TB (by omega)) (by omega) ⟨M1, m1, ?_⟩ (fun M2 rk => rm_tree rk hK (by omega))
    rw [f_X9_tree]
    refine Eq.trans (in2 (L := 2) (N := 4) (by decide) hk1 hk2) ?_
    rw [chk_t xg.1, xg.2.1, bnd_e, sb.f, e1, obd_s, chk_t (xg.s (Shp1.e m1.1)).1]
/-! ===== which do not meet; a base by hand ===== -/
def suB (f : Nat → Nat) (b : Nat) : Nat → Nat
  | 0 => 0
  | d + 1 => f b + suB f (b + 1) d
theorem suB_smN (f : Nat → Nat) (N : Nat) : ∀ d b, b + d = N → suB f b d = smN (fun x => if b ≤ x then f x else 0) N := by
  intro d
  induction d with
  | zero =>
    intro b hb
    have : smN (fun x => if b ≤ x then f x else 0) N = smN (fun _ => 0) N := smN_c N (fun x hx => if_neg (by omega))
    rw [this, smN_k, Nat.zero_mul]; rfl
  | succ d ih =>
    intro b hb
    show f b + suB f (b + 1) d = _
    rw [ih (b + 1) (by omega)]
    have h := smN_at (f := fun x => if b ≤ x then f x else 0) (g := fun x => if b + 1 ≤ x then f x else 0) (v := b) N (by omega) (fun x hx hn => by
      by_cases c : b ≤ x
      · show (if b ≤ x then f x else 0) = (if b + 1 ≤ x then f x else 0)
        rw [if_pos c, if_pos (by omega)]
      · show (if b ≤ x then f x else 0) = (if b + 1 ≤ x then f x else 0)
        rw [if_neg c, if_neg (by omega)])
    have e1 : (if b + 1 ≤ b then f b else 0) = 0 := if_neg (by omega)
    have e2 : (if b ≤ b then f b else 0) = f b := if_pos (Nat.le_refl _)
    simp only [e1, e2] at h
    omega
theorem suB_c {f g : Nat → Nat} : ∀ d b, (∀ x, b ≤ x → x < b + d → f x = g x) → suB f b d = suB g b d := by
  intro d
  induction d with
  | zero => intro b _; rfl
  | succ d ih =>
    intro b h
    show f b + suB f (b + 1) d = g b + suB g (b + 1) d
    rw [h b (Nat.le_refl _) (by omega), ih (b + 1) (fun x h1 h2 => h x (by omega) (by omega))]
theorem suB_le {f : Nat → Nat} {K : Nat} : ∀ d b, (∀ x, f x ≤ K) → suB f b d ≤ K * d := by
  intro d
  induction d with
  | zero => intro b _; exact Nat.le_refl _
  | succ d ih =>
    intro b h
    have := ih (b + 1) h
    have := h b
    show f b + suB f (b + 1) d ≤ K * (d + 1)
    rw [Nat.mul_succ]; omega
/-- two bases have no node in common -/
def apP (S : St) (a b : Nat) : Nat := if xR S 17 a &&& xR S 17 b = 0 then 1 else 0
theorem apP_1 (S : St) (a b : Nat) : apP S a b ≤ 1 := by
  unfold apP
  split <;> omega
theorem apP_s (S : St) (a b : Nat) : apP S a b = apP S b a := by
  unfold apP
  rw [Int32.and_comm]
/-- how many pairs -/
def apN (N : Nat) (S : St) : Nat := suB (fun a => suB (apP S a) (a + 1) (N - (a + 1))) 0 N
theorem apN_r (N : Nat) (S : St) : suB (fun a => suB (apP S a) 0 a) 0 N = apN N S := by
  have l : ∀ a, a < N → suB (apP S a) (a + 1) (N - (a + 1)) = smN (fun x => if a + 1 ≤ x then apP S a x else 0) N := fun a ha => suB_smN _ N _ _ (by omega)
  have r : ∀ a, a < N → suB (apP S a) 0 a = smN (fun x => if x < a then apP S a x else 0) N := fun a ha => by
    rw [suB_smN (apP S a) a a 0 (by omega)]
    have h1 : smN (fun x => if 0 ≤ x then apP S a x else 0) a = smN (fun x => if x < a then apP S a x else 0) a := smN_c a (fun x hx => by
      show (if 0 ≤ x then apP S a x else 0) = (if x < a then apP S a x else 0)
      rw [if_pos (Nat.zero_le _), if_pos hx])
    rw [h1]
    have h2 : ∀ d, smN (fun x => if x < a then apP S a x else 0) (a + d) = smN (fun x => if x < a then apP S a x else 0) a := by
      intro d
      induction d with
      | zero => rfl
      | succ d ih =>
        show smN _ (a + d) + (if a + d < a then _ else 0) = _
        rw [if_neg (by omega), Nat.add_zero, ih]
    have := h2 (N - a)
    rw [show a + (N - a) = N by omega] at this
    rw [this]
  unfold apN
  rw [suB_c (g := fun a => smN (fun x => if a + 1 ≤ x then apP S a x else 0) N) N 0 (fun a _ h => l a (by omega)), suB_c (g := fun a => smN (fun x => if x < a then apP S a x else 0) N) N 0 (fun a _ h => r a (by omega)), suB_smN _ N N 0 (by omega), suB_smN _ N N 0 (by omega)]
  have e : ∀ F : Nat → Nat, smN (fun x => if 0 ≤ x then F x else 0) N = smN F N := fun F => smN_c N (fun x _ => if_pos (Nat.zero_le _))
  rw [e, e, smN_sw (fun a x => if x < a then apP S a x else 0) N N]
  refine smN_c N (fun a _ => smN_c N (fun x _ => ?_))
  show (if a < x then apP S x a else 0) = (if a + 1 ≤ x then apP S a x else 0)
  by_cases c : a < x
  · rw [if_pos c, if_pos (by omega), apP_s]
  · rw [if_neg c, if_neg (by omega)]
theorem ca_16 {M : Mem} {N : Nat} {S : St} {k : Nat → Int32 → Int32 → Option Int32} (sb : SB M N S) (h16 : N ≤ 16) {a : Nat} (ha : a < N) : ∀ (d b c n : Nat), b + d = N → d + 1 ≤ n → f_X7_countApart_16 k M n 1 (nI c) (nI a) (nI b) = k 1 (nI (c + suB (apP S a) b d)) (nI (a + 1)) := by
  intro d
  induction d with
  | zero =>
    intro b c n hb hn
    obtain ⟨n, rfl⟩ : ∃ m, n = m + 1 := ⟨n - 1, by omega⟩
    rw [f_X7_countApart_16, sb.f, sb.n, if_pos (nI_le (by omega) (by omega)), bnd_e, nI_1]
    rfl
  | succ d ih =>
    intro b c n hb hn
    obtain ⟨n, rfl⟩ : ∃ m, n = m + 1 := ⟨n - 1, by omega⟩
    rw [f_X7_countApart_16, sb.f, sb.n, if_neg (nI_ge (by omega) (by omega)), sb.r2, bnd_e, sb.a2, sb.i2 (by omega), bnd_e, sb.a2, sb.i2 (by omega), mI_c (by omega), mI_c (by omega), sb.b ha, sb.b (by omega)]
    show _ = k 1 (nI (c + (apP S a b + suB (apP S a) (b + 1) d))) (nI (a + 1))
    unfold apP
    by_cases z : xR S 17 a &&& xR S 17 b = 0
    · rw [if_pos z, if_pos z, bnd_e, bnd_e, nI_1, nI_1, ih (b + 1) (c + 1) n (by omega) (by omega)]
      unfold apP
      rw [show c + 1 + suB (fun b => if xR S 17 a &&& xR S 17 b = 0 then 1 else 0) (b + 1) d = c + (1 + suB (fun b => if xR S 17 a &&& xR S 17 b = 0 then 1 else 0) (b + 1) d) by omega]
    · rw [if_neg z, if_neg z, bnd_e, nI_1, ih (b + 1) c n (by omega) (by omega), Nat.zero_add]
      rfl
theorem ca_4 {M : Mem} {N : Nat} {S : St} (sb : SB M N S) (h16 : N ≤ 16) : ∀ (d a c n : Nat), a + d = N → d + 20 ≤ n → f_X7_countApart_4 M n 1 (nI c) (nI a) = some (nI (c + suB (fun a => suB (apP S a) (a + 1) (N - (a + 1))) a d)) := by
  intro d
  induction d with
  | zero =>
    intro a c n ha hn
    obtain ⟨n, rfl⟩ : ∃ m, n = m + 1 := ⟨n - 1, by omega⟩
    rw [f_X7_countApart_4, sb.f, sb.n, if_pos (nI_le (by omega) (by omega))]
    rfl
  | succ d ih =>
    intro a c n ha hn
    obtain ⟨n, rfl⟩ : ∃ m, n = m + 1 := ⟨n - 1, by omega⟩
    rw [f_X7_countApart_4, sb.f, sb.n, if_neg (nI_ge (by omega) (by omega)), bnd_e, nI_1, ca_16 sb h16 (by omega) (N - (a + 1)) (a + 1) c n (by omega) (by omega), ih (a + 1) _ n (by omega) (by omega)]
    show some (nI (c + _ + _)) = some (nI (c + (_ + _)))
    rw [Nat.add_assoc]
theorem SB.ap {M : Mem} {N n : Nat} {S : St} (sb : SB M N S) (h16 : N ≤ 16) (hn : 60 ≤ n) : f_X7_countApart n 1 M = some (nI (apN N S)) := by
  rw [f_X7_countApart, show (0 : Int32) = nI 0 from rfl, ca_4 sb h16 N 0 0 n (by omega) (by omega), Nat.zero_add]
  rfl
theorem ra_16 {M : Mem} {N : Nat} {S : St} {tw : Bool} {t : Int32} {pb pt : List Row4} {k : Nat → Int32 → Int32 → Option Int32} (r : RV M tw t S pb pt) (h16 : N ≤ 16) {a : Nat} (ha : a < N) : ∀ (d b c n : Nat), b + d = a → d + 1 ≤ n → f_X10_apart_16 k M n 120 (nI c) (nI a) (nI b) = k 120 (nI (c + suB (apP S a) b d)) (nI (a + 1)) := by
  intro d
  induction d with
  | zero =>
    intro b c n hb hn
    obtain ⟨n, rfl⟩ : ∃ m, n = m + 1 := ⟨n - 1, by omega⟩
    rw [f_X10_apart_16, if_pos (nI_le (by omega) (by omega)), bnd_e, nI_1]
    rfl
  | succ d ih =>
    intro b c n hb hn
    obtain ⟨n, rfl⟩ : ∃ m, n = m + 1 := ⟨n - 1, by omega⟩
    rw [f_X10_apart_16, if_neg (nI_ge (by omega) (by omega)), rs_f r.1, r.base (by omega), obd_s, r.base (by omega), obd_s]
    show _ = k 120 (nI (c + (apP S a b + suB (apP S a) (b + 1) d))) (nI (a + 1))
    unfold apP
    by_cases z : xR S 17 a &&& xR S 17 b = 0
    · rw [if_pos z, if_pos z, bnd_e, bnd_e, nI_1, nI_1, ih (b + 1) (c + 1) n (by omega) (by omega)]
      unfold apP
      rw [show c + 1 + suB (fun b => if xR S 17 a &&& xR S 17 b = 0 then 1 else 0) (b + 1) d = c + (1 + suB (fun b => if xR S 17 a &&& xR S 17 b = 0 then 1 else 0) (b + 1) d) by omega]
    · rw [if_neg z, if_neg z, bnd_e, bnd_e, nI_1, show nI c + (0 : Int32) = nI c from Int32.add_zero _, ih (b + 1) c n (by omega) (by omega), Nat.zero_add]
      rfl
theorem ra_4 {M : Mem} {N : Nat} {S : St} {tw : Bool} {t : Int32} {pb pt : List Row4} (r : RV M tw t S pb pt) (hN : xR S 20 0 = nI N) (h16 : N ≤ 16) : ∀ (d a c n : Nat), a + d = N → d + 20 ≤ n → f_X10_apart_4 M n 120 (nI c) (nI a) = some (nI (c + suB (fun a => suB (apP S a) 0 a) a d)) := by
  intro d
  induction d with
  | zero =>
    intro a c n ha hn
    obtain ⟨n, rfl⟩ : ∃ m, n = m + 1 := ⟨n - 1, by omega⟩
    rw [f_X10_apart_4, rs_f r.1, rs_0 r.1, bnd_e, rs_fa r.1, rs_c0 r.1, cl0, r.N hN, if_pos (nI_le (by omega) (by omega))]
    rfl
  | succ d ih =>
    intro a c n ha hn
    obtain ⟨n, rfl⟩ : ∃ m, n = m + 1 := ⟨n - 1, by omega⟩
    rw [f_X10_apart_4, rs_f r.1, rs_0 r.1, bnd_e, rs_fa r.1, rs_c0 r.1, cl0, r.N hN, if_neg (nI_ge (by omega) (by omega)), show (0 : Int32) = nI 0 from rfl, ra_16 r h16 (N := N) (by omega) a 0 c n (by omega) (by omega), ih (a + 1) _ n (by omega) (by omega)]
    show some (nI (c + _ + _)) = some (nI (c + (_ + _)))
    rw [Nat.add_assoc]
theorem RV.ap {M : Mem} {N n : Nat} {S : St} {tw : Bool} {t : Int32} {pb pt : List Row4} (r : RV M tw t S pb pt) (hN : xR S 20 0 = nI N) (h16 : N ≤ 16) (hn : 60 ≤ n) : f_X10_apart n 120 M = some (nI (apN N S)) := by
  rw [f_X10_apart, show (0 : Int32) = nI 0 from rfl, ra_4 r hN h16 N 0 0 n (by omega) (by omega), Nat.zero_add, apN_r]
/-! ===== apart, base ===== -/
theorem op10 {M : Mem} {i n : Nat} (h : WI i M) (hn : 100000 ≤ n) : ∃ r, f_X9_apart n 0 M = some r ∧ f_X10_apart n 120 M = some r := by
  obtain ⟨N, A, Q, S, w⟩ := h
  obtain ⟨X, Y, L, p, sb, xg, xr⟩ := id w.1
  obtain ⟨_, r, z7, sw, hQ⟩ := id w
  refine ⟨nI (apN N S), ?_, r.ap sw.n sw.n16 (by omega)⟩
  rw [f_X9_apart, chk_t xg.1, xg.2.1, bnd_e, sb.f, sb.ap sw.n16 (by omega), obd_s]
theorem apN_c {N : Nat} {S S' : St} (h : ∀ v, v < N → xR S 17 v = xR S' 17 v) : apN N S = apN N S' := by
  unfold apN
  refine suB_c N 0 (fun a _ ha => suB_c _ _ (fun b _ hb => ?_))
  unfold apP
  rw [h a (by omega), h b (by omega)]
set_option maxRecDepth 100000 in
theorem allb_k : (List.range 17).all (fun N => (List.range 32).all fun i => bt (((1 : Int32) <<< (nI N &&& 31)) - 1) i == decide (i < N)) = true := by decide +kernel
theorem all_b {N i : Nat} (h16 : N ≤ 16) (hi : i < 32) : bt (((1 : Int32) <<< (nI N &&& 31)) - 1) i = decide (i < N) :=
  eq_of_beq (List.all_eq_true.mp (List.all_eq_true.mp allb_k N (List.mem_range.mpr (by omega))) i (List.mem_range.mpr hi))
theorem SB.isS {M : Mem} {N : Nat} {S : St} (sb : SB M N S) (a : Int32) : f_X7_isSetOfNodes 1 a M = some (if a &&& ((((1 : Int32) <<< (nI N &&& 31)) - 1) ^^^ (-1 : Int32)) = 0 then 1 else 0) := by
  rw [f_X7_isSetOfNodes, sb.f, f_X7_allNodes, sb.f, sb.n, obd_s]
  split <;> rfl
theorem op7 {M : Mem} {i n : Nat} (h : WI i M) (a b : Int32) (hn : 100000 ≤ n) : Okk i (f_X9_base n 0 a b M) (fun M1 => f_X10_base n 120 a b M1) := by
  obtain ⟨N, A, Q, S, w⟩ := h
  obtain ⟨X, Y, L, p, sb, xg, xr⟩ := id w.1
  obtain ⟨_, r, z7, sw, hQ⟩ := id w
  have h16 := sw.n16
  have h2 := sw.n2
  have al := f_all r sw.n
  rcases out_in (N := N) (by omega) a with ha | ⟨k, hk, rfl⟩
  · refine Okk.same w (r := -1) ?_ ?_
    · rw [f_X9_base, chk_t xg.1, xg.2.1, bnd_e, sb.f, ndc0 sb ha, obd_s, if_pos rfl]
    · show f_X10_base n 120 a b M = _
      rw [f_X10_base, rs_f r.1, ndr0 r sw.n (by omega) h16 ha, obd_s, if_pos rfl]
  · by_cases b0 : b = 0
    · refine Okk.same w (r := -1) ?_ ?_
      · rw [f_X9_base, chk_t xg.1, xg.2.1, bnd_e, sb.f, ndc sb hk h16, obd_s, if_neg ne10, if_pos b0]
      · show f_X10_base n 120 (nI k) b M = _
        rw [f_X10_base, rs_f r.1, ndr r sw.n hk h16, obd_s, if_neg ne10, if_pos b0]
    · by_cases c : b &&& ((((1 : Int32) <<< (nI N &&& 31)) - 1) ^^^ (-1 : Int32)) = 0
      · have bb : ∀ i, N ≤ i → i < 32 → bt b i = false := fun i h1 h2 => by
          have := bt_minus b (((1 : Int32) <<< (nI N &&& 31)) - 1) h2
          rw [c, b_0, all_b h16 h2, decide_eq_false (by omega)] at this
          simpa using this.symm
        let C : Nat → Int32 := fun v => if v = k then b else xR S 17 v
        generalize hM1 : sI (sI M 2 k b) 1 4 0 = M1
        have m1 : MC N C 0 M M1 := by
          rw [← hM1]
          refine ⟨rfl, fun o ho b => by rw [mI_o _ _ _ _ _ (by omega), mI_o _ _ _ _ _ (by omega)], by rw [mI_n _ _ _ _ (by decide), mI_o _ _ _ _ _ (by decide)]; exact sb.n, mI_s _ _ _ _, fun v hv => ?_, fun _ _ => rfl⟩
          rw [mI_o _ _ _ _ _ (by decide)]
          by_cases e : v = k
          · rw [e, mI_s]; exact (if_pos rfl).symm
          · rw [mI_n _ _ _ _ e, sb.b hv]; exact (if_neg e).symm
        obtain ⟨M2, e2, io, rk, r2, ⟨xg2, sb2⟩, fin⟩ := w.mk (n := n) m1 h2 h16 (Or.inl rfl) (fun z => absurd z (by decide)) (fun v hv i h1 h2 => by
          show bt (if v = k then b else xR S 17 v) i = false
          split
          · exact bb i h1 h2
          · exact sw.bi v hv i h1 h2) ⟨fun v hv => by
          show ¬ (if v = k then b else xR S 17 v) = 0
          split
          · exact b0
          · exact sw.tb.1 v hv, fun z => absurd z (by decide)⟩ (by omega)
        have eb := f_begin (N := nI N) (t := 0) rk (n := n) (by omega)
        rw [if_pos rfl] at eb
        have n2 : mI M2 121 0 = nI N := r2.N sw.n
        have rkb : RK (wA M2 121 (bgf (mI M2 121) (nI N) 0)) 120 121 := rk
        generalize hMb : wA M2 121 (bgf (mI M2 121) (nI N) 0) = Mb at eb rkb
        have wc : Wc 121 (2 + k) b Mb (sI Mb 121 (2 + k) b) := Wc.s _ _ _ _
        generalize hM3 : sI Mb 121 (2 + k) b = M3 at wc
        have wI : ∀ o, o ≠ 121 → ∀ c, mI Mb o c = mI M2 o c := fun o n c => by rw [← hMb]; exact if_neg n
        have sb3 : Mb.1 = M2.1 := by rw [← hMb]; rfl
        have s3 : M3.1 = M2.1 := wc.1.trans sb3
        have f3 : ∀ c, c < 10465 → mI M3 121 c = rfm (mI M2 121) N 0 C c := fun c hc => by
          have eq : ∀ c, mI Mb 121 c = bgf (mI M2 121) (nI N) 0 c := fun c => by
            rw [← hMb]
            show (if (121 : Nat) = 121 then bgf (mI M2 121) (nI N) 0 c else M2.2.1 121 c) = _
            rw [if_pos rfl]
          unfold rfm
          by_cases q : c = 2 + k
          · rw [q, wc.2.1, if_pos (by omega)]
            show b = if 2 + k - 2 = k then b else _
            rw [if_pos (by omega)]
          · rw [wc.2.2.1 c q, eq]
            by_cases q2 : 2 ≤ c ∧ c < 2 + N
            · rw [if_pos q2]
              show _ = if c - 2 = k then b else xR S 17 (c - 2)
              rw [if_neg (by omega)]
              unfold bgf
              rw [if_neg (by omega), if_neg (by omega), if_pos (by omega)]
              have := r2.rg (k := 17) (i := c - 2) (by unfold vk; omega)
              rw [show ad 17 (c - 2) = c by show 2 + (c - 2) = c; omega] at this
              exact this
            · rw [if_neg q2]
        have i3 : ∀ o, ¬ (120 ≤ o ∧ o ≤ 130) → ∀ c, mI M3 o c = mI M2 o c := fun o ho c => by rw [wc.2.2.2.1 o (by omega), wI o (by omega)]
        have i120 : ∀ c, mI M3 120 c = mI M2 120 c := fun c => by rw [wc.2.2.2.1 120 (by decide), wI 120 (by decide)]
        have r3 := rfm_RV (M := M3) (f := mI M2 121) (N := N) (tr := 0) (C := C) (B := fun v => if v < N then C v else mI M2 121 (2 + v)) false h16 (r2.1.e s3) (by rw [i120]; exact r2.2.1) (fun v _ => rfl) f3
        have ea : apN N (fS0 N (fun v => if v < N then C v else mI M2 121 (2 + v)) 0) = apN N (fS0 N C 0) := apN_c (fun v hv => by
          show (if v < N then C v else _) = C v
          rw [if_pos hv])
        refine ⟨nI (apN N (fS0 N C 0)), M2, M3, ?_, io, ?_, fin M3 s3 i3 i120 f3⟩
        · rw [f_X9_base, chk_t xg.1, xg.2.1, bnd_e, sb.f, ndc sb hk h16, obd_s, if_neg ne10, if_neg b0, bnd_e, sb.f, sb.isS, obd_s, if_pos c, if_neg ne10, bnd_e, sb.f]
          have et : f_X7_tellByHand 1 (nI k) b M = some M1 := by
            rw [f_X7_tellByHand, sb.f, sb.r2, bnd_e, sb.a2, sb.i2 (by omega), sI_c (by omega), bnd_e, chk_t (Or.inl rfl), hM1, bnd_e]
          rw [et, obd_s, chk_t (xg.s (Shp1.e m1.1)).1, e2, obd2_s, chk_t xg2.1, xg2.2.1, bnd_e, sb2.f, sb2.ap h16 (by omega), obd_s]
        · show f_X10_base n 120 (nI k) b M2 = _
          rw [f_X10_base, rk.f, ndr r2 sw.n hk h16, obd_s, if_neg ne10, if_neg b0, f_all r2 sw.n, obd_s, if_pos c, rk.r, bnd_e, rk.a, rs_c0 r2.1, cl0, n2, eb, obd_s, rkb.f, rkb.r, bnd_e, rkb.a, show (2 : Int32) + nI k = nI (2 + k) by rw [show (2 : Int32) = nI 2 from rfl, nI_add], rkb.i (by omega), sI_c (by omega), hM3, bnd_e, r3.ap rfl h16 (by omega), obd_s, ea]
      · refine Okk.same w (r := -1) ?_ ?_
        · rw [f_X9_base, chk_t xg.1, xg.2.1, bnd_e, sb.f, ndc sb hk h16, obd_s, if_neg ne10, if_neg b0, bnd_e, sb.f, sb.isS, obd_s, if_neg c, if_pos rfl]
        · show f_X10_base n 120 (nI k) b M = _
          rw [f_X10_base, rs_f r.1, ndr r sw.n hk h16, obd_s, if_neg ne10, if_neg b0, al, obd_s, if_neg c]
/-! ===== within ===== -/
def rpl (b : Int32) (k : Nat) (x : Int32) : Int32 := ((b &&& (((1 : Int32) <<< (nI k &&& 31)) - (1 : Int32))) ||| ((b >>> ((nI k + (1 : Int32)) &&& 31)) <<< (nI k &&& 31))) ||| (if bt b k then x else 0)
theorem f_rpl9 (b x : Int32) {k : Nat} (hk : k < 32) (M : Mem) : f_X7_replaced b (nI k) x M = some (rpl b k x) := by
  rw [f_X7_replaced, bnd_e, bnd_e, f_has9 b hk, obd_s]
  unfold rpl
  cases bt b k
  · rfl
  · rfl
theorem f_rpl10 (b x : Int32) {k K : Nat} (hk : k < 32) (M : Mem) : f_X10_placed b (nI k) (nI K) x M = some (rpl b k (x <<< (nI K &&& 31))) := by
  rw [f_X10_placed, bnd_e, bnd_e, f_has10 b hk, obd_s]
  unfold rpl
  cases bt b k
  · rfl
  · rfl
set_option maxRecDepth 100000 in
theorem md_k : (List.range 16).all (fun v => (List.range 9).all fun m => decide (m < 2) || decide (nI v - nI v / nI m * nI m = nI (v % m))) = true := by decide +kernel
theorem md_e {v m : Nat} (hv : v < 16) (h1 : 2 ≤ m) (h2 : m ≤ 8) : nI v - nI v / nI m * nI m = nI (v % m) := by
  have h := List.all_eq_true.mp (List.all_eq_true.mp md_k v (List.mem_range.mpr hv)) m (List.mem_range.mpr (by omega))
  have h3 : ¬ m < 2 := by omega
  simp only [h3, decide_false, Bool.false_or] at h
  exact of_decide_eq_true h
/-- the base at a place, k's base put in for k, K kept -/
def wiC (S : St) (k m K p : Nat) : Int32 := if p < K then rpl (xR S 17 (if p < k then p else p + 1)) k (mjv ((if p < k then p else p + 1) % m) m <<< (nI K &&& 31)) else rpl (xR S 17 k) k (mjv (p - K) m <<< (nI K &&& 31))
theorem wiC_v {S : St} {k m K v : Nat} (hv : v ≤ K) (hk : k ≤ K) (n : v ≠ k) : wiC S k m K (if v ≤ k then v else v - 1) = rpl (xR S 17 v) k (mjv (v % m) m <<< (nI K &&& 31)) := by
  unfold wiC
  by_cases c : v ≤ k
  · rw [if_pos c, if_pos (show v < K by omega), if_pos (show v < k by omega)]
  · rw [if_neg c, if_pos (show v - 1 < K by omega), if_neg (show ¬ v - 1 < k by omega), show v - 1 + 1 = v by omega]
theorem wiC_j (S : St) (k m K j : Nat) : wiC S k m K (K + j) = rpl (xR S 17 k) k (mjv j m <<< (nI K &&& 31)) := by
  unfold wiC
  rw [if_neg (by omega), show K + j - K = j by omega]
theorem wiC_b {S : St} {k m K : Nat} (hb : BI (K + 1) S) (hk : k ≤ K) (h1 : 2 ≤ m) (h2 : m ≤ 8) (h3 : K + m ≤ 16) : ∀ v, v < K + m → ∀ i, K + m ≤ i → i < 32 → bt (wiC S k m K v) i = false := by
  have main : ∀ b x : Int32, (∀ i, K + 1 ≤ i → i < 32 → bt b i = false) → (∀ i, m ≤ i → bt x i = false) → ∀ i, K + m ≤ i → i < 32 → bt (rpl b k (x <<< (nI K &&& 31))) i = false := by
    intro b x hB hX i hi hi2
    unfold rpl
    rw [b_or, b_or, b_and, hB i (by omega) hi2, Bool.false_and, Bool.false_or, nI_1, b_shl k (by omega) _ hi2, b_sshr (k + 1) (by omega) _ (by omega)]
    have e1 : (if k + 1 + (i - k) < 32 then bt b (k + 1 + (i - k)) else bt b 31) = false := by
      split
      · exact hB _ (by omega) (by omega)
      · exact hB _ (by omega) (by omega)
    rw [e1, Bool.and_false, Bool.false_or]
    split
    · rw [b_shl K (by omega) _ hi2, hX _ (by omega), Bool.and_false]
    · exact b_0 _
  intro v hv i hi hi2
  unfold wiC
  split
  · exact main _ _ (fun i a b => hb _ (by split <;> omega) i a b) (fun i a => bt_bd (maj_e h1 (by omega) (Nat.mod_lt _ (by omega))).2 a) i hi hi2
  · exact main _ _ (fun i a b => hb _ (by omega) i a b) (fun i a => bt_bd (maj_e h1 (by omega) (show v - K < m by omega)).2 a) i hi hi2
theorem rpl_nz {b y : Int32} {k : Nat} (hk : k ≤ 16) (h : ¬ b = 0) (hy : ¬ y = 0) : ¬ rpl b k y = 0 := by
  intro e
  have hz : ∀ i, bt (rpl b k y) i = false := fun i => by rw [e, b_0]
  unfold rpl at hz
  apply h
  apply b_ext
  intro i hi
  rw [b_0]
  cases hb : bt b i
  · rfl
  · exfalso
    rcases Nat.lt_trichotomy i k with c | c | c
    · have := hz i
      rw [b_or, b_or, b_and, hb, all_b hk hi, decide_eq_true c] at this
      simp at this
    · apply hy
      apply b_ext
      intro j hj
      have := hz j
      rw [← c, if_pos hb, b_or] at this
      rw [b_0]
      exact (Bool.or_eq_false_iff.mp this).2
    · have := hz (i - 1)
      rw [b_or, b_or, nI_1, b_shl k (by omega) _ (show i - 1 < 32 by omega), b_sshr (k + 1) (by omega) _ (by omega), if_pos (by omega), show k + 1 + (i - 1 - k) = i by omega, hb, decide_eq_true (show k ≤ i - 1 by omega)] at this
      simp at this
theorem shl_nz {x : Int32} {m K : Nat} (hx : ∀ i, m ≤ i → bt x i = false) (h : ¬ x = 0) (hK : K + m ≤ 16) : ¬ x <<< (nI K &&& 31) = 0 := by
  intro e
  apply h
  apply b_ext
  intro i hi
  rw [b_0]
  rcases Nat.lt_or_ge i m with c | c
  · have := b_shl K (by omega) x (show K + i < 32 by omega)
    rw [e, b_0, decide_eq_true (show K ≤ K + i by omega), show K + i - K = i by omega, Bool.true_and] at this
    exact this.symm
  · exact hx i c
theorem wiC_nz {S : St} {k m K : Nat} (hb : ∀ v, v < K + 1 → ¬ xR S 17 v = 0) (hk : k ≤ K) (h1 : 2 ≤ m) (h2 : m ≤ 8) (h3 : K + m ≤ 16) : ∀ v, v < K + m → ¬ wiC S k m K v = 0 := by
  have mj : ∀ j, j < m → ¬ mjv j m <<< (nI K &&& 31) = 0 := fun j hj => shl_nz (m := m) (fun i a => bt_bd (maj_e h1 (by omega) hj).2 a) (nz_of maj_z (rg_mem h1 (by omega)) hj) h3
  intro v hv
  unfold wiC
  split
  · exact rpl_nz (by omega) (hb _ (by split <;> omega)) (mj _ (Nat.mod_lt _ (by omega)))
  · exact rpl_nz (by omega) (hb _ (by omega)) (mj _ (by omega))
theorem Lp.app {M0 M1 M2 : Mem} {o c a b : Nat} {C : Nat → Int32} (l : Lp M0 o c C a M1) (r : Lp M1 o (c + a) (fun j => C (a + j)) b M2) : Lp M0 o c C (a + b) M2 := by
  obtain ⟨l1, l2, l3, l4, l5⟩ := l
  obtain ⟨r1, r2, r3, r4, r5⟩ := r
  refine ⟨r1.trans l1, fun v hv => ?_, fun x hx => ?_, fun y n x => (r4 y n x).trans (l4 y n x), fun y x => (r5 y x).trans (l5 y x)⟩
  · by_cases e : v < a
    · rw [r3 _ (by omega)]; exact l2 v e
    · have := r2 (v - a) (by omega)
      rw [show c + a + (v - a) = c + v by omega] at this
      rw [this]
      show C (a + (v - a)) = C v
      rw [show a + (v - a) = v by omega]
  · rw [r3 x (by omega), l3 x (by omega)]
theorem nI_m1' {v : Nat} (h : 1 ≤ v) : nI v - (1 : Int32) = nI (v - 1) := by
  obtain ⟨u, rfl⟩ : ∃ u, v = u + 1 := ⟨v - 1, by omega⟩
  rw [nI_pred]; rfl
section
variable {S : St} {k m K : Nat}
theorem wi_34 {M1 : Mem} (z1 : SZ M1) (m3 : ∀ v, v < K + 1 → mI M1 3 v = xR S 17 v) (hk : k ≤ K) (h1 : 2 ≤ m) (h2 : m ≤ 8) (h3 : K + m ≤ 16) : ∀ (d v n : Nat) (M : Mem), v + d = K + 1 → Lp M1 2 0 (wiC S k m K) (if v ≤ k then v else v - 1) M → d + 30 ≤ n → ∃ M' n', f_X7_makeWithin_34 n 1 (nI k) (nI m) (nI K) (nI v) M = f_X7_makeWithin_100 n' 1 (nI k) (nI m) (nI K) (nI 0) M' ∧ Lp M1 2 0 (wiC S k m K) K M' ∧ 29 ≤ n' := by
  intro d
  induction d with
  | zero =>
    intro v n M hv l hn
    obtain ⟨n, rfl⟩ : ∃ m, n = m + 1 := ⟨n - 1, by omega⟩
    refine ⟨M, n, ?_, ?_, by omega⟩
    · rw [f_X7_makeWithin_34, if_pos (nI_lt (by omega) (by omega))]
      rfl
    · rw [if_neg (by omega), show v - 1 = K by omega] at l
      exact l
  | succ d ih =>
    intro v n M hv l hn
    obtain ⟨n, rfl⟩ : ∃ m, n = m + 1 := ⟨n - 1, by omega⟩
    have z := z1.e l.1
    by_cases c : v = k
    · obtain ⟨M', n', e, l', hn'⟩ := ih (v + 1) n M (by omega) (by
        rw [if_neg (by omega), show v + 1 - 1 = v by omega]
        rw [if_pos (by omega)] at l
        exact l) (by omega)
      refine ⟨M', n', ?_, l', hn'⟩
      rw [f_X7_makeWithin_34, if_neg (nI_nlt (by omega) (by omega)), if_pos (by rw [c]), bnd_e, nI_1]
      exact e
    · have hu : (if v ≤ k then v else v - 1) < 16 := by split <;> omega
      have wc : Wc 2 (0 + (if v ≤ k then v else v - 1)) (wiC S k m K (if v ≤ k then v else v - 1)) M (sI M 2 (if v ≤ k then v else v - 1) (wiC S k m K (if v ≤ k then v else v - 1))) := by rw [Nat.zero_add]; exact Wc.s _ _ _ _
      obtain ⟨M', n', e, l', hn'⟩ := ih (v + 1) n _ (by omega) (by
        have := l.s wc
        have eq : (if v + 1 ≤ k then v + 1 else v + 1 - 1) = (if v ≤ k then v else v - 1) + 1 := by
          by_cases q : v ≤ k
          · rw [if_pos q, if_pos (by omega)]
          · rw [if_neg q, if_neg (by omega)]; omega
        rw [eq]
        exact this) (by omega)
      refine ⟨M', n', ?_, l', hn'⟩
      have e61 : ∀ u : Int32, u = nI (if v ≤ k then v else v - 1) → f_X7_makeWithin_61 (f_X7_makeWithin_34 n) n 1 (nI k) (nI m) (nI K) (nI v) u M = f_X7_makeWithin_34 n 1 (nI k) (nI m) (nI K) (nI (v + 1)) (sI M 2 (if v ≤ k then v else v - 1) (wiC S k m K (if v ≤ k then v else v - 1))) := by
        intro u hu'
        have v3 : mI M 3 v = xR S 17 v := by rw [l.2.2.2.1 3 (by decide)]; exact m3 v (by omega)
        rw [f_X7_makeWithin_61, z.f, z.r2, bnd_e, z.a2, z.r3, bnd_e, z.a3, z.i3 (by omega), chk_t (nI_n0 (by omega) (by omega)), md_e (by omega) h1 h2, f_maj9 h1 (by omega) (Nat.mod_lt _ (by omega)) (by omega), obd_s, mI_c (by omega), v3, f_rpl9 _ _ (by omega), obd_s, hu', z.i2 hu, sI_c (by omega), wiC_v (by omega) hk c, bnd_e, bnd_e, nI_1]
      rw [f_X7_makeWithin_34, if_neg (nI_nlt (by omega) (by omega)), if_neg (nI_ne (by omega) (by omega) c)]
      by_cases q : k ≤ v
      · rw [if_pos (nI_le q (by omega)), e61 (nI v - 1) (by rw [nI_m1' (by omega), if_neg (by omega)])]
        exact e
      · rw [if_neg (nI_ge (by omega) (by omega)), e61 (nI v) (by rw [if_pos (by omega)])]
        exact e
theorem mc_within {M : Mem} {n : Nat} (sb : SB M (K + 1) S) (hk : k ≤ K) (h1 : 2 ≤ m) (h2 : m ≤ 8) (h3 : K + m ≤ 16) (hn : 200 ≤ n) : ∃ M', f_X7_makeWithin n 1 (nI k) (nI m) M = some M' ∧ MC (K + m) (wiC S k m K) 0 M M' := by
  have z := sb.z
  generalize hMa : cpI M 2 0 3 0 (K + 1) = Ma
  have sa : Ma.1 = M.1 := by rw [← hMa]; rfl
  have za := z.e sa
  have a3 : ∀ v, v < K + 1 → mI Ma 3 v = xR S 17 v := fun v hv => by rw [← hMa, cp_I, if_pos ⟨rfl, hv⟩]; exact sb.b hv
  have ao : ∀ o, o ≠ 3 → ∀ b, mI Ma o b = mI M o b := fun o n b => by rw [← hMa, cp_I, if_neg (fun z => n z.1)]
  obtain ⟨M1, e1, b1⟩ := za.bg (N := K + m) (n := n) (by omega)
  have z1 := za.e b1.1
  obtain ⟨M2, n2, e2, l2, hn2⟩ := wi_34 (S := S) (k := k) (m := m) (K := K) z1 (fun v hv => by rw [b1.2.2.2.2.1 3 (by decide) (by decide)]; exact a3 v hv) hk h1 h2 h3 (K + 1) 0 n M1 (by omega) (by rw [if_pos (Nat.zero_le _)]; exact Lp.r _ _ _ _) (by omega)
  have z2 := z1.e l2.1
  have r3 : mI M2 3 k = xR S 17 k := by rw [l2.2.2.2.1 3 (by decide), b1.2.2.2.2.1 3 (by decide) (by decide)]; exact a3 k (by omega)
  obtain ⟨M3, e3, l3⟩ := lpw (F := fun n x M => f_X7_makeWithin_100 n 1 (nI k) (nI m) (nI K) x M) (G := some) (M0 := M2) (o := 2) (c := 0 + K) (N := m) (K := 13) (C := fun j => wiC S k m K (K + j)) (fun i n M hi l hn => by
    have zz := z2.e l.1
    refine ⟨sI M 2 (K + i) (wiC S k m K (K + i)), ?_, by rw [show 0 + K + i = K + i by omega]; exact Wc.s _ _ _ _⟩
    show f_X7_makeWithin_100 (n + 1) 1 (nI k) (nI m) (nI K) (nI i) M = _
    rw [f_X7_makeWithin_100, if_neg (nI_ge hi (by omega)), zz.f, zz.r2, bnd_e, zz.a2, zz.r3, bnd_e, zz.a3, zz.i3 (by omega), f_maj9 h1 (by omega) hi (by omega), obd_s, mI_c (by omega), l.2.2.2.1 3 (by decide), r3, f_rpl9 _ _ (by omega), obd_s, nI_add, zz.i2 (by omega), sI_c (by omega), ← wiC_j, bnd_e, bnd_e, nI_1]) (fun n M l => by
    show f_X7_makeWithin_100 (n + 1) 1 (nI k) (nI m) (nI K) (nI m) M = _
    rw [f_X7_makeWithin_100, if_pos (nI_le (Nat.le_refl _) (by omega))]) m 0 n2 M2 (by omega) (Lp.r _ _ _ _) (by omega)
  have m1 := b1.mc (l2.app l3)
  refine ⟨M3, ?_, m1.1.trans sa, fun o ho b => by rw [m1.2.1 o ho, ao o (by omega)], m1.2.2.1, m1.2.2.2.1, m1.2.2.2.2.1, fun o b => by rw [m1.2.2.2.2.2, ← hMa]; rfl⟩
  rw [f_X7_makeWithin, z.f, sb.n, show nI (K + 1) - (1 : Int32) = nI K from nI_pred K, bnd_e, z.r2, bnd_e, z.a2, z.r3, bnd_e, z.a3, cp_st (la := mLn M 2) (lb := mLn M 3) (n := K + 1) _ (by rw [z.2.2.1]; omega) (by rw [z.2.2.2]; omega) (by omega), hMa, nI_add, e1, obd_s, show (0 : Int32) = nI 0 from rfl, e2]
  exact e3
end
/-! ===== within: the reference, and both ===== -/
theorem i3_2 {k : Nat} : (2 : Int32) + nI k = nI (2 + k) := by rw [show (2 : Int32) = nI 2 from rfl, nI_add]
theorem rw_40 {M2 : Mem} {S : St} {k m K : Nat} {tw : Bool} {t : Int32} {pb pt : List Row4} (r : RV M2 tw t S pb pt) (h3 : K + 1 ≤ 16) : ∀ (d v n : Nat) (M : Mem), v + d = K + 1 → Lp M2 122 0 (fun v => xR S 17 v) v M → d + 11050 ≤ n → ∃ M' n', f_X10_within_40 n 120 (nI k) (nI m) (nI K) (nI v) M = (obd (f_X10_begin n' 120 (nI K + nI m) (0 : Int32) M') fun M5 => f_X10_within_76 n' 120 (nI k) (nI m) (nI K) (0 : Int32) M5) ∧ Lp M2 122 0 (fun v => xR S 17 v) (K + 1) M' ∧ 11049 ≤ n' := by
  intro d
  induction d with
  | zero =>
    intro v n M hv l hn
    obtain ⟨n, rfl⟩ : ∃ m, n = m + 1 := ⟨n - 1, by omega⟩
    have : v = K + 1 := by omega
    subst this
    have q := r.1.e l.1
    exact ⟨M, n, by rw [f_X10_within_40, if_pos (nI_lt (by omega) (by omega)), rs_f q], l, by omega⟩
  | succ d ih =>
    intro v n M hv l hn
    obtain ⟨n, rfl⟩ : ∃ m, n = m + 1 := ⟨n - 1, by omega⟩
    have q := r.1.e l.1
    have wc : Wc 122 (0 + v) (xR S 17 v) M (sI M 122 v (xR S 17 v)) := by rw [Nat.zero_add]; exact Wc.s _ _ _ _
    obtain ⟨M', n', e, l', hn'⟩ := ih (v + 1) n _ (by omega) (l.s wc) (by omega)
    refine ⟨M', n', ?_, l', hn'⟩
    have eb : f_X10_baseOf 120 (nI v) M = some (xR S 17 v) := by
      rw [f_X10_baseOf, rs_f q, rs_0 q, bnd_e, rs_fa q, i3_2, rs_c q (by omega), mI_c (by omega), l.2.2.2.1 121 (by decide)]
      exact congrArg some (r.rg (k := 17) (i := v) (by unfold vk; omega))
    rw [f_X10_within_40, if_neg (nI_nlt (by omega) (by omega)), rs_f q, rs_1 q, bnd_e, rs_f1 q, eb, obd_s, rs_c1 q (by omega), sI_c (by omega), bnd_e, nI_1, bnd_e]
    exact e
section
variable {S : St} {k m K : Nat}
theorem rw_76 {M1 : Mem} (q1 : RS M1) (m3 : ∀ v, v < K + 1 → mI M1 122 v = xR S 17 v) (hk : k ≤ K) (h1 : 2 ≤ m) (h2 : m ≤ 8) (h3 : K + m ≤ 16) : ∀ (d v n : Nat) (M : Mem), v + d = K + 1 → Lp M1 121 2 (wiC S k m K) (if v ≤ k then v else v - 1) M → d + 30 ≤ n → ∃ M' n', f_X10_within_76 n 120 (nI k) (nI m) (nI K) (nI v) M = f_X10_within_139 n' 120 (nI k) (nI m) (nI K) (nI 0) M' ∧ Lp M1 121 2 (wiC S k m K) K M' ∧ 29 ≤ n' := by
  intro d
  induction d with
  | zero =>
    intro v n M hv l hn
    obtain ⟨n, rfl⟩ : ∃ m, n = m + 1 := ⟨n - 1, by omega⟩
    refine ⟨M, n, ?_, ?_, by omega⟩
    · rw [f_X10_within_76, if_pos (nI_lt (by omega) (by omega))]
      rfl
    · rw [if_neg (by omega), show v - 1 = K by omega] at l
      exact l
  | succ d ih =>
    intro v n M hv l hn
    obtain ⟨n, rfl⟩ : ∃ m, n = m + 1 := ⟨n - 1, by omega⟩
    have q := q1.e l.1
    by_cases c : v = k
    · obtain ⟨M', n', e, l', hn'⟩ := ih (v + 1) n M (by omega) (by
        rw [if_neg (by omega), show v + 1 - 1 = v by omega]
        rw [if_pos (by omega)] at l
        exact l) (by omega)
      refine ⟨M', n', ?_, l', hn'⟩
      rw [f_X10_within_76, if_neg (nI_nlt (by omega) (by omega)), if_pos (by rw [c]), bnd_e, nI_1]
      exact e
    · have hu : (if v ≤ k then v else v - 1) < 16 := by split <;> omega
      have wc : Wc 121 (2 + (if v ≤ k then v else v - 1)) (wiC S k m K (if v ≤ k then v else v - 1)) M (sI M 121 (2 + (if v ≤ k then v else v - 1)) (wiC S k m K (if v ≤ k then v else v - 1))) := Wc.s _ _ _ _
      obtain ⟨M', n', e, l', hn'⟩ := ih (v + 1) n _ (by omega) (by
        have := l.s wc
        have eq : (if v + 1 ≤ k then v + 1 else v + 1 - 1) = (if v ≤ k then v else v - 1) + 1 := by
          by_cases q : v ≤ k
          · rw [if_pos q, if_pos (by omega)]
          · rw [if_neg q, if_neg (by omega)]; omega
        rw [eq]
        exact this) (by omega)
      refine ⟨M', n', ?_, l', hn'⟩
      have e61 : ∀ u : Int32, u = nI (if v ≤ k then v else v - 1) → f_X10_within_108 (f_X10_within_76 n) n 120 (nI k) (nI m) (nI K) (nI v) u (2 : Int32) 121 M = f_X10_within_76 n 120 (nI k) (nI m) (nI K) (nI (v + 1)) (sI M 121 (2 + (if v ≤ k then v else v - 1)) (wiC S k m K (if v ≤ k then v else v - 1))) := by
        intro u hu'
        have v3 : mI M 122 v = xR S 17 v := by rw [l.2.2.2.1 122 (by decide)]; exact m3 v (by omega)
        rw [f_X10_within_108, rs_f q, rs_1 q, bnd_e, rs_f1 q, rs_c1 q (by omega), chk_t (nI_n0 (by omega) (by omega)), md_e (by omega) h1 h2, f_maj10 h1 (by omega) (Nat.mod_lt _ (by omega)) (by omega), obd_s, mI_c (by omega), v3, f_rpl10 _ _ (by omega), obd_s, rs_fa q, hu', i3_2, rs_c q (by omega), sI_c (by omega), wiC_v (by omega) hk c, bnd_e, bnd_e, nI_1]
      rw [f_X10_within_76, if_neg (nI_nlt (by omega) (by omega)), if_neg (nI_ne (by omega) (by omega) c), rs_f q, rs_0 q, bnd_e, rs_fa q]
      by_cases q : k ≤ v
      · rw [if_pos (nI_le q (by omega)), e61 (nI v - 1) (by rw [nI_m1' (by omega), if_neg (by omega)])]
        exact e
      · rw [if_neg (nI_ge (by omega) (by omega)), e61 (nI v) (by rw [if_pos (by omega)])]
        exact e
theorem rm_within {M : Mem} {n : Nat} {tw : Bool} {t : Int32} {pb pt : List Row4} (r : RV M tw t S pb pt) (hN : xR S 20 0 = nI (K + 1)) (hk : k ≤ K) (h1 : 2 ≤ m) (h2 : m ≤ 8) (h3 : K + m ≤ 16) (hn : 12000 ≤ n) : ∃ M', f_X10_within n 120 (nI k) (nI m) M = some (nI (K + m), M') ∧ RE (K + m) 0 (wiC S k m K) M M' := by
  obtain ⟨Ma, na, ea, la, hna⟩ := rw_40 (k := k) (m := m) (K := K) r (by omega) (K + 1) 0 n M (by omega) (Lp.r _ _ _ _) (by omega)
  have qa := r.1.e la.1
  have rka : RK Ma 120 121 := ⟨qa.io (by decide) (by decide) (by decide), rs_0 qa, qa.io (by decide) (by decide) (by decide), qa.ln (by decide) (by decide) (by decide)⟩
  have eb := f_begin (N := nI (K + m)) (t := 0) rka (n := na) (by omega)
  rw [if_pos rfl] at eb
  have bI : ∀ o, o ≠ 121 → ∀ c, mI (wA Ma 121 (bgf (mI Ma 121) (nI (K + m)) 0)) o c = mI Ma o c := fun o n c => if_neg n
  have q1 : RS (wA Ma 121 (bgf (mI Ma 121) (nI (K + m)) 0)) := qa
  generalize hM1 : wA Ma 121 (bgf (mI Ma 121) (nI (K + m)) 0) = M1 at eb bI q1
  have m3 : ∀ v, v < K + 1 → mI M1 122 v = xR S 17 v := fun v hv => by
    rw [bI 122 (by decide)]
    have := la.2.1 v hv
    rw [Nat.zero_add] at this
    exact this
  obtain ⟨M2, n2, e2, l2, hn2⟩ := rw_76 (S := S) (k := k) (m := m) (K := K) q1 m3 hk h1 h2 h3 (K + 1) 0 na M1 (by omega) (by rw [if_pos (Nat.zero_le _)]; exact Lp.r _ _ _ _) (by omega)
  have q2 := q1.e l2.1
  have r3 : mI M2 122 k = xR S 17 k := by rw [l2.2.2.2.1 122 (by decide)]; exact m3 k (by omega)
  obtain ⟨M3, e3, l3⟩ := lpw (F := fun n x M => f_X10_within_139 n 120 (nI k) (nI m) (nI K) x M) (G := fun M => some (nI (K + m), M)) (M0 := M2) (o := 121) (c := 2 + K) (N := m) (K := 13) (C := fun j => wiC S k m K (K + j)) (fun i n M hi l hn => by
    have q := q2.e l.1
    refine ⟨sI M 121 (2 + K + i) (wiC S k m K (K + i)), ?_, Wc.s _ _ _ _⟩
    show f_X10_within_139 (n + 1) 120 (nI k) (nI m) (nI K) (nI i) M = _
    rw [f_X10_within_139, if_neg (nI_ge hi (by omega)), rs_f q, rs_0 q, bnd_e, rs_fa q, rs_1 q, bnd_e, rs_f1 q, rs_c1 q (by omega), f_maj10 h1 (by omega) hi (by omega), obd_s, mI_c (by omega), l.2.2.2.1 122 (by decide), r3, f_rpl10 _ _ (by omega), obd_s, i3_2, nI_add, rs_c q (by omega), sI_c (by omega), ← wiC_j, bnd_e, bnd_e, nI_1]) (fun n M l => by
    show f_X10_within_139 (n + 1) 120 (nI k) (nI m) (nI K) (nI m) M = _
    rw [f_X10_within_139, if_pos (nI_le (Nat.le_refl _) (by omega)), nI_add]) m 0 n2 M2 (by omega) (Lp.r _ _ _ _) (by omega)
  have l23 := l2.app l3
  rw [← hM1] at l23
  obtain ⟨s3, i3, i120, f3⟩ := RE_of l23
  have q := r.1
  refine ⟨M3, ?_, s3.trans la.1, fun o ho b => by rw [i3 o ho, la.2.2.2.1 o (by omega)], fun b => by rw [i120, la.2.2.2.1 120 (by decide)], fun b hb => ?_⟩
  · rw [f_X10_within, rs_f q, rs_0 q, bnd_e, rs_fa q, rs_c0 q, cl0, r.N hN, nI_pred, bnd_e, ndr r hN (by omega) (by omega), obd_s, if_neg ne10, show f_X10_isIn (nI m) (2 : Int32) (8 : Int32) M = some 1 from is_in3 (L := 2) (N := 8) (by decide) h1 h2, obd_s, if_neg ne10, nI_add, if_pos (show nI (K + m) ≤ (16 : Int32) from nI_le (b := 16) h3 (by decide)), show (0 : Int32) = nI 0 from rfl, ea, nI_add, show (0 : Int32) = nI 0 from rfl]
    rw [show f_X10_begin na 120 (nI (K + m)) (nI 0) Ma = some M1 from eb, obd_s, e2]
    exact e3
  · rw [f3 b hb]
    have : mI Ma 121 = mI M 121 := by funext c; exact la.2.2.2.1 121 (by decide) c
    rw [this]
end
theorem op6 {M : Mem} {i n : Nat} (h : WI i M) (a b : Int32) (hn : 100000 ≤ n) : Okk i (f_X9_within n 0 a b M) (fun M1 => f_X10_within n 120 a b M1) := by
  obtain ⟨N, A, Q, S, w⟩ := h
  obtain ⟨X, Y, L, p, sb, xg, xr⟩ := id w.1
  obtain ⟨_, r, z7, sw, hQ⟩ := id w
  have h16 := sw.n16
  have h2 := sw.n2
  obtain ⟨K, rfl⟩ : ∃ K, N = K + 1 := ⟨N - 1, by omega⟩
  have hN := sw.n
  have pre : ∀ y, f_X10_within n 120 a b M = (obd (f_X10_isNode 120 a M) fun r9 => if r9 = 0 then some ((-1 : Int32), M) else obd (f_X10_isIn b (2 : Int32) (8 : Int32) M) fun r13 => if r13 = 0 then some ((-1 : Int32), M) else if (nI K + b) ≤ (16 : Int32) then f_X10_within_40 n 120 a b (nI K) (0 : Int32) M else some ((-1 : Int32), M)) ∨ y := fun y => Or.inl (by
    rw [f_X10_within, rs_f r.1, rs_0 r.1, bnd_e, rs_fa r.1, rs_c0 r.1, cl0, r.N hN, nI_pred, bnd_e])
  have pr := (pre False).resolve_right id
  rcases out_in (N := K + 1) (by omega) a with ha | ⟨k, hk, rfl⟩
  · refine Okk.same w (r := -1) ?_ ?_
    · rw [f_X9_within, chk_t xg.1, xg.2.1, bnd_e, sb.f, ndc0 sb ha, obd_s, if_pos rfl]
    · show f_X10_within n 120 a b M = _
      rw [pr, ndr0 r hN (by omega) h16 ha, obd_s, if_pos rfl]
  · rcases rng3 (L := 2) (N := 8) (by decide) (by decide) b with hb | ⟨m, hm1, hm2, rfl⟩
    · refine Okk.same w (r := -1) ?_ ?_
      · rw [f_X9_within, chk_t xg.1, xg.2.1, bnd_e, sb.f, ndc sb hk h16, obd_s, if_neg ne10]
        by_cases c : b < (2 : Int32)
        · rw [if_pos c]
        · rw [if_neg c, if_pos (show (8 : Int32) < b from gt3 (N := 8) (by decide) (hb.resolve_left c))]
      · show f_X10_within n 120 (nI k) b M = _
        rw [pr, ndr r hN hk h16, obd_s, if_neg ne10, show f_X10_isIn b (2 : Int32) (8 : Int32) M = some 0 from is_out3 (L := 2) (N := 8) (by decide) hb, obd_s, if_pos rfl]
    · by_cases c : K + m ≤ 16
      · obtain ⟨M1, e1, m1⟩ := mc_within (n := n) sb (show k ≤ K by omega) hm1 hm2 c (by omega)
        obtain ⟨M2, e2, io, rk, r2, ⟨xg2, sb2⟩, fin⟩ := w.mk (n := n) m1 (by omega) c (Or.inl rfl) (fun z => absurd z (by decide)) (wiC_b sw.bi (by omega) hm1 hm2 c) ⟨wiC_nz sw.tb.1 (by omega) hm1 hm2 c, fun z => absurd z (by decide)⟩ (by omega)
        obtain ⟨M3, e3, s3, i3, i120, f3⟩ := rm_within (n := n) r2 hN (show k ≤ K by omega) hm1 hm2 c (by omega)
        refine ⟨nI (K + m), M2, M3, ?_, io, e3, fin M3 s3 i3 i120 f3⟩
        rw [f_X9_within, chk_t xg.1, xg.2.1, bnd_e, sb.f, ndc sb hk h16, obd_s, if_neg ne10, if_neg (show ¬ nI m < (2 : Int32) from nI_nlt (b := 2) hm1 (by omega)), if_neg (show ¬ (8 : Int32) < nI m from nI_nlt (a := 8) (b := m) hm2 (by omega)), bnd_e, sb.f, sb.n, show nI (K + 1) - (1 : Int32) = nI K from nI_pred K, nI_add, if_pos (show nI (K + m) ≤ (16 : Int32) from nI_le (b := 16) c (by decide)), bnd_e, sb.f, e1, obd_s, chk_t (xg.s (Shp1.e m1.1)).1, e2, obd2_s]
      · have g : ¬ nI (K + m) ≤ (16 : Int32) := nI_ge (a := 16) (b := K + m) (by omega) (by omega)
        refine Okk.same w (r := -1) ?_ ?_
        · rw [f_X9_within, chk_t xg.1, xg.2.1, bnd_e, sb.f, ndc sb hk h16, obd_s, if_neg ne10, if_neg (show ¬ nI m < (2 : Int32) from nI_nlt (b := 2) hm1 (by omega)), if_neg (show ¬ (8 : Int32) < nI m from nI_nlt (a := 8) (b := m) hm2 (by omega)), bnd_e, sb.f, sb.n, show nI (K + 1) - (1 : Int32) = nI K from nI_pred K, nI_add, if_neg g]
        · show f_X10_within n 120 (nI k) (nI m) M = _
          rw [pr, ndr r hN hk h16, obd_s, if_neg ne10, show f_X10_isIn (nI m) (2 : Int32) (8 : Int32) M = some 1 from is_in3 (L := 2) (N := 8) (by decide) hm1 hm2, obd_s, if_neg ne10, nI_add, if_neg g]
/-! ===== questions, the class: each answers ===== -/
section
variable {M : Mem} {N : Nat} {S : St}
theorem cld_l (sb : SB M N S) (h16 : N ≤ 16) {k : Nat} (hk : k < 32) : ∀ (d i n : Nat) (c : Int32), i + d = N → d + 1 ≤ n → ∃ r, f_X7_loadOf_4 M n 1 (nI k) c (nI i) = some r := by
  intro d
  induction d with
  | zero =>
    intro i n c hi hn
    obtain ⟨n, rfl⟩ : ∃ m, n = m + 1 := ⟨n - 1, by omega⟩
    exact ⟨c, by rw [f_X7_loadOf_4, sb.f, sb.n, if_pos (nI_le (by omega) (by omega))]⟩
  | succ d ih =>
    intro i n c hi hn
    obtain ⟨n, rfl⟩ : ∃ m, n = m + 1 := ⟨n - 1, by omega⟩
    rw [f_X7_loadOf_4, sb.f, sb.n, if_neg (nI_ge (by omega) (by omega)), sb.r2, bnd_e, sb.a2, sb.i2 (by omega), f_has9 _ hk, obd_s]
    split
    · rw [bnd_e, nI_1]; exact ih (i + 1) n _ (by omega) (by omega)
    · rw [bnd_e, bnd_e, nI_1]; exact ih (i + 1) n _ (by omega) (by omega)
theorem SB.ld (sb : SB M N S) (h16 : N ≤ 16) {k : Nat} (hk : k < 32) {n : Nat} (hn : 20 ≤ n) : ∃ r, f_X7_loadOf n 1 (nI k) M = some r := by
  rw [f_X7_loadOf, show (0 : Int32) = nI 0 from rfl]
  exact cld_l sb h16 hk N 0 n _ (by omega) (by omega)
theorem csl_l (sb : SB M N S) (h16 : N ≤ 16) : ∀ (d i n : Nat), i + d = N → d + 21 ≤ n → ∃ r, f_X7_sameLoads_2 M n 1 (nI i) = some r := by
  intro d
  induction d with
  | zero =>
    intro i n hi hn
    obtain ⟨n, rfl⟩ : ∃ m, n = m + 1 := ⟨n - 1, by omega⟩
    exact ⟨1, by rw [f_X7_sameLoads_2, sb.f, sb.n, if_pos (nI_le (by omega) (by omega))]⟩
  | succ d ih =>
    intro i n hi hn
    obtain ⟨n, rfl⟩ : ∃ m, n = m + 1 := ⟨n - 1, by omega⟩
    obtain ⟨r1, e1⟩ := sb.ld h16 (k := i) (by omega) (n := n) (by omega)
    obtain ⟨r2, e2⟩ := sb.ld h16 (k := 0) (by omega) (n := n) (by omega)
    rw [f_X7_sameLoads_2, sb.f, sb.n, if_neg (nI_ge (by omega) (by omega)), e1, obd_s, show (0 : Int32) = nI 0 from rfl, e2, obd_s]
    split
    · rw [bnd_e, nI_1]; exact ih (i + 1) n (by omega) (by omega)
    · exact ⟨_, rfl⟩
theorem bc_s (x : Int32) (M : Mem) : ∃ r, f_J6_bitCount_0f7a4 x M = some r := ⟨_, rfl⟩
theorem cls_l (sb : SB M N S) (h16 : N ≤ 16) : ∀ (d i n : Nat) (c : Int32), i + d = N → d + 1 ≤ n → ∃ r, f_X7_leastSize_5 M n 1 c (nI i) = some r := by
  intro d
  induction d with
  | zero =>
    intro i n c hi hn
    obtain ⟨n, rfl⟩ : ∃ m, n = m + 1 := ⟨n - 1, by omega⟩
    exact ⟨c, by rw [f_X7_leastSize_5, sb.f, sb.n, if_pos (nI_le (by omega) (by omega))]⟩
  | succ d ih =>
    intro i n c hi hn
    obtain ⟨n, rfl⟩ : ∃ m, n = m + 1 := ⟨n - 1, by omega⟩
    obtain ⟨r, e⟩ := bc_s (mI M 2 (nI i).toNatClampNeg) M
    rw [f_X7_leastSize_5, sb.f, sb.n, if_neg (nI_ge (by omega) (by omega)), sb.r2, bnd_e, sb.a2, sb.i2 (by omega), e, obd_s, bnd_e, bnd_e, nI_1]
    exact ih (i + 1) n _ (by omega) (by omega)
theorem cgs_l (sb : SB M N S) (h16 : N ≤ 16) : ∀ (d i n : Nat) (c : Int32), i + d = N → d + 1 ≤ n → ∃ r, f_X7_greatestSize_4 M n 1 c (nI i) = some r := by
  intro d
  induction d with
  | zero =>
    intro i n c hi hn
    obtain ⟨n, rfl⟩ : ∃ m, n = m + 1 := ⟨n - 1, by omega⟩
    exact ⟨c, by rw [f_X7_greatestSize_4, sb.f, sb.n, if_pos (nI_le (by omega) (by omega))]⟩
  | succ d ih =>
    intro i n c hi hn
    obtain ⟨n, rfl⟩ : ∃ m, n = m + 1 := ⟨n - 1, by omega⟩
    obtain ⟨r, e⟩ := bc_s (mI M 2 (nI i).toNatClampNeg) M
    rw [f_X7_greatestSize_4, sb.f, sb.n, if_neg (nI_ge (by omega) (by omega)), sb.r2, bnd_e, sb.a2, sb.i2 (by omega), e, obd_s, bnd_e, bnd_e, nI_1]
    exact ih (i + 1) n _ (by omega) (by omega)
theorem ccm_l (sb : SB M N S) (h16 : N ≤ 16) : ∀ (d i n : Nat) (c : Int32), i + d = N → d + 1 ≤ n → ∃ r, f_X7_common_7 M n 1 c (nI i) = some r := by
  intro d
  induction d with
  | zero =>
    intro i n c hi hn
    obtain ⟨n, rfl⟩ : ∃ m, n = m + 1 := ⟨n - 1, by omega⟩
    exact ⟨c, by rw [f_X7_common_7, sb.f, sb.n, if_pos (nI_le (by omega) (by omega))]⟩
  | succ d ih =>
    intro i n c hi hn
    obtain ⟨n, rfl⟩ : ∃ m, n = m + 1 := ⟨n - 1, by omega⟩
    rw [f_X7_common_7, sb.f, sb.n, if_neg (nI_ge (by omega) (by omega)), sb.r2, bnd_e, sb.a2, sb.i2 (by omega), bnd_e, bnd_e, nI_1]
    exact ih (i + 1) n _ (by omega) (by omega)
theorem SB.lsz (sb : SB M N S) (h16 : N ≤ 16) {n : Nat} (hn : 20 ≤ n) : ∃ r, f_X7_leastSize n 1 M = some r := by
  rw [f_X7_leastSize, show (0 : Int32) = nI 0 from rfl]
  exact cls_l sb h16 N 0 n _ (by omega) (by omega)
theorem SB.gsz (sb : SB M N S) (h16 : N ≤ 16) {n : Nat} (hn : 20 ≤ n) : ∃ r, f_X7_greatestSize n 1 M = some r := by
  rw [f_X7_greatestSize, show f_X7_greatestSize_4 M n 1 0 0 = f_X7_greatestSize_4 M n 1 0 (nI 0) from rfl]
  exact cgs_l sb h16 N 0 n _ (by omega) (by omega)
theorem SB.cmn (sb : SB M N S) (h16 : N ≤ 16) {n : Nat} (hn : 20 ≤ n) : ∃ r, f_X7_common n 1 M = some r := by
  rw [f_X7_common, sb.f, f_X7_allNodes, sb.f, obd_s, show (0 : Int32) = nI 0 from rfl]
  exact ccm_l sb h16 N 0 n _ (by omega) (by omega)
theorem cin_l (sb : SB M N S) (h16 : N ≤ 16) {k : Nat} (hk : k < N) : ∀ (d i n : Nat), i + d = N → d + 1 ≤ n → ∃ r, f_X7_isNeedless_2 M n 1 (nI k) (nI i) = some r := by
  intro d
  induction d with
  | zero =>
    intro i n hi hn
    obtain ⟨n, rfl⟩ : ∃ m, n = m + 1 := ⟨n - 1, by omega⟩
    exact ⟨0, by rw [f_X7_isNeedless_2, sb.f, sb.n, if_pos (nI_le (by omega) (by omega))]⟩
  | succ d ih =>
    intro i n hi hn
    obtain ⟨n, rfl⟩ : ∃ m, n = m + 1 := ⟨n - 1, by omega⟩
    have nx := ih (i + 1) n (by omega) (by omega)
    have e38 : ∀ u, ∃ r, f_X7_isNeedless_38 (f_X7_isNeedless_2 M n) M n 1 (nI k) (nI i) u = some r := fun u => by
      rw [f_X7_isNeedless_38]
      split
      · rw [bnd_e, nI_1]; exact nx
      · rw [sb.f, sb.r2, bnd_e, sb.a2, sb.i2 (by omega), bnd_e, sb.a2, sb.i2 (by omega)]
        split
        · split
          · rw [bnd_e, nI_1]; exact nx
          · exact ⟨_, rfl⟩
        · exact ⟨_, rfl⟩
    rw [f_X7_isNeedless_2, sb.f, sb.n, if_neg (nI_ge (by omega) (by omega))]
    split
    · exact e38 _
    · rw [sb.r2, bnd_e, sb.a2, sb.i2 (by omega), bnd_e, sb.a2, sb.i2 (by omega)]
      split
      · exact e38 _
      · exact e38 _
theorem cnl_l (sb : SB M N S) (h16 : N ≤ 16) : ∀ (d i n : Nat) (c : Int32), i + d = N → d + 21 ≤ n → ∃ r, f_X7_countNeedless_4 M n 1 c (nI i) = some r := by
  intro d
  induction d with
  | zero =>
    intro i n c hi hn
    obtain ⟨n, rfl⟩ : ∃ m, n = m + 1 := ⟨n - 1, by omega⟩
    exact ⟨c, by rw [f_X7_countNeedless_4, sb.f, sb.n, if_pos (nI_le (by omega) (by omega))]⟩
  | succ d ih =>
    intro i n c hi hn
    obtain ⟨n, rfl⟩ : ∃ m, n = m + 1 := ⟨n - 1, by omega⟩
    obtain ⟨r, e⟩ := cin_l sb h16 (k := i) (by omega) N 0 n (by omega) (by omega)
    rw [f_X7_countNeedless_4, sb.f, sb.n, if_neg (nI_ge (by omega) (by omega)), f_X7_isNeedless, show f_X7_isNeedless_2 M n 1 (nI i) 0 = some r from e, obd_s]
    split
    · rw [bnd_e, nI_1]; exact ih (i + 1) n _ (by omega) (by omega)
    · rw [bnd_e, bnd_e, nI_1]; exact ih (i + 1) n _ (by omega) (by omega)
end
section
variable {M : Mem} {N A i : Nat} {Q : Nat → Int32} {S : St}
theorem WJ.c11 (w : WJ M N A i Q S) (a : Int32) {n : Nat} (hn : 100 ≤ n) : ∃ r, f_X9_load n 0 a M = some r := by
  obtain ⟨X, Y, L, p, sb, xg, xr⟩ := id w.1
  have h16 := w.2.2.2.1.n16
  rcases out_in (N := N) (by omega) a with ha | ⟨k, hk, rfl⟩
  · exact ⟨-1, by rw [f_X9_load, chk_t xg.1, xg.2.1, bnd_e, sb.f, ndc0 sb ha, obd_s, if_pos rfl]⟩
  · obtain ⟨r, e⟩ := sb.ld h16 (k := k) (by omega) (n := n) (by omega)
    exact ⟨r, by rw [f_X9_load, chk_t xg.1, xg.2.1, bnd_e, sb.f, ndc sb hk h16, obd_s, if_neg ne10, bnd_e, sb.f, e, obd_s]⟩
theorem WJ.c14 (w : WJ M N A i Q S) {n : Nat} (hn : 100 ≤ n) : ∃ r, f_X9_needless n 0 M = some r := by
  obtain ⟨X, Y, L, p, sb, xg, xr⟩ := id w.1
  obtain ⟨r, e⟩ := cnl_l sb w.2.2.2.1.n16 N 0 n 0 (by omega) (by have := w.2.2.2.1.n16; omega)
  exact ⟨r, by rw [f_X9_needless, chk_t xg.1, xg.2.1, bnd_e, sb.f, f_X7_countNeedless, show f_X7_countNeedless_4 M n 1 0 0 = some r from e, obd_s]⟩
theorem WJ.c17 (w : WJ M N A i Q S) (a : Int32) {n : Nat} (hn : 100 ≤ n) : ∃ r, f_X9_sizes n 0 a M = some r := by
  obtain ⟨X, Y, L, p, sb, xg, xr⟩ := id w.1
  have h16 := w.2.2.2.1.n16
  obtain ⟨r1, e1⟩ := sb.lsz h16 (n := n) (by omega)
  obtain ⟨r2, e2⟩ := sb.gsz h16 (n := n) (by omega)
  obtain ⟨r3, e3⟩ := sb.cmn h16 (n := n) (by omega)
  obtain ⟨r4, e4⟩ := bc_s r3 M
  rw [f_X9_sizes]
  split
  · exact ⟨r1, by rw [chk_t xg.1, xg.2.1, bnd_e, sb.f, e1, obd_s]⟩
  · split
    · exact ⟨r2, by rw [chk_t xg.1, xg.2.1, bnd_e, sb.f, e2, obd_s]⟩
    · split
      · exact ⟨r4, by rw [chk_t xg.1, xg.2.1, bnd_e, sb.f, e3, obd_s, e4, obd_s]⟩
      · exact ⟨_, rfl⟩
theorem WJ.c19 (w : WJ M N A i Q S) {n : Nat} (hn : 100 ≤ n) : ∃ r, f_X9_fair n 0 M = some r := by
  obtain ⟨X, Y, L, p, sb, xg, xr⟩ := id w.1
  have h16 := w.2.2.2.1.n16
  have h2 := w.2.2.2.1.n2
  obtain ⟨r1, e1⟩ := sb.lsz h16 (n := n) (by omega)
  obtain ⟨r2, e2⟩ := sb.gsz h16 (n := n) (by omega)
  obtain ⟨r3, e3⟩ := csl_l sb h16 (N - 1) 1 n (by omega) (by omega)
  rw [f_X9_fair, chk_t xg.1, xg.2.1, bnd_e, sb.f, e1, obd_s, bnd_e, sb.f, e2, obd_s]
  split
  · rw [bnd_e, sb.f, f_X7_sameLoads, show f_X7_sameLoads_2 M n 1 1 = some r3 from e3, obd_s]
    split
    · exact ⟨_, rfl⟩
    · exact ⟨_, rfl⟩
  · exact ⟨_, rfl⟩
theorem WJ.c9 (w : WJ M N A i Q S) (a b : Int32) : ∃ r, f_X9_meeting 0 a b M = some r := by
  obtain ⟨X, Y, L, p, sb, xg, xr⟩ := id w.1
  have h16 := w.2.2.2.1.n16
  rcases out_in (N := N) (by omega) a with ha | ⟨k, hk, rfl⟩
  · exact ⟨-1, by rw [f_X9_meeting, chk_t xg.1, xg.2.1, bnd_e, sb.f, ndc0 sb ha, obd_s, if_pos rfl]⟩
  · rcases out_in (N := N) (by omega) b with hb | ⟨m, hm, rfl⟩
    · exact ⟨-1, by rw [f_X9_meeting, chk_t xg.1, xg.2.1, bnd_e, sb.f, ndc sb hk h16, obd_s, if_neg ne10, bnd_e, sb.f, ndc0 sb hb, obd_s, if_pos rfl]⟩
    · have lw : ∀ x, ∃ r, f_X9_lowest x M = some r := fun x => by
        rw [f_X9_lowest]
        split
        · exact ⟨_, rfl⟩
        · exact ⟨_, rfl⟩
      obtain ⟨r, e⟩ := lw (((mI M 2 (nI k).toNatClampNeg) &&& (mI M 2 (nI m).toNatClampNeg))).toInt64
      exact ⟨r, by rw [f_X9_meeting, chk_t xg.1, xg.2.1, bnd_e, sb.f, ndc sb hk h16, obd_s, if_neg ne10, bnd_e, sb.f, ndc sb hm h16, obd_s, if_neg ne10, bnd_e, sb.f, sb.r2, bnd_e, sb.a2, sb.i2 (by omega), bnd_e, sb.f, sb.r2, bnd_e, sb.a2, sb.i2 (by omega), e, obd_s]⟩
/-- a node's place -/
theorem WJ.pl (w : WJ M N A i Q S) {k : Nat} (hk : k < N) {α : Type} (f : Nat → Option α) : (bnd (mR M 0 2) fun o9 => chk (isO M 2 o9) <| bnd (mR M o9 2) fun o12 => chk (isO M 102 o12) <| chk (inB (nI k) (mLn M o12)) <| bnd (mR M o12 (nI k).toNatClampNeg) fun o16 => chk (isO M 4 o16) <| f o16) = f (14 + 17 + 2 * k) := by
  obtain ⟨X, Y, L, p, sb, xg, xr⟩ := id w.1
  have h16 := w.2.2.2.1.n16
  have q := p.1
  have k6 : k < 16 := by omega
  rw [xg.2.2.2.1, bnd_e, cs_f q, cs_h2 q, bnd_e, cs_a10 q, cs_i10 q k6, cs_rpc q k6, bnd_e, cs_po q k6]
theorem WJ.c27 (w : WJ M N A i Q S) (a b : Int32) : ∃ r, f_X9_node 0 a b M = some r := by
  obtain ⟨X, Y, L, p, sb, xg, xr⟩ := id w.1
  have h16 := w.2.2.2.1.n16
  rcases out_in (N := N) (by omega) a with ha | ⟨k, hk, rfl⟩
  · exact ⟨-1, by rw [f_X9_node, chk_t xg.1, xg.2.1, bnd_e, sb.f, ndc0 sb ha, obd_s, if_pos rfl]⟩
  · obtain ⟨s7, s8, s9⟩ := has_st p (k := k) (by omega)
    generalize (if xR S 0 k = 2 then (1 : Int32) else 0) = z7 at s7
    generalize (if xR S 0 k = 1 then (1 : Int32) else 0) = z8 at s8
    generalize (if xR S 7 k = 1 then (1 : Int32) else 0) = z9 at s9
    have hw : ∃ r, f_X2_howIs 14 (nI k) M = some r := by
      rw [f_X2_howIs, cs_f p.1, s7, obd_s, s8, obd_s]
      split
      · split
        · exact ⟨_, rfl⟩
        · exact ⟨_, rfl⟩
      · exact ⟨_, rfl⟩
    obtain ⟨rw', ew⟩ := hw
    rw [f_X9_node, chk_t xg.1, xg.2.1, bnd_e, sb.f, ndc sb hk h16, obd_s, if_neg ne10, w.pl hk]
    split
    · exact ⟨rw', by rw [xg.2.2.2.1, bnd_e, cs_f p.1, ew, obd_s]⟩
    · split
      · exact ⟨_, rfl⟩
      · split
        · exact ⟨_, rfl⟩
        · split
          · exact ⟨_, rfl⟩
          · split
            · exact ⟨_, rfl⟩
            · split
              · exact ⟨_, rfl⟩
              · split
                · rw [xg.2.2.2.1, bnd_e, cs_f p.1, s9, obd_s]
                  split
                  · exact ⟨_, rfl⟩
                  · exact ⟨_, rfl⟩
                · split
                  · exact ⟨_, rfl⟩
                  · exact ⟨_, rfl⟩
theorem WJ.c28 (w : WJ M N A i Q S) (a b : Int32) : ∃ r, f_X9_arbiter 0 a b M = some r := by
  obtain ⟨X, Y, L, p, sb, xg, xr⟩ := id w.1
  have h16 := w.2.2.2.1.n16
  rcases out_in (N := N) (by omega) a with ha | ⟨k, hk, rfl⟩
  · exact ⟨-1, by rw [f_X9_arbiter, chk_t xg.1, xg.2.1, bnd_e, sb.f, ndc0 sb ha, obd_s, if_pos rfl]⟩
  · rw [f_X9_arbiter, chk_t xg.1, xg.2.1, bnd_e, sb.f, ndc sb hk h16, obd_s, if_neg ne10, w.pl hk]
    split
    · exact ⟨_, rfl⟩
    · split
      · exact ⟨_, rfl⟩
      · split
        · split
          · exact ⟨_, rfl⟩
          · exact ⟨_, rfl⟩
        · split
          · exact ⟨_, rfl⟩
          · exact ⟨_, rfl⟩
theorem WJ.c32 (w : WJ M N A i Q S) (a : Int32) : ∃ r, f_X9_handled 0 a M = some r := by
  obtain ⟨X, Y, L, p, sb, xg, xr⟩ := id w.1
  have h16 := w.2.2.2.1.n16
  rcases out_in (N := N) (by omega) a with ha | ⟨k, hk, rfl⟩
  · exact ⟨-1, by rw [f_X9_handled, chk_t xg.1, xg.2.1, bnd_e, sb.f, ndc0 sb ha, obd_s, if_pos rfl]⟩
  · rw [f_X9_handled, chk_t xg.1, xg.2.1, bnd_e, sb.f, ndc sb hk h16, obd_s, if_neg ne10, w.pl hk]
    exact ⟨_, rfl⟩
theorem WJ.c36 (w : WJ M N A i Q S) (a : Int32) : ∃ r, f_X9_unheard 0 a M = some r := by
  obtain ⟨X, Y, L, p, sb, xg, xr⟩ := id w.1
  have h16 := w.2.2.2.1.n16
  rcases out_in (N := N) (by omega) a with ha | ⟨k, hk, rfl⟩
  · exact ⟨-1, by rw [f_X9_unheard, chk_t xg.1, xg.2.1, bnd_e, sb.f, ndc0 sb ha, obd_s, if_pos rfl]⟩
  · have s8 := (has_st p (k := k) (by omega)).2.1
    generalize (if xR S 0 k = 1 then (1 : Int32) else 0) = z8 at s8
    rw [f_X9_unheard, chk_t xg.1, xg.2.1, bnd_e, sb.f, ndc sb hk h16, obd_s, if_neg ne10, xg.2.2.2.1, bnd_e, cs_f p.1, s8, obd_s]
    split
    · exact ⟨_, rfl⟩
    · have := w.pl hk (fun o => some ((mI M o 2) &&& (((mI M o 3) ||| (mI M o 5)) ^^^ (-1 : Int32))))
      rw [xg.2.2.2.1] at this
      exact ⟨_, this⟩
end
/-! ===== questions, the class: more ===== -/
theorem has_ex (x : Int32) {v : Nat} (hv : v < 32) (M : Mem) : ∃ r, f_X9_has x (nI v) M = some r := ⟨_, f_has9 x hv M⟩
theorem ahd_ex (s v s' v' : Int32) (M : Mem) : ∃ r, f_X9_isAhead s v s' v' M = some r := ⟨_, f_ah9 s v s' v' M⟩
section
variable {M : Mem} {h X Y N : Nat} {t : Int32} {Q : Nat → Int32} {S : St} {pb pt : List Row4}
theorem aw_l (p : HV M h X Y t N Q S pb pt) (h16 : N ≤ 16) {k : Nat} (hk : k < N) : ∀ (d i n : Nat) (c : Int32), i + d = N → d + 1 ≤ n → ∃ r, f_X2_awaitedBy_12 M n h (nI k) (h + 17 + 2 * k) c (nI i) = some r := by
  intro d
  have q := p.1
  induction d with
  | zero =>
    intro i n c hi hn
    obtain ⟨n, rfl⟩ : ∃ m, n = m + 1 := ⟨n - 1, by omega⟩
    exact ⟨_, by rw [f_X2_awaitedBy_12, cs_f q, cs_h0 q, bnd_e, cs_s q, p.2.2.2.2.2.1, if_pos (nI_le (by omega) (by omega))]⟩
  | succ d ih =>
    intro i n c hi hn
    obtain ⟨n, rfl⟩ : ∃ m, n = m + 1 := ⟨n - 1, by omega⟩
    obtain ⟨zh, eh⟩ := has_ex (mI M (h + 17 + 2 * k) 2 &&& (mI M (h + 17 + 2 * k) 3 ^^^ (-1 : Int32))) (v := i) (by omega) M
    rw [f_X2_awaitedBy_12, cs_f q, cs_h0 q, bnd_e, cs_s q, p.2.2.2.2.2.1, if_neg (nI_ge (by omega) (by omega)), cs_po q (show k < 16 by omega), eh, obd_s]
    split
    · rw [bnd_e, nI_1]; exact ih (i + 1) n _ (by omega) (by omega)
    · rw [cs_h2 q, bnd_e, cs_a10 q, cs_i10 q (by omega), cs_rpc q (by omega), bnd_e, cs_po q (by omega)]
      split
      · rw [bnd_e, nI_1]; exact ih (i + 1) n _ (by omega) (by omega)
      · rw [bnd_e, cs_a10 q, cs_i10 q (by omega), cs_rpc q (by omega), bnd_e, cs_po q (by omega), bnd_e, bnd_e, nI_1]
        exact ih (i + 1) n _ (by omega) (by omega)
theorem HV.aw (p : HV M h X Y t N Q S pb pt) (h16 : N ≤ 16) {k : Nat} (hk : k < N) {n : Nat} (hn : 20 ≤ n) : ∃ r, f_X2_awaitedBy n h (nI k) M = some r := by
  have q := p.1
  obtain ⟨r, e⟩ := aw_l p h16 hk N 0 n 0 (by omega) (by omega)
  exact ⟨r, by rw [f_X2_awaitedBy, cs_f q, cs_h2 q, bnd_e, cs_a10 q, cs_i10 q (by omega), cs_rpc q (by omega), bnd_e, cs_po q (by omega)]; exact e⟩
theorem ca_l (q : CS M h) {v u : Nat} (hv : v < 16) (hu : u < 16) : ∀ (d i n : Nat) (c : Int32), i + d = 16 → d + 1 ≤ n → ∃ r, f_X4_countAheadOf_4 M n (h + 17 + 2 * v) (nI u) c (nI i) = some r := by
  intro d
  induction d with
  | zero =>
    intro i n c hi hn
    obtain ⟨n, rfl⟩ : ∃ m, n = m + 1 := ⟨n - 1, by omega⟩
    exact ⟨_, by rw [f_X4_countAheadOf_4, if_pos (show (16 : Int32) ≤ nI i from nI_le (a := 16) (by omega) (by omega))]⟩
  | succ d ih =>
    intro i n c hi hn
    obtain ⟨n, rfl⟩ : ∃ m, n = m + 1 := ⟨n - 1, by omega⟩
    obtain ⟨zh, eh⟩ := has_ex (mI M (h + 17 + 2 * v) 9) (v := i) (by omega) M
    rw [f_X4_countAheadOf_4, if_neg (show ¬ (16 : Int32) ≤ nI i from nI_ge (b := 16) (by omega) (by decide)), cs_po q hv, eh, obd_s]
    split
    · rw [bnd_e, nI_1]; exact ih (i + 1) n _ (by omega) (by omega)
    · obtain ⟨za, ea⟩ := ahd_ex (mI M (h + 18 + 2 * v) (nI i).toNatClampNeg) (nI i) (mI M (h + 18 + 2 * v) (nI u).toNatClampNeg) (nI u) M
      rw [cs_pr q hv, bnd_e, cs_pa q hv, cs_pi q hv (by omega), bnd_e, cs_pa q hv, cs_pi q hv hu, ea, obd_s]
      split
      · rw [bnd_e, nI_1]; exact ih (i + 1) n _ (by omega) (by omega)
      · rw [bnd_e, bnd_e, nI_1]; exact ih (i + 1) n _ (by omega) (by omega)
theorem wa_l (q : CS M h) {v : Nat} (hv : v < 16) (a : Int32) : ∀ (d i n : Nat), i + d = 16 → d + 40 ≤ n → f_X4_waiterAt_2 M n (h + 17 + 2 * v) a (nI i) = some (-1) ∨ ∃ u, u < 16 ∧ f_X4_waiterAt_2 M n (h + 17 + 2 * v) a (nI i) = some (nI u) := by
  intro d
  induction d with
  | zero =>
    intro i n hi hn
    obtain ⟨n, rfl⟩ : ∃ m, n = m + 1 := ⟨n - 1, by omega⟩
    exact Or.inl (by rw [f_X4_waiterAt_2, if_pos (show (16 : Int32) ≤ nI i from nI_le (a := 16) (by omega) (by omega))])
  | succ d ih =>
    intro i n hi hn
    obtain ⟨n, rfl⟩ : ∃ m, n = m + 1 := ⟨n - 1, by omega⟩
    obtain ⟨r, e⟩ := ca_l q hv (u := i) (by omega) 16 0 n 0 (by omega) (by omega)
    obtain ⟨zh, eh⟩ := has_ex (mI M (h + 17 + 2 * v) 9) (v := i) (by omega) M
    have step : f_X4_waiterAt_2 M (n + 1) (h + 17 + 2 * v) a (nI i) = if zh = 0 then f_X4_waiterAt_2 M n (h + 17 + 2 * v) a (nI (i + 1)) else if r = a then some (nI i) else f_X4_waiterAt_2 M n (h + 17 + 2 * v) a (nI (i + 1)) := by
      rw [f_X4_waiterAt_2, if_neg (show ¬ (16 : Int32) ≤ nI i from nI_ge (b := 16) (by omega) (by decide)), cs_po q hv, eh, obd_s, bnd_e, nI_1, f_X4_countAheadOf, show f_X4_countAheadOf_4 M n (h + 17 + 2 * v) (nI i) 0 0 = some r from e, obd_s]
    have nx := ih (i + 1) n (by omega) (by omega)
    by_cases z0 : zh = 0
    · rw [step, if_pos z0]; exact nx
    · by_cases ra : r = a
      · exact Or.inr ⟨i, by omega, by rw [step, if_neg z0, if_pos ra]⟩
      · rw [step, if_neg z0, if_neg ra]; exact nx
theorem ka_l {d5 d6 d7 len us : Nat} (q : CS M h) (ds : DS M h d5 d6 d7 len) (hl : us ≤ len) (h9 : len ≤ 18000) : ∀ (e j n : Nat) (cs : List Nat) (x : Int32), Chn (mI M d7) x cs → (∀ c, c ∈ cs → c < us) → e < cs.length → j + e < 100000 → e + 1 ≤ n → ∃ r, f_X5_kindAt_37 M n (h + 1) (nI (j + e)) x (nI j) = some r := by
  intro e
  induction e with
  | zero =>
    intro j n cs x hc hb he hj hn
    obtain ⟨n, rfl⟩ : ∃ m, n = m + 1 := ⟨n - 1, by omega⟩
    cases cs with
    | nil => cases he
    | cons c cs =>
      have hx : x = nI c := hc.1
      have cu := hb c (by simp)
      refine ⟨_, by rw [f_X5_kindAt_37, if_pos (show nI (j + 0) ≤ nI j from Int32.le_refl _), cs_p q, ds.1.1, bnd_e, chk_t ds.2.1.1, hx, ds.2.2.1.1, chk_t (inB_n (by omega) (by omega)), f_X5_kindOf, obd_s]⟩
  | succ e ih =>
    intro j n cs x hc hb he hj hn
    obtain ⟨n, rfl⟩ : ∃ m, n = m + 1 := ⟨n - 1, by omega⟩
    cases cs with
    | nil => cases he
    | cons c cs =>
      have hx : x = nI c := hc.1
      have cu := hb c (by simp)
      rw [f_X5_kindAt_37, if_neg (nI_ge (by omega) (by omega)), cs_p q, ds.1.2.2, bnd_e, chk_t ds.2.1.2.2, hx, ds.2.2.1.2.2, chk_t (inB_n (by omega) (by omega)), bnd_e, mI_d (by omega), bnd_e, nI_1]
      have := ih (j + 1) n cs (mI M d7 c) hc.2 (fun c hc => hb c (by simp [hc])) (by simp at he; omega) (by omega) (by omega)
      rw [show j + 1 + e = j + (e + 1) by omega] at this
      exact this
theorem csi_l (q : CS M h) : ∀ (d i n : Nat) (c : Int32), i + d = 6 → d + 1 ≤ n → ∃ r, f_X5_sentInAll_4 M n (h + 1) c (nI i) = some r := by
  intro d
  induction d with
  | zero =>
    intro i n c hi hn
    obtain ⟨n, rfl⟩ : ∃ m, n = m + 1 := ⟨n - 1, by omega⟩
    exact ⟨c, by rw [f_X5_sentInAll_4, if_pos (show (6 : Int32) ≤ nI i from nI_le (a := 6) (by omega) (by omega))]⟩
  | succ d ih =>
    intro i n c hi hn
    obtain ⟨n, rfl⟩ : ∃ m, n = m + 1 := ⟨n - 1, by omega⟩
    rw [f_X5_sentInAll_4, if_neg (show ¬ (6 : Int32) ≤ nI i from nI_ge (b := 6) (by omega) (by decide)), cs_p q, cs_r6 q, bnd_e, cs_a6 q, cs_i6 q (by omega), bnd_e, bnd_e, nI_1]
    exact ih (i + 1) n _ (by omega) (by omega)
theorem te_l {l m : Nat} {xs : List Row4} (hm : m = 30 ∨ m = 40) (i1 : isO M 3 l) (r1 : mR M l 1 = l + 1) (i2 : isO M 100 (l + 1)) (n2 : mLn M (l + 1) = 4 * m) (g : LG M l m xs) (a b : Int32) : ∃ r, f_X3_tell l a b M = some r := by
  obtain ⟨g0, g2, g3, _⟩ := g
  have hh : xs.length % m < m := Nat.mod_lt _ (by omega)
  generalize xs.length % m = hd at g3 hh
  have hc : min xs.length m ≤ m := Nat.min_le_right _ _
  generalize min xs.length m = ct at g2 hc
  rw [f_X3_tell]
  split
  · exact ⟨_, by rw [chk_t i1]⟩
  · split
    · exact ⟨_, rfl⟩
    · rename_i ca
      obtain ⟨s, hs, rfl⟩ := nn_e ca
      rw [chk_t i1, g2]
      by_cases c1 : ct ≤ s
      · exact ⟨_, by rw [if_pos (nI_le c1 hs)]⟩
      · rw [if_neg (nI_ge (by omega) (by omega))]
        rcases out_in (N := 4) (by decide) b with hb | ⟨u, hu, rfl⟩
        · rcases hb with hb | hb
          · exact ⟨_, by rw [if_pos hb]⟩
          · by_cases c2 : b < 0
            · exact ⟨_, by rw [if_pos c2]⟩
            · exact ⟨_, by rw [if_neg c2, if_neg (show ¬ b < (4 : Int32) from Int32.not_lt.mpr hb)]⟩
        · rw [if_neg (show ¬ nI u < 0 from nI_nlt (b := 0) (Nat.zero_le _) (by omega)), if_pos (show nI u < (4 : Int32) from nI_lt (b := 4) hu (by decide)), g3, bnd_e, r1, bnd_e, chk_t i2]
          by_cases c2 : s + 1 ≤ hd
          · have e1 : nI hd - (1 : Int32) - nI s = nI (hd - 1 - s) := by
              rw [nI_m1' (by omega)]
              obtain ⟨z, hz⟩ : ∃ z, hd - 1 = z + s := ⟨hd - 1 - s, by omega⟩
              rw [hz, ← nI_add, show z + s - s = z by omega, Int32.add_sub_cancel]
            rw [e1, if_pos (show (0 : Int32) ≤ nI (hd - 1 - s) from nI_le (a := 0) (Nat.zero_le _) (by omega)), show (4 : Int32) = nI 4 from rfl, pk_mul, nI_add, n2, chk_t (inB_n (by omega) (by omega))]
            exact ⟨_, rfl⟩
          · have e1 : nI hd - (1 : Int32) - nI s + nI m = nI (hd + m - 1 - s) := by
              obtain ⟨z, hz⟩ : ∃ z, hd + m = z + 1 + s := ⟨hd + m - 1 - s, by omega⟩
              have e2 : nI hd + nI m = nI z + 1 + nI s := by rw [nI_add, hz, nI_1, nI_add]
              rw [show hd + m - 1 - s = z by omega]
              have e3 : nI hd - (1 : Int32) - nI s + nI m = (nI hd + nI m) - 1 - nI s := by
                simp only [Int32.sub_eq_add_neg]
                ac_rfl
              rw [e3, e2]
              simp only [Int32.sub_eq_add_neg]
              rw [show nI z + 1 + nI s + -1 + -nI s = nI z + (1 + -1) + (nI s + -nI s) by ac_rfl, show (1 : Int32) + -1 = 0 from rfl, Int32.add_right_neg, Int32.add_zero, Int32.add_zero]
            split
            · rename_i c3
              exfalso
              have : nI hd - (1 : Int32) - nI s < 0 := by
                obtain ⟨z, hz⟩ : ∃ z, s + 1 = z + hd := ⟨s + 1 - hd, by omega⟩
                have ez : 1 ≤ z := by omega
                have e4 : nI hd - (1 : Int32) - nI s = 0 - nI z := by
                  have : nI s + 1 = nI z + nI hd := by rw [nI_1, hz, nI_add]
                  have e5 : nI hd - (1 : Int32) - nI s = nI hd - (nI s + 1) := by
                    simp only [Int32.sub_eq_add_neg, Int32.neg_add]
                    ac_rfl
                  rw [e5, this]
                  simp only [Int32.sub_eq_add_neg, Int32.neg_add]
                  rw [show nI hd + (-nI z + -nI hd) = -nI z + (nI hd + -nI hd) by ac_rfl, Int32.add_right_neg, Int32.add_zero, Int32.zero_add]
                rw [e4]
                have zb : z < 64 := by omega
                have all : ∀ z, z < 64 → 1 ≤ z → (0 : Int32) - nI z < 0 := by decide +kernel
                exact all z zb ez
              exact absurd c3 (Int32.not_le.mpr this)
            · rw [g0, e1, show (4 : Int32) = nI 4 from rfl, pk_mul, nI_add, n2, chk_t (inB_n (by omega) (by omega))]
              exact ⟨_, rfl⟩
end
/-! ===== questions, the class: the calls ===== -/
theorem fl_ge {S : St} {l : Nat} (hl : l < 256) : (xL S l).length ≤ (fl S).length := by
  rw [fl_split S hl, List.length_append, List.length_append, List.length_map]; omega
section
variable {M : Mem} {N A i : Nat} {Q : Nat → Int32} {S : St}
theorem WJ.c8 (w : WJ M N A i Q S) (a b : Int32) : ∃ r, f_X9_quorum 0 a b M = some r := by
  obtain ⟨X, Y, L, p, sb, xg, xr⟩ := id w.1
  have h16 := w.2.2.2.1.n16
  have q := p.1
  rcases out_in (N := N) (by omega) a with ha | ⟨k, hk, rfl⟩
  · exact ⟨-1, by rw [f_X9_quorum, chk_t xg.1, xg.2.1, bnd_e, sb.f, ndc0 sb ha, obd_s, if_pos rfl]⟩
  · rw [f_X9_quorum, chk_t xg.1, xg.2.1, bnd_e, sb.f, ndc sb hk h16, obd_s, if_neg ne10]
    split
    · exact ⟨_, by rw [bnd_e, sb.f, sb.r2, bnd_e, sb.a2, sb.i2 (by omega)]⟩
    · split
      · exact ⟨_, by rw [xg.2.2.2.1, bnd_e, cs_f q, cs_h5 q, bnd_e, cs_a15 q, cs_i15 q (by omega)]⟩
      · split
        · exact ⟨_, w.pl hk (fun o => some (mI M o 2))⟩
        · exact ⟨_, rfl⟩
theorem WJ.c29 (w : WJ M N A i Q S) (a b c : Int32) {n : Nat} (hn : 100 ≤ n) : ∃ r, f_X9_waiting n 0 a b c M = some r := by
  obtain ⟨X, Y, L, p, sb, xg, xr⟩ := id w.1
  have h16 := w.2.2.2.1.n16
  have q := p.1
  rcases out_in (N := N) (by omega) a with ha | ⟨k, hk, rfl⟩
  · exact ⟨-1, by rw [f_X9_waiting, chk_t xg.1, xg.2.1, bnd_e, sb.f, ndc0 sb ha, obd_s, if_pos rfl]⟩
  · have k6 : k < 16 := by omega
    rw [f_X9_waiting, chk_t xg.1, xg.2.1, bnd_e, sb.f, ndc sb hk h16, obd_s, if_neg ne10]
    split
    · exact ⟨_, rfl⟩
    · split
      · rcases wa_l q k6 b 16 0 n rfl (by omega) with e | ⟨u, hu, e⟩
        · exact ⟨-1, by rw [xg.2.2.2.1, bnd_e, cs_f q, cs_h2 q, bnd_e, cs_a10 q, cs_i10 q k6, cs_rpc q k6, bnd_e, cs_po q k6, f_X4_waiterAt, show f_X4_waiterAt_2 M n (14 + 17 + 2 * k) b 0 = some (-1) from e, obd_s, if_pos rfl]⟩
        · have m1 : ¬ nI u = (-1 : Int32) := fun z => m1_ne hu z.symm
          have e' : ∀ y, (if c = 0 then some (nI u) else some (mI M (14 + 18 + 2 * k) (nI u).toNatClampNeg)) = y → (bnd (mR M 0 2) fun o13 => chk (isO M 2 o13) <| bnd (mR M o13 2) fun o16 => chk (isO M 102 o16) <| chk (inB (nI k) (mLn M o16)) <| bnd (mR M o16 (nI k).toNatClampNeg) fun o20 => chk (isO M 4 o20) <| obd (f_X4_waiterAt n o20 b M) fun r24 => if r24 = (-1 : Int32) then some (-1 : Int32) else if c = 0 then some r24 else bnd (mR M o20 10) fun o29 => chk (isO M 100 o29) <| chk (inB r24 (mLn M o29)) <| some (mI M o29 (r24).toNatClampNeg)) = y := by
            intro y hy
            rw [xg.2.2.2.1, bnd_e, cs_f q, cs_h2 q, bnd_e, cs_a10 q, cs_i10 q k6, cs_rpc q k6, bnd_e, cs_po q k6, f_X4_waiterAt, show f_X4_waiterAt_2 M n (14 + 17 + 2 * k) b 0 = some (nI u) from e, obd_s, if_neg m1, cs_pr q k6, bnd_e, cs_pa q k6, cs_pi q k6 hu]
            exact hy
          by_cases c0 : c = 0
          · exact ⟨_, e' _ (if_pos c0)⟩
          · exact ⟨_, e' _ (if_neg c0)⟩
      · exact ⟨_, rfl⟩
theorem WJ.c30 (w : WJ M N A i Q S) (hi : i ≤ 511) (a b c : Int32) {n : Nat} (hn : 10000 ≤ n) : ∃ r, f_X9_way n 0 a b c M = some r := by
  obtain ⟨X, Y, L, p, sb, xg, xr⟩ := id w.1
  have h16 := w.2.2.2.1.n16
  have fl0 := w.2.2.2.1.tfl hi
  have q := p.1
  rcases out_in (N := N) (by omega) a with ha | ⟨f, hf, rfl⟩
  · exact ⟨-1, by rw [f_X9_way, chk_t xg.1, xg.2.1, bnd_e, sb.f, ndc0 sb ha, obd_s, if_pos rfl]⟩
  · rcases out_in (N := N) (by omega) b with hb | ⟨g, hg, rfl⟩
    · exact ⟨-1, by rw [f_X9_way, chk_t xg.1, xg.2.1, bnd_e, sb.f, ndc sb hf h16, obd_s, if_neg ne10, bnd_e, sb.f, ndc0 sb hb, obd_s, if_pos rfl]⟩
    · have l6 : 16 * f + g < 256 := by omega
      rw [f_X9_way, chk_t xg.1, xg.2.1, bnd_e, sb.f, ndc sb hf h16, obd_s, if_neg ne10, bnd_e, sb.f, ndc sb hg h16, obd_s, if_neg ne10]
      split
      · exact ⟨_, by rw [xg.2.2.2.1, bnd_e, cs_f q, cs_h1 q, bnd_e, cs_p q, f_X5_countOn, cs_p q, cs_r4 q, bnd_e, cs_a4 q, c16', cs_i4 q l6, obd_s]⟩
      · obtain ⟨d5, d6, d7, len, K, fr, us, ow, pw, hK⟩ := p.2.1
        obtain ⟨ds, w1, w2, w3, w4, w5, w6, w7, w8, w9, w10⟩ := pw
        have kl : (K (16 * f + g)).length ≤ 8176 := by
          have : (K (16 * f + g)).length = (xL S (16 * f + g)).length := by rw [← hK _ l6, List.length_map]
          rw [this]
          exact Nat.le_trans (fl_ge (l := 16 * f + g) l6) fl0
        have key : ∃ r, f_X5_kindAt n (14 + 1) (nI f) (nI g) c M = some r := by
          rw [f_X5_kindAt, c16', bnd_e]
          split
          · exact ⟨_, rfl⟩
          · rename_i cn
            obtain ⟨s, hs, rfl⟩ := nn_e cn
            rw [cs_p q, cs_r4 q, bnd_e, cs_a4 q, cs_i4 q l6, mI_c (by omega), w5 _ l6]
            by_cases c2 : s < (K (16 * f + g)).length
            · rw [if_pos (nI_lt c2 (by omega)), cs_r2 q, bnd_e, cs_a2 q, cs_i2 q l6, bnd_e, mI_c (by omega)]
              have := ka_l q ds w9.2.1 w9.2.2.2.1 s 0 n ((K (16 * f + g)).map Prod.fst) (mI M (14 + 2) (16 * f + g)) (w3 _ l6) (fun c hc => by
                obtain ⟨z, hz, e⟩ := List.mem_map.mp hc
                rw [← e]; exact (w1 _ l6 z hz).1) (by rw [List.length_map]; exact c2) (by omega) (by omega)
              rw [Nat.zero_add] at this
              exact this
            · rw [if_neg (nI_nlt (by omega) (by omega))]; exact ⟨_, rfl⟩
        obtain ⟨r, e⟩ := key
        exact ⟨r, by rw [xg.2.2.2.1, bnd_e, cs_f q, cs_h1 q, bnd_e, cs_p q, e, obd_s]⟩
theorem WJ.c33 (w : WJ M N A i Q S) (a : Int32) {n : Nat} (hn : 100 ≤ n) : ∃ r, f_X9_sent n 0 a M = some r := by
  obtain ⟨X, Y, L, p, sb, xg, xr⟩ := id w.1
  have q := p.1
  obtain ⟨r, e⟩ := csi_l q 6 0 n 0 rfl (by omega)
  rcases out_in (N := 6) (by decide) a with ha | ⟨k, hk, rfl⟩
  · rw [f_X9_sent]
    split
    · exact ⟨_, rfl⟩
    · split
      · split
        · exact ⟨r, by rw [chk_t xg.1, xg.2.2.2.1, bnd_e, cs_f q, cs_h1 q, bnd_e, cs_p q, f_X5_sentInAll, show f_X5_sentInAll_4 M n (14 + 1) 0 0 = some r from e, obd_s]⟩
        · rename_i c1 c2 c3
          exfalso
          rcases ha with ha | ha
          · exact c1 ha
          · exact c3 (Int32.le_antisymm c2 ha)
      · exact ⟨_, rfl⟩
  · rw [f_X9_sent, if_neg (show ¬ nI k < 0 from nI_nlt (b := 0) (Nat.zero_le _) (by omega)), if_pos (show nI k ≤ (6 : Int32) from nI_le (b := 6) (by omega) (by decide)), if_neg (show ¬ nI k = (6 : Int32) from nI_ne (b := 6) (by omega) (by decide) (by omega))]
    exact ⟨_, by rw [chk_t xg.1, xg.2.2.2.1, bnd_e, cs_f q, cs_h1 q, bnd_e, cs_p q, cs_r6 q, bnd_e, cs_a6 q, cs_i6 q hk]⟩
theorem WJ.c34 (w : WJ M N A i Q S) (a b : Int32) : ∃ r, f_X9_book 0 a b M = some r := by
  obtain ⟨X, Y, L, p, sb, xg, xr⟩ := id w.1
  have q := p.1
  obtain ⟨i1, r1, i2, n2⟩ := cs_e11 q
  obtain ⟨r, e⟩ := te_l (Or.inl rfl) i1 r1 i2 n2 p.2.2.2.2.1.1 a b
  exact ⟨r, by rw [f_X9_book, chk_t xg.1, xg.2.2.2.1, bnd_e, cs_f q, cs_h3 q, bnd_e, chk_t i1, e, obd_s]⟩
theorem WJ.c38 (w : WJ M N A i Q S) (a b : Int32) : ∃ r, f_X9_trace 0 a b M = some r := by
  obtain ⟨X, Y, L, p, sb, xg, xr⟩ := id w.1
  have q := p.1
  obtain ⟨i1, r1, i2, n2⟩ := cs_e13 q
  obtain ⟨r, e⟩ := te_l (Or.inr rfl) i1 r1 i2 n2 p.2.2.2.2.1.2 a b
  exact ⟨r, by rw [f_X9_trace, chk_t xg.1, xg.2.2.2.1, bnd_e, cs_f q, cs_h4 q, bnd_e, chk_t i1, e, obd_s]⟩
theorem WJ.c35 (w : WJ M N A i Q S) (a : Int32) {n : Nat} (hn : 100 ≤ n) : ∃ r, f_X9_waitsFor n 0 a M = some r := by
  obtain ⟨X, Y, L, p, sb, xg, xr⟩ := id w.1
  have h16 := w.2.2.2.1.n16
  have q := p.1
  rcases out_in (N := N) (by omega) a with ha | ⟨k, hk, rfl⟩
  · exact ⟨-1, by rw [f_X9_waitsFor, chk_t xg.1, xg.2.1, bnd_e, sb.f, ndc0 sb ha, obd_s, if_pos rfl]⟩
  · have s8 := (has_st p (k := k) (by omega)).2.1
    generalize (if xR S 0 k = 1 then (1 : Int32) else 0) = z8 at s8
    obtain ⟨r, e⟩ := p.aw h16 hk (n := n) (by omega)
    rw [f_X9_waitsFor, chk_t xg.1, xg.2.1, bnd_e, sb.f, ndc sb hk h16, obd_s, if_neg ne10, xg.2.2.2.1, bnd_e, cs_f q, s8, obd_s]
    split
    · exact ⟨_, rfl⟩
    · exact ⟨r, by rw [bnd_e, cs_f q, e, obd_s]⟩
theorem cr9_l (xg : XG M) {X Y : Nat} (p : HV M 14 X Y 0 N Q S [] []) (h16 : N ≤ 16) (a : Int32) : ∀ (d j n : Nat) (x y : Int32), j + d = N → d + 1 ≤ n → ∃ r, f_X9_crowded_18 M n 0 a x y (nI j) = some r := by
  have q := p.1
  intro d
  induction d with
  | zero =>
    intro j n x y hj hn
    obtain ⟨n, rfl⟩ : ∃ m, n = m + 1 := ⟨n - 1, by omega⟩
    rw [f_X9_crowded_18, chk_t xg.1, xg.2.1, bnd_e, cs_s q, p.2.2.2.2.2.1, if_pos (nI_le (by omega) (by omega))]
    split
    · exact ⟨_, rfl⟩
    · exact ⟨_, rfl⟩
  | succ d ih =>
    intro j n x y hj hn
    obtain ⟨n, rfl⟩ : ∃ m, n = m + 1 := ⟨n - 1, by omega⟩
    have j6 : j < 16 := by omega
    obtain ⟨r, e⟩ := bc_s (mI M (14 + 17 + 2 * j) 9) M
    rw [f_X9_crowded_18, chk_t xg.1, xg.2.1, bnd_e, cs_s q, p.2.2.2.2.2.1, if_neg (nI_ge (by omega) (by omega)), xg.2.2.2.1, bnd_e, cs_f q, cs_h2 q, bnd_e, cs_a10 q, cs_i10 q j6, cs_rpc q j6, bnd_e, cs_po q j6, e, obd_s]
    split
    · rw [bnd_e, nI_1]; exact ih (j + 1) n _ _ (by omega) (by omega)
    · rw [bnd_e, nI_1]; exact ih (j + 1) n _ _ (by omega) (by omega)
theorem WJ.c37 (w : WJ M N A i Q S) (a : Int32) {n : Nat} (hn : 100 ≤ n) : ∃ r, f_X9_crowded n 0 a M = some r := by
  obtain ⟨X, Y, L, p, sb, xg, xr⟩ := id w.1
  have h16 := w.2.2.2.1.n16
  rw [f_X9_crowded]
  split
  · exact ⟨_, rfl⟩
  · split
    · exact cr9_l xg p h16 a N 0 n 0 (-1) (by omega) (by omega)
    · exact ⟨_, rfl⟩
end
