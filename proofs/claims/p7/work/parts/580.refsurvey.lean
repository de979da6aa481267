/-! ===== the survey, the reference: each answers ===== -/
theorem pc_lj {x : Int32} {j : Nat} (hj : j ≤ 32) (h : ∀ i, j ≤ i → i < 32 → bt x i = false) : pc x ≤ j := by
  unfold pc
  have e : List.range 32 = List.range' 0 j ++ List.range' j (32 - j) := by
    have a := List.range'_append_1 (s := 0) (m := j) (n := 32 - j)
    rw [Nat.zero_add, show j + (32 - j) = 32 by omega] at a
    rw [List.range_eq_range', ← a]
  have z : (List.range' j (32 - j)).filter (fun i => bt x i) = [] := by
    rw [List.filter_eq_nil_iff]
    intro i hi
    have := List.mem_range'_1.mp hi
    rw [h i this.1 (by omega)]
    decide
  rw [e, List.filter_append, z, List.append_nil]
  have := List.length_filter_le (fun i => bt x i) (List.range' 0 j)
  rw [List.length_range'] at this
  exact this
theorem bt_hk {k j : Nat} (hk : k < 2 ^ j) : ∀ i, j ≤ i → i < 32 → bt (nI k) i = false := fun i a b => by
  rw [bt_nI k b]
  exact Nat.testBit_lt_two_pow (Nat.lt_of_lt_of_le hk (Nat.pow_le_pow_right (by decide) a))
theorem all_e : ∀ N, N < 17 → ((1 : Int32) <<< (nI N &&& 31)) - (1 : Int32) = nI (2 ^ N - 1) := by decide +kernel
theorem p16 {N : Nat} (h16 : N ≤ 16) : 1 ≤ 2 ^ N ∧ 2 ^ N ≤ 65536 := ⟨Nat.one_le_two_pow, Nat.pow_le_pow_right (n := 2) (by decide) h16⟩
section
variable {M : Mem} {N : Nat} {tw : Bool} {t : Int32} {S : St} {pb pt : List Row4}
theorem RV.al (r : RV M tw t S pb pt) (hN : xR S 20 0 = nI N) (h16 : N ≤ 16) : f_X10_all 120 M = some (nI (2 ^ N - 1)) := by
  rw [f_X10_all, rs_f r.1, rs_0 r.1, bnd_e, rs_fa r.1, rs_c0 r.1, cl0, r.N hN, all_e N (by omega)]
theorem mny_k {k n : Nat} (hk : k < 65536) (hn : 40 ≤ n) (M : Mem) : f_X10_many n (nI k) M = some (nI (pc (nI k))) :=
  f_many (fun i a b => bt_hk (j := 16) hk i (by omega) b) hn M
theorem pw_ex (M : Mem) (a : Int64) (e : Int32) (K : Nat) (he : e ≤ nI K) (hK : K < 1000) : ∀ (d i n : Nat) (c : Int64), i + d = K → d + 1 ≤ n → ∃ r, f_X10_power_5 M n a e c (nI i) = some r := by
  intro d
  induction d with
  | zero =>
    intro i n c hi hn
    obtain ⟨n, rfl⟩ : ∃ m, n = m + 1 := ⟨n - 1, by omega⟩
    exact ⟨c, by rw [f_X10_power_5, if_pos (by rw [show i = K by omega]; exact he)]⟩
  | succ d ih =>
    intro i n c hi hn
    obtain ⟨n, rfl⟩ : ∃ m, n = m + 1 := ⟨n - 1, by omega⟩
    by_cases z : e ≤ nI i
    · exact ⟨c, by rw [f_X10_power_5, if_pos z]⟩
    · rw [f_X10_power_5, if_neg z, bnd_e, bnd_e, nI_1]
      exact ih (i + 1) n _ (by omega) (by omega)
theorem RV.odds (r : RV M tw t S pb pt) (hN : xR S 20 0 = nI N) (h16 : N ≤ 16) {k n : Nat} (hk : k < 2 ^ N) (b : Int32) (hn : 100 ≤ n) : ∃ x, f_X10_oddsOf n 120 (nI k) b M = some x := by
  have p := p16 h16
  have pl := pc_lj (x := nI k) (j := N) (by omega) (bt_hk hk)
  obtain ⟨x1, e1⟩ := pw_ex M (b.toInt64) (nI (pc (nI k))) 16 (nI_le (by omega) (by decide)) (by decide) 16 0 n 1 rfl (by omega)
  obtain ⟨x2, e2⟩ := pw_ex M ((10 : Int64) - b.toInt64) (nI N - nI (pc (nI k))) 16 (by rw [nI_sb pl]; exact nI_le (by omega) (by decide)) (by decide) 16 0 n 1 rfl (by omega)
  refine ⟨x1 * x2, ?_⟩
  rw [f_X10_oddsOf, mny_k (by omega) (by omega), obd_s, f_X10_power, show f_X10_power_5 M n b.toInt64 (nI (pc (nI k))) 1 0 = some x1 from e1, obd_s, rs_f r.1, rs_0 r.1, bnd_e, rs_fa r.1, rs_c0 r.1, obd_s, cl0, r.N hN, f_X10_power, show f_X10_power_5 M n ((10 : Int64) - b.toInt64) (nI N - nI (pc (nI k))) 1 0 = some x2 from e2, obd_s]
/-- a power of ten is none -/
def pwv (a : Int64) : Nat → Int64 → Int64
  | 0, c => c
  | k + 1, c => pwv a k (c * a)
theorem pw_v (M : Mem) (a : Int64) (K : Nat) (hK : K < 1000) : ∀ (d i n : Nat) (c : Int64), i + d = K → d + 1 ≤ n → f_X10_power_5 M n a (nI K) c (nI i) = some (pwv a d c) := by
  intro d
  induction d with
  | zero =>
    intro i n c hi hn
    obtain ⟨n, rfl⟩ : ∃ m, n = m + 1 := ⟨n - 1, by omega⟩
    rw [f_X10_power_5, if_pos (nI_le (by omega) (by omega))]
    rfl
  | succ d ih =>
    intro i n c hi hn
    obtain ⟨n, rfl⟩ : ∃ m, n = m + 1 := ⟨n - 1, by omega⟩
    rw [f_X10_power_5, if_neg (nI_ge (by omega) (by omega)), bnd_e, bnd_e, nI_1]
    exact ih (i + 1) n _ (by omega) (by omega)
theorem pw10 : ∀ k, k < 11 → ¬ pwv 10 k 1 = 0 := by decide +kernel
theorem RV.mill (r : RV M tw t S pb pt) (hN : xR S 20 0 = nI N) (h16 : N ≤ 16) (a : Int64) {n : Nat} (hn : 100 ≤ n) : ∃ x, f_X10_millionths n 120 a M = some x := by
  have h0 : mI M 121 ((0 : Int32).toNatClampNeg) = nI N := by rw [cl0]; exact r.N hN
  by_cases c : N < 6
  · obtain ⟨x1, e1⟩ := pw_ex M 10 ((6 : Int32) - nI N) 6 (by rw [show (6 : Int32) = nI 6 from rfl, nI_sb (by omega)]; exact nI_le (by omega) (by decide)) (by decide) 6 0 n 1 rfl (by omega)
    exact ⟨_, by rw [f_X10_millionths, rs_f r.1, rs_0 r.1, bnd_e, rs_fa r.1, rs_c0 r.1, h0, if_pos (show nI N < (6 : Int32) from nI_lt (b := 6) c (by decide)), bnd_e, rs_fa r.1, rs_c0 r.1, h0, f_X10_power, show f_X10_power_5 M n 10 ((6 : Int32) - nI N) 1 0 = some x1 from e1, obd_s]⟩
  · have e1 := pw_v M 10 (N - 6) (by omega) (N - 6) 0 n 1 (by omega) (by omega)
    exact ⟨_, by rw [f_X10_millionths, rs_f r.1, rs_0 r.1, bnd_e, rs_fa r.1, rs_c0 r.1, h0, if_neg (show ¬ nI N < (6 : Int32) from nI_nl (a := N) (b := 6) (by omega) (by omega)), bnd_e, rs_fa r.1, rs_c0 r.1, h0, f_X10_power, show nI N - (6 : Int32) = nI (N - 6) by rw [show (6 : Int32) = nI 6 from rfl, nI_sb (by omega)], show f_X10_power_5 M n 10 (nI (N - 6)) 1 0 = some (pwv 10 (N - 6) 1) from e1, obd_s, chk_t (pw10 (N - 6) (by omega))]⟩
theorem rlv_l (r : RV M tw t S pb pt) (hN : xR S 20 0 = nI N) (h16 : N ≤ 16) (b : Int32) : ∀ (d i n : Nat), i + d = N → d + 1 ≤ n → ∃ x, f_X10_isLive_2 M n 120 b (nI i) = some x := by
  intro d
  induction d with
  | zero =>
    intro i n hi hn
    obtain ⟨n, rfl⟩ : ∃ m, n = m + 1 := ⟨n - 1, by omega⟩
    exact ⟨0, by rw [f_X10_isLive_2, rs_f r.1, rs_0 r.1, bnd_e, rs_fa r.1, rs_c0 r.1, cl0, r.N hN, if_pos (nI_le (by omega) (by omega))]⟩
  | succ d ih =>
    intro i n hi hn
    obtain ⟨n, rfl⟩ : ∃ m, n = m + 1 := ⟨n - 1, by omega⟩
    rw [f_X10_isLive_2, rs_f r.1, rs_0 r.1, bnd_e, rs_fa r.1, rs_c0 r.1, cl0, r.N hN, if_neg (nI_ge (by omega) (by omega)), r.base (by omega), obd_s]
    split
    · exact ⟨_, rfl⟩
    · rw [bnd_e, nI_1]; exact ih (i + 1) n (by omega) (by omega)
theorem rib_l (r : RV M tw t S pb pt) (hN : xR S 20 0 = nI N) (h16 : N ≤ 16) (b : Int32) : ∀ (d i n : Nat), i + d = N → d + 1 ≤ n → ∃ x, f_X10_isBetter_2 M n 120 b (nI i) = some x := by
  intro d
  induction d with
  | zero =>
    intro i n hi hn
    obtain ⟨n, rfl⟩ : ∃ m, n = m + 1 := ⟨n - 1, by omega⟩
    exact ⟨1, by rw [f_X10_isBetter_2, rs_f r.1, rs_0 r.1, bnd_e, rs_fa r.1, rs_c0 r.1, cl0, r.N hN, if_pos (nI_le (by omega) (by omega))]⟩
  | succ d ih =>
    intro i n hi hn
    obtain ⟨n, rfl⟩ : ∃ m, n = m + 1 := ⟨n - 1, by omega⟩
    rw [f_X10_isBetter_2, rs_f r.1, rs_0 r.1, bnd_e, rs_fa r.1, rs_c0 r.1, cl0, r.N hN, if_neg (nI_ge (by omega) (by omega)), r.base (by omega), obd_s, obd_s]
    split
    · exact ⟨_, rfl⟩
    · split
      · exact ⟨_, rfl⟩
      · rw [bnd_e, nI_1]; exact ih (i + 1) n (by omega) (by omega)
theorem rpv_l (r : RV M tw t S pb pt) (hN : xR S 20 0 = nI N) (h16 : N ≤ 16) {v : Nat} (hv : v < 32) : ∀ (d i n : Nat) (c : Int32), i + d = 2 ^ N → d + 101 ≤ n → ∃ x, f_X10_pivotal_14 M n 120 (nI v) c (nI i) = some x := by
  have p := p16 h16
  intro d
  induction d with
  | zero =>
    intro i n c hi hn
    obtain ⟨n, rfl⟩ : ∃ m, n = m + 1 := ⟨n - 1, by omega⟩
    exact ⟨c, by rw [f_X10_pivotal_14, rs_f r.1, r.al hN h16, obd_s, if_pos (nI_lt (by omega) (by omega))]⟩
  | succ d ih =>
    intro i n c hi hn
    obtain ⟨n, rfl⟩ : ∃ m, n = m + 1 := ⟨n - 1, by omega⟩
    obtain ⟨z, ez⟩ := has10_ex (nI i) hv M
    obtain ⟨y1, e1⟩ := rlv_l r hN h16 (nI i) N 0 n (by omega) (by omega)
    obtain ⟨y2, e2⟩ := rlv_l r hN h16 (nI i ||| ((1 : Int32) <<< (nI v &&& 31))) N 0 n (by omega) (by omega)
    have e1' : f_X10_isLive n 120 (nI i) M = some y1 := e1
    have e2' : f_X10_isLive n 120 (nI i ||| ((1 : Int32) <<< (nI v &&& 31))) M = some y2 := e2
    rw [f_X10_pivotal_14, rs_f r.1, r.al hN h16, obd_s, if_neg (nI_nl (by omega) (by omega)), ez, obd_s]
    split
    · rw [e1', obd_s]
      split
      · rw [e2', obd_s]
        split
        · rw [bnd_e, bnd_e, nI_1]; exact ih (i + 1) n _ (by omega) (by omega)
        · rw [bnd_e, bnd_e, nI_1]; exact ih (i + 1) n _ (by omega) (by omega)
      · rw [bnd_e, bnd_e, nI_1]; exact ih (i + 1) n _ (by omega) (by omega)
    · rw [bnd_e, bnd_e, nI_1]; exact ih (i + 1) n _ (by omega) (by omega)
theorem rbt_l (r : RV M tw t S pb pt) (hN : xR S 20 0 = nI N) (h16 : N ≤ 16) : ∀ (d i n : Nat), i + d = 2 ^ N → d + 101 ≤ n → ∃ x, f_X10_better_2 M n 120 (nI i) = some x := by
  have p := p16 h16
  intro d
  induction d with
  | zero =>
    intro i n hi hn
    obtain ⟨n, rfl⟩ : ∃ m, n = m + 1 := ⟨n - 1, by omega⟩
    exact ⟨-1, by rw [f_X10_better_2, rs_f r.1, r.al hN h16, obd_s, if_pos (nI_lt (by omega) (by omega))]⟩
  | succ d ih =>
    intro i n hi hn
    obtain ⟨n, rfl⟩ : ∃ m, n = m + 1 := ⟨n - 1, by omega⟩
    obtain ⟨y1, e1⟩ := rib_l r hN h16 (nI i) N 0 n (by omega) (by omega)
    have e1' : f_X10_isBetter n 120 (nI i) M = some y1 := e1
    rw [f_X10_better_2, rs_f r.1, r.al hN h16, obd_s, if_neg (nI_nl (by omega) (by omega)), e1', obd_s]
    split
    · rw [bnd_e, nI_1]; exact ih (i + 1) n (by omega) (by omega)
    · exact ⟨_, rfl⟩
end
section
variable {N : Nat} {tw : Bool} {t : Int32} {S : St} {pb pt : List Row4}
theorem RV.sb (hN : xR S 20 0 = nI N) (h16 : N ≤ 16) (ht : xR S 20 1 = 1 → N % 2 = 1) (b : Int32) {M : Mem} (r : RV M tw t S pb pt) {n : Nat} (hn : 100 ≤ n) : ∃ x M', f_X10_stopsBy n 120 b M = some (x, M') ∧ RV M' tw t S pb pt ∧ Fr P2 M M' := by
  obtain ⟨x, M', e, _, r', f'⟩ := rst_l hN h16 ht b N 0 n M r (by omega) (by omega)
  exact ⟨x, M', e, r', f'⟩
theorem rwk_0 {v1 : Int32} {M : Mem} {m n : Nat} (hm : m < 65536) (hn : 41 ≤ n) : ∃ x, f_X10_weakest_21 n 120 v1 (nI m) (-1) M = some (x, M) := by
  obtain ⟨n, rfl⟩ : ∃ j, n = j + 1 := ⟨n - 1, by omega⟩
  rw [f_X10_weakest_21, if_pos (show (-1 : Int32) < 0 by decide)]
  split
  · exact ⟨_, by rw [mny_k hm (by omega), obd_s]⟩
  · exact ⟨_, rfl⟩
theorem rwk_l (hN : xR S 20 0 = nI N) (h16 : N ≤ 16) (ht : xR S 20 1 = 1 → N % 2 = 1) (v1 : Int32) : ∀ (k m n : Nat) (M : Mem), RV M tw t S pb pt → k < 65536 → m < 65536 → k + 201 ≤ n → ∃ x M', f_X10_weakest_21 n 120 v1 (nI m) (nI k) M = some (x, M') ∧ RV M' tw t S pb pt ∧ Fr P2 M M' := by
  intro k
  induction k with
  | zero =>
    intro m n M r hk hm hn
    obtain ⟨n, rfl⟩ : ∃ j, n = j + 1 := ⟨n - 1, by omega⟩
    obtain ⟨y, M1, e1, r1, f1⟩ := r.sb hN h16 ht (nI 0) (n := n) (by omega)
    have d0 : nI 0 + (-1 : Int32) = -1 := by decide
    rw [f_X10_weakest_21, if_neg (show ¬ nI 0 < (0 : Int32) by decide), mny_k (by omega) (by omega), obd_s, mny_k hm (by omega), obd_s]
    split
    · obtain ⟨x, e⟩ := rwk_0 (v1 := v1) (M := M) (m := m) (n := n) hm (by omega)
      exact ⟨x, M, by rw [bnd_e, d0]; exact e, r, Fr.rf _ _⟩
    · rw [rs_f r.1, e1, obd2_s]
      split
      · obtain ⟨x, e⟩ := rwk_0 (v1 := v1) (M := M1) (m := m) (n := n) hm (by omega)
        exact ⟨x, M1, by rw [bnd_e, d0]; exact e, r1, f1⟩
      · obtain ⟨x, e⟩ := rwk_0 (v1 := v1) (M := M1) (m := 0) (n := n) (by omega) (by omega)
        exact ⟨x, M1, by rw [bnd_e, d0]; exact e, r1, f1⟩
  | succ k ih =>
    intro m n M r hk hm hn
    obtain ⟨n, rfl⟩ : ∃ j, n = j + 1 := ⟨n - 1, by omega⟩
    obtain ⟨y, M1, e1, r1, f1⟩ := r.sb hN h16 ht (nI (k + 1)) (n := n) (by omega)
    rw [f_X10_weakest_21, if_neg (show ¬ nI (k + 1) < (0 : Int32) from nI_nl (a := k + 1) (b := 0) (by omega) (by omega)), mny_k hk (by omega), obd_s, mny_k hm (by omega), obd_s]
    split
    · rw [bnd_e, nI_d1]; exact ih m n M r (by omega) hm (by omega)
    · rw [rs_f r.1, e1, obd2_s]
      split
      · obtain ⟨x, M', e', r', f'⟩ := ih m n M1 r1 (by omega) hm (by omega)
        exact ⟨x, M', by rw [bnd_e, nI_d1]; exact e', r', f1.tr f'⟩
      · obtain ⟨x, M', e', r', f'⟩ := ih (k + 1) n M1 r1 (by omega) hk (by omega)
        exact ⟨x, M', by rw [bnd_e, nI_d1]; exact e', r', f1.tr f'⟩
theorem rch_l (hN : xR S 20 0 = nI N) (h16 : N ≤ 16) (ht : xR S 20 1 = 1 → N % 2 = 1) (v1 : Int32) : ∀ (d i n : Nat) (c : Int64) (M : Mem), RV M tw t S pb pt → i + d = 2 ^ N → d + 201 ≤ n → ∃ x M', f_X10_chance_17 n 120 v1 c (nI i) M = some (x, M') ∧ RV M' tw t S pb pt ∧ Fr P2 M M' := by
  have p := p16 h16
  intro d
  induction d with
  | zero =>
    intro i n c M r hi hn
    obtain ⟨n, rfl⟩ : ∃ j, n = j + 1 := ⟨n - 1, by omega⟩
    obtain ⟨x, e⟩ := r.mill hN h16 c (n := n) (by omega)
    exact ⟨x, M, by rw [f_X10_chance_17, rs_f r.1, r.al hN h16, obd_s, if_pos (nI_lt (by omega) (by omega)), e, obd_s], r, Fr.rf _ _⟩
  | succ d ih =>
    intro i n c M r hi hn
    obtain ⟨n, rfl⟩ : ∃ j, n = j + 1 := ⟨n - 1, by omega⟩
    obtain ⟨y, M1, e1, r1, f1⟩ := r.sb hN h16 ht (nI i) (n := n) (by omega)
    obtain ⟨z, ez⟩ := r1.odds hN h16 (k := i) (n := n) (by omega) v1 (by omega)
    rw [f_X10_chance_17, rs_f r.1, r.al hN h16, obd_s, if_neg (nI_nl (by omega) (by omega)), e1, obd2_s]
    split
    · obtain ⟨x, M', e', r', f'⟩ := ih (i + 1) n (c + z) M1 r1 (by omega) (by omega)
      exact ⟨x, M', by rw [rs_f r1.1, ez, obd_s, bnd_e, bnd_e, nI_1]; exact e', r', f1.tr f'⟩
    · obtain ⟨x, M', e', r', f'⟩ := ih (i + 1) n c M1 r1 (by omega) (by omega)
      exact ⟨x, M', by rw [bnd_e, nI_1]; exact e', r', f1.tr f'⟩
theorem rco_l (hN : xR S 20 0 = nI N) (h16 : N ≤ 16) (ht : xR S 20 1 = 1 → N % 2 = 1) {v : Nat} (hv : v < 16) (v2 : Int32) : ∀ (d i n : Nat) (c : Int64) (M : Mem), RV M tw t S pb pt → i + d = 2 ^ N → d + 201 ≤ n → ∃ x M', f_X10_chanceOf_25 n 120 (nI v) v2 c (nI i) M = some (x, M') ∧ RV M' tw t S pb pt ∧ Fr P2 M M' := by
  have p := p16 h16
  intro d
  induction d with
  | zero =>
    intro i n c M r hi hn
    obtain ⟨n, rfl⟩ : ∃ j, n = j + 1 := ⟨n - 1, by omega⟩
    obtain ⟨x, e⟩ := r.mill hN h16 c (n := n) (by omega)
    exact ⟨x, M, by rw [f_X10_chanceOf_25, rs_f r.1, r.al hN h16, obd_s, if_pos (nI_lt (by omega) (by omega)), e, obd_s], r, Fr.rf _ _⟩
  | succ d ih =>
    intro i n c M r hi hn
    obtain ⟨n, rfl⟩ : ∃ j, n = j + 1 := ⟨n - 1, by omega⟩
    obtain ⟨w, ew⟩ := has10_ex (nI i) (v := v) (by omega) M
    obtain ⟨M1, e1, r1, f1⟩ := r.tqby (n := n) hN h16 ht hv (nI i) (by omega)
    obtain ⟨z, ez⟩ := r1.odds hN h16 (k := i) (n := n) (by omega) v2 (by omega)
    rw [f_X10_chanceOf_25, rs_f r.1, r.al hN h16, obd_s, if_neg (nI_nl (by omega) (by omega)), ew, obd_s]
    split
    · rw [e1, obd2_s]
      split
      · obtain ⟨x, M', e', r', f'⟩ := ih (i + 1) n c M1 r1 (by omega) (by omega)
        exact ⟨x, M', by rw [bnd_e, nI_1]; exact e', r', f1.tr f'⟩
      · obtain ⟨x, M', e', r', f'⟩ := ih (i + 1) n (c + z) M1 r1 (by omega) (by omega)
        exact ⟨x, M', by rw [rs_f r1.1, ez, obd_s, bnd_e, bnd_e, nI_1]; exact e', r', f1.tr f'⟩
    · obtain ⟨x, M', e', r', f'⟩ := ih (i + 1) n c M r (by omega) (by omega)
      exact ⟨x, M', by rw [bnd_e, nI_1]; exact e', r', f'⟩
end
