/-! ===== how many bits ===== -/
def pcN (m : Nat) : Nat := ((List.range 32).filter fun i => m.testBit i).length
theorem pcN_half {m : Nat} (h : m < 2 ^ 31) : pcN m = m % 2 + pcN (m / 2) := by
  have e : List.range 32 = 0 :: (List.range 31).map Nat.succ := List.range_succ_eq_map
  have e2 : List.range 32 = List.range 31 ++ [31] := List.range_succ
  have hb : (m / 2).testBit 31 = false := Nat.testBit_lt_two_pow (by omega)
  have h1 : pcN (m / 2) = ((List.range 31).filter fun i => (m / 2).testBit i).length := by
    unfold pcN
    rw [e2, List.filter_append, List.length_append]
    simp [hb]
  rw [h1]
  unfold pcN
  rw [e]
  have h3 : ((List.range 31).map Nat.succ).filter (fun i => m.testBit i) = ((List.range 31).filter fun i => (m / 2).testBit i).map Nat.succ := by
    rw [List.filter_map]
    congr 1
  rw [List.filter_cons, h3]
  by_cases h2 : m % 2 = 1
  · have : m.testBit 0 = true := by rw [Nat.testBit_zero]; simp [h2]
    rw [if_pos this, List.length_cons, List.length_map, h2]; omega
  · have : m.testBit 0 = false := by rw [Nat.testBit_zero]; simp [h2]
    rw [if_neg (by rw [this]; simp), List.length_map]; omega
theorem pcN_0 : pcN 0 = 0 := by decide
theorem and_pred (m : Nat) (h : 0 < m) : (m &&& (m - 1)) % 2 = 0 ∧ (m &&& (m - 1)) / 2 = if m % 2 = 1 then m / 2 else (m / 2) &&& (m / 2 - 1) := by
  constructor
  · have := Nat.testBit_and m (m - 1) 0
    simp only [Nat.testBit_zero] at this
    have h2 : ¬ (m % 2 = 1 ∧ (m - 1) % 2 = 1) := by omega
    have h3 : (m &&& (m - 1)) % 2 < 2 := Nat.mod_lt _ (by decide)
    by_cases q : (m &&& (m - 1)) % 2 = 1
    · rw [q] at this
      simp at this
      exact absurd this h2
    · omega
  · by_cases q : m % 2 = 1
    · rw [if_pos q]
      apply Nat.eq_of_testBit_eq
      intro i
      rw [← Nat.testBit_succ, Nat.testBit_and, Nat.testBit_succ, Nat.testBit_succ, show (m - 1) / 2 = m / 2 by omega, Bool.and_self]
    · rw [if_neg q]
      apply Nat.eq_of_testBit_eq
      intro i
      rw [← Nat.testBit_succ, Nat.testBit_and, Nat.testBit_succ, Nat.testBit_succ, Nat.testBit_and, show (m - 1) / 2 = m / 2 - 1 by omega]
theorem pcN_pred : ∀ (k m : Nat), m < 2 ^ k → k ≤ 31 → 0 < m → pcN (m &&& (m - 1)) + 1 = pcN m := by
  intro k
  induction k with
  | zero => intro m h _ h0; omega
  | succ k ih =>
    intro m h hk h0
    have hm : m < 2 ^ 31 := Nat.lt_of_lt_of_le h (Nat.pow_le_pow_right (by decide) hk)
    have ha : m &&& (m - 1) ≤ m := Nat.and_le_left
    obtain ⟨a1, a2⟩ := and_pred m h0
    rw [pcN_half hm, pcN_half (m := m &&& (m - 1)) (by omega), a1, a2]
    by_cases q : m % 2 = 1
    · rw [if_pos q, q]; omega
    · rw [if_neg q]
      have := ih (m / 2) (by rw [Nat.pow_succ] at h; omega) (by omega) (by omega)
      omega
theorem many_l (M : Mem) : ∀ (d m c n : Nat), pcN m = d → m < 2 ^ 31 → d + 1 ≤ n → f_X10_many_4 M n (nI c) (nI m) = some (nI (c + d)) := by
  intro d
  induction d with
  | zero =>
    intro m c n h hm hn
    obtain ⟨n, rfl⟩ : ∃ m, n = m + 1 := ⟨n - 1, by omega⟩
    have : m = 0 := by
      rcases Nat.eq_zero_or_pos m with q | q
      · exact q
      · have := pcN_pred 31 m hm (Nat.le_refl _) q
        omega
    subst this
    rw [f_X10_many_4, if_pos (by rfl)]
    rfl
  | succ d ih =>
    intro m c n h hm hn
    obtain ⟨n, rfl⟩ : ∃ m, n = m + 1 := ⟨n - 1, by omega⟩
    have h0 : 0 < m := by
      rcases Nat.eq_zero_or_pos m with q | q
      · rw [q, pcN_0] at h; omega
      · exact q
    have := pcN_pred 31 m hm (Nat.le_refl _) h0
    have ha : m &&& (m - 1) ≤ m := Nat.and_le_left
    rw [f_X10_many_4, if_neg (nI_ne0 h0 (by omega)), bnd_e, nI_1, show nI m - (1 : Int32) = nI (m - 1) by rw [show m = (m - 1) + 1 by omega, nI_pred]; rfl, nx_and, bnd_e, ih _ _ _ (by omega) (by omega) (by omega)]
    congr 2
    omega
def pc (x : Int32) : Nat := ((List.range 32).filter fun i => bt x i).length
theorem pc_N (m : Nat) : pc (nI m) = pcN m := by
  unfold pc pcN
  congr 1
  apply List.filter_congr
  intro i hi
  rw [bt_nI m (List.mem_range.mp hi)]
theorem pc_le (x : Int32) : pc x ≤ 32 := by
  unfold pc
  have := List.length_filter_le (fun i => bt x i) (List.range 32)
  rw [List.length_range] at this
  exact this
theorem nI_tn (x : Int32) : x = nI x.toBitVec.toNat := by
  apply Int32.toBitVec_inj.mp
  show _ = BitVec.ofNat 32 _
  rw [BitVec.ofNat_toNat, BitVec.setWidth_eq]
theorem bt_hi {x : Int32} {k : Nat} (hk : k ≤ 32) (h : ∀ i, k ≤ i → i < 32 → bt x i = false) : x.toBitVec.toNat < 2 ^ k := by
  apply Nat.lt_pow_two_of_testBit
  intro i hi
  by_cases q : i < 32
  · have := h i hi q
    unfold bt at this
    rw [BitVec.getLsbD] at this
    exact this
  · exact Nat.testBit_lt_two_pow (Nat.lt_of_lt_of_le x.toBitVec.isLt (Nat.pow_le_pow_right (by decide) (by omega)))
theorem f_many {x : Int32} (h : ∀ i, 31 ≤ i → i < 32 → bt x i = false) {n : Nat} (hn : 40 ≤ n) (M : Mem) : f_X10_many n x M = some (nI (pc x)) := by
  have hx := bt_hi (by decide) h
  rw [nI_tn x, pc_N, f_X10_many]
  have hp : pcN x.toBitVec.toNat ≤ 32 := by rw [← pc_N, ← nI_tn]; exact pc_le x
  have := many_l M (pcN x.toBitVec.toNat) x.toBitVec.toNat 0 n rfl hx (by omega)
  rw [Nat.zero_add] at this
  exact this
/-! ===== the masks of the reference ===== -/
theorem bt_or1 (x : Int32) {v i : Nat} (hv : v < 32) (hi : i < 32) : bt (x ||| ((1 : Int32) <<< (nI v &&& 31))) i = (bt x i || decide (i = v)) := bt_on x hv hi
theorem or_0 (x : Int32) : x ||| (0 : Int32) = x := Int32.or_zero
theorem cl0 : ((0 : Int32)).toNatClampNeg = 0 := by decide
theorem rs_c0 {α : Type} {M : Mem} (h : RS M) (x : Option α) : chk (inB (0 : Int32) (mLn M 121)) x = x := rs_c h (k := 0) (by decide) x
theorem RV.N {M : Mem} {tw : Bool} {t : Int32} {S : St} {pb pt : List Row4} (h : RV M tw t S pb pt) {N : Nat} (hN : xR S 20 0 = nI N) : mI M 121 0 = nI N := (h.rg (k := 20) (i := 0) (by unfold vk; omega)).trans hN
theorem ins_l {M : Mem} {tw : Bool} {t : Int32} {S : St} {pb pt : List Row4} (h : RV M tw t S pb pt) {N : Nat} (hN : xR S 20 0 = nI N) (h16 : N ≤ 16) (q : Int32) (fn : Mem → Nat → Nat → Int32 → Int32 → Option Int32) (hf : fn = f_X10_insides_4 ∧ q = 2 ∨ fn = f_X10_askings_4 ∧ q = 1) : ∀ (d i n : Nat) (x : Int32), i + d = N → d + 1 ≤ n → (∀ w, w < 32 → bt x w = decide (w < i ∧ xR S 0 w = q)) → ∃ y, fn M n 120 x (nI i) = some y ∧ ∀ w, w < 32 → bt y w = decide (w < N ∧ xR S 0 w = q) := by
  intro d
  induction d with
  | zero =>
    intro i n x hi hn hx
    obtain ⟨n, rfl⟩ : ∃ m, n = m + 1 := ⟨n - 1, by omega⟩
    have hi2 : i = N := by omega
    subst hi2
    refine ⟨x, ?_, hx⟩
    rcases hf with ⟨rfl, rfl⟩ | ⟨rfl, rfl⟩
    · rw [f_X10_insides_4, rs_f h.1, rs_0 h.1, bnd_e, rs_fa h.1, rs_c0 h.1, cl0, h.N hN, if_pos (nI_le (Nat.le_refl _) (by omega))]
    · rw [f_X10_askings_4, rs_f h.1, rs_0 h.1, bnd_e, rs_fa h.1, rs_c0 h.1, cl0, h.N hN, if_pos (nI_le (Nat.le_refl _) (by omega))]
  | succ d ih =>
    intro i n x hi hn hx
    obtain ⟨n, rfl⟩ : ∃ m, n = m + 1 := ⟨n - 1, by omega⟩
    have step : ∀ y, fn M n 120 (if xR S 0 i = q then x ||| ((1 : Int32) <<< (nI i &&& 31)) else x ||| 0) (nI (i + 1)) = y → fn M (n + 1) 120 x (nI i) = y := by
      intro y hy
      rcases hf with ⟨rfl, rfl⟩ | ⟨rfl, rfl⟩
      · rw [f_X10_insides_4, rs_f h.1, rs_0 h.1, bnd_e, rs_fa h.1, rs_c0 h.1, cl0, h.N hN, if_neg (nI_ge (by omega) (by omega)), h.get0 (by omega), obd_s]
        simp only [bnd_e, nI_1]
        by_cases c : xR S 0 i = 2
        · rw [if_pos c] at hy ⊢; exact hy
        · rw [if_neg c] at hy ⊢; exact hy
      · rw [f_X10_askings_4, rs_f h.1, rs_0 h.1, bnd_e, rs_fa h.1, rs_c0 h.1, cl0, h.N hN, if_neg (nI_ge (by omega) (by omega)), h.get0 (by omega), obd_s]
        simp only [bnd_e, nI_1]
        by_cases c : xR S 0 i = 1
        · rw [if_pos c] at hy ⊢; exact hy
        · rw [if_neg c] at hy ⊢; exact hy
    obtain ⟨y, h1, h2⟩ := ih (i + 1) n (if xR S 0 i = q then x ||| ((1 : Int32) <<< (nI i &&& 31)) else x ||| 0) (by omega) (by omega) (fun w hw => by
      by_cases c : xR S 0 i = q
      · rw [if_pos c, bt_or1 _ (by omega) hw, hx w hw]
        by_cases c2 : w = i
        · subst c2; simp [c]
        · have : (w < i + 1) = (w < i) := by apply propext; omega
          simp [c2, this]
      · rw [if_neg c, or_0, hx w hw]
        by_cases c2 : w = i
        · subst c2; simp [c]
        · have : (w < i + 1) = (w < i) := by apply propext; omega
          simp [this])
    exact ⟨y, step _ h1, h2⟩
theorem RV.insd {M : Mem} {tw : Bool} {t : Int32} {S : St} {pb pt : List Row4} (h : RV M tw t S pb pt) {N : Nat} (hN : xR S 20 0 = nI N) (h16 : N ≤ 16) {n : Nat} (hn : 40 ≤ n) : ∃ y, f_X10_insides n 120 M = some y ∧ ∀ w, w < 32 → bt y w = decide (w < N ∧ xR S 0 w = 2) := by
  rw [f_X10_insides]
  exact ins_l h hN h16 2 f_X10_insides_4 (Or.inl ⟨rfl, rfl⟩) N 0 n 0 (by omega) (by omega) (fun w hw => by rw [b_0]; simp)
theorem RV.askg {M : Mem} {tw : Bool} {t : Int32} {S : St} {pb pt : List Row4} (h : RV M tw t S pb pt) {N : Nat} (hN : xR S 20 0 = nI N) (h16 : N ≤ 16) {n : Nat} (hn : 40 ≤ n) : ∃ y, f_X10_askings n 120 M = some y ∧ ∀ w, w < 32 → bt y w = decide (w < N ∧ xR S 0 w = 1) := by
  rw [f_X10_askings]
  exact ins_l h hN h16 1 f_X10_askings_4 (Or.inr ⟨rfl, rfl⟩) N 0 n 0 (by omega) (by omega) (fun w hw => by rw [b_0]; simp)
/-- how many are inside -/
def pcI (N : Nat) (S : St) : Nat := ((List.range 32).filter fun w => decide (w < N ∧ xR S 0 w = 2)).length
theorem pc_mask {N : Nat} {S : St} {y : Int32} (h : ∀ w, w < 32 → bt y w = decide (w < N ∧ xR S 0 w = 2)) : pc y = pcI N S := by
  unfold pc pcI
  congr 1
  apply List.filter_congr
  intro i hi
  exact h i (List.mem_range.mp hi)
