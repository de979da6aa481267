/-! ===== questions, the reference: each answers ===== -/
theorem has10_ex (x : Int32) {v : Nat} (hv : v < 32) (M : Mem) : ∃ r, f_X10_has x (nI v) M = some r := ⟨_, f_has10 x hv M⟩
theorem isIn_ex (a b c : Int32) (M : Mem) : f_X10_isIn a b c M = some 0 ∨ (f_X10_isIn a b c M = some 1 ∧ ¬ a < b ∧ ¬ c < a) := by
  rw [f_X10_isIn]
  by_cases h1 : a < b
  · exact Or.inl (if_pos h1)
  · by_cases h2 : c < a
    · exact Or.inl (by rw [if_neg h1, if_pos h2])
    · exact Or.inr ⟨by rw [if_neg h1, if_neg h2], h1, h2⟩
section
variable {M : Mem} {N : Nat} {tw : Bool} {t : Int32} {S : St} {pb pt : List Row4}
/-- the test at a loop's head -/
theorem RV.hd (r : RV M tw t S pb pt) (hN : xR S 20 0 = nI N) {α : Type} (f : Int32 → Option α) : (chk (isO M 10 120) <| bnd (mR M 120 0) fun o2 => chk (isO M 100 o2) <| chk (inB (0 : Int32) (mLn M o2)) <| f (mI M o2 ((0 : Int32)).toNatClampNeg)) = f (nI N) := by
  rw [rs_f r.1, rs_0 r.1, bnd_e, rs_fa r.1, rs_c0 r.1, cl0, r.N hN]
theorem rld_l (r : RV M tw t S pb pt) (hN : xR S 20 0 = nI N) (h16 : N ≤ 16) {k : Nat} (hk : k < 32) : ∀ (d i n : Nat) (c : Int32), i + d = N → d + 1 ≤ n → ∃ x, f_X10_load_14 M n 120 (nI k) c (nI i) = some x := by
  intro d
  induction d with
  | zero =>
    intro i n c hi hn
    obtain ⟨n, rfl⟩ : ∃ m, n = m + 1 := ⟨n - 1, by omega⟩
    exact ⟨c, by rw [f_X10_load_14, rs_f r.1, rs_0 r.1, bnd_e, rs_fa r.1, rs_c0 r.1, cl0, r.N hN, if_pos (nI_le (by omega) (by omega))]⟩
  | succ d ih =>
    intro i n c hi hn
    obtain ⟨n, rfl⟩ : ∃ m, n = m + 1 := ⟨n - 1, by omega⟩
    obtain ⟨z, e⟩ := has10_ex (xR S 17 i) hk M
    rw [f_X10_load_14, rs_f r.1, rs_0 r.1, bnd_e, rs_fa r.1, rs_c0 r.1, cl0, r.N hN, if_neg (nI_ge (by omega) (by omega)), r.base (by omega), obd_s, e, obd_s]
    split
    · rw [bnd_e, bnd_e, nI_1]; exact ih (i + 1) n _ (by omega) (by omega)
    · rw [bnd_e, bnd_e, nI_1]; exact ih (i + 1) n _ (by omega) (by omega)
theorem RV.r11 (r : RV M tw t S pb pt) (hN : xR S 20 0 = nI N) (h2 : 2 ≤ N) (h16 : N ≤ 16) (a : Int32) {n : Nat} (hn : 100 ≤ n) : ∃ x, f_X10_load n 120 a M = some x := by
  rcases out_in (N := N) (by omega) a with ha | ⟨k, hk, rfl⟩
  · exact ⟨-1, by rw [f_X10_load, rs_f r.1, ndr0 r hN (by omega) h16 ha, obd_s, if_pos rfl]⟩
  · obtain ⟨x, e⟩ := rld_l r hN h16 (k := k) (by omega) N 0 n 0 (by omega) (by omega)
    exact ⟨x, by rw [f_X10_load, rs_f r.1, ndr r hN hk h16, obd_s, if_neg ne10]; exact e⟩
theorem RV.mny (r : RV M tw t S pb pt) (hB : BI N S) (h16 : N ≤ 16) {v : Nat} (hv : v < N) {n : Nat} (hn : 40 ≤ n) : ∃ x, f_X10_many n (xR S 17 v) M = some x :=
  ⟨_, f_many (fun i a b => hB v hv i (by omega) b) hn M⟩
theorem rfa_l (r : RV M tw t S pb pt) (hN : xR S 20 0 = nI N) (h2 : 2 ≤ N) (h16 : N ≤ 16) (hB : BI N S) : ∀ (d i n : Nat), i + d = N → d + 101 ≤ n → ∃ x, f_X10_fair_2 M n 120 (nI i) = some x := by
  intro d
  induction d with
  | zero =>
    intro i n hi hn
    obtain ⟨n, rfl⟩ : ∃ m, n = m + 1 := ⟨n - 1, by omega⟩
    exact ⟨1, by rw [f_X10_fair_2, rs_f r.1, rs_0 r.1, bnd_e, rs_fa r.1, rs_c0 r.1, cl0, r.N hN, if_pos (nI_le (by omega) (by omega))]⟩
  | succ d ih =>
    intro i n hi hn
    obtain ⟨n, rfl⟩ : ∃ m, n = m + 1 := ⟨n - 1, by omega⟩
    obtain ⟨x1, e1⟩ := r.mny hB h16 (v := i) (by omega) (n := n) (by omega)
    obtain ⟨x2, e2⟩ := r.mny hB h16 (v := 0) (by omega) (n := n) (by omega)
    obtain ⟨x3, e3⟩ := r.r11 hN h2 h16 (nI i) (n := n) (by omega)
    obtain ⟨x4, e4⟩ := r.r11 hN h2 h16 0 (n := n) (by omega)
    have b0 : f_X10_baseOf 120 (0 : Int32) M = some (xR S 17 0) := r.base (v := 0) (by decide)
    rw [f_X10_fair_2, rs_f r.1, rs_0 r.1, bnd_e, rs_fa r.1, rs_c0 r.1, cl0, r.N hN, if_neg (nI_ge (by omega) (by omega)), r.base (by omega), obd_s, e1, obd_s, b0, obd_s, e2, obd_s]
    split
    · rw [e3, obd_s, e4, obd_s]
      split
      · rw [bnd_e, nI_1]; exact ih (i + 1) n (by omega) (by omega)
      · exact ⟨_, rfl⟩
    · exact ⟨_, rfl⟩
theorem rsz_l (r : RV M tw t S pb pt) (hN : xR S 20 0 = nI N) (h16 : N ≤ 16) (hB : BI N S) (a : Int32) : ∀ (d i n : Nat) (x y c : Int32), i + d = N → (∀ j, 31 ≤ j → j < 32 → bt c j = false) → d + 60 ≤ n → ∃ z, f_X10_sizes_25 M n 120 a x y c (nI i) = some z := by
  intro d
  induction d with
  | zero =>
    intro i n x y c hi hc hn
    obtain ⟨n, rfl⟩ : ∃ m, n = m + 1 := ⟨n - 1, by omega⟩
    rw [f_X10_sizes_25, rs_f r.1, rs_0 r.1, bnd_e, rs_fa r.1, rs_c0 r.1, cl0, r.N hN, if_pos (nI_le (by omega) (by omega))]
    split
    · exact ⟨_, rfl⟩
    · split
      · exact ⟨_, rfl⟩
      · exact ⟨_, by rw [f_many hc (by omega) M, obd_s]⟩
  | succ d ih =>
    intro i n x y c hi hc hn
    obtain ⟨n, rfl⟩ : ∃ m, n = m + 1 := ⟨n - 1, by omega⟩
    obtain ⟨x1, e1⟩ := r.mny hB h16 (v := i) (by omega) (n := n) (by omega)
    have b := r.base (v := i) (by omega)
    have nx := fun x y => ih (i + 1) n x y (c &&& xR S 17 i) (by omega) (fun j a b => by rw [b_and, hc j a b, Bool.false_and]) (by omega)
    have e89 : ∀ x y, ∃ z, f_X10_sizes_89 (f_X10_sizes_25 M n) M n 120 a x c (nI i) y = some z := fun x y => by
      rw [f_X10_sizes_89, rs_f r.1, b, obd_s, bnd_e, bnd_e, nI_1]; exact nx x y
    have e62 : ∀ x, ∃ z, f_X10_sizes_62 (f_X10_sizes_25 M n) M n 120 a y c (nI i) x = some z := fun x => by
      rw [f_X10_sizes_62, rs_f r.1, b, obd_s, e1, obd_s]
      split
      · exact e89 _ _
      · rw [obd_s, e1, obd_s]; exact e89 _ _
    rw [f_X10_sizes_25, rs_f r.1, rs_0 r.1, bnd_e, rs_fa r.1, rs_c0 r.1, cl0, r.N hN, if_neg (nI_ge (by omega) (by omega)), b, obd_s, e1, obd_s]
    split
    · exact e62 _
    · rw [obd_s, e1, obd_s]; exact e62 _
theorem rnl_l (r : RV M tw t S pb pt) (hN : xR S 20 0 = nI N) (h16 : N ≤ 16) {k : Nat} (hk : k < N) : ∀ (d i n : Nat), i + d = N → d + 1 ≤ n → ∃ x, f_X10_isNeedless_2 M n 120 (nI k) (nI i) = some x := by
  intro d
  induction d with
  | zero =>
    intro i n hi hn
    obtain ⟨n, rfl⟩ : ∃ m, n = m + 1 := ⟨n - 1, by omega⟩
    exact ⟨0, by rw [f_X10_isNeedless_2, rs_f r.1, rs_0 r.1, bnd_e, rs_fa r.1, rs_c0 r.1, cl0, r.N hN, if_pos (nI_le (by omega) (by omega))]⟩
  | succ d ih =>
    intro i n hi hn
    obtain ⟨n, rfl⟩ : ∃ m, n = m + 1 := ⟨n - 1, by omega⟩
    have nx := ih (i + 1) n (by omega) (by omega)
    rw [f_X10_isNeedless_2, rs_f r.1, rs_0 r.1, bnd_e, rs_fa r.1, rs_c0 r.1, cl0, r.N hN, if_neg (nI_ge (by omega) (by omega)), r.base (v := i) (by omega), obd_s, r.base (v := k) (by omega), obd_s, bnd_e, nI_1]
    simp only [obd_s]
    split
    · exact nx
    · split
      · split
        · split
          · exact nx
          · exact ⟨_, rfl⟩
        · exact ⟨_, rfl⟩
      · exact nx
theorem rnc_l (r : RV M tw t S pb pt) (hN : xR S 20 0 = nI N) (h16 : N ≤ 16) : ∀ (d i n : Nat) (c : Int32), i + d = N → d + 21 ≤ n → ∃ x, f_X10_needless_4 M n 120 c (nI i) = some x := by
  intro d
  induction d with
  | zero =>
    intro i n c hi hn
    obtain ⟨n, rfl⟩ : ∃ m, n = m + 1 := ⟨n - 1, by omega⟩
    exact ⟨c, by rw [f_X10_needless_4, rs_f r.1, rs_0 r.1, bnd_e, rs_fa r.1, rs_c0 r.1, cl0, r.N hN, if_pos (nI_le (by omega) (by omega))]⟩
  | succ d ih =>
    intro i n c hi hn
    obtain ⟨n, rfl⟩ : ∃ m, n = m + 1 := ⟨n - 1, by omega⟩
    obtain ⟨z, e⟩ := rnl_l r hN h16 (k := i) (by omega) N 0 n (by omega) (by omega)
    rw [f_X10_needless_4, rs_f r.1, rs_0 r.1, bnd_e, rs_fa r.1, rs_c0 r.1, cl0, r.N hN, if_neg (nI_ge (by omega) (by omega)), f_X10_isNeedless, show f_X10_isNeedless_2 M n 120 (nI i) 0 = some z from e, obd_s]
    split
    · rw [bnd_e, bnd_e, nI_1]; exact ih (i + 1) n _ (by omega) (by omega)
    · rw [bnd_e, bnd_e, nI_1]; exact ih (i + 1) n _ (by omega) (by omega)
theorem RV.r14 (r : RV M tw t S pb pt) (hN : xR S 20 0 = nI N) (h16 : N ≤ 16) {n : Nat} (hn : 100 ≤ n) : ∃ x, f_X10_needless n 120 M = some x :=
  rnc_l r hN h16 N 0 n 0 (by omega) (by omega)
theorem RV.r17 (r : RV M tw t S pb pt) (hN : xR S 20 0 = nI N) (h16 : N ≤ 16) (hB : BI N S) (a : Int32) {n : Nat} (hn : 100 ≤ n) : ∃ x, f_X10_sizes n 120 a M = some x := by
  rw [f_X10_sizes]
  rcases isIn_ex a 0 2 M with e | ⟨e, _⟩
  · exact ⟨_, by rw [e, obd_s, if_pos rfl]⟩
  · rw [e, obd_s, if_neg ne10, rs_f r.1, f_X10_all, rs_f r.1, rs_0 r.1, bnd_e, rs_fa r.1, rs_c0 r.1, cl0, r.N hN, obd_s]
    exact rsz_l r hN h16 hB a N 0 n _ _ _ (by omega) (fun j a b => by rw [all_b h16 b, decide_eq_false (by omega)]) (by omega)
theorem RV.r19 (r : RV M tw t S pb pt) (hN : xR S 20 0 = nI N) (h2 : 2 ≤ N) (h16 : N ≤ 16) (hB : BI N S) {n : Nat} (hn : 200 ≤ n) : ∃ x, f_X10_fair n 120 M = some x :=
  rfa_l r hN h2 h16 hB (N - 1) 1 n (by omega) (by omega)
theorem fst_l {x : Int32} {k : Nat} (hk : k < 32) (hx : bt x k = true) (M : Mem) : ∀ (d i n : Nat), i + d = k → d + 1 ≤ n → ∃ z, f_X10_first_2 M n x (nI i) = some z := by
  intro d
  induction d with
  | zero =>
    intro i n hi hn
    obtain ⟨n, rfl⟩ : ∃ m, n = m + 1 := ⟨n - 1, by omega⟩
    have : i = k := by omega
    subst this
    exact ⟨nI i, by rw [f_X10_first_2, f_has10 _ hk, obd_s, if_pos hx, if_neg ne10]⟩
  | succ d ih =>
    intro i n hi hn
    obtain ⟨n, rfl⟩ : ∃ m, n = m + 1 := ⟨n - 1, by omega⟩
    obtain ⟨z, e⟩ := has10_ex x (v := i) (by omega) M
    rw [f_X10_first_2, e, obd_s]
    split
    · rw [bnd_e, nI_1]; exact ih (i + 1) n (by omega) (by omega)
    · exact ⟨_, rfl⟩
theorem RV.r9 (r : RV M tw t S pb pt) (hN : xR S 20 0 = nI N) (h2 : 2 ≤ N) (h16 : N ≤ 16) (a b : Int32) {n : Nat} (hn : 100 ≤ n) : ∃ x, f_X10_meeting n 120 a b M = some x := by
  rcases out_in (N := N) (by omega) a with ha | ⟨k, hk, rfl⟩
  · exact ⟨-1, by rw [f_X10_meeting, rs_f r.1, ndr0 r hN (by omega) h16 ha, obd_s, if_pos rfl]⟩
  · rcases out_in (N := N) (by omega) b with hb | ⟨m, hm, rfl⟩
    · exact ⟨-1, by rw [f_X10_meeting, rs_f r.1, ndr r hN hk h16, obd_s, if_neg ne10, ndr0 r hN (by omega) h16 hb, obd_s, if_pos rfl]⟩
    · rw [f_X10_meeting, rs_f r.1, ndr r hN hk h16, obd_s, if_neg ne10, ndr r hN hm h16, obd_s, if_neg ne10, r.base (by omega), obd_s, r.base (by omega), obd_s, bnd_e]
      by_cases z : xR S 17 k &&& xR S 17 m = 0
      · exact ⟨_, if_pos z⟩
      · rw [if_neg z]
        obtain ⟨j, hj, bj⟩ : ∃ j, j < 32 ∧ bt (xR S 17 k &&& xR S 17 m) j = true := by
          apply Classical.byContradiction
          intro c
          apply z
          rw [bt_z]
          intro i hi
          cases q : bt (xR S 17 k &&& xR S 17 m) i with
          | false => rfl
          | true => exact absurd ⟨i, hi, q⟩ c
        obtain ⟨x, e⟩ := fst_l hj bj M j 0 n (by omega) (by omega)
        exact ⟨x, by rw [f_X10_first, show f_X10_first_2 M n (xR S 17 k &&& xR S 17 m) 0 = some x from e, obd_s]⟩
theorem RV.r27 (r : RV M tw t S pb pt) (hN : xR S 20 0 = nI N) (h2 : 2 ≤ N) (h16 : N ≤ 16) (a b : Int32) : ∃ x, f_X10_node 120 a b M = some x := by
  rcases out_in (N := N) (by omega) a with ha | ⟨k, hk, rfl⟩
  · exact ⟨-1, by rw [f_X10_node, rs_f r.1, ndr0 r hN (by omega) h16 ha, obd_s, if_pos rfl]⟩
  · have k6 : k < 16 := by omega
    have c0 : f_X10_countOf 120 (nI k) (0 : Int32) M = some (xR S (12 + 0) k) := r.cnt k6 (w := 0) (by decide)
    rw [f_X10_node, rs_f r.1, ndr r hN hk h16, obd_s, if_neg ne10, r.get0 k6, obd_s, r.get1 k6, obd_s, r.get2 k6, obd_s, r.get4 k6, obd_s, r.get5 k6, obd_s, r.get6 k6, obd_s, r.get7 k6, obd_s, c0, obd_s]
    repeat' split
    all_goals exact ⟨_, rfl⟩
theorem RV.r28 (r : RV M tw t S pb pt) (hN : xR S 20 0 = nI N) (h2 : 2 ≤ N) (h16 : N ≤ 16) (a b : Int32) : ∃ x, f_X10_arbiter 120 a b M = some x := by
  rcases out_in (N := N) (by omega) a with ha | ⟨k, hk, rfl⟩
  · exact ⟨-1, by rw [f_X10_arbiter, rs_f r.1, ndr0 r hN (by omega) h16 ha, obd_s, if_pos rfl]⟩
  · have k6 : k < 16 := by omega
    rw [f_X10_arbiter, rs_f r.1, ndr r hN hk h16, obd_s, if_neg ne10, r.of0 k6, obd_s, obd_s, r.of1 k6, obd_s, r.of2 k6, obd_s, r.of3 k6, obd_s]
    repeat' split
    all_goals exact ⟨_, rfl⟩
theorem RV.r32 (r : RV M tw t S pb pt) (hN : xR S 20 0 = nI N) (h2 : 2 ≤ N) (h16 : N ≤ 16) (a : Int32) : ∃ x, f_X10_handled 120 a M = some x := by
  rcases out_in (N := N) (by omega) a with ha | ⟨k, hk, rfl⟩
  · exact ⟨-1, by rw [f_X10_handled, rs_f r.1, ndr0 r hN (by omega) h16 ha, obd_s, if_pos rfl]⟩
  · exact ⟨_, by rw [f_X10_handled, rs_f r.1, ndr r hN hk h16, obd_s, if_neg ne10, rs_0 r.1, bnd_e, rs_fa r.1, show (10193 : Int32) + nI k = nI (10193 + k) by rw [show (10193 : Int32) = nI 10193 from rfl, nI_add], rs_c r.1 (by omega)]⟩
theorem RV.r36 (r : RV M tw t S pb pt) (hN : xR S 20 0 = nI N) (h2 : 2 ≤ N) (h16 : N ≤ 16) (a : Int32) : ∃ x, f_X10_unheard 120 a M = some x := by
  rcases out_in (N := N) (by omega) a with ha | ⟨k, hk, rfl⟩
  · exact ⟨-1, by rw [f_X10_unheard, rs_f r.1, ndr0 r hN (by omega) h16 ha, obd_s, if_pos rfl]⟩
  · have k6 : k < 16 := by omega
    rw [f_X10_unheard, rs_f r.1, ndr r hN hk h16, obd_s, if_neg ne10, r.get0 k6, obd_s, r.get3 k6, obd_s, r.get4 k6, obd_s, r.get6 k6, obd_s]
    split
    · exact ⟨_, rfl⟩
    · exact ⟨_, rfl⟩
theorem rsa_l (q : RS M) : ∀ (d i n : Nat) (c : Int32), i + d = 6 → d + 1 ≤ n → ∃ x, f_X10_sentAll_4 M n 120 c (nI i) = some x := by
  intro d
  induction d with
  | zero =>
    intro i n c hi hn
    obtain ⟨n, rfl⟩ : ∃ m, n = m + 1 := ⟨n - 1, by omega⟩
    exact ⟨c, by rw [f_X10_sentAll_4, if_pos (show (6 : Int32) ≤ nI i from nI_le (a := 6) (by omega) (by omega))]⟩
  | succ d ih =>
    intro i n c hi hn
    obtain ⟨n, rfl⟩ : ∃ m, n = m + 1 := ⟨n - 1, by omega⟩
    rw [f_X10_sentAll_4, if_neg (show ¬ (6 : Int32) ≤ nI i from nI_ge (b := 6) (by omega) (by decide)), rs_f q, rs_0 q, bnd_e, rs_fa q, show (9859 : Int32) + nI i = nI (9859 + i) by rw [show (9859 : Int32) = nI 9859 from rfl, nI_add], rs_c q (by omega), bnd_e, bnd_e, nI_1]
    exact ih (i + 1) n _ (by omega) (by omega)
theorem RV.r33 (r : RV M tw t S pb pt) (a : Int32) {n : Nat} (hn : 100 ≤ n) : ∃ x, f_X10_sent n 120 a M = some x := by
  obtain ⟨z, e⟩ := rsa_l r.1 6 0 n 0 rfl (by omega)
  rw [f_X10_sent]
  split
  · exact ⟨z, by rw [rs_f r.1, f_X10_sentAll, show f_X10_sentAll_4 M n 120 0 0 = some z from e, obd_s]⟩
  · rcases out_in (N := 6) (by decide) a with ha | ⟨k, hk, rfl⟩
    · exact ⟨_, by rw [show f_X10_isIn a (0 : Int32) (5 : Int32) M = some 0 by
        rw [f_X10_isIn]
        by_cases c : a < 0
        · rw [if_pos c]
        · rw [if_neg c, if_pos (show (5 : Int32) < a from gt3 (N := 5) (by decide) (ha.resolve_left c))], obd_s, if_pos rfl]⟩
    · exact ⟨_, by rw [show f_X10_isIn (nI k) (0 : Int32) (5 : Int32) M = some 1 from f_isI (b := 5) M (by omega) (by decide), obd_s, if_neg ne10, rs_f r.1, rs_0 r.1, bnd_e, rs_fa r.1, show (9859 : Int32) + nI k = nI (9859 + k) by rw [show (9859 : Int32) = nI 9859 from rfl, nI_add], rs_c r.1 (by omega)]⟩
end
