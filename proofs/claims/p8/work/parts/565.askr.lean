/-! ===== questions, the reference: each answers ===== -/
theorem has10_ex (x : Int32) {v : Nat} (hv : v < 32) (M : Mem) : ∃ r, f_X10_has x (nI v) M = some r := ⟨_, f_has10 x hv M⟩
theorem isIn_ex (a b c : Int32) (M : Mem) : f_X10_isIn a b c M = some 0 ∨ (f_X10_isIn a b c M = some 1 ∧ ¬ a < b ∧ ¬ c < a) := by
  rw [f_X10_isIn]
  by_cases h1 : a < b
  · exact Or.inl (if_pos h1)
  · by_cases h2 : c < a
    · exact Or.inl (by rw [if_neg h1, if_pos h2])
    · exact Or.inr ⟨by rw [if_neg h1, if_neg h2], h1, h2⟩
section
variable {M : Mem} {N : Nat} {tw : Bool} {t : Int32} {S : St} {pb pt : List Row4}
/-- the test at a loop's head -/
theorem RV.hd (r : RV M tw t S pb pt) (hN : xR S 20 0 = nI N) {α : Type} (f : Int32 → Option α) : (chk (isO M 10 120) <| bnd (mR M 120 0) fun o2 => chk (isO M 100 o2) <| chk (inB (0 : Int32) (mLn M o2)) <| f (mI M o2 ((0 : Int32)).toNatClampNeg)) = f (nI N) := by
  rw [rs_f r.1, rs_0 r.1, bnd_e, rs_fa r.1, rs_c0 r.1, cl0, r.N hN]
theorem rld_l (r : RV M tw t S pb pt) (hN : xR S 20 0 = nI N) (h16 : N ≤ 16) {k : Nat} (hk : k < 32) : ∀ (d i n : Nat) (c : Int32), i + d = N → d + 1 ≤ n → ∃ x, f_X10_load_14 M n 120 (nI k) c (nI i) = some x := by
  intro d
  induction d with
  | zero =>
    intro i n c hi hn
    obtain ⟨n, rfl⟩ : ∃ m, n = m + 1 := ⟨n - 1, by omega⟩
    exact ⟨c, by rw [f_X10_load_14, rs_f r.1, rs_0 r.1, bnd_e, rs_fa r.1, rs_c0 r.1, cl0, r.N hN, if_pos (nI_le (by omega) (by omega))]⟩
  | succ d ih =>
    intro i n c hi hn
    obtain ⟨n, rfl⟩ : ∃ m, n = m + 1 := ⟨n - 1, by omega⟩
    obtain ⟨z, e⟩ := has10_ex (xR S 17 i) hk M
    rw [f_X10_load_14, rs_f r.1, rs_0 r.1, bnd_e, rs_fa r.1, rs_c0 r.1, cl0, r.N hN, if_neg (nI_ge (by omega) (by omega)), r.base (by omega), obd_s, e, obd_s]
    split
    · rw [bnd_e, bnd_e, nI_1]; exact ih (i + 1) n _ (by omega) (by omega)
    · rw [bnd_e, bnd_e, nI_1]; exact ih (i + 1) n _ (by omega) (by omega)
theorem RV.r11 (r : RV M tw t S pb pt) (hN : xR S 20 0 = nI N) (h2 : 2 ≤ N) (h16 : N ≤ 16) (a : Int32) {n : Nat} (hn : 100 ≤ n) : ∃ x, f_X10_load n 120 a M = some x := by
  rcases out_in (N := N) (by omega) a with ha | ⟨k, hk, rfl⟩
  · exact ⟨-1, by rw [f_X10_load, rs_f r.1, ndr0 r hN (by omega) h16 ha, obd_s, if_pos rfl]⟩
  · obtain ⟨x, e⟩ := rld_l r hN h16 (k := k) (by omega) N 0 n 0 (by omega) (by omega)
    exact ⟨x, by rw [f_X10_load, rs_f r.1, ndr r hN hk h16, obd_s, if_neg ne10]; exact e⟩
theorem RV.mny (r : RV M tw t S pb pt) (hB : BI N S) (h16 : N ≤ 16) {v : Nat} (hv : v < N) {n : Nat} (hn : 40 ≤ n) : ∃ x, f_X10_many n (xR S 17 v) M = some x :=
  ⟨_, f_many (fun i a b => hB v hv i (by omega) b) hn M⟩
theorem rfa_l (r : RV M tw t S pb pt) (hN : xR S 20 0 = nI N) (h2 : 2 ≤ N) (h16 : N ≤ 16) (hB : BI N S) : ∀ (d i n : Nat), i + d = N → d + 101 ≤ n → ∃ x, f_X10_fair_2 M n 120 (nI i) = some x := by
  intro d
  induction d with
  | zero =>
    intro i n hi hn
    obtain ⟨n, rfl⟩ : ∃ m, n = m + 1 := ⟨n - 1, by omega⟩
    exact ⟨1, by rw [f_X10_fair_2, rs_f r.1, rs_0 r.1, bnd_e, rs_fa r.1, rs_c0 r.1, cl0, r.N hN, if_pos (nI_le (by omega) (by omega))]⟩
  | succ d ih =>
    intro i n hi hn
    obtain ⟨n, rfl⟩ : ∃ m, n = m + 1 := ⟨n - 1, by omega⟩
    obtain ⟨x1, e1⟩ := r.mny hB h16 (v := i) (by omega) (n := n) (by omega)
    obtain ⟨x2, e2⟩ := r.mny hB h16 (v := 0) (by omega) (n := n) (by omega)
    obtain ⟨x3, e3⟩ := r.r11 hN h2 h16 (nI i) (n := n) (by omega)
    obtain ⟨x4, e4⟩ := r.r11 hN h2 h16 0 (n := n) (by omega)
    have b0 : f_X10_baseOf 120 (0 : Int32) M = some (xR S 17 0) := r.base (v := 0) (by decide)
    rw [f_X10_fair_2, rs_f r.1, rs_0 r.1, bnd_e, rs_fa r.1, rs_c0 r.1, cl0, r.N hN, if_neg (nI_ge (by omega) (by omega)), r.base (by omega), obd_s, e1, obd_s, b0, obd_s, e2, obd_s]
    split
    · rw [e3, obd_s, e4, obd_s]
      split
      · rw [bnd_e, nI_1]; exact ih (i + 1) n (by omega) (by omega)
      · exact ⟨_, rfl⟩
    · exact ⟨_, rfl⟩
theorem rsz_l (r : RV M tw t S pb pt) (hN : xR S 20 0 = nI N) (h16 : N ≤ 16) (hB : BI N S) (a : Int32) : ∀ (d i n : Nat) (x y c : Int32), i + d = N → (∀ j, 31 ≤ j → j < 32 → bt c j = false) → d + 60 ≤ n → ∃ z, f_X10_sizes_25 M n 120 a x y c (nI i) = some z := by
  intro d
  induction d with
  | zero =>
    intro i n x y c hi hc hn
    obtain ⟨n, rfl⟩ : ∃ m, n = m + 1 := ⟨n - 1, by omega⟩
    rw [f_X10_sizes_25, rs_f r.1, rs_0 r.1, bnd_e, rs_fa r.1, rs_c0 r.1, cl0, r.N hN, if_pos (nI_le (by omega) (by omega))]
    split
    · exact ⟨_, rfl⟩
    · split
      · exact ⟨_, rfl⟩
      · exact ⟨_, by rw [f_many hc (by omega) M, obd_s]⟩
  | succ d ih =>
    intro i n x y c hi hc hn
    obtain ⟨n, rfl⟩ : ∃ m, n = m + 1 := ⟨n - 1, by omega⟩
    obtain ⟨x1, e1⟩ := r.mny hB h16 (v := i) (by omega) (n := n) (by omega)
    have b := r.base (v := i) (by omega)
    have nx := fun x y => ih (i + 1) n x y (c &&& xR S 17 i) (by omega) (fun j a b => by rw [b_and, hc j a b, Bool.false_and]) (by omega)
    have e89 : ∀ x y, ∃ z, f_X10_sizes_89 (f_X10_sizes_25 M n) M n 120 a x c (nI i) y = some z := fun x y => by
      rw [f_X10_sizes_89, rs_f r.1, b, obd_s, bnd_e, bnd_e, nI_1]; exact nx x y
    have e62 : ∀ x, ∃ z, f_X10_sizes_62 (f_X10_sizes_25 M n) M n 120 a y c (nI i) x = some z := fun x => by
      rw [f_X10_sizes_62, rs_f r.1, b, obd_s, e1, obd_s]
      split
      · exact e89 _ _
      · rw [obd_s, e1, obd_s]; exact e89 _ _
    rw [f_X10_sizes_25, rs_f r.1, rs_0 r.1, bnd_e, rs_fa r.1, rs_c0 r.1, cl0, r.N hN, if_neg (nI_ge (by omega) (by omega)), b, obd_s, e1, obd_s]
    split
    · exact e62 _
    · rw [obd_s, e1, obd_s]; exact e62 _
theorem rnl_l (r : RV M tw t S pb pt) (hN : xR S 20 0 = nI N) (h16 : N ≤ 16) {k : Nat} (hk : k < N) : ∀ (d i n : Nat), i + d = N → d + 1 ≤ n → ∃ x, f_X10_isNeedless_2 M n 120 (nI k) (nI i) = some x := by
  intro d
  induction d with
  | zero =>
    intro i n hi hn
    obtain ⟨n, rfl⟩ : ∃ m, n = m + 1 := ⟨n - 1, by omega⟩
    exact ⟨0, by rw [f_X10_isNeedless_2, rs_f r.1, rs_0 r.1, bnd_e, rs_fa r.1, rs_c0 r.1, cl0, r.N hN, if_pos (nI_le (by omega) (by omega))]⟩
  | succ d ih =>
    intro i n hi hn
    obtain ⟨n, rfl⟩ : ∃ m, n = m + 1 := ⟨n - 1, by omega⟩
    have nx := ih (i + 1) n (by omega) (by omega)
    rw [f_X10_isNeedless_2, rs_f r.1, rs_0 r.1, bnd_e, rs_fa r.1, rs_c0 r.1, cl0, r.N hN, if_neg (nI_ge (by omega) (by omega)), r.base (v := i) (by omega), obd_s, r.base (v := k) (by omega), obd_s, bnd_e, nI_1]
    simp only [obd_s]
    split
    · exact nx
    · split
      · split
        · split
          · exact nx
          · exact ⟨_, rfl⟩
        · exact ⟨_, rfl⟩
      · exact nx
theorem rnc_l (r : RV M tw t S pb pt) (hN : xR S 20 0 = nI N) (h16 : N ≤ 16) : ∀ (d i n : Nat) (c : Int32), i + d = N → d + 21 ≤ n → ∃ x, f_X10_needless_4 M n 120 c (nI i) = some x := by
  intro d
  induction d with
  | zero =>
    intro i n c hi hn
    obtain ⟨n, rfl⟩ : ∃ m, n = m + 1 := ⟨n - 1, by omega⟩
    exact ⟨c, by rw [f_X10_needless_4, rs_f r.1, rs_0 r.1, bnd_e, rs_fa r.1, rs_c0 r.1, cl0, r.N hN, if_pos (nI_le (by omega) (by omega))]⟩
  | succ d ih =>
    intro i n c hi hn
    obtain ⟨n, rfl⟩ : ∃ m, n = m + 1 := ⟨n - 1, by omega⟩
    obtain ⟨z, e⟩ := rnl_l r hN h16 (k := i) (by omega) N 0 n (by omega) (by omega)
    rw [f_X10_needless_4, rs_f r.1, rs_0 r.1, bnd_e, rs_fa r.1, rs_c0 r.1, cl0, r.N hN, if_neg (nI_ge (by omega) (by omega)), f_X10_isNeedless, show f_X10_isNeedless_2 M n 120 (nI i) 0 = some z from e, obd_s]
    split
    · rw [bnd_e, bnd_e, nI_1]; exact ih (i + 1) n _ (by omega) (by omega)
    · rw [bnd_e, bnd_e, nI_1]; exact ih (i + 1) n _ (by omega) (by omega)
theorem RV.r14 (r : RV M tw t S pb pt) (hN : xR S 20 0 = nI N) (h16 : N ≤ 16) {n : Nat} (hn : 100 ≤ n) : ∃ x, f_X10_needless n 120 M = some x :=
  rnc_l r hN h16 N 0 n 0 (by omega) (by omega)
theorem RV.r17 (r : RV M tw t S pb pt) (hN : xR S 20 0 = nI N) (h16 : N ≤ 16) (hB : BI N S) (a : Int32) {n : Nat} (hn : 100 ≤ n) : ∃ x, f_X10_sizes n 120 a M = some x := by
  rw [f_X10_sizes]
  rcases isIn_ex a 0 2 M with e | ⟨e, _⟩
  · exact ⟨_, by rw [e, obd_s, if_pos rfl]⟩
  · rw [e, obd_s, if_neg ne10, rs_f r.1, f_X10_all, rs_f r.1, rs_0 r.1, bnd_e, rs_fa r.1, rs_c0 r.1, cl0, r.N hN, obd_s]
    exact rsz_l r hN h16 hB a N 0 n _ _ _ (by omega) (fun j a b => by rw [all_b h16 b, decide_eq_false (by omega)]) (by omega)
theorem RV.r19 (r : RV M tw t S pb pt) (hN : xR S 20 0 = nI N) (h2 : 2 ≤ N) (h16 : N ≤ 16) (hB : BI N S) {n : Nat} (hn : 200 ≤ n) : ∃ x, f_X10_fair n 120 M = some x :=
  rfa_l r hN h2 h16 hB (N - 1) 1 n (by omega) (by omega)
theorem fst_l {x : Int32} {k : Nat} (hk : k < 32) (hx : bt x k = true) (M : Mem) : ∀ (d i n : Nat), i + d = k → d + 1 ≤ n → ∃ z, f_X10_first_2 M n x (nI i) = some z := by
  intro d
  induction d with
  | zero =>
    intro i n hi hn
    obtain ⟨n, rfl⟩ : ∃ m, n = m + 1 := ⟨n - 1, by omega⟩
    have : i = k := by omega
    subst this
    exact ⟨nI i, by rw [f_X10_first_2, f_has10 _ hk, obd_s, if_pos hx, if_neg ne10]⟩
  | succ d ih =>
    intro i n hi hn
    obtain ⟨n, rfl⟩ : ∃ m, n = m + 1 := ⟨n - 1, by omega⟩
    obtain ⟨z, e⟩ := has10_ex x (v := i) (by omega) M
    rw [f_X10_first_2, e, obd_s]
    split
    · rw [bnd_e, nI_1]; exact ih (i + 1) n (by omega) (by omega)
    · exact ⟨_, rfl⟩
theorem RV.r9 (r : RV M tw t S pb pt) (hN : xR S 20 0 = nI N) (h2 : 2 ≤ N) (h16 : N ≤ 16) (a b : Int32) {n : Nat} (hn : 100 ≤ n) : ∃ x, f_X10_meeting n 120 a b M = some x := by
  rcases out_in (N := N) (by omega) a with ha | ⟨k, hk, rfl⟩
  · exact ⟨-1, by rw [f_X10_meeting, rs_f r.1, ndr0 r hN (by omega) h16 ha, obd_s, if_pos rfl]⟩
  · rcases out_in (N := N) (by omega) b with hb | ⟨m, hm, rfl⟩
    · exact ⟨-1, by rw [f_X10_meeting, rs_f r.1, ndr r hN hk h16, obd_s, if_neg ne10, ndr0 r hN (by omega) h16 hb, obd_s, if_pos rfl]⟩
    · rw [f_X10_meeting, rs_f r.1, ndr r hN hk h16, obd_s, if_neg ne10, ndr r hN hm h16, obd_s, if_neg ne10, r.base (by omega), obd_s, r.base (by omega), obd_s, bnd_e]
      by_cases z : xR S 17 k &&& xR S 17 m = 0
      · exact ⟨_, if_pos z⟩
      · rw [if_neg z]
        obtain ⟨j, hj, bj⟩ : ∃ j, j < 32 ∧ bt (xR S 17 k &&& xR S 17 m) j = true := by
          apply Classical.byContradiction
          intro c
          apply z
          rw [bt_z]
          intro i hi
          cases q : bt (xR S 17 k &&& xR S 17 m) i with
          | false => rfl
          | true => exact absurd ⟨i, hi, q⟩ c
        obtain ⟨x, e⟩ := fst_l hj bj M j 0 n (by omega) (by omega)
        exact ⟨x, by rw [f_X10_first, show f_X10_first_2 M n (xR S 17 k &&& xR S 17 m) 0 = some x from e, obd_s]⟩
theorem RV.r27 (r : RV M tw t S pb pt) (hN : xR S 20 0 = nI N) (h2 : 2 ≤ N) (h16 : N ≤ 16) (a b : Int32) : ∃ x, f_X10_node 120 a b M = some x := by
  rcases out_in (N := N) (by omega) a with ha | ⟨k, hk, rfl⟩
  · exact ⟨-1, by rw [f_X10_node, rs_f r.1, ndr0 r hN (by omega) h16 ha, obd_s, if_pos rfl]⟩
  · have k6 : k < 16 := by omega
    have c0 : f_X10_countOf 120 (nI k) (0 : Int32) M = some (xR S (12 + 0) k) := r.cnt k6 (w := 0) (by decide)
    rw [f_X10_node, rs_f r.1, ndr r hN hk h16, obd_s, if_neg ne10, r.get0 k6, obd_s, r.get1 k6, obd_s, r.get2 k6, obd_s, r.get4 k6, obd_s, r.get5 k6, obd_s, r.get6 k6, obd_s, r.get7 k6, obd_s, c0, obd_s]
    repeat' split
    all_goals exact ⟨_, rfl⟩
theorem RV.r28 (r : RV M tw t S pb pt) (hN : xR S 20 0 = nI N) (h2 : 2 ≤ N) (h16 : N ≤ 16) (a b : Int32) : ∃ x, f_X10_arbiter 120 a b M = some x := by
  rcases out_in (N := N) (by omega) a with ha | ⟨k, hk, rfl⟩
  · exact ⟨-1, by rw [f_X10_arbiter, rs_f r.1, ndr0 r hN (by omega) h16 ha, obd_s, if_pos rfl]⟩
  · have k6 : k < 16 := by omega
    rw [f_X10_arbiter, rs_f r.1, ndr r hN hk h16, obd_s, if_neg ne10, r.of0 k6, obd_s, obd_s, r.of1 k6, obd_s, r.of2 k6, obd_s, r.of3 k6, obd_s]
    repeat' split
    all_goals exact ⟨_, rfl⟩
theorem RV.r32 (r : RV M tw t S pb pt) (hN : xR S 20 0 = nI N) (h2 : 2 ≤ N) (h16 : N ≤ 16) (a : Int32) : ∃ x, f_X10_handled 120 a M = some x := by
  rcases out_in (N := N) (by omega) a with ha | ⟨k, hk, rfl⟩
  · exact ⟨-1, by rw [f_X10_handled, rs_f r.1, ndr0 r hN (by omega) h16 ha, obd_s, if_pos rfl]⟩
  · exact ⟨_, by rw [f_X10_handled, rs_f r.1, ndr r hN hk h16, obd_s, if_neg ne10, rs_0 r.1, bnd_e, rs_fa r.1, show (10193 : Int32) + nI k = nI (10193 + k) by rw [show (10193 : Int32) = nI 10193 from rfl, nI_add], rs_c r.1 (by omega)]⟩
theorem RV.r36 (r : RV M tw t S pb pt) (hN : xR S 20 0 = nI N) (h2 : 2 ≤ N) (h16 : N ≤ 16) (a : Int32) : ∃ x, f_X10_unheard 120 a M = some x := by
  rcases out_in (N := N) (by omega) a with ha | ⟨k, hk, rfl⟩
  · exact ⟨-1, by rw [f_X10_unheard, rs_f r.1, ndr0 r hN (by omega) h16 ha, obd_s, if_pos rfl]⟩
  · have k6 : k < 16 := by omega
    rw [f_X10_unheard, rs_f r.1, ndr r hN hk h16, obd_s, if_neg ne10, r.get0 k6, obd_s, r.get3 k6, obd_s, r.get4 k6, obd_s, r.get6 k6, obd_s]
    split
    · exact ⟨_, rfl⟩
    · exact ⟨_, rfl⟩
theorem rsa_l (q : RS M) : ∀ (d i n : Nat) (c : Int32), i + d = 6 → d + 1 ≤ n → ∃ x, f_X10_sentAll_4 M n 120 c (nI i) = some x := by
  intro d
  induction d with
  | zero =>
    intro i n c hi hn
    obtain ⟨n, rfl⟩ : ∃ m, n = m + 1 := ⟨n - 1, by omega⟩
    exact ⟨c, by rw [f_X10_sentAll_4, if_pos (show (6 : Int32) ≤ nI i from nI_le (a := 6) (by omega) (by omega))]⟩
  | succ d ih =>
    intro i n c hi hn
    obtain ⟨n, rfl⟩ : ∃ m, n = m + 1 := ⟨n - 1, by omega⟩
    rw [f_X10_sentAll_4, if_neg (show ¬ (6 : Int32) ≤ nI i from nI_ge (b := 6) (by omega) (by decide)), rs_f q, rs_0 q, bnd_e, rs_fa q, show (9859 : Int32) + nI i = nI (9859 + i) by rw [show (9859 : Int32) = nI 9859 from rfl, nI_add], rs_c q (by omega), bnd_e, bnd_e, nI_1]
    exact ih (i + 1) n _ (by omega) (by omega)
theorem RV.r33 (r : RV M tw t S pb pt) (a : Int32) {n : Nat} (hn : 100 ≤ n) : ∃ x, f_X10_sent n 120 a M = some x := by
  obtain ⟨z, e⟩ := rsa_l r.1 6 0 n 0 rfl (by omega)
  rw [f_X10_sent]
  split
  · exact ⟨z, by rw [rs_f r.1, f_X10_sentAll, show f_X10_sentAll_4 M n 120 0 0 = some z from e, obd_s]⟩
  · rcases out_in (N := 6) (by decide) a with ha | ⟨k, hk, rfl⟩
    · exact ⟨_, by rw [show f_X10_isIn a (0 : Int32) (5 : Int32) M = some 0 by
        rw [f_X10_isIn]
        by_cases c : a < 0
        · rw [if_pos c]
        · rw [if_neg c, if_pos (show (5 : Int32) < a from gt3 (N := 5) (by decide) (ha.resolve_left c))], obd_s, if_pos rfl]⟩
    · exact ⟨_, by rw [show f_X10_isIn (nI k) (0 : Int32) (5 : Int32) M = some 1 from f_isI (b := 5) M (by omega) (by decide), obd_s, if_neg ne10, rs_f r.1, rs_0 r.1, bnd_e, rs_fa r.1, show (9859 : Int32) + nI k = nI (9859 + k) by rw [show (9859 : Int32) = nI 9859 from rfl, nI_add], rs_c r.1 (by omega)]⟩
end
/-! ===== questions, the reference: more ===== -/
theorem lastn_le5 {α : Type} (n : Nat) (l : List α) : (lastn n l).length ≤ n := by
  unfold lastn
  rw [List.length_drop]; omega
section
variable {M : Mem} {N : Nat} {tw : Bool} {t : Int32} {S : St} {pb pt : List Row4}
theorem RV.r8 (r : RV M tw t S pb pt) (hN : xR S 20 0 = nI N) (h2 : 2 ≤ N) (h16 : N ≤ 16) (ht : xR S 20 1 = 1 → N % 2 = 1) (a b : Int32) {n : Nat} (hn : 100 ≤ n) : ∃ x M', f_X10_quorum n 120 a b M = some (x, M') ∧ RV M' tw t S pb pt ∧ Fr P2 M M' := by
  rcases out_in (N := N) (by omega) a with ha | ⟨k, hk, rfl⟩
  · exact ⟨-1, M, by rw [f_X10_quorum, rs_f r.1, ndr0 r hN (by omega) h16 ha, obd_s, if_pos rfl], r, Fr.rf _ _⟩
  · have k6 : k < 16 := by omega
    obtain ⟨M', e, r', f'⟩ := r.tqm (n := n) hN h16 ht k6 (by omega)
    have op : ∀ y, (if b = 0 then some (xR S 17 k, M) else if b = (1 : Int32) then some (qm N S k, M') else if b = (2 : Int32) then some (xR S 3 k, M) else some ((-1 : Int32), M)) = y → f_X10_quorum n 120 (nI k) b M = y := by
      intro y hy
      rw [f_X10_quorum, rs_f r.1, ndr r hN hk h16, obd_s, if_neg ne10, r.base k6, obd_s, e, obd2_s, r.get3 k6, obd_s]
      exact hy
    by_cases b0 : b = 0
    · exact ⟨_, M, op _ (if_pos b0), r, Fr.rf _ _⟩
    · by_cases b1 : b = 1
      · exact ⟨_, M', op _ (by rw [if_neg b0, if_pos b1]), r', f'⟩
      · by_cases b2 : b = 2
        · exact ⟨_, M, op _ (by rw [if_neg b0, if_neg b1, if_pos b2]), r, Fr.rf _ _⟩
        · exact ⟨_, M, op _ (by rw [if_neg b0, if_neg b1, if_neg b2]), r, Fr.rf _ _⟩
theorem rst_l (hN : xR S 20 0 = nI N) (h16 : N ≤ 16) (ht : xR S 20 1 = 1 → N % 2 = 1) (b : Int32) : ∀ (d i n : Nat) (M : Mem), RV M tw t S pb pt → i + d = N → d + 61 ≤ n → ∃ x M', f_X10_stopsBy_2 n 120 b (nI i) M = some (x, M') ∧ (x = 0 ∨ x = 1) ∧ RV M' tw t S pb pt ∧ Fr P2 M M' := by
  intro d
  induction d with
  | zero =>
    intro i n M r hi hn
    obtain ⟨n, rfl⟩ : ∃ m, n = m + 1 := ⟨n - 1, by omega⟩
    exact ⟨1, M, by rw [f_X10_stopsBy_2, rs_f r.1, rs_0 r.1, bnd_e, rs_fa r.1, rs_c0 r.1, cl0, r.N hN, if_pos (nI_le (by omega) (by omega))], Or.inr rfl, r, Fr.rf _ _⟩
  | succ d ih =>
    intro i n M r hi hn
    obtain ⟨n, rfl⟩ : ∃ m, n = m + 1 := ⟨n - 1, by omega⟩
    obtain ⟨M1, e1, r1, f1⟩ := r.tqby (n := n) hN h16 ht (v := i) (by omega) b (by omega)
    have op : ∀ y, (if qby N S i b = 0 then f_X10_stopsBy_2 n 120 b (nI (i + 1)) M1 else some ((0 : Int32), M1)) = y → f_X10_stopsBy_2 (n + 1) 120 b (nI i) M = y := by
      intro y hy
      rw [f_X10_stopsBy_2, rs_f r.1, rs_0 r.1, bnd_e, rs_fa r.1, rs_c0 r.1, cl0, r.N hN, if_neg (nI_ge (by omega) (by omega)), e1, obd2_s, bnd_e, nI_1]
      exact hy
    by_cases z : qby N S i b = 0
    · obtain ⟨x, M2, e2, hx, r2, f2⟩ := ih (i + 1) n M1 r1 (by omega) (by omega)
      exact ⟨x, M2, op _ (by rw [if_pos z]; exact e2), hx, r2, f1.tr f2⟩
    · exact ⟨0, M1, op _ (if_neg z), Or.inl rfl, r1, f1⟩
theorem RV.r12 (r : RV M tw t S pb pt) (hN : xR S 20 0 = nI N) (h16 : N ≤ 16) (ht : xR S 20 1 = 1 → N % 2 = 1) (a : Int32) {n : Nat} (hn : 100 ≤ n) : ∃ x M', f_X10_stops n 120 a M = some (x, M') ∧ RV M' tw t S pb pt ∧ Fr P2 M M' := by
  obtain ⟨x, M', e, hx, r', f'⟩ := rst_l hN h16 ht (a &&& (((1 : Int32) <<< (nI N &&& 31)) - (1 : Int32))) N 0 n M r (by omega) (by omega)
  refine ⟨x, M', ?_, r', f'⟩
  rw [f_X10_stops, rs_f r.1, f_X10_all, rs_f r.1, rs_0 r.1, bnd_e, rs_fa r.1, rs_c0 r.1, cl0, r.N hN, obd_s, f_X10_stopsBy, show f_X10_stopsBy_2 n 120 (a &&& (((1 : Int32) <<< (nI N &&& 31)) - (1 : Int32))) 0 M = some (x, M') from e, obd2_s, chk_t hx]
theorem RV.r29 (r : RV M tw t S pb pt) (hN : xR S 20 0 = nI N) (h2 : 2 ≤ N) (h16 : N ≤ 16) (a b c : Int32) : ∃ x, f_X10_waiting 120 a b c M = some x := by
  rcases out_in (N := N) (by omega) a with ha | ⟨k, hk, rfl⟩
  · exact ⟨-1, by rw [f_X10_waiting, rs_f r.1, ndr0 r hN (by omega) h16 ha, obd_s, if_pos rfl]⟩
  · have k6 : k < 16 := by omega
    have l20 := (r.2.2.2.1 k k6).2.1
    rw [f_X10_waiting, rs_f r.1, ndr r hN hk h16, obd_s, if_neg ne10, r.of3 k6, obd_s]
    rcases isIn_ex b 0 (nI (xW S k).length - 1) M with e | ⟨e, b0, b1⟩
    · exact ⟨_, by rw [e, obd_s, if_pos rfl]⟩
    · rw [e, obd_s, if_neg ne10]
      obtain ⟨j, hj, rfl⟩ := nn_e b0
      have hj2 : j < 20 := by
        rcases Nat.eq_zero_or_pos (xW S k).length with z | z
        · rw [z] at b1
          exfalso
          apply b1
          have e1 : nI 0 - (1 : Int32) = -1 := by decide
          rw [e1]
          have : ¬ nI j < 0 := b0
          have h0 : (0 : Int32) ≤ nI j := Int32.not_lt.mp b0
          exact Int32.lt_of_lt_of_le (by decide) h0
        · rw [nI_m1' z] at b1
          apply Decidable.byContradiction
          intro hc
          exact b1 (nI_lt (by omega) hj)
      have of_e : ∀ w, w < 44 → ∃ x, f_X10_of 120 (nI k) (nI w) M = some x := fun w hw => ⟨_, f_of r.toRK k6 hw⟩
      rcases isIn_ex c 0 1 M with e' | ⟨e', _⟩
      · exact ⟨_, by rw [e', obd_s, if_pos rfl]⟩
      · rw [e', obd_s, if_neg ne10]
        obtain ⟨x1, e1⟩ := of_e (4 + 2 * j) (by omega)
        obtain ⟨x2, e2⟩ := of_e (4 + 2 * j + 1) (by omega)
        have m1 : (4 : Int32) + ((2 : Int32) * nI j) = nI (4 + 2 * j) := by rw [show (4 : Int32) = nI 4 from rfl, show (2 : Int32) = nI 2 from rfl, pk_mul, nI_add]
        split
        · exact ⟨x1, by rw [f_X10_waitNode, rs_f r.1, m1, e1, obd_s, obd_s]⟩
        · exact ⟨x2, by rw [f_X10_waitStamp, rs_f r.1, m1, nI_1, e2, obd_s, obd_s]⟩
theorem rwy_l (r : RV M tw t S pb pt) (f g c : Int32) : ∀ (d i n : Nat) (x : Int32), i + d = (fl S).length → d + 1 ≤ n → ∃ z, f_X10_way_29 M n 120 f g c x (nI i) = some z := by
  have h9 := r.2.2.2.2.1.2.1
  intro d
  induction d with
  | zero =>
    intro i n x hi hn
    obtain ⟨n, rfl⟩ : ∃ m, n = m + 1 := ⟨n - 1, by omega⟩
    rw [f_X10_way_29, rs_f r.1, rs_0 r.1, bnd_e, rs_fa r.1, l850, rs_c r.1 (by decide), cl_n (by decide), r.2.2.2.2.1.1, if_pos (nI_le (by omega) (by omega))]
    split
    · exact ⟨_, rfl⟩
    · exact ⟨_, rfl⟩
  | succ d ih =>
    intro i n x hi hn
    obtain ⟨n, rfl⟩ : ∃ m, n = m + 1 := ⟨n - 1, by omega⟩
    have c8 : (851 : Int32) + nI i = nI (851 + i) := by rw [show (851 : Int32) = nI 851 from rfl, nI_add]
    rw [f_X10_way_29, rs_f r.1, rs_0 r.1, bnd_e, rs_fa r.1, l850, rs_c r.1 (by decide), cl_n (by decide), r.2.2.2.2.1.1, if_neg (nI_ge (by omega) (by omega)), bnd_e, rs_fa r.1, c8, rs_c r.1 (by omega), f_X10_pairOf, obd_s, bnd_e, rs_fa r.1, rs_c r.1 (by omega), f_X10_kindOf, obd_s, bnd_e, bnd_e, nI_1]
    split
    · split
      · exact ⟨_, rfl⟩
      · exact ih (i + 1) n _ (by omega) (by omega)
    · exact ih (i + 1) n _ (by omega) (by omega)
theorem RV.r30 (r : RV M tw t S pb pt) (hN : xR S 20 0 = nI N) (h2 : 2 ≤ N) (h16 : N ≤ 16) (a b c : Int32) {n : Nat} (hn : 9100 ≤ n) : ∃ x, f_X10_way n 120 a b c M = some x := by
  have h9 := r.2.2.2.2.1.2.1
  rcases out_in (N := N) (by omega) a with ha | ⟨k, hk, rfl⟩
  · exact ⟨-1, by rw [f_X10_way, rs_f r.1, ndr0 r hN (by omega) h16 ha, obd_s, if_pos rfl]⟩
  · rcases out_in (N := N) (by omega) b with hb | ⟨m, hm, rfl⟩
    · exact ⟨-1, by rw [f_X10_way, rs_f r.1, ndr r hN hk h16, obd_s, if_neg ne10, ndr0 r hN (by omega) h16 hb, obd_s, if_pos rfl]⟩
    · rw [f_X10_way, rs_f r.1, ndr r hN hk h16, obd_s, if_neg ne10, ndr r hN hm h16, obd_s, if_neg ne10]
      split
      · exact rwy_l r (nI k) (nI m) c (fl S).length 0 n 0 (by omega) (by omega)
      · exact ⟨_, rfl⟩
theorem RV.rlog (r : RV M tw t S pb pt) {A B m : Nat} {xs : List Row4} (hA : A < 10465) (hm : m ≤ 40) (hB : B + 160 ≤ 10465) (hb : RVb M A B m xs) (a b : Int32) : ∃ x, (if a = (-1 : Int32) then (chk (isO M 10 120) <| bnd (mR M 120 0) fun o25 => chk (isO M 100 o25) <| chk (inB (nI A) (mLn M o25)) <| some (mI M o25 ((nI A)).toNatClampNeg)) else (chk (isO M 10 120) <| bnd (mR M 120 0) fun o4 => chk (isO M 100 o4) <| chk (inB (nI A) (mLn M o4)) <| obd (f_X10_isIn a (0 : Int32) ((mI M o4 ((nI A)).toNatClampNeg) - (1 : Int32)) M) fun r9 => if r9 = 0 then some (-2 : Int32) else obd (f_X10_isIn b (0 : Int32) (3 : Int32) M) fun r13 => if r13 = 0 then some (-2 : Int32) else bnd (mR M 120 0) fun o16 => chk (isO M 100 o16) <| bnd (mR M 120 0) fun o19 => chk (isO M 100 o19) <| chk (inB (nI A) (mLn M o19)) <| chk (inB (((nI B) + ((4 : Int32) * (((mI M o19 ((nI A)).toNatClampNeg) - (1 : Int32)) - a))) + b) (mLn M o16)) <| some (mI M o16 ((((nI B) + ((4 : Int32) * (((mI M o19 ((nI A)).toNatClampNeg) - (1 : Int32)) - a))) + b)).toNatClampNeg))) = some x := by
  have q := r.1
  have lc := lastn_le5 m xs
  have hc := hb.1
  generalize (lastn m xs).length = ct at lc hc
  split
  · exact ⟨_, by rw [rs_f q, rs_0 q, bnd_e, rs_fa q, rs_c q hA]⟩
  · rw [rs_f q, rs_0 q, bnd_e, rs_fa q, rs_c q hA, mI_c hA, hc]
    rcases isIn_ex a 0 (nI ct - 1) M with e | ⟨e, a0, a1⟩
    · exact ⟨_, by rw [e, obd_s, if_pos rfl]⟩
    · rw [e, obd_s, if_neg ne10]
      rcases isIn_ex b 0 3 M with e' | ⟨e', b0, b1⟩
      · exact ⟨_, by rw [e', obd_s, if_pos rfl]⟩
      · obtain ⟨j, hj, rfl⟩ := nn_e a0
        obtain ⟨u, hu, rfl⟩ := nn_e b0
        have u3 : u ≤ 3 := by
          apply Decidable.byContradiction
          intro hc'
          exact b1 (nI_lt (a := 3) (by omega) hu)
        have hj2 : j + 1 ≤ ct := by
          rcases Nat.eq_zero_or_pos ct with z | z
          · rw [z] at a1
            exfalso
            apply a1
            have e1 : nI 0 - (1 : Int32) = -1 := by decide
            rw [e1]
            exact Int32.lt_of_lt_of_le (by decide) (Int32.not_lt.mp a0)
          · rw [nI_m1' z] at a1
            apply Decidable.byContradiction
            intro hc'
            exact a1 (nI_lt (by omega) hj)
        have e1 : nI ct - (1 : Int32) - nI j = nI (ct - 1 - j) := by
          rw [nI_m1' (by omega)]
          obtain ⟨z, hz⟩ : ∃ z, ct - 1 = z + j := ⟨ct - 1 - j, by omega⟩
          rw [hz, ← nI_add, show z + j - j = z by omega, Int32.add_sub_cancel]
        have e2 : (nI B + ((4 : Int32) * nI (ct - 1 - j))) + nI u = nI (B + 4 * (ct - 1 - j) + u) := by rw [show (4 : Int32) = nI 4 from rfl, pk_mul, nI_add, nI_add]
        exact ⟨_, by rw [e', obd_s, if_neg ne10, bnd_e, rs_fa q, bnd_e, rs_fa q, rs_c q hA, mI_c hA, hc, e1, e2, rs_c q (by omega)]⟩
theorem RV.r34 (r : RV M tw t S pb pt) (a b : Int32) : ∃ x, f_X10_book 120 a b M = some x := r.rlog (A := 9857) (B := 9913) (by decide) (by decide) (by decide) r.2.2.2.2.2.1 a b
theorem RV.r38 (r : RV M tw t S pb pt) (a b : Int32) : ∃ x, f_X10_trace 120 a b M = some x := r.rlog (A := 9858) (B := 10033) (by decide) (by decide) (by decide) r.2.2.2.2.2.2 a b
theorem rwf_l (r : RV M tw t S pb pt) (hN : xR S 20 0 = nI N) (h16 : N ≤ 16) (a x : Int32) : ∀ (d i n : Nat) (c : Int32), i + d = N → d + 1 ≤ n → ∃ z, f_X10_waitsNow_21 M n 120 a c x (nI i) = some z := by
  intro d
  induction d with
  | zero =>
    intro i n c hi hn
    obtain ⟨n, rfl⟩ : ∃ m, n = m + 1 := ⟨n - 1, by omega⟩
    exact ⟨c, by rw [f_X10_waitsNow_21, rs_f r.1, rs_0 r.1, bnd_e, rs_fa r.1, rs_c0 r.1, cl0, r.N hN, if_pos (nI_le (by omega) (by omega))]⟩
  | succ d ih =>
    intro i n c hi hn
    obtain ⟨n, rfl⟩ : ∃ m, n = m + 1 := ⟨n - 1, by omega⟩
    obtain ⟨z, e⟩ := has10_ex x (v := i) (by omega) M
    have i6 : i < 16 := by omega
    rw [f_X10_waitsNow_21, rs_f r.1, rs_0 r.1, bnd_e, rs_fa r.1, rs_c0 r.1, cl0, r.N hN, if_neg (nI_ge (by omega) (by omega)), e, obd_s, r.of0 i6]
    simp only [obd_s, bnd_e]
    rw [nI_1]
    split
    · exact ih (i + 1) n _ (by omega) (by omega)
    · split
      · exact ih (i + 1) n _ (by omega) (by omega)
      · split
        · exact ih (i + 1) n _ (by omega) (by omega)
        · exact ih (i + 1) n _ (by omega) (by omega)
theorem RV.wnw (r : RV M tw t S pb pt) (hN : xR S 20 0 = nI N) (h16 : N ≤ 16) {k : Nat} (hk : k < 16) {n : Nat} (hn : 20 ≤ n) : ∃ x, f_X10_waitsNow n 120 (nI k) M = some x := by
  rw [f_X10_waitsNow, rs_f r.1, r.get3 hk, obd_s, r.get4 hk, obd_s, bnd_e]
  exact rwf_l r hN h16 (nI k) _ N 0 n 0 (by omega) (by omega)
theorem RV.r35 (r : RV M tw t S pb pt) (hN : xR S 20 0 = nI N) (h2 : 2 ≤ N) (h16 : N ≤ 16) (a : Int32) {n : Nat} (hn : 100 ≤ n) : ∃ x, f_X10_waitsFor n 120 a M = some x := by
  rcases out_in (N := N) (by omega) a with ha | ⟨k, hk, rfl⟩
  · exact ⟨-1, by rw [f_X10_waitsFor, rs_f r.1, ndr0 r hN (by omega) h16 ha, obd_s, if_pos rfl]⟩
  · have k6 : k < 16 := by omega
    obtain ⟨x, e⟩ := r.wnw hN h16 k6 (n := n) (by omega)
    rw [f_X10_waitsFor, rs_f r.1, ndr r hN hk h16, obd_s, if_neg ne10, r.get0 k6, obd_s, e, obd_s]
    split
    · exact ⟨_, rfl⟩
    · exact ⟨_, rfl⟩
theorem rcr_l (r : RV M tw t S pb pt) (hN : xR S 20 0 = nI N) (h16 : N ≤ 16) (a : Int32) : ∀ (d i n : Nat) (x y : Int32), i + d = N → d + 1 ≤ n → ∃ z, f_X10_crowded_18 M n 120 a x y (nI i) = some z := by
  intro d
  induction d with
  | zero =>
    intro i n x y hi hn
    obtain ⟨n, rfl⟩ : ∃ m, n = m + 1 := ⟨n - 1, by omega⟩
    rw [f_X10_crowded_18, rs_f r.1, rs_0 r.1, bnd_e, rs_fa r.1, rs_c0 r.1, cl0, r.N hN, if_pos (nI_le (by omega) (by omega))]
    split
    · exact ⟨_, rfl⟩
    · exact ⟨_, rfl⟩
  | succ d ih =>
    intro i n x y hi hn
    obtain ⟨n, rfl⟩ : ∃ m, n = m + 1 := ⟨n - 1, by omega⟩
    rw [f_X10_crowded_18, rs_f r.1, rs_0 r.1, bnd_e, rs_fa r.1, rs_c0 r.1, cl0, r.N hN, if_neg (nI_ge (by omega) (by omega)), r.of3 (v := i) (by omega)]
    simp only [obd_s, bnd_e]
    rw [nI_1]
    split
    · exact ih (i + 1) n _ _ (by omega) (by omega)
    · exact ih (i + 1) n _ _ (by omega) (by omega)
theorem RV.r37 (r : RV M tw t S pb pt) (hN : xR S 20 0 = nI N) (h16 : N ≤ 16) (a : Int32) {n : Nat} (hn : 100 ≤ n) : ∃ x, f_X10_crowded n 120 a M = some x := by
  rw [f_X10_crowded]
  rcases isIn_ex a 0 1 M with e | ⟨e, _⟩
  · exact ⟨_, by rw [e, obd_s, if_pos rfl]⟩
  · rw [e, obd_s, if_neg ne10]
    exact rcr_l r hN h16 a N 0 n (-1) 0 (by omega) (by omega)
end
/-! ===== calls that write into rows of their own alone ===== -/
theorem HV.kp6 {M M' : Mem} {h X Y N : Nat} {t : Int32} {Q : Nat → Int32} {S : St} {pb pt : List Row4} (p : HV M h X Y t N Q S pb pt) (e : M'.1 = M.1) (hI : ∀ o, (o = 1 ∨ (h ≤ o ∧ o < h + 49 ∧ o ≠ h + 16) ∨ 131 ≤ o) → ∀ b, mI M' o b = mI M o b) : HV M' h X Y t N Q S pb pt := by
  obtain ⟨q, pv, hp, rm, ⟨lb, lt⟩, hN, hQ⟩ := p
  have hq := q.2.2.2.2
  have lo : ∀ o, h ≤ o → o < h + 49 → o ≠ h + 16 → ∀ b, mI M' o b = mI M o b := fun o a c n b => hI o (by omega) b
  refine ⟨q.e e, ?_, hp.cg (fun o ho b => lo o (by omega) (by omega) (by omega) b) (fun _ _ _ => rfl) rfl, ?_, ⟨lb.cg (fun b => lo _ (by omega) (by omega) (by omega) b) (fun b => lo _ (by omega) (by omega) (by omega) b), lt.cg (fun b => lo _ (by omega) (by omega) (by omega) b) (fun b => lo _ (by omega) (by omega) (by omega) b)⟩, by rw [hI 1 (Or.inl rfl)]; exact hN, fun v hv => by rw [lo _ (by omega) (by omega) (by omega)]; exact hQ v hv⟩
  · obtain ⟨d5, d6, d7, len, K, fr, us, ow, w, hK⟩ := pv
    obtain ⟨_, _, _, y5, y6, y7, _⟩ := id w.1
    have l3 := w.2.2.2.2.2.2.2.2.2.1.2.2.2.1
    have dd : ∀ d, (d = h + 7 ∨ d = h + 8 ∨ d = h + 9 ∨ 131 ≤ d) → ∀ b, mI M' d b = mI M d b := fun d hd b => hI d (by omega) b
    exact ⟨d5, d6, d7, len, K, fr, us, ow, w.cg (w.1.e e) (Nat.le_refl _) l3 (fun i a c b => lo _ (by omega) (by omega) (by omega) b) (fun b _ => dd _ (by omega) b) (fun b _ => dd _ (by omega) b) (fun b _ => dd _ (by omega) b), hK⟩
  · unfold Rm mN mU mLn mR at rm ⊢
    rw [e]; exact rm
theorem CW.kp {M M' : Mem} {N : Nat} {Q : Nat → Int32} {S : St} (h : CW M N Q S) (e : M'.1 = M.1) (hI : ∀ o, o ≠ 4 → o ≠ 30 → ¬ (120 ≤ o ∧ o ≤ 130) → ∀ b, mI M' o b = mI M o b) (hl : ∀ o b, mL M' o b = mL M o b) : CW M' N Q S := by
  obtain ⟨X, Y, L, p, sb, xg, xc, xv, xs, g, hL⟩ := h
  have s1 : Shp1 M M' := Shp1.e e
  have lo : ∀ o, o < 120 → o ≠ 4 → o ≠ 30 → ∀ b, mI M' o b = mI M o b := fun o a n1 n2 b => hI o n1 n2 (by omega) b
  exact ⟨X, Y, L, p.kp6 e (fun o ho b => hI o (by omega) (by omega) (by omega) b), sb.e e (lo 1 (by omega) (by omega) (by omega)) (lo 2 (by omega) (by omega) (by omega)), xg.s s1, xc.s s1 (lo 113 (by omega) (by omega) (by omega)) (fun _ _ => rfl), xv.s s1 (lo 5 (by omega) (by omega) (by omega)) (lo 6 (by omega) (by omega) (by omega)) (lo 8 (by omega) (by omega) (by omega)) (fun _ o _ b => hl o b) (fun _ => rfl) rfl, xs.e e (fun o ho b => lo o (by omega) (by omega) (by omega) b), g.e e, hL⟩
/-- both answer, and stand as before -/
def Oks (i : Nat) (x : Option (Int32 × Mem)) (y : Mem → Option (Int32 × Mem)) : Prop := ∃ r r' M1 M2, x = some (r, M1) ∧ isO M1 10 120 ∧ y M1 = some (r', M2) ∧ WI (i + 1) M2
theorem Okk.ks {i : Nat} {x : Option (Int32 × Mem)} {y : Mem → Option (Int32 × Mem)} (h : Okk i x y) : Oks i x y := by
  obtain ⟨r, M1, M2, a, b, c, d⟩ := h
  exact ⟨r, r, M1, M2, a, b, c, d⟩
/-- class and reference have written into rows of their own alone -/
theorem WJ.own {M M1 M2 : Mem} {N A i : Nat} {Q : Nat → Int32} {S : St} (w : WJ M N A i Q S) (e1 : M1.1 = M.1) (h1 : ∀ o, o ≠ 4 → o ≠ 30 → ∀ b, mI M1 o b = mI M o b) (r2 : RV M2 false 0 S [] []) (e2 : M2.1 = M1.1) (h2 : ∀ o, ¬ (120 ≤ o ∧ o ≤ 130) → ∀ b, mI M2 o b = mI M1 o b) (z2 : mI M2 120 7 = 0) (hl : ∀ o b, mL M2 o b = mL M o b) : WI (i + 1) M2 := by
  obtain ⟨cw, r, z7, sw, hQ⟩ := w
  exact ⟨N, A, Q, S, cw.kp (e2.trans e1) (fun o n1 n2 n3 b => by rw [h2 o n3, h1 o n1 n2]) hl, r2, z2, sw.mo, hQ⟩
theorem RV.ow {M M1 : Mem} {S : St} (r : RV M false 0 S [] []) (e1 : M1.1 = M.1) (h1 : ∀ o, o ≠ 4 → o ≠ 30 → ∀ b, mI M1 o b = mI M o b) : RV M1 false 0 S [] [] :=
  r.mr (by unfold mN; rw [e1]; exact Nat.le_refl _) (fun o a b => ⟨by rw [e1], fun b => mR_e e1 o b, h1 o (by omega) (by omega)⟩)
/-- stops -/
theorem op12 {M : Mem} {i n : Nat} (h : WI i M) (a : Int32) (hn : 100000 ≤ n) : Oks i (f_X9_stops n 0 a M) (fun M1 => f_X10_stops n 120 a M1) := by
  obtain ⟨N, A, Q, S, w⟩ := h
  obtain ⟨X, Y, L, p, sb, xg, xr⟩ := id w.1
  obtain ⟨_, r, z7, sw, hQ⟩ := id w
  have h16 := sw.n16
  have h2 := sw.n2
  have key : ∃ x M1, f_X7_someQuorum n 1 (a &&& (((1 : Int32) <<< (nI N &&& 31)) - (1 : Int32))) M = some (x, M1) ∧ Fr P4 M M1 := by
    have e20 : ∀ u M1, ∃ x, f_X7_someQuorum_20 n u M1 = some (x, M1) := fun u M1 => by
      rw [f_X7_someQuorum_20]
      split
      · exact ⟨_, rfl⟩
      · exact ⟨_, rfl⟩
    rw [f_X7_someQuorum, sb.f, sb.t]
    rcases sw.t2 with t0 | t1
    · obtain ⟨x, ex⟩ := e20 (fub 0 N S (a &&& (((1 : Int32) <<< (nI N &&& 31)) - (1 : Int32)))) M
      refine ⟨x, M, ?_, Fr.rf _ _⟩
      rw [if_pos t0, f_X7_firstUnbroken, show (0 : Int32) = nI 0 from rfl, fu_l sb h16 _ N 0 n (by omega) (by omega), obd_s, ex]
    · obtain ⟨M1, e1, f1⟩ := wr_l h16 (by omega) (sw.t t1) (a &&& (((1 : Int32) <<< (nI N &&& 31)) - (1 : Int32))) N M n sb (Nat.le_refl _) (fun w _ _ => by omega) (by omega)
      obtain ⟨x, ex⟩ := e20 (wh N (a &&& (((1 : Int32) <<< (nI N &&& 31)) - (1 : Int32))) 0) M1
      refine ⟨x, M1, ?_, f1⟩
      rw [t1, if_neg ne10, f_X7_wholeOfRoot, sb.f, sb.n, bnd_e, e1, obd2_s, ex]
  obtain ⟨x, M1, e1, f1⟩ := key
  have o1 : ∀ o, o ≠ 4 → o ≠ 30 → ∀ b, mI M1 o b = mI M o b := fun o n1 _ b => f1.2.1 o n1 b
  have r1 := r.ow f1.1 o1
  obtain ⟨y, M2, e2, r2, f2⟩ := r1.r12 sw.n h16 sw.t a (n := n) (by omega)
  have cl : ∃ z, f_X9_stops n 0 a M = some (z, M1) := by
    rw [f_X9_stops, chk_t xg.1, xg.2.1, bnd_e, sb.f, bnd_e, sb.f, f_X7_allNodes, sb.f, sb.n, obd_s, e1, obd2_s]
    split
    · exact ⟨_, rfl⟩
    · exact ⟨_, rfl⟩
  obtain ⟨z, ez⟩ := cl
  refine ⟨z, y, M1, M2, ez, r1.1.io (by decide) (by decide) (by decide), e2, w.own f1.1 o1 r2 f2.1 (fun o ho b => f2.2.1 o (fun z => ho (by unfold P2 at z; omega)) b) ?_ (fun o b => (f2.2.2 o b).trans (f1.2.2 o b))⟩
  rw [f2.2.1 120 (by unfold P2; decide), o1 120 (by decide) (by decide)]; exact z7
/-- quorum -/
theorem op8 {M : Mem} {i n : Nat} (h : WI i M) (a b : Int32) (hn : 100000 ≤ n) : ∃ r r' M2, f_X9_quorum 0 a b M = some r ∧ f_X10_quorum n 120 a b M = some (r', M2) ∧ WI (i + 1) M2 := by
  obtain ⟨N, A, Q, S, w⟩ := h
  obtain ⟨_, r, z7, sw, hQ⟩ := id w
  obtain ⟨x, ex⟩ := w.c8 a b
  obtain ⟨y, M2, e2, r2, f2⟩ := r.r8 sw.n sw.n2 sw.n16 sw.t a b (n := n) (by omega)
  refine ⟨x, y, M2, ex, e2, w.own rfl (fun _ _ _ _ => rfl) r2 f2.1 (fun o ho b => f2.2.1 o (fun z => ho (by unfold P2 at z; omega)) b) ?_ (fun o b => f2.2.2 o b)⟩
  rw [f2.2.1 120 (by unfold P2; decide)]; exact z7
/-! ===== delay ===== -/
theorem HV.u19 {M M' : Mem} {h X Y N l : Nat} {t x : Int32} {Q : Nat → Int32} {S : St} {pb pt : List Row4} (p : HV M h X Y t N Q S pb pt) (e : M'.1 = M.1) (hI : ∀ o, (o = 1 ∨ (h ≤ o ∧ o < h + 49) ∨ 131 ≤ o) → ∀ b, mI M' o b = mI M o b) : HV M' h X Y t N Q (uR S 19 l x) pb pt := by
  have p' := p.kp e hI
  obtain ⟨q, pv, hp, rm, lg, hN, hQ⟩ := p'
  have rk : ∀ k i, k ≠ 19 → xR (uR S 19 l x) k i = xR S k i := fun k i n => by rw [xR_uR, if_neg (fun z => n z.1)]
  have lim : ∀ p, p ∈ ft → p.2 ≠ 19 := by decide
  refine ⟨q, ?_, ?_, rm, lg, hN, hQ⟩
  · obtain ⟨d5, d6, d7, len, K, fr, us, ow, w, hK⟩ := pv
    have e16 : xR (uR S 19 l x) 16 = xR S 16 := by funext i; exact rk 16 i (by decide)
    exact ⟨d5, d6, d7, len, K, fr, us, ow, by rw [e16]; exact w, hK⟩
  · obtain ⟨h1, g7, g8, g9, g10, g11, g12, g13, g14, g15⟩ := hp
    refine ⟨fun v hv => ?_, ?_, ?_, ?_, ?_, ?_, ?_, ?_, ?_, ?_⟩
    · obtain ⟨a1, a2, a3, a4, a5⟩ := h1 v hv
      exact ⟨fun q hq => by rw [rk _ _ (lim q hq)]; exact a1 q hq, a2, a3, a4, a5⟩
    · exact g7
    · exact g8
    · exact g9
    · exact g10
    · exact g11
    · exact g12
    · exact g13
    · exact g14
    · exact g15
theorem PB.c19 {N i l : Nat} {x : Int32} {S : St} (h : PB N i S) : PB N (i + 1) (uR S 19 l x) := fun a ha => by
  have e : Ph a (uR S 19 l x) = Ph a S := rfl
  have nb : nbr N (uR S 19 l x) = nbr N S := rfl
  rw [e, nb]
  have := h a ha
  omega
theorem op43 {M : Mem} {i n : Nat} (h : WI i M) (a b c : Int32) (hn : 100000 ≤ n) : Okk i (f_X9_delay 0 a b c M) (fun M1 => f_X10_delay 120 a b c M1) := by
  obtain ⟨N, A, Q, S, w⟩ := h
  obtain ⟨X, Y, L, p, sb, xg, xc, xv, xs, g, hL⟩ := id w.1
  obtain ⟨_, r, z7, sw, hQ⟩ := id w
  have h16 := sw.n16
  have h2 := sw.n2
  rcases out_in (N := N) (by omega) a with ha | ⟨k, hk, rfl⟩
  · refine Okk.same w (r := 0) ?_ ?_
    · rw [f_X9_delay, chk_t xg.1, xg.2.1, bnd_e, sb.f, ndc0 sb ha, obd_s, if_pos rfl]
    · show f_X10_delay 120 a b c M = _
      rw [f_X10_delay, rs_f r.1, ndr0 r sw.n (by omega) h16 ha, obd_s, if_pos rfl]
  · rcases out_in (N := N) (by omega) b with hb | ⟨m, hm, rfl⟩
    · refine Okk.same w (r := 0) ?_ ?_
      · rw [f_X9_delay, chk_t xg.1, xg.2.1, bnd_e, sb.f, ndc sb hk h16, obd_s, if_neg ne10, bnd_e, sb.f, ndc0 sb hb, obd_s, if_pos rfl]
      · show f_X10_delay 120 (nI k) b c M = _
        rw [f_X10_delay, rs_f r.1, ndr r sw.n hk h16, obd_s, if_neg ne10, ndr0 r sw.n (by omega) h16 hb, obd_s, if_pos rfl]
    · rcases rng3 (L := 1) (N := 9) (by decide) (by decide) c with hc | ⟨d, hd1, hd2, rfl⟩
      · refine Okk.same w (r := 0) ?_ ?_
        · rw [f_X9_delay, chk_t xg.1, xg.2.1, bnd_e, sb.f, ndc sb hk h16, obd_s, if_neg ne10, bnd_e, sb.f, ndc sb hm h16, obd_s, if_neg ne10]
          exact out2 (L := 1) (N := 9) (by decide) (by decide) hc
        · show f_X10_delay 120 (nI k) (nI m) c M = _
          rw [f_X10_delay, rs_f r.1, ndr r sw.n hk h16, obd_s, if_neg ne10, ndr r sw.n hm h16, obd_s, if_neg ne10, show f_X10_isIn c (1 : Int32) (9 : Int32) M = some 0 from is_out3 (L := 1) (N := 9) (by decide) hc, obd_s, if_pos rfl]
      · have l6 : 16 * k + m < 256 := by omega
        generalize hM1 : sI M 113 (16 * k + m) (nI d) = M1
        have s1 : M1.1 = M.1 := by rw [← hM1]; rfl
        have o1 : ∀ o, o ≠ 113 → ∀ b, mI M1 o b = mI M o b := fun o n b => by rw [← hM1, mI_o _ _ _ _ _ n]
        have r1 : RV M1 false 0 S [] [] := r.mr (by unfold mN; rw [s1]; exact Nat.le_refl _) (fun o a b => ⟨by rw [s1], fun b => mR_e s1 o b, o1 o (by omega)⟩)
        generalize hM2 : sI M1 121 (10209 + (16 * k + m)) (nI d) = M2
        have s2 : M2.1 = M1.1 := by rw [← hM2]; rfl
        have o2 : ∀ o, o ≠ 121 → ∀ b, mI M2 o b = mI M1 o b := fun o n b => by rw [← hM2, mI_o _ _ _ _ _ n]
        have n2 : ∀ b, b ≠ 10209 + (16 * k + m) → mI M2 121 b = mI M1 121 b := fun b n => by rw [← hM2, mI_n _ _ _ _ n]
        have S' : M2.1 = M.1 := s2.trans s1
        have oa : ∀ o, o ≠ 113 → o ≠ 121 → ∀ b, mI M2 o b = mI M o b := fun o na nb b => by rw [o2 o nb, o1 o na]
        have rk : ∀ k' i, k' ≠ 19 → xR (uR S 19 (16 * k + m) (nI d)) k' i = xR S k' i := fun k' i n => by rw [xR_uR, if_neg (fun z => n z.1)]
        have r2 : RV M2 false 0 (uR S 19 (16 * k + m) (nI d)) [] [] := by
          obtain ⟨q1, q2, q3, q4, q5, q6, q7⟩ := r1
          refine ⟨q1.e s2, by rw [o2 120 (by decide)]; exact q2, fun k' i hv => ?_, q4.cg (fun b _ hb => n2 b (by omega)) rfl, ⟨by rw [n2 850 (by omega)]; exact q5.1, q5.2.1, q5.2.2.cg fun i _ hi => ⟨n2 _ (by have := q5.2.1; omega), o2 123 (by decide) _⟩⟩, q6.cg (n2 _ (by omega)) (fun b _ hb => n2 b (by omega)), q7.cg (n2 _ (by omega)) (fun b _ hb => n2 b (by omega))⟩
          have ac := ad_cases hv
          by_cases c : k' = 19 ∧ i = 16 * k + m
          · rw [xR_uR, if_pos c, c.1, c.2]
            have e : ad 19 (16 * k + m) = 10209 + (16 * k + m) := rfl
            rw [e, ← hM2, mI_s]
          · rw [xR_uR, if_neg c, n2 _ (by omega)]
            exact q3 k' i hv
        have cw : CW M2 N Q (uR S 19 (16 * k + m) (nI d)) := by
          refine ⟨X, Y, L, p.u19 S' (fun o ho b => oa o (by omega) (by omega) b), ?_, xg.s (Shp1.e S'), ?_, xv.s (Shp1.e S') (fun b => oa 5 (by decide) (by decide) b) (fun b => oa 6 (by decide) (by decide) b) (fun b => oa 8 (by decide) (by decide) b) (fun _ o _ b => by rw [← hM2, ← hM1]; rfl) (fun v => rk 17 v (by decide)) (rk 20 1 (by decide)), xs.e S' (fun o ho b => oa o (by omega) (by omega) b), g.e S', hL⟩
          · exact sb.cg (by unfold mN; rw [S']; exact Nat.le_refl _) (fun _ _ => by rw [S']) (fun _ => mR_e S' _ _) (fun b => oa 1 (by decide) (by decide) b) (fun b => oa 2 (by decide) (by decide) b) (rk 20 1 (by decide)) (fun v => rk 17 v (by decide))
          · obtain ⟨a1, a2, a3, a4, a5⟩ := xc
            have io : ∀ {c o}, isO M c o → isO M2 c o := fun z => by unfold isO mN mC at *; rw [S']; exact z
            refine ⟨io a1, by rw [mR_e S']; exact a2, io a3, by rw [mLn_e S']; exact a4, fun l hl => ?_⟩
            rw [o2 113 (by decide), xR_uR, ← hM1]
            by_cases c : l = 16 * k + m
            · rw [c, mI_s, if_pos ⟨rfl, rfl⟩]
              exact ⟨rfl, d, hd1, hd2, rfl⟩
            · rw [mI_n _ _ _ _ c, if_neg (fun z => c z.2)]; exact a5 l hl
        refine ⟨1, M1, M2, ?_, r1.1.io (by decide) (by decide) (by decide), ?_, N, A, Q, uR S 19 (16 * k + m) (nI d), cw, r2, by rw [oa 120 (by decide) (by decide)]; exact z7, ?_, fun v hv => by rw [show qm N (uR S 19 (16 * k + m) (nI d)) v = qm N S v from rfl]; exact hQ v hv⟩
        · rw [f_X9_delay, chk_t xg.1, xg.2.1, bnd_e, sb.f, ndc sb hk h16, obd_s, if_neg ne10, bnd_e, sb.f, ndc sb hm h16, obd_s, if_neg ne10]
          refine Eq.trans (in2 (L := 1) (N := 9) (by decide) hd1 hd2) ?_
          rw [xg.2.2.2.2.2.1, bnd_e, chk_t xc.1, xc.2.1, bnd_e, chk_t xc.2.2.1, c16', xc.2.2.2.1, chk_t (inB_n l6 (by decide)), sI_c (by omega), hM1, bnd_e]
        · show f_X10_delay 120 (nI k) (nI m) (nI d) M1 = _
          rw [f_X10_delay, rs_f r1.1, ndr r1 sw.n hk h16, obd_s, if_neg ne10, ndr r1 sw.n hm h16, obd_s, if_neg ne10, show f_X10_isIn (nI d) (1 : Int32) (9 : Int32) M1 = some 1 from is_in3 (L := 1) (N := 9) (by decide) hd1 hd2, obd_s, if_neg ne10, rs_0 r1.1, bnd_e, rs_fa r1.1, show ((10209 : Int32) + ((16 : Int32) * nI k)) + nI m = nI (10209 + (16 * k + m)) by rw [show (10209 : Int32) = nI 10209 from rfl, show (16 : Int32) = nI 16 from rfl, pk_mul, nI_add, nI_add, Nat.add_assoc], rs_c r1.1 (by omega), sI_c (by omega), hM2, bnd_e]
        · obtain ⟨y1, y2, y3, y4, y5, y6, y7, y8, y9, y10, y11⟩ := sw
          exact ⟨y1, y2, y3, y4, y5, y6.c16 h16 (fun k' i hk' _ => rk k' i (by omega)) (fun _ _ => rfl) rfl, y7, y8, by omega, y10.c19, y11.cg (fun k' j hk' => rk k' j (by omega))⟩
/-! ===== the question is(..): round whom ===== -/
def P30 (o : Nat) : Prop := o = 30
theorem HV.f30 {M M' : Mem} {X Y N : Nat} {t : Int32} {Q : Nat → Int32} {S : St} {pb pt : List Row4} (p : HV M 14 X Y t N Q S pb pt) (f : Fr P30 M M') : HV M' 14 X Y t N Q S pb pt :=
  p.kp6 f.1 (fun o ho b => f.2.1 o (by unfold P30; omega) b)
theorem cs_h6 {M : Mem} {h : Nat} (q : CS M h) : mR M h 6 = h + 16 := q.r (a := 0) (b := 6) (c := 16) (by decide)
theorem cs_a16 {α : Type} {M : Mem} {h : Nat} (q : CS M h) (x : Option α) : chk (isO M 100 (h + 16)) x = x := chk_t (q.io (i := 16) (by decide) (by decide) (by decide))
theorem cs_i16 {α : Type} {M : Mem} {h : Nat} (q : CS M h) {k : Nat} (hk : k < 16) (x : Option α) : chk (inB (nI k) (mLn M (h + 16))) x = x := by
  refine chk_t ?_
  rw [q.ln (i := 16) (c := 16) (by decide) (by decide) (by decide)]; exact inB_n hk (by decide)
theorem f30_s (M : Mem) (k : Nat) (x : Int32) : Fr P30 M (sI M (14 + 16) k x) := Fr.tsI (show P30 (14 + 16) from rfl)
section
variable {X Y N : Nat} {t : Int32} {Q : Nat → Int32} {S : St} {pb pt : List Row4}
theorem rd115 {M : Mem} (p : HV M 14 X Y t N Q S pb pt) (h16 : N ≤ 16) : ∀ (d i n : Nat) (c : Int32), i + d = N → d + 1 ≤ n → ∃ x, f_X2_round_115 n 14 c (nI i) M = some (x, M) := by
  intro d
  have q := p.1
  induction d with
  | zero =>
    intro i n c hi hn
    obtain ⟨n, rfl⟩ : ∃ m, n = m + 1 := ⟨n - 1, by omega⟩
    exact ⟨c, by rw [f_X2_round_115, cs_f q, cs_h0 q, bnd_e, cs_s q, p.2.2.2.2.2.1, if_pos (nI_le (by omega) (by omega))]⟩
  | succ d ih =>
    intro i n c hi hn
    obtain ⟨n, rfl⟩ : ∃ m, n = m + 1 := ⟨n - 1, by omega⟩
    rw [f_X2_round_115, cs_f q, cs_h0 q, bnd_e, cs_s q, p.2.2.2.2.2.1, if_neg (nI_ge (by omega) (by omega)), cs_h6 q, bnd_e, cs_a16 q, cs_i16 q (by omega), bnd_e, bnd_e, nI_1]
    exact ih (i + 1) n _ (by omega) (by omega)
theorem rd60 (h16 : N ≤ 16) {K : Nat → Int32 → Mem → Option (Int32 × Mem)} {k : Nat} (hk : k < N) (hK : ∀ M, HV M 14 X Y t N Q S pb pt → ∃ x M2, K 14 (nI (k + 1)) M = some (x, M2) ∧ Fr P30 M M2) : ∀ (d i n : Nat) (M : Mem), HV M 14 X Y t N Q S pb pt → i + d = N → d + 1 ≤ n → ∃ x M2, f_X2_round_60 K n 14 (nI k) (nI i) M = some (x, M2) ∧ Fr P30 M M2 := by
  intro d
  induction d with
  | zero =>
    intro i n M p hi hn
    have q := p.1
    obtain ⟨n, rfl⟩ : ∃ m, n = m + 1 := ⟨n - 1, by omega⟩
    obtain ⟨x, M2, e2, f2⟩ := hK M p
    exact ⟨x, M2, by rw [f_X2_round_60, cs_f q, cs_h0 q, bnd_e, cs_s q, p.2.2.2.2.2.1, if_pos (nI_le (by omega) (by omega)), bnd_e, nI_1]; exact e2, f2⟩
  | succ d ih =>
    intro i n M p hi hn
    have q := p.1
    obtain ⟨n, rfl⟩ : ∃ m, n = m + 1 := ⟨n - 1, by omega⟩
    obtain ⟨z, ez⟩ := has_ex (mI M (14 + 16) (nI i).toNatClampNeg) (v := k) (by omega) M
    rw [f_X2_round_60, cs_f q, cs_h0 q, bnd_e, cs_s q, p.2.2.2.2.2.1, if_neg (nI_ge (by omega) (by omega)), cs_h6 q, bnd_e, cs_a16 q, cs_i16 q (show i < 16 by omega), ez, obd_s]
    by_cases c : z = 0
    · rw [if_pos c, bnd_e, nI_1]
      exact ih (i + 1) n M p (by omega) (by omega)
    · rw [if_neg c, bnd_e, cs_a16 q, cs_i16 q (show i < 16 by omega), bnd_e, cs_a16 q, cs_i16 q (show k < 16 by omega), cs_i16 q (show i < 16 by omega), bnd_e, bnd_e, nI_1]
      have f1 := f30_s M (nI i).toNatClampNeg (mI M (14 + 16) (nI i).toNatClampNeg ||| mI M (14 + 16) (nI k).toNatClampNeg)
      obtain ⟨x, M2, e2, f2⟩ := ih (i + 1) n _ (p.f30 f1) (by omega) (by omega)
      exact ⟨x, M2, e2, f1.tr f2⟩
theorem rd47 (h16 : N ≤ 16) : ∀ (d i n : Nat) (M : Mem), HV M 14 X Y t N Q S pb pt → i + d = N → d + 20 ≤ n → ∃ x M2, f_X2_round_47 n 14 (nI i) M = some (x, M2) ∧ Fr P30 M M2 := by
  intro d
  induction d with
  | zero =>
    intro i n M p hi hn
    have q := p.1
    obtain ⟨n, rfl⟩ : ∃ m, n = m + 1 := ⟨n - 1, by omega⟩
    obtain ⟨x, e⟩ := rd115 p h16 N 0 n 0 (by omega) (by omega)
    exact ⟨x, M, by rw [f_X2_round_47, cs_f q, cs_h0 q, bnd_e, cs_s q, p.2.2.2.2.2.1, if_pos (nI_le (by omega) (by omega))]; exact e, Fr.rf _ _⟩
  | succ d ih =>
    intro i n M p hi hn
    have q := p.1
    obtain ⟨n, rfl⟩ : ∃ m, n = m + 1 := ⟨n - 1, by omega⟩
    have k2 := rd60 (X := X) (Y := Y) (t := t) (Q := Q) (S := S) (pb := pb) (pt := pt) h16 (K := f_X2_round_47 n) (k := i) (by omega) (fun M p => ih (i + 1) n M p (by omega) (by omega)) N 0 n M p (by omega) (by omega)
    obtain ⟨x, M2, e2, f2⟩ := k2
    exact ⟨x, M2, by rw [f_X2_round_47, cs_f q, cs_h0 q, bnd_e, cs_s q, p.2.2.2.2.2.1, if_neg (nI_ge (by omega) (by omega))]; exact e2, f2⟩
theorem rd2 (h16 : N ≤ 16) : ∀ (d i n : Nat) (M : Mem), HV M 14 X Y t N Q S pb pt → i + d = N → d + 60 ≤ n → ∃ x M2, f_X2_round_2 n 14 (nI i) M = some (x, M2) ∧ Fr P30 M M2 := by
  intro d
  induction d with
  | zero =>
    intro i n M p hi hn
    have q := p.1
    obtain ⟨n, rfl⟩ : ∃ m, n = m + 1 := ⟨n - 1, by omega⟩
    obtain ⟨x, M2, e, f⟩ := rd47 h16 N 0 n M p (by omega) (by omega)
    exact ⟨x, M2, by rw [f_X2_round_2, cs_f q, cs_h0 q, bnd_e, cs_s q, p.2.2.2.2.2.1, if_pos (nI_le (by omega) (by omega))]; exact e, f⟩
  | succ d ih =>
    intro i n M p hi hn
    have q := p.1
    obtain ⟨n, rfl⟩ : ∃ m, n = m + 1 := ⟨n - 1, by omega⟩
    obtain ⟨z, ez⟩ := has_ex (mI M 14 8) (v := i) (by omega) M
    rw [f_X2_round_2, cs_f q, cs_h0 q, bnd_e, cs_s q, p.2.2.2.2.2.1, if_neg (nI_ge (by omega) (by omega)), cs_h6 q, bnd_e, cs_a16 q, ez, obd_s]
    by_cases c : z = 0
    · rw [if_pos c, cs_i16 q (show i < 16 by omega), bnd_e, bnd_e, nI_1]
      have f1 := f30_s M (nI i).toNatClampNeg 0
      obtain ⟨x, M2, e2, f2⟩ := ih (i + 1) n _ (p.f30 f1) (by omega) (by omega)
      exact ⟨x, M2, e2, f1.tr f2⟩
    · obtain ⟨y, ey⟩ := p.aw h16 (k := i) (by omega) (n := n) (by omega)
      rw [if_neg c, ey, obd_s, cs_i16 q (show i < 16 by omega), bnd_e, bnd_e, nI_1]
      have f1 := f30_s M (nI i).toNatClampNeg y
      obtain ⟨x, M2, e2, f2⟩ := ih (i + 1) n _ (p.f30 f1) (by omega) (by omega)
      exact ⟨x, M2, e2, f1.tr f2⟩
end
/-- how many bits -/
def cb (x : Int32) : Nat := smN (fun i => if bt x i then 1 else 0) 32
theorem smN_eq {f g : Nat → Nat} : ∀ n, (∀ i, i < n → f i ≤ g i) → smN g n ≤ smN f n → ∀ i, i < n → f i = g i := by
  intro n
  induction n with
  | zero => intro _ _ i hi; omega
  | succ n ih =>
    intro h e i hi
    have e' : smN g n + g n ≤ smN f n + f n := e
    have a := smN_le n (fun i hi => h i (by omega))
    have b := h n (by omega)
    rcases Nat.lt_or_ge i n with c | c
    · exact ih (fun i hi => h i (by omega)) (by omega) i c
    · obtain rfl : i = n := by omega
      omega
theorem cb_32 (x : Int32) : cb x ≤ 32 := by
  have h := smN_le (f := fun i => if bt x i then 1 else 0) (g := fun _ => 1) 32 (fun i _ => by show (if bt x i = true then 1 else 0) ≤ 1; split <;> omega)
  rw [smN_k] at h
  exact h
theorem cb_lt {x y : Int32} (h : ∀ j, j < 32 → bt x j = true → bt y j = true) (n : y ≠ x) : cb x < cb y := by
  apply Decidable.byContradiction
  intro c
  apply n
  have le : ∀ i, i < 32 → (if bt x i = true then 1 else 0) ≤ (if bt y i = true then 1 else 0) := by
    intro i hi
    by_cases b : bt x i = true
    · rw [if_pos b, if_pos (h i hi b)]; exact Nat.le_refl _
    · rw [if_neg b]; exact Nat.zero_le _
  have e := smN_eq (f := fun i => if bt x i then 1 else 0) (g := fun i => if bt y i then 1 else 0) 32 le (by unfold cb at c; omega)
  refine b_ext fun i hi => ?_
  have : (if bt x i = true then 1 else 0 : Nat) = (if bt y i = true then 1 else 0) := e i hi
  cases b : bt x i <;> cases b' : bt y i <;> rw [b, b'] at this <;> first | rfl | (exfalso; revert this; decide)
section
variable {M : Mem} {N : Nat} {tw : Bool} {t : Int32} {S : St} {pb pt : List Row4}
theorem rc18 (r : RV M tw t S pb pt) (hN : xR S 20 0 = nI N) (h16 : N ≤ 16) {K : Nat → Int32 → Int32 → Option Int32} {v4 : Int32} (hK0 : ∃ x, K 120 v4 0 = some x) (hK1 : ∀ y, (∀ j, j < 32 → bt v4 j = true → bt y j = true) → y ≠ v4 → ∃ x, K 120 y 1 = some x) : ∀ (d i n : Nat) (v2 : Int32), i + d = N → (∀ j, j < 32 → bt v4 j = true → bt v2 j = true) → d + 30 ≤ n → ∃ x, f_X10_reached_18 K M n 120 v2 v4 (nI i) = some x := by
  intro d
  induction d with
  | zero =>
    intro i n v2 hi hs hn
    obtain ⟨n, rfl⟩ : ∃ m, n = m + 1 := ⟨n - 1, by omega⟩
    rw [f_X10_reached_18, rs_f r.1, rs_0 r.1, bnd_e, rs_fa r.1, rs_c0 r.1, cl0, r.N hN, if_pos (nI_le (by omega) (by omega))]
    by_cases c : v2 = v4
    · rw [if_pos c, c]; exact hK0
    · rw [if_neg c]; exact hK1 v2 hs c
  | succ d ih =>
    intro i n v2 hi hs hn
    obtain ⟨n, rfl⟩ : ∃ m, n = m + 1 := ⟨n - 1, by omega⟩
    obtain ⟨z, e⟩ := has10_ex v4 (v := i) (by omega) M
    have i6 : i < 16 := by omega
    obtain ⟨y, ey⟩ := r.wnw hN h16 i6 (n := n) (by omega)
    rw [f_X10_reached_18, rs_f r.1, rs_0 r.1, bnd_e, rs_fa r.1, rs_c0 r.1, cl0, r.N hN, if_neg (nI_ge (by omega) (by omega)), e, obd_s, r.get0 i6]
    simp only [obd_s, bnd_e, ey]
    rw [nI_1]
    by_cases c : z = 0
    · rw [if_pos c]; exact ih (i + 1) n v2 (by omega) hs (by omega)
    · rw [if_neg c]
      by_cases c1 : xR S 0 i = 1
      · rw [if_pos c1]
        exact ih (i + 1) n (v2 ||| y) (by omega) (fun j hj hb => by rw [b_or, hs j hj hb]; rfl) (by omega)
      · rw [if_neg c1]; exact ih (i + 1) n v2 (by omega) hs (by omega)
theorem rc8 (r : RV M tw t S pb pt) (hN : xR S 20 0 = nI N) (h16 : N ≤ 16) : ∀ (d n : Nat) (v2 v3 : Int32), 32 ≤ cb v2 + d → d + 60 ≤ n → ∃ x, f_X10_reached_8 M n 120 v2 v3 = some x := by
  intro d
  have k0 : ∀ (n : Nat) (v : Int32), 1 ≤ n → ∃ x, f_X10_reached_8 M n 120 v 0 = some x := fun n v hn => by
    obtain ⟨n, rfl⟩ : ∃ m, n = m + 1 := ⟨n - 1, by omega⟩
    exact ⟨v, by rw [f_X10_reached_8, if_pos rfl]⟩
  induction d with
  | zero =>
    intro n v2 v3 hc hn
    obtain ⟨n, rfl⟩ : ∃ m, n = m + 1 := ⟨n - 1, by omega⟩
    rw [f_X10_reached_8]
    split
    · exact ⟨_, rfl⟩
    · refine rc18 r hN h16 (k0 n v2 (by omega)) (fun y hs hy => ?_) N 0 n v2 (by omega) (fun j _ h => h) (by omega)
      have := cb_lt hs hy
      have := cb_32 y
      omega
  | succ d ih =>
    intro n v2 v3 hc hn
    obtain ⟨n, rfl⟩ : ∃ m, n = m + 1 := ⟨n - 1, by omega⟩
    rw [f_X10_reached_8]
    split
    · exact ⟨_, rfl⟩
    · refine rc18 r hN h16 (k0 n v2 (by omega)) (fun y hs hy => ?_) N 0 n v2 (by omega) (fun j _ h => h) (by omega)
      have := cb_lt hs hy
      exact ih n y 1 (by omega) (by omega)
theorem RV.rch (r : RV M tw t S pb pt) (hN : xR S 20 0 = nI N) (h16 : N ≤ 16) {k : Nat} (hk : k < 16) {n : Nat} (hn : 100 ≤ n) : ∃ x, f_X10_reached n 120 (nI k) M = some x := by
  obtain ⟨y, ey⟩ := r.wnw hN h16 hk (n := n) (by omega)
  obtain ⟨x, e⟩ := rc8 r hN h16 32 n y 1 (by omega) (by omega)
  exact ⟨x, by rw [f_X10_reached, rs_f r.1, ey, obd_s]; exact e⟩
theorem rro_l (r : RV M tw t S pb pt) (hN : xR S 20 0 = nI N) (h16 : N ≤ 16) : ∀ (d i n : Nat) (c : Int32), i + d = N → d + 101 ≤ n → ∃ z, f_X10_roundOnes_4 M n 120 c (nI i) = some z := by
  intro d
  induction d with
  | zero =>
    intro i n c hi hn
    obtain ⟨n, rfl⟩ : ∃ m, n = m + 1 := ⟨n - 1, by omega⟩
    exact ⟨c, by rw [f_X10_roundOnes_4, rs_f r.1, rs_0 r.1, bnd_e, rs_fa r.1, rs_c0 r.1, cl0, r.N hN, if_pos (nI_le (by omega) (by omega))]⟩
  | succ d ih =>
    intro i n c hi hn
    obtain ⟨n, rfl⟩ : ∃ m, n = m + 1 := ⟨n - 1, by omega⟩
    have i6 : i < 16 := by omega
    obtain ⟨y, ey⟩ := r.rch hN h16 i6 (n := n) (by omega)
    obtain ⟨z, ez⟩ := has10_ex y (v := i) (by omega) M
    rw [f_X10_roundOnes_4, rs_f r.1, rs_0 r.1, bnd_e, rs_fa r.1, rs_c0 r.1, cl0, r.N hN, if_neg (nI_ge (by omega) (by omega)), r.get0 i6]
    simp only [obd_s, bnd_e, ey, ez]
    rw [nI_1]
    split
    · split
      · exact ih (i + 1) n _ (by omega) (by omega)
      · exact ih (i + 1) n _ (by omega) (by omega)
    · exact ih (i + 1) n _ (by omega) (by omega)
end
theorem ite_ex {c : Prop} [Decidable c] {p q : Option (Int32 × Mem)} {F : Mem → Prop} (a : ∃ x M', p = some (x, M') ∧ F M') (b : ∃ x M', q = some (x, M') ∧ F M') : ∃ x M', (if c then p else q) = some (x, M') ∧ F M' := by
  by_cases h : c
  · rw [if_pos h]; exact a
  · rw [if_neg h]; exact b
theorem op31 {M : Mem} {i n : Nat} (h : WI i M) (a : Int32) (hn : 100000 ≤ n) : Oks i (f_X9_is n 0 a M) (fun M1 => f_X10_is n 120 a M1) := by
  obtain ⟨N, A, Q, S, w⟩ := h
  obtain ⟨X, Y, L, p, sb, xg, xr⟩ := id w.1
  obtain ⟨_, r, z7, sw, hQ⟩ := id w
  have h16 := sw.n16
  have h2 := sw.n2
  have q := p.1
  have key : ∃ x M1, f_X9_is n 0 a M = some (x, M1) ∧ Fr P30 M M1 := by
    have c9 : ∀ x : Option (Int32 × Mem), chk (isO M 9 0) x = x := fun x => chk_t xg.1
    have c7 : ∀ x : Option (Int32 × Mem), chk (isO M 7 1) x = x := fun x => sb.f x
    have c2 : ∀ x : Option (Int32 × Mem), chk (isO M 2 14) x = x := fun x => cs_f q x
    have c5 : ∀ x : Option (Int32 × Mem), chk (isO M 5 15) x = x := fun x => cs_p q x
    have r1 : mR M 14 1 = 15 := cs_h1 q
    have cm := p.cm sw.2.2.2.2.2.1 h16 (n := n) (by omega)
    obtain ⟨y, M1, e1, f1⟩ := rd2 h16 N 0 n M p (by omega) (by omega)
    have er : f_X2_round n 14 M = some (y, M1) := e1
    rw [f_X9_is]
    simp only [c9, c7, c2, c5, r1, xg.2.1, xg.2.2.2.1, bnd_e, cm, er, obd_s, obd2_s]
    have z : ∀ x : Int32, ∃ x' M', some (x, M) = some (x', M') ∧ Fr P30 M M' := fun x => ⟨_, M, rfl, Fr.rf _ _⟩
    exact ite_ex (z _) (ite_ex (z _) (ite_ex (z _) (ite_ex (z _) (ite_ex (z _) (ite_ex (z _) (ite_ex (z _) (ite_ex (z _) (ite_ex (z _) (ite_ex (z _) (ite_ex (z _) (ite_ex (z _) (ite_ex ⟨_, M1, rfl, f1⟩ (z _)))))))))))))
  obtain ⟨x, M1, e1, f1⟩ := key
  have o1 : ∀ o, o ≠ 4 → o ≠ 30 → ∀ b, mI M1 o b = mI M o b := fun o _ n2 b => f1.2.1 o n2 b
  have r1 := r.ow f1.1 o1
  have z1 : mI M1 120 7 = 0 := by rw [o1 120 (by decide) (by decide)]; exact z7
  have ref : ∃ y M2, f_X10_is n 120 a M1 = some (y, M2) ∧ RV M2 false 0 S [] [] ∧ FrM M1 M2 := by
    have c10 : ∀ x : Option (Int32 × Mem), chk (isO M1 10 120) x = x := fun x => rs_f r1.1 x
    have r0 : mR M1 120 0 = 121 := rs_0 r1.1
    have ca : ∀ x : Option (Int32 × Mem), chk (isO M1 100 121) x = x := fun x => rs_fa r1.1 x
    have ln : mLn M1 121 = 10465 := r1.toRK.2.2.2
    have cc : ∀ (k : Int32) (x : Option (Int32 × Mem)), inB k 10465 → chk (inB k 10465) x = x := fun k x h => chk_t h
    obtain ⟨M2, e2, r2, _, f2⟩ := r1.lay sw.n h16 sw.t (ask := 0) (sn := fun v => mI M1 125 v) z1 (fun _ _ => rfl) (n := n) (by omega)
    have em : f_X10_movesNow n 120 M1 = some (mI M2 120 6, M2) := by
      rw [f_X10_movesNow, rs_f r1.1, e2, obd_s, rs_f r2.1]
    obtain ⟨y1, i1, _⟩ := r1.insd sw.n h16 (n := n) (by omega)
    obtain ⟨y2, i2, _⟩ := r1.askg sw.n h16 (n := n) (by omega)
    have i3 := r1.bro sw.n h16 (n := n) (by omega)
    obtain ⟨y4, i4⟩ := rro_l r1 sw.n h16 N 0 n 0 (by omega) (by omega)
    have i5 : f_X10_roundOnes n 120 M1 = some y4 := i4
    have b0 : inB (0 : Int32) 10465 := by decide
    have b1 : inB (850 : Int32) 10465 := by decide
    have b2 : inB (9851 : Int32) 10465 := by decide
    have b3 : inB (9852 : Int32) 10465 := by decide
    have b4 : inB (9853 : Int32) 10465 := by decide
    have b5 : inB (9854 : Int32) 10465 := by decide
    have b6 : inB (9855 : Int32) 10465 := by decide
    have b7 : inB (9856 : Int32) 10465 := by decide
    rw [f_X10_is]
    simp only [c10, r0, ca, ln, bnd_e, em, i1, i2, i3, i5, obd_s, obd2_s, cc _ _ b0, cc _ _ b1, cc _ _ b2, cc _ _ b3, cc _ _ b4, cc _ _ b5, cc _ _ b6, cc _ _ b7]
    have z : ∀ x : Int32, ∃ x' M', some (x, M1) = some (x', M') ∧ RV M' false 0 S [] [] ∧ FrM M1 M' := fun x => ⟨_, M1, rfl, r1, FrM.rf _⟩
    exact ite_ex (z _) (ite_ex (z _) (ite_ex (z _) (ite_ex (z _) (ite_ex (z _) (ite_ex (z _) (ite_ex (z _) (ite_ex (z _) (ite_ex (z _) (ite_ex (z _) (ite_ex ⟨_, M2, rfl, r2, f2⟩ (ite_ex (z _) (ite_ex (z _) (z _)))))))))))))
  obtain ⟨y, M2, e2, r2, f2⟩ := ref
  refine ⟨x, y, M1, M2, e1, r1.1.io (by decide) (by decide) (by decide), e2, w.own f1.1 o1 r2 f2.1 (fun o ho b => f2.2.1 o (by omega) b) ?_ (fun o b => (f2.2.2.2 o b).trans (f1.2.2 o b))⟩
  rw [f2.2.2.1 7 (by decide)]; exact z1
/-! ===== the trial and the search work, the rest of the class stands ===== -/
theorem HV.kt {M M' : Mem} {X Y X' Y' N : Nat} {t : Int32} {Q : Nat → Int32} {S : St} {pb pt : List Row4} (p : HV M 14 X Y t N Q S pb pt) (n1 : mN M ≤ mN M') (tp : ∀ i, i < mN M → M'.1.2.1 i = M.1.2.1 i) (rf : ∀ a b, a < 63 → mR M' a b = mR M a b) (hi : ∀ o, o < 63 ∨ (o = mR M 15 5 ∨ o = mR M 15 6 ∨ o = mR M 15 7) → ∀ b, mI M' o b = mI M o b) (rm : Rm M' 14 X' Y') : HV M' 14 X' Y' t N Q S pb pt := by
  obtain ⟨q, pv, hp, _, ⟨lb, lt⟩, hN, hQ⟩ := p
  have hq := q.2.2.2.2.2.2
  have io : ∀ {c o}, isO M c o → isO M' c o := fun z => ⟨by have := z.1; omega, by rw [mC, tp _ z.1]; exact z.2⟩
  have ln : ∀ {c o l}, isO M c o → mLn M o = l → mLn M' o = l := fun z y => by rw [mLn, tp _ z.1]; exact y
  have lo : ∀ o, o < 63 → ∀ b, mI M' o b = mI M o b := fun o a b => hi o (Or.inl a) b
  have q' : CS M' 14 := by
    obtain ⟨k1, k2, k3, k4, k5, k6, k7⟩ := q
    refine ⟨fun i hi hn => by rw [tp _ (by omega)]; exact k1 i hi hn, fun z hz => ?_, by rw [rf 14 0 (by decide)]; exact k3, io k4, k5, k6, by omega⟩
    have hb : z.1 < 49 := by
      have : ∀ z, z ∈ tH → z.1 < 49 := by decide
      exact this z hz
    rw [rf _ _ (by omega)]; exact k2 z hz
  refine ⟨q', ?_, hp.cg (fun o ho b => lo o (by omega) b) (fun _ _ _ => rfl) rfl, rm, ⟨lb.cg (fun b => lo _ (by omega) b) (fun b => lo _ (by omega) b), lt.cg (fun b => lo _ (by omega) b) (fun b => lo _ (by omega) b)⟩, by rw [lo 1 (by decide)]; exact hN, fun v hv => by rw [lo _ (by omega)]; exact hQ v hv⟩
  obtain ⟨d5, d6, d7, len, K, fr, us, ow, w, hK⟩ := pv
  have ds := w.1
  have ds' : DS M' 14 d5 d6 d7 len := ⟨⟨by rw [rf _ _ (by decide)]; exact ds.1.1, by rw [rf _ _ (by decide)]; exact ds.1.2.1, by rw [rf _ _ (by decide)]; exact ds.1.2.2⟩, ⟨io ds.2.1.1, io ds.2.1.2.1, io ds.2.1.2.2⟩, ⟨ln ds.2.1.1 ds.2.2.1.1, ln ds.2.1.2.1 ds.2.2.1.2.1, ln ds.2.1.2.2 ds.2.2.1.2.2⟩, ds.2.2.2⟩
  exact ⟨d5, d6, d7, len, K, fr, us, ow, w.cg ds' (Nat.le_refl _) w.2.2.2.2.2.2.2.2.2.1.2.2.2.1 (fun i a c b => lo _ (by omega) b) (fun b _ => hi d5 (Or.inr (Or.inl ds.1.1.symm)) b) (fun b _ => hi d6 (Or.inr (Or.inr (Or.inl ds.1.2.1.symm))) b) (fun b _ => hi d7 (Or.inr (Or.inr (Or.inr ds.1.2.2.symm))) b), hK⟩
theorem CW.mov {M M' : Mem} {N X Y L L' e' dC' : Nat} {Q Q' : Nat → Int32} {S S' : St} {t : Int32} {pb pt : List Row4} (p : HV M 14 X Y 0 N Q S [] []) (sb : SB M N S) (xg : XG M) (xc : XC M S) (xv : XV M N S) (lg : ∀ o, o = 7 ∨ o = 9 → ∀ b, mL M' o b = mL M o b) (g : GR M L) (hL : L' ≤ 1520000) (n1 : mN M ≤ mN M') (tp : ∀ i, i < mN M → M'.1.2.1 i = M.1.2.1 i) (rf : ∀ a b, a < mN M → ¬ (a = 64 ∧ 5 ≤ b ∧ b ≤ 7) → ¬ (a = 114 ∧ b = 5) → mR M' a b = mR M a b) (hi : ∀ o, (o < 131 ∧ ¬ (63 ≤ o ∧ o < 112) ∧ ¬ (114 ≤ o ∧ o ≤ 119)) ∨ (o = mR M 15 5 ∨ o = mR M 15 6 ∨ o = mR M 15 7) → ∀ b, mI M' o b = mI M o b) (sp : ∀ j, 5 ≤ j → j ≤ 7 → dC' ≠ mR M 15 j ∧ ∀ i, 5 ≤ i → i ≤ 7 → mR M' 64 i ≠ mR M 15 j) (sx : SX M') (cl : CL M' dC' L' e') (z : mI M' 115 0 = 0) (p63 : HV M' 63 (8384 + 3 * mLn M (mR M 15 5) + L' / 16) (900000 + 6 * mLn M (mR M 15 5) + 2 * L') t N Q' S' pb pt) : CW M' N Q S := by
  have hN := p.1.2.2.2.2.2.2
  have d57 := p.d57
  have R15 : ∀ b, mR M' 15 b = mR M 15 b := fun b => rf 15 b (by omega) (by omega) (by omega)
  have L15 : mLn M' (mR M' 15 5) = mLn M (mR M 15 5) := by
    rw [R15, mLn, tp _ (d57 5 (by decide) (by decide)).2.1]
    rfl
  have s1 : Shp1 M M' := ⟨n1, tp, fun a b ha n => rf a b ha (by omega) (by omega)⟩
  have rm := p63.2.2.2.1
  have l64 := (p63.d57 5 (by decide) (by decide)).2.2.2
  have gr : GR M' L' := by
    refine ⟨?_, ?_, by rw [L15]; exact g.2.2.1, rm.2.2.2.2, by rw [L15]; exact g.2.2.2.2.1, l64⟩
    · rw [L15]
      have : mN M' * 64 ≤ 8384 + 3 * mLn M (mR M 15 5) + L' / 16 + 3 * mLn M' (mR M' 64 5) := rm.1
      omega
    · rw [L15]
      have : mU M' ≤ 900000 + 6 * mLn M (mR M 15 5) + 2 * L' + 6 * mLn M' (mR M' 64 5) := rm.2.1
      omega
  have lo : ∀ o, o < 63 → ∀ b, mI M' o b = mI M o b := fun o a b => hi o (Or.inl ⟨by omega, by omega, by omega⟩) b
  have p14 := p.kt n1 tp (fun a b ha => rf a b (by omega) (by omega) (by omega)) (fun o ho b => ho.elim (fun a => lo o a b) (fun a => hi o (Or.inr a) b)) (gr.r14 hL)
  refine ⟨_, _, L', p14, sb.cg n1 (fun o ho => tp o (by omega)) (fun b => rf 1 b (by omega) (by omega) (by omega)) (lo 1 (by decide)) (lo 2 (by decide)) rfl (fun _ => rfl), xg.s s1, xc.s s1 (fun b => hi 113 (Or.inl ⟨by decide, by decide, by decide⟩) b) (fun _ _ => rfl), xv.s s1 (lo 5 (by decide)) (lo 6 (by decide)) (lo 8 (by decide)) (fun _ => lg) (fun _ => rfl) rfl, ?_, gr, hL⟩
  obtain ⟨d5, d6, d7, len, K, fr, us, ow, w, _⟩ := p63.2.1
  have u := w.2.2.2.2.2.2.2.2.2.1
  exact ⟨e', dC', d5, d6, d7, len, pb ++ xE S', pt ++ xT S', sx, cl, p63.1, ⟨w.1, u.2.2.2.2, u.2.2.2.1⟩, p63.2.2.2.2.1, z, fun j a b => by rw [R15]; exact sp j a b⟩
theorem CW.tri {M : Mem} {N : Nat} {Q : Nat → Int32} {S : St} (h : CW M N Q S) : ∃ X0 Y0 pb pt, TR M 63 X0 Y0 pb pt ∧ (∀ i j, 5 ≤ i → i ≤ 7 → 5 ≤ j → j ≤ 7 → mR M 64 i ≠ mR M 15 j) ∧ ∀ (M' : Mem) (t : Int32) (Q' : Nat → Int32) (S' : St) (pb' pt' : List Row4), FrD M M' 63 → HV M' 63 X0 Y0 t N Q' S' pb' pt' → CW M' N Q S := by
  obtain ⟨X, Y, L, p, sb, xg, xc, xv, xs, g, hL⟩ := h
  obtain ⟨e, dC, e5, e6, e7, len, pb, pt, sx, cl, q, ⟨ds, d64, d18⟩, ⟨lb, lt⟩, z0, dj⟩ := xs
  refine ⟨_, _, pb, pt, ⟨q, ⟨e5, e6, e7, len, ds, d64, d18⟩, g.r63 hL, lb, lt⟩, fun i j a b c d => (dj j c d).2 i a b, fun M' t Q' S' pb' pt' f p63 => ?_⟩
  obtain ⟨x, f⟩ := f
  have hN := p.1.2.2.2.2.2.2
  have d57 := p.d57
  have r57 : ∀ i, 5 ≤ i → i ≤ 7 → mR M 64 i = 63 + 2 + i ∨ 131 ≤ mR M 64 i := by
    obtain ⟨⟨y5, y6, y7⟩, _, _, x5, x6, x7, _⟩ := ds
    have y5' : mR M 64 5 = e5 := y5
    have y6' : mR M 64 6 = e6 := y6
    have y7' : mR M 64 7 = e7 := y7
    intro i a b
    rcases (show i = 5 ∨ i = 6 ∨ i = 7 by omega) with rfl | rfl | rfl
    · rw [y5']; exact x5
    · rw [y6']; exact x6
    · rw [y7']; exact x7
  have r5 := r57 5 (by decide) (by decide)
  have r6 := r57 6 (by decide) (by decide)
  have r7 := r57 7 (by decide) (by decide)
  have fu : FrUp (sL M 63 16 x) M' := f.up hN r57
  have sx' := SX.up (M := sL M 63 16 x) sx fu
  have cl' := (CL.up (M := sL M 63 16 x) cl hN fu).1
  have f4 : ∀ o, o < mN M → ¬ (63 ≤ o ∧ o < 63 + 49) → o ≠ mR M 64 5 → o ≠ mR M 64 6 → o ≠ mR M 64 7 → ∀ b, mI M' o b = mI M o b := f.2.2.2.1
  have f6 : ∀ j, 5 ≤ j → j ≤ 7 → mR M' 64 j = mR M 64 j ∨ mN M ≤ mR M' 64 j := f.2.2.2.2.2
  refine CW.mov p sb xg xc xv (fun o ho b => (f.2.2.2.2.1 o (show o < mN M by omega) b).trans (mL_o _ _ _ _ (by omega))) g hL f.1 f.2.1 (fun a b ha n _ => f.2.2.1 a b ha n) (fun o ho b => ?_) (fun j a b => ⟨(dj j a b).1, fun i c d => ?_⟩) sx' cl' ?_ p63
  · rcases ho with ho | ho
    · exact f4 o (by omega) (by omega) (by omega) (by omega) (by omega) b
    · have key : ∀ j, 5 ≤ j → j ≤ 7 → o = mR M 15 j → mI M' o b = mI M o b := fun j h5 h7 ej => by
        have dd := d57 j h5 h7
        have e1 : (mR M 15 j = 14 + 2 + j ∨ 131 ≤ mR M 15 j) ∧ mR M 15 j < mN M := ⟨dd.1, dd.2.1⟩
        have n5 := (dj j h5 h7).2 5 (by decide) (by decide)
        have n6 := (dj j h5 h7).2 6 (by decide) (by decide)
        have n7 := (dj j h5 h7).2 7 (by decide) (by decide)
        exact f4 o (by omega) (by omega) (by omega) (by omega) (by omega) b
      rcases ho with ho | ho | ho
      · exact key 5 (by decide) (by decide) ho
      · exact key 6 (by decide) (by decide) ho
      · exact key 7 (by decide) (by decide) ho
  · have e1 : mR M 15 j < mN M := (d57 j a b).2.1
    have n := (dj j a b).2 i c d
    rcases f6 i c d with e | e
    · rw [e]; exact n
    · omega
  · rw [f4 115 (by omega) (by omega) (by omega) (by omega) (by omega)]; exact z0
/-- the rows in which the hall's letters lie -/
def D14 (M : Mem) (o : Nat) : Prop := o = mR M 15 5 ∨ o = mR M 15 6 ∨ o = mR M 15 7
theorem D14.e {M : Mem} {o : Nat} (h : D14 M o) : ∃ j, 5 ≤ j ∧ j ≤ 7 ∧ o = mR M 15 j := by
  rcases h with h | h | h
  · exact ⟨5, by decide, by decide, h⟩
  · exact ⟨6, by decide, by decide, h⟩
  · exact ⟨7, by decide, by decide, h⟩
theorem D14.i {M : Mem} {j : Nat} (a : 5 ≤ j) (b : j ≤ 7) : D14 M (mR M 15 j) := by
  rcases (show j = 5 ∨ j = 6 ∨ j = 7 by omega) with rfl | rfl | rfl
  · exact Or.inl rfl
  · exact Or.inr (Or.inl rfl)
  · exact Or.inr (Or.inr rfl)
theorem pw_18 {l : Nat} (h : ∃ z, l = 64 * 2 ^ z) (h18 : l ≤ 18000) : l ≤ 16384 := by
  obtain ⟨z, rfl⟩ := h
  apply Decidable.byContradiction
  intro c
  have : 9 ≤ z := by
    apply Decidable.byContradiction
    intro d
    have := Nat.pow_le_pow_right (n := 2) (by decide) (show z ≤ 8 by omega)
    omega
  have := Nat.pow_le_pow_right (n := 2) (by decide) this
  omega
theorem CW.sea {M : Mem} {N : Nat} {Q : Nat → Int32} {S : St} (h : CW M N Q S) : ∃ X0 Y0 pb pt, SR M X0 Y0 pb pt ∧ X0 ≤ 100000 ∧ Y0 ≤ 1000000 ∧ (∀ i j, 5 ≤ i → i ≤ 7 → 5 ≤ j → j ≤ 7 → mR M 64 i ≠ mR M 15 j) ∧ Sep (D14 M) M (mR M 114 5) ∧ ∀ (M' : Mem) (t : Int32) (Q' : Nat → Int32) (pb' pt' : List Row4) (A P most : Nat) (S0 : St) (ask : Int32) (sn : Nat → Int32) (q : Bq), CM (D14 M) X0 Y0 t N Q' pb' pt' A P most S0 ask sn M' q → FrS (D14 M) M M' → CW M' N Q S := by
  obtain ⟨X, Y, L, p, sb, xg, xc, xv, xs, g, hL⟩ := h
  obtain ⟨e, dC, e5, e6, e7, len, pb, pt, sx, cl, q, ⟨ds, d64, d18⟩, ⟨lb, lt⟩, z0, dj⟩ := xs
  have d57 := p.d57
  have l16 := pw_18 g.2.2.1 g.2.2.2.2.1
  refine ⟨8384 + 3 * mLn M (mR M 15 5), 900000 + 6 * mLn M (mR M 15 5), pb, pt, ⟨L, e, dC, sx, cl, ⟨q, ⟨e5, e6, e7, len, ds, d64, d18⟩, g.r63 hL, lb, lt⟩, z0⟩, by omega, by omega, fun i j a b c d => (dj j c d).2 i a b, fun o ho => ?_, fun M' t Q' pb' pt' A P most S0 ask sn qq hm f => ?_⟩
  · obtain ⟨j, a, b, rfl⟩ := ho.e
    have dd := d57 j a b
    have e1 : (mR M 15 j = 14 + 2 + j ∨ 131 ≤ mR M 15 j) ∧ mR M 15 j < mN M := ⟨dd.1, dd.2.1⟩
    refine ⟨e1.2, by omega, by omega, ?_, fun i c d => ((dj j a b).2 i c d).symm⟩
    rw [cl.1]; exact ((dj j a b).1).symm
  · obtain ⟨S1, e', dC', dd, ⟨L', sx', cl', p63⟩, gs, sq, sep⟩ := hm
    obtain ⟨f1, f2, f3, f4, f5⟩ := f
    refine CW.mov p sb xg xc xv (fun o ho b => f5 o (by have := p.1.2.2.2.2.2.2; omega) b) g cl'.2.2.2.2.2.2.2.1 f1 f2 f3 f4 (fun j a b => ?_) sx' cl' ?_ p63
    · obtain ⟨s1, s2, s3, s4, s5⟩ := sep (mR M 15 j) (D14.i a b)
      exact ⟨fun z => s4 z.symm, fun i c d z => s5 i c d z.symm⟩
    · rw [sq.1.1 0 (Nat.zero_le _)]; rfl
/-! ===== entersBy, from any state between the calls ===== -/
/-- how many moves by draws till v is in; -1: never -/
def eN (N v : Nat) : Nat → Nat → St → Int64 → Int32
  | 0, i, S, _ => if xR S 0 v = 2 then nI i else -1
  | d + 1, i, S, g => if xR S 0 v = 2 then nI i else if mv0 N S = [] then -1 else eN N v d (i + 1) (dm 0 N (((mv0 N S)[dk g (mv0 N S).length]?).getD 0) S) (drw g)
theorem eN_2 {N v d i : Nat} {S : St} {g : Int64} (c : xR S 0 v = 2) : eN N v d i S g = nI i := by
  cases d with
  | zero => show (if xR S 0 v = 2 then nI i else -1) = _; rw [if_pos c]
  | succ d => show (if xR S 0 v = 2 then nI i else _) = _; rw [if_pos c]
theorem eN_e {N v d i : Nat} {S : St} {g : Int64} (c : ¬ xR S 0 v = 2) (h : mv0 N S = []) : eN N v d i S g = -1 := by
  cases d with
  | zero => show (if xR S 0 v = 2 then nI i else -1) = _; rw [if_neg c]
  | succ d => show (if xR S 0 v = 2 then nI i else if mv0 N S = [] then -1 else _) = _; rw [if_neg c, if_pos h]
theorem eN_s {N v d i m : Nat} {S : St} {g : Int64} (c : ¬ xR S 0 v = 2) (h : mv0 N S ≠ []) (hm : (mv0 N S)[dk g (mv0 N S).length]? = some m) : eN N v (d + 1) i S g = eN N v d (i + 1) (dm 0 N m S) (drw g) := by
  show (if xR S 0 v = 2 then nI i else if mv0 N S = [] then -1 else _) = _
  rw [if_neg c, if_neg h, hm]
  rfl
theorem eN_c {N A v : Nat} {P : Nat → Nat} {S0 : St} (h16 : N ≤ 16) (hA : A < 1048576) (hv : v < 16) : ∀ (d i : Nat) (S S' : St) (g : Int64), Gk g → SE S S' → GI N A P S0 S → eN N v d i S g = eN N v d i S' g := by
  intro d
  induction d with
  | zero =>
    intro i S S' g hg h _
    show (if xR S 0 v = 2 then nI i else -1) = (if xR S' 0 v = 2 then nI i else -1)
    rw [h.1 0 v (by omega) hv]
  | succ d ih =>
    intro i S S' g hg h hI
    have e0 := h.1 0 v (by omega) hv
    have em := mv0_c h h16
    by_cases c : xR S 0 v = 2
    · rw [eN_2 c, eN_2 (e0 ▸ c)]
    · have c' : ¬ xR S' 0 v = 2 := fun z => c (e0.trans z)
      by_cases k : mv0 N S = []
      · rw [eN_e c k, eN_e c' (em ▸ k)]
      · have hl : 0 < (mv0 N S).length := List.length_pos_iff.mpr k
        have hm : (mv0 N S).length < 1000 := by
          have e := mvl_0 N S (fun _ => 0)
          have := mvl_len (N := N) S 0 (fun _ => 0)
          rw [e] at this
          omega
        obtain ⟨j, hj, ej⟩ := drk_lt hg hl hm
        have hd : dk g (mv0 N S).length = j := by unfold dk; rw [ej, nI_clamp (by omega)]
        have hc : (mv0 N S)[dk g (mv0 N S).length]? = some ((mv0 N S)[j]) := by rw [hd]; exact List.getElem?_eq_getElem hj
        have mem : (mv0 N S)[j] ∈ mv0 N S := List.getElem_mem hj
        generalize (mv0 N S)[j] = m at hc mem
        rw [eN_s c k hc, eN_s (m := m) c' (em ▸ k) (by rw [← em]; exact hc)]
        refine ih (i + 1) _ _ (drw g) (Gk_drw hg) (h.tdm hI.1 h16 ?_) (hI.tdm h16 hA mem 0)
        rcases mv0_in hI.1 h16 mem with ⟨h1, h2, h3, _⟩ | ⟨h1, h2, h3, _⟩
        · exact Or.inl ⟨h1, h2, h3⟩
        · exact Or.inr (Or.inl ⟨h1, h2, h3⟩)
section
variable {N A v : Nat} {P : Nat → Nat} {S0 : St}
theorem ceb {Q : Nat → Int32} {X Y : Nat} {pb pt : List Row4} (h2 : 2 ≤ N) (h16 : N ≤ 16) (hA : A < 1048576) (hP : smN P 16 + N ≤ 9000) (hv : v < 16) : ∀ (d i n : Nat) (M : Mem) (S : St) (g : Int64), i + d = 500 → HV M 63 X Y 0 N Q S pb pt → XT M → mL M 63 16 = g → Gk g → GI N A P S0 S → d + 60 ≤ n → ∃ M' S', f_X9_entersBy_39 n 0 (nI v) (nI i) M = some (eN N v d i S g, M') ∧ HV M' 63 X Y 0 N Q S' pb pt ∧ FrD M M' 63 := by
  intro d
  have one : ∀ (i n : Nat) (M : Mem) (S : St) (z : Option (Int32 × Mem)), HV M 63 X Y 0 N Q S pb pt → XT M → 1 ≤ n → (xR S 0 v = 2 → z = some (nI i, M)) → (¬ xR S 0 v = 2 → z = if (500 : Int32) ≤ nI i then some ((-1 : Int32), M) else (bnd (mR M 0 3) fun o11 => chk (isO M 2 o11) <| obd2 (f_X2_moveByDraw (n - 1) o11 M) fun r15 M16 => if r15 = 0 then some ((-1 : Int32), M16) else bnd (nI i + (1 : Int32)) fun x19 => f_X9_entersBy_39 (n - 1) 0 (nI v) x19 M16)) → f_X9_entersBy_39 n 0 (nI v) (nI i) M = z := by
    intro i n M S z p x hn z1 z2
    obtain ⟨n, rfl⟩ : ∃ m, n = m + 1 := ⟨n - 1, by omega⟩
    have hb := p.2.2.1.2.1 v (by omega)
    have eh : f_X9_has (mI M 63 7) (nI v) M = some (if xR S 0 v = 2 then 1 else 0) := by
      rw [f_has9 _ (show v < 32 by omega), hb]
      by_cases c : xR S 0 v = 2
      · rw [decide_eq_true (⟨hv, c⟩ : v < 16 ∧ xR S 0 v = 2), if_pos c]; rfl
      · rw [decide_eq_false (fun y => c y.2), if_neg c]; rfl
    rw [f_X9_entersBy_39, chk_t x.1, x.2.2.2.1, bnd_e, cs_f p.1, eh, obd_s]
    by_cases c : xR S 0 v = 2
    · rw [z1 c, if_pos c, if_neg ne10]
    · rw [z2 c, if_neg c, if_pos rfl, x.2.2.2.1]
      rfl
  induction d with
  | zero =>
    intro i n M S g hi p x hg hG hI hn
    refine ⟨M, S, one i n M S _ p x (by omega) (fun c => by rw [eN_2 c]) (fun c => ?_), p, (FrH.rf M 63).D⟩
    rw [if_pos (show (500 : Int32) ≤ nI i from nI_le (a := 500) (by omega) (by omega))]
    show some ((if xR S 0 v = 2 then nI i else -1), M) = _
    rw [if_neg c]
  | succ d ih =>
    intro i n M S g hi p x hg hG hI hn
    have hl := hI.tfl
    by_cases c : xR S 0 v = 2
    · exact ⟨M, S, one i n M S _ p x (by omega) (fun c => by rw [eN_2 c]) (fun z => absurd c z), p, (FrH.rf M 63).D⟩
    · obtain ⟨d1, d2⟩ := p.dr (n := n - 1) hI.1 hA h2 h16 (by omega) (by have := p.1.2.2.2.2.2.2; omega) hg hG (by omega)
      by_cases k : mv0 N S = []
      · refine ⟨M, S, one i n M S _ p x (by omega) (fun z => absurd z c) (fun _ => ?_), p, (FrH.rf M 63).D⟩
        rw [if_neg (show ¬ (500 : Int32) ≤ nI i from nI_ge (b := 500) (by omega) (by decide)), x.2.2.2.1, bnd_e, cs_f p.1, d1 k, obd2_s, if_pos rfl, eN_e c k]
      · obtain ⟨m, M1, hm, e1, p1, g1, f1⟩ := d2 k
        have mem : m ∈ mv0 N S := List.mem_of_getElem? hm
        obtain ⟨M', S', e', p', f'⟩ := ih (i + 1) (n - 1) M1 _ (drw g) (by omega) p1 (x.frD f1) g1 (Gk_drw hG) (hI.tdm h16 hA mem 0) (by omega)
        refine ⟨M', S', one i n M S _ p x (by omega) (fun z => absurd z c) (fun _ => ?_), p', f1.tr f'⟩
        rw [if_neg (show ¬ (500 : Int32) ≤ nI i from nI_ge (b := 500) (by omega) (by decide)), x.2.2.2.1, bnd_e, cs_f p.1, e1, obd2_s, if_neg ne10, bnd_e, nI_1, e', eN_s c k hm]
theorem e56 {M : Mem} {S : St} {i n : Nat} (r : RV M false 0 S [] []) (hv : v < 16) (hn : 10466 ≤ n) : f_X10_entersBy_56 n 120 (nI v) (nI i) M = some ((if xR S 0 v = 2 then nI i else -1), cpF M 126 121 0) := by
  rw [f_X10_entersBy_56, rs_f r.1, r.get0 hv, obd_s]
  by_cases c : xR S 0 v = 2
  · rw [if_pos c, if_pos c, f_X10_entersBy_71, rs_f r.1, f_back r.1 hn, obd_s, if_neg ne10]
  · rw [if_neg c, if_neg c, f_X10_entersBy_71, rs_f r.1, f_back r.1 hn, obd_s, if_pos rfl]
theorem reb (h2 : 2 ≤ N) (h16 : N ≤ 16) (hA : A < 1048576) (hP : smN P 16 + N ≤ 9000) (hv : v < 16) (hN : xR S0 20 0 = nI N) (ht : xR S0 20 1 = 1 → N % 2 = 1) : ∀ (d i n : Nat) (M : Mem) (S : St) (g : Int64), i + d = 500 → RV M false 0 S [] [] → mI M 120 7 = 0 → mL M 120 8 = g → Gk g → GI N A P S0 S → d + 11000 ≤ n → ∃ M', f_X10_entersBy_26 n 120 (nI v) (nI i) M = some (eN N v d i S g, cpF M' 126 121 0) ∧ FrG M M' := by
  intro d
  induction d with
  | zero =>
    intro i n M S g hi r h7 hg hG hI hn
    obtain ⟨n, rfl⟩ : ∃ m, n = m + 1 := ⟨n - 1, by omega⟩
    refine ⟨M, ?_, FrG.rf M⟩
    rw [f_X10_entersBy_26, if_pos (show (500 : Int32) ≤ nI i from nI_le (a := 500) (by omega) (by omega)), e56 r hv (by omega)]
    rfl
  | succ d ih =>
    intro i n M S g hi r h7 hg hG hI hn
    obtain ⟨n, rfl⟩ : ∃ m, n = m + 1 := ⟨n - 1, by omega⟩
    have hl := hI.tfl
    have hR := hI.2.2.2.2
    have l5 : ¬ (500 : Int32) ≤ nI i := nI_ge (b := 500) (by omega) (by decide)
    by_cases c : xR S 0 v = 2
    · refine ⟨M, ?_, FrG.rf M⟩
      rw [f_X10_entersBy_26, if_neg l5, rs_f r.1, r.get0 hv, obd_s, if_pos c, e56 r hv (by omega), if_pos c, eN_2 c]
    · obtain ⟨M1, d1, d2, f1⟩ := r.goO (n := n) hI.1 (by rw [hR 20 0 (by omega)]; exact hN) h2 h16 (by rw [hR 20 1 (by omega)]; exact ht) hA (by omega) h7 hg hG (by omega)
      by_cases k : mv0 N S = []
      · obtain ⟨e1, r1, _⟩ := d1 k
        refine ⟨M1, ?_, f1⟩
        rw [f_X10_entersBy_26, if_neg l5, rs_f r.1, r.get0 hv, obd_s, if_neg c, e1, obd2_s, if_pos rfl, e56 r1 hv (by omega), if_neg c, eN_e c k]
      · obtain ⟨m, hm, e1, r1, g1⟩ := d2 k
        have mem : m ∈ mv0 N S := List.mem_of_getElem? hm
        obtain ⟨M', e', f'⟩ := ih (i + 1) n M1 _ (drw g) (by omega) r1 (by rw [f1.2.2.1 7 (by decide)]; exact h7) g1 (Gk_drw hG) (hI.tdm h16 hA mem 0) (by omega)
        refine ⟨M', ?_, f1.tr f'⟩
        rw [f_X10_entersBy_26, if_neg l5, rs_f r.1, r.get0 hv, obd_s, if_neg c, e1, obd2_s, if_neg ne10, bnd_e, nI_1, e', eN_s c k hm]
end
/-- what was put aside is brought back -/
theorem RV.bk {M M3 : Mem} {tw : Bool} {S : St} {t : Int32} {pb pt : List Row4} (r : RV M false t S pb pt) (e : M3.1 = M.1) (h3 : mI M3 120 3 = mI M 120 3) (h6 : ∀ b, b < 10465 → mI M3 126 b = mI M 121 b) : RV (cpF M3 126 121 0) false t S pb pt := by
  have e3 : ∀ b, b < 10465 → mI (cpF M3 126 121 0) 121 b = mI M 121 b := fun b hb => by
    show (if 121 = 121 ∧ 0 ≤ b ∧ b < 10465 then M3.2.1 126 b else M3.2.1 121 b) = _
    rw [if_pos ⟨rfl, Nat.zero_le _, hb⟩]
    exact h6 b hb
  have e120 : mI (cpF M3 126 121 0) 120 3 = mI M 120 3 := by
    show (if 120 = 121 ∧ 0 ≤ 3 ∧ 3 < 10465 then M3.2.1 126 3 else M3.2.1 120 3) = _
    rw [if_neg (by decide)]
    exact h3
  obtain ⟨hS, ht, hA, hw, hl, hb1, hb2⟩ := r
  have h9 := hl.2.1
  refine ⟨hS.e e, e120.trans ht, fun k i hv => ?_, hw.cg (fun b _ hb => e3 b (by omega)) rfl, ⟨(e3 850 (by decide)).trans hl.1, h9, fun i q hq => ?_⟩, hb1.cg (e3 _ (by decide)) (fun b _ hb => e3 b (by omega)), hb2.cg (e3 _ (by decide)) (fun b _ hb => e3 b (by omega))⟩
  · have ac := ad_cases hv
    rw [e3 _ (by omega)]; exact hA k i hv
  · have := gl_lt hq
    exact ⟨(e3 _ (by omega)).trans (hl.2.2 i q hq).1, fun z => by cases z⟩
theorem clr_SE (S : St) : SE (clr S) S := ⟨fun _ _ _ _ => rfl, fun _ _ => rfl, fun _ _ => rfl⟩
theorem Inv.clr {N A : Nat} {S : St} (h : Inv N A S) : Inv N A (clr S) := h.reg ⟨rfl, fun _ _ _ _ => rfl⟩ rfl
theorem WJ.gc {M : Mem} {N A i : Nat} {Q : Nat → Int32} {S : St} (w : WJ M N A i Q S) : GI N A (fun a => Ph a S) S (clr S) := by
  have sw := w.2.2.2.1
  exact ⟨sw.inv.clr, (clr_SE S).sy.tix sw.n16 sw.ix, sw.iz, fun a _ => by rw [(clr_SE S).tPh a]; exact Nat.le_refl _, fun _ _ _ => rfl⟩
/-- the reference has worked on its own and brought all back -/
theorem WJ.rfb {M M1 M3 : Mem} {N A i : Nat} {Q : Nat → Int32} {S : St} (w : WJ M N A i Q S) (cw : CW M1 N Q S) (r1 : RV M1 false 0 S [] []) (z1 : mI M1 120 7 = 0) (e : M3.1 = M1.1) (hI : ∀ o, ¬ (120 ≤ o ∧ o ≤ 130) → ∀ b, mI M3 o b = mI M1 o b) (h3 : mI M3 120 3 = mI M1 120 3) (h7 : mI M3 120 7 = mI M1 120 7) (h6 : ∀ b, b < 10465 → mI M3 126 b = mI M1 121 b) (hl : ∀ o, o = 7 ∨ o = 9 → ∀ b, mL M3 o b = mL M1 o b) : WI (i + 1) (cpF M3 126 121 0) := by
  have sw := w.2.2.2.1
  have o : ∀ o, o ≠ 121 → ∀ b, mI (cpF M3 126 121 0) o b = mI M3 o b := fun o n b => by
    show (if o = 121 ∧ 0 ≤ b ∧ b < 10465 then M3.2.1 126 b else M3.2.1 o b) = _
    rw [if_neg (fun z => n z.1)]; rfl
  refine ⟨N, A, Q, S, cw.ref e (fun k hk b => by rw [o k (by omega)]; exact hI k hk b) (fun _ => hl), r1.bk (tw := false) e h3 h6, ?_, sw.mo, w.2.2.2.2⟩
  rw [o 120 (by decide), h7]; exact z1
theorem op40 {M : Mem} {i n : Nat} (h : WI i M) (hi : i ≤ 511) (a b : Int32) (hn : 100000 ≤ n) : Okk i (f_X9_entersBy n 0 a b M) (fun M1 => f_X10_entersBy n 120 a b M1) := by
  obtain ⟨N, A, Q, S, w⟩ := h
  obtain ⟨X, Y, L, p, sb, xg, xr⟩ := id w.1
  obtain ⟨_, r, z7, sw, hQ⟩ := id w
  have h16 := sw.n16
  have h2 := sw.n2
  have hA := sw.a
  have ps := sw.ps hi
  rcases out_in (N := N) (by omega) a with ha | ⟨v, hv, rfl⟩
  · refine Okk.same w (r := -1) ?_ ?_
    · rw [f_X9_entersBy, chk_t xg.1, xg.2.1, bnd_e, sb.f, ndc0 sb ha, obd_s, if_pos rfl]
    · show f_X10_entersBy n 120 a b M = _
      rw [f_X10_entersBy, rs_f r.1, ndr0 r sw.n (by omega) h16 ha, obd_s, if_pos rfl]
  · by_cases hb : b < 0
    · have n0 : ¬ 0 ≤ b := Int32.not_le.mpr hb
      refine Okk.same w (r := -1) ?_ ?_
      · rw [f_X9_entersBy, chk_t xg.1, xg.2.1, bnd_e, sb.f, ndc sb hv h16, obd_s, if_neg ne10, if_neg n0]
      · show f_X10_entersBy n 120 (nI v) b M = _
        rw [f_X10_entersBy, rs_f r.1, ndr r sw.n hv h16, obd_s, if_neg ne10, if_neg n0]
    · obtain ⟨s, hs, rfl⟩ := nn_e hb
      have le0 : (0 : Int32) ≤ nI s := nI_le (a := 0) (Nat.zero_le _) hs
      have hP : smN (fun a => Ph a S) 16 + N ≤ 9000 := by
        show PhS S + N ≤ 9000
        omega
      obtain ⟨X0, Y0, pb, pt, tr, dj, fin⟩ := w.1.tri
      have x0 : XT M := ⟨xg.1, xg.2.1, xg.2.2.2.1, xg.2.2.2.2.1, p.1.2.2.2.2.2.2⟩
      obtain ⟨M1, e1, p1, f1⟩ := p.copy tr (by omega) h16 dj (fun v hv => (sw.inv.1 v hv).2.2.2) (fun v hv w hw => by have := ((sw.inv.2.2.2.2.2.1 v hv).1.2.2 w hw).1; omega) (n := n) (by omega)
      have x1 := x0.fr f1
      obtain ⟨M2, S2, e2, p2, f2⟩ := ceb (v := v) h2 h16 (show A < 1048576 by omega) hP (by omega) 500 0 n (sL M1 63 16 ((nI s).toInt64)) (clr S) _ (by omega) (p1.tsL _ _ _) (x1.sL _ _ _) (mL_s _ _ _ _) (lN_Gk hs) w.gc (by omega)
      have fD : FrD M M2 63 := f1.D.tr (FrD.tr ⟨_, FrH.rf _ _⟩ f2)
      have cw := fin M2 0 Q S2 pb pt fD p2
      have ec : f_X9_entersBy n 0 (nI v) (nI s) M = some (eN N v 500 0 S ((nI s).toInt64), M2) := by
        rw [f_X9_entersBy, chk_t xg.1, xg.2.1, bnd_e, sb.f, ndc sb hv h16, obd_s, if_neg ne10, if_pos le0, xg.2.2.2.2.1, bnd_e, cs_f tr.1, xg.2.2.2.1, bnd_e, cs_f p.1, e1, obd_s, chk_t x1.1, x1.2.2.2.1, bnd_e, cs_f p1.1, bnd_e]
        refine Eq.trans (show _ = f_X9_entersBy_39 n 0 (nI v) (nI 0) (sL M1 63 16 ((nI s).toInt64)) from rfl) ?_
        rw [e2, eN_c h16 (show A < 1048576 by omega) (show v < 16 by omega) 500 0 (clr S) S _ (lN_Gk hs) (clr_SE S) w.gc]
      -- the reference
      have fo : ∀ o, 120 ≤ o → o < 131 → M2.1.2.1 o = M.1.2.1 o ∧ (∀ b, mR M2 o b = mR M o b) ∧ ∀ b, mI M2 o b = mI M o b := by
        obtain ⟨x, f⟩ := id fD
        have hN := p.1.2.2.2.2.2.2
        have r57 : ∀ i, 5 ≤ i → i ≤ 7 → mR M 64 i = 63 + 2 + i ∨ 131 ≤ mR M 64 i := by
          obtain ⟨_, ⟨e5, e6, e7, len, ds, _⟩, _⟩ := tr
          obtain ⟨⟨y5, y6, y7⟩, _, _, x5, x6, x7, _⟩ := ds
          have y5' : mR M 64 5 = e5 := y5
          have y6' : mR M 64 6 = e6 := y6
          have y7' : mR M 64 7 = e7 := y7
          intro i a b
          rcases (show i = 5 ∨ i = 6 ∨ i = 7 by omega) with rfl | rfl | rfl
          · rw [y5']; exact x5
          · rw [y6']; exact x6
          · rw [y7']; exact x7
        have fo := FrH.o (M := sL M 63 16 x) f hN r57
        intro o a b
        obtain ⟨g1, g2, g3, _⟩ := fo.2 o (by omega) b
        exact ⟨g1, g2, g3⟩
      have n2 : mN M ≤ mN M2 := by
        obtain ⟨x, f⟩ := id fD
        exact f.1
      have r2 : RV M2 false 0 S [] [] := r.mr n2 fo
      have z2 : mI M2 120 7 = 0 := by rw [(fo 120 (by decide) (by decide)).2.2]; exact z7
      have ea := f_aside r2.1 (n := n) (by omega)
      generalize hMa : cpF M2 121 126 0 = Ma at ea
      have oa : ∀ o, o ≠ 126 → ∀ b, mI Ma o b = mI M2 o b := fun o n b => by
        rw [← hMa]
        show (if o = 126 ∧ 0 ≤ b ∧ b < 10465 then M2.2.1 121 b else M2.2.1 o b) = M2.2.1 o b
        rw [if_neg (fun z => n z.1)]
      have ob : ∀ b, b < 10465 → mI Ma 126 b = mI M2 121 b := fun b hb => by
        rw [← hMa]
        show (if 126 = 126 ∧ 0 ≤ b ∧ b < 10465 then M2.2.1 121 b else M2.2.1 126 b) = M2.2.1 121 b
        rw [if_pos ⟨rfl, Nat.zero_le _, hb⟩]
      have sa : Ma.1 = M2.1 := by rw [← hMa]; rfl
      have pa : RV Ma false 0 S [] [] := r2.cg sa (oa 120 (by decide) 3) (oa 121 (by decide)) (oa 123 (by decide))
      obtain ⟨M3, e3, f3⟩ := reb (v := v) h2 h16 (show A < 1048576 by omega) hP (by omega) sw.n sw.t 500 0 n (sL Ma 120 8 ((nI s).toInt64)) S _ (by omega) (pa.tsL _ _ _) (by show mI Ma 120 7 = 0; rw [oa 120 (by decide)]; exact z2) (mL_s _ _ _ _) (lN_Gk hs) w.gi (by omega)
      have f31 : M3.1 = Ma.1 := f3.1
      have f32 : ∀ o, ¬ (120 ≤ o ∧ o ≤ 124) → ∀ k, mI M3 o k = mI Ma o k := f3.2.1
      have f33 : ∀ k, k ≠ 6 → mI M3 120 k = mI Ma 120 k := f3.2.2.1
      refine ⟨_, M2, _, ec, r2.1.io (by decide) (by decide) (by decide), ?_, w.rfb cw r2 z2 (f31.trans sa) (fun o ho b => by rw [f32 o (by omega), oa o (by omega)]) (by rw [f33 3 (by decide), oa 120 (by decide)]) (by rw [f33 7 (by decide), oa 120 (by decide)]) (fun b hb => by rw [f32 126 (by decide)]; exact ob b hb) (fun o ho b => (f3.2.2.2 o b (by omega)).trans ((mL_o _ _ _ _ (by omega)).trans (by rw [← hMa]; rfl)))⟩
      show f_X10_entersBy n 120 (nI v) (nI s) M2 = _
      rw [f_X10_entersBy, rs_f r2.1, ndr r2 sw.n hv h16, obd_s, if_neg ne10, if_pos le0, ea, obd_s, rs_f pa.1, bnd_e]
      exact e3
