/-! ===== the reference: what is told of a crowd ===== -/
theorem rs_10 {M : Mem} (h : RS M) : mR M 120 10 = 127 := h.r (by decide)
theorem rs_f10 {α : Type} {M : Mem} (h : RS M) (x : Option α) : chk (isO M 100 127) x = x := chk_t (h.io (by decide) (by decide) (by decide))
theorem rs_c10 {α : Type} {M : Mem} (h : RS M) {k : Nat} (hk : k < 16) (x : Option α) : chk (inB (nI k) (mLn M 127)) x = x := by
  refine chk_t ?_
  rw [h.ln (c := 16) (by decide) (by decide) (by decide)]; exact inB_n hk (by decide)
theorem mx_nle (a b : Int32) : mxI a b = if b ≤ a then a else b := by
  unfold mxI
  by_cases c : a < b
  · rw [if_pos c, if_neg (Int32.not_le.mpr c)]
  · rw [if_neg c, if_pos (Int32.not_lt.mp c)]
/-- as cT, but of none 0 -/
def cR (N : Nat) (S0 S : St) (w : Nat) : Int32 :=
  if w = 0 then xR S 15 0 - xR S0 15 0 else if w = 1 then (if fwl S0 S (List.range N) (-1) = -1 then 0 else fwl S0 S (List.range N) (-1)) else if w = 2 then mwl S0 S (List.range N) 0 else if w = 3 then xR S 15 2 - xR S0 15 2 else if w = 4 then sa6 S - sa6 S0 else xR S 15 4
theorem RV.sent {M : Mem} {tw : Bool} {t : Int32} {S : St} {pb pt : List Row4} (p : RV M tw t S pb pt) {n : Nat} (hn : 7 ≤ n) : f_X10_sentAll n 120 M = some (sa6 S) := by
  obtain ⟨n, rfl⟩ : ∃ m, n = m + 7 := ⟨n - 7, by omega⟩
  have st : ∀ j m x, j < 6 → f_X10_sentAll_4 M (m + 1) 120 x (nI j) = f_X10_sentAll_4 M m 120 (x + xR S 16 j) (nI (j + 1)) := fun j m x hj => by
    have e := p.rg (k := 16) (i := j) (by unfold vk; omega)
    rw [show ad 16 j = 9859 + j from rfl] at e
    rw [f_X10_sentAll_4, if_neg (show ¬ (6 : Int32) ≤ nI j from nI_ge (a := j) (b := 6) hj (by decide)), rs_f p.1, rs_0 p.1, bnd_e, rs_fa p.1, show (9859 : Int32) + nI j = nI (9859 + j) by rw [show (9859 : Int32) = nI 9859 from rfl, nI_add], rs_c p.1 (by omega), cl_n (by omega), e, bnd_e, nI_1, bnd_e]
  rw [f_X10_sentAll, show (0 : Int32) = nI 0 from rfl, st 0 _ _ (by decide), st 1 _ _ (by decide), st 2 _ _ (by decide), st 3 _ _ (by decide), st 4 _ _ (by decide), st 5 _ _ (by decide), f_X10_sentAll_4, if_pos (by decide)]
  rfl
set_option maxHeartbeats 1000000 in
theorem tld_l {M : Mem} {tw : Bool} {t : Int32} {S0 S : St} {pb pt : List Row4} {N w : Nat} (p : RV M tw t S pb pt) (hN : xR S 20 0 = nI N) (h16 : N ≤ 16) (h7 : ∀ v, v < 16 → xR S 7 v = xR S0 7 v) (ht : ∀ v, v < N → mI M 127 v = xR S0 12 v) (hw : w < 6) : ∀ (d i n : Nat) (x y : Int32), i + d = N → d + 8 ≤ n → f_X10_crowdTold_9 M n 120 (nI w) (xR S0 15 0) (xR S0 15 2) (sa6 S0) x y (nI i) = some (if w = 0 then xR S 15 0 - xR S0 15 0 else if w = 1 then (if fwl S0 S (List.range' i d) x = -1 then 0 else fwl S0 S (List.range' i d) x) else if w = 2 then mwl S0 S (List.range' i d) y else if w = 3 then xR S 15 2 - xR S0 15 2 else if w = 4 then sa6 S - sa6 S0 else xR S 15 4) := by
  intro d
  induction d with
  | zero =>
    intro i n x y hi hn
    obtain ⟨n, rfl⟩ : ∃ m, n = m + 1 := ⟨n - 1, by omega⟩
    have g0 : mI M 121 9851 = xR S 15 0 := p.rg (k := 15) (i := 0) (by unfold vk; omega)
    have g2 : mI M 121 9853 = xR S 15 2 := p.rg (k := 15) (i := 2) (by unfold vk; omega)
    have g4 : mI M 121 9855 = xR S 15 4 := p.rg (k := 15) (i := 4) (by unfold vk; omega)
    rw [f_X10_crowdTold_9, rs_f p.1, rs_0 p.1, bnd_e, rs_fa p.1, rs_c0 p.1, cl0, p.N hN, if_pos (nI_le (by omega) (by omega))]
    rcases (show w = 0 ∨ w = 1 ∨ w = 2 ∨ w = 3 ∨ w = 4 ∨ w = 5 by omega) with rfl | rfl | rfl | rfl | rfl | rfl
    · rw [if_pos (show nI 0 = (0 : Int32) from rfl), if_pos rfl, bnd_e, rs_fa p.1, show (9851 : Int32) = nI 9851 from rfl, rs_c p.1 (by decide), cl_n (by decide), g0]
    · rw [if_neg (show ¬ nI 1 = (0 : Int32) by decide), if_pos (show nI 1 = (1 : Int32) from rfl), if_neg (show ¬ (1 : Nat) = 0 by decide), if_pos rfl]
      show (if x = -1 then some 0 else some x) = some (if x = -1 then 0 else x)
      by_cases c : x = -1
      · rw [if_pos c, if_pos c]
      · rw [if_neg c, if_neg c]
    · rw [if_neg (show ¬ nI 2 = (0 : Int32) by decide), if_neg (show ¬ nI 2 = (1 : Int32) by decide), if_pos (show nI 2 = (2 : Int32) from rfl), if_neg (show ¬ (2 : Nat) = 0 by decide), if_neg (show ¬ (2 : Nat) = 1 by decide), if_pos rfl]
      rfl
    · rw [if_neg (show ¬ nI 3 = (0 : Int32) by decide), if_neg (show ¬ nI 3 = (1 : Int32) by decide), if_neg (show ¬ nI 3 = (2 : Int32) by decide), if_pos (show nI 3 = (3 : Int32) from rfl), if_neg (show ¬ (3 : Nat) = 0 by decide), if_neg (show ¬ (3 : Nat) = 1 by decide), if_neg (show ¬ (3 : Nat) = 2 by decide), if_pos rfl, bnd_e, rs_fa p.1, show (9853 : Int32) = nI 9853 from rfl, rs_c p.1 (by decide), cl_n (by decide), g2]
    · have s1 := p.sent (n := n) (by omega)
      rw [if_neg (show ¬ nI 4 = (0 : Int32) by decide), if_neg (show ¬ nI 4 = (1 : Int32) by decide), if_neg (show ¬ nI 4 = (2 : Int32) by decide), if_neg (show ¬ nI 4 = (3 : Int32) by decide), if_pos (show nI 4 = (4 : Int32) from rfl), if_neg (show ¬ (4 : Nat) = 0 by decide), if_neg (show ¬ (4 : Nat) = 1 by decide), if_neg (show ¬ (4 : Nat) = 2 by decide), if_neg (show ¬ (4 : Nat) = 3 by decide), if_pos rfl, s1, obd_s]
    · rw [if_neg (show ¬ nI 5 = (0 : Int32) by decide), if_neg (show ¬ nI 5 = (1 : Int32) by decide), if_neg (show ¬ nI 5 = (2 : Int32) by decide), if_neg (show ¬ nI 5 = (3 : Int32) by decide), if_neg (show ¬ nI 5 = (4 : Int32) by decide), if_neg (show ¬ (5 : Nat) = 0 by decide), if_neg (show ¬ (5 : Nat) = 1 by decide), if_neg (show ¬ (5 : Nat) = 2 by decide), if_neg (show ¬ (5 : Nat) = 3 by decide), if_neg (show ¬ (5 : Nat) = 4 by decide), bnd_e, rs_fa p.1, show (9855 : Int32) = nI 9855 from rfl, rs_c p.1 (by decide), cl_n (by decide), g4]
  | succ d ih =>
    intro i n x y hi hn
    obtain ⟨n, rfl⟩ : ∃ m, n = m + 1 := ⟨n - 1, by omega⟩
    have i6 : i < 16 := by omega
    have ec : f_X10_countOf 120 (nI i) (0 : Int32) M = some (xR S 12 i) := p.cnt i6 (w := 0) (by decide)
    have k65 : ∀ x', f_X10_crowdTold_65 (f_X10_crowdTold_9 M n) M n 120 (nI w) (xR S0 15 0) (xR S0 15 2) (sa6 S0) x' y (nI i) (nwE S0 S i) = f_X10_crowdTold_9 M n 120 (nI w) (xR S0 15 0) (xR S0 15 2) (sa6 S0) x' (mxI y (nwE S0 S i)) (nI (i + 1)) := by
      intro x'
      rw [f_X10_crowdTold_65, mx_nle, nI_1]
      by_cases c : nwE S0 S i ≤ y
      · rw [if_pos c, if_pos c, bnd_e]
      · rw [if_neg c, if_neg c, bnd_e]
    rw [fwl_s, mwl_s, f_X10_crowdTold_9, rs_f p.1, rs_0 p.1, bnd_e, rs_fa p.1, rs_c0 p.1, cl0, p.N hN, if_neg (nI_ge (by omega) (by omega)), ec, obd_s, rs_10 p.1, bnd_e, rs_f10 p.1, rs_c10 p.1 i6, mI_c (by omega), ht i (by omega), show xR S 12 i - xR S0 12 i = nwE S0 S i from rfl, bnd_e, p.get7 i6, obd_s, h7 i i6]
    by_cases c : xR S0 7 i = 0
    · rw [if_pos c, if_pos c]
      by_cases c1 : x = -1
      · rw [if_pos c1, if_pos c1, k65, ih _ _ _ _ (by omega) (by omega)]
      · rw [if_neg c1, if_neg c1]
        by_cases c2 : x ≤ nwE S0 S i
        · rw [if_pos c2, if_pos c2, k65, ih _ _ _ _ (by omega) (by omega)]
        · rw [if_neg c2, if_neg c2, k65, ih _ _ _ _ (by omega) (by omega)]
    · rw [if_neg c, if_neg c, k65, ih _ _ _ _ (by omega) (by omega)]
theorem RV.told {M : Mem} {tw : Bool} {t : Int32} {S0 S : St} {pb pt : List Row4} {N w n : Nat} (p : RV M tw t S pb pt) (hN : xR S 20 0 = nI N) (h16 : N ≤ 16) (h7 : ∀ v, v < 16 → xR S 7 v = xR S0 7 v) (ht : ∀ v, v < N → mI M 127 v = xR S0 12 v) (hw : w < 6) (hn : 30 ≤ n) : f_X10_crowdTold n 120 (nI w) (xR S0 15 0) (xR S0 15 2) (sa6 S0) M = some (cR N S0 S w) := by
  have := tld_l p hN h16 h7 ht hw N 0 n (-1) 0 (by omega) (by omega)
  rw [f_X10_crowdTold]
  unfold cR
  rw [List.range_eq_range']
  exact this
