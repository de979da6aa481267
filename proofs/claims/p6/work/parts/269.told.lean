/-! ===== what is told of a crowd ===== -/
def sa6 (S : St) : Int32 := (((((0 + xR S 16 0) + xR S 16 1) + xR S 16 2) + xR S 16 3) + xR S 16 4) + xR S 16 5
def nwE (S0 S : St) (v : Nat) : Int32 := xR S 12 v - xR S0 12 v
def fwl (S0 S : St) (ws : List Nat) (x : Int32) : Int32 := ws.foldl (fun x v => if xR S0 7 v = 0 then (if x = -1 then nwE S0 S v else if x ≤ nwE S0 S v then x else nwE S0 S v) else x) x
def mwl (S0 S : St) (ws : List Nat) (x : Int32) : Int32 := ws.foldl (fun x v => mxI x (nwE S0 S v)) x
def cT (N : Nat) (S0 S : St) (w : Nat) : Int32 :=
  if w = 0 then xR S 15 0 - xR S0 15 0 else if w = 1 then fwl S0 S (List.range N) (-1) else if w = 2 then mwl S0 S (List.range N) 0 else if w = 3 then xR S 15 2 - xR S0 15 2 else if w = 4 then sa6 S - sa6 S0 else xR S 15 4
theorem fwl_s (S0 S : St) (i d : Nat) (x : Int32) : fwl S0 S (List.range' i (d + 1)) x = fwl S0 S (List.range' (i + 1) d) (if xR S0 7 i = 0 then (if x = -1 then nwE S0 S i else if x ≤ nwE S0 S i then x else nwE S0 S i) else x) := by
  unfold fwl
  rw [List.range'_succ, List.foldl_cons]
theorem mwl_s (S0 S : St) (i d : Nat) (x : Int32) : mwl S0 S (List.range' i (d + 1)) x = mwl S0 S (List.range' (i + 1) d) (mxI x (nwE S0 S i)) := by
  unfold mwl
  rw [List.range'_succ, List.foldl_cons]
/-- what is looked at of the hall itself -/
def HH (M : Mem) (k : Nat) (S : St) : Prop := CS M k ∧ (∀ v, v < 16 → mI M (k + 17 + 2 * v) 11 = xR S 12 v) ∧ (∀ v, v < 16 → bt (mI M k 9) v = decide (xR S 7 v = 1)) ∧ mI M k 11 = xR S 15 0 ∧ mI M k 12 = xR S 15 2 ∧ ∀ j, j < 6 → mI M (k + 6) j = xR S 16 j
theorem HV.hh {M : Mem} {h X Y N : Nat} {t : Int32} {Q : Nat → Int32} {S : St} {pb pt : List Row4} (p : HV M h X Y t N Q S pb pt) : HH M h S := by
  obtain ⟨d5, d6, d7, len, K, fr, us, ow, w, _⟩ := p.2.1
  refine ⟨p.1, fun v hv => p.fs hv (a := 11) (k := 12) (by decide), fun v hv => ?_, p.gs (b := 11) (j := 0) (by decide), p.gs (b := 12) (j := 2) (by decide), w.2.2.2.2.2.2.2.1⟩
  rw [p.2.2.1.2.2.2.1 v (by omega)]
  simp [hv]
theorem HH.cg {M M' : Mem} {k : Nat} {S : St} (h : HH M k S) (q : CS M' k) (hI : ∀ o, k ≤ o → o < k + 49 → ¬ (k + 7 ≤ o ∧ o ≤ k + 9) → ∀ b, mI M' o b = mI M o b) : HH M' k S := by
  obtain ⟨_, a2, a3, a4, a5, a6⟩ := h
  exact ⟨q, fun v hv => by rw [hI _ (by omega) (by omega) (by omega)]; exact a2 v hv, fun v hv => by rw [hI k (by omega) (by omega) (by omega)]; exact a3 v hv, by rw [hI k (by omega) (by omega) (by omega)]; exact a4, by rw [hI k (by omega) (by omega) (by omega)]; exact a5, fun j hj => by rw [hI _ (by omega) (by omega) (by omega)]; exact a6 j hj⟩
theorem f_sent {M : Mem} {k n : Nat} {S : St} (q : CS M k) (h : ∀ j, j < 6 → mI M (k + 6) j = xR S 16 j) (hn : 7 ≤ n) : f_X5_sentInAll n (k + 1) M = some (sa6 S) := by
  obtain ⟨n, rfl⟩ : ∃ m, n = m + 7 := ⟨n - 7, by omega⟩
  have st : ∀ j m x, j < 6 → f_X5_sentInAll_4 M (m + 1) (k + 1) x (nI j) = f_X5_sentInAll_4 M m (k + 1) (x + xR S 16 j) (nI (j + 1)) := fun j m x hj => by
    rw [f_X5_sentInAll_4, if_neg (show ¬ (6 : Int32) ≤ nI j from nI_ge (a := j) (b := 6) hj (by decide)), cs_p q, cs_r6 q, bnd_e, cs_a6 q, cs_i6 q hj, mI_c (by omega), h j hj, bnd_e, nI_1, bnd_e]
  rw [f_X5_sentInAll, show (0 : Int32) = nI 0 from rfl, st 0 _ _ (by decide), st 1 _ _ (by decide), st 2 _ _ (by decide), st 3 _ _ (by decide), st 4 _ _ (by decide), st 5 _ _ (by decide), f_X5_sentInAll_4, if_pos (by decide)]
  rfl
theorem f_nw {M : Mem} {X Y N : Nat} {t : Int32} {Q : Nat → Int32} {S0 S : St} {pb pt : List Row4} (p : HV M 63 X Y t N Q S pb pt) (x : XT M) (o : HH M 14 S0) {v : Nat} (hv : v < 16) : f_X9_newEntries 0 (nI v) M = some (nwE S0 S v) := by
  have q := p.1
  have q0 := o.1
  rw [f_X9_newEntries, chk_t x.1, x.2.2.2.1, bnd_e, cs_f q, cs_h2 q, bnd_e, cs_a10 q, cs_i10 q hv, cs_rpc q hv, bnd_e, cs_po q hv, x.2.2.1, bnd_e, cs_f q0, cs_h2 q0, bnd_e, cs_a10 q0, cs_i10 q0 hv, cs_rpc q0 hv, bnd_e, cs_po q0 hv, p.fs hv (a := 11) (k := 12) (by decide), o.2.1 v hv]
  rfl
theorem few_l {M : Mem} {X Y N : Nat} {t : Int32} {Q : Nat → Int32} {S0 S : St} {pb pt : List Row4} (p : HV M 63 X Y t N Q S pb pt) (x : XT M) (o : HH M 14 S0) (h16 : N ≤ 16) (h7 : ∀ v, v < 16 → xR S0 7 v = 0 ∨ xR S0 7 v = 1) : ∀ (d i n : Nat) (y : Int32), i + d = N → d + 1 ≤ n → f_X9_fewestNewEntries_4 M n 0 y (nI i) = some (fwl S0 S (List.range' i d) y) := by
  intro d
  induction d with
  | zero =>
    intro i n y hi hn
    obtain ⟨n, rfl⟩ : ∃ m, n = m + 1 := ⟨n - 1, by omega⟩
    rw [f_X9_fewestNewEntries_4, chk_t x.1, x.2.1, bnd_e, cs_s p.1, p.2.2.2.2.2.1, if_pos (nI_le (by omega) (by omega))]
    rfl
  | succ d ih =>
    intro i n y hi hn
    obtain ⟨n, rfl⟩ : ∃ m, n = m + 1 := ⟨n - 1, by omega⟩
    have en := f_nw p x o (v := i) (by omega)
    rw [fwl_s, f_X9_fewestNewEntries_4, chk_t x.1, x.2.1, bnd_e, cs_s p.1, p.2.2.2.2.2.1, if_neg (nI_ge (by omega) (by omega)), x.2.2.1, bnd_e, cs_f o.1, f_has9 _ (by omega), obd_s, o.2.2.1 i (by omega)]
    have tk : f_X9_fewestNewEntries_43 (f_X9_fewestNewEntries_4 M n) M n 0 (nI i) = some (fwl S0 S (List.range' (i + 1) d) (nwE S0 S i)) := by
      rw [f_X9_fewestNewEntries_43, chk_t x.1, en, obd_s, nI_1, bnd_e, ih _ _ _ (by omega) (by omega)]
    by_cases c : xR S0 7 i = 0
    · rw [if_pos c, if_neg (show ¬ decide (xR S0 7 i = 1) = true from fun z => by rw [c] at z; exact absurd (of_decide_eq_true z) (by decide)), if_pos rfl]
      by_cases c1 : y = -1
      · rw [if_pos c1, if_pos c1, tk]
      · rw [if_neg c1, if_neg c1, en, obd_s]
        by_cases c2 : y ≤ nwE S0 S i
        · rw [if_pos c2, if_pos c2, nI_1, bnd_e, ih _ _ _ (by omega) (by omega)]
        · rw [if_neg c2, if_neg c2, tk]
    · have c1 := (h7 i (by omega)).resolve_left c
      rw [if_neg c, if_pos (decide_eq_true c1), if_neg ne10, nI_1, bnd_e, ih _ _ _ (by omega) (by omega)]
theorem most_l {M : Mem} {X Y N : Nat} {t : Int32} {Q : Nat → Int32} {S0 S : St} {pb pt : List Row4} (p : HV M 63 X Y t N Q S pb pt) (x : XT M) (o : HH M 14 S0) (h16 : N ≤ 16) : ∀ (d i n : Nat) (y : Int32), i + d = N → d + 1 ≤ n → f_X9_mostNewEntries_4 M n 0 y (nI i) = some (mwl S0 S (List.range' i d) y) := by
  intro d
  induction d with
  | zero =>
    intro i n y hi hn
    obtain ⟨n, rfl⟩ : ∃ m, n = m + 1 := ⟨n - 1, by omega⟩
    rw [f_X9_mostNewEntries_4, chk_t x.1, x.2.1, bnd_e, cs_s p.1, p.2.2.2.2.2.1, if_pos (nI_le (by omega) (by omega))]
    rfl
  | succ d ih =>
    intro i n y hi hn
    obtain ⟨n, rfl⟩ : ∃ m, n = m + 1 := ⟨n - 1, by omega⟩
    rw [mwl_s, f_X9_mostNewEntries_4, chk_t x.1, x.2.1, bnd_e, cs_s p.1, p.2.2.2.2.2.1, if_neg (nI_ge (by omega) (by omega)), f_nw p x o (v := i) (by omega), obd_s, bnd_e, nI_1, bnd_e, ih _ _ _ (by omega) (by omega)]
    rfl
theorem c85 {M : Mem} {X Y N n : Nat} {t : Int32} {Q : Nat → Int32} {S0 S : St} {pb pt : List Row4} (p : HV M 63 X Y t N Q S pb pt) (x : XT M) (o : HH M 14 S0) (h16 : N ≤ 16) (h7 : ∀ v, v < 16 → xR S0 7 v = 0 ∨ xR S0 7 v = 1) {w : Nat} (hw : w < 6) (hn : 17 ≤ n) : f_X9_crowd_85 n 0 (nI w) M = some (cT N S0 S w, M) := by
  have q := p.1
  have q0 := o.1
  obtain ⟨o1, o2, o3, o4, o5, o6⟩ := id o
  have er : List.range N = List.range' 0 N := List.range_eq_range'
  unfold cT
  rw [f_X9_crowd_85]
  rcases (show w = 0 ∨ w = 1 ∨ w = 2 ∨ w = 3 ∨ w = 4 ∨ w = 5 by omega) with rfl | rfl | rfl | rfl | rfl | rfl
  · rw [if_pos (show nI 0 = (0 : Int32) from rfl), if_pos rfl, chk_t x.1, x.2.2.2.1, bnd_e, cs_f q, x.2.2.1, bnd_e, cs_f q0, p.gs (b := 11) (j := 0) (by decide), o4]
  · rw [if_neg (show ¬ nI 1 = (0 : Int32) by decide), if_pos (show nI 1 = (1 : Int32) from rfl), if_neg (show ¬ (1 : Nat) = 0 by decide), if_pos rfl, chk_t x.1, f_X9_fewestNewEntries, er, show f_X9_fewestNewEntries_4 M n 0 (-1) 0 = _ from few_l p x o h16 h7 N 0 n (-1) (by omega) (by omega), obd_s]
  · rw [if_neg (show ¬ nI 2 = (0 : Int32) by decide), if_neg (show ¬ nI 2 = (1 : Int32) by decide), if_pos (show nI 2 = (2 : Int32) from rfl), if_neg (show ¬ (2 : Nat) = 0 by decide), if_neg (show ¬ (2 : Nat) = 1 by decide), if_pos rfl, chk_t x.1, f_X9_mostNewEntries, er, show f_X9_mostNewEntries_4 M n 0 0 0 = _ from most_l p x o h16 N 0 n 0 (by omega) (by omega), obd_s]
  · rw [if_neg (show ¬ nI 3 = (0 : Int32) by decide), if_neg (show ¬ nI 3 = (1 : Int32) by decide), if_neg (show ¬ nI 3 = (2 : Int32) by decide), if_pos (show nI 3 = (3 : Int32) from rfl), if_neg (show ¬ (3 : Nat) = 0 by decide), if_neg (show ¬ (3 : Nat) = 1 by decide), if_neg (show ¬ (3 : Nat) = 2 by decide), if_pos rfl, chk_t x.1, x.2.2.2.1, bnd_e, cs_f q, x.2.2.1, bnd_e, cs_f q0, p.gs (b := 12) (j := 2) (by decide), o5]
  · have s1 := f_sent (n := n) q p.hh.2.2.2.2.2 (by omega)
    have s2 := f_sent (n := n) q0 o6 (by omega)
    rw [if_neg (show ¬ nI 4 = (0 : Int32) by decide), if_neg (show ¬ nI 4 = (1 : Int32) by decide), if_neg (show ¬ nI 4 = (2 : Int32) by decide), if_neg (show ¬ nI 4 = (3 : Int32) by decide), if_pos (show nI 4 = (4 : Int32) from rfl), if_neg (show ¬ (4 : Nat) = 0 by decide), if_neg (show ¬ (4 : Nat) = 1 by decide), if_neg (show ¬ (4 : Nat) = 2 by decide), if_neg (show ¬ (4 : Nat) = 3 by decide), if_pos rfl, chk_t x.1, x.2.2.2.1, bnd_e, cs_f q, cs_h1 q, bnd_e, cs_p q, s1, obd_s, x.2.2.1, bnd_e, cs_f q0, cs_h1 q0, bnd_e, cs_p q0, s2, obd_s]
  · rw [if_neg (show ¬ nI 5 = (0 : Int32) by decide), if_neg (show ¬ nI 5 = (1 : Int32) by decide), if_neg (show ¬ nI 5 = (2 : Int32) by decide), if_neg (show ¬ nI 5 = (3 : Int32) by decide), if_neg (show ¬ nI 5 = (4 : Int32) by decide), if_neg (show ¬ (5 : Nat) = 0 by decide), if_neg (show ¬ (5 : Nat) = 1 by decide), if_neg (show ¬ (5 : Nat) = 2 by decide), if_neg (show ¬ (5 : Nat) = 3 by decide), if_neg (show ¬ (5 : Nat) = 4 by decide), chk_t x.1, x.2.2.2.1, bnd_e, cs_f q, p.gs (b := 15) (j := 4) (by decide)]
