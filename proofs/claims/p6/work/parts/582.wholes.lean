/-! ===== the survey, the class: what is greater, and the tree's wholes ===== -/
theorem nx_xor (a b : Nat) : nI a ^^^ nI b = nI (a ^^^ b) := by
  refine b_ext fun i hi => ?_
  rw [b_xor, bt_nI _ hi, bt_nI _ hi, bt_nI _ hi, Nat.testBit_xor]
section
variable {o q N : Nat}
theorem ag18 (h16 : N ≤ 16) {K : Nat → Int32 → Mem → Option Mem} {i : Nat} (hi : i < 6) (hK : ∀ M, F1 M o q N → ∃ M', K o (nI (i + 1)) M = some M' ∧ FrLg M M') : ∀ (d j n : Nat) (M : Mem), j + d = us6 N → F1 M o q N → d + 1 ≤ n → ∃ M', f_X1_addGreater_18 K n o (nI i) (nI j) M = some M' ∧ FrLg M M' := by
  have u := us_b h16
  intro d
  induction d with
  | zero =>
    intro j n M hj f hn
    obtain ⟨n, rfl⟩ : ∃ m, n = m + 1 := ⟨n - 1, by omega⟩
    obtain ⟨M', e', f'⟩ := hK M f
    exact ⟨M', by rw [f_X1_addGreater_18, chk_t f.1.1, f.2.2, if_pos (nI_le (by omega) (by omega)), bnd_e, nI_1]; exact e', f'⟩
  | succ d ih =>
    intro j n M hj f hn
    obtain ⟨n, rfl⟩ : ∃ m, n = m + 1 := ⟨n - 1, by omega⟩
    have ib : inB (nI j) (mLn M q) := by rw [f.1.2.2.2]; exact inB_n (by omega) (by decide)
    rw [f_X1_addGreater_18, chk_t f.1.1, f.2.2, if_neg (nI_ge (by omega) (by omega)), f.1.2.1, bnd_e, chk_t f.1.2.2.1, chk_t ib, bnd_e, chk_t f.1.2.2.1, chk_t ib, chk_t (inB_n (show i < 6 from hi) (by decide)), chk_t ib, bnd_e, bnd_e, nI_1]
    generalize ((mL M q (nI j).toNatClampNeg) ||| (((mL M q (nI j).toNatClampNeg) &&& ((l_HV (nI i).toNatClampNeg) ^^^ (-1 : Int64))) <<< ((((1 : Int32) <<< (nI i &&& 31))).toInt64 &&& 63))) = y
    have fl := FrLg.s M q (nI j).toNatClampNeg y
    obtain ⟨M', e', f'⟩ := ih (j + 1) n _ (by omega) (f.l fl) (by omega)
    exact ⟨M', e', fl.tr f'⟩
theorem ag79 (h16 : N ≤ 16) {K : Nat → Int32 → Mem → Option Mem} {p k : Nat} (hk : us6 N = 2 ^ k) (hp : p < us6 N) (hK : ∀ M, F1 M o q N → ∃ M', K o (nI (p * 2)) M = some M' ∧ FrLg M M') : ∀ (d j n : Nat) (M : Mem), j + d = us6 N → F1 M o q N → d + 1 ≤ n → ∃ M', f_X1_addGreater_79 K n o (nI p) (nI j) M = some M' ∧ FrLg M M' := by
  have u := us_b h16
  intro d
  induction d with
  | zero =>
    intro j n M hj f hn
    obtain ⟨n, rfl⟩ : ∃ m, n = m + 1 := ⟨n - 1, by omega⟩
    obtain ⟨M', e', f'⟩ := hK M f
    exact ⟨M', by rw [f_X1_addGreater_79, chk_t f.1.1, f.2.2, if_pos (nI_le (by omega) (by omega)), bnd_e, show (2 : Int32) = nI 2 from rfl, pk_mul]; exact e', f'⟩
  | succ d ih =>
    intro j n M hj f hn
    obtain ⟨n, rfl⟩ : ∃ m, n = m + 1 := ⟨n - 1, by omega⟩
    rw [f_X1_addGreater_79, chk_t f.1.1, f.2.2, if_neg (nI_ge (by omega) (by omega))]
    by_cases c : nI j &&& nI p = 0
    · rw [if_pos c, bnd_e, nI_1]
      exact ih (j + 1) n M (by omega) f (by omega)
    · have ib : inB (nI j) (mLn M q) := by rw [f.1.2.2.2]; exact inB_n (by omega) (by decide)
      have hx : j ^^^ p < 2 ^ k := Nat.xor_lt_two_pow (by omega) (by omega)
      have ix : inB (nI (j ^^^ p)) (mLn M q) := by rw [f.1.2.2.2]; exact inB_n (by omega) (by decide)
      rw [if_neg c, f.1.2.1, bnd_e, chk_t f.1.2.2.1, chk_t ib, bnd_e, chk_t f.1.2.2.1, nx_xor, chk_t ix, chk_t ib, bnd_e, bnd_e, nI_1]
      generalize ((mL M q (nI j).toNatClampNeg) ||| (mL M q (nI (j ^^^ p)).toNatClampNeg)) = y
      have fl := FrLg.s M q (nI j).toNatClampNeg y
      obtain ⟨M', e', f'⟩ := ih (j + 1) n _ (by omega) (f.l fl) (by omega)
      exact ⟨M', e', fl.tr f'⟩
theorem ag69 (h16 : N ≤ 16) {k : Nat} (hk : us6 N = 2 ^ k) : ∀ (d e n : Nat) (M : Mem), e + d = k → F1 M o q N → d + 1030 ≤ n → ∃ M', f_X1_addGreater_69 n o (nI (2 ^ e)) M = some M' ∧ FrLg M M' := by
  have u := us_b h16
  intro d
  induction d with
  | zero =>
    intro e n M he f hn
    obtain ⟨n, rfl⟩ : ∃ m, n = m + 1 := ⟨n - 1, by omega⟩
    exact ⟨M, by rw [f_X1_addGreater_69, chk_t f.1.1, f.2.2, hk, show e = k by omega, if_pos (Int32.le_refl _)], FrLg.rf M⟩
  | succ d ih =>
    intro e n M he f hn
    obtain ⟨n, rfl⟩ : ∃ m, n = m + 1 := ⟨n - 1, by omega⟩
    have hp : 2 ^ e < us6 N := by rw [hk]; exact Nat.pow_lt_pow_right (by decide) (by omega)
    rw [f_X1_addGreater_69, chk_t f.1.1, f.2.2, if_neg (nI_ge hp (by omega))]
    exact ag79 h16 hk hp (fun M f => by rw [← Nat.pow_succ]; exact ih (e + 1) n M (by omega) f (by omega)) (us6 N) 0 n M (by omega) f (by omega)
theorem ag2 (h16 : N ≤ 16) : ∀ (d i n : Nat) (M : Mem), i + d = 6 → F1 M o q N → d + 1050 ≤ n → ∃ M', f_X1_addGreater_2 n o (nI i) M = some M' ∧ FrLg M M' := by
  have u := us_b h16
  obtain ⟨k, k10, hk⟩ := us_p h16
  intro d
  induction d with
  | zero =>
    intro i n M hi f hn
    obtain ⟨n, rfl⟩ : ∃ m, n = m + 1 := ⟨n - 1, by omega⟩
    rw [f_X1_addGreater_2, if_pos (show (6 : Int32) ≤ nI i from nI_le (a := 6) (by omega) (by omega))]
    exact ag69 h16 hk k 0 n M (by omega) f (by omega)
  | succ d ih =>
    intro i n M hi f hn
    obtain ⟨n, rfl⟩ : ∃ m, n = m + 1 := ⟨n - 1, by omega⟩
    rw [f_X1_addGreater_2, if_neg (show ¬ (6 : Int32) ≤ nI i from nI_ge (b := 6) (by omega) (by decide)), chk_t f.1.1]
    split
    · exact ag69 h16 hk k 0 n M (by omega) f (by omega)
    · exact ag18 h16 (by omega) (fun M f => ih (i + 1) n M (by omega) f (by omega)) (us6 N) 0 n M (by omega) f (by omega)
theorem F1.ag {M : Mem} (f : F1 M o q N) (h16 : N ≤ 16) {n : Nat} (hn : 1100 ≤ n) : ∃ M', f_X1_addGreater n o M = some M' ∧ FrLg M M' :=
  ag2 h16 6 0 n M rfl f (by omega)
theorem fl_l {q : Nat} (x : Int64) : ∀ (d i n : Nat) (M : Mem), i + d = 1024 → isO M 101 q → mLn M q = 1024 → d + 1 ≤ n → ∃ M', f_J7_fill_d0a16_6 n q x (nI i) (nI 1024) M = some M' ∧ FrLg M M' := by
  intro d
  induction d with
  | zero =>
    intro i n M hi a b hn
    obtain ⟨n, rfl⟩ : ∃ m, n = m + 1 := ⟨n - 1, by omega⟩
    exact ⟨M, by rw [f_J7_fill_d0a16_6, if_pos (nI_le (by omega) (by omega))], FrLg.rf M⟩
  | succ d ih =>
    intro i n M hi a b hn
    obtain ⟨n, rfl⟩ : ∃ m, n = m + 1 := ⟨n - 1, by omega⟩
    have fl := FrLg.s M q (nI i).toNatClampNeg x
    obtain ⟨M', e', f'⟩ := ih (i + 1) n (sL M q (nI i).toNatClampNeg x) (by omega) a b (by omega)
    exact ⟨M', by rw [f_J7_fill_d0a16_6, if_neg (nI_ge (by omega) (by decide)), chk_t a, b, chk_t (inB_n (by omega) (by decide)), bnd_e, bnd_e, nI_1]; exact e', fl.tr f'⟩
theorem us_N : ∀ N, N < 17 → ¬ N ≤ 6 → ((1 : Int32) <<< ((nI N - (6 : Int32)) &&& 31)) = nI (us6 N) := by decide +kernel
theorem bg_1 (h16 : N ≤ 16) {M : Mem} (s : isO M 1 o ∧ mR M o 0 = q ∧ isO M 101 q ∧ mLn M q = 1024) {n : Nat} (hn : 1100 ≤ n) : ∃ M', f_X1_begin n o (nI N) M = some M' ∧ F1 M' o q N ∧ M'.1 = M.1 ∧ ∀ a, a ≠ o → ∀ b, mI M' a b = mI M a b := by
  obtain ⟨s1, s2, s3, s4⟩ := s
  have b22 : ∃ M', f_X1_begin_22 n o (nI (us6 N)) o (sI M o 1 (nI N)) = some M' ∧ FrLg (sI (sI M o 1 (nI N)) o 2 (nI (us6 N))) M' := by
    obtain ⟨M', e', f'⟩ := fl_l (q := q) 0 1024 0 n (sI (sI M o 1 (nI N)) o 2 (nI (us6 N))) rfl s3 s4 (by omega)
    have l4 : mLn (sI (sI M o 1 (nI N)) o 2 (nI (us6 N))) q = 1024 := s4
    have r2 : mR (sI (sI M o 1 (nI N)) o 2 (nI (us6 N))) o 0 = q := s2
    refine ⟨M', ?_, f'⟩
    rw [f_X1_begin_22, chk_t (show isO (sI M o 1 (nI N)) 1 o from s1), bnd_e, chk_t (show isO (sI (sI M o 1 (nI N)) o 2 (nI (us6 N))) 1 o from s1), r2, bnd_e, chk_t (show isO (sI (sI M o 1 (nI N)) o 2 (nI (us6 N))) 101 q from s3), f_J7_fill_d0a16, chk_t (show isO (sI (sI M o 1 (nI N)) o 2 (nI (us6 N))) 101 q from s3), l4, bnd_e]
    rw [show f_J7_fill_d0a16_6 n q 0 0 (Int32.ofNat 1024) (sI (sI M o 1 (nI N)) o 2 (nI (us6 N))) = some M' from e', obd_s]
  obtain ⟨M', e', f'⟩ := b22
  have i1 : ∀ a, a ≠ o → ∀ b, mI M' a b = mI M a b := fun a n b => by rw [f'.2, mI_o _ _ _ _ _ n, mI_o _ _ _ _ _ n]
  refine ⟨M', ?_, ?_, f'.1, i1⟩
  · rw [f_X1_begin, chk_t s1, bnd_e]
    by_cases c : N ≤ 6
    · rw [if_pos (show nI N ≤ (6 : Int32) from nI_le (b := 6) c (by decide))]
      have : us6 N = 1 := by unfold us6; rw [if_neg (by omega)]
      rw [this] at e'
      exact e'
    · rw [if_neg (show ¬ nI N ≤ (6 : Int32) from nI_ge (a := 6) (by omega) (by omega)), us_N N (by omega) c]
      exact e'
  · have io : ∀ {c o}, isO M c o → isO M' c o := fun z => by unfold isO mN mC at *; rw [f'.1]; exact z
    exact ⟨⟨io s1, by rw [mR_e f'.1]; exact s2, io s3, by rw [mLn_e f'.1]; exact s4⟩, by rw [f'.2, mI_n _ _ _ _ (by decide), mI_s], by rw [f'.2, mI_s]⟩
end
/-! the tree's wholes -/
def TW (M : Mem) (c : Nat) : Prop := mI M 5 6 = nI c ∧ c ≤ 305 ∧ ∀ j, j < c → SO (mI M 11 j)
def Fw (M M' : Mem) : Prop := M'.1 = M.1 ∧ (∀ o, o ≠ 5 → o ≠ 11 → ∀ b, mI M' o b = mI M o b) ∧ ∀ b, b ≠ 6 → mI M' 5 b = mI M 5 b
theorem Fw.rf (M : Mem) : Fw M M := ⟨rfl, fun _ _ _ _ => rfl, fun _ _ => rfl⟩
theorem Fw.tr {M M' M'' : Mem} (h : Fw M M') (h' : Fw M' M'') : Fw M M'' := ⟨h'.1.trans h.1, fun o n n' b => (h'.2.1 o n n' b).trans (h.2.1 o n n' b), fun b n => (h'.2.2 b n).trans (h.2.2 b n)⟩
theorem lw1 {M : Mem} {c : Nat} {x : Int32} (w : W5 M) (h : TW M c) (hx : SO x) : ∃ M' c', f_X8_listWhole 5 x M = some M' ∧ TW M' c' ∧ c ≤ c' ∧ Fw M M' := by
  obtain ⟨⟨w1, w2, w3, w4, w5, w6, w7, w8, w9⟩, ⟨y1, y2, y3, y4, y5, y6, y7, y8⟩, ⟨z1, z2, z3, z4, z5, z6⟩⟩ := w
  obtain ⟨t1, t2, t3⟩ := h
  by_cases k : 305 ≤ c
  · exact ⟨M, c, by rw [f_X8_listWhole, chk_t w1, t1, if_pos (show (305 : Int32) ≤ nI c from nI_le (a := 305) k (by omega))], ⟨t1, t2, t3⟩, Nat.le_refl _, Fw.rf M⟩
  · have e5 : mI (sI M 11 c x) 5 6 = nI c := by rw [mI_o _ _ _ _ _ (by decide)]; exact t1
    refine ⟨sI (sI M 11 c x) 5 6 (nI (c + 1)), c + 1, ?_, ⟨mI_s _ _ _ _, by omega, fun j hj => ?_⟩, by omega, rfl, fun o n n' b => by rw [mI_o _ _ _ _ _ n, mI_o _ _ _ _ _ n'], fun b n => by rw [mI_n _ _ _ _ n, mI_o _ _ _ _ _ (by decide)]⟩
    · rw [f_X8_listWhole, chk_t w1, t1, if_neg (show ¬ (305 : Int32) ≤ nI c from nI_ge (b := 305) (by omega) (by decide)), y4, bnd_e, chk_t w7, z4, chk_t (inB_n (by omega) (by decide)), sI_c (by omega), bnd_e, e5, nI_1, bnd_e]
    · rw [mI_o _ _ _ _ _ (by decide)]
      by_cases e : j = c
      · rw [e, mI_s]; exact hx
      · rw [mI_n _ _ _ _ e]; exact t3 j (by omega)
theorem lw92 {v r b : Nat} (hv : v < 16) (hr : r < 16) : ∀ (d j n : Nat) (M : Mem) (c : Nat), j + d = b → W5 M → TW M c → mI M 13 r = nI b → b ≤ c → d + 1 ≤ n → ∃ M' c', f_X8_listWholes_92 n 5 (nI v) (nI r) (nI j) M = some M' ∧ TW M' c' ∧ c ≤ c' ∧ Fw M M' := by
  intro d
  induction d with
  | zero =>
    intro j n M c hj w h hb hc hn
    obtain ⟨n, rfl⟩ : ∃ m, n = m + 1 := ⟨n - 1, by omega⟩
    have h305 := h.2.1
    obtain ⟨⟨w1, w2, w3, w4, w5, w6, w7, w8, w9⟩, ⟨y1, y2, y3, y4, y5, y6, y7, y8⟩, ⟨z1, z2, z3, z4, z5, z6⟩⟩ := w
    exact ⟨M, c, by rw [f_X8_listWholes_92, chk_t w1, y6, bnd_e, chk_t w9, z6, chk_t (inB_n hr (by decide)), mI_c (by omega), hb, if_pos (nI_le (by omega) (by omega))], h, Nat.le_refl _, Fw.rf M⟩
  | succ d ih =>
    intro j n M c hj w h hb hc hn
    obtain ⟨n, rfl⟩ : ∃ m, n = m + 1 := ⟨n - 1, by omega⟩
    have h305 := h.2.1
    obtain ⟨⟨w1, w2, w3, w4, w5, w6, w7, w8, w9⟩, ⟨y1, y2, y3, y4, y5, y6, y7, y8⟩, ⟨z1, z2, z3, z4, z5, z6⟩⟩ := id w
    obtain ⟨M1, c1, e1, t1, k1, f1⟩ := lw1 w h ((SO.one hv).or (h.2.2 j (by omega)))
    obtain ⟨M', c', e', t', k', f'⟩ := ih (j + 1) n M1 c1 (by omega) (w.e f1.1) t1 (by rw [f1.2.1 13 (by decide) (by decide)]; exact hb) (by omega) (by omega)
    exact ⟨M', c', by rw [f_X8_listWholes_92, chk_t w1, y6, bnd_e, chk_t w9, z6, chk_t (inB_n hr (by decide)), mI_c (by omega), hb, if_neg (nI_ge (by omega) (by omega)), y4, bnd_e, chk_t w7, z4, chk_t (inB_n (by omega) (by decide)), mI_c (by omega), e1, obd_s, bnd_e, nI_1]; exact e', t', by omega, f1.tr f'⟩
theorem lw42 {v l r i ar br bl c0 : Nat} (hl : l < 16) (hr : r < 16) (hi : i < bl) (hbl : bl ≤ c0) (hbr : br ≤ c0) {K : Nat → Int32 → Int32 → Int32 → Int32 → Mem → Option Mem} (hK : ∀ (M : Mem) (c : Nat), W5 M → TW M c → c0 ≤ c → mI M 12 r = nI ar → mI M 13 r = nI br → mI M 13 l = nI bl → ∃ M' c', K 5 (nI v) (nI l) (nI r) (nI (i + 1)) M = some M' ∧ TW M' c' ∧ c ≤ c' ∧ Fw M M') : ∀ (d j n : Nat) (M : Mem) (c : Nat), j + d = br → W5 M → TW M c → c0 ≤ c → mI M 12 r = nI ar → mI M 13 r = nI br → mI M 13 l = nI bl → d + 1 ≤ n → ∃ M' c', f_X8_listWholes_42 K n 5 (nI v) (nI l) (nI r) (nI i) (nI j) M = some M' ∧ TW M' c' ∧ c ≤ c' ∧ Fw M M' := by
  intro d
  induction d with
  | zero =>
    intro j n M c hj w h hc ra rb lb hn
    obtain ⟨n, rfl⟩ : ∃ m, n = m + 1 := ⟨n - 1, by omega⟩
    have h305 := h.2.1
    obtain ⟨⟨w1, w2, w3, w4, w5, w6, w7, w8, w9⟩, ⟨y1, y2, y3, y4, y5, y6, y7, y8⟩, ⟨z1, z2, z3, z4, z5, z6⟩⟩ := id w
    rw [f_X8_listWholes_42, chk_t w1, y6, bnd_e, chk_t w9, z6, chk_t (inB_n hr (by decide)), mI_c (by omega), rb, if_pos (nI_le (by omega) (by omega)), bnd_e, nI_1]
    exact hK M c w h hc ra rb lb
  | succ d ih =>
    intro j n M c hj w h hc ra rb lb hn
    obtain ⟨n, rfl⟩ : ∃ m, n = m + 1 := ⟨n - 1, by omega⟩
    have h305 := h.2.1
    obtain ⟨⟨w1, w2, w3, w4, w5, w6, w7, w8, w9⟩, ⟨y1, y2, y3, y4, y5, y6, y7, y8⟩, ⟨z1, z2, z3, z4, z5, z6⟩⟩ := id w
    obtain ⟨M1, c1, e1, t1, k1, f1⟩ := lw1 w h ((h.2.2 i (by omega)).or (h.2.2 j (by omega)))
    have g : ∀ o, o = 12 ∨ o = 13 → ∀ b, mI M1 o b = mI M o b := fun o ho b => f1.2.1 o (by omega) (by omega) b
    obtain ⟨M', c', e', t', k', f'⟩ := ih (j + 1) n M1 c1 (by omega) (w.e f1.1) t1 (by omega) (by rw [g 12 (by omega)]; exact ra) (by rw [g 13 (by omega)]; exact rb) (by rw [g 13 (by omega)]; exact lb) (by omega)
    exact ⟨M', c', by rw [f_X8_listWholes_42, chk_t w1, y6, bnd_e, chk_t w9, z6, chk_t (inB_n hr (by decide)), mI_c (by omega), rb, if_neg (nI_ge (by omega) (by omega)), y4, bnd_e, chk_t w7, z4, chk_t (inB_n (by omega) (by decide)), bnd_e, chk_t w7, z4, chk_t (inB_n (by omega) (by decide)), mI_c (by omega), mI_c (by omega), e1, obd_s, bnd_e, nI_1]; exact e', t', by omega, f1.tr f'⟩
theorem lw8 {v l r ar br bl c0 : Nat} (hv : v < 16) (hl : l < 16) (hr : r < 16) (hab : ar ≤ br) (hbl : bl ≤ c0) (hbr : br ≤ c0) : ∀ (d i n : Nat) (M : Mem) (c : Nat), i + d = bl → W5 M → TW M c → c0 ≤ c → mI M 12 r = nI ar → mI M 13 r = nI br → mI M 13 l = nI bl → d + 400 ≤ n → ∃ M' c', f_X8_listWholes_8 n 5 (nI v) (nI l) (nI r) (nI i) M = some M' ∧ TW M' c' ∧ c ≤ c' ∧ Fw M M' := by
  intro d
  induction d with
  | zero =>
    intro i n M c hi w h hc ra rb lb hn
    obtain ⟨n, rfl⟩ : ∃ m, n = m + 1 := ⟨n - 1, by omega⟩
    have h305 := h.2.1
    obtain ⟨⟨w1, w2, w3, w4, w5, w6, w7, w8, w9⟩, ⟨y1, y2, y3, y4, y5, y6, y7, y8⟩, ⟨z1, z2, z3, z4, z5, z6⟩⟩ := id w
    rw [f_X8_listWholes_8, chk_t w1, y6, bnd_e, chk_t w9, z6, chk_t (inB_n hl (by decide)), mI_c (by omega), lb, if_pos (nI_le (by omega) (by omega)), y5, bnd_e, chk_t w8, z5, chk_t (inB_n hr (by decide)), mI_c (by omega), ra, bnd_e]
    exact lw92 hv hr (br - ar) ar n M c (by omega) w h rb (by omega) (by omega)
  | succ d ih =>
    intro i n M c hi w h hc ra rb lb hn
    obtain ⟨n, rfl⟩ : ∃ m, n = m + 1 := ⟨n - 1, by omega⟩
    have h305 := h.2.1
    obtain ⟨⟨w1, w2, w3, w4, w5, w6, w7, w8, w9⟩, ⟨y1, y2, y3, y4, y5, y6, y7, y8⟩, ⟨z1, z2, z3, z4, z5, z6⟩⟩ := id w
    obtain ⟨M1, c1, e1, t1, k1, f1⟩ := lw1 w h ((SO.one hv).or (h.2.2 i (by omega)))
    have g : ∀ o, o = 12 ∨ o = 13 → ∀ b, mI M1 o b = mI M o b := fun o ho b => f1.2.1 o (by omega) (by omega) b
    have ra1 : mI M1 12 r = nI ar := by rw [g 12 (by omega)]; exact ra
    have W1 := w.e f1.1
    obtain ⟨M', c', e', t', k', f'⟩ := lw42 hl hr (by omega) hbl hbr (K := f_X8_listWholes_8 n) (i := i) (v := v) (fun M c w h hc ra rb lb => ih (i + 1) n M c (by omega) w h hc ra rb lb (by omega)) (br - ar) ar n M1 c1 (by omega) W1 t1 (by omega) ra1 (by rw [g 13 (by omega)]; exact rb) (by rw [g 13 (by omega)]; exact lb) (by omega)
    exact ⟨M', c', by rw [f_X8_listWholes_8, chk_t w1, y6, bnd_e, chk_t w9, z6, chk_t (inB_n hl (by decide)), mI_c (by omega), lb, if_neg (nI_ge (by omega) (by omega)), y4, bnd_e, chk_t w7, z4, chk_t (inB_n (by omega) (by decide)), mI_c (by omega), e1, obd_s, chk_t W1.1.1, W1.2.1.2.2.2.2.1, bnd_e, chk_t W1.1.2.2.2.2.2.2.2.1, W1.2.2.2.2.2.2.1, chk_t (inB_n hr (by decide)), mI_c (by omega), ra1, bnd_e]; exact e', t', by omega, f1.tr f'⟩
/-! ===== the survey, the class, whole ===== -/
def Fx (M M' : Mem) : Prop := M'.1 = M.1 ∧ (∀ o, o ≠ 5 → ¬ (11 ≤ o ∧ o ≤ 13) → ∀ b, mI M' o b = mI M o b) ∧ ∀ b, b ≠ 6 → mI M' 5 b = mI M 5 b
theorem Fx.rf (M : Mem) : Fx M M := ⟨rfl, fun _ _ _ _ => rfl, fun _ _ => rfl⟩
theorem Fx.tr {M M' M'' : Mem} (h : Fx M M') (h' : Fx M' M'') : Fx M M'' := ⟨h'.1.trans h.1, fun o n n' b => (h'.2.1 o n n' b).trans (h.2.1 o n n' b), fun b n => (h'.2.2 b n).trans (h.2.2 b n)⟩
theorem Fw.x {M M' : Mem} (h : Fw M M') : Fx M M' := ⟨h.1, fun o n n' b => h.2.1 o n (by omega) b, h.2.2⟩
theorem FrLg.x {M M' : Mem} (h : FrLg M M') : Fx M M' := ⟨h.1, fun o _ _ b => h.2 o b, fun b _ => h.2 5 b⟩
theorem Fx.s {M : Mem} {o k : Nat} {x : Int32} (h : 11 ≤ o ∧ o ≤ 13) : Fx M (sI M o k x) := ⟨rfl, fun a n n' b => mI_o _ _ _ _ _ (by omega), fun b n => mI_o _ _ _ _ _ (by omega)⟩
theorem F1.x {M M' : Mem} {N : Nat} (h : F1 M 8 9 N) (f : Fx M M') : F1 M' 8 9 N := by
  obtain ⟨⟨a, b, c, d⟩, e, g⟩ := h
  have io : ∀ {c o}, isO M c o → isO M' c o := fun z => by unfold isO mN mC at *; rw [f.1]; exact z
  exact ⟨⟨io a, by rw [mR_e f.1]; exact b, io c, by rw [mLn_e f.1]; exact d⟩, by rw [f.2.1 8 (by decide) (by decide)]; exact e, by rw [f.2.1 8 (by decide) (by decide)]; exact g⟩
theorem aw80 {N b : Nat} : ∀ (d j n : Nat) (M : Mem) (c : Nat), j + d = b → W5 M → TW M c → F1 M 8 9 N → mI M 13 0 = nI b → b ≤ c → d + 1 ≤ n → ∃ M', f_X8_addWholes_80 n 5 (nI j) M = some M' ∧ FrLg M M' := by
  intro d
  induction d with
  | zero =>
    intro j n M c hj w h f hb hc hn
    obtain ⟨n, rfl⟩ : ∃ m, n = m + 1 := ⟨n - 1, by omega⟩
    have h305 := h.2.1
    obtain ⟨⟨w1, w2, w3, w4, w5, w6, w7, w8, w9⟩, ⟨y1, y2, y3, y4, y5, y6, y7, y8⟩, ⟨z1, z2, z3, z4, z5, z6⟩⟩ := w
    exact ⟨M, by rw [f_X8_addWholes_80, chk_t w1, y6, bnd_e, chk_t w9, z6, chk_t (show inB (0 : Int32) 16 by decide), show mI M 13 ((0 : Int32)).toNatClampNeg = nI b from hb, if_pos (nI_le (by omega) (by omega))], FrLg.rf M⟩
  | succ d ih =>
    intro j n M c hj w h f hb hc hn
    obtain ⟨n, rfl⟩ : ∃ m, n = m + 1 := ⟨n - 1, by omega⟩
    have h305 := h.2.1
    obtain ⟨⟨w1, w2, w3, w4, w5, w6, w7, w8, w9⟩, ⟨y1, y2, y3, y4, y5, y6, y7, y8⟩, ⟨z1, z2, z3, z4, z5, z6⟩⟩ := id w
    obtain ⟨M1, e1, f1⟩ := f.add (h.2.2 j (by omega))
    have t1 : TW M1 c := ⟨by rw [f1.2]; exact h.1, h.2.1, fun j hj => by rw [f1.2]; exact h.2.2 j hj⟩
    obtain ⟨M', e', f'⟩ := ih (j + 1) n M1 c (by omega) (w.e f1.1) t1 (f.l f1) (by rw [f1.2]; exact hb) hc (by omega)
    exact ⟨M', by rw [f_X8_addWholes_80, chk_t w1, y6, bnd_e, chk_t w9, z6, chk_t (show inB (0 : Int32) 16 by decide), show mI M 13 ((0 : Int32)).toNatClampNeg = nI b from hb, if_neg (nI_ge (by omega) (by omega)), y2, bnd_e, chk_t w4, y4, bnd_e, chk_t w7, z4, chk_t (inB_n (by omega) (by decide)), mI_c (by omega), e1, obd_s, bnd_e, nI_1]; exact e', f1.tr f'⟩
/-- the number before v -/
def nB : Nat → Int32
  | 0 => -1
  | k + 1 => nI k
theorem nB_s (k : Nat) : nI k + (-1 : Int32) = nB k := by
  cases k with
  | zero => decide
  | succ k => exact nI_d1 k
theorem aw9 {N : Nat} (h1 : 1 ≤ N) (h16 : N ≤ 16) : ∀ (k n : Nat) (M : Mem) (c : Nat), k ≤ N → W5 M → TW M c → F1 M 8 9 N → (∀ u, k ≤ u → u < N → ∃ a b, a ≤ b ∧ b ≤ c ∧ mI M 12 u = nI a ∧ mI M 13 u = nI b) → k + 1000 ≤ n → ∃ M', f_X8_addWholes_9 n 5 (nI N) (nB k) M = some M' ∧ Fx M M' := by
  intro k
  induction k with
  | zero =>
    intro n M c hk w h f pr hn
    obtain ⟨n, rfl⟩ : ∃ m, n = m + 1 := ⟨n - 1, by omega⟩
    have h305 := h.2.1
    obtain ⟨⟨w1, w2, w3, w4, w5, w6, w7, w8, w9⟩, ⟨y1, y2, y3, y4, y5, y6, y7, y8⟩, ⟨z1, z2, z3, z4, z5, z6⟩⟩ := id w
    obtain ⟨a, b, hab, hbc, ea, eb⟩ := pr 0 (Nat.zero_le _) (by omega)
    obtain ⟨M', e', f'⟩ := aw80 (b - a) a n M c (by omega) w h f eb hbc (by omega)
    exact ⟨M', by rw [f_X8_addWholes_9, if_pos (show nB 0 < (0 : Int32) by decide), chk_t w1, y5, bnd_e, chk_t w8, z5, chk_t (show inB (0 : Int32) 16 by decide), show mI M 12 ((0 : Int32)).toNatClampNeg = nI a from ea, bnd_e]; exact e', f'.x⟩
  | succ v ih =>
    intro n M c hk w h f pr hn
    obtain ⟨n, rfl⟩ : ∃ m, n = m + 1 := ⟨n - 1, by omega⟩
    have h305 := h.2.1
    have v16 : v < 16 := by omega
    obtain ⟨⟨w1, w2, w3, w4, w5, w6, w7, w8, w9⟩, ⟨y1, y2, y3, y4, y5, y6, y7, y8⟩, ⟨z1, z2, z3, z4, z5, z6⟩⟩ := id w
    have f0 : Fx M (sI M 12 v (nI c)) := Fx.s (by omega)
    generalize hM1 : sI M 12 v (nI c) = M1 at f0
    have W1 := w.e f0.1
    have t1 : TW M1 c := ⟨by rw [← hM1, mI_o _ _ _ _ _ (by decide)]; exact h.1, h.2.1, fun j hj => by rw [← hM1, mI_o _ _ _ _ _ (by decide)]; exact h.2.2 j hj⟩
    have r12 : ∀ u, u ≠ v → mI M1 12 u = mI M 12 u := fun u n => by rw [← hM1, mI_n _ _ _ _ n]
    have r12v : mI M1 12 v = nI c := by rw [← hM1, mI_s]
    have r13 : ∀ u, mI M1 13 u = mI M 13 u := fun u => by rw [← hM1, mI_o _ _ _ _ _ (by decide)]
    have rest : ∀ (M2 : Mem) (c2 : Nat), TW M2 c2 → c ≤ c2 → Fw M1 M2 → ∃ M', (chk (isO M2 8 5) <| bnd (mR M2 5 5) fun o24 => chk (isO M2 100 o24) <| chk (inB (nI v) (mLn M2 o24)) <| bnd (sI M2 o24 (nI v).toNatClampNeg (mI M2 5 6)) fun M28 => bnd (nI v + (-1 : Int32)) fun x32 => f_X8_addWholes_9 n 5 (nI N) x32 M28) = some M' ∧ Fx M M' := by
      intro M2 c2 t2 hc2 fw
      have W2 := W1.e fw.1
      obtain ⟨⟨u1, u2, u3, u4, u5, u6, u7, u8, u9⟩, ⟨x1, x2, x3, x4, x5, x6, x7, x8⟩, ⟨q1, q2, q3, q4, q5, q6⟩⟩ := id W2
      have f3 : Fx M2 (sI M2 13 v (nI c2)) := Fx.s (by omega)
      obtain ⟨M', e', f'⟩ := ih n (sI M2 13 v (nI c2)) c2 (by omega) (W2.e rfl) ⟨by rw [mI_o _ _ _ _ _ (by decide)]; exact t2.1, t2.2.1, fun j hj => by rw [mI_o _ _ _ _ _ (by decide)]; exact t2.2.2 j hj⟩ (((f.x f0).x fw.x).x f3) (fun u hu huN => by
        by_cases e : u = v
        · exact ⟨c, c2, hc2, Nat.le_refl _, by rw [e, mI_o _ _ _ _ _ (by decide), fw.2.1 12 (by decide) (by decide)]; exact r12v, by rw [e, mI_s]⟩
        · obtain ⟨a, b, hab, hbc, ea, eb⟩ := pr u (by omega) huN
          exact ⟨a, b, hab, by omega, by rw [mI_o _ _ _ _ _ (by decide), fw.2.1 12 (by decide) (by decide), r12 u e]; exact ea, by rw [mI_n _ _ _ _ e, fw.2.1 13 (by decide) (by decide), r13]; exact eb⟩) (by omega)
      exact ⟨M', by rw [chk_t u1, x6, bnd_e, chk_t u9, q6, chk_t (inB_n v16 (by decide)), t2.1, sI_c (by omega), bnd_e, nB_s, bnd_e]; exact e', (f0.tr fw.x).tr (f3.tr f')⟩
    have hd : ∀ y, (if nI N ≤ (((2 : Int32) * nI v) + (2 : Int32)) then (obd (f_X8_listWhole 5 ((1 : Int32) <<< (nI v &&& 31)) M1) fun M22 => chk (isO M22 8 5) <| bnd (mR M22 5 5) fun o24 => chk (isO M22 100 o24) <| chk (inB (nI v) (mLn M22 o24)) <| bnd (sI M22 o24 (nI v).toNatClampNeg (mI M22 5 6)) fun M28 => bnd (nI v + (-1 : Int32)) fun x32 => f_X8_addWholes_9 n 5 (nI N) x32 M28) else (obd (f_X8_listWholes n 5 (nI v) (((2 : Int32) * nI v) + (1 : Int32)) (((2 : Int32) * nI v) + (2 : Int32)) M1) fun M22 => chk (isO M22 8 5) <| bnd (mR M22 5 5) fun o24 => chk (isO M22 100 o24) <| chk (inB (nI v) (mLn M22 o24)) <| bnd (sI M22 o24 (nI v).toNatClampNeg (mI M22 5 6)) fun M28 => bnd (nI v + (-1 : Int32)) fun x32 => f_X8_addWholes_9 n 5 (nI N) x32 M28)) = y → f_X8_addWholes_9 (n + 1) 5 (nI N) (nB (v + 1)) M = y := by
      intro y hy
      rw [show nB (v + 1) = nI v from rfl, f_X8_addWholes_9, if_neg (show ¬ nI v < (0 : Int32) from nI_nlt (b := 0) (Nat.zero_le _) (by omega)), chk_t w1, y5, bnd_e, chk_t w8, z5, chk_t (inB_n v16 (by decide)), h.1, sI_c (by omega), hM1, bnd_e]
      exact hy
    have e22 : ((2 : Int32) * nI v) + (2 : Int32) = nI (2 * v + 2) := by rw [show (2 : Int32) = nI 2 from rfl, pk_mul, nI_add]
    have e21 : ((2 : Int32) * nI v) + (1 : Int32) = nI (2 * v + 1) := by rw [show (2 : Int32) = nI 2 from rfl, pk_mul, nI_1]
    by_cases leaf : N ≤ 2 * v + 2
    · obtain ⟨M2, c2, e2, t2, k2, fw⟩ := lw1 W1 t1 (SO.one v16)
      obtain ⟨M', e', f'⟩ := rest M2 c2 t2 k2 fw
      exact ⟨M', hd _ (by rw [e22, if_pos (nI_le leaf (by omega)), e2, obd_s]; exact e'), f'⟩
    · obtain ⟨al, bl, hl1, hl2, el1, el2⟩ := pr (2 * v + 1) (by omega) (by omega)
      obtain ⟨ar, br, hr1, hr2, er1, er2⟩ := pr (2 * v + 2) (by omega) (by omega)
      have a1 : mI M1 12 (2 * v + 1) = nI al := by rw [r12 _ (by omega)]; exact el1
      obtain ⟨M2, c2, e2, t2, k2, fw⟩ := lw8 (v := v) (l := 2 * v + 1) (r := 2 * v + 2) v16 (by omega) (by omega) hr1 hl2 hr2 (bl - al) al n M1 c (by omega) W1 t1 (Nat.le_refl _) (by rw [r12 _ (by omega)]; exact er1) (by rw [r13]; exact er2) (by rw [r13]; exact el2) (by omega)
      obtain ⟨M', e', f'⟩ := rest M2 c2 t2 k2 fw
      obtain ⟨⟨u1, u2, u3, u4, u5, u6, u7, u8, u9⟩, ⟨x1, x2, x3, x4, x5, x6, x7, x8⟩, ⟨q1, q2, q3, q4, q5, q6⟩⟩ := id W1
      have eW : f_X8_listWholes n 5 (nI v) (nI (2 * v + 1)) (nI (2 * v + 2)) M1 = some M2 := by
        rw [f_X8_listWholes, chk_t u1, x5, bnd_e, chk_t u8, q5, chk_t (inB_n (by omega) (by decide)), mI_c (by omega), a1, bnd_e]
        exact e2
      exact ⟨M', hd _ (by rw [e22, e21, if_neg (nI_ge (by omega) (by omega)), eW, obd_s]; exact e'), f'⟩
theorem awh {N : Nat} (h1 : 1 ≤ N) (h16 : N ≤ 16) {M : Mem} (w : W5 M) (f : F1 M 8 9 N) {n : Nat} (hn : 1100 ≤ n) : ∃ M', f_X8_addWholes n 5 (nI N) M = some M' ∧ Fx M M' := by
  obtain ⟨⟨w1, w2, w3, w4, w5, w6, w7, w8, w9⟩, _, _⟩ := id w
  have f0 : Fx M (sI M 5 6 0) := ⟨rfl, fun o n _ b => mI_o _ _ _ _ _ n, fun b n => mI_n _ _ _ _ n⟩
  obtain ⟨M', e', f'⟩ := aw9 h1 h16 N n (sI M 5 6 0) 0 (Nat.le_refl _) (w.e rfl) ⟨mI_s _ _ _ _, by decide, fun j hj => by omega⟩ (f.x f0) (fun u a b => by omega) (by omega)
  refine ⟨M', ?_, f0.tr f'⟩
  have eN : nI N - (1 : Int32) = nB N := by
    obtain ⟨m, rfl⟩ : ∃ m, N = m + 1 := ⟨N - 1, by omega⟩
    exact nI_pred m
  rw [f_X8_addWholes, chk_t w1, bnd_e, eN, bnd_e]
  exact e'
/-- what a survey changes -/
def Fs (M M' : Mem) : Prop := M'.1 = M.1 ∧ ∀ o, ¬ (5 ≤ o ∧ o ≤ 13) → ∀ b, mI M' o b = mI M o b
theorem Fs.rf (M : Mem) : Fs M M := ⟨rfl, fun _ _ _ => rfl⟩
theorem Fs.tr {M M' M'' : Mem} (h : Fs M M') (h' : Fs M' M'') : Fs M M'' := ⟨h'.1.trans h.1, fun o n b => (h'.2 o n b).trans (h.2 o n b)⟩
theorem Fx.f {M M' : Mem} (h : Fx M M') : Fs M M' := ⟨h.1, fun o n b => h.2.1 o (by omega) (by omega) b⟩
/-- after a survey -/
def SV5 (M : Mem) (N : Nat) : Prop := W5 M ∧ F1 M 6 7 N ∧ F1 M 8 9 N
theorem SV5.l {M M' : Mem} {N : Nat} (h : SV5 M N) (f : FrLg M M') : SV5 M' N := ⟨h.1.e f.1, h.2.1.l f, h.2.2.l f⟩
theorem tk79 {M : Mem} {N : Nat} (h16 : N ≤ 16) (h : SV5 M N) {n : Nat} (hn : 1100 ≤ n) : ∃ M', f_X8_take_79 n 5 M = some M' ∧ Fs M M' ∧ SV5 M' N ∧ mI M' 5 7 = 1 := by
  obtain ⟨w, f6, f8⟩ := h
  obtain ⟨M1, e1, l1⟩ := f6.ag h16 (n := n) hn
  have f81 := f8.l l1
  obtain ⟨M2, e2, l2⟩ := f81.ag h16 (n := n) hn
  have W1 := w.e l1.1
  have W2 := W1.e l2.1
  have l := l1.tr l2
  have fs : Fs M2 (sI M2 5 7 1) := ⟨rfl, fun o n b => mI_o _ _ _ _ _ (by omega)⟩
  have fl : Fs M M2 := ⟨l.1, fun o _ b => l.2 o b⟩
  have s6 : F1 (sI M2 5 7 1) 6 7 N := by
    obtain ⟨a, b, c⟩ := f6.l l
    exact ⟨a, by rw [mI_o _ _ _ _ _ (by decide)]; exact b, by rw [mI_o _ _ _ _ _ (by decide)]; exact c⟩
  have s8 : F1 (sI M2 5 7 1) 8 9 N := by
    obtain ⟨a, b, c⟩ := f8.l l
    exact ⟨a, by rw [mI_o _ _ _ _ _ (by decide)]; exact b, by rw [mI_o _ _ _ _ _ (by decide)]; exact c⟩
  exact ⟨sI M2 5 7 1, by rw [f_X8_take_79, chk_t w.1.1, w.2.1.1, bnd_e, chk_t w.1.2.1, e1, obd_s, chk_t W1.1.1, W1.2.1.2.1, bnd_e, chk_t W1.1.2.2.2.1, e2, obd_s, chk_t W2.1.1, chk_t (Or.inr rfl), bnd_e], fl.tr fs, ⟨W2.e rfl, s6, s8⟩, mI_s _ _ _ _⟩
theorem tk24 {N : Nat} {S : St} (h1 : 1 ≤ N) (h16 : N ≤ 16) (hB : ∀ v, v < N → SO (xR S 17 v)) : ∀ (d i n : Nat) (M : Mem), i + d = N → SB M N S → SV5 M N → d + 1200 ≤ n → ∃ M', f_X8_take_24 n 5 1 (nI i) M = some M' ∧ Fs M M' ∧ SV5 M' N ∧ mI M' 5 7 = 1 := by
  intro d
  induction d with
  | zero =>
    intro i n M hi sb h hn
    obtain ⟨n, rfl⟩ : ∃ m, n = m + 1 := ⟨n - 1, by omega⟩
    obtain ⟨w, f6, f8⟩ := id h
    rw [f_X8_take_24, sb.f, sb.n, if_pos (nI_le (by omega) (by omega))]
    by_cases c : mI M 1 4 = 0
    · rw [if_pos c]; exact tk79 h16 h (by omega)
    · obtain ⟨M1, e1, x1⟩ := awh h1 h16 w f8 (n := n) (by omega)
      have s6 : F1 M1 6 7 N := by
        obtain ⟨⟨a, b, c, d⟩, e, g⟩ := f6
        have io : ∀ {c o}, isO M c o → isO M1 c o := fun z => by unfold isO mN mC at *; rw [x1.1]; exact z
        exact ⟨⟨io a, by rw [mR_e x1.1]; exact b, io c, by rw [mLn_e x1.1]; exact d⟩, by rw [x1.2.1 6 (by decide) (by decide)]; exact e, by rw [x1.2.1 6 (by decide) (by decide)]; exact g⟩
      obtain ⟨M', e', f', R⟩ := tk79 h16 (show SV5 M1 N from ⟨w.e x1.1, s6, f8.x x1⟩) (n := n) (by omega)
      exact ⟨M', by rw [if_neg c, chk_t w.1.1, e1, obd_s]; exact e', x1.f.tr f', R⟩
  | succ d ih =>
    intro i n M hi sb h hn
    obtain ⟨n, rfl⟩ : ∃ m, n = m + 1 := ⟨n - 1, by omega⟩
    obtain ⟨w, f6, f8⟩ := id h
    have so : SO (mI M 2 (nI i).toNatClampNeg) := by rw [mI_c (by omega), sb.b (by omega)]; exact hB i (by omega)
    obtain ⟨M1, e1, l1⟩ := f6.add so
    have W1 := w.e l1.1
    have sb1 : SB M1 N S := sb.e l1.1 (fun b => l1.2 1 b) (fun b => l1.2 2 b)
    have so1 : SO (mI M1 2 (nI i).toNatClampNeg) := by rw [l1.2]; exact so
    obtain ⟨M2, e2, l2⟩ := (f8.l l1).add so1
    have l := l1.tr l2
    obtain ⟨M', e', f', R⟩ := ih (i + 1) n M2 (by omega) (sb.e l.1 (fun b => l.2 1 b) (fun b => l.2 2 b)) (h.l l) (by omega)
    exact ⟨M', by rw [f_X8_take_24, sb.f, sb.n, if_neg (nI_ge (by omega) (by omega)), chk_t w.1.1, w.2.1.1, bnd_e, chk_t w.1.2.1, sb.r2, bnd_e, sb.a2, sb.i2 (by omega), e1, obd_s, chk_t W1.1.1, W1.2.1.2.1, bnd_e, chk_t W1.1.2.2.2.1, sb1.f, sb1.r2, bnd_e, sb1.a2, sb1.i2 (by omega), e2, obd_s, bnd_e, nI_1]; exact e', Fs.tr ⟨l.1, fun o _ b => l.2 o b⟩ f', R⟩
theorem sv1 {M : Mem} {N : Nat} {S : St} (xg : XG M) (xv : XV M N) (sb : SB M N S) (h1 : 1 ≤ N) (h16 : N ≤ 16) (hB : ∀ v, v < N → SO (xR S 17 v)) {n : Nat} (hn : 1300 ≤ n) : ∃ M', f_X9_surveyOnce n 0 M = some M' ∧ Fs M M' ∧ SV5 M' N ∧ mI M' 5 7 = 1 := by
  obtain ⟨a, b, c, d⟩ := xv
  have w : W5 M := ⟨a, b, c⟩
  have q6 : isO M 1 6 ∧ mR M 6 0 = 7 ∧ isO M 101 7 ∧ mLn M 7 = 1024 := ⟨w.1.2.1, w.2.1.2.2.2.2.2.2.1, w.1.2.2.1, w.2.2.1⟩
  have q8 : isO M 1 8 ∧ mR M 8 0 = 9 ∧ isO M 101 9 ∧ mLn M 9 = 1024 := ⟨w.1.2.2.2.1, w.2.1.2.2.2.2.2.2.2, w.1.2.2.2.2.1, w.2.2.2.1⟩
  by_cases z : mI M 5 7 = 0
  · obtain ⟨M1, e1, f1, s1, o1⟩ := bg_1 (o := 6) (q := 7) h16 q6 (n := n) (by omega)
    have W1 := w.e s1
    have q81 : isO M1 1 8 ∧ mR M1 8 0 = 9 ∧ isO M1 101 9 ∧ mLn M1 9 = 1024 := ⟨W1.1.2.2.2.1, W1.2.1.2.2.2.2.2.2.2, W1.1.2.2.2.2.1, W1.2.2.2.1⟩
    have sb1 : SB M1 N S := sb.e s1 (o1 1 (by decide)) (o1 2 (by decide))
    obtain ⟨M2, e2, f2, s2, o2⟩ := bg_1 (o := 8) (q := 9) h16 q81 (n := n) (by omega)
    have sb2 : SB M2 N S := sb1.e s2 (o2 1 (by decide)) (o2 2 (by decide))
    have f12 : F1 M2 6 7 N := by
      obtain ⟨⟨a, b, c, d⟩, e, g⟩ := f1
      have io : ∀ {c o}, isO M1 c o → isO M2 c o := fun z => by unfold isO mN mC at *; rw [s2]; exact z
      exact ⟨⟨io a, by rw [mR_e s2]; exact b, io c, by rw [mLn_e s2]; exact d⟩, by rw [o2 6 (by decide)]; exact e, by rw [o2 6 (by decide)]; exact g⟩
    have W2 := W1.e s2
    obtain ⟨M', e', f', R⟩ := tk24 h1 h16 hB N 0 n M2 (by omega) sb2 ⟨W2, f12, f2⟩ (by omega)
    refine ⟨M', ?_, Fs.tr ⟨s2.trans s1, fun o n b => by rw [o2 o (by omega), o1 o (by omega)]⟩ f', R⟩
    rw [f_X9_surveyOnce, chk_t xg.1, xg.2.2.1, bnd_e, chk_t w.1.1, if_pos z, bnd_e, chk_t w.1.1, xg.2.1, bnd_e, sb.f, f_X8_take, chk_t w.1.1, w.2.1.1, bnd_e, chk_t w.1.2.1, sb.f, sb.n, e1, obd_s, chk_t W1.1.1, W1.2.1.2.1, bnd_e, chk_t W1.1.2.2.2.1, sb1.f, sb1.n, e2, obd_s]
    rw [show f_X8_take_24 n 5 1 0 M2 = some M' from e', obd_s]
  · obtain ⟨d1, d2, d3, d4, d5⟩ := d.resolve_left z
    exact ⟨M, by rw [f_X9_surveyOnce, chk_t xg.1, xg.2.2.1, bnd_e, chk_t w.1.1, if_neg z], Fs.rf M, ⟨w, ⟨q6, d2, d3⟩, ⟨q8, d4, d5⟩⟩, d1⟩
/-! ===== weakest, chance, chanceOf, pivotal, better: both answer ===== -/
theorem CW.sv {M M' : Mem} {N : Nat} {Q : Nat → Int32} {S : St} (h : CW M N Q S) (f : Fs M M') (v : SV5 M' N) (h1 : mI M' 5 7 = 1) : CW M' N Q S := by
  obtain ⟨X, Y, L, p, sb, xg, xc, xv, xs, g, hL⟩ := h
  obtain ⟨e, hI⟩ := f
  have s1 : Shp1 M M' := Shp1.e e
  exact ⟨X, Y, L, p.kp6 e (fun o ho b => hI o (by omega) b), sb.e e (hI 1 (by decide)) (hI 2 (by decide)), xg.s s1, xc.s s1 (hI 113 (by decide)) (fun _ _ => rfl), ⟨v.1.1, v.1.2.1, v.1.2.2, Or.inr ⟨h1, v.2.1.2.1, v.2.1.2.2, v.2.2.2.1, v.2.2.2.2⟩⟩, xs.e e (fun o ho b => hI o (by omega) b), g.e e, hL⟩
theorem FrLg.f {M M' : Mem} (h : FrLg M M') : Fs M M' := ⟨h.1, fun o _ b => h.2 o b⟩
/-- the class has surveyed -/
theorem WJ.sv {M : Mem} {N A i n : Nat} {Q : Nat → Int32} {S : St} (w : WJ M N A i Q S) (hn : 2000 ≤ n) : ∃ M1, f_X9_surveyOnce n 0 M = some M1 ∧ Fs M M1 ∧ SV5 M1 N ∧ mI M1 5 7 = 1 := by
  obtain ⟨X, Y, L, p, sb, xg, xc, xv, xr⟩ := id w.1
  have sw := w.2.2.2.1
  have h2 := sw.n2
  have h16 := sw.n16
  exact sv1 xg xv sb (by omega) h16 (fun v hv i a b => sw.bi v hv i (by omega) b) (by omega)
theorem WJ.sv2 {M M1 : Mem} {N A i : Nat} {Q : Nat → Int32} {S : St} (w : WJ M N A i Q S) (f : Fs M M1) (v : SV5 M1 N) (h1 : mI M1 5 7 = 1) : CW M1 N Q S ∧ XG M1 ∧ SB M1 N S ∧ RV M1 false 0 S [] [] ∧ mI M1 120 7 = 0 ∧ isO M1 10 120 := by
  have cw := w.1.sv f v h1
  obtain ⟨X, Y, L, p, sb, xg, _⟩ := id cw
  have r : RV M1 false 0 S [] [] := w.2.1.mr (by unfold mN; rw [f.1]; exact Nat.le_refl _) (fun o a b => ⟨by rw [f.1], fun b => mR_e f.1 o b, f.2 o (by omega)⟩)
  exact ⟨cw, xg, sb, r, by rw [f.2 120 (by decide)]; exact w.2.2.1, r.1.io (by decide) (by decide) (by decide)⟩
theorem WJ.p2 {M M1 M2 : Mem} {N A i : Nat} {Q : Nat → Int32} {S : St} (w : WJ M N A i Q S) (cw : CW M1 N Q S) (z1 : mI M1 120 7 = 0) (r2 : RV M2 false 0 S [] []) (f : Fr P2 M1 M2) : WI (i + 1) M2 :=
  ⟨N, A, Q, S, cw.ref f.1 (fun o ho b => f.2.1 o (fun z => ho (by unfold P2 at z; omega)) b), r2, by rw [f.2.1 120 (by unfold P2; decide)]; exact z1, w.2.2.2.1.mo, w.2.2.2.2⟩
theorem isI_o {a : Int32} {K : Nat} (hK : K < 999) (h : Out (K + 1) a) {M : Mem} : f_X10_isIn a (0 : Int32) (nI K) M = some 0 := by
  rw [f_X10_isIn]
  by_cases q : a < 0
  · rw [if_pos q]
  · rw [if_neg q, if_pos (gt3 (N := K) (by omega) (h.resolve_left q))]
theorem op13 {M : Mem} {i n : Nat} (h : WI i M) (a : Int32) (hn : 100000 ≤ n) : Oks i (f_X9_weakest n 0 a M) (fun M1 => f_X10_weakest n 120 a M1) := by
  obtain ⟨N, A, Q, S, w⟩ := h
  have sw := w.2.2.2.1
  have h16 := sw.n16
  obtain ⟨X, Y, L, p, sb, xg, xr⟩ := id w.1
  rcases out_in (N := 2) (by decide) a with ha | ⟨u, hu, rfl⟩
  · refine (Okk.same w (r := -1) ?_ ?_).ks
    · rw [f_X9_weakest]
      by_cases q : a < 0
      · rw [if_pos q]
      · rw [if_neg q, if_neg (show ¬ a ≤ (1 : Int32) from Int32.not_le.mpr (gt3 (N := 1) (by decide) (ha.resolve_left q)))]
    · show f_X10_weakest n 120 a M = _
      rw [f_X10_weakest, show f_X10_isIn a (0 : Int32) (1 : Int32) M = some 0 from isI_o (K := 1) (by decide) ha, obd_s, if_pos rfl]
  · obtain ⟨M1, e1, f1, v1, o1⟩ := w.sv (n := n) (by omega)
    obtain ⟨cw, xg1, sb1, r1, z1, io⟩ := w.sv2 f1 v1 o1
    have u1 := us_b h16
    obtain ⟨y, ey⟩ := v1.2.2.ls h16 (us6 N) 0 n (-1) 17 (by omega) (by omega)
    have ey' : f_X1_leastStop n 8 M1 = some y := ey
    have cls : ∃ x, f_X9_weakest n 0 (nI u) M = some (x, M1) := by
      rw [f_X9_weakest, if_neg (show ¬ nI u < 0 from nI_nlt (b := 0) (Nat.zero_le _) (by omega)), if_pos (show nI u ≤ (1 : Int32) from nI_le (b := 1) (by omega) (by decide)), chk_t xg.1, e1, obd_s, chk_t xg1.1, xg1.2.2.1, bnd_e, chk_t v1.1.1.1, v1.1.2.1.2.1, bnd_e, chk_t v1.1.1.2.2.2.1, ey', obd_s]
      obtain ⟨z, ez⟩ := j6 y M1
      split
      · exact ⟨_, by rw [ez, obd_s]⟩
      · exact ⟨_, rfl⟩
    obtain ⟨x, ec⟩ := cls
    have p := p16 h16
    obtain ⟨x', M2, e2, r2, f2⟩ := rwk_l sw.n h16 sw.t (nI u) (2 ^ N - 1) (2 ^ N - 1) n M1 r1 (by omega) (by omega) (by omega)
    refine ⟨x, x', M1, M2, ec, io, ?_, w.p2 cw z1 r2 f2⟩
    show f_X10_weakest n 120 (nI u) M1 = _
    have i1 : f_X10_isIn (nI u) (0 : Int32) (1 : Int32) M1 = some 1 := f_isI (b := 1) M1 (show u ≤ 1 by omega) (by decide)
    rw [f_X10_weakest, i1, obd_s, if_neg ne10, rs_f r1.1, r1.al sw.n h16, obd_s, obd_s]
    exact e2
theorem mil {M1 : Mem} {N n : Nat} (h16 : N ≤ 16) (v1 : SV5 M1 N) {a b : Int32} (ha : a = -1 ∨ ∃ v, v < 16 ∧ a = nI v) (hn : 2000 ≤ n) : ∃ x M2, f_X8_millionths n 5 a b (nI N) M1 = some (x, M2) ∧ FrLg M1 M2 := by
  obtain ⟨x, M2, e, f⟩ := m8_l h16 (v2 := b) ha (N + 1) 0 n M1 (by omega) v1.1 v1.2.2 (by omega)
  exact ⟨x, M2, e, f⟩
theorem op15 {M : Mem} {i n : Nat} (h : WI i M) (a : Int32) (hn : 100000 ≤ n) : Oks i (f_X9_chance n 0 a M) (fun M1 => f_X10_chance n 120 a M1) := by
  obtain ⟨N, A, Q, S, w⟩ := h
  have sw := w.2.2.2.1
  have h16 := sw.n16
  obtain ⟨X, Y, L, p, sb, xg, xr⟩ := id w.1
  rcases out_in (N := 11) (by decide) a with ha | ⟨u, hu, rfl⟩
  · refine (Okk.same w (r := -1) ?_ ?_).ks
    · rw [f_X9_chance]
      by_cases q : a < 0
      · rw [if_pos q]
      · rw [if_neg q, if_neg (show ¬ a ≤ (10 : Int32) from Int32.not_le.mpr (gt3 (N := 10) (by decide) (ha.resolve_left q)))]
    · show f_X10_chance n 120 a M = _
      rw [f_X10_chance, show f_X10_isIn a (0 : Int32) (10 : Int32) M = some 0 from isI_o (K := 10) (by decide) ha, obd_s, if_pos rfl]
  · obtain ⟨M1, e1, f1, v1, o1⟩ := w.sv (n := n) (by omega)
    obtain ⟨_, xg1, sb1, _⟩ := w.sv2 f1 v1 o1
    obtain ⟨x, M2, e2, l2⟩ := mil h16 v1 (a := -1) (b := nI u) (n := n) (Or.inl rfl) (by omega)
    obtain ⟨cw, xg2, sb2, r2, z2, io⟩ := w.sv2 (f1.tr l2.f) (v1.l l2) (by rw [l2.2]; exact o1)
    obtain ⟨x', M3, e3, r3, f3⟩ := rch_l sw.n h16 sw.t (nI u) (2 ^ N) 0 n 0 M2 r2 (by omega) (by have := p16 h16; omega)
    refine ⟨x, x', M2, M3, ?_, io, ?_, w.p2 cw z2 r3 f3⟩
    · rw [f_X9_chance, if_neg (show ¬ nI u < 0 from nI_nlt (b := 0) (Nat.zero_le _) (by omega)), if_pos (show nI u ≤ (10 : Int32) from nI_le (b := 10) (by omega) (by decide)), chk_t xg.1, e1, obd_s, chk_t xg1.1, xg1.2.2.1, bnd_e, chk_t v1.1.1.1, xg1.2.1, bnd_e, sb1.f, sb1.n, e2, obd2_s]
    · show f_X10_chance n 120 (nI u) M2 = _
      rw [f_X10_chance, show (10 : Int32) = nI 10 from rfl, f_isI M2 (show u ≤ 10 by omega) (by decide), obd_s, if_neg ne10]
      exact e3
theorem op16 {M : Mem} {i n : Nat} (h : WI i M) (a b : Int32) (hn : 100000 ≤ n) : Oks i (f_X9_chanceOf n 0 a b M) (fun M1 => f_X10_chanceOf n 120 a b M1) := by
  obtain ⟨N, A, Q, S, w⟩ := h
  have sw := w.2.2.2.1
  have h16 := sw.n16
  have h2 := sw.n2
  obtain ⟨X, Y, L, p, sb, xg, xr⟩ := id w.1
  have r := w.2.1
  rcases out_in (N := N) (by omega) a with ha | ⟨v, hv, rfl⟩
  · refine (Okk.same w (r := -1) ?_ ?_).ks
    · rw [f_X9_chanceOf, chk_t xg.1, xg.2.1, bnd_e, sb.f, ndc0 sb ha, obd_s, if_pos rfl]
    · show f_X10_chanceOf n 120 a b M = _
      rw [f_X10_chanceOf, rs_f r.1, ndr0 r sw.n (by omega) h16 ha, obd_s, if_pos rfl]
  · rcases out_in (N := 11) (by decide) b with hb | ⟨u, hu, rfl⟩
    · refine (Okk.same w (r := -1) ?_ ?_).ks
      · rw [f_X9_chanceOf, chk_t xg.1, xg.2.1, bnd_e, sb.f, ndc sb hv h16, obd_s, if_neg ne10]
        by_cases q : b < 0
        · rw [if_pos q]
        · rw [if_neg q, if_neg (show ¬ b ≤ (10 : Int32) from Int32.not_le.mpr (gt3 (N := 10) (by decide) (hb.resolve_left q)))]
      · show f_X10_chanceOf n 120 (nI v) b M = _
        rw [f_X10_chanceOf, rs_f r.1, ndr r sw.n hv h16, obd_s, if_neg ne10, show f_X10_isIn b (0 : Int32) (10 : Int32) M = some 0 from isI_o (K := 10) (by decide) hb, obd_s, if_pos rfl]
    · obtain ⟨M1, e1, f1, v1, o1⟩ := w.sv (n := n) (by omega)
      obtain ⟨_, xg1, sb1, _⟩ := w.sv2 f1 v1 o1
      obtain ⟨x, M2, e2, l2⟩ := mil h16 v1 (a := nI v) (b := nI u) (n := n) (Or.inr ⟨v, by omega, rfl⟩) (by omega)
      obtain ⟨cw, xg2, sb2, r2, z2, io⟩ := w.sv2 (f1.tr l2.f) (v1.l l2) (by rw [l2.2]; exact o1)
      obtain ⟨x', M3, e3, r3, f3⟩ := rco_l sw.n h16 sw.t (v := v) (by omega) (nI u) (2 ^ N) 0 n 0 M2 r2 (by omega) (by have := p16 h16; omega)
      refine ⟨x, x', M2, M3, ?_, io, ?_, w.p2 cw z2 r3 f3⟩
      · rw [f_X9_chanceOf, chk_t xg.1, xg.2.1, bnd_e, sb.f, ndc sb hv h16, obd_s, if_neg ne10, if_neg (show ¬ nI u < 0 from nI_nlt (b := 0) (Nat.zero_le _) (by omega)), if_pos (show nI u ≤ (10 : Int32) from nI_le (b := 10) (by omega) (by decide)), e1, obd_s, chk_t xg1.1, xg1.2.2.1, bnd_e, chk_t v1.1.1.1, xg1.2.1, bnd_e, sb1.f, sb1.n, e2, obd2_s]
      · show f_X10_chanceOf n 120 (nI v) (nI u) M2 = _
        rw [f_X10_chanceOf, rs_f r2.1, ndr r2 sw.n hv h16, obd_s, if_neg ne10, show (10 : Int32) = nI 10 from rfl, f_isI M2 (show u ≤ 10 by omega) (by decide), obd_s, if_neg ne10]
        exact e3
theorem op18 {M : Mem} {i n : Nat} (h : WI i M) (a : Int32) (hn : 100000 ≤ n) : ∃ x x' M1, f_X9_pivotal n 0 a M = some (x, M1) ∧ isO M1 10 120 ∧ f_X10_pivotal n 120 a M1 = some x' ∧ WI (i + 1) M1 := by
  obtain ⟨N, A, Q, S, w⟩ := h
  have sw := w.2.2.2.1
  have h16 := sw.n16
  have h2 := sw.n2
  obtain ⟨X, Y, L, p, sb, xg, xr⟩ := id w.1
  have r := w.2.1
  rcases out_in (N := N) (by omega) a with ha | ⟨v, hv, rfl⟩
  · exact ⟨-1, -1, M, by rw [f_X9_pivotal, chk_t xg.1, xg.2.1, bnd_e, sb.f, ndc0 sb ha, obd_s, if_pos rfl], r.1.io (by decide) (by decide) (by decide), by rw [f_X10_pivotal, rs_f r.1, ndr0 r sw.n (by omega) h16 ha, obd_s, if_pos rfl], w.mo⟩
  · obtain ⟨M1, e1, f1, v1, o1⟩ := w.sv (n := n) (by omega)
    obtain ⟨cw, xg1, sb1, r1, z1, io⟩ := w.sv2 f1 v1 o1
    have u1 := us_b h16
    obtain ⟨x, ex⟩ := v1.2.1.tb h16 (v := v) (by omega) (us6 N) 0 n 0 (by omega) (by omega)
    have ex' : f_X1_turnedBy n 6 (nI v) M1 = some x := ex
    obtain ⟨x', ey⟩ := rpv_l r1 sw.n h16 (v := v) (by omega) (2 ^ N) 0 n 0 (by omega) (by have := p16 h16; omega)
    refine ⟨x, x', M1, ?_, io, ?_, N, A, Q, S, cw, r1, z1, sw.mo, w.2.2.2.2⟩
    · rw [f_X9_pivotal, chk_t xg.1, xg.2.1, bnd_e, sb.f, ndc sb hv h16, obd_s, if_neg ne10, e1, obd_s, chk_t xg1.1, xg1.2.2.1, bnd_e, chk_t v1.1.1.1, v1.1.2.1.1, bnd_e, chk_t v1.1.1.2.1, ex', obd_s]
    · rw [f_X10_pivotal, rs_f r1.1, ndr r1 sw.n hv h16, obd_s, if_neg ne10]
      exact ey
theorem op20 {M : Mem} {i n : Nat} (h : WI i M) (hn : 100000 ≤ n) : ∃ x x' M1, f_X9_better n 0 M = some (x, M1) ∧ isO M1 10 120 ∧ f_X10_better n 120 M1 = some x' ∧ WI (i + 1) M1 := by
  obtain ⟨N, A, Q, S, w⟩ := h
  have sw := w.2.2.2.1
  have h16 := sw.n16
  have h2 := sw.n2
  obtain ⟨X, Y, L, p, sb, xg, xr⟩ := id w.1
  obtain ⟨M1, e1, f1, v1, o1⟩ := w.sv (n := n) (by omega)
  obtain ⟨cw, xg1, sb1, r1, z1, io⟩ := w.sv2 f1 v1 o1
  have u1 := us_b h16
  have p2 := p16 h16
  obtain ⟨x, ex⟩ := v1.2.1.lb h16 (us6 N) 0 n (by omega) (by omega)
  have ex' : f_X1_leastBetter n 6 M1 = some x := ex
  obtain ⟨x', ey⟩ := rbt_l r1 sw.n h16 (2 ^ N - 1) 1 n (by omega) (by omega)
  refine ⟨x, x', M1, ?_, io, ey, N, A, Q, S, cw, r1, z1, sw.mo, w.2.2.2.2⟩
  rw [f_X9_better, chk_t xg.1, e1, obd_s, chk_t xg1.1, xg1.2.2.1, bnd_e, chk_t v1.1.1.1, v1.1.2.1.1, bnd_e, chk_t v1.1.1.2.1, ex', obd_s]
/-! ===== rows for floats ===== -/
abbrev nq32 (r : UInt32) : Prop := r &&& 0x7fffffff ≤ 0x7f800000
abbrev nq64 (r : UInt64) : Prop := r &&& 0x7fffffffffffffff ≤ 0x7ff0000000000000
section
variable {p : Program} {l : Launch} {e : Env} {R : Room} {s : State} {m : MethodId} {args : Array Value} {below : List Frame} {meth : Method} {c : Code} {H : Heap} {locs : List Loc} {cells slots : Nat} {Q : State → Prop} {cc : ByteArray} {pc : Nat} {ls : Array Slot} {rest : List Value}
theorem lv_ldcwF (hexec : p.tables.exec = Jvm.exec) (hb : c.code = cc) {own : String} {index : Nat} {v : UInt32} (hown : s.vm.findClass own = some m.cls) (hconst : (Jvm.Cond.constantFloat own index v).before args s = true) (hdg : decode cc pc = .ok (.ldc_w index, 3)) (k : W p l e R s m args below meth c H locs cells slots Q (F0 m (pc + 3) ls (.float v :: rest))) : W p l e R s m args below meth c H locs cells slots Q (F0 m pc ls rest) := by
  intro T hT X
  obtain ⟨t, a, b⟩ := k T hT X
  refine ⟨t, ?_, b⟩
  obtain ⟨k, cf, hk, hcf, hcp⟩ := Cond.constantFloat_spec hown hconst
  obtain ⟨k', hk', he⟩ := X.warmed.alike.2.2 _ _ hk
  have hdg2 : decode c.code (F0 m pc ls rest).pc = .ok (.ldc_w index, 3) := by rw [hb]; exact hdg
  have hk2 : T.vm.classes[(F0 m pc ls rest).method.cls]? = some k' := hk'
  jvm_step X.here [hexec, hdg2, Op.ldc_w.wp_float (s := T) (f := F0 m pc ls rest) X.here.top hk2 (by rw [he]; exact hcf) hcp]
  exact a
end
section
variable {p : Program} {l : Launch} {e : Env} {R : Room} {s : State} {m : MethodId} {args : Array Value} {below : List Frame} {meth : Method} {c : Code} {Q : State → Prop}
variable {G : Gam} {M0 M : Mem} {cc : ByteArray} {own : String} {nL fr lo pc : Nat} {vs : List (Nat × Value)} {st : List Value}
theorem s_fconst1 (X : Cx p R s m args c G M0 cc own nL fr lo)  (hd : decode cc pc = .ok (.fconst 1, 1)) (k : Sg p l e R s m args below meth c Q G M0 nL (pc + 1) vs (.float FP.fconst1 :: st) M) : Sg p l e R s m args below meth c Q G M0 nL pc vs st M :=
  fun hk H locs ls hl hP hS => lv_fconst1 X.1 X.2.1 hd (k hk H locs ls hl hP hS)
theorem s_fconst2 (X : Cx p R s m args c G M0 cc own nL fr lo)  (hd : decode cc pc = .ok (.fconst 2, 1)) (k : Sg p l e R s m args below meth c Q G M0 nL (pc + 1) vs (.float FP.fconst2 :: st) M) : Sg p l e R s m args below meth c Q G M0 nL pc vs st M :=
  fun hk H locs ls hl hP hS => lv_fconst2 X.1 X.2.1 hd (k hk H locs ls hl hP hS)
theorem s_dconst0 (X : Cx p R s m args c G M0 cc own nL fr lo)  (hd : decode cc pc = .ok (.dconst 0, 1)) (k : Sg p l e R s m args below meth c Q G M0 nL (pc + 1) vs (.double FP.dconst0 :: st) M) : Sg p l e R s m args below meth c Q G M0 nL pc vs st M :=
  fun hk H locs ls hl hP hS => lv_dconst0 X.1 X.2.1 hd (k hk H locs ls hl hP hS)
theorem s_dconst1 (X : Cx p R s m args c G M0 cc own nL fr lo)  (hd : decode cc pc = .ok (.dconst 1, 1)) (k : Sg p l e R s m args below meth c Q G M0 nL (pc + 1) vs (.double FP.dconst1 :: st) M) : Sg p l e R s m args below meth c Q G M0 nL pc vs st M :=
  fun hk H locs ls hl hP hS => lv_dconst1 X.1 X.2.1 hd (k hk H locs ls hl hP hS)
theorem s_ldcwF (X : Cx p R s m args c G M0 cc own nL fr lo) {ix : Nat} {v : UInt32} (hd : decode cc pc = .ok (.ldc_w ix, 3)) (hw : Jvm.Cond.constantFloat own ix v ∈ lw_g) (k : Sg p l e R s m args below meth c Q G M0 nL (pc + 3) vs (.float v :: st) M) : Sg p l e R s m args below meth c Q G M0 nL pc vs st M :=
  fun hk H locs ls hl hP hS => lv_ldcwF X.1 X.2.1 X.2.2.1 (X.2.2.2.1 _ hw) hd (k hk H locs ls hl hP hS)
theorem s_ldc2D (X : Cx p R s m args c G M0 cc own nL fr lo) {ix : Nat} {v : UInt64} (hd : decode cc pc = .ok (.ldc2_w ix, 3)) (hw : Jvm.Cond.constantDouble own ix v ∈ lw_g) (k : Sg p l e R s m args below meth c Q G M0 nL (pc + 3) vs (.double v :: st) M) : Sg p l e R s m args below meth c Q G M0 nL pc vs st M :=
  fun hk H locs ls hl hP hS => lv_ldc2d X.1 X.2.1 X.2.2.1 (X.2.2.2.1 _ hw) hd (k hk H locs ls hl hP hS)
theorem s_fload_n (X : Cx p R s m args c G M0 cc own nL fr lo) {kk : Fin 4} {i : Nat} {x : UInt32} (j : Nat) (hd : decode cc pc = .ok (.fload_n kk, 1)) (hi : (kk : Nat) = i) (hj : vs[j]? = some (i, .float x)) (k : Sg p l e R s m args below meth c Q G M0 nL (pc + 1) vs (.float x :: st) M) : Sg p l e R s m args below meth c Q G M0 nL pc vs st M :=
  fun hk H locs ls hl hP hS => lv_fload_n X.1 X.2.1 hd hi (lv_at hl j hj) (k hk H locs ls hl hP hS)
theorem s_fload (X : Cx p R s m args c G M0 cc own nL fr lo) {i : Nat} {x : UInt32} (j : Nat) (hd : decode cc pc = .ok (.fload i, 2)) (hj : vs[j]? = some (i, .float x)) (k : Sg p l e R s m args below meth c Q G M0 nL (pc + 2) vs (.float x :: st) M) : Sg p l e R s m args below meth c Q G M0 nL pc vs st M :=
  fun hk H locs ls hl hP hS => lv_fload X.1 X.2.1 hd (lv_at hl j hj) (k hk H locs ls hl hP hS)
theorem s_dload_n (X : Cx p R s m args c G M0 cc own nL fr lo) {kk : Fin 4} {i : Nat} {x : UInt64} (j : Nat) (hd : decode cc pc = .ok (.dload_n kk, 1)) (hi : (kk : Nat) = i) (hj : vs[j]? = some (i, .double x)) (k : Sg p l e R s m args below meth c Q G M0 nL (pc + 1) vs (.double x :: st) M) : Sg p l e R s m args below meth c Q G M0 nL pc vs st M :=
  fun hk H locs ls hl hP hS => lv_dload_n X.1 X.2.1 hd hi (lv_at hl j hj) (k hk H locs ls hl hP hS)
theorem s_dload (X : Cx p R s m args c G M0 cc own nL fr lo) {i : Nat} {x : UInt64} (j : Nat) (hd : decode cc pc = .ok (.dload i, 2)) (hj : vs[j]? = some (i, .double x)) (k : Sg p l e R s m args below meth c Q G M0 nL (pc + 2) vs (.double x :: st) M) : Sg p l e R s m args below meth c Q G M0 nL pc vs st M :=
  fun hk H locs ls hl hP hS => lv_dload X.1 X.2.1 hd (lv_at hl j hj) (k hk H locs ls hl hP hS)
theorem s_fstore_n (X : Cx p R s m args c G M0 cc own nL fr lo) {kk : Fin 4} {i : Nat} {x : UInt32} {vs' : List (Nat × Value)} (hd : decode cc pc = .ok (.fstore_n kk, 1)) (hi : (kk : Nat) = i) (hn : i < nL) (ks : List Nat) (hq : lv_pick ((i, Value.float x) :: vs.filter (fun q => !(q.1 == i) && !(q.1 + 1 == i && q.2.category == 2))) ks = vs') (k : Sg p l e R s m args below meth c Q G M0 nL (pc + 1) vs' st M) : Sg p l e R s m args below meth c Q G M0 nL pc vs (Value.float x :: st) M :=
  fun hk H locs ls hl hP hS => lv_fstore_n X.1 X.2.1 hd hi hl hn rfl fun ls' hl' => k hk H locs ls' (lv_sub hl' ks hq) hP hS
theorem s_fstore (X : Cx p R s m args c G M0 cc own nL fr lo) {i : Nat} {x : UInt32} {vs' : List (Nat × Value)} (hd : decode cc pc = .ok (.fstore i, 2)) (hn : i < nL) (ks : List Nat) (hq : lv_pick ((i, Value.float x) :: vs.filter (fun q => !(q.1 == i) && !(q.1 + 1 == i && q.2.category == 2))) ks = vs') (k : Sg p l e R s m args below meth c Q G M0 nL (pc + 2) vs' st M) : Sg p l e R s m args below meth c Q G M0 nL pc vs (Value.float x :: st) M :=
  fun hk H locs ls hl hP hS => lv_fstore X.1 X.2.1 hd hl hn rfl fun ls' hl' => k hk H locs ls' (lv_sub hl' ks hq) hP hS
theorem s_dstore_n (X : Cx p R s m args c G M0 cc own nL fr lo) {kk : Fin 4} {i : Nat} {x : UInt64} {vs' : List (Nat × Value)} (hd : decode cc pc = .ok (.dstore_n kk, 1)) (hi : (kk : Nat) = i) (hn : i + 1 < nL) (ks : List Nat) (hq : lv_pick ((i, Value.double x) :: vs.filter (fun q => !(q.1 == i) && (!(q.1 == i + 1) && !(q.1 + 1 == i && q.2.category == 2)))) ks = vs') (k : Sg p l e R s m args below meth c Q G M0 nL (pc + 1) vs' st M) : Sg p l e R s m args below meth c Q G M0 nL pc vs (Value.double x :: st) M :=
  fun hk H locs ls hl hP hS => lv_dstore_n X.1 X.2.1 hd hi hl hn rfl fun ls' hl' => k hk H locs ls' (lv_sub hl' ks hq) hP hS
theorem s_dstore (X : Cx p R s m args c G M0 cc own nL fr lo) {i : Nat} {x : UInt64} {vs' : List (Nat × Value)} (hd : decode cc pc = .ok (.dstore i, 2)) (hn : i + 1 < nL) (ks : List Nat) (hq : lv_pick ((i, Value.double x) :: vs.filter (fun q => !(q.1 == i) && (!(q.1 == i + 1) && !(q.1 + 1 == i && q.2.category == 2)))) ks = vs') (k : Sg p l e R s m args below meth c Q G M0 nL (pc + 2) vs' st M) : Sg p l e R s m args below meth c Q G M0 nL pc vs (Value.double x :: st) M :=
  fun hk H locs ls hl hP hS => lv_dstore X.1 X.2.1 hd hl hn rfl fun ls' hl' => k hk H locs ls' (lv_sub hl' ks hq) hP hS
theorem s_fcmp (X : Cx p R s m args c G M0 cc own nL fr lo) {x y : UInt32} {op : CmpOp} (hd : decode cc pc = .ok (.fcmp op, 1)) (k : Sg p l e R s m args below meth c Q G M0 nL (pc + 1) vs (.int (Op.cmpValue (FP.fcmp x y) op) :: st) M) : Sg p l e R s m args below meth c Q G M0 nL pc vs (.float y :: .float x :: st) M :=
  fun hk H locs ls hl hP hS => lv_fcmp X.1 X.2.1 hd (k hk H locs ls hl hP hS)
theorem s_fdiv (X : Cx p R s m args c G M0 cc own nL fr lo) {x y : UInt32} (hd : decode cc pc = .ok (.fdiv, 1)) (hne : vf_n32 (FP.fdiv x y)) (k : Sg p l e R s m args below meth c Q G M0 nL (pc + 1) vs (.float (FP.fdiv x y) :: st) M) : Sg p l e R s m args below meth c Q G M0 nL pc vs (.float y :: .float x :: st) M :=
  fun hk H locs ls hl hP hS => lv_fdiv X.1 X.2.1 hd hne (k hk H locs ls hl hP hS)
theorem s_fmul (X : Cx p R s m args c G M0 cc own nL fr lo) {x y : UInt32} (hd : decode cc pc = .ok (.fmul, 1)) (hne : vf_n32 (FP.fmul x y)) (k : Sg p l e R s m args below meth c Q G M0 nL (pc + 1) vs (.float (FP.fmul x y) :: st) M) : Sg p l e R s m args below meth c Q G M0 nL pc vs (.float y :: .float x :: st) M :=
  fun hk H locs ls hl hP hS => lv_fmul X.1 X.2.1 hd hne (k hk H locs ls hl hP hS)
theorem s_fsub (X : Cx p R s m args c G M0 cc own nL fr lo) {x y : UInt32} (hd : decode cc pc = .ok (.fsub, 1)) (hne : vf_n32 (FP.fsub x y)) (k : Sg p l e R s m args below meth c Q G M0 nL (pc + 1) vs (.float (FP.fsub x y) :: st) M) : Sg p l e R s m args below meth c Q G M0 nL pc vs (.float y :: .float x :: st) M :=
  fun hk H locs ls hl hP hS => lv_fsub X.1 X.2.1 hd hne (k hk H locs ls hl hP hS)
theorem s_nmF {x t : UInt32} (h : x = t) (k : Sg p l e R s m args below meth c Q G M0 nL pc vs (.float x :: st) M) : Sg p l e R s m args below meth c Q G M0 nL pc vs (.float t :: st) M := h ▸ k
theorem s_dcmp (X : Cx p R s m args c G M0 cc own nL fr lo) {x y : UInt64} {op : CmpOp} (hd : decode cc pc = .ok (.dcmp op, 1)) (k : Sg p l e R s m args below meth c Q G M0 nL (pc + 1) vs (.int (Op.cmpValue (FP.dcmp x y) op) :: st) M) : Sg p l e R s m args below meth c Q G M0 nL pc vs (.double y :: .double x :: st) M :=
  fun hk H locs ls hl hP hS => lv_dcmp X.1 X.2.1 hd (k hk H locs ls hl hP hS)
theorem s_ddiv (X : Cx p R s m args c G M0 cc own nL fr lo) {x y : UInt64} (hd : decode cc pc = .ok (.ddiv, 1)) (hne : vf_n64 (FP.ddiv x y)) (k : Sg p l e R s m args below meth c Q G M0 nL (pc + 1) vs (.double (FP.ddiv x y) :: st) M) : Sg p l e R s m args below meth c Q G M0 nL pc vs (.double y :: .double x :: st) M :=
  fun hk H locs ls hl hP hS => lv_ddiv X.1 X.2.1 hd hne (k hk H locs ls hl hP hS)
theorem s_dmul (X : Cx p R s m args c G M0 cc own nL fr lo) {x y : UInt64} (hd : decode cc pc = .ok (.dmul, 1)) (hne : vf_n64 (FP.dmul x y)) (k : Sg p l e R s m args below meth c Q G M0 nL (pc + 1) vs (.double (FP.dmul x y) :: st) M) : Sg p l e R s m args below meth c Q G M0 nL pc vs (.double y :: .double x :: st) M :=
  fun hk H locs ls hl hP hS => lv_dmul X.1 X.2.1 hd hne (k hk H locs ls hl hP hS)
theorem s_dsub (X : Cx p R s m args c G M0 cc own nL fr lo) {x y : UInt64} (hd : decode cc pc = .ok (.dsub, 1)) (hne : vf_n64 (FP.dsub x y)) (k : Sg p l e R s m args below meth c Q G M0 nL (pc + 1) vs (.double (FP.dsub x y) :: st) M) : Sg p l e R s m args below meth c Q G M0 nL pc vs (.double y :: .double x :: st) M :=
  fun hk H locs ls hl hP hS => lv_dsub X.1 X.2.1 hd hne (k hk H locs ls hl hP hS)
theorem s_nmD {x t : UInt64} (h : x = t) (k : Sg p l e R s m args below meth c Q G M0 nL pc vs (.double x :: st) M) : Sg p l e R s m args below meth c Q G M0 nL pc vs (.double t :: st) M := h ▸ k
theorem s_i2f (X : Cx p R s m args c G M0 cc own nL fr lo) {x : Int32} (hd : decode cc pc = .ok (.i2f, 1)) (k : Sg p l e R s m args below meth c Q G M0 nL (pc + 1) vs (.float (FP.i2f x) :: st) M) : Sg p l e R s m args below meth c Q G M0 nL pc vs (.int x :: st) M :=
  fun hk H locs ls hl hP hS => lv_i2f X.1 X.2.1 hd (k hk H locs ls hl hP hS)
theorem s_i2d (X : Cx p R s m args c G M0 cc own nL fr lo) {x : Int32} (hd : decode cc pc = .ok (.i2d, 1)) (k : Sg p l e R s m args below meth c Q G M0 nL (pc + 1) vs (.double (FP.i2d x) :: st) M) : Sg p l e R s m args below meth c Q G M0 nL pc vs (.int x :: st) M :=
  fun hk H locs ls hl hP hS => lv_i2d X.1 X.2.1 hd (k hk H locs ls hl hP hS)
theorem s_l2d (X : Cx p R s m args c G M0 cc own nL fr lo) {x : Int64} (hd : decode cc pc = .ok (.l2d, 1)) (k : Sg p l e R s m args below meth c Q G M0 nL (pc + 1) vs (.double (FP.l2d x) :: st) M) : Sg p l e R s m args below meth c Q G M0 nL pc vs (.long x :: st) M :=
  fun hk H locs ls hl hP hS => lv_l2d X.1 X.2.1 hd (k hk H locs ls hl hP hS)
theorem s_f2i (X : Cx p R s m args c G M0 cc own nL fr lo) {x : UInt32} (hd : decode cc pc = .ok (.f2i, 1)) (k : Sg p l e R s m args below meth c Q G M0 nL (pc + 1) vs (.int (FP.f2i x) :: st) M) : Sg p l e R s m args below meth c Q G M0 nL pc vs (.float x :: st) M :=
  fun hk H locs ls hl hP hS => lv_f2i X.1 X.2.1 hd (k hk H locs ls hl hP hS)
theorem s_d2l (X : Cx p R s m args c G M0 cc own nL fr lo) {x : UInt64} (hd : decode cc pc = .ok (.d2l, 1)) (k : Sg p l e R s m args below meth c Q G M0 nL (pc + 1) vs (.long (FP.d2l x) :: st) M) : Sg p l e R s m args below meth c Q G M0 nL pc vs (.double x :: st) M :=
  fun hk H locs ls hl hP hS => lv_d2l X.1 X.2.1 hd (k hk H locs ls hl hP hS)
theorem s_d2i (X : Cx p R s m args c G M0 cc own nL fr lo) {x : UInt64} (hd : decode cc pc = .ok (.d2i, 1)) (k : Sg p l e R s m args below meth c Q G M0 nL (pc + 1) vs (.int (FP.d2i x) :: st) M) : Sg p l e R s m args below meth c Q G M0 nL pc vs (.double x :: st) M :=
  fun hk H locs ls hl hP hS => lv_d2i X.1 X.2.1 hd (k hk H locs ls hl hP hS)
theorem s_rawF (X : Cx p R s m args c G M0 cc own nL fr lo) {ix : Nat} {b : UInt32} (hlk : Cond.methodLink own ix ⟨"java/lang/Float", "floatToRawIntBits", "(F)I"⟩ ∈ lw_g) (hnat : Cond.native ⟨"java/lang/Float", "floatToRawIntBits", "(F)I"⟩ ∈ lw_g) (hstat : Cond.static ⟨"java/lang/Float", "floatToRawIntBits", "(F)I"⟩ ∈ lw_g) (hini : Cond.initialized "java/lang/Float" ∈ lw_g) (hR : 1 ≤ fr ∧ (st.map fun v => v.category).sum + 16 ≤ lo) (hd : decode cc pc = .ok (.invokestatic ix, 3)) (k : Sg p l e R s m args below meth c Q G M0 nL (pc + 3) vs (.int b.toInt32 :: st) M) : Sg p l e R s m args below meth c Q G M0 nL pc vs (.float b :: st) M := by
  intro hk H locs ls hl hP hS
  have r1 := X.2.2.2.2.2.1.2.2.1
  have r2 := X.2.2.2.2.2.1.2.2.2
  exact vn_f2i X.1 X.2.1 (X.2.2.2.2.2.2.2.1.trans hl.1.symm) X.2.2.1 (X.2.2.2.1 _ hlk) (X.2.2.2.1 _ hnat) (X.2.2.2.1 _ hstat) (X.2.2.2.1 _ hini) (Nat.le_trans hR.1 r1) (by have := hR.2; omega) hd (k hk H locs ls hl hP hS)
theorem s_rawD (X : Cx p R s m args c G M0 cc own nL fr lo) {ix : Nat} {b : UInt64} (hlk : Cond.methodLink own ix ⟨"java/lang/Double", "doubleToRawLongBits", "(D)J"⟩ ∈ lw_g) (hnat : Cond.native ⟨"java/lang/Double", "doubleToRawLongBits", "(D)J"⟩ ∈ lw_g) (hstat : Cond.static ⟨"java/lang/Double", "doubleToRawLongBits", "(D)J"⟩ ∈ lw_g) (hini : Cond.initialized "java/lang/Double" ∈ lw_g) (hR : 1 ≤ fr ∧ (st.map fun v => v.category).sum + 16 ≤ lo) (hd : decode cc pc = .ok (.invokestatic ix, 3)) (k : Sg p l e R s m args below meth c Q G M0 nL (pc + 3) vs (.long b.toInt64 :: st) M) : Sg p l e R s m args below meth c Q G M0 nL pc vs (.double b :: st) M := by
  intro hk H locs ls hl hP hS
  have r1 := X.2.2.2.2.2.1.2.2.1
  have r2 := X.2.2.2.2.2.1.2.2.2
  exact vn_d2l X.1 X.2.1 (X.2.2.2.2.2.2.2.1.trans hl.1.symm) X.2.2.1 (X.2.2.2.1 _ hlk) (X.2.2.2.1 _ hnat) (X.2.2.2.1 _ hstat) (X.2.2.2.1 _ hini) (Nat.le_trans hR.1 r1) (by have := hR.2; omega) hd (k hk H locs ls hl hP hS)
end
theorem Met.ofF {l : Launch} {y : MethodName} {ws ws' : List Cond} {rm : Room} {Pc : Array Value → State → Prop} {Qc : Array Value → State → Outcome → State → Prop} {mc ms : Nat} {free : Addr → Prop} {cc : ByteArray} {maxL : Nat} {ret : Option FieldType}
    (hy : plainFor y = true) (hw : ws = Cond.code y cc maxL ret :: ws')
    (body : ∀ p e s m args below meth c s₁, BodyLoose p l y (headSpec ws rm) cc maxL ret e s m args below meth c s₁ → c.maxLocals = maxL → Pc args s →
      W p l e (headSpec ws rm).room s m args below meth c s.heap [] 0 0 (MQ below Qc args s mc ms free) (entryFrame m args maxL)) : Met l y ws rm Pc Qc mc ms free := by
  refine MetFree.of_bodySF (code := cc) (maxLocals := maxL) (ret := ret) hy ?_ ?_
  · intro args s m h hn
    obtain ⟨meth, c, h1, h2, h3, h4, h5, h6, -, -⟩ := Cond.code_spec hn (atoms_spec (ws := ws) h _ (by rw [hw]; exact List.mem_cons_self))
    exact ⟨meth, c, h1, h2, h3, h4, h5, h6⟩
  · intro p e s m args below meth c s₁ B hml hP _
    have hh0 : s₁.heap = s.heap := by rw [B.state]; rfl
    obtain ⟨t, a1, o, b1, b2, b3⟩ := body p e s m args below meth c s₁ B hml hP s₁ hh0 (Stand.of_body B)
    exact ⟨t, o, a1, b1, b2, ⟨b3.1, b3.2⟩⟩
theorem Kt.ofF {y : MethodName} {bytes : ByteArray} {maxL : Nat} {ret : Option FieldType} {fr lo : Nat} {G : Gam} {av : List Value} {M M1 : Mem} {r : Option Value} (hy : plainFor y = true) (hlen : (lg_sl av).length ≤ maxL)
    (body : ∀ (p : Program) (l : Launch) (e : Env) (R : Room) (s : State) (m : MethodId) (args : Array Value) (below : List Frame) (meth : Method) (c : Code), Cx p R s m args c G M bytes y.cls maxL fr lo → meth.sig.returnType = ret → meth.locks = false → meth.name = y.name → Sg p l e R s m args below meth c (Qm below G args s r M M1) G M maxL 0 (lv_args 0 av) [] M) : Kt y bytes maxL ret fr lo G av M M1 r := by
  intro l
  refine Met.ofF (cc := bytes) (maxL := maxL) (ret := ret) hy rfl ?_
  intro p e s m args below meth c s₁ B hml hv
  obtain ⟨rfl, hz, c1, c2, hP, hK, hSt⟩ := hv
  have hts := atoms_spec (ws := Cond.code y bytes maxL ret :: lw_g) B.pre
  have hX : Cx p (headSpec (Cond.code y bytes maxL ret :: lw_g) (rmx fr lo M)).room s m av.toArray c G M bytes y.cls maxL fr lo :=
    ⟨B.exec, B.bytes, findClass_of_methodNamed B.named, fun w hw => hts w (List.mem_cons_of_mem _ hw), hK, ⟨rfl, rfl, Nat.le_refl _, Nat.le_refl _⟩, hSt, hml, hz⟩
  have hb := body p l e _ s m av.toArray below meth c hX B.returns B.notSynchronized (name_of_methodNamed B.named B.method).1
  have hl := lv_entry av (n := maxL) hlen
  rw [lg_entry_eq]
  have h2 := hb ⟨Nat.le_refl _, Nat.le_refl _, c1, c2⟩ s.heap [] _ hl hP va_S.rf
  rw [Nat.sub_self, Nat.sub_self] at h2
  exact h2
