/-! ===== the survey, the class: what is greater, and the tree's wholes ===== -/
theorem nx_xor (a b : Nat) : nI a ^^^ nI b = nI (a ^^^ b) := by
  refine b_ext fun i hi => ?_
  rw [b_xor, bt_nI _ hi, bt_nI _ hi, bt_nI _ hi, Nat.testBit_xor]
section
variable {o q N : Nat}
theorem ag18 (h16 : N ≤ 16) {K : Nat → Int32 → Mem → Option Mem} {i : Nat} (hi : i < 6) (hK : ∀ M, F1 M o q N → ∃ M', K o (nI (i + 1)) M = some M' ∧ FrLg M M') : ∀ (d j n : Nat) (M : Mem), j + d = us6 N → F1 M o q N → d + 1 ≤ n → ∃ M', f_X1_addGreater_18 K n o (nI i) (nI j) M = some M' ∧ FrLg M M' := by
  have u := us_b h16
  intro d
  induction d with
  | zero =>
    intro j n M hj f hn
    obtain ⟨n, rfl⟩ : ∃ m, n = m + 1 := ⟨n - 1, by omega⟩
    obtain ⟨M', e', f'⟩ := hK M f
    exact ⟨M', by rw [f_X1_addGreater_18, chk_t f.1.1, f.2.2, if_pos (nI_le (by omega) (by omega)), bnd_e, nI_1]; exact e', f'⟩
  | succ d ih =>
    intro j n M hj f hn
    obtain ⟨n, rfl⟩ : ∃ m, n = m + 1 := ⟨n - 1, by omega⟩
    have ib : inB (nI j) (mLn M q) := by rw [f.1.2.2.2]; exact inB_n (by omega) (by decide)
    rw [f_X1_addGreater_18, chk_t f.1.1, f.2.2, if_neg (nI_ge (by omega) (by omega)), f.1.2.1, bnd_e, chk_t f.1.2.2.1, chk_t ib, bnd_e, chk_t f.1.2.2.1, chk_t ib, chk_t (inB_n (show i < 6 from hi) (by decide)), chk_t ib, bnd_e, bnd_e, nI_1]
    generalize ((mL M q (nI j).toNatClampNeg) ||| (((mL M q (nI j).toNatClampNeg) &&& ((l_HV (nI i).toNatClampNeg) ^^^ (-1 : Int64))) <<< ((((1 : Int32) <<< (nI i &&& 31))).toInt64 &&& 63))) = y
    have fl := FrLg.s M q (nI j).toNatClampNeg y
    obtain ⟨M', e', f'⟩ := ih (j + 1) n _ (by omega) (f.l fl) (by omega)
    exact ⟨M', e', fl.tr f'⟩
theorem ag79 (h16 : N ≤ 16) {K : Nat → Int32 → Mem → Option Mem} {p k : Nat} (hk : us6 N = 2 ^ k) (hp : p < us6 N) (hK : ∀ M, F1 M o q N → ∃ M', K o (nI (p * 2)) M = some M' ∧ FrLg M M') : ∀ (d j n : Nat) (M : Mem), j + d = us6 N → F1 M o q N → d + 1 ≤ n → ∃ M', f_X1_addGreater_79 K n o (nI p) (nI j) M = some M' ∧ FrLg M M' := by
  have u := us_b h16
  intro d
  induction d with
  | zero =>
    intro j n M hj f hn
    obtain ⟨n, rfl⟩ : ∃ m, n = m + 1 := ⟨n - 1, by omega⟩
    obtain ⟨M', e', f'⟩ := hK M f
    exact ⟨M', by rw [f_X1_addGreater_79, chk_t f.1.1, f.2.2, if_pos (nI_le (by omega) (by omega)), bnd_e, show (2 : Int32) = nI 2 from rfl, pk_mul]; exact e', f'⟩
  | succ d ih =>
    intro j n M hj f hn
    obtain ⟨n, rfl⟩ : ∃ m, n = m + 1 := ⟨n - 1, by omega⟩
    rw [f_X1_addGreater_79, chk_t f.1.1, f.2.2, if_neg (nI_ge (by omega) (by omega))]
    by_cases c : nI j &&& nI p = 0
    · rw [if_pos c, bnd_e, nI_1]
      exact ih (j + 1) n M (by omega) f (by omega)
    · have ib : inB (nI j) (mLn M q) := by rw [f.1.2.2.2]; exact inB_n (by omega) (by decide)
      have hx : j ^^^ p < 2 ^ k := Nat.xor_lt_two_pow (by omega) (by omega)
      have ix : inB (nI (j ^^^ p)) (mLn M q) := by rw [f.1.2.2.2]; exact inB_n (by omega) (by decide)
      rw [if_neg c, f.1.2.1, bnd_e, chk_t f.1.2.2.1, chk_t ib, bnd_e, chk_t f.1.2.2.1, nx_xor, chk_t ix, chk_t ib, bnd_e, bnd_e, nI_1]
      generalize ((mL M q (nI j).toNatClampNeg) ||| (mL M q (nI (j ^^^ p)).toNatClampNeg)) = y
      have fl := FrLg.s M q (nI j).toNatClampNeg y
      obtain ⟨M', e', f'⟩ := ih (j + 1) n _ (by omega) (f.l fl) (by omega)
      exact ⟨M', e', fl.tr f'⟩
theorem ag69 (h16 : N ≤ 16) {k : Nat} (hk : us6 N = 2 ^ k) : ∀ (d e n : Nat) (M : Mem), e + d = k → F1 M o q N → d + 1030 ≤ n → ∃ M', f_X1_addGreater_69 n o (nI (2 ^ e)) M = some M' ∧ FrLg M M' := by
  have u := us_b h16
  intro d
  induction d with
  | zero =>
    intro e n M he f hn
    obtain ⟨n, rfl⟩ : ∃ m, n = m + 1 := ⟨n - 1, by omega⟩
    exact ⟨M, by rw [f_X1_addGreater_69, chk_t f.1.1, f.2.2, hk, show e = k by omega, if_pos (Int32.le_refl _)], FrLg.rf M⟩
  | succ d ih =>
    intro e n M he f hn
    obtain ⟨n, rfl⟩ : ∃ m, n = m + 1 := ⟨n - 1, by omega⟩
    have hp : 2 ^ e < us6 N := by rw [hk]; exact Nat.pow_lt_pow_right (by decide) (by omega)
    rw [f_X1_addGreater_69, chk_t f.1.1, f.2.2, if_neg (nI_ge hp (by omega))]
    exact ag79 h16 hk hp (fun M f => by rw [← Nat.pow_succ]; exact ih (e + 1) n M (by omega) f (by omega)) (us6 N) 0 n M (by omega) f (by omega)
theorem ag2 (h16 : N ≤ 16) : ∀ (d i n : Nat) (M : Mem), i + d = 6 → F1 M o q N → d + 1050 ≤ n → ∃ M', f_X1_addGreater_2 n o (nI i) M = some M' ∧ FrLg M M' := by
  have u := us_b h16
  obtain ⟨k, k10, hk⟩ := us_p h16
  intro d
  induction d with
  | zero =>
    intro i n M hi f hn
    obtain ⟨n, rfl⟩ : ∃ m, n = m + 1 := ⟨n - 1, by omega⟩
    rw [f_X1_addGreater_2, if_pos (show (6 : Int32) ≤ nI i from nI_le (a := 6) (by omega) (by omega))]
    exact ag69 h16 hk k 0 n M (by omega) f (by omega)
  | succ d ih =>
    intro i n M hi f hn
    obtain ⟨n, rfl⟩ : ∃ m, n = m + 1 := ⟨n - 1, by omega⟩
    rw [f_X1_addGreater_2, if_neg (show ¬ (6 : Int32) ≤ nI i from nI_ge (b := 6) (by omega) (by decide)), chk_t f.1.1]
    split
    · exact ag69 h16 hk k 0 n M (by omega) f (by omega)
    · exact ag18 h16 (by omega) (fun M f => ih (i + 1) n M (by omega) f (by omega)) (us6 N) 0 n M (by omega) f (by omega)
theorem F1.ag {M : Mem} (f : F1 M o q N) (h16 : N ≤ 16) {n : Nat} (hn : 1100 ≤ n) : ∃ M', f_X1_addGreater n o M = some M' ∧ FrLg M M' :=
  ag2 h16 6 0 n M rfl f (by omega)
theorem fl_l {q : Nat} (x : Int64) : ∀ (d i n : Nat) (M : Mem), i + d = 1024 → isO M 101 q → mLn M q = 1024 → d + 1 ≤ n → ∃ M', f_J7_fill_d0a16_6 n q x (nI i) (nI 1024) M = some M' ∧ FrLg M M' := by
  intro d
  induction d with
  | zero =>
    intro i n M hi a b hn
    obtain ⟨n, rfl⟩ : ∃ m, n = m + 1 := ⟨n - 1, by omega⟩
    exact ⟨M, by rw [f_J7_fill_d0a16_6, if_pos (nI_le (by omega) (by omega))], FrLg.rf M⟩
  | succ d ih =>
    intro i n M hi a b hn
    obtain ⟨n, rfl⟩ : ∃ m, n = m + 1 := ⟨n - 1, by omega⟩
    have fl := FrLg.s M q (nI i).toNatClampNeg x
    obtain ⟨M', e', f'⟩ := ih (i + 1) n (sL M q (nI i).toNatClampNeg x) (by omega) a b (by omega)
    exact ⟨M', by rw [f_J7_fill_d0a16_6, if_neg (nI_ge (by omega) (by decide)), chk_t a, b, chk_t (inB_n (by omega) (by decide)), bnd_e, bnd_e, nI_1]; exact e', fl.tr f'⟩
theorem us_N : ∀ N, N < 17 → ¬ N ≤ 6 → ((1 : Int32) <<< ((nI N - (6 : Int32)) &&& 31)) = nI (us6 N) := by decide +kernel
theorem bg_1 (h16 : N ≤ 16) {M : Mem} (s : isO M 1 o ∧ mR M o 0 = q ∧ isO M 101 q ∧ mLn M q = 1024) {n : Nat} (hn : 1100 ≤ n) : ∃ M', f_X1_begin n o (nI N) M = some M' ∧ F1 M' o q N ∧ M'.1 = M.1 ∧ ∀ a, a ≠ o → ∀ b, mI M' a b = mI M a b := by
  obtain ⟨s1, s2, s3, s4⟩ := s
  have b22 : ∃ M', f_X1_begin_22 n o (nI (us6 N)) o (sI M o 1 (nI N)) = some M' ∧ FrLg (sI (sI M o 1 (nI N)) o 2 (nI (us6 N))) M' := by
    obtain ⟨M', e', f'⟩ := fl_l (q := q) 0 1024 0 n (sI (sI M o 1 (nI N)) o 2 (nI (us6 N))) rfl s3 s4 (by omega)
    have l4 : mLn (sI (sI M o 1 (nI N)) o 2 (nI (us6 N))) q = 1024 := s4
    have r2 : mR (sI (sI M o 1 (nI N)) o 2 (nI (us6 N))) o 0 = q := s2
    refine ⟨M', ?_, f'⟩
    rw [f_X1_begin_22, chk_t (show isO (sI M o 1 (nI N)) 1 o from s1), bnd_e, chk_t (show isO (sI (sI M o 1 (nI N)) o 2 (nI (us6 N))) 1 o from s1), r2, bnd_e, chk_t (show isO (sI (sI M o 1 (nI N)) o 2 (nI (us6 N))) 101 q from s3), f_J7_fill_d0a16, chk_t (show isO (sI (sI M o 1 (nI N)) o 2 (nI (us6 N))) 101 q from s3), l4, bnd_e]
    rw [show f_J7_fill_d0a16_6 n q 0 0 (Int32.ofNat 1024) (sI (sI M o 1 (nI N)) o 2 (nI (us6 N))) = some M' from e', obd_s]
  obtain ⟨M', e', f'⟩ := b22
  have i1 : ∀ a, a ≠ o → ∀ b, mI M' a b = mI M a b := fun a n b => by rw [f'.2, mI_o _ _ _ _ _ n, mI_o _ _ _ _ _ n]
  refine ⟨M', ?_, ?_, f'.1, i1⟩
  · rw [f_X1_begin, chk_t s1, bnd_e]
    by_cases c : N ≤ 6
    · rw [if_pos (show nI N ≤ (6 : Int32) from nI_le (b := 6) c (by decide))]
      have : us6 N = 1 := by unfold us6; rw [if_neg (by omega)]
      rw [this] at e'
      exact e'
    · rw [if_neg (show ¬ nI N ≤ (6 : Int32) from nI_ge (a := 6) (by omega) (by omega)), us_N N (by omega) c]
      exact e'
  · have io : ∀ {c o}, isO M c o → isO M' c o := fun z => by unfold isO mN mC at *; rw [f'.1]; exact z
    exact ⟨⟨io s1, by rw [mR_e f'.1]; exact s2, io s3, by rw [mLn_e f'.1]; exact s4⟩, by rw [f'.2, mI_n _ _ _ _ (by decide), mI_s], by rw [f'.2, mI_s]⟩
end
/-! the tree's wholes -/
def TW (M : Mem) (c : Nat) : Prop := mI M 5 6 = nI c ∧ c ≤ 305 ∧ ∀ j, j < c → SO (mI M 11 j)
def Fw (M M' : Mem) : Prop := M'.1 = M.1 ∧ (∀ o, o ≠ 5 → o ≠ 11 → ∀ b, mI M' o b = mI M o b) ∧ ∀ b, b ≠ 6 → mI M' 5 b = mI M 5 b
theorem Fw.rf (M : Mem) : Fw M M := ⟨rfl, fun _ _ _ _ => rfl, fun _ _ => rfl⟩
theorem Fw.tr {M M' M'' : Mem} (h : Fw M M') (h' : Fw M' M'') : Fw M M'' := ⟨h'.1.trans h.1, fun o n n' b => (h'.2.1 o n n' b).trans (h.2.1 o n n' b), fun b n => (h'.2.2 b n).trans (h.2.2 b n)⟩
theorem lw1 {M : Mem} {c : Nat} {x : Int32} (w : W5 M) (h : TW M c) (hx : SO x) : ∃ M' c', f_X8_listWhole 5 x M = some M' ∧ TW M' c' ∧ c ≤ c' ∧ Fw M M' := by
  obtain ⟨⟨w1, w2, w3, w4, w5, w6, w7, w8, w9⟩, ⟨y1, y2, y3, y4, y5, y6, y7, y8⟩, ⟨z1, z2, z3, z4, z5, z6⟩⟩ := w
  obtain ⟨t1, t2, t3⟩ := h
  by_cases k : 305 ≤ c
  · exact ⟨M, c, by rw [f_X8_listWhole, chk_t w1, t1, if_pos (show (305 : Int32) ≤ nI c from nI_le (a := 305) k (by omega))], ⟨t1, t2, t3⟩, Nat.le_refl _, Fw.rf M⟩
  · have e5 : mI (sI M 11 c x) 5 6 = nI c := by rw [mI_o _ _ _ _ _ (by decide)]; exact t1
    refine ⟨sI (sI M 11 c x) 5 6 (nI (c + 1)), c + 1, ?_, ⟨mI_s _ _ _ _, by omega, fun j hj => ?_⟩, by omega, rfl, fun o n n' b => by rw [mI_o _ _ _ _ _ n, mI_o _ _ _ _ _ n'], fun b n => by rw [mI_n _ _ _ _ n, mI_o _ _ _ _ _ (by decide)]⟩
    · rw [f_X8_listWhole, chk_t w1, t1, if_neg (show ¬ (305 : Int32) ≤ nI c from nI_ge (b := 305) (by omega) (by decide)), y4, bnd_e, chk_t w7, z4, chk_t (inB_n (by omega) (by decide)), sI_c (by omega), bnd_e, e5, nI_1, bnd_e]
    · rw [mI_o _ _ _ _ _ (by decide)]
      by_cases e : j = c
      · rw [e, mI_s]; exact hx
      · rw [mI_n _ _ _ _ e]; exact t3 j (by omega)
theorem lw92 {v r b : Nat} (hv : v < 16) (hr : r < 16) : ∀ (d j n : Nat) (M : Mem) (c : Nat), j + d = b → W5 M → TW M c → mI M 13 r = nI b → b ≤ c → d + 1 ≤ n → ∃ M' c', f_X8_listWholes_92 n 5 (nI v) (nI r) (nI j) M = some M' ∧ TW M' c' ∧ c ≤ c' ∧ Fw M M' := by
  intro d
  induction d with
  | zero =>
    intro j n M c hj w h hb hc hn
    obtain ⟨n, rfl⟩ : ∃ m, n = m + 1 := ⟨n - 1, by omega⟩
    have h305 := h.2.1
    obtain ⟨⟨w1, w2, w3, w4, w5, w6, w7, w8, w9⟩, ⟨y1, y2, y3, y4, y5, y6, y7, y8⟩, ⟨z1, z2, z3, z4, z5, z6⟩⟩ := w
    exact ⟨M, c, by rw [f_X8_listWholes_92, chk_t w1, y6, bnd_e, chk_t w9, z6, chk_t (inB_n hr (by decide)), mI_c (by omega), hb, if_pos (nI_le (by omega) (by omega))], h, Nat.le_refl _, Fw.rf M⟩
  | succ d ih =>
    intro j n M c hj w h hb hc hn
    obtain ⟨n, rfl⟩ : ∃ m, n = m + 1 := ⟨n - 1, by omega⟩
    have h305 := h.2.1
    obtain ⟨⟨w1, w2, w3, w4, w5, w6, w7, w8, w9⟩, ⟨y1, y2, y3, y4, y5, y6, y7, y8⟩, ⟨z1, z2, z3, z4, z5, z6⟩⟩ := id w
    obtain ⟨M1, c1, e1, t1, k1, f1⟩ := lw1 w h ((SO.one hv).or (h.2.2 j (by omega)))
    obtain ⟨M', c', e', t', k', f'⟩ := ih (j + 1) n M1 c1 (by omega) (w.e f1.1) t1 (by rw [f1.2.1 13 (by decide) (by decide)]; exact hb) (by omega) (by omega)
    exact ⟨M', c', by rw [f_X8_listWholes_92, chk_t w1, y6, bnd_e, chk_t w9, z6, chk_t (inB_n hr (by decide)), mI_c (by omega), hb, if_neg (nI_ge (by omega) (by omega)), y4, bnd_e, chk_t w7, z4, chk_t (inB_n (by omega) (by decide)), mI_c (by omega), e1, obd_s, bnd_e, nI_1]; exact e', t', by omega, f1.tr f'⟩
theorem lw42 {v l r i ar br bl c0 : Nat} (hl : l < 16) (hr : r < 16) (hi : i < bl) (hbl : bl ≤ c0) (hbr : br ≤ c0) {K : Nat → Int32 → Int32 → Int32 → Int32 → Mem → Option Mem} (hK : ∀ (M : Mem) (c : Nat), W5 M → TW M c → c0 ≤ c → mI M 12 r = nI ar → mI M 13 r = nI br → mI M 13 l = nI bl → ∃ M' c', K 5 (nI v) (nI l) (nI r) (nI (i + 1)) M = some M' ∧ TW M' c' ∧ c ≤ c' ∧ Fw M M') : ∀ (d j n : Nat) (M : Mem) (c : Nat), j + d = br → W5 M → TW M c → c0 ≤ c → mI M 12 r = nI ar → mI M 13 r = nI br → mI M 13 l = nI bl → d + 1 ≤ n → ∃ M' c', f_X8_listWholes_42 K n 5 (nI v) (nI l) (nI r) (nI i) (nI j) M = some M' ∧ TW M' c' ∧ c ≤ c' ∧ Fw M M' := by
  intro d
  induction d with
  | zero =>
    intro j n M c hj w h hc ra rb lb hn
    obtain ⟨n, rfl⟩ : ∃ m, n = m + 1 := ⟨n - 1, by omega⟩
    have h305 := h.2.1
    obtain ⟨⟨w1, w2, w3, w4, w5, w6, w7, w8, w9⟩, ⟨y1, y2, y3, y4, y5, y6, y7, y8⟩, ⟨z1, z2, z3, z4, z5, z6⟩⟩ := id w
    rw [f_X8_listWholes_42, chk_t w1, y6, bnd_e, chk_t w9, z6, chk_t (inB_n hr (by decide)), mI_c (by omega), rb, if_pos (nI_le (by omega) (by omega)), bnd_e, nI_1]
    exact hK M c w h hc ra rb lb
  | succ d ih =>
    intro j n M c hj w h hc ra rb lb hn
    obtain ⟨n, rfl⟩ : ∃ m, n = m + 1 := ⟨n - 1, by omega⟩
    have h305 := h.2.1
    obtain ⟨⟨w1, w2, w3, w4, w5, w6, w7, w8, w9⟩, ⟨y1, y2, y3, y4, y5, y6, y7, y8⟩, ⟨z1, z2, z3, z4, z5, z6⟩⟩ := id w
    obtain ⟨M1, c1, e1, t1, k1, f1⟩ := lw1 w h ((h.2.2 i (by omega)).or (h.2.2 j (by omega)))
    have g : ∀ o, o = 12 ∨ o = 13 → ∀ b, mI M1 o b = mI M o b := fun o ho b => f1.2.1 o (by omega) (by omega) b
    obtain ⟨M', c', e', t', k', f'⟩ := ih (j + 1) n M1 c1 (by omega) (w.e f1.1) t1 (by omega) (by rw [g 12 (by omega)]; exact ra) (by rw [g 13 (by omega)]; exact rb) (by rw [g 13 (by omega)]; exact lb) (by omega)
    exact ⟨M', c', by rw [f_X8_listWholes_42, chk_t w1, y6, bnd_e, chk_t w9, z6, chk_t (inB_n hr (by decide)), mI_c (by omega), rb, if_neg (nI_ge (by omega) (by omega)), y4, bnd_e, chk_t w7, z4, chk_t (inB_n (by omega) (by decide)), bnd_e, chk_t w7, z4, chk_t (inB_n (by omega) (by decide)), mI_c (by omega), mI_c (by omega), e1, obd_s, bnd_e, nI_1]; exact e', t', by omega, f1.tr f'⟩
theorem lw8 {v l r ar br bl c0 : Nat} (hv : v < 16) (hl : l < 16) (hr : r < 16) (hab : ar ≤ br) (hbl : bl ≤ c0) (hbr : br ≤ c0) : ∀ (d i n : Nat) (M : Mem) (c : Nat), i + d = bl → W5 M → TW M c → c0 ≤ c → mI M 12 r = nI ar → mI M 13 r = nI br → mI M 13 l = nI bl → d + 400 ≤ n → ∃ M' c', f_X8_listWholes_8 n 5 (nI v) (nI l) (nI r) (nI i) M = some M' ∧ TW M' c' ∧ c ≤ c' ∧ Fw M M' := by
  intro d
  induction d with
  | zero =>
    intro i n M c hi w h hc ra rb lb hn
    obtain ⟨n, rfl⟩ : ∃ m, n = m + 1 := ⟨n - 1, by omega⟩
    have h305 := h.2.1
    obtain ⟨⟨w1, w2, w3, w4, w5, w6, w7, w8, w9⟩, ⟨y1, y2, y3, y4, y5, y6, y7, y8⟩, ⟨z1, z2, z3, z4, z5, z6⟩⟩ := id w
    rw [f_X8_listWholes_8, chk_t w1, y6, bnd_e, chk_t w9, z6, chk_t (inB_n hl (by decide)), mI_c (by omega), lb, if_pos (nI_le (by omega) (by omega)), y5, bnd_e, chk_t w8, z5, chk_t (inB_n hr (by decide)), mI_c (by omega), ra, bnd_e]
    exact lw92 hv hr (br - ar) ar n M c (by omega) w h rb (by omega) (by omega)
  | succ d ih =>
    intro i n M c hi w h hc ra rb lb hn
    obtain ⟨n, rfl⟩ : ∃ m, n = m + 1 := ⟨n - 1, by omega⟩
    have h305 := h.2.1
    obtain ⟨⟨w1, w2, w3, w4, w5, w6, w7, w8, w9⟩, ⟨y1, y2, y3, y4, y5, y6, y7, y8⟩, ⟨z1, z2, z3, z4, z5, z6⟩⟩ := id w
    obtain ⟨M1, c1, e1, t1, k1, f1⟩ := lw1 w h ((SO.one hv).or (h.2.2 i (by omega)))
    have g : ∀ o, o = 12 ∨ o = 13 → ∀ b, mI M1 o b = mI M o b := fun o ho b => f1.2.1 o (by omega) (by omega) b
    have ra1 : mI M1 12 r = nI ar := by rw [g 12 (by omega)]; exact ra
    have W1 := w.e f1.1
    obtain ⟨M', c', e', t', k', f'⟩ := lw42 hl hr (by omega) hbl hbr (K := f_X8_listWholes_8 n) (i := i) (v := v) (fun M c w h hc ra rb lb => ih (i + 1) n M c (by omega) w h hc ra rb lb (by omega)) (br - ar) ar n M1 c1 (by omega) W1 t1 (by omega) ra1 (by rw [g 13 (by omega)]; exact rb) (by rw [g 13 (by omega)]; exact lb) (by omega)
    exact ⟨M', c', by rw [f_X8_listWholes_8, chk_t w1, y6, bnd_e, chk_t w9, z6, chk_t (inB_n hl (by decide)), mI_c (by omega), lb, if_neg (nI_ge (by omega) (by omega)), y4, bnd_e, chk_t w7, z4, chk_t (inB_n (by omega) (by decide)), mI_c (by omega), e1, obd_s, chk_t W1.1.1, W1.2.1.2.2.2.2.1, bnd_e, chk_t W1.1.2.2.2.2.2.2.2.1, W1.2.2.2.2.2.2.1, chk_t (inB_n hr (by decide)), mI_c (by omega), ra1, bnd_e]; exact e', t', by omega, f1.tr f'⟩
