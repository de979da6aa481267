/-! ===== the survey, the class: what is greater, and the tree's wholes ===== -/
theorem nx_xor (a b : Nat) : nI a ^^^ nI b = nI (a ^^^ b) := by
  refine b_ext fun i hi => ?_
  rw [b_xor, bt_nI _ hi, bt_nI _ hi, bt_nI _ hi, Nat.testBit_xor]
section
variable {o q N : Nat}
theorem ag18 (h16 : N ≤ 16) {K : Nat → Int32 → Mem → Option Mem} {i : Nat} (hi : i < 6) (hK : ∀ M, F1 M o q N → ∃ M', K o (nI (i + 1)) M = some M' ∧ FrLg M M') : ∀ (d j n : Nat) (M : Mem), j + d = us6 N → F1 M o q N → d + 1 ≤ n → ∃ M', f_X1_addGreater_18 K n o (nI i) (nI j) M = some M' ∧ FrLg M M' := by
  have u := us_b h16
  intro d
  induction d with
  | zero =>
    intro j n M hj f hn
    obtain ⟨n, rfl⟩ : ∃ m, n = m + 1 := ⟨n - 1, by omega⟩
    obtain ⟨M', e', f'⟩ := hK M f
    exact ⟨M', by rw [f_X1_addGreater_18, chk_t f.1.1, f.2.2, if_pos (nI_le (by omega) (by omega)), bnd_e, nI_1]; exact e', f'⟩
  | succ d ih =>
    intro j n M hj f hn
    obtain ⟨n, rfl⟩ : ∃ m, n = m + 1 := ⟨n - 1, by omega⟩
    have ib : inB (nI j) (mLn M q) := by rw [f.1.2.2.2]; exact inB_n (by omega) (by decide)
    rw [f_X1_addGreater_18, chk_t f.1.1, f.2.2, if_neg (nI_ge (by omega) (by omega)), f.1.2.1, bnd_e, chk_t f.1.2.2.1, chk_t ib, bnd_e, chk_t f.1.2.2.1, chk_t ib, chk_t (inB_n (show i < 6 from hi) (by decide)), chk_t ib, bnd_e, bnd_e, nI_1]
    generalize ((mL M q (nI j).toNatClampNeg) ||| (((mL M q (nI j).toNatClampNeg) &&& ((l_HV (nI i).toNatClampNeg) ^^^ (-1 : Int64))) <<< ((((1 : Int32) <<< (nI i &&& 31))).toInt64 &&& 63))) = y
    have fl := FrLg.s M q (nI j).toNatClampNeg y
    obtain ⟨M', e', f'⟩ := ih (j + 1) n _ (by omega) (f.l fl) (by omega)
    exact ⟨M', e', fl.tr f'⟩
theorem ag79 (h16 : N ≤ 16) {K : Nat → Int32 → Mem → Option Mem} {p k : Nat} (hk : us6 N = 2 ^ k) (hp : p < us6 N) (hK : ∀ M, F1 M o q N → ∃ M', K o (nI (p * 2)) M = some M' ∧ FrLg M M') : ∀ (d j n : Nat) (M : Mem), j + d = us6 N → F1 M o q N → d + 1 ≤ n → ∃ M', f_X1_addGreater_79 K n o (nI p) (nI j) M = some M' ∧ FrLg M M' := by
  have u := us_b h16
  intro d
  induction d with
  | zero =>
    intro j n M hj f hn
    obtain ⟨n, rfl⟩ : ∃ m, n = m + 1 := ⟨n - 1, by omega⟩
    obtain ⟨M', e', f'⟩ := hK M f
    exact ⟨M', by rw [f_X1_addGreater_79, chk_t f.1.1, f.2.2, if_pos (nI_le (by omega) (by omega)), bnd_e, show (2 : Int32) = nI 2 from rfl, pk_mul]; exact e', f'⟩
  | succ d ih =>
    intro j n M hj f hn
    obtain ⟨n, rfl⟩ : ∃ m, n = m + 1 := ⟨n - 1, by omega⟩
    rw [f_X1_addGreater_79, chk_t f.1.1, f.2.2, if_neg (nI_ge (by omega) (by omega))]
    by_cases c : nI j &&& nI p = 0
    · rw [if_pos c, bnd_e, nI_1]
      exact ih (j + 1) n M (by omega) f (by omega)
    · have ib : inB (nI j) (mLn M q) := by rw [f.1.2.2.2]; exact inB_n (by omega) (by decide)
      have hx : j ^^^ p < 2 ^ k := Nat.xor_lt_two_pow (by omega) (by omega)
      have ix : inB (nI (j ^^^ p)) (mLn M q) := by rw [f.1.2.2.2]; exact inB_n (by omega) (by decide)
      rw [if_neg c, f.1.2.1, bnd_e, chk_t f.1.2.2.1, chk_t ib, bnd_e, chk_t f.1.2.2.1, nx_xor, chk_t ix, chk_t ib, bnd_e, bnd_e, nI_1]
      generalize ((mL M q (nI j).toNatClampNeg) ||| (mL M q (nI (j ^^^ p)).toNatClampNeg)) = y
      have fl := FrLg.s M q (nI j).toNatClampNeg y
      obtain ⟨M', e', f'⟩ := ih (j + 1) n _ (by omega) (f.l fl) (by omega)
      exact ⟨M', e', fl.tr f'⟩
theorem ag69 (h16 : N ≤ 16) {k : Nat} (hk : us6 N = 2 ^ k) : ∀ (d e n : Nat) (M : Mem), e + d = k → F1 M o q N → d + 1030 ≤ n → ∃ M', f_X1_addGreater_69 n o (nI (2 ^ e)) M = some M' ∧ FrLg M M' := by
  have u := us_b h16
  intro d
  induction d with
  | zero =>
    intro e n M he f hn
    obtain ⟨n, rfl⟩ : ∃ m, n = m + 1 := ⟨n - 1, by omega⟩
    exact ⟨M, by rw [f_X1_addGreater_69, chk_t f.1.1, f.2.2, hk, show e = k by omega, if_pos (Int32.le_refl _)], FrLg.rf M⟩
  | succ d ih =>
    intro e n M he f hn
    obtain ⟨n, rfl⟩ : ∃ m, n = m + 1 := ⟨n - 1, by omega⟩
    have hp : 2 ^ e < us6 N := by rw [hk]; exact Nat.pow_lt_pow_right (by decide) (by omega)
    rw [f_X1_addGreater_69, chk_t f.1.1, f.2.2, if_neg (nI_ge hp (by omega))]
    exact ag79 h16 hk hp (fun M f => by rw [← Nat.pow_succ]; exact ih (e + 1) n M (by omega) f (by omega)) (us6 N) 0 n M (by omega) f (by omega)
theorem ag2 (h16 : N ≤ 16) : ∀ (d i n : Nat) (M : Mem), i + d = 6 → F1 M o q N → d + 1050 ≤ n → ∃ M', f_X1_addGreater_2 n o (nI i) M = some M' ∧ FrLg M M' := by
  have u := us_b h16
  obtain ⟨k, k10, hk⟩ := us_p h16
  intro d
  induction d with
  | zero =>
    intro i n M hi f hn
    obtain ⟨n, rfl⟩ : ∃ m, n = m + 1 := ⟨n - 1, by omega⟩
    rw [f_X1_addGreater_2, if_pos (show (6 : Int32) ≤ nI i from nI_le (a := 6) (by omega) (by omega))]
    exact ag69 h16 hk k 0 n M (by omega) f (by omega)
  | succ d ih =>
    intro i n M hi f hn
    obtain ⟨n, rfl⟩ : ∃ m, n = m + 1 := ⟨n - 1, by omega⟩
    rw [f_X1_addGreater_2, if_neg (show ¬ (6 : Int32) ≤ nI i from nI_ge (b := 6) (by omega) (by decide)), chk_t f.1.1]
    split
    · exact ag69 h16 hk k 0 n M (by omega) f (by omega)
    · exact ag18 h16 (by omega) (fun M f => ih (i + 1) n M (by omega) f (by omega)) (us6 N) 0 n M (by omega) f (by omega)
theorem F1.ag {M : Mem} (f : F1 M o q N) (h16 : N ≤ 16) {n : Nat} (hn : 1100 ≤ n) : ∃ M', f_X1_addGreater n o M = some M' ∧ FrLg M M' :=
  ag2 h16 6 0 n M rfl f (by omega)
theorem fl_l {q : Nat} (x : Int64) : ∀ (d i n : Nat) (M : Mem), i + d = 1024 → isO M 101 q → mLn M q = 1024 → d + 1 ≤ n → ∃ M', f_J7_fill_d0a16_6 n q x (nI i) (nI 1024) M = some M' ∧ FrLg M M' := by
  intro d
  induction d with
  | zero =>
    intro i n M hi a b hn
    obtain ⟨n, rfl⟩ : ∃ m, n = m + 1 := ⟨n - 1, by omega⟩
    exact ⟨M, by rw [f_J7_fill_d0a16_6, if_pos (nI_le (by omega) (by omega))], FrLg.rf M⟩
  | succ d ih =>
    intro i n M hi a b hn
    obtain ⟨n, rfl⟩ : ∃ m, n = m + 1 := ⟨n - 1, by omega⟩
    have fl := FrLg.s M q (nI i).toNatClampNeg x
    obtain ⟨M', e', f'⟩ := ih (i + 1) n (sL M q (nI i).toNatClampNeg x) (by omega) a b (by omega)
    exact ⟨M', by rw [f_J7_fill_d0a16_6, if_neg (nI_ge (by omega) (by decide)), chk_t a, b, chk_t (inB_n (by omega) (by decide)), bnd_e, bnd_e, nI_1]; exact e', fl.tr f'⟩
theorem us_N : ∀ N, N < 17 → ¬ N ≤ 6 → ((1 : Int32) <<< ((nI N - (6 : Int32)) &&& 31)) = nI (us6 N) := by decide +kernel
theorem bg_1 (h16 : N ≤ 16) {M : Mem} (s : isO M 1 o ∧ mR M o 0 = q ∧ isO M 101 q ∧ mLn M q = 1024) {n : Nat} (hn : 1100 ≤ n) : ∃ M', f_X1_begin n o (nI N) M = some M' ∧ F1 M' o q N ∧ M'.1 = M.1 ∧ ∀ a, a ≠ o → ∀ b, mI M' a b = mI M a b := by
  obtain ⟨s1, s2, s3, s4⟩ := s
  have b22 : ∃ M', f_X1_begin_22 n o (nI (us6 N)) o (sI M o 1 (nI N)) = some M' ∧ FrLg (sI (sI M o 1 (nI N)) o 2 (nI (us6 N))) M' := by
    obtain ⟨M', e', f'⟩ := fl_l (q := q) 0 1024 0 n (sI (sI M o 1 (nI N)) o 2 (nI (us6 N))) rfl s3 s4 (by omega)
    have l4 : mLn (sI (sI M o 1 (nI N)) o 2 (nI (us6 N))) q = 1024 := s4
    have r2 : mR (sI (sI M o 1 (nI N)) o 2 (nI (us6 N))) o 0 = q := s2
    refine ⟨M', ?_, f'⟩
    rw [f_X1_begin_22, chk_t (show isO (sI M o 1 (nI N)) 1 o from s1), bnd_e, chk_t (show isO (sI (sI M o 1 (nI N)) o 2 (nI (us6 N))) 1 o from s1), r2, bnd_e, chk_t (show isO (sI (sI M o 1 (nI N)) o 2 (nI (us6 N))) 101 q from s3), f_J7_fill_d0a16, chk_t (show isO (sI (sI M o 1 (nI N)) o 2 (nI (us6 N))) 101 q from s3), l4, bnd_e]
    rw [show f_J7_fill_d0a16_6 n q 0 0 (Int32.ofNat 1024) (sI (sI M o 1 (nI N)) o 2 (nI (us6 N))) = some M' from e', obd_s]
  obtain ⟨M', e', f'⟩ := b22
  have i1 : ∀ a, a ≠ o → ∀ b, mI M' a b = mI M a b := fun a n b => by rw [f'.2, mI_o _ _ _ _ _ n, mI_o _ _ _ _ _ n]
  refine ⟨M', ?_, ?_, f'.1, i1⟩
  · rw [f_X1_begin, chk_t s1, bnd_e]
    by_cases c : N ≤ 6
    · rw [if_pos (show nI N ≤ (6 : Int32) from nI_le (b := 6) c (by decide))]
      have : us6 N = 1 := by unfold us6; rw [if_neg (by omega)]
      rw [this] at e'
      exact e'
    · rw [if_neg (show ¬ nI N ≤ (6 : Int32) from nI_ge (a := 6) (by omega) (by omega)), us_N N (by omega) c]
      exact e'
  · have io : ∀ {c o}, isO M c o → isO M' c o := fun z => by unfold isO mN mC at *; rw [f'.1]; exact z
    exact ⟨⟨io s1, by rw [mR_e f'.1]; exact s2, io s3, by rw [mLn_e f'.1]; exact s4⟩, by rw [f'.2, mI_n _ _ _ _ (by decide), mI_s], by rw [f'.2, mI_s]⟩
end
/-! the tree's wholes -/
def TW (M : Mem) (c : Nat) : Prop := mI M 5 6 = nI c ∧ c ≤ 305 ∧ ∀ j, j < c → SO (mI M 11 j)
def Fw (M M' : Mem) : Prop := M'.1 = M.1 ∧ (∀ o, o ≠ 5 → o ≠ 11 → ∀ b, mI M' o b = mI M o b) ∧ ∀ b, b ≠ 6 → mI M' 5 b = mI M 5 b
theorem Fw.rf (M : Mem) : Fw M M := ⟨rfl, fun _ _ _ _ => rfl, fun _ _ => rfl⟩
theorem Fw.tr {M M' M'' : Mem} (h : Fw M M') (h' : Fw M' M'') : Fw M M'' := ⟨h'.1.trans h.1, fun o n n' b => (h'.2.1 o n n' b).trans (h.2.1 o n n' b), fun b n => (h'.2.2 b n).trans (h.2.2 b n)⟩
theorem lw1 {M : Mem} {c : Nat} {x : Int32} (w : W5 M) (h : TW M c) (hx : SO x) : ∃ M' c', f_X8_listWhole 5 x M = some M' ∧ TW M' c' ∧ c ≤ c' ∧ Fw M M' := by
  obtain ⟨⟨w1, w2, w3, w4, w5, w6, w7, w8, w9⟩, ⟨y1, y2, y3, y4, y5, y6, y7, y8⟩, ⟨z1, z2, z3, z4, z5, z6⟩⟩ := w
  obtain ⟨t1, t2, t3⟩ := h
  by_cases k : 305 ≤ c
  · exact ⟨M, c, by rw [f_X8_listWhole, chk_t w1, t1, if_pos (show (305 : Int32) ≤ nI c from nI_le (a := 305) k (by omega))], ⟨t1, t2, t3⟩, Nat.le_refl _, Fw.rf M⟩
  · have e5 : mI (sI M 11 c x) 5 6 = nI c := by rw [mI_o _ _ _ _ _ (by decide)]; exact t1
    refine ⟨sI (sI M 11 c x) 5 6 (nI (c + 1)), c + 1, ?_, ⟨mI_s _ _ _ _, by omega, fun j hj => ?_⟩, by omega, rfl, fun o n n' b => by rw [mI_o _ _ _ _ _ n, mI_o _ _ _ _ _ n'], fun b n => by rw [mI_n _ _ _ _ n, mI_o _ _ _ _ _ (by decide)]⟩
    · rw [f_X8_listWhole, chk_t w1, t1, if_neg (show ¬ (305 : Int32) ≤ nI c from nI_ge (b := 305) (by omega) (by decide)), y4, bnd_e, chk_t w7, z4, chk_t (inB_n (by omega) (by decide)), sI_c (by omega), bnd_e, e5, nI_1, bnd_e]
    · rw [mI_o _ _ _ _ _ (by decide)]
      by_cases e : j = c
      · rw [e, mI_s]; exact hx
      · rw [mI_n _ _ _ _ e]; exact t3 j (by omega)
theorem lw92 {v r b : Nat} (hv : v < 16) (hr : r < 16) : ∀ (d j n : Nat) (M : Mem) (c : Nat), j + d = b → W5 M → TW M c → mI M 13 r = nI b → b ≤ c → d + 1 ≤ n → ∃ M' c', f_X8_listWholes_92 n 5 (nI v) (nI r) (nI j) M = some M' ∧ TW M' c' ∧ c ≤ c' ∧ Fw M M' := by
  intro d
  induction d with
  | zero =>
    intro j n M c hj w h hb hc hn
    obtain ⟨n, rfl⟩ : ∃ m, n = m + 1 := ⟨n - 1, by omega⟩
    have h305 := h.2.1
    obtain ⟨⟨w1, w2, w3, w4, w5, w6, w7, w8, w9⟩, ⟨y1, y2, y3, y4, y5, y6, y7, y8⟩, ⟨z1, z2, z3, z4, z5, z6⟩⟩ := w
    exact ⟨M, c, by rw [f_X8_listWholes_92, chk_t w1, y6, bnd_e, chk_t w9, z6, chk_t (inB_n hr (by decide)), mI_c (by omega), hb, if_pos (nI_le (by omega) (by omega))], h, Nat.le_refl _, Fw.rf M⟩
  | succ d ih =>
    intro j n M c hj w h hb hc hn
    obtain ⟨n, rfl⟩ : ∃ m, n = m + 1 := ⟨n - 1, by omega⟩
    have h305 := h.2.1
    obtain ⟨⟨w1, w2, w3, w4, w5, w6, w7, w8, w9⟩, ⟨y1, y2, y3, y4, y5, y6, y7, y8⟩, ⟨z1, z2, z3, z4, z5, z6⟩⟩ := id w
    obtain ⟨M1, c1, e1, t1, k1, f1⟩ := lw1 w h ((SO.one hv).or (h.2.2 j (by omega)))
    obtain ⟨M', c', e', t', k', f'⟩ := ih (j + 1) n M1 c1 (by omega) (w.e f1.1) t1 (by rw [f1.2.1 13 (by decide) (by decide)]; exact hb) (by omega) (by omega)
    exact ⟨M', c', by rw [f_X8_listWholes_92, chk_t w1, y6, bnd_e, chk_t w9, z6, chk_t (inB_n hr (by decide)), mI_c (by omega), hb, if_neg (nI_ge (by omega) (by omega)), y4, bnd_e, chk_t w7, z4, chk_t (inB_n (by omega) (by decide)), mI_c (by omega), e1, obd_s, bnd_e, nI_1]; exact e', t', by omega, f1.tr f'⟩
theorem lw42 {v l r i ar br bl c0 : Nat} (hl : l < 16) (hr : r < 16) (hi : i < bl) (hbl : bl ≤ c0) (hbr : br ≤ c0) {K : Nat → Int32 → Int32 → Int32 → Int32 → Mem → Option Mem} (hK : ∀ (M : Mem) (c : Nat), W5 M → TW M c → c0 ≤ c → mI M 12 r = nI ar → mI M 13 r = nI br → mI M 13 l = nI bl → ∃ M' c', K 5 (nI v) (nI l) (nI r) (nI (i + 1)) M = some M' ∧ TW M' c' ∧ c ≤ c' ∧ Fw M M') : ∀ (d j n : Nat) (M : Mem) (c : Nat), j + d = br → W5 M → TW M c → c0 ≤ c → mI M 12 r = nI ar → mI M 13 r = nI br → mI M 13 l = nI bl → d + 1 ≤ n → ∃ M' c', f_X8_listWholes_42 K n 5 (nI v) (nI l) (nI r) (nI i) (nI j) M = some M' ∧ TW M' c' ∧ c ≤ c' ∧ Fw M M' := by
  intro d
  induction d with
  | zero =>
    intro j n M c hj w h hc ra rb lb hn
    obtain ⟨n, rfl⟩ : ∃ m, n = m + 1 := ⟨n - 1, by omega⟩
    have h305 := h.2.1
    obtain ⟨⟨w1, w2, w3, w4, w5, w6, w7, w8, w9⟩, ⟨y1, y2, y3, y4, y5, y6, y7, y8⟩, ⟨z1, z2, z3, z4, z5, z6⟩⟩ := id w
    rw [f_X8_listWholes_42, chk_t w1, y6, bnd_e, chk_t w9, z6, chk_t (inB_n hr (by decide)), mI_c (by omega), rb, if_pos (nI_le (by omega) (by omega)), bnd_e, nI_1]
    exact hK M c w h hc ra rb lb
  | succ d ih =>
    intro j n M c hj w h hc ra rb lb hn
    obtain ⟨n, rfl⟩ : ∃ m, n = m + 1 := ⟨n - 1, by omega⟩
    have h305 := h.2.1
    obtain ⟨⟨w1, w2, w3, w4, w5, w6, w7, w8, w9⟩, ⟨y1, y2, y3, y4, y5, y6, y7, y8⟩, ⟨z1, z2, z3, z4, z5, z6⟩⟩ := id w
    obtain ⟨M1, c1, e1, t1, k1, f1⟩ := lw1 w h ((h.2.2 i (by omega)).or (h.2.2 j (by omega)))
    have g : ∀ o, o = 12 ∨ o = 13 → ∀ b, mI M1 o b = mI M o b := fun o ho b => f1.2.1 o (by omega) (by omega) b
    obtain ⟨M', c', e', t', k', f'⟩ := ih (j + 1) n M1 c1 (by omega) (w.e f1.1) t1 (by omega) (by rw [g 12 (by omega)]; exact ra) (by rw [g 13 (by omega)]; exact rb) (by rw [g 13 (by omega)]; exact lb) (by omega)
    exact ⟨M', c', by rw [f_X8_listWholes_42, chk_t w1, y6, bnd_e, chk_t w9, z6, chk_t (inB_n hr (by decide)), mI_c (by omega), rb, if_neg (nI_ge (by omega) (by omega)), y4, bnd_e, chk_t w7, z4, chk_t (inB_n (by omega) (by decide)), bnd_e, chk_t w7, z4, chk_t (inB_n (by omega) (by decide)), mI_c (by omega), mI_c (by omega), e1, obd_s, bnd_e, nI_1]; exact e', t', by omega, f1.tr f'⟩
theorem lw8 {v l r ar br bl c0 : Nat} (hv : v < 16) (hl : l < 16) (hr : r < 16) (hab : ar ≤ br) (hbl : bl ≤ c0) (hbr : br ≤ c0) : ∀ (d i n : Nat) (M : Mem) (c : Nat), i + d = bl → W5 M → TW M c → c0 ≤ c → mI M 12 r = nI ar → mI M 13 r = nI br → mI M 13 l = nI bl → d + 400 ≤ n → ∃ M' c', f_X8_listWholes_8 n 5 (nI v) (nI l) (nI r) (nI i) M = some M' ∧ TW M' c' ∧ c ≤ c' ∧ Fw M M' := by
  intro d
  induction d with
  | zero =>
    intro i n M c hi w h hc ra rb lb hn
    obtain ⟨n, rfl⟩ : ∃ m, n = m + 1 := ⟨n - 1, by omega⟩
    have h305 := h.2.1
    obtain ⟨⟨w1, w2, w3, w4, w5, w6, w7, w8, w9⟩, ⟨y1, y2, y3, y4, y5, y6, y7, y8⟩, ⟨z1, z2, z3, z4, z5, z6⟩⟩ := id w
    rw [f_X8_listWholes_8, chk_t w1, y6, bnd_e, chk_t w9, z6, chk_t (inB_n hl (by decide)), mI_c (by omega), lb, if_pos (nI_le (by omega) (by omega)), y5, bnd_e, chk_t w8, z5, chk_t (inB_n hr (by decide)), mI_c (by omega), ra, bnd_e]
    exact lw92 hv hr (br - ar) ar n M c (by omega) w h rb (by omega) (by omega)
  | succ d ih =>
    intro i n M c hi w h hc ra rb lb hn
    obtain ⟨n, rfl⟩ : ∃ m, n = m + 1 := ⟨n - 1, by omega⟩
    have h305 := h.2.1
    obtain ⟨⟨w1, w2, w3, w4, w5, w6, w7, w8, w9⟩, ⟨y1, y2, y3, y4, y5, y6, y7, y8⟩, ⟨z1, z2, z3, z4, z5, z6⟩⟩ := id w
    obtain ⟨M1, c1, e1, t1, k1, f1⟩ := lw1 w h ((SO.one hv).or (h.2.2 i (by omega)))
    have g : ∀ o, o = 12 ∨ o = 13 → ∀ b, mI M1 o b = mI M o b := fun o ho b => f1.2.1 o (by omega) (by omega) b
    have ra1 : mI M1 12 r = nI ar := by rw [g 12 (by omega)]; exact ra
    have W1 := w.e f1.1
    obtain ⟨M', c', e', t', k', f'⟩ := lw42 hl hr (by omega) hbl hbr (K := f_X8_listWholes_8 n) (i := i) (v := v) (fun M c w h hc ra rb lb => ih (i + 1) n M c (by omega) w h hc ra rb lb (by omega)) (br - ar) ar n M1 c1 (by omega) W1 t1 (by omega) ra1 (by rw [g 13 (by omega)]; exact rb) (by rw [g 13 (by omega)]; exact lb) (by omega)
    exact ⟨M', c', by rw [f_X8_listWholes_8, chk_t w1, y6, bnd_e, chk_t w9, z6, chk_t (inB_n hl (by decide)), mI_c (by omega), lb, if_neg (nI_ge (by omega) (by omega)), y4, bnd_e, chk_t w7, z4, chk_t (inB_n (by omega) (by decide)), mI_c (by omega), e1, obd_s, chk_t W1.1.1, W1.2.1.2.2.2.2.1, bnd_e, chk_t W1.1.2.2.2.2.2.2.2.1, W1.2.2.2.2.2.2.1, chk_t (inB_n hr (by decide)), mI_c (by omega), ra1, bnd_e]; exact e', t', by omega, f1.tr f'⟩
/-! ===== equal answers: meeting ===== -/
theorem low_dec : ∀ m : Nat, m ≠ 0 → ∃ k q, m = 2 ^ k * (2 * q + 1) := by
  intro m
  induction m using Nat.strongRecOn with
  | ind m ih =>
    intro h
    by_cases c : m % 2 = 1
    · exact ⟨0, m / 2, by rw [Nat.pow_zero, Nat.one_mul]; omega⟩
    · obtain ⟨k, q, e⟩ := ih (m / 2) (by omega) (by omega)
      refine ⟨k + 1, q, ?_⟩
      have e2 : m = 2 * (m / 2) := by omega
      have e3 : 2 * (2 ^ k * (2 * q + 1)) = 2 ^ (k + 1) * (2 * q + 1) := by rw [Nat.pow_succ, Nat.mul_comm (2 ^ k) 2, Nat.mul_assoc]
      rw [← e3, ← e]
      exact e2
theorem low_and {k q : Nat} (hm : 2 ^ k * (2 * q + 1) < 2 ^ 64) : (2 ^ k * (2 * q + 1)) &&& (2 ^ 64 - 2 ^ k * (2 * q + 1)) = 2 ^ k := by
  have hp : 0 < 2 ^ k := Nat.two_pow_pos k
  have hl : 2 ^ k - 1 < 2 ^ k := by omega
  have e : 2 ^ k * (2 * q + 1) = (2 ^ k * (2 * q) + (2 ^ k - 1)) + 1 := by
    rw [Nat.mul_add, Nat.mul_one, Nat.add_assoc]
    congr 1
    omega
  have hk : k < 64 := by
    apply Decidable.byContradiction
    intro c
    have h1 : 2 ^ 64 ≤ 2 ^ k := Nat.pow_le_pow_right (by decide) (by omega)
    have h2 : 2 ^ k ≤ 2 ^ k * (2 * q + 1) := Nat.le_mul_of_pos_right _ (by omega)
    omega
  have hx : 2 ^ k * (2 * q) + (2 ^ k - 1) < 2 ^ 64 := by omega
  have B : ∀ i, (2 ^ 64 - 2 ^ k * (2 * q + 1)).testBit i = (decide (i < 64) && !(if i < k then true else (2 * q).testBit (i - k))) := by
    intro i
    rw [e, Nat.testBit_two_pow_sub_succ hx, Nat.testBit_two_pow_mul_add _ hl]
    by_cases c : i < k
    · rw [if_pos c, if_pos c, Nat.testBit_two_pow_sub_one, decide_eq_true c]
    · rw [if_neg c, if_neg c]
  have A : ∀ i, (2 ^ k * (2 * q + 1)).testBit i = (decide (i ≥ k) && (2 * q + 1).testBit (i - k)) := fun i => Nat.testBit_two_pow_mul
  apply Nat.eq_of_testBit_eq
  intro i
  rw [Nat.testBit_and, A, B, Nat.testBit_two_pow]
  by_cases c : i < k
  · rw [decide_eq_false (show ¬ i ≥ k by omega), Bool.false_and, Bool.false_and, decide_eq_false (show ¬ k = i by omega)]
  · rw [if_neg c, decide_eq_true (show i ≥ k by omega), Bool.true_and]
    obtain ⟨j, rfl⟩ : ∃ j, i = k + j := ⟨i - k, by omega⟩
    rw [show k + j - k = j by omega]
    match j with
    | 0 =>
      rw [Nat.testBit_zero, Nat.testBit_zero, decide_eq_true (show (2 * q + 1) % 2 = 1 by omega), decide_eq_false (show ¬ 2 * q % 2 = 1 by omega), decide_eq_true (show k + 0 < 64 by omega), decide_eq_true (show k = k + 0 by omega)]
      rfl
    | j + 1 =>
      rw [Nat.testBit_add_one, Nat.testBit_add_one, show (2 * q + 1) / 2 = q by omega, show 2 * q / 2 = q by omega, decide_eq_false (show ¬ k = k + (j + 1) by omega)]
      cases q.testBit j <;> cases decide (k + (j + 1) < 64) <;> rfl
theorem i64_nI {m : Nat} (hm : m < 65536) : ((nI m).toInt64).toBitVec = BitVec.ofNat 64 m := by
  have h0 : ((nI m).toInt64).toBitVec = (BitVec.ofNat 32 m).signExtend 64 := rfl
  rw [h0]
  apply BitVec.eq_of_getLsbD_eq
  intro i hi
  have big : ∀ j, 16 ≤ j → m.testBit j = false := fun j hj => Nat.testBit_lt_two_pow (Nat.lt_of_lt_of_le hm (Nat.pow_le_pow_right (n := 2) (by decide) hj))
  rw [BitVec.getLsbD_signExtend, BitVec.getLsbD_ofNat]
  by_cases c : i < 32
  · rw [if_pos c, BitVec.getLsbD_ofNat, decide_eq_true c, decide_eq_true hi]
    rfl
  · rw [if_neg c, BitVec.msb_eq_getLsbD_last, BitVec.getLsbD_ofNat, BitVec.getLsbD_ofNat, big (32 - 1) (by decide), big i (by omega)]
    simp
theorem low_bc : ∀ k, k < 16 → f_J13_bitCount_95d88 (Int64.ofNat (2 ^ k) - (1 : Int64)) memE = some (nI k) := by decide +kernel
theorem f_low {k q : Nat} (hm : 2 ^ k * (2 * q + 1) < 65536) (M : Mem) : f_X9_lowest ((nI (2 ^ k * (2 * q + 1))).toInt64) M = some (nI k) := by
  have hp : 0 < 2 ^ k := Nat.two_pow_pos k
  have h2 : 2 ^ k ≤ 2 ^ k * (2 * q + 1) := Nat.le_mul_of_pos_right _ (by omega)
  have hk : k < 16 := by
    apply Decidable.byContradiction
    intro c
    have h1 : 2 ^ 16 ≤ 2 ^ k := Nat.pow_le_pow_right (by decide) (by omega)
    omega
  have e : (nI (2 ^ k * (2 * q + 1))).toInt64 &&& -(nI (2 ^ k * (2 * q + 1))).toInt64 = Int64.ofNat (2 ^ k) := by
    apply Int64.toBitVec_inj.mp
    rw [Int64.toBitVec_and, Int64.toBitVec_neg, i64_nI hm, show (Int64.ofNat (2 ^ k)).toBitVec = BitVec.ofNat 64 (2 ^ k) from rfl]
    apply BitVec.eq_of_toNat_eq
    rw [BitVec.toNat_and, BitVec.toNat_neg, BitVec.toNat_ofNat, BitVec.toNat_ofNat, Nat.mod_eq_of_lt (show 2 ^ k * (2 * q + 1) < 2 ^ 64 by omega), Nat.mod_eq_of_lt (show 2 ^ 64 - 2 ^ k * (2 * q + 1) < 2 ^ 64 by omega), Nat.mod_eq_of_lt (show 2 ^ k < 2 ^ 64 by omega)]
    exact low_and (by omega)
  have ne : ¬ lg_cmp ((nI (2 ^ k * (2 * q + 1))).toInt64) (0 : Int64) = 0 := by
    intro c
    unfold lg_cmp at c
    have z : (nI (2 ^ k * (2 * q + 1))).toInt64 = 0 := by
      by_cases c1 : (nI (2 ^ k * (2 * q + 1))).toInt64 > 0
      · rw [if_pos c1] at c; exact absurd c (by decide)
      · by_cases c2 : (nI (2 ^ k * (2 * q + 1))).toInt64 = 0
        · exact c2
        · rw [if_neg c1, if_neg c2] at c; exact absurd c (by decide)
    have z2 := congrArg (fun x : Int64 => x.toBitVec.toNat) z
    have z3 : ((nI (2 ^ k * (2 * q + 1))).toInt64).toBitVec.toNat = (0 : Int64).toBitVec.toNat := z2
    rw [i64_nI hm, BitVec.toNat_ofNat, Nat.mod_eq_of_lt (show 2 ^ k * (2 * q + 1) < 2 ^ 64 by omega)] at z3
    have z4 : (0 : Int64).toBitVec.toNat = 0 := rfl
    omega
  rw [f_X9_lowest, if_neg ne, e, show f_J13_bitCount_95d88 (Int64.ofNat (2 ^ k) - (1 : Int64)) M = some (nI k) from low_bc k hk, obd_s]
theorem fst_eq {x : Int32} {k : Nat} (hk : k < 32) (hx : bt x k = true) (hb : ∀ i, i < k → bt x i = false) (M : Mem) : ∀ (d i n : Nat), i + d = k → d + 1 ≤ n → f_X10_first_2 M n x (nI i) = some (nI k) := by
  intro d
  induction d with
  | zero =>
    intro i n hi hn
    obtain ⟨n, rfl⟩ : ∃ m, n = m + 1 := ⟨n - 1, by omega⟩
    obtain rfl : i = k := by omega
    rw [f_X10_first_2, f_has10 _ hk, obd_s, if_pos hx, if_neg ne10]
  | succ d ih =>
    intro i n hi hn
    obtain ⟨n, rfl⟩ : ∃ m, n = m + 1 := ⟨n - 1, by omega⟩
    have f0 := hb i (by omega)
    rw [f_X10_first_2, f_has10 _ (by omega), obd_s, f0, if_neg (show ¬ (false = true) by decide), if_pos rfl, bnd_e, nI_1]
    exact ih (i + 1) n (by omega) (by omega)
theorem eq9 {M : Mem} {i n : Nat} (h : WI i M) (a b : Int32) (hn : 100000 ≤ n) : ∃ r, f_X9_meeting 0 a b M = some r ∧ f_X10_meeting n 120 a b M = some r := by
  obtain ⟨N, A, Q, S, w⟩ := h
  obtain ⟨X, Y, L, p, sb, xg, xr⟩ := id w.1
  have h16 := w.2.2.2.1.n16
  have h2 := w.2.2.2.1.n2
  have hN := w.2.2.2.1.n
  have hB := w.2.2.2.1.bi
  have r := w.2.1
  rcases out_in (N := N) (by omega) a with ha | ⟨k, hk, rfl⟩
  · exact ⟨-1, by rw [f_X9_meeting, chk_t xg.1, xg.2.1, bnd_e, sb.f, ndc0 sb ha, obd_s, if_pos rfl], by rw [f_X10_meeting, rs_f r.1, ndr0 r hN (by omega) h16 ha, obd_s, if_pos rfl]⟩
  · rcases out_in (N := N) (by omega) b with hb | ⟨m, hm, rfl⟩
    · exact ⟨-1, by rw [f_X9_meeting, chk_t xg.1, xg.2.1, bnd_e, sb.f, ndc sb hk h16, obd_s, if_neg ne10, bnd_e, sb.f, ndc0 sb hb, obd_s, if_pos rfl], by rw [f_X10_meeting, rs_f r.1, ndr r hN hk h16, obd_s, if_neg ne10, ndr0 r hN (by omega) h16 hb, obd_s, if_pos rfl]⟩
    · have so : SO (xR S 17 k &&& xR S 17 m) := fun i h1 h2 => by rw [b_and, hB k hk i (by omega) h2, Bool.false_and]
      obtain ⟨g, hg, eg⟩ := so.k
      have C : ∀ x, f_X9_lowest ((nI g).toInt64) M = some x → f_X9_meeting 0 (nI k) (nI m) M = some x := fun x e => by
        rw [f_X9_meeting, chk_t xg.1, xg.2.1, bnd_e, sb.f, ndc sb hk h16, obd_s, if_neg ne10, bnd_e, sb.f, ndc sb hm h16, obd_s, if_neg ne10, bnd_e, sb.f, sb.r2, bnd_e, sb.a2, sb.i2 (by omega), bnd_e, sb.f, sb.r2, bnd_e, sb.a2, sb.i2 (by omega), nI_clamp (show k < 2 ^ 31 by omega), nI_clamp (show m < 2 ^ 31 by omega), sb.b hk, sb.b hm, eg, e, obd_s]
      have R : ∀ y, (if nI g = 0 then some (-1 : Int32) else (obd (f_X10_first n (nI g) M) fun r19 => some r19)) = y → f_X10_meeting n 120 (nI k) (nI m) M = y := fun y e => by
        rw [f_X10_meeting, rs_f r.1, ndr r hN hk h16, obd_s, if_neg ne10, ndr r hN hm h16, obd_s, if_neg ne10, r.base (v := k) (by omega), obd_s, r.base (v := m) (by omega), obd_s, bnd_e, eg]
        exact e
      by_cases g0 : g = 0
      · refine ⟨-1, C _ ?_, R _ (by rw [g0]; exact if_pos rfl)⟩
        rw [g0, f_X9_lowest, if_pos (show lg_cmp ((nI 0).toInt64) (0 : Int64) = 0 from by decide +kernel)]
      · obtain ⟨u, q, e⟩ := low_dec g g0
        have hp : 0 < 2 ^ u := Nat.two_pow_pos u
        have hle : 2 ^ u ≤ 2 ^ u * (2 * q + 1) := Nat.le_mul_of_pos_right _ (by omega)
        have hu : u < 16 := by
          apply Decidable.byContradiction
          intro c
          have h1 : 2 ^ 16 ≤ 2 ^ u := Nat.pow_le_pow_right (by decide) (by omega)
          omega
        have bu : bt (nI g) u = true := by
          rw [bt_nI _ (show u < 32 by omega), e, Nat.testBit_two_pow_mul, Nat.sub_self, Nat.testBit_zero, decide_eq_true (show u ≥ u by omega), decide_eq_true (show (2 * q + 1) % 2 = 1 by omega)]
          rfl
        have bl : ∀ i, i < u → bt (nI g) i = false := fun i hi => by
          rw [bt_nI _ (show i < 32 by omega), e, Nat.testBit_two_pow_mul, decide_eq_false (show ¬ i ≥ u by omega), Bool.false_and]
        refine ⟨nI u, C _ ?_, R _ ?_⟩
        · rw [e]
          exact f_low (by omega) M
        · have z : ¬ nI g = 0 := fun z => g0 ((nI_z (by omega)).mp z)
          rw [if_neg z, f_X10_first, show f_X10_first_2 M n (nI g) 0 = some (nI u) from fst_eq (by omega) bu bl M u 0 n (by omega) (by omega), obd_s]
/-! ===== the survey, the class, whole ===== -/
def Fx (M M' : Mem) : Prop := M'.1 = M.1 ∧ (∀ o, o ≠ 5 → ¬ (11 ≤ o ∧ o ≤ 13) → ∀ b, mI M' o b = mI M o b) ∧ ∀ b, b ≠ 6 → mI M' 5 b = mI M 5 b
theorem Fx.rf (M : Mem) : Fx M M := ⟨rfl, fun _ _ _ _ => rfl, fun _ _ => rfl⟩
theorem Fx.tr {M M' M'' : Mem} (h : Fx M M') (h' : Fx M' M'') : Fx M M'' := ⟨h'.1.trans h.1, fun o n n' b => (h'.2.1 o n n' b).trans (h.2.1 o n n' b), fun b n => (h'.2.2 b n).trans (h.2.2 b n)⟩
theorem Fw.x {M M' : Mem} (h : Fw M M') : Fx M M' := ⟨h.1, fun o n n' b => h.2.1 o n (by omega) b, h.2.2⟩
theorem FrLg.x {M M' : Mem} (h : FrLg M M') : Fx M M' := ⟨h.1, fun o _ _ b => h.2 o b, fun b _ => h.2 5 b⟩
theorem Fx.s {M : Mem} {o k : Nat} {x : Int32} (h : 11 ≤ o ∧ o ≤ 13) : Fx M (sI M o k x) := ⟨rfl, fun a n n' b => mI_o _ _ _ _ _ (by omega), fun b n => mI_o _ _ _ _ _ (by omega)⟩
theorem F1.x {M M' : Mem} {N : Nat} (h : F1 M 8 9 N) (f : Fx M M') : F1 M' 8 9 N := by
  obtain ⟨⟨a, b, c, d⟩, e, g⟩ := h
  have io : ∀ {c o}, isO M c o → isO M' c o := fun z => by unfold isO mN mC at *; rw [f.1]; exact z
  exact ⟨⟨io a, by rw [mR_e f.1]; exact b, io c, by rw [mLn_e f.1]; exact d⟩, by rw [f.2.1 8 (by decide) (by decide)]; exact e, by rw [f.2.1 8 (by decide) (by decide)]; exact g⟩
theorem aw80 {N b : Nat} : ∀ (d j n : Nat) (M : Mem) (c : Nat), j + d = b → W5 M → TW M c → F1 M 8 9 N → mI M 13 0 = nI b → b ≤ c → d + 1 ≤ n → ∃ M', f_X8_addWholes_80 n 5 (nI j) M = some M' ∧ FrLg M M' := by
  intro d
  induction d with
  | zero =>
    intro j n M c hj w h f hb hc hn
    obtain ⟨n, rfl⟩ : ∃ m, n = m + 1 := ⟨n - 1, by omega⟩
    have h305 := h.2.1
    obtain ⟨⟨w1, w2, w3, w4, w5, w6, w7, w8, w9⟩, ⟨y1, y2, y3, y4, y5, y6, y7, y8⟩, ⟨z1, z2, z3, z4, z5, z6⟩⟩ := w
    exact ⟨M, by rw [f_X8_addWholes_80, chk_t w1, y6, bnd_e, chk_t w9, z6, chk_t (show inB (0 : Int32) 16 by decide), show mI M 13 ((0 : Int32)).toNatClampNeg = nI b from hb, if_pos (nI_le (by omega) (by omega))], FrLg.rf M⟩
  | succ d ih =>
    intro j n M c hj w h f hb hc hn
    obtain ⟨n, rfl⟩ : ∃ m, n = m + 1 := ⟨n - 1, by omega⟩
    have h305 := h.2.1
    obtain ⟨⟨w1, w2, w3, w4, w5, w6, w7, w8, w9⟩, ⟨y1, y2, y3, y4, y5, y6, y7, y8⟩, ⟨z1, z2, z3, z4, z5, z6⟩⟩ := id w
    obtain ⟨M1, e1, f1⟩ := f.add (h.2.2 j (by omega))
    have t1 : TW M1 c := ⟨by rw [f1.2]; exact h.1, h.2.1, fun j hj => by rw [f1.2]; exact h.2.2 j hj⟩
    obtain ⟨M', e', f'⟩ := ih (j + 1) n M1 c (by omega) (w.e f1.1) t1 (f.l f1) (by rw [f1.2]; exact hb) hc (by omega)
    exact ⟨M', by rw [f_X8_addWholes_80, chk_t w1, y6, bnd_e, chk_t w9, z6, chk_t (show inB (0 : Int32) 16 by decide), show mI M 13 ((0 : Int32)).toNatClampNeg = nI b from hb, if_neg (nI_ge (by omega) (by omega)), y2, bnd_e, chk_t w4, y4, bnd_e, chk_t w7, z4, chk_t (inB_n (by omega) (by decide)), mI_c (by omega), e1, obd_s, bnd_e, nI_1]; exact e', f1.tr f'⟩
/-- the number before v -/
def nB : Nat → Int32
  | 0 => -1
  | k + 1 => nI k
theorem nB_s (k : Nat) : nI k + (-1 : Int32) = nB k := by
  cases k with
  | zero => decide
  | succ k => exact nI_d1 k
theorem aw9 {N : Nat} (h1 : 1 ≤ N) (h16 : N ≤ 16) : ∀ (k n : Nat) (M : Mem) (c : Nat), k ≤ N → W5 M → TW M c → F1 M 8 9 N → (∀ u, k ≤ u → u < N → ∃ a b, a ≤ b ∧ b ≤ c ∧ mI M 12 u = nI a ∧ mI M 13 u = nI b) → k + 1000 ≤ n → ∃ M', f_X8_addWholes_9 n 5 (nI N) (nB k) M = some M' ∧ Fx M M' := by
  intro k
  induction k with
  | zero =>
    intro n M c hk w h f pr hn
    obtain ⟨n, rfl⟩ : ∃ m, n = m + 1 := ⟨n - 1, by omega⟩
    have h305 := h.2.1
    obtain ⟨⟨w1, w2, w3, w4, w5, w6, w7, w8, w9⟩, ⟨y1, y2, y3, y4, y5, y6, y7, y8⟩, ⟨z1, z2, z3, z4, z5, z6⟩⟩ := id w
    obtain ⟨a, b, hab, hbc, ea, eb⟩ := pr 0 (Nat.zero_le _) (by omega)
    obtain ⟨M', e', f'⟩ := aw80 (b - a) a n M c (by omega) w h f eb hbc (by omega)
    exact ⟨M', by rw [f_X8_addWholes_9, if_pos (show nB 0 < (0 : Int32) by decide), chk_t w1, y5, bnd_e, chk_t w8, z5, chk_t (show inB (0 : Int32) 16 by decide), show mI M 12 ((0 : Int32)).toNatClampNeg = nI a from ea, bnd_e]; exact e', f'.x⟩
  | succ v ih =>
    intro n M c hk w h f pr hn
    obtain ⟨n, rfl⟩ : ∃ m, n = m + 1 := ⟨n - 1, by omega⟩
    have h305 := h.2.1
    have v16 : v < 16 := by omega
    obtain ⟨⟨w1, w2, w3, w4, w5, w6, w7, w8, w9⟩, ⟨y1, y2, y3, y4, y5, y6, y7, y8⟩, ⟨z1, z2, z3, z4, z5, z6⟩⟩ := id w
    have f0 : Fx M (sI M 12 v (nI c)) := Fx.s (by omega)
    generalize hM1 : sI M 12 v (nI c) = M1 at f0
    have W1 := w.e f0.1
    have t1 : TW M1 c := ⟨by rw [← hM1, mI_o _ _ _ _ _ (by decide)]; exact h.1, h.2.1, fun j hj => by rw [← hM1, mI_o _ _ _ _ _ (by decide)]; exact h.2.2 j hj⟩
    have r12 : ∀ u, u ≠ v → mI M1 12 u = mI M 12 u := fun u n => by rw [← hM1, mI_n _ _ _ _ n]
    have r12v : mI M1 12 v = nI c := by rw [← hM1, mI_s]
    have r13 : ∀ u, mI M1 13 u = mI M 13 u := fun u => by rw [← hM1, mI_o _ _ _ _ _ (by decide)]
    have rest : ∀ (M2 : Mem) (c2 : Nat), TW M2 c2 → c ≤ c2 → Fw M1 M2 → ∃ M', (chk (isO M2 8 5) <| bnd (mR M2 5 5) fun o24 => chk (isO M2 100 o24) <| chk (inB (nI v) (mLn M2 o24)) <| bnd (sI M2 o24 (nI v).toNatClampNeg (mI M2 5 6)) fun M28 => bnd (nI v + (-1 : Int32)) fun x32 => f_X8_addWholes_9 n 5 (nI N) x32 M28) = some M' ∧ Fx M M' := by
      intro M2 c2 t2 hc2 fw
      have W2 := W1.e fw.1
      obtain ⟨⟨u1, u2, u3, u4, u5, u6, u7, u8, u9⟩, ⟨x1, x2, x3, x4, x5, x6, x7, x8⟩, ⟨q1, q2, q3, q4, q5, q6⟩⟩ := id W2
      have f3 : Fx M2 (sI M2 13 v (nI c2)) := Fx.s (by omega)
      obtain ⟨M', e', f'⟩ := ih n (sI M2 13 v (nI c2)) c2 (by omega) (W2.e rfl) ⟨by rw [mI_o _ _ _ _ _ (by decide)]; exact t2.1, t2.2.1, fun j hj => by rw [mI_o _ _ _ _ _ (by decide)]; exact t2.2.2 j hj⟩ (((f.x f0).x fw.x).x f3) (fun u hu huN => by
        by_cases e : u = v
        · exact ⟨c, c2, hc2, Nat.le_refl _, by rw [e, mI_o _ _ _ _ _ (by decide), fw.2.1 12 (by decide) (by decide)]; exact r12v, by rw [e, mI_s]⟩
        · obtain ⟨a, b, hab, hbc, ea, eb⟩ := pr u (by omega) huN
          exact ⟨a, b, hab, by omega, by rw [mI_o _ _ _ _ _ (by decide), fw.2.1 12 (by decide) (by decide), r12 u e]; exact ea, by rw [mI_n _ _ _ _ e, fw.2.1 13 (by decide) (by decide), r13]; exact eb⟩) (by omega)
      exact ⟨M', by rw [chk_t u1, x6, bnd_e, chk_t u9, q6, chk_t (inB_n v16 (by decide)), t2.1, sI_c (by omega), bnd_e, nB_s, bnd_e]; exact e', (f0.tr fw.x).tr (f3.tr f')⟩
    have hd : ∀ y, (if nI N ≤ (((2 : Int32) * nI v) + (2 : Int32)) then (obd (f_X8_listWhole 5 ((1 : Int32) <<< (nI v &&& 31)) M1) fun M22 => chk (isO M22 8 5) <| bnd (mR M22 5 5) fun o24 => chk (isO M22 100 o24) <| chk (inB (nI v) (mLn M22 o24)) <| bnd (sI M22 o24 (nI v).toNatClampNeg (mI M22 5 6)) fun M28 => bnd (nI v + (-1 : Int32)) fun x32 => f_X8_addWholes_9 n 5 (nI N) x32 M28) else (obd (f_X8_listWholes n 5 (nI v) (((2 : Int32) * nI v) + (1 : Int32)) (((2 : Int32) * nI v) + (2 : Int32)) M1) fun M22 => chk (isO M22 8 5) <| bnd (mR M22 5 5) fun o24 => chk (isO M22 100 o24) <| chk (inB (nI v) (mLn M22 o24)) <| bnd (sI M22 o24 (nI v).toNatClampNeg (mI M22 5 6)) fun M28 => bnd (nI v + (-1 : Int32)) fun x32 => f_X8_addWholes_9 n 5 (nI N) x32 M28)) = y → f_X8_addWholes_9 (n + 1) 5 (nI N) (nB (v + 1)) M = y := by
      intro y hy
      rw [show nB (v + 1) = nI v from rfl, f_X8_addWholes_9, if_neg (show ¬ nI v < (0 : Int32) from nI_nlt (b := 0) (Nat.zero_le _) (by omega)), chk_t w1, y5, bnd_e, chk_t w8, z5, chk_t (inB_n v16 (by decide)), h.1, sI_c (by omega), hM1, bnd_e]
      exact hy
    have e22 : ((2 : Int32) * nI v) + (2 : Int32) = nI (2 * v + 2) := by rw [show (2 : Int32) = nI 2 from rfl, pk_mul, nI_add]
    have e21 : ((2 : Int32) * nI v) + (1 : Int32) = nI (2 * v + 1) := by rw [show (2 : Int32) = nI 2 from rfl, pk_mul, nI_1]
    by_cases leaf : N ≤ 2 * v + 2
    · obtain ⟨M2, c2, e2, t2, k2, fw⟩ := lw1 W1 t1 (SO.one v16)
      obtain ⟨M', e', f'⟩ := rest M2 c2 t2 k2 fw
      exact ⟨M', hd _ (by rw [e22, if_pos (nI_le leaf (by omega)), e2, obd_s]; exact e'), f'⟩
    · obtain ⟨al, bl, hl1, hl2, el1, el2⟩ := pr (2 * v + 1) (by omega) (by omega)
      obtain ⟨ar, br, hr1, hr2, er1, er2⟩ := pr (2 * v + 2) (by omega) (by omega)
      have a1 : mI M1 12 (2 * v + 1) = nI al := by rw [r12 _ (by omega)]; exact el1
      obtain ⟨M2, c2, e2, t2, k2, fw⟩ := lw8 (v := v) (l := 2 * v + 1) (r := 2 * v + 2) v16 (by omega) (by omega) hr1 hl2 hr2 (bl - al) al n M1 c (by omega) W1 t1 (Nat.le_refl _) (by rw [r12 _ (by omega)]; exact er1) (by rw [r13]; exact er2) (by rw [r13]; exact el2) (by omega)
      obtain ⟨M', e', f'⟩ := rest M2 c2 t2 k2 fw
      obtain ⟨⟨u1, u2, u3, u4, u5, u6, u7, u8, u9⟩, ⟨x1, x2, x3, x4, x5, x6, x7, x8⟩, ⟨q1, q2, q3, q4, q5, q6⟩⟩ := id W1
      have eW : f_X8_listWholes n 5 (nI v) (nI (2 * v + 1)) (nI (2 * v + 2)) M1 = some M2 := by
        rw [f_X8_listWholes, chk_t u1, x5, bnd_e, chk_t u8, q5, chk_t (inB_n (by omega) (by decide)), mI_c (by omega), a1, bnd_e]
        exact e2
      exact ⟨M', hd _ (by rw [e22, e21, if_neg (nI_ge (by omega) (by omega)), eW, obd_s]; exact e'), f'⟩
theorem awh {N : Nat} (h1 : 1 ≤ N) (h16 : N ≤ 16) {M : Mem} (w : W5 M) (f : F1 M 8 9 N) {n : Nat} (hn : 1100 ≤ n) : ∃ M', f_X8_addWholes n 5 (nI N) M = some M' ∧ Fx M M' := by
  obtain ⟨⟨w1, w2, w3, w4, w5, w6, w7, w8, w9⟩, _, _⟩ := id w
  have f0 : Fx M (sI M 5 6 0) := ⟨rfl, fun o n _ b => mI_o _ _ _ _ _ n, fun b n => mI_n _ _ _ _ n⟩
  obtain ⟨M', e', f'⟩ := aw9 h1 h16 N n (sI M 5 6 0) 0 (Nat.le_refl _) (w.e rfl) ⟨mI_s _ _ _ _, by decide, fun j hj => by omega⟩ (f.x f0) (fun u a b => by omega) (by omega)
  refine ⟨M', ?_, f0.tr f'⟩
  have eN : nI N - (1 : Int32) = nB N := by
    obtain ⟨m, rfl⟩ : ∃ m, N = m + 1 := ⟨N - 1, by omega⟩
    exact nI_pred m
  rw [f_X8_addWholes, chk_t w1, bnd_e, eN, bnd_e]
  exact e'
/-- what a survey changes -/
def Fs (M M' : Mem) : Prop := M'.1 = M.1 ∧ ∀ o, ¬ (5 ≤ o ∧ o ≤ 13) → ∀ b, mI M' o b = mI M o b
theorem Fs.rf (M : Mem) : Fs M M := ⟨rfl, fun _ _ _ => rfl⟩
theorem Fs.tr {M M' M'' : Mem} (h : Fs M M') (h' : Fs M' M'') : Fs M M'' := ⟨h'.1.trans h.1, fun o n b => (h'.2 o n b).trans (h.2 o n b)⟩
theorem Fx.f {M M' : Mem} (h : Fx M M') : Fs M M' := ⟨h.1, fun o n b => h.2.1 o (by omega) (by omega) b⟩
/-- after a survey -/
def SV5 (M : Mem) (N : Nat) : Prop := W5 M ∧ F1 M 6 7 N ∧ F1 M 8 9 N
theorem SV5.l {M M' : Mem} {N : Nat} (h : SV5 M N) (f : FrLg M M') : SV5 M' N := ⟨h.1.e f.1, h.2.1.l f, h.2.2.l f⟩
theorem tk79 {M : Mem} {N : Nat} (h16 : N ≤ 16) (h : SV5 M N) {n : Nat} (hn : 1100 ≤ n) : ∃ M', f_X8_take_79 n 5 M = some M' ∧ Fs M M' ∧ SV5 M' N ∧ mI M' 5 7 = 1 := by
  obtain ⟨w, f6, f8⟩ := h
  obtain ⟨M1, e1, l1⟩ := f6.ag h16 (n := n) hn
  have f81 := f8.l l1
  obtain ⟨M2, e2, l2⟩ := f81.ag h16 (n := n) hn
  have W1 := w.e l1.1
  have W2 := W1.e l2.1
  have l := l1.tr l2
  have fs : Fs M2 (sI M2 5 7 1) := ⟨rfl, fun o n b => mI_o _ _ _ _ _ (by omega)⟩
  have fl : Fs M M2 := ⟨l.1, fun o _ b => l.2 o b⟩
  have s6 : F1 (sI M2 5 7 1) 6 7 N := by
    obtain ⟨a, b, c⟩ := f6.l l
    exact ⟨a, by rw [mI_o _ _ _ _ _ (by decide)]; exact b, by rw [mI_o _ _ _ _ _ (by decide)]; exact c⟩
  have s8 : F1 (sI M2 5 7 1) 8 9 N := by
    obtain ⟨a, b, c⟩ := f8.l l
    exact ⟨a, by rw [mI_o _ _ _ _ _ (by decide)]; exact b, by rw [mI_o _ _ _ _ _ (by decide)]; exact c⟩
  exact ⟨sI M2 5 7 1, by rw [f_X8_take_79, chk_t w.1.1, w.2.1.1, bnd_e, chk_t w.1.2.1, e1, obd_s, chk_t W1.1.1, W1.2.1.2.1, bnd_e, chk_t W1.1.2.2.2.1, e2, obd_s, chk_t W2.1.1, chk_t (Or.inr rfl), bnd_e], fl.tr fs, ⟨W2.e rfl, s6, s8⟩, mI_s _ _ _ _⟩
theorem tk24 {N : Nat} {S : St} (h1 : 1 ≤ N) (h16 : N ≤ 16) (hB : ∀ v, v < N → SO (xR S 17 v)) : ∀ (d i n : Nat) (M : Mem), i + d = N → SB M N S → SV5 M N → d + 1200 ≤ n → ∃ M', f_X8_take_24 n 5 1 (nI i) M = some M' ∧ Fs M M' ∧ SV5 M' N ∧ mI M' 5 7 = 1 := by
  intro d
  induction d with
  | zero =>
    intro i n M hi sb h hn
    obtain ⟨n, rfl⟩ : ∃ m, n = m + 1 := ⟨n - 1, by omega⟩
    obtain ⟨w, f6, f8⟩ := id h
    rw [f_X8_take_24, sb.f, sb.n, if_pos (nI_le (by omega) (by omega))]
    by_cases c : mI M 1 4 = 0
    · rw [if_pos c]; exact tk79 h16 h (by omega)
    · obtain ⟨M1, e1, x1⟩ := awh h1 h16 w f8 (n := n) (by omega)
      have s6 : F1 M1 6 7 N := by
        obtain ⟨⟨a, b, c, d⟩, e, g⟩ := f6
        have io : ∀ {c o}, isO M c o → isO M1 c o := fun z => by unfold isO mN mC at *; rw [x1.1]; exact z
        exact ⟨⟨io a, by rw [mR_e x1.1]; exact b, io c, by rw [mLn_e x1.1]; exact d⟩, by rw [x1.2.1 6 (by decide) (by decide)]; exact e, by rw [x1.2.1 6 (by decide) (by decide)]; exact g⟩
      obtain ⟨M', e', f', R⟩ := tk79 h16 (show SV5 M1 N from ⟨w.e x1.1, s6, f8.x x1⟩) (n := n) (by omega)
      exact ⟨M', by rw [if_neg c, chk_t w.1.1, e1, obd_s]; exact e', x1.f.tr f', R⟩
  | succ d ih =>
    intro i n M hi sb h hn
    obtain ⟨n, rfl⟩ : ∃ m, n = m + 1 := ⟨n - 1, by omega⟩
    obtain ⟨w, f6, f8⟩ := id h
    have so : SO (mI M 2 (nI i).toNatClampNeg) := by rw [mI_c (by omega), sb.b (by omega)]; exact hB i (by omega)
    obtain ⟨M1, e1, l1⟩ := f6.add so
    have W1 := w.e l1.1
    have sb1 : SB M1 N S := sb.e l1.1 (fun b => l1.2 1 b) (fun b => l1.2 2 b)
    have so1 : SO (mI M1 2 (nI i).toNatClampNeg) := by rw [l1.2]; exact so
    obtain ⟨M2, e2, l2⟩ := (f8.l l1).add so1
    have l := l1.tr l2
    obtain ⟨M', e', f', R⟩ := ih (i + 1) n M2 (by omega) (sb.e l.1 (fun b => l.2 1 b) (fun b => l.2 2 b)) (h.l l) (by omega)
    exact ⟨M', by rw [f_X8_take_24, sb.f, sb.n, if_neg (nI_ge (by omega) (by omega)), chk_t w.1.1, w.2.1.1, bnd_e, chk_t w.1.2.1, sb.r2, bnd_e, sb.a2, sb.i2 (by omega), e1, obd_s, chk_t W1.1.1, W1.2.1.2.1, bnd_e, chk_t W1.1.2.2.2.1, sb1.f, sb1.r2, bnd_e, sb1.a2, sb1.i2 (by omega), e2, obd_s, bnd_e, nI_1]; exact e', Fs.tr ⟨l.1, fun o _ b => l.2 o b⟩ f', R⟩
theorem sv1 {M : Mem} {N : Nat} {S : St} (xg : XG M) (xv : XV0 M N) (sb : SB M N S) (h1 : 1 ≤ N) (h16 : N ≤ 16) (hB : ∀ v, v < N → SO (xR S 17 v)) {n : Nat} (hn : 1300 ≤ n) : ∃ M', f_X9_surveyOnce n 0 M = some M' ∧ Fs M M' ∧ SV5 M' N ∧ mI M' 5 7 = 1 := by
  obtain ⟨a, b, c, d⟩ := xv
  have w : W5 M := ⟨a, b, c⟩
  have q6 : isO M 1 6 ∧ mR M 6 0 = 7 ∧ isO M 101 7 ∧ mLn M 7 = 1024 := ⟨w.1.2.1, w.2.1.2.2.2.2.2.2.1, w.1.2.2.1, w.2.2.1⟩
  have q8 : isO M 1 8 ∧ mR M 8 0 = 9 ∧ isO M 101 9 ∧ mLn M 9 = 1024 := ⟨w.1.2.2.2.1, w.2.1.2.2.2.2.2.2.2, w.1.2.2.2.2.1, w.2.2.2.1⟩
  by_cases z : mI M 5 7 = 0
  · obtain ⟨M1, e1, f1, s1, o1⟩ := bg_1 (o := 6) (q := 7) h16 q6 (n := n) (by omega)
    have W1 := w.e s1
    have q81 : isO M1 1 8 ∧ mR M1 8 0 = 9 ∧ isO M1 101 9 ∧ mLn M1 9 = 1024 := ⟨W1.1.2.2.2.1, W1.2.1.2.2.2.2.2.2.2, W1.1.2.2.2.2.1, W1.2.2.2.1⟩
    have sb1 : SB M1 N S := sb.e s1 (o1 1 (by decide)) (o1 2 (by decide))
    obtain ⟨M2, e2, f2, s2, o2⟩ := bg_1 (o := 8) (q := 9) h16 q81 (n := n) (by omega)
    have sb2 : SB M2 N S := sb1.e s2 (o2 1 (by decide)) (o2 2 (by decide))
    have f12 : F1 M2 6 7 N := by
      obtain ⟨⟨a, b, c, d⟩, e, g⟩ := f1
      have io : ∀ {c o}, isO M1 c o → isO M2 c o := fun z => by unfold isO mN mC at *; rw [s2]; exact z
      exact ⟨⟨io a, by rw [mR_e s2]; exact b, io c, by rw [mLn_e s2]; exact d⟩, by rw [o2 6 (by decide)]; exact e, by rw [o2 6 (by decide)]; exact g⟩
    have W2 := W1.e s2
    obtain ⟨M', e', f', R⟩ := tk24 h1 h16 hB N 0 n M2 (by omega) sb2 ⟨W2, f12, f2⟩ (by omega)
    refine ⟨M', ?_, Fs.tr ⟨s2.trans s1, fun o n b => by rw [o2 o (by omega), o1 o (by omega)]⟩ f', R⟩
    rw [f_X9_surveyOnce, chk_t xg.1, xg.2.2.1, bnd_e, chk_t w.1.1, if_pos z, bnd_e, chk_t w.1.1, xg.2.1, bnd_e, sb.f, f_X8_take, chk_t w.1.1, w.2.1.1, bnd_e, chk_t w.1.2.1, sb.f, sb.n, e1, obd_s, chk_t W1.1.1, W1.2.1.2.1, bnd_e, chk_t W1.1.2.2.2.1, sb1.f, sb1.n, e2, obd_s]
    rw [show f_X8_take_24 n 5 1 0 M2 = some M' from e', obd_s]
  · obtain ⟨d1, d2, d3, d4, d5⟩ := d.resolve_left z
    exact ⟨M, by rw [f_X9_surveyOnce, chk_t xg.1, xg.2.2.1, bnd_e, chk_t w.1.1, if_neg z], Fs.rf M, ⟨w, ⟨q6, d2, d3⟩, ⟨q8, d4, d5⟩⟩, d1⟩
/-! ===== equal answers: stops ===== -/
theorem bit_nz (x : Int32) {v : Nat} (hv : v < 32) : ¬ x ||| ((1 : Int32) <<< (nI v &&& 31)) = 0 := fun e => by
  have h := b_or x ((1 : Int32) <<< (nI v &&& 31)) v
  rw [e, b_0, b_one hv hv, decide_eq_true (Eq.refl v), Bool.or_true] at h
  cases h
theorem wh_up {N : Nat} {b : Int32} {v : Nat} (hv : v < N) (h16 : N ≤ 16) (hN : N % 2 = 1) (nb : bt b v = false) (h : 2 * v + 1 < N → ¬ wh N b (2 * v + 1) = 0 ∨ ¬ wh N b (2 * v + 2) = 0) : ¬ wh N b v = 0 := by
  have e := wh_e b hv hN
  by_cases c : 2 * v + 1 < N
  · simp only [c, if_true, nb, Bool.false_eq_true, if_false] at e
    rw [e]
    rcases h c with z | z
    · rw [if_neg z]; exact bit_nz _ (by omega)
    · by_cases y : wh N b (2 * v + 1) = 0
      · rw [if_pos y, if_neg z]; exact bit_nz _ (by omega)
      · rw [if_neg y]; exact bit_nz _ (by omega)
  · simp only [c, if_false, nb, Bool.false_eq_true] at e
    rw [e]
    have := bit_nz 0 (show v < 32 by omega)
    rw [Int32.zero_or] at this
    exact this
theorem tree_wh {N : Nat} {B : Nat → Int32} {b : Int32} (h16 : N ≤ 16) (hN : N % 2 = 1) (t : TT N B) {v : Nat} (hv : v < N) (hb : B v &&& b = 0) : ¬ wh N b 0 = 0 := by
  have main : ∀ r u, N ≤ u + r → u < N → bt (B v) u = true → ¬ wh N b u = 0 := by
    intro r
    induction r with
    | zero => intro u h1 h2; omega
    | succ r ih =>
      intro u h1 h2 h3
      have nb : bt b u = false := by
        have e := b_and (B v) b u
        rw [hb, b_0, h3, Bool.true_and] at e
        exact e.symm
      refine wh_up h2 h16 hN nb (fun c => ?_)
      rcases (t.2 v hv).2 u (by omega) h3 with z | z
      · exact Or.inl (ih _ (by omega) c z)
      · exact Or.inr (ih _ (by omega) (by omega) z)
  exact main N 0 (by omega) (by omega) (t.2 v hv).1
theorem cor_q {N A i : Nat} {S : St} (sw : SW N A i S) (b : Int32) : cor N S b = 0 ↔ ∀ v, v < N → qby N S v b = 0 := by
  have h2 := sw.n2
  have h16 := sw.n16
  have nz := sw.tb.1
  constructor
  · intro c v hv
    have un : ¬ xR S 17 v &&& b = 0 := fun hb => by
      unfold cor at c
      by_cases t : xR S 20 1 = 1
      · rw [if_pos t] at c
        exact tree_wh h16 (sw.t t) (sw.tb.2 t) hv hb c
      · rw [if_neg t] at c
        unfold fub at c
        split at c
        · rename_i e
          have := List.find?_eq_none.mp e v (List.mem_range'_1.mpr ⟨Nat.zero_le _, by omega⟩)
          exact this (decide_eq_true hb)
        · rename_i w e
          have := List.mem_range'_1.mp (List.mem_of_find?_eq_some e)
          exact nz w (by omega) c
    unfold qby
    rw [if_neg un]
    exact c
  · intro h
    have h0 := h 0 (by omega)
    unfold qby at h0
    by_cases c : xR S 17 0 &&& b = 0
    · rw [if_pos c] at h0
      exact absurd h0 (nz 0 (by omega))
    · rw [if_neg c] at h0
      exact h0
theorem rst_v {M : Mem} {N : Nat} {tw : Bool} {t : Int32} {S : St} {pb pt : List Row4} (hN : xR S 20 0 = nI N) (h16 : N ≤ 16) (ht : xR S 20 1 = 1 → N % 2 = 1) (b : Int32) : ∀ (d i n : Nat) (M : Mem), RV M tw t S pb pt → i + d = N → d + 61 ≤ n → ∃ x M', f_X10_stopsBy_2 n 120 b (nI i) M = some (x, M') ∧ ((x = 1 ∧ ∀ v, i ≤ v → v < N → qby N S v b = 0) ∨ (x = 0 ∧ ∃ v, v < N ∧ ¬ qby N S v b = 0)) ∧ RV M' tw t S pb pt ∧ Fr P2 M M' := by
  intro d
  induction d with
  | zero =>
    intro i n M r hi hn
    obtain ⟨n, rfl⟩ : ∃ m, n = m + 1 := ⟨n - 1, by omega⟩
    exact ⟨1, M, by rw [f_X10_stopsBy_2, rs_f r.1, rs_0 r.1, bnd_e, rs_fa r.1, rs_c0 r.1, cl0, r.N hN, if_pos (nI_le (by omega) (by omega))], Or.inl ⟨rfl, fun v h1 h2 => by omega⟩, r, Fr.rf _ _⟩
  | succ d ih =>
    intro i n M r hi hn
    obtain ⟨n, rfl⟩ : ∃ m, n = m + 1 := ⟨n - 1, by omega⟩
    obtain ⟨M1, e1, r1, f1⟩ := r.tqby (n := n) hN h16 ht (v := i) (by omega) b (by omega)
    have op : ∀ y, (if qby N S i b = 0 then f_X10_stopsBy_2 n 120 b (nI (i + 1)) M1 else some ((0 : Int32), M1)) = y → f_X10_stopsBy_2 (n + 1) 120 b (nI i) M = y := by
      intro y hy
      rw [f_X10_stopsBy_2, rs_f r.1, rs_0 r.1, bnd_e, rs_fa r.1, rs_c0 r.1, cl0, r.N hN, if_neg (nI_ge (by omega) (by omega)), e1, obd2_s, bnd_e, nI_1]
      exact hy
    by_cases z : qby N S i b = 0
    · obtain ⟨x, M2, e2, hx, r2, f2⟩ := ih (i + 1) n M1 r1 (by omega) (by omega)
      refine ⟨x, M2, op _ (by rw [if_pos z]; exact e2), ?_, r2, f1.tr f2⟩
      rcases hx with ⟨a, h⟩ | h
      · refine Or.inl ⟨a, fun v h1 h2 => ?_⟩
        by_cases c : v = i
        · rw [c]; exact z
        · exact h v (by omega) h2
      · exact Or.inr h
    · exact ⟨0, M1, op _ (if_neg z), Or.inr ⟨rfl, i, by omega, z⟩, r1, f1⟩
theorem eq12 {M : Mem} {i n : Nat} (h : WI i M) (a : Int32) (hn : 100000 ≤ n) : Okk i (f_X9_stops n 0 a M) (fun M1 => f_X10_stops n 120 a M1) := by
  obtain ⟨N, A, Q, S, w⟩ := h
  obtain ⟨X, Y, L, p, sb, xg, xr⟩ := id w.1
  obtain ⟨_, r, z7, sw, hQ⟩ := id w
  have h16 := sw.n16
  have h2 := sw.n2
  generalize hb : a &&& (((1 : Int32) <<< (nI N &&& 31)) - (1 : Int32)) = b
  have key : ∃ M1, f_X7_someQuorum n 1 b M = some (if cor N S b = 0 then 0 else 1, M1) ∧ Fr P4 M M1 := by
    have e20 : ∀ u M1, f_X7_someQuorum_20 n u M1 = some (if u = 0 then 0 else 1, M1) := fun u M1 => by
      rw [f_X7_someQuorum_20]
      by_cases c : u = 0
      · rw [if_pos c, if_pos c]
      · rw [if_neg c, if_neg c]
    rw [f_X7_someQuorum, sb.f, sb.t]
    unfold cor
    rcases sw.t2 with t0 | t1
    · have tn : ¬ xR S 20 1 = 1 := by rw [t0]; decide
      refine ⟨M, ?_, Fr.rf _ _⟩
      rw [if_pos t0, if_neg tn, f_X7_firstUnbroken, show (0 : Int32) = nI 0 from rfl, fu_l sb h16 _ N 0 n (by omega) (by omega), obd_s, e20]
      rfl
    · obtain ⟨M1, e1, f1⟩ := wr_l h16 (by omega) (sw.t t1) b N M n sb (Nat.le_refl _) (fun w _ _ => by omega) (by omega)
      refine ⟨M1, ?_, f1⟩
      rw [if_pos t1, t1, if_neg ne10, f_X7_wholeOfRoot, sb.f, sb.n, bnd_e, e1, obd2_s, e20]
  obtain ⟨M1, e1, f1⟩ := key
  have o1 : ∀ o, o ≠ 4 → o ≠ 30 → ∀ b, mI M1 o b = mI M o b := fun o n1 _ b => f1.2.1 o n1 b
  have r1 := r.ow f1.1 o1
  obtain ⟨y, M2, e2, hy, r2, f2⟩ := rst_v (M := M1) sw.n h16 sw.t b N 0 n M1 r1 (by omega) (by omega)
  have hy2 : y = if cor N S b = 0 then 1 else 0 := by
    rcases hy with ⟨e, h⟩ | ⟨e, v, hv, h⟩
    · rw [if_pos ((cor_q sw b).mpr (fun v hv => h v (Nat.zero_le _) hv))]; exact e
    · rw [if_neg (fun z => h ((cor_q sw b).mp z v hv))]; exact e
  have bz1 : bz y := by
    rcases hy with ⟨e, _⟩ | ⟨e, _⟩
    · exact Or.inr e
    · exact Or.inl e
  refine ⟨y, M1, M2, ?_, r1.1.io (by decide) (by decide) (by decide), ?_, w.own f1.1 o1 r2 f2.1 (fun o ho b => f2.2.1 o (fun z => ho (by unfold P2 at z; omega)) b) ?_ (fun o b => (f2.2.2 o b).trans (f1.2.2 o b))⟩
  · rw [f_X9_stops, chk_t xg.1, xg.2.1, bnd_e, sb.f, bnd_e, sb.f, f_X7_allNodes, sb.f, sb.n, obd_s, hb, e1, obd2_s, hy2]
    by_cases c : cor N S b = 0
    · rw [if_pos c, if_pos c, if_pos rfl]
    · rw [if_neg c, if_neg c, if_neg ne10]
  · show f_X10_stops n 120 a M1 = _
    rw [f_X10_stops, rs_f r1.1, f_X10_all, rs_f r1.1, rs_0 r1.1, bnd_e, rs_fa r1.1, rs_c0 r1.1, cl0, r1.N sw.n, obd_s, hb, f_X10_stopsBy, show f_X10_stopsBy_2 n 120 b 0 M1 = some (y, M2) from e2, obd2_s, chk_t bz1]
  · rw [f2.2.1 120 (by unfold P2; decide), o1 120 (by decide) (by decide)]; exact z7
/-! ===== long bits ===== -/
theorem qb_ext {x y : Int64} (h : ∀ i, i < 64 → qb x i = qb y i) : x = y := Int64.toBitVec_inj.mp (BitVec.eq_of_getLsbD_eq (fun i hi => h i hi))
theorem qb_or (x y : Int64) (i : Nat) : qb (x ||| y) i = (qb x i || qb y i) := by unfold qb; rw [Int64.toBitVec_or, BitVec.getLsbD_or]
theorem qb_and (x y : Int64) (i : Nat) : qb (x &&& y) i = (qb x i && qb y i) := by unfold qb; rw [Int64.toBitVec_and, BitVec.getLsbD_and]
theorem qb_xor (x y : Int64) (i : Nat) : qb (x ^^^ y) i = (qb x i ^^ qb y i) := by unfold qb; rw [Int64.toBitVec_xor, BitVec.getLsbD_xor]
theorem qb_m1 : ∀ i, i < 64 → qb (-1) i = true := by decide +kernel
theorem qb_0 (i : Nat) : qb 0 i = false := BitVec.getLsbD_zero
theorem qb_big {x : Int64} {i : Nat} (h : 64 ≤ i) : qb x i = false := BitVec.getLsbD_of_ge _ _ h
theorem qb_not (x : Int64) {i : Nat} (hi : i < 64) : qb (x ^^^ (-1 : Int64)) i = !qb x i := by
  rw [qb_xor, qb_m1 i hi]; simp
theorem qsl_k : ∀ v, v < 6 → ((((((1 : Int32) <<< (nI v &&& 31))).toInt64 &&& 63)).toBitVec.smod 64).toNat = 2 ^ v := by decide +kernel
theorem qsr_k : ∀ v, v < 6 → ((((((1 : Int32) <<< (nI v &&& 31))).toInt64.toUInt64 &&& Int64.toUInt64 63)).toBitVec % 64).toNat = 2 ^ v := by decide +kernel
theorem qb_shl {v : Nat} (hv : v < 6) (x : Int64) {i : Nat} (hi : i < 64) : qb (x <<< ((((1 : Int32) <<< (nI v &&& 31))).toInt64 &&& 63)) i = (decide (2 ^ v ≤ i) && qb x (i - 2 ^ v)) := by
  unfold qb
  rw [Int64.toBitVec_shiftLeft]
  show (x.toBitVec <<< ((((((1 : Int32) <<< (nI v &&& 31))).toInt64 &&& 63)).toBitVec.smod 64).toNat).getLsbD i = _
  rw [qsl_k v hv, BitVec.getLsbD_shiftLeft]
  rcases Nat.lt_or_ge i (2 ^ v) with h | h
  · simp [h, Nat.not_le.mpr h]
  · simp [hi, h, Nat.not_lt.mpr h]
theorem qb_ushr {v : Nat} (hv : v < 6) (x : Int64) (i : Nat) : qb ((x.toUInt64 >>> ((((1 : Int32) <<< (nI v &&& 31))).toInt64.toUInt64 &&& Int64.toUInt64 63)).toInt64) i = qb x (2 ^ v + i) := by
  unfold qb
  have e : (x.toUInt64 >>> ((((1 : Int32) <<< (nI v &&& 31))).toInt64.toUInt64 &&& Int64.toUInt64 63)).toInt64.toBitVec = x.toBitVec >>> ((((((1 : Int32) <<< (nI v &&& 31))).toInt64.toUInt64 &&& Int64.toUInt64 63)).toBitVec % 64).toNat := rfl
  rw [e, qsr_k v hv, BitVec.getLsbD_ushiftRight]
theorem hv_k : ∀ v, v < 6 → ∀ i, i < 64 → qb (l_HV v) i = i.testBit v := by decide +kernel
def pcw (m : Nat) : Nat := m % 2 + (m / 2 % 2 + (m / 4 % 2 + (m / 8 % 2 + (m / 16 % 2 + m / 32 % 2))))
theorem os_k : ∀ j, j < 7 → ∀ i, i < 64 → qb (l_OS j) i = decide (pcw i = j) := by decide +kernel
theorem pcw_6 : ∀ i, i < 64 → pcw i ≤ 6 := by decide +kernel
theorem ix_k : ∀ v, v < 6 → ∀ i, i < 64 → (if i.testBit v then decide (2 ^ v ≤ i) && (!(i - 2 ^ v).testBit v && (decide (i - 2 ^ v = i ^^^ 2 ^ v) && (decide (64 ≤ 2 ^ v + i) || !(2 ^ v + i).testBit v))) else (decide (2 ^ v + i = i ^^^ 2 ^ v) && (decide (2 ^ v + i < 64) && ((2 ^ v + i).testBit v && (decide (i < 2 ^ v) || (i - 2 ^ v).testBit v))))) = true := by decide +kernel
/-- a node that is let in, within a word -/
def stw (v : Nat) (x : Int64) : Int64 := x ||| ((x &&& (l_HV v ^^^ (-1 : Int64))) <<< ((((1 : Int32) <<< (nI v &&& 31))).toInt64 &&& 63))
theorem stw_b {v : Nat} (hv : v < 6) (x : Int64) {i : Nat} (hi : i < 64) : qb (stw v x) i = (qb x i || (i.testBit v && qb x (i ^^^ 2 ^ v))) := by
  have k := ix_k v hv i hi
  have p0 := Nat.two_pow_pos v
  unfold stw
  rw [qb_or, qb_shl hv _ hi]
  cases h : i.testBit v
  · rw [h] at k
    simp only [Bool.false_eq_true, if_false, Bool.and_eq_true, decide_eq_true_eq, Bool.or_eq_true] at k
    rcases Nat.lt_or_ge i (2 ^ v) with c | c
    · rw [decide_eq_false (show ¬ 2 ^ v ≤ i by omega)]; simp
    · rw [qb_and, qb_not _ (show i - 2 ^ v < 64 by omega), hv_k v hv _ (show i - 2 ^ v < 64 by omega), k.2.2.2.resolve_left (by omega)]; simp
  · rw [h] at k
    simp only [if_true, Bool.and_eq_true, decide_eq_true_eq, Bool.not_eq_true'] at k
    rw [qb_and, qb_not _ (show i - 2 ^ v < 64 by omega), hv_k v hv _ (show i - 2 ^ v < 64 by omega), k.2.1, k.2.2.1, decide_eq_true k.1]; simp
/-- a node's sets change places, within a word -/
def sww (v : Nat) (x : Int64) : Int64 := (((x &&& l_HV v).toUInt64 >>> ((((1 : Int32) <<< (nI v &&& 31))).toInt64.toUInt64 &&& Int64.toUInt64 63)).toInt64) ||| ((x &&& (l_HV v ^^^ (-1 : Int64))) <<< ((((1 : Int32) <<< (nI v &&& 31))).toInt64 &&& 63))
theorem sww_b {v : Nat} (hv : v < 6) (x : Int64) {i : Nat} (hi : i < 64) : qb (sww v x) i = qb x (i ^^^ 2 ^ v) := by
  have k := ix_k v hv i hi
  have p0 := Nat.two_pow_pos v
  unfold sww
  rw [qb_or, qb_ushr hv, qb_shl hv _ hi, qb_and]
  cases h : i.testBit v
  · rw [h] at k
    simp only [Bool.false_eq_true, if_false, Bool.and_eq_true, decide_eq_true_eq, Bool.or_eq_true] at k
    rw [hv_k v hv _ k.2.1, k.2.2.1, k.1, Bool.and_true]
    rcases Nat.lt_or_ge i (2 ^ v) with c | c
    · rw [decide_eq_false (show ¬ 2 ^ v ≤ i by omega)]; simp
    · rw [qb_and, qb_not _ (show i - 2 ^ v < 64 by omega), hv_k v hv _ (show i - 2 ^ v < 64 by omega), k.2.2.2.resolve_left (by omega)]; simp
  · rw [h] at k
    simp only [if_true, Bool.and_eq_true, decide_eq_true_eq, Bool.not_eq_true', Bool.or_eq_true] at k
    have z : (qb x (2 ^ v + i) && qb (l_HV v) (2 ^ v + i)) = false := by
      rcases k.2.2.2 with c | c
      · rw [qb_big (x := x) c, Bool.false_and]
      · rcases Nat.lt_or_ge (2 ^ v + i) 64 with d | d
        · rw [hv_k v hv _ d, c, Bool.and_false]
        · rw [qb_big (x := x) d, Bool.false_and]
    rw [z, qb_and, qb_not _ (show i - 2 ^ v < 64 by omega), hv_k v hv _ (show i - 2 ^ v < 64 by omega), k.2.1, k.2.2.1, decide_eq_true k.1]; simp
/-! ===== families of sets ===== -/
/-- with node v let in -/
def stp (v : Nat) (F : Nat → Bool) (X : Nat) : Bool := F X || (X.testBit v && F (X ^^^ 2 ^ v))
def upF (F : Nat → Bool) : Nat → Nat → Bool
  | 0 => F
  | v + 1 => stp v (upF F v)
theorem d64 (X i : Nat) : (X / 64).testBit i = X.testBit (6 + i) := by
  rw [show 64 = 2 ^ 6 from rfl, ← Nat.shiftRight_eq_div_pow, Nat.testBit_shiftRight]
theorem m64 (X i : Nat) : (X % 64).testBit i = (decide (i < 6) && X.testBit i) := by
  rw [show 64 = 2 ^ 6 from rfl, Nat.testBit_mod_two_pow]
theorem x_lo (X : Nat) {v : Nat} (hv : v < 6) : (X ^^^ 2 ^ v) / 64 = X / 64 ∧ (X ^^^ 2 ^ v) % 64 = (X % 64) ^^^ 2 ^ v := by
  constructor
  · apply Nat.eq_of_testBit_eq
    intro i
    rw [d64, d64, Nat.testBit_xor, Nat.testBit_two_pow, decide_eq_false (show ¬ v = 6 + i by omega), Bool.xor_false]
  · apply Nat.eq_of_testBit_eq
    intro i
    rw [m64, Nat.testBit_xor, Nat.testBit_xor, m64, Nat.testBit_two_pow]
    by_cases c : i < 6
    · rw [decide_eq_true c, Bool.true_and, Bool.true_and]
    · rw [decide_eq_false c, Bool.false_and, Bool.false_and, decide_eq_false (show ¬ v = i by omega)]; rfl
theorem x_hi (X e : Nat) : (X ^^^ 2 ^ (6 + e)) / 64 = (X / 64) ^^^ 2 ^ e ∧ (X ^^^ 2 ^ (6 + e)) % 64 = X % 64 := by
  constructor
  · apply Nat.eq_of_testBit_eq
    intro i
    rw [d64, Nat.testBit_xor, Nat.testBit_xor, d64, Nat.testBit_two_pow, Nat.testBit_two_pow]
    congr 1
    by_cases c : e = i
    · rw [decide_eq_true c, decide_eq_true (show 6 + e = 6 + i by omega)]
    · rw [decide_eq_false c, decide_eq_false (show ¬ 6 + e = 6 + i by omega)]
  · apply Nat.eq_of_testBit_eq
    intro i
    rw [m64, m64, Nat.testBit_xor, Nat.testBit_two_pow]
    by_cases c : i < 6
    · rw [decide_eq_false (show ¬ 6 + e = i by omega), Bool.xor_false]
    · rw [decide_eq_false c, Bool.false_and, Bool.false_and]
theorem fb_lo {v : Nat} (hv : v < 6) (W : Nat → Int64) (X : Nat) : fb (fun w => stw v (W w)) X = stp v (fb W) X := by
  have x := x_lo X hv
  unfold stp fb
  rw [stw_b hv _ (Nat.mod_lt _ (by decide)), x.1, x.2, m64, decide_eq_true hv, Bool.true_and]
theorem fb_hi (e : Nat) (W : Nat → Int64) (X : Nat) : fb (fun w => if w.testBit e = true then W w ||| W (w ^^^ 2 ^ e) else W w) X = stp (6 + e) (fb W) X := by
  have x := x_hi X e
  unfold stp fb
  show qb (if (X / 64).testBit e = true then W (X / 64) ||| W (X / 64 ^^^ 2 ^ e) else W (X / 64)) (X % 64) = _
  rw [x.1, x.2, d64]
  by_cases c : X.testBit (6 + e) = true
  · rw [if_pos c, qb_or, c, Bool.true_and]
  · rw [if_neg c]
    cases h : X.testBit (6 + e)
    · rw [Bool.false_and, Bool.or_false]
    · exact absurd h c
theorem upF_iff (F : Nat → Bool) : ∀ (v X : Nat), upF F v X = true ↔ ∃ Y, F Y = true ∧ (∀ i, v ≤ i → Y.testBit i = X.testBit i) ∧ ∀ i, Y.testBit i = true → X.testBit i = true := by
  intro v
  induction v with
  | zero =>
    intro X
    constructor
    · intro h; exact ⟨X, h, fun _ _ => rfl, fun _ h => h⟩
    · rintro ⟨Y, h1, h2, _⟩
      rw [← Nat.eq_of_testBit_eq (fun i => h2 i (Nat.zero_le _))]
      exact h1
  | succ v ih =>
    intro X
    show stp v (upF F v) X = true ↔ _
    unfold stp
    rw [Bool.or_eq_true, Bool.and_eq_true, ih X, ih (X ^^^ 2 ^ v)]
    have tb : ∀ i, (X ^^^ 2 ^ v).testBit i = (X.testBit i ^^ decide (v = i)) := fun i => by rw [Nat.testBit_xor, Nat.testBit_two_pow]
    constructor
    · rintro (⟨Y, h1, h2, h3⟩ | ⟨h0, Y, h1, h2, h3⟩)
      · exact ⟨Y, h1, fun i hi => h2 i (by omega), h3⟩
      · refine ⟨Y, h1, fun i hi => ?_, fun i hi => ?_⟩
        · rw [h2 i (by omega), tb, decide_eq_false (show ¬ v = i by omega), Bool.xor_false]
        · have := h3 i hi
          rw [tb] at this
          by_cases c : v = i
          · rw [← c]; exact h0
          · rw [decide_eq_false c, Bool.xor_false] at this; exact this
    · rintro ⟨Y, h1, h2, h3⟩
      by_cases c : Y.testBit v = X.testBit v
      · refine Or.inl ⟨Y, h1, fun i hi => ?_, h3⟩
        by_cases e : i = v
        · rw [e]; exact c
        · exact h2 i (by omega)
      · have yv : Y.testBit v = false := by
          cases hy : Y.testBit v
          · rfl
          · exact absurd (hy.trans (h3 v hy).symm) c
        have xv : X.testBit v = true := by
          cases hx : X.testBit v
          · exact absurd (yv.trans hx.symm) c
          · rfl
        refine Or.inr ⟨xv, Y, h1, fun i hi => ?_, fun i hi => ?_⟩
        · rw [tb]
          by_cases e : v = i
          · rw [decide_eq_true e, ← e, xv, yv]; rfl
          · rw [decide_eq_false e, Bool.xor_false]; exact h2 i (by omega)
        · have ne : ¬ v = i := fun e => by rw [← e, yv] at hi; cases hi
          rw [tb, decide_eq_false ne, Bool.xor_false]
          exact h3 i hi
/-! ===== the class's rows of bits: what is greater ===== -/
def FLq (q : Nat) (M M' : Mem) : Prop := M'.1 = M.1 ∧ (∀ o b, mI M' o b = mI M o b) ∧ ∀ o, o ≠ q → ∀ b, mL M' o b = mL M o b
theorem FLq.rf (q : Nat) (M : Mem) : FLq q M M := ⟨rfl, fun _ _ => rfl, fun _ _ _ => rfl⟩
theorem FLq.tr {q : Nat} {M M' M'' : Mem} (h : FLq q M M') (h' : FLq q M' M'') : FLq q M M'' := ⟨h'.1.trans h.1, fun o b => (h'.2.1 o b).trans (h.2.1 o b), fun o n b => (h'.2.2 o n b).trans (h.2.2 o n b)⟩
theorem FLq.s (q : Nat) (M : Mem) (k : Nat) (x : Int64) : FLq q M (sL M q k x) := ⟨rfl, fun _ _ => rfl, fun o n b => mL_o M q k x (fun z => n z.1)⟩
theorem FLq.lg {q : Nat} {M M' : Mem} (h : FLq q M M') : FrLg M M' := ⟨h.1, h.2.1⟩
theorem mL_c {M : Mem} {o k : Nat} (h : k < 10465) : mL M o (nI k).toNatClampNeg = mL M o k := by rw [nI_clamp (by omega)]
theorem sL_c {M : Mem} {o k : Nat} {x : Int64} (h : k < 10465) : sL M o (nI k).toNatClampNeg x = sL M o k x := by rw [nI_clamp (by omega)]
/-- the words of a row are T -/
def Wd (M : Mem) (q us : Nat) (T : Nat → Int64) : Prop := ∀ w, w < us → mL M q w = T w
theorem tb_and (j e : Nat) : j &&& 2 ^ e = 0 ↔ j.testBit e = false := by
  constructor
  · intro h
    have := Nat.testBit_and j (2 ^ e) e
    rw [h, Nat.zero_testBit, Nat.testBit_two_pow, decide_eq_true (Eq.refl e), Bool.and_true] at this
    exact this.symm
  · intro h
    apply Nat.eq_of_testBit_eq
    intro i
    rw [Nat.testBit_and, Nat.testBit_two_pow, Nat.zero_testBit]
    by_cases c : e = i
    · rw [← c, h, Bool.false_and]
    · rw [decide_eq_false c, Bool.and_false]
section
variable {o q N : Nat}
theorem ag18v (h16 : N ≤ 16) {K : Nat → Int32 → Mem → Option Mem} {i : Nat} (hi : i < 6) (T : Nat → Int64) : ∀ (d j n : Nat) (M : Mem), j + d = us6 N → F1 M o q N → Wd M q (us6 N) (fun w => if w < j then stw i (T w) else T w) → d + 1 ≤ n → ∃ M', f_X1_addGreater_18 K n o (nI i) (nI j) M = K o (nI (i + 1)) M' ∧ FLq q M M' ∧ Wd M' q (us6 N) (fun w => stw i (T w)) := by
  have u := us_b h16
  intro d
  induction d with
  | zero =>
    intro j n M hj f hT hn
    obtain ⟨n, rfl⟩ : ∃ m, n = m + 1 := ⟨n - 1, by omega⟩
    exact ⟨M, by rw [f_X1_addGreater_18, chk_t f.1.1, f.2.2, if_pos (nI_le (by omega) (by omega)), bnd_e, nI_1], FLq.rf q M, fun w hw => by rw [hT w hw]; exact if_pos (by omega)⟩
  | succ d ih =>
    intro j n M hj f hT hn
    obtain ⟨n, rfl⟩ : ∃ m, n = m + 1 := ⟨n - 1, by omega⟩
    have ib : inB (nI j) (mLn M q) := by rw [f.1.2.2.2]; exact inB_n (by omega) (by decide)
    have e0 : mL M q j = T j := (hT j (by omega)).trans (if_neg (by omega))
    have fl := FLq.s q M j (stw i (T j))
    obtain ⟨M', e', f', w'⟩ := ih (j + 1) n (sL M q j (stw i (T j))) (by omega) (f.l fl.lg) (fun w hw => by
      by_cases c : w = j
      · rw [c, mL_s]; exact (if_pos (by omega)).symm
      · rw [mL_o M q j _ (fun z => c z.2), hT w hw]
        show (if w < j then stw i (T w) else T w) = (if w < j + 1 then stw i (T w) else T w)
        by_cases d : w < j
        · rw [if_pos d, if_pos (by omega)]
        · rw [if_neg d, if_neg (by omega)]) (by omega)
    refine ⟨M', ?_, fl.tr f', w'⟩
    rw [f_X1_addGreater_18, chk_t f.1.1, f.2.2, if_neg (nI_ge (by omega) (by omega)), f.1.2.1, bnd_e, chk_t f.1.2.2.1, chk_t ib, bnd_e, chk_t f.1.2.2.1, chk_t ib, chk_t (inB_n (show i < 6 from hi) (by decide)), chk_t ib, bnd_e, bnd_e, nI_1, mL_c (by omega), sL_c (by omega), nI_clamp (show i < 2 ^ 31 by omega), e0]
    exact e'
theorem ag79v (h16 : N ≤ 16) {K : Nat → Int32 → Mem → Option Mem} {e k : Nat} (hk : us6 N = 2 ^ k) (hp : 2 ^ e < us6 N) (T : Nat → Int64) : ∀ (d j n : Nat) (M : Mem), j + d = us6 N → F1 M o q N → Wd M q (us6 N) (fun w => if w < j ∧ w.testBit e = true then T w ||| T (w ^^^ 2 ^ e) else T w) → d + 1 ≤ n → ∃ M', f_X1_addGreater_79 K n o (nI (2 ^ e)) (nI j) M = K o (nI (2 ^ (e + 1))) M' ∧ FLq q M M' ∧ Wd M' q (us6 N) (fun w => if w.testBit e = true then T w ||| T (w ^^^ 2 ^ e) else T w) := by
  have u := us_b h16
  intro d
  induction d with
  | zero =>
    intro j n M hj f hT hn
    obtain ⟨n, rfl⟩ : ∃ m, n = m + 1 := ⟨n - 1, by omega⟩
    refine ⟨M, by rw [f_X1_addGreater_79, chk_t f.1.1, f.2.2, if_pos (nI_le (by omega) (by omega)), bnd_e, show (2 : Int32) = nI 2 from rfl, pk_mul, Nat.pow_succ], FLq.rf q M, fun w hw => ?_⟩
    rw [hT w hw]
    show (if w < j ∧ w.testBit e = true then _ else _) = if w.testBit e = true then _ else _
    by_cases c : w.testBit e = true
    · rw [if_pos ⟨by omega, c⟩, if_pos c]
    · rw [if_neg (fun z => c z.2), if_neg c]
  | succ d ih =>
    intro j n M hj f hT hn
    obtain ⟨n, rfl⟩ : ∃ m, n = m + 1 := ⟨n - 1, by omega⟩
    have e0 : mL M q j = T j := (hT j (by omega)).trans (if_neg (by omega))
    rw [f_X1_addGreater_79, chk_t f.1.1, f.2.2, if_neg (nI_ge (by omega) (by omega)), nx_and]
    cases hb : j.testBit e
    · have z : nI (j &&& 2 ^ e) = 0 := by rw [(tb_and j e).mpr hb]; rfl
      rw [if_pos z, bnd_e, nI_1]
      exact ih (j + 1) n M (by omega) f (fun w hw => by
        rw [hT w hw]
        show (if w < j ∧ w.testBit e = true then _ else _) = if w < j + 1 ∧ w.testBit e = true then _ else _
        by_cases c : w.testBit e = true
        · have : w ≠ j := fun z => by rw [z, hb] at c; cases c
          by_cases d : w < j
          · rw [if_pos ⟨d, c⟩, if_pos ⟨by omega, c⟩]
          · rw [if_neg (fun z => d z.1), if_neg (fun z => by have := z.1; omega)]
        · rw [if_neg (fun z => c z.2), if_neg (fun z => c z.2)]) (by omega)
    · have ib : inB (nI j) (mLn M q) := by rw [f.1.2.2.2]; exact inB_n (by omega) (by decide)
      have hx : j ^^^ 2 ^ e < 2 ^ k := Nat.xor_lt_two_pow (by omega) (by omega)
      have ix : inB (nI (j ^^^ 2 ^ e)) (mLn M q) := by rw [f.1.2.2.2]; exact inB_n (by omega) (by decide)
      have lt : j &&& 2 ^ e ≤ j := Nat.and_le_left
      have z : ¬ nI (j &&& 2 ^ e) = 0 := fun z => by
        have := (nI_z (by omega)).mp z
        rw [(tb_and j e)] at this
        rw [hb] at this; cases this
      have ex : mL M q (j ^^^ 2 ^ e) = T (j ^^^ 2 ^ e) := by
        rw [hT _ (by omega)]
        have xb : (j ^^^ 2 ^ e).testBit e = false := by
          rw [Nat.testBit_xor, Nat.testBit_two_pow, hb, decide_eq_true (Eq.refl e)]; rfl
        exact if_neg (fun z => by rw [xb] at z; cases z.2)
      have fl := FLq.s q M j (T j ||| T (j ^^^ 2 ^ e))
      obtain ⟨M', e', f', w'⟩ := ih (j + 1) n (sL M q j (T j ||| T (j ^^^ 2 ^ e))) (by omega) (f.l fl.lg) (fun w hw => by
        by_cases c : w = j
        · rw [c, mL_s]; exact (if_pos ⟨by omega, hb⟩).symm
        · rw [mL_o M q j _ (fun z => c z.2), hT w hw]
          show (if w < j ∧ w.testBit e = true then _ else _) = if w < j + 1 ∧ w.testBit e = true then _ else _
          by_cases d : w < j ∧ w.testBit e = true
          · rw [if_pos d, if_pos ⟨by omega, d.2⟩]
          · rw [if_neg d, if_neg (fun z => d ⟨by omega, z.2⟩)]) (by omega)
      refine ⟨M', ?_, fl.tr f', w'⟩
      rw [if_neg z, f.1.2.1, bnd_e, chk_t f.1.2.2.1, chk_t ib, bnd_e, chk_t f.1.2.2.1, nx_xor, chk_t ix, chk_t ib, bnd_e, bnd_e, nI_1, mL_c (by omega), mL_c (by omega), sL_c (by omega), e0, ex]
      exact e'
theorem ag69v (h16 : N ≤ 16) {k : Nat} (hk : us6 N = 2 ^ k) (F : Nat → Bool) : ∀ (d e n : Nat) (M : Mem) (T : Nat → Int64), e + d = k → F1 M o q N → Wd M q (us6 N) T → (∀ X, X < 64 * us6 N → fb T X = upF F (6 + e) X) → d + 1030 ≤ n → ∃ M' T', f_X1_addGreater_69 n o (nI (2 ^ e)) M = some M' ∧ FLq q M M' ∧ Wd M' q (us6 N) T' ∧ ∀ X, X < 64 * us6 N → fb T' X = upF F (6 + k) X := by
  have u := us_b h16
  intro d
  induction d with
  | zero =>
    intro e n M T he f hT hF hn
    obtain ⟨n, rfl⟩ : ∃ m, n = m + 1 := ⟨n - 1, by omega⟩
    obtain rfl : e = k := by omega
    exact ⟨M, T, by rw [f_X1_addGreater_69, chk_t f.1.1, f.2.2, hk, if_pos (Int32.le_refl _)], FLq.rf q M, hT, hF⟩
  | succ d ih =>
    intro e n M T he f hT hF hn
    obtain ⟨n, rfl⟩ : ∃ m, n = m + 1 := ⟨n - 1, by omega⟩
    have hp : 2 ^ e < us6 N := by rw [hk]; exact Nat.pow_lt_pow_right (by decide) (by omega)
    obtain ⟨M1, e1, f1, w1⟩ := ag79v (K := f_X1_addGreater_69 n) h16 hk hp T (us6 N) 0 n M (by omega) f (fun w hw => by
      rw [hT w hw]; exact (if_neg (fun z => by have := z.1; omega)).symm) (by omega)
    obtain ⟨M', T', e', f', w', h'⟩ := ih (e + 1) n M1 _ (by omega) (f.l f1.lg) w1 (fun X hX => by
      rw [fb_hi e T X]
      show stp (6 + e) (fb T) X = stp (6 + e) (upF F (6 + e)) X
      unfold stp
      rw [hF X hX]
      have hx : X ^^^ 2 ^ (6 + e) < 64 * us6 N := by
        have e6 : 64 * us6 N = 2 ^ (6 + k) := by rw [hk, Nat.pow_add]
        rw [e6] at hX ⊢
        exact Nat.xor_lt_two_pow hX (Nat.pow_lt_pow_right (by decide) (by omega))
      rw [hF _ hx]) (by omega)
    refine ⟨M', T', ?_, f1.tr f', w', h'⟩
    rw [f_X1_addGreater_69, chk_t f.1.1, f.2.2, if_neg (nI_ge hp (by omega))]
    exact e1.trans e'
theorem ag2v (h16 : N ≤ 16) {k : Nat} (hk : us6 N = 2 ^ k) (F : Nat → Bool) : ∀ (d i n : Nat) (M : Mem) (T : Nat → Int64), i + d = 6 → i ≤ N → F1 M o q N → Wd M q (us6 N) T → (∀ X, X < 64 * us6 N → fb T X = upF F i X) → d + 1050 ≤ n → ∃ M' T', f_X1_addGreater_2 n o (nI i) M = some M' ∧ FLq q M M' ∧ Wd M' q (us6 N) T' ∧ ∀ X, X < 64 * us6 N → fb T' X = upF F N X := by
  have u := us_b h16
  have u6 : (N ≤ 6 ∧ us6 N = 1) ∨ (6 < N ∧ us6 N = 2 ^ (N - 6)) := by
    unfold us6
    by_cases c : 6 < N
    · exact Or.inr ⟨c, if_pos c⟩
    · exact Or.inl ⟨by omega, if_neg c⟩
  intro d
  induction d with
  | zero =>
    intro i n M T hi hiN f hT hF hn
    obtain ⟨n, rfl⟩ : ∃ m, n = m + 1 := ⟨n - 1, by omega⟩
    obtain rfl : i = 6 := by omega
    have eN : N = 6 + (N - 6) := by omega
    have hk' : us6 N = 2 ^ (N - 6) := by
      rcases u6 with ⟨a, b⟩ | ⟨a, b⟩
      · rw [b, show N - 6 = 0 by omega]
      · exact b
    obtain ⟨M', T', e', f', w', h'⟩ := ag69v h16 hk' F (N - 6) 0 n M T (by omega) f hT hF (by omega)
    refine ⟨M', T', ?_, f', w', fun X hX => by rw [h' X hX, ← eN]⟩
    rw [f_X1_addGreater_2, if_pos (show (6 : Int32) ≤ nI 6 from Int32.le_refl _)]
    exact e'
  | succ d ih =>
    intro i n M T hi hiN f hT hF hn
    obtain ⟨n, rfl⟩ : ∃ m, n = m + 1 := ⟨n - 1, by omega⟩
    rw [f_X1_addGreater_2, if_neg (show ¬ (6 : Int32) ≤ nI i from nI_ge (b := 6) (by omega) (by decide)), chk_t f.1.1, f.2.1]
    by_cases c : N ≤ i
    · obtain rfl : i = N := by omega
      have us1 : us6 i = 1 := by
        rcases u6 with ⟨a, b⟩ | ⟨a, b⟩
        · exact b
        · omega
      refine ⟨M, T, ?_, FLq.rf q M, hT, hF⟩
      rw [if_pos (nI_le c (by omega))]
      obtain ⟨n, rfl⟩ : ∃ m, n = m + 1 := ⟨n - 1, by omega⟩
      rw [f_X1_addGreater_69, chk_t f.1.1, f.2.2, us1, if_pos (show nI 1 ≤ (1 : Int32) from Int32.le_refl _)]
    · rw [if_neg (nI_ge (by omega) (by omega))]
      obtain ⟨M1, e1, f1, w1⟩ := ag18v (K := f_X1_addGreater_2 n) h16 (i := i) (by omega) T (us6 N) 0 n M (by omega) f (fun w hw => by rw [hT w hw]; exact (if_neg (by omega)).symm) (by omega)
      obtain ⟨M', T', e', f', w', h'⟩ := ih (i + 1) n M1 _ (by omega) (by omega) (f.l f1.lg) w1 (fun X hX => by
        rw [fb_lo (by omega) T X]
        show stp i (fb T) X = stp i (upF F i) X
        unfold stp
        have hx : X ^^^ 2 ^ i < 64 * us6 N := by
          have e6 : 64 * us6 N = 2 ^ (6 + k) := by rw [hk, Nat.pow_add]
          rw [e6] at hX ⊢
          exact Nat.xor_lt_two_pow hX (Nat.pow_lt_pow_right (by decide) (by omega))
        rw [hF X hX, hF _ hx]) (by omega)
      exact ⟨M', T', e1.trans e', f1.tr f', w', h'⟩
theorem F1.agv {M : Mem} (f : F1 M o q N) (h16 : N ≤ 16) {F : Nat → Bool} (hF : ∀ X, X < 64 * us6 N → fb (mL M q) X = F X) {n : Nat} (hn : 1100 ≤ n) : ∃ M', f_X1_addGreater n o M = some M' ∧ FLq q M M' ∧ ∀ X, X < 64 * us6 N → fb (mL M' q) X = upF F N X := by
  obtain ⟨k, _, hk⟩ := us_p h16
  obtain ⟨M', T', e, f', w', h'⟩ := ag2v h16 hk F 6 0 n M (mL M q) rfl (Nat.zero_le _) f (fun _ _ => rfl) hF (by omega)
  refine ⟨M', e, f', fun X hX => ?_⟩
  rw [← h' X hX]
  unfold fb
  rw [w' _ (by omega)]
end
/-! ===== what is none of the family's, of the rest ===== -/
theorem sva_k : ∀ N, N < 6 → ∀ i, i < 64 → qb (((1 : Int64) <<< ((((1 : Int32) <<< (nI N &&& 31))).toInt64 &&& 63)) - (1 : Int64)) i = decide (i < 2 ^ N) := by decide +kernel
/-- a word's places, the first v nodes turned round -/
def rv (v i : Nat) : Nat := i ^^^ (2 ^ v - 1)
theorem rv_lt {v i : Nat} (hv : v ≤ 6) (hi : i < 64) : rv v i < 64 := by
  have h1 : 2 ^ v ≤ 2 ^ 6 := Nat.pow_le_pow_right (by decide) hv
  have h2 : 0 < 2 ^ v := Nat.two_pow_pos v
  exact Nat.xor_lt_two_pow (n := 6) hi (by omega)
theorem rv_s : ∀ v, v < 6 → ∀ i, i < 64 → rv v (i ^^^ 2 ^ v) = rv (v + 1) i := by decide +kernel
theorem rv_x : ∀ v, v < 6 → ∀ i, i < 64 → i ^^^ 2 ^ v < 64 := by decide +kernel
theorem rv_6 : ∀ i, i < 64 → rv 6 i = 63 - i := by decide +kernel
theorem rv_N : ∀ N, N < 6 → ∀ i, i < 64 → i < 2 ^ N → rv N i = 2 ^ N - 1 - i := by decide +kernel
theorem us_64 {N : Nat} (h : 6 ≤ N) : 64 * us6 N = 2 ^ N := by
  unfold us6
  by_cases c : 6 < N
  · rw [if_pos c, show (64 : Nat) = 2 ^ 6 from rfl, ← Nat.pow_add, show 6 + (N - 6) = N by omega]
  · rw [if_neg c, show N = 6 by omega]
theorem us_1 {N : Nat} (h : N ≤ 6) : us6 N = 1 := by
  unfold us6
  exact if_neg (by omega)
section
variable {M : Mem} {o q N : Nat}
theorem wr71v (f : F1 M o q N) (h16 : N ≤ 16) (n : Nat) (x : Int64) : ∃ r, f_X1_withoutRest_71 M n o x = some r ∧ ∀ i, i < 64 → qb r i = (decide (6 ≤ N ∨ i < 2 ^ N) && !qb x i) := by
  rw [f_X1_withoutRest_71, chk_t f.1.1, f.2.1]
  by_cases c : 6 ≤ N
  · refine ⟨_, if_pos (show (6 : Int32) ≤ nI N from nI_le (a := 6) c (by omega)), fun i hi => ?_⟩
    rw [qb_and, qb_not _ hi, qb_m1 i hi, decide_eq_true (Or.inl c)]
  · refine ⟨_, by rw [if_neg (show ¬ (6 : Int32) ≤ nI N from nI_ge (b := 6) (by omega) (by decide)), bnd_e], fun i hi => ?_⟩
    rw [qb_and, qb_not _ hi, sva_k N (by omega) i hi]
    congr 1
    by_cases d : i < 2 ^ N
    · rw [decide_eq_true d, decide_eq_true (Or.inr d)]
    · rw [decide_eq_false d, decide_eq_false (fun z => z.elim c d)]
theorem wr17v (f : F1 M o q N) (h16 : N ≤ 16) (x0 : Int64) : ∀ (d i n : Nat) (x : Int64), i + d = 6 → i ≤ N → (∀ j, j < 64 → qb x j = qb x0 (rv i j)) → d + 1 ≤ n → ∃ r, f_X1_withoutRest_17 M n o x (nI i) = some r ∧ ∀ j, j < 64 → qb r j = (decide (6 ≤ N ∨ j < 2 ^ N) && !qb x0 (rv (min 6 N) j)) := by
  intro d
  induction d with
  | zero =>
    intro i n x hi hN hx hn
    obtain ⟨n, rfl⟩ : ∃ m, n = m + 1 := ⟨n - 1, by omega⟩
    obtain ⟨r, e, h⟩ := wr71v f h16 n x
    refine ⟨r, by rw [f_X1_withoutRest_17, if_pos (show (6 : Int32) ≤ nI i from nI_le (a := 6) (by omega) (by omega))]; exact e, fun j hj => ?_⟩
    rw [h j hj, hx j hj, show min 6 N = i by omega]
  | succ d ih =>
    intro i n x hi hN hx hn
    obtain ⟨n, rfl⟩ : ∃ m, n = m + 1 := ⟨n - 1, by omega⟩
    rw [f_X1_withoutRest_17, if_neg (show ¬ (6 : Int32) ≤ nI i from nI_ge (b := 6) (by omega) (by decide)), chk_t f.1.1, f.2.1]
    by_cases c : N ≤ i
    · obtain ⟨r, e, h⟩ := wr71v f h16 n x
      refine ⟨r, by rw [if_pos (nI_le c (by omega))]; exact e, fun j hj => ?_⟩
      rw [h j hj, hx j hj, show min 6 N = i by omega]
    · rw [if_neg (nI_ge (by omega) (by omega)), chk_t (inB_n (show i < 6 by omega) (by decide)), chk_t (inB_n (show i < 6 by omega) (by decide)), bnd_e, bnd_e, nI_1, nI_clamp (show i < 2 ^ 31 by omega)]
      exact ih (i + 1) n (sww i x) (by omega) (by omega) (fun j hj => by rw [sww_b (by omega) x hj, hx _ (rv_x i (by omega) j hj), rv_s i (by omega) j hj]) (by omega)
theorem F1.wrv (f : F1 M o q N) (h16 : N ≤ 16) {k n : Nat} (hk : k < us6 N) (hn : 10 ≤ n) : ∃ r, f_X1_withoutRest n o (nI k) M = some r ∧ ∀ i, i < 64 → qb r i = (decide (64 * k + i < 2 ^ N) && !fb (mL M q) (2 ^ N - 1 - (64 * k + i))) := by
  have u := us_b h16
  obtain ⟨r, e, h⟩ := wr17v f h16 (mL M q (us6 N - 1 - k)) 6 0 n (mL M q (us6 N - 1 - k)) rfl (Nat.zero_le _) (fun j _ => by unfold rv; simp) (by omega)
  refine ⟨r, ?_, fun i hi => ?_⟩
  · rw [f_X1_withoutRest, chk_t f.1.1, f.1.2.1, bnd_e, chk_t f.1.2.2.1, f.2.2, nI_m1' u.1, nI_sb (by omega), f.1.2.2.2, chk_t (inB_n (by omega) (by decide)), mL_c (by omega), bnd_e]
    exact e
  · rw [h i hi]
    by_cases c : 6 ≤ N
    · have e6 := us_64 c
      have lt : 64 * k + i < 2 ^ N := by omega
      have h1 : (2 ^ N - 1 - (64 * k + i)) / 64 = us6 N - 1 - k := by omega
      have h2 : (2 ^ N - 1 - (64 * k + i)) % 64 = 63 - i := by omega
      rw [decide_eq_true (Or.inl c), decide_eq_true lt, show min 6 N = 6 by omega, rv_6 i hi]
      unfold fb
      rw [h1, h2]
    · have e1 := us_1 (show N ≤ 6 by omega)
      have k0 : k = 0 := by omega
      have p6 : 2 ^ N ≤ 2 ^ 6 := Nat.pow_le_pow_right (by decide) (by omega)
      rw [e1, k0]
      by_cases d : i < 2 ^ N
      · rw [decide_eq_true (Or.inr d), decide_eq_true (show 64 * 0 + i < 2 ^ N by omega), show min 6 N = N by omega, rv_N N (by omega) i hi d]
        unfold fb
        rw [show (2 ^ N - 1 - (64 * 0 + i)) / 64 = 0 by omega, show (2 ^ N - 1 - (64 * 0 + i)) % 64 = 2 ^ N - 1 - i by omega]
      · rw [decide_eq_false (fun z => z.elim c d), decide_eq_false (show ¬ 64 * 0 + i < 2 ^ N by omega)]; rfl
end
/-! ===== the lowest bit ===== -/
theorem low_bk : ∀ k, k < 64 → f_J13_bitCount_95d88 (Int64.ofNat (2 ^ k) - (1 : Int64)) memE = some (nI k) := by decide +kernel
theorem qb_N (x : Int64) (i : Nat) : qb x i = x.toBitVec.toNat.testBit i := rfl
/-- the least bit of a word that isn't empty -/
theorem f_lowx {x : Int64} (h : ∃ i, i < 64 ∧ qb x i = true) (M : Mem) : ∃ k, k < 64 ∧ f_X9_lowest x M = some (nI k) ∧ qb x k = true ∧ ∀ i, i < k → qb x i = false := by
  have hm : x.toBitVec.toNat ≠ 0 := fun z => by
    obtain ⟨i, _, hb⟩ := h
    rw [qb_N, z, Nat.zero_testBit] at hb
    cases hb
  have lt : x.toBitVec.toNat < 2 ^ 64 := x.toBitVec.isLt
  obtain ⟨k, q, e⟩ := low_dec _ hm
  have hp : 0 < 2 ^ k := Nat.two_pow_pos k
  have h2 : 2 ^ k ≤ 2 ^ k * (2 * q + 1) := Nat.le_mul_of_pos_right _ (by omega)
  have hk : k < 64 := by
    apply Decidable.byContradiction
    intro c
    have h1 : 2 ^ 64 ≤ 2 ^ k := Nat.pow_le_pow_right (by decide) (by omega)
    omega
  have e2 : x &&& -x = Int64.ofNat (2 ^ k) := by
    apply Int64.toBitVec_inj.mp
    rw [Int64.toBitVec_and, Int64.toBitVec_neg, show (Int64.ofNat (2 ^ k)).toBitVec = BitVec.ofNat 64 (2 ^ k) from rfl]
    apply BitVec.eq_of_toNat_eq
    rw [BitVec.toNat_and, BitVec.toNat_neg, BitVec.toNat_ofNat, Nat.mod_eq_of_lt (show 2 ^ 64 - x.toBitVec.toNat < 2 ^ 64 by omega), Nat.mod_eq_of_lt (show 2 ^ k < 2 ^ 64 by omega), e]
    exact low_and (by omega)
  have ne : ¬ lg_cmp x (0 : Int64) = 0 := by
    intro c
    unfold lg_cmp at c
    have z : x = 0 := by
      by_cases c1 : x > 0
      · rw [if_pos c1] at c; exact absurd c (by decide)
      · by_cases c2 : x = 0
        · exact c2
        · rw [if_neg c1, if_neg c2] at c; exact absurd c (by decide)
    exact hm (by rw [z]; rfl)
  refine ⟨k, hk, ?_, ?_, fun i hi => ?_⟩
  · rw [f_X9_lowest, if_neg ne, e2, show f_J13_bitCount_95d88 (Int64.ofNat (2 ^ k) - (1 : Int64)) M = some (nI k) from low_bk k hk, obd_s]
  · rw [qb_N, e, Nat.testBit_two_pow_mul, Nat.sub_self, Nat.testBit_zero, decide_eq_true (show k ≥ k by omega), decide_eq_true (show (2 * q + 1) % 2 = 1 by omega)]
    rfl
  · rw [qb_N, e, Nat.testBit_two_pow_mul, decide_eq_false (show ¬ i ≥ k by omega), Bool.false_and]
/-- a word is empty -/
theorem lg_z (x : Int64) : lg_cmp x (0 : Int64) = 0 ↔ ∀ i, i < 64 → qb x i = false := by
  constructor
  · intro c i hi
    have z : x = 0 := by
      unfold lg_cmp at c
      by_cases c1 : x > 0
      · rw [if_pos c1] at c; exact absurd c (by decide)
      · by_cases c2 : x = 0
        · exact c2
        · rw [if_neg c1, if_neg c2] at c; exact absurd c (by decide)
    rw [z, qb_0]
  · intro h
    have z : x = 0 := qb_ext (fun i hi => by rw [h i hi, qb_0])
    rw [z]
    rfl
/-! ===== the least set that is better, the least that stops all: the class ===== -/
theorem sh_or {i k : Nat} (hi : i < 1024) (hk : k < 64) : (nI i <<< ((6 : Int32) &&& 31)) ||| nI k = nI (64 * i + k) := by
  apply b_ext
  intro j hj
  rw [b_or, show (6 : Int32) = nI 6 from rfl, b_shl 6 (by decide) _ hj, bt_nI _ hj, bt_nI _ hj, show (64 : Nat) = 2 ^ 6 from rfl, Nat.testBit_two_pow_mul_add _ (show k < 2 ^ 6 from hk)]
  by_cases c : j < 6
  · rw [if_pos c, decide_eq_false (show ¬ 6 ≤ j by omega), Bool.false_and, Bool.false_or]
  · rw [if_neg c, decide_eq_true (show 6 ≤ j by omega), Bool.true_and, bt_nI _ (show j - 6 < 32 by omega), Nat.testBit_lt_two_pow (Nat.lt_of_lt_of_le hk (show 2 ^ 6 ≤ 2 ^ j from Nat.pow_le_pow_right (by decide) (by omega))), Bool.or_false]
def gd (W : Nat → Int64) (N X : Nat) : Prop := fb W X = false ∧ fb W (2 ^ N - 1 - X) = false
theorem fb_w (W : Nat → Int64) {i j : Nat} (hj : j < 64) : fb W (64 * i + j) = qb (W i) j := by
  unfold fb
  rw [show (64 * i + j) / 64 = i by omega, show (64 * i + j) % 64 = j by omega]
theorem us_N2 {N : Nat} (h16 : N ≤ 16) : 2 ^ N ≤ 64 * us6 N := by
  by_cases c : 6 ≤ N
  · rw [us_64 c]; exact Nat.le_refl _
  · have := us_1 (show N ≤ 6 by omega)
    have p6 : 2 ^ N ≤ 2 ^ 6 := Nat.pow_le_pow_right (by decide) (by omega)
    omega
section
variable {M : Mem} {o q N : Nat}
theorem F1.lbv (f : F1 M o q N) (h16 : N ≤ 16) : ∀ (d i n : Nat), i + d = us6 N → d + 20 ≤ n → ∃ r, f_X1_leastBetter_2 M n o (nI i) = some r ∧ ((∃ X, 64 * i ≤ X ∧ X < 2 ^ N ∧ gd (mL M q) N X ∧ r = nI X ∧ ∀ Y, 64 * i ≤ Y → Y < X → ¬ gd (mL M q) N Y) ∨ (r = -1 ∧ ∀ Y, 64 * i ≤ Y → Y < 2 ^ N → ¬ gd (mL M q) N Y)) := by
  have u := us_b h16
  have u2 := us_N2 h16
  intro d
  induction d with
  | zero =>
    intro i n hi hn
    obtain ⟨n, rfl⟩ : ∃ m, n = m + 1 := ⟨n - 1, by omega⟩
    exact ⟨-1, by rw [f_X1_leastBetter_2, chk_t f.1.1, f.2.2, if_pos (nI_le (by omega) (by omega))], Or.inr ⟨rfl, fun Y h1 h2 => by omega⟩⟩
  | succ d ih =>
    intro i n hi hn
    obtain ⟨n, rfl⟩ : ∃ m, n = m + 1 := ⟨n - 1, by omega⟩
    obtain ⟨x, ex, hx⟩ := f.wrv h16 (k := i) (n := n) (by omega) (by omega)
    have bit : ∀ j, j < 64 → (qb ((mL M q i ^^^ (-1 : Int64)) &&& x) j = true ↔ 64 * i + j < 2 ^ N ∧ gd (mL M q) N (64 * i + j)) := fun j hj => by
      rw [qb_and, qb_not _ hj, hx j hj, ← fb_w (mL M q) hj]
      unfold gd
      simp only [Bool.and_eq_true, Bool.not_eq_true', decide_eq_true_eq]
      exact ⟨fun ⟨a, b, c⟩ => ⟨b, a, c⟩, fun ⟨a, b, c⟩ => ⟨b, a, c⟩⟩
    rw [f_X1_leastBetter_2, chk_t f.1.1, f.2.2, if_neg (nI_ge (by omega) (by omega)), f.1.2.1, bnd_e, chk_t f.1.2.2.1, f.1.2.2.2, chk_t (inB_n (by omega) (by decide)), ex, obd_s, bnd_e, mL_c (by omega)]
    by_cases z : lg_cmp ((mL M q i ^^^ (-1 : Int64)) &&& x) (0 : Int64) = 0
    · have no : ∀ Y, 64 * i ≤ Y → Y < 64 * (i + 1) → Y < 2 ^ N → ¬ gd (mL M q) N Y := fun Y h1 h2 h3 h4 => by
        have := (lg_z _).mp z (Y - 64 * i) (by omega)
        have b := (bit (Y - 64 * i) (by omega)).mpr (by rw [show 64 * i + (Y - 64 * i) = Y by omega]; exact ⟨h3, h4⟩)
        rw [this] at b; cases b
      obtain ⟨r, e, h⟩ := ih (i + 1) n (by omega) (by omega)
      refine ⟨r, by rw [if_pos z, bnd_e, nI_1]; exact e, ?_⟩
      rcases h with ⟨X, h1, h2, h3, h4, h5⟩ | ⟨h1, h2⟩
      · refine Or.inl ⟨X, by omega, h2, h3, h4, fun Y a b => ?_⟩
        rcases Nat.lt_or_ge Y (64 * (i + 1)) with c | c
        · exact no Y a c (by omega)
        · exact h5 Y c b
      · refine Or.inr ⟨h1, fun Y a b => ?_⟩
        rcases Nat.lt_or_ge Y (64 * (i + 1)) with c | c
        · exact no Y a c b
        · exact h2 Y c b
    · have some1 : ∃ j, j < 64 ∧ qb ((mL M q i ^^^ (-1 : Int64)) &&& x) j = true := by
        apply Decidable.byContradiction
        intro c
        apply z
        rw [lg_z]
        intro j hj
        cases hb : qb ((mL M q i ^^^ (-1 : Int64)) &&& x) j
        · rfl
        · exact absurd ⟨j, hj, hb⟩ c
      obtain ⟨k, hk, e, hb, hl⟩ := f_lowx some1 M
      obtain ⟨b1, b2⟩ := (bit k hk).mp hb
      refine ⟨nI (64 * i + k), by rw [if_neg z, e, obd_s, sh_or (by omega) hk], Or.inl ⟨64 * i + k, by omega, b1, b2, rfl, fun Y a b c => ?_⟩⟩
      have := hl (Y - 64 * i) (by omega)
      have b' := (bit (Y - 64 * i) (by omega)).mpr (by rw [show 64 * i + (Y - 64 * i) = Y by omega]; exact ⟨by omega, c⟩)
      rw [this] at b'; cases b'
end
/-! the least set that stops all -/
theorem pcN_64 {m : Nat} (h : m < 2 ^ 31) : pcN m = pcN (m / 64) + pcw (m % 64) := by
  rw [pcN_half h, pcN_half (show m / 2 < 2 ^ 31 by omega), Nat.div_div_eq_div_mul, pcN_half (show m / (2 * 2) < 2 ^ 31 by omega), Nat.div_div_eq_div_mul, pcN_half (show m / (2 * 2 * 2) < 2 ^ 31 by omega), Nat.div_div_eq_div_mul, pcN_half (show m / (2 * 2 * 2 * 2) < 2 ^ 31 by omega), Nat.div_div_eq_div_mul, pcN_half (show m / (2 * 2 * 2 * 2 * 2) < 2 ^ 31 by omega), Nat.div_div_eq_div_mul]
  have e : m / (2 * 2 * 2 * 2 * 2 * 2) = m / 64 := rfl
  rw [e]
  unfold pcw
  have e1 : m % 64 % 2 = m % 2 := by omega
  have e2 : m % 64 / 2 % 2 = m / 2 % 2 := by omega
  have e3 : m % 64 / 4 % 2 = m / (2 * 2) % 2 := by omega
  have e4 : m % 64 / 8 % 2 = m / (2 * 2 * 2) % 2 := by omega
  have e5 : m % 64 / 16 % 2 = m / (2 * 2 * 2 * 2) % 2 := by omega
  have e6 : m % 64 / 32 % 2 = m / (2 * 2 * 2 * 2 * 2) % 2 := by omega
  rw [e1, e2, e3, e4, e5, e6]
  omega
theorem pcN_10 {i : Nat} (h : i < 1024) : pcN i ≤ 10 := by
  rw [← pc_N]
  exact pc_lj (x := nI i) (j := 10) (by decide) (bt_hk (j := 10) (by omega))
/-- X stops all -/
def sto (W : Nat → Int64) (N X : Nat) : Prop := X < 2 ^ N ∧ fb W (2 ^ N - 1 - X) = false
def Pij (i j X : Nat) : Prop := X / 64 < i ∨ (X / 64 = i ∧ pcw (X % 64) < j)
def LsI (W : Nat → Int64) (N i j : Nat) (v1 v2 : Int32) : Prop := (v1 = -1 ∧ v2 = nI 17 ∧ ∀ X, Pij i j X → ¬ sto W N X) ∨ ∃ m, v1 = nI m ∧ v2 = nI (pcN m) ∧ sto W N m ∧ Pij i j m ∧ ∀ X, Pij i j X → sto W N X → pcN m < pcN X ∨ (pcN m = pcN X ∧ m ≤ X)
theorem LsI.nx {W : Nat → Int64} {N i : Nat} {v1 v2 : Int32} (h : LsI W N i 7 v1 v2) : LsI W N (i + 1) 0 v1 v2 := by
  have p : ∀ X, Pij (i + 1) 0 X ↔ Pij i 7 X := fun X => by
    unfold Pij
    have := pcw_6 (X % 64) (Nat.mod_lt _ (by decide))
    constructor
    · rintro (h | ⟨_, h⟩)
      · by_cases c : X / 64 = i
        · exact Or.inr ⟨c, by omega⟩
        · exact Or.inl (by omega)
      · omega
    · rintro (h | ⟨h, _⟩)
      · exact Or.inl (by omega)
      · exact Or.inl (by omega)
  rcases h with ⟨a, b, c⟩ | ⟨m, a, b, c, d, e⟩
  · exact Or.inl ⟨a, b, fun X hX => c X ((p X).mp hX)⟩
  · exact Or.inr ⟨m, a, b, c, (p m).mpr d, fun X hX => e X ((p X).mp hX)⟩
theorem ls25v {M : Mem} {o N i : Nat} {W : Nat → Int64} {K : Nat → Int32 → Int32 → Int32 → Option Int32} (h16 : N ≤ 16) (hi : i < 1024) {x : Int64} (hx : ∀ j, j < 64 → (qb x j = true ↔ sto W N (64 * i + j))) : ∀ (d j n : Nat) (v1 v2 : Int32), j + d = 7 → LsI W N i j v1 v2 → d + 1 ≤ n → ∃ v1' v2', LsI W N (i + 1) 0 v1' v2' ∧ f_X1_leastStop_25 K M n o v1 v2 (nI i) x (nI j) = K o v1' v2' (nI (i + 1)) := by
  have p2 := p16 h16
  have pl := pcN_10 hi
  have bc : f_J6_bitCount_0f7a4 (nI i) M = some (nI (pcN i)) := by
    rw [f_bcx (bt_hk (j := 16) (by omega)) M, pc_N]
  have pX : ∀ X, X < 2 ^ N → X / 64 = i → pcN X = pcN i + pcw (X % 64) := fun X h e => by rw [pcN_64 (by omega), e]
  intro d
  induction d with
  | zero =>
    intro j n v1 v2 hj h hn
    obtain ⟨n, rfl⟩ : ∃ m, n = m + 1 := ⟨n - 1, by omega⟩
    obtain rfl : j = 7 := by omega
    exact ⟨v1, v2, h.nx, by rw [f_X1_leastStop_25, if_pos (show (6 : Int32) < nI 7 from nI_lt (a := 6) (b := 7) (by omega) (by omega)), bnd_e, nI_1]⟩
  | succ d ih =>
    intro j n v1 v2 hj h hn
    obtain ⟨n, rfl⟩ : ∃ m, n = m + 1 := ⟨n - 1, by omega⟩
    have split : ∀ X, Pij i (j + 1) X → Pij i j X ∨ (X / 64 = i ∧ pcw (X % 64) = j) := fun X hX => by
      rcases hX with c | ⟨c, c'⟩
      · exact Or.inl (Or.inl c)
      · rcases Nat.lt_or_ge (pcw (X % 64)) j with e | e
        · exact Or.inl (Or.inr ⟨c, e⟩)
        · exact Or.inr ⟨c, by omega⟩
    have mono : ∀ X, Pij i j X → Pij i (j + 1) X := fun X hX => by
      rcases hX with c | ⟨c, c'⟩
      · exact Or.inl c
      · exact Or.inr ⟨c, by omega⟩
    rw [f_X1_leastStop_25, if_neg (show ¬ (6 : Int32) < nI j from nI_nl (a := 6) (by omega) (by decide)), bc, obd_s, nI_add, bnd_e]
    by_cases c : v2 ≤ nI (pcN i + j)
    · rw [if_pos c, bnd_e, nI_1]
      refine ih (j + 1) n v1 v2 (by omega) ?_ (by omega)
      rcases h with ⟨a, b, _⟩ | ⟨m, a, b, hm, pm, e⟩
      · rw [b] at c
        exact absurd c (nI_ge (by omega) (by decide))
      · have cm : pcN m ≤ pcN i + j := by
          apply Decidable.byContradiction
          intro z
          rw [b] at c
          have : pcN m ≤ 32 := by rw [← pc_N]; exact pc_le _
          exact absurd c (nI_ge (by omega) (by omega))
        refine Or.inr ⟨m, a, b, hm, mono m pm, fun X hX sX => ?_⟩
        rcases split X hX with hX | ⟨h1, h2⟩
        · exact e X hX sX
        · have px := pX X sX.1 h1
          rcases Nat.lt_or_ge (pcN m) (pcN X) with z | z
          · exact Or.inl z
          · refine Or.inr ⟨by omega, ?_⟩
            rcases pm with q | ⟨q1, q2⟩
            · omega
            · have := pX m hm.1 q1
              omega
    · have j7 : j < 7 := by omega
      have gb : ∀ b, b < 64 → (qb (x &&& l_OS j) b = true ↔ sto W N (64 * i + b) ∧ pcw b = j) := fun b hb => by
        rw [qb_and, Bool.and_eq_true, hx b hb, os_k j j7 b hb, decide_eq_true_eq]
      have big : ∀ m, v2 = nI (pcN m) → pcN i + j < pcN m := fun m e => by
        apply Decidable.byContradiction
        intro z
        have : pcN m ≤ 32 := by rw [← pc_N]; exact pc_le _
        exact c (by rw [e]; exact nI_le (by omega) (by omega))
      rw [if_neg c, chk_t (inB_n j7 (by decide))]
      simp only [nI_clamp (show j < 2 ^ 31 by omega)]
      by_cases z : lg_cmp (x &&& l_OS j) (0 : Int64) = 0
      · rw [if_pos z, bnd_e, nI_1]
        have no : ∀ X, X / 64 = i → pcw (X % 64) = j → ¬ sto W N X := fun X h1 h2 sX => by
          have e := (lg_z _).mp z (X % 64) (Nat.mod_lt _ (by decide))
          have g := (gb (X % 64) (Nat.mod_lt _ (by decide))).mpr ⟨by rw [show 64 * i + X % 64 = X by omega]; exact sX, h2⟩
          rw [e] at g; cases g
        refine ih (j + 1) n v1 v2 (by omega) ?_ (by omega)
        rcases h with ⟨a, b, hn⟩ | ⟨m, a, b, hm, pm, e⟩
        · refine Or.inl ⟨a, b, fun X hX => ?_⟩
          rcases split X hX with hX | ⟨h1, h2⟩
          · exact hn X hX
          · exact no X h1 h2
        · refine Or.inr ⟨m, a, b, hm, mono m pm, fun X hX sX => ?_⟩
          rcases split X hX with hX | ⟨h1, h2⟩
          · exact e X hX sX
          · exact absurd sX (no X h1 h2)
      · have some1 : ∃ b, b < 64 ∧ qb (x &&& l_OS j) b = true := by
          apply Decidable.byContradiction
          intro c
          apply z
          rw [lg_z]
          intro b hb
          cases hq : qb (x &&& l_OS j) b
          · rfl
          · exact absurd ⟨b, hb, hq⟩ c
        obtain ⟨k, hk, e, hb, hl⟩ := f_lowx some1 M
        obtain ⟨s1, s2⟩ := (gb k hk).mp hb
        rw [if_neg z, chk_t (inB_n j7 (by decide)), e, obd_s, sh_or hi hk, bnd_e, bnd_e, nI_1]
        have pk : pcN (64 * i + k) = pcN i + j := by
          rw [pX _ s1.1 (by omega), show (64 * i + k) % 64 = k by omega, s2]
        refine ih (j + 1) n _ _ (by omega) (Or.inr ⟨64 * i + k, rfl, by rw [pk], s1, Or.inr ⟨by omega, by rw [show (64 * i + k) % 64 = k by omega]; omega⟩, fun X hX sX => ?_⟩) (by omega)
        rcases split X hX with hX | ⟨h1, h2⟩
        · rcases h with ⟨a, b, hn⟩ | ⟨m, a, b, hm, pm, em⟩
          · exact absurd sX (hn X hX)
          · have := big m b
            rcases em X hX sX with q | ⟨q, _⟩
            · exact Or.inl (by omega)
            · exact Or.inl (by omega)
        · refine Or.inr ⟨by rw [pk, pX X sX.1 h1, h2], ?_⟩
          apply Decidable.byContradiction
          intro lt
          have := hl (X % 64) (by omega)
          have g := (gb (X % 64) (Nat.mod_lt _ (by decide))).mpr ⟨by rw [show 64 * i + X % 64 = X by omega]; exact sX, h2⟩
          rw [this] at g; cases g
theorem F1.lsv {M : Mem} {o q N : Nat} (f : F1 M o q N) (h16 : N ≤ 16) : ∀ (d i n : Nat) (v1 v2 : Int32), i + d = us6 N → LsI (mL M q) N i 0 v1 v2 → d + 20 ≤ n → ∃ r v2', f_X1_leastStop_7 M n o v1 v2 (nI i) = some r ∧ LsI (mL M q) N (us6 N) 0 r v2' := by
  have u := us_b h16
  intro d
  induction d with
  | zero =>
    intro i n v1 v2 hi h hn
    obtain ⟨n, rfl⟩ : ∃ m, n = m + 1 := ⟨n - 1, by omega⟩
    obtain rfl : i = us6 N := by omega
    exact ⟨v1, v2, by rw [f_X1_leastStop_7, chk_t f.1.1, f.2.2, if_pos (nI_le (by omega) (by omega))], h⟩
  | succ d ih =>
    intro i n v1 v2 hi h hn
    obtain ⟨n, rfl⟩ : ∃ m, n = m + 1 := ⟨n - 1, by omega⟩
    obtain ⟨x, ex, hx⟩ := f.wrv h16 (k := i) (n := n) (by omega) (by omega)
    obtain ⟨w1, w2, hw, ew⟩ := ls25v (M := M) (o := o) (K := f_X1_leastStop_7 M n) (W := mL M q) h16 (show i < 1024 by omega) (x := x) (fun j hj => by
      rw [hx j hj]
      unfold sto
      simp only [Bool.and_eq_true, Bool.not_eq_true', decide_eq_true_eq]) 7 0 n v1 v2 rfl h (by omega)
    obtain ⟨r, v2', e, hr⟩ := ih (i + 1) n w1 w2 (by omega) hw (by omega)
    refine ⟨r, v2', ?_, hr⟩
    rw [f_X1_leastStop_7, chk_t f.1.1, f.2.2, if_neg (nI_ge (by omega) (by omega)), ex, obd_s]
    exact ew.trans e
/-- m is the least set of those that stop all -/
def isMin (W : Nat → Int64) (N m : Nat) : Prop := sto W N m ∧ ∀ X, sto W N X → pcN m < pcN X ∨ (pcN m = pcN X ∧ m ≤ X)
theorem F1.lsm {M : Mem} {o q N : Nat} (f : F1 M o q N) (h16 : N ≤ 16) (ex : ∃ X, sto (mL M q) N X) {n : Nat} (hn : 1100 ≤ n) : ∃ m, f_X1_leastStop n o M = some (nI m) ∧ isMin (mL M q) N m := by
  have u := us_b h16
  have u2 := us_N2 h16
  obtain ⟨r, v2', e, h⟩ := f.lsv h16 (us6 N) 0 n (-1) (nI 17) (by omega) (Or.inl ⟨rfl, rfl, fun X hX => by
    rcases hX with c | ⟨_, c⟩ <;> omega⟩) (by omega)
  have all : ∀ X, sto (mL M q) N X → Pij (us6 N) 0 X := fun X hX => Or.inl (by have := hX.1; omega)
  rcases h with ⟨_, _, c⟩ | ⟨m, a, _, hm, _, hX⟩
  · obtain ⟨X, sX⟩ := ex
    exact absurd sX (c X (all X sX))
  · exact ⟨m, by rw [f_X1_leastStop]; rw [a] at e; exact e, hm, fun X sX => hX X (all X sX) sX⟩
