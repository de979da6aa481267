/-! ===== the class's rows of bits: what is greater ===== -/
def FLq (q : Nat) (M M' : Mem) : Prop := M'.1 = M.1 ∧ (∀ o b, mI M' o b = mI M o b) ∧ ∀ o, o ≠ q → ∀ b, mL M' o b = mL M o b
theorem FLq.rf (q : Nat) (M : Mem) : FLq q M M := ⟨rfl, fun _ _ => rfl, fun _ _ _ => rfl⟩
theorem FLq.tr {q : Nat} {M M' M'' : Mem} (h : FLq q M M') (h' : FLq q M' M'') : FLq q M M'' := ⟨h'.1.trans h.1, fun o b => (h'.2.1 o b).trans (h.2.1 o b), fun o n b => (h'.2.2 o n b).trans (h.2.2 o n b)⟩
theorem FLq.s (q : Nat) (M : Mem) (k : Nat) (x : Int64) : FLq q M (sL M q k x) := ⟨rfl, fun _ _ => rfl, fun o n b => mL_o M q k x (fun z => n z.1)⟩
theorem FLq.lg {q : Nat} {M M' : Mem} (h : FLq q M M') : FrLg M M' := ⟨h.1, h.2.1⟩
theorem mL_c {M : Mem} {o k : Nat} (h : k < 10465) : mL M o (nI k).toNatClampNeg = mL M o k := by rw [nI_clamp (by omega)]
theorem sL_c {M : Mem} {o k : Nat} {x : Int64} (h : k < 10465) : sL M o (nI k).toNatClampNeg x = sL M o k x := by rw [nI_clamp (by omega)]
/-- the words of a row are T -/
def Wd (M : Mem) (q us : Nat) (T : Nat → Int64) : Prop := ∀ w, w < us → mL M q w = T w
theorem tb_and (j e : Nat) : j &&& 2 ^ e = 0 ↔ j.testBit e = false := by
  constructor
  · intro h
    have := Nat.testBit_and j (2 ^ e) e
    rw [h, Nat.zero_testBit, Nat.testBit_two_pow, decide_eq_true (Eq.refl e), Bool.and_true] at this
    exact this.symm
  · intro h
    apply Nat.eq_of_testBit_eq
    intro i
    rw [Nat.testBit_and, Nat.testBit_two_pow, Nat.zero_testBit]
    by_cases c : e = i
    · rw [← c, h, Bool.false_and]
    · rw [decide_eq_false c, Bool.and_false]
section
variable {o q N : Nat}
theorem ag18v (h16 : N ≤ 16) {K : Nat → Int32 → Mem → Option Mem} {i : Nat} (hi : i < 6) (T : Nat → Int64) : ∀ (d j n : Nat) (M : Mem), j + d = us6 N → F1 M o q N → Wd M q (us6 N) (fun w => if w < j then stw i (T w) else T w) → d + 1 ≤ n → ∃ M', f_X1_addGreater_18 K n o (nI i) (nI j) M = K o (nI (i + 1)) M' ∧ FLq q M M' ∧ Wd M' q (us6 N) (fun w => stw i (T w)) := by
  have u := us_b h16
  intro d
  induction d with
  | zero =>
    intro j n M hj f hT hn
    obtain ⟨n, rfl⟩ : ∃ m, n = m + 1 := ⟨n - 1, by omega⟩
    exact ⟨M, by rw [f_X1_addGreater_18, chk_t f.1.1, f.2.2, if_pos (nI_le (by omega) (by omega)), bnd_e, nI_1], FLq.rf q M, fun w hw => by rw [hT w hw]; exact if_pos (by omega)⟩
  | succ d ih =>
    intro j n M hj f hT hn
    obtain ⟨n, rfl⟩ : ∃ m, n = m + 1 := ⟨n - 1, by omega⟩
    have ib : inB (nI j) (mLn M q) := by rw [f.1.2.2.2]; exact inB_n (by omega) (by decide)
    have e0 : mL M q j = T j := (hT j (by omega)).trans (if_neg (by omega))
    have fl := FLq.s q M j (stw i (T j))
    obtain ⟨M', e', f', w'⟩ := ih (j + 1) n (sL M q j (stw i (T j))) (by omega) (f.l fl.lg) (fun w hw => by
      by_cases c : w = j
      · rw [c, mL_s]; exact (if_pos (by omega)).symm
      · rw [mL_o M q j _ (fun z => c z.2), hT w hw]
        show (if w < j then stw i (T w) else T w) = (if w < j + 1 then stw i (T w) else T w)
        by_cases d : w < j
        · rw [if_pos d, if_pos (by omega)]
        · rw [if_neg d, if_neg (by omega)]) (by omega)
    refine ⟨M', ?_, fl.tr f', w'⟩
    rw [f_X1_addGreater_18, chk_t f.1.1, f.2.2, if_neg (nI_ge (by omega) (by omega)), f.1.2.1, bnd_e, chk_t f.1.2.2.1, chk_t ib, bnd_e, chk_t f.1.2.2.1, chk_t ib, chk_t (inB_n (show i < 6 from hi) (by decide)), chk_t ib, bnd_e, bnd_e, nI_1, mL_c (by omega), sL_c (by omega), nI_clamp (show i < 2 ^ 31 by omega), e0]
    exact e'
theorem ag79v (h16 : N ≤ 16) {K : Nat → Int32 → Mem → Option Mem} {e k : Nat} (hk : us6 N = 2 ^ k) (hp : 2 ^ e < us6 N) (T : Nat → Int64) : ∀ (d j n : Nat) (M : Mem), j + d = us6 N → F1 M o q N → Wd M q (us6 N) (fun w => if w < j ∧ w.testBit e = true then T w ||| T (w ^^^ 2 ^ e) else T w) → d + 1 ≤ n → ∃ M', f_X1_addGreater_79 K n o (nI (2 ^ e)) (nI j) M = K o (nI (2 ^ (e + 1))) M' ∧ FLq q M M' ∧ Wd M' q (us6 N) (fun w => if w.testBit e = true then T w ||| T (w ^^^ 2 ^ e) else T w) := by
  have u := us_b h16
  intro d
  induction d with
  | zero =>
    intro j n M hj f hT hn
    obtain ⟨n, rfl⟩ : ∃ m, n = m + 1 := ⟨n - 1, by omega⟩
    refine ⟨M, by rw [f_X1_addGreater_79, chk_t f.1.1, f.2.2, if_pos (nI_le (by omega) (by omega)), bnd_e, show (2 : Int32) = nI 2 from rfl, pk_mul, Nat.pow_succ], FLq.rf q M, fun w hw => ?_⟩
    rw [hT w hw]
    show (if w < j ∧ w.testBit e = true then _ else _) = if w.testBit e = true then _ else _
    by_cases c : w.testBit e = true
    · rw [if_pos ⟨by omega, c⟩, if_pos c]
    · rw [if_neg (fun z => c z.2), if_neg c]
  | succ d ih =>
    intro j n M hj f hT hn
    obtain ⟨n, rfl⟩ : ∃ m, n = m + 1 := ⟨n - 1, by omega⟩
    have e0 : mL M q j = T j := (hT j (by omega)).trans (if_neg (by omega))
    rw [f_X1_addGreater_79, chk_t f.1.1, f.2.2, if_neg (nI_ge (by omega) (by omega)), nx_and]
    cases hb : j.testBit e
    · have z : nI (j &&& 2 ^ e) = 0 := by rw [(tb_and j e).mpr hb]; rfl
      rw [if_pos z, bnd_e, nI_1]
      exact ih (j + 1) n M (by omega) f (fun w hw => by
        rw [hT w hw]
        show (if w < j ∧ w.testBit e = true then _ else _) = if w < j + 1 ∧ w.testBit e = true then _ else _
        by_cases c : w.testBit e = true
        · have : w ≠ j := fun z => by rw [z, hb] at c; cases c
          by_cases d : w < j
          · rw [if_pos ⟨d, c⟩, if_pos ⟨by omega, c⟩]
          · rw [if_neg (fun z => d z.1), if_neg (fun z => by have := z.1; omega)]
        · rw [if_neg (fun z => c z.2), if_neg (fun z => c z.2)]) (by omega)
    · have ib : inB (nI j) (mLn M q) := by rw [f.1.2.2.2]; exact inB_n (by omega) (by decide)
      have hx : j ^^^ 2 ^ e < 2 ^ k := Nat.xor_lt_two_pow (by omega) (by omega)
      have ix : inB (nI (j ^^^ 2 ^ e)) (mLn M q) := by rw [f.1.2.2.2]; exact inB_n (by omega) (by decide)
      have lt : j &&& 2 ^ e ≤ j := Nat.and_le_left
      have z : ¬ nI (j &&& 2 ^ e) = 0 := fun z => by
        have := (nI_z (by omega)).mp z
        rw [(tb_and j e)] at this
        rw [hb] at this; cases this
      have ex : mL M q (j ^^^ 2 ^ e) = T (j ^^^ 2 ^ e) := by
        rw [hT _ (by omega)]
        have xb : (j ^^^ 2 ^ e).testBit e = false := by
          rw [Nat.testBit_xor, Nat.testBit_two_pow, hb, decide_eq_true (Eq.refl e)]; rfl
        exact if_neg (fun z => by rw [xb] at z; cases z.2)
      have fl := FLq.s q M j (T j ||| T (j ^^^ 2 ^ e))
      obtain ⟨M', e', f', w'⟩ := ih (j + 1) n (sL M q j (T j ||| T (j ^^^ 2 ^ e))) (by omega) (f.l fl.lg) (fun w hw => by
        by_cases c : w = j
        · rw [c, mL_s]; exact (if_pos ⟨by omega, hb⟩).symm
        · rw [mL_o M q j _ (fun z => c z.2), hT w hw]
          show (if w < j ∧ w.testBit e = true then _ else _) = if w < j + 1 ∧ w.testBit e = true then _ else _
          by_cases d : w < j ∧ w.testBit e = true
          · rw [if_pos d, if_pos ⟨by omega, d.2⟩]
          · rw [if_neg d, if_neg (fun z => d ⟨by omega, z.2⟩)]) (by omega)
      refine ⟨M', ?_, fl.tr f', w'⟩
      rw [if_neg z, f.1.2.1, bnd_e, chk_t f.1.2.2.1, chk_t ib, bnd_e, chk_t f.1.2.2.1, nx_xor, chk_t ix, chk_t ib, bnd_e, bnd_e, nI_1, mL_c (by omega), mL_c (by omega), sL_c (by omega), e0, ex]
      exact e'
theorem ag69v (h16 : N ≤ 16) {k : Nat} (hk : us6 N = 2 ^ k) (F : Nat → Bool) : ∀ (d e n : Nat) (M : Mem) (T : Nat → Int64), e + d = k → F1 M o q N → Wd M q (us6 N) T → (∀ X, X < 64 * us6 N → fb T X = upF F (6 + e) X) → d + 1030 ≤ n → ∃ M' T', f_X1_addGreater_69 n o (nI (2 ^ e)) M = some M' ∧ FLq q M M' ∧ Wd M' q (us6 N) T' ∧ ∀ X, X < 64 * us6 N → fb T' X = upF F (6 + k) X := by
  have u := us_b h16
  intro d
  induction d with
  | zero =>
    intro e n M T he f hT hF hn
    obtain ⟨n, rfl⟩ : ∃ m, n = m + 1 := ⟨n - 1, by omega⟩
    obtain rfl : e = k := by omega
    exact ⟨M, T, by rw [f_X1_addGreater_69, chk_t f.1.1, f.2.2, hk, if_pos (Int32.le_refl _)], FLq.rf q M, hT, hF⟩
  | succ d ih =>
    intro e n M T he f hT hF hn
    obtain ⟨n, rfl⟩ : ∃ m, n = m + 1 := ⟨n - 1, by omega⟩
    have hp : 2 ^ e < us6 N := by rw [hk]; exact Nat.pow_lt_pow_right (by decide) (by omega)
    obtain ⟨M1, e1, f1, w1⟩ := ag79v (K := f_X1_addGreater_69 n) h16 hk hp T (us6 N) 0 n M (by omega) f (fun w hw => by
      rw [hT w hw]; exact (if_neg (fun z => by have := z.1; omega)).symm) (by omega)
    obtain ⟨M', T', e', f', w', h'⟩ := ih (e + 1) n M1 _ (by omega) (f.l f1.lg) w1 (fun X hX => by
      rw [fb_hi e T X]
      show stp (6 + e) (fb T) X = stp (6 + e) (upF F (6 + e)) X
      unfold stp
      rw [hF X hX]
      have hx : X ^^^ 2 ^ (6 + e) < 64 * us6 N := by
        have e6 : 64 * us6 N = 2 ^ (6 + k) := by rw [hk, Nat.pow_add]
        rw [e6] at hX ⊢
        exact Nat.xor_lt_two_pow hX (Nat.pow_lt_pow_right (by decide) (by omega))
      rw [hF _ hx]) (by omega)
    refine ⟨M', T', ?_, f1.tr f', w', h'⟩
    rw [f_X1_addGreater_69, chk_t f.1.1, f.2.2, if_neg (nI_ge hp (by omega))]
    exact e1.trans e'
theorem ag2v (h16 : N ≤ 16) {k : Nat} (hk : us6 N = 2 ^ k) (F : Nat → Bool) : ∀ (d i n : Nat) (M : Mem) (T : Nat → Int64), i + d = 6 → i ≤ N → F1 M o q N → Wd M q (us6 N) T → (∀ X, X < 64 * us6 N → fb T X = upF F i X) → d + 1050 ≤ n → ∃ M' T', f_X1_addGreater_2 n o (nI i) M = some M' ∧ FLq q M M' ∧ Wd M' q (us6 N) T' ∧ ∀ X, X < 64 * us6 N → fb T' X = upF F N X := by
  have u := us_b h16
  have u6 : (N ≤ 6 ∧ us6 N = 1) ∨ (6 < N ∧ us6 N = 2 ^ (N - 6)) := by
    unfold us6
    by_cases c : 6 < N
    · exact Or.inr ⟨c, if_pos c⟩
    · exact Or.inl ⟨by omega, if_neg c⟩
  intro d
  induction d with
  | zero =>
    intro i n M T hi hiN f hT hF hn
    obtain ⟨n, rfl⟩ : ∃ m, n = m + 1 := ⟨n - 1, by omega⟩
    obtain rfl : i = 6 := by omega
    have eN : N = 6 + (N - 6) := by omega
    have hk' : us6 N = 2 ^ (N - 6) := by
      rcases u6 with ⟨a, b⟩ | ⟨a, b⟩
      · rw [b, show N - 6 = 0 by omega]
      · exact b
    obtain ⟨M', T', e', f', w', h'⟩ := ag69v h16 hk' F (N - 6) 0 n M T (by omega) f hT hF (by omega)
    refine ⟨M', T', ?_, f', w', fun X hX => by rw [h' X hX, ← eN]⟩
    rw [f_X1_addGreater_2, if_pos (show (6 : Int32) ≤ nI 6 from Int32.le_refl _)]
    exact e'
  | succ d ih =>
    intro i n M T hi hiN f hT hF hn
    obtain ⟨n, rfl⟩ : ∃ m, n = m + 1 := ⟨n - 1, by omega⟩
    rw [f_X1_addGreater_2, if_neg (show ¬ (6 : Int32) ≤ nI i from nI_ge (b := 6) (by omega) (by decide)), chk_t f.1.1, f.2.1]
    by_cases c : N ≤ i
    · obtain rfl : i = N := by omega
      have us1 : us6 i = 1 := by
        rcases u6 with ⟨a, b⟩ | ⟨a, b⟩
        · exact b
        · omega
      refine ⟨M, T, ?_, FLq.rf q M, hT, hF⟩
      rw [if_pos (nI_le c (by omega))]
      obtain ⟨n, rfl⟩ : ∃ m, n = m + 1 := ⟨n - 1, by omega⟩
      rw [f_X1_addGreater_69, chk_t f.1.1, f.2.2, us1, if_pos (show nI 1 ≤ (1 : Int32) from Int32.le_refl _)]
    · rw [if_neg (nI_ge (by omega) (by omega))]
      obtain ⟨M1, e1, f1, w1⟩ := ag18v (K := f_X1_addGreater_2 n) h16 (i := i) (by omega) T (us6 N) 0 n M (by omega) f (fun w hw => by rw [hT w hw]; exact (if_neg (by omega)).symm) (by omega)
      obtain ⟨M', T', e', f', w', h'⟩ := ih (i + 1) n M1 _ (by omega) (by omega) (f.l f1.lg) w1 (fun X hX => by
        rw [fb_lo (by omega) T X]
        show stp i (fb T) X = stp i (upF F i) X
        unfold stp
        have hx : X ^^^ 2 ^ i < 64 * us6 N := by
          have e6 : 64 * us6 N = 2 ^ (6 + k) := by rw [hk, Nat.pow_add]
          rw [e6] at hX ⊢
          exact Nat.xor_lt_two_pow hX (Nat.pow_lt_pow_right (by decide) (by omega))
        rw [hF X hX, hF _ hx]) (by omega)
      exact ⟨M', T', e1.trans e', f1.tr f', w', h'⟩
theorem F1.agv {M : Mem} (f : F1 M o q N) (h16 : N ≤ 16) {F : Nat → Bool} (hF : ∀ X, X < 64 * us6 N → fb (mL M q) X = F X) {n : Nat} (hn : 1100 ≤ n) : ∃ M', f_X1_addGreater n o M = some M' ∧ FLq q M M' ∧ ∀ X, X < 64 * us6 N → fb (mL M' q) X = upF F N X := by
  obtain ⟨k, _, hk⟩ := us_p h16
  obtain ⟨M', T', e, f', w', h'⟩ := ag2v h16 hk F 6 0 n M (mL M q) rfl (Nat.zero_le _) f (fun _ _ => rfl) hF (by omega)
  refine ⟨M', e, f', fun X hX => ?_⟩
  rw [← h' X hX]
  unfold fb
  rw [w' _ (by omega)]
end
