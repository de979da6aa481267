def bgf (f : Nat → Int32) (N t : Int32) (b : Nat) : Int32 := if b = 0 then N else if b = 1 then t else if b < 18 then f b else if b < 146 then 0 else if b < 850 then (if (b - 146) % 44 = 0 then -1 else 0) else if b < 10209 then 0 else if b < 10465 then 1 else f b
def wA (M : Mem) (A : Nat) (f : Nat → Int32) : Mem := (M.1, (fun a b => if a = A then f b else M.2.1 a b), M.2.2)
theorem wA_e {M M1 : Mem} {A : Nat} {f : Nat → Int32} (h1 : M1.1 = M.1) (h3 : M1.2.2 = M.2.2) (h2 : ∀ a b, a ≠ A → M1.2.1 a b = M.2.1 a b) (h4 : ∀ b, M1.2.1 A b = f b) : M1 = wA M A f := by
  refine Prod.ext h1 (Prod.ext ?_ h3)
  funext a b
  show M1.2.1 a b = if a = A then f b else M.2.1 a b
  by_cases h : a = A
  · rw [if_pos h, h, h4]
  · rw [if_neg h, h2 a b h]
def pG (M : Mem) (A lo : Nat) : Mem := (M.1, (fun a b => if a = A ∧ 146 + 44 * lo ≤ b ∧ b < 850 ∧ (b - 146) % 44 = 0 then -1 else M.2.1 a b), M.2.2)
def pW (M : Mem) (A lo : Nat) : Mem := (M.1, (fun a b => if a = A ∧ 10209 + lo ≤ b ∧ b < 10465 then 1 else M.2.1 a b), M.2.2)
theorem begin_l3 {r A : Nat} (d j : Nat) : ∀ (M : Mem), d ≤ 256 → RK M r A → f_X10_begin_68 (d + j + 1) r (nI (256 - d)) M = some (pW M A (256 - d)) := by
  induction d with
  | zero =>
    intro M _ h
    have e : pW M A 256 = M := by
      have : (fun a b => if a = A ∧ 10209 + 256 ≤ b ∧ b < 10465 then (1 : Int32) else M.2.1 a b) = M.2.1 := by
        funext a b
        rw [if_neg (by omega)]
      simp only [pW, this]
    rw [Nat.zero_add, Nat.sub_zero, f_X10_begin_68, if_pos (by rw [show (256 : Int32) = nI 256 from rfl]; exact nI_le (Nat.le_refl _) (by decide)), e]
  | succ d ih =>
    intro M hd h
    have hk : 256 - (d + 1) < 256 := by omega
    have e1 : nI (256 - (d + 1)) + 1 = nI (256 - d) := by rw [nI_1]; congr 1; omega
    have e0 : (10209 : Int32) + nI (256 - (d + 1)) = nI (10209 + (256 - (d + 1))) := by rw [show (10209 : Int32) = nI 10209 from rfl, nI_add]
    have hn : ¬ (256 : Int32) ≤ nI (256 - (d + 1)) := by
      rw [show (256 : Int32) = nI 256 from rfl]
      exact nI_ge hk (by decide)
    rw [show d + 1 + j + 1 = (d + j + 1) + 1 by omega, f_X10_begin_68, if_neg hn, chk_t h.1, bnd_e, h.2.1, chk_t h.2.2.1, e0, chk_t (rk_in h (by omega)), bnd_e, bnd_e, e1, nI_clamp (by omega), ih _ (by omega) (h.s _ _ _)]
    refine congrArg some (Prod.ext rfl (Prod.ext ?_ rfl))
    funext a b
    show (if a = A ∧ 10209 + (256 - d) ≤ b ∧ b < 10465 then 1 else up2 M.2.1 A (10209 + (256 - (d + 1))) 1 a b) = if a = A ∧ 10209 + (256 - (d + 1)) ≤ b ∧ b < 10465 then 1 else M.2.1 a b
    by_cases h1 : a = A ∧ 10209 + (256 - d) ≤ b ∧ b < 10465
    · rw [if_pos h1, if_pos (by omega)]
    · rw [if_neg h1]
      by_cases h2 : a = A ∧ b = 10209 + (256 - (d + 1))
      · rw [up2, if_pos h2, if_pos (by omega)]
      · rw [up2, if_neg h2, if_neg (by omega)]
theorem begin_l2 {r A : Nat} (d j : Nat) : ∀ (M : Mem), d ≤ 16 → RK M r A → f_X10_begin_47 (d + j + 1) r (nI (16 - d)) M = f_X10_begin_68 j r 0 (pG M A (16 - d)) := by
  induction d with
  | zero =>
    intro M _ h
    have e : pG M A 16 = M := by
      have : (fun a b => if a = A ∧ 146 + 44 * 16 ≤ b ∧ b < 850 ∧ (b - 146) % 44 = 0 then (-1 : Int32) else M.2.1 a b) = M.2.1 := by
        funext a b
        rw [if_neg (by omega)]
      simp only [pG, this]
    rw [Nat.zero_add, Nat.sub_zero, f_X10_begin_47, if_pos (by rw [show (16 : Int32) = nI 16 from rfl]; exact nI_le (Nat.le_refl _) (by decide)), e]
  | succ d ih =>
    intro M hd h
    have hk : 16 - (d + 1) < 16 := by omega
    have e1 : nI (16 - (d + 1)) + 1 = nI (16 - d) := by rw [nI_1]; congr 1; omega
    have hn : ¬ (16 : Int32) ≤ nI (16 - (d + 1)) := by
      rw [show (16 : Int32) = nI 16 from rfl]
      exact nI_ge hk (by decide)
    have hp := f_put (x := -1) h (v := 16 - (d + 1)) (w := 0) (by omega) (by decide)
    rw [show d + 1 + j + 1 = (d + j + 1) + 1 by omega, f_X10_begin_47, if_neg hn, chk_t h.1, show (0 : Int32) = nI 0 from rfl, hp, obd_s, bnd_e, e1, ih _ (by omega) (h.s _ _ _)]
    congr 1
    refine Prod.ext rfl (Prod.ext ?_ rfl)
    funext a b
    show (if a = A ∧ 146 + 44 * (16 - d) ≤ b ∧ b < 850 ∧ (b - 146) % 44 = 0 then -1 else up2 M.2.1 A (146 + 44 * (16 - (d + 1)) + 0) (-1) a b) = if a = A ∧ 146 + 44 * (16 - (d + 1)) ≤ b ∧ b < 850 ∧ (b - 146) % 44 = 0 then -1 else M.2.1 a b
    by_cases h1 : a = A ∧ 146 + 44 * (16 - d) ≤ b ∧ b < 850 ∧ (b - 146) % 44 = 0
    · rw [if_pos h1, if_pos (by omega)]
    · rw [if_neg h1]
      by_cases h2 : a = A ∧ b = 146 + 44 * (16 - (d + 1)) + 0
      · rw [up2, if_pos h2, if_pos (by omega)]
      · rw [up2, if_neg h2, if_neg (by omega)]
theorem f_begin {r A n : Nat} {M : Mem} {N t : Int32} (h : RK M r A) (hn : 11000 ≤ n) : f_X10_begin n r N t M = some (wA M A (bgf (mI M A) N (if t = 0 then 0 else 1))) := by
  obtain ⟨j, rfl⟩ : ∃ j, n = 10447 + (j + 300) + 1 := ⟨n - 10748, by omega⟩
  have h1 := begin_l1 (v1 := N) (v2 := t) 10447 (j + 300) M (by decide) h
  rw [f_X10_begin, show (18 : Int32) = nI (10465 - 10447) from rfl, h1]
  have hz : RK (zA M A (10465 - 10447) 10465) r A := h
  generalize hZ : zA M A (10465 - 10447) 10465 = Z at hz ⊢
  have key : ∀ x : Int32, f_X10_begin_47 (j + 300) r (nI (16 - 16)) (sI (sI Z A 0 N) A 1 x) = some (pW (pG (sI (sI Z A 0 N) A 1 x) A 0) A 0) := by
    intro x
    have h2 := begin_l2 16 (j + 283) (sI (sI Z A 0 N) A 1 x) (Nat.le_refl _) hz
    rw [show j + 300 = 16 + (j + 283) + 1 by omega, h2]
    have h3 := begin_l3 256 (j + 26) (pG (sI (sI Z A 0 N) A 1 x) A (16 - 16)) (Nat.le_refl _) hz
    rw [show j + 283 = 256 + (j + 26) + 1 by omega]
    exact h3
  have i0 : inB (0 : Int32) (mLn Z A) := rk_in hz (k := 0) (by decide)
  have i1 : inB (1 : Int32) (mLn Z A) := rk_in hz (k := 1) (by decide)
  have fin : ∀ x : Int32, pW (pG (sI (sI Z A 0 N) A 1 x) A 0) A 0 = wA M A (bgf (mI M A) N x) := by
    intro x
    subst hZ
    refine wA_e rfl rfl (fun a b hne => ?_) (fun b => ?_)
    · show (if a = A ∧ 10209 + 0 ≤ b ∧ b < 10465 then 1 else if a = A ∧ 146 + 44 * 0 ≤ b ∧ b < 850 ∧ (b - 146) % 44 = 0 then -1 else up2 (up2 (fun a b => if a = A ∧ 10465 - 10447 ≤ b ∧ b < 10465 then 0 else M.2.1 a b) A 0 N) A 1 x a b) = M.2.1 a b
      simp [up2, hne]
    · show (if A = A ∧ 10209 + 0 ≤ b ∧ b < 10465 then 1 else if A = A ∧ 146 + 44 * 0 ≤ b ∧ b < 850 ∧ (b - 146) % 44 = 0 then -1 else up2 (up2 (fun a b => if a = A ∧ 10465 - 10447 ≤ b ∧ b < 10465 then 0 else M.2.1 a b) A 0 N) A 1 x A b) = bgf (mI M A) N x b
      simp only [up2, bgf, true_and]
      by_cases c0 : b = 0
      · subst c0; rfl
      · by_cases c1 : b = 1
        · subst c1; rfl
        · rw [if_neg c0, if_neg c1]
          by_cases c2 : b < 18
          · rw [if_pos c2, if_neg (by omega), if_neg (by omega), if_neg c1, if_neg c0, if_neg (by omega)]
            rfl
          · rw [if_neg c2]
            by_cases c3 : b < 146
            · rw [if_pos c3, if_neg (by omega), if_neg (by omega), if_neg c1, if_neg c0, if_pos (by omega)]
            · rw [if_neg c3]
              by_cases c4 : b < 850
              · rw [if_pos c4, if_neg (by omega)]
                by_cases c5 : (b - 146) % 44 = 0
                · rw [if_pos (by omega), if_pos c5]; try rw [if_neg c0, if_neg c1]
                · rw [if_neg (by omega), if_neg c5, if_neg c1, if_neg c0, if_pos (by omega)]
              · rw [if_neg c4]
                by_cases c5 : b < 10209
                · rw [if_pos c5, if_neg (by omega), if_neg (by omega), if_neg c1, if_neg c0, if_pos (by omega)]
                · rw [if_neg c5]
                  by_cases c6 : b < 10465
                  · rw [if_pos c6, if_pos (by omega)]; try rw [if_neg c0, if_neg c1]
                  · rw [if_neg c6, if_neg (by omega), if_neg (by omega), if_neg c1, if_neg c0, if_neg (by omega)]
                    rfl
  rw [f_X10_begin_3, if_pos (by rw [show (10465 : Int32) = nI 10465 from rfl]; exact nI_le (Nat.le_refl _) (by decide)), chk_t hz.1, bnd_e, hz.2.1, chk_t hz.2.2.1, chk_t i0, bnd_e, bnd_e]
  have e0 : (0 : Int32).toNatClampNeg = 0 := by decide
  have e1 : (1 : Int32).toNatClampNeg = 1 := by decide
  have hz1 := hz.s A 0 N
  rw [show sI Z A ((0 : Int32)).toNatClampNeg N = sI Z A 0 N from rfl, hz1.2.1, chk_t hz1.2.2.1]
  by_cases ht : t = 0
  · rw [if_pos ht, if_pos ht, chk_t (show inB (1 : Int32) (mLn (sI Z A 0 N) A) from i1), bnd_e, show sI (sI Z A 0 N) A ((1 : Int32)).toNatClampNeg 0 = sI (sI Z A 0 N) A 1 0 from rfl]
    have := key 0
    rw [fin] at this
    exact this
  · rw [if_neg ht, if_neg ht, chk_t (show inB (1 : Int32) (mLn (sI Z A 0 N) A) from i1), bnd_e, show sI (sI Z A 0 N) A ((1 : Int32)).toNatClampNeg 1 = sI (sI Z A 0 N) A 1 1 from rfl]
    have := key 1
    rw [fin] at this
    exact this
