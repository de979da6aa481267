/-! ===== grids of the reference, in closed form ===== -/
theorem cross_M (M M' : Mem) (n : Nat) : ∀ a b c d e : Int32, f_X10_crossOf_5 M n a b c d e = f_X10_crossOf_5 M' n a b c d e := by
  induction n with
  | zero => intros; rfl
  | succ n ih =>
    intro a b c d e
    simp only [f_X10_crossOf_5, bnd_e, ih]
theorem cross_mono (M : Mem) (m n : Nat) : ∀ (a b c d e x : Int32), f_X10_crossOf_5 M n a b c d e = some x → f_X10_crossOf_5 M (n + m) a b c d e = some x := by
  induction n with
  | zero => intro a b c d e x h; exact (pk_none h).elim
  | succ n ih =>
    intro a b c d e x h
    rw [show n + 1 + m = (n + m) + 1 by omega, f_X10_crossOf_5]
    rw [f_X10_crossOf_5] at h
    have hs := pk_ite h
    by_cases h1 : a ≤ e
    · rw [if_pos h1]; exact hs.1 h1
    · rw [if_neg h1]
      have h2 := hs.2 h1
      obtain ⟨q1, h2⟩ := pk_chk h2
      obtain ⟨q2, h2⟩ := pk_chk h2
      obtain ⟨q3, h2⟩ := pk_chk h2
      obtain ⟨q4, h2⟩ := pk_chk h2
      rw [chk_t q1, chk_t q2, chk_t q1, chk_t q2, bnd_e, bnd_e]
      exact ih _ _ _ _ _ _ h2
def crv (k N v : Nat) : Int32 := (f_X10_crossOf_5 memE 12 (nI k) (nI v) (nI N) 0 0).getD 0
def kk (N : Nat) : Nat := if N ≤ 4 then 2 else if N ≤ 9 then 3 else 4
set_option maxRecDepth 1000000 in
theorem cross_k : (List.range 17).all (fun N => (List.range N).all fun v => decide (N < 2) || (f_X10_crossOf_5 memE 12 (nI (kk N)) (nI v) (nI N) 0 0).isSome) = true := by decide +kernel
theorem f_cross {N v n : Nat} {M : Mem} (h1 : 2 ≤ N) (h2 : N ≤ 16) (hv : v < N) (hn : 12 ≤ n) : f_X10_crossOf n (nI (kk N)) (nI v) (nI N) M = some (crv (kk N) N v) := by
  have h := List.all_eq_true.mp (List.all_eq_true.mp cross_k N (List.mem_range.mpr (by omega))) v (List.mem_range.mpr hv)
  have h3 : ¬ N < 2 := by omega
  simp only [h3, decide_false, Bool.false_or] at h
  obtain ⟨x, hx⟩ := Option.isSome_iff_exists.mp h
  have e : crv (kk N) N v = x := by rw [crv, hx]; rfl
  rw [f_X10_crossOf, cross_M M memE, e, show n = 12 + (n - 12) by omega]
  exact cross_mono _ _ _ _ _ _ _ _ _ hx
def pB (M : Mem) (A k N lo : Nat) : Mem := (M.1, (fun a b => if a = A ∧ 2 + lo ≤ b ∧ b < 2 + N then crv k N (b - 2) else M.2.1 a b), M.2.2)
theorem mf_l {r A N : Nat} (h1 : 2 ≤ N) (h2 : N ≤ 16) (d j : Nat) : ∀ (M : Mem), d ≤ N → RK M r A → f_X10_makeFilled_23 (d + j + 13) r (nI N) (nI (kk N)) (nI (N - d)) M = some (nI N, pB M A (kk N) N (N - d)) := by
  induction d with
  | zero =>
    intro M _ h
    have e : pB M A (kk N) N N = M := by
      have : (fun a b => if a = A ∧ 2 + N ≤ b ∧ b < 2 + N then crv (kk N) N (b - 2) else M.2.1 a b) = M.2.1 := by
        funext a b
        rw [if_neg (by omega)]
      simp only [pB, this]
    rw [show 0 + j + 13 = (j + 12) + 1 by omega, Nat.sub_zero, f_X10_makeFilled_23, if_pos (nI_le (Nat.le_refl _) (by omega)), e]
  | succ d ih =>
    intro M hd h
    have hk : N - (d + 1) < N := by omega
    have e1 : nI (N - (d + 1)) + 1 = nI (N - d) := by rw [nI_1]; congr 1; omega
    have e0 : (2 : Int32) + nI (N - (d + 1)) = nI (2 + (N - (d + 1))) := by rw [show (2 : Int32) = nI 2 from rfl, nI_add]
    rw [show d + 1 + j + 13 = (d + j + 13) + 1 by omega, f_X10_makeFilled_23, if_neg (nI_ge hk (by omega)), chk_t h.1, bnd_e, h.2.1, chk_t h.2.2.1, f_cross h1 h2 hk (by omega), obd_s, e0, chk_t (rk_in h (by omega)), bnd_e, bnd_e, e1, nI_clamp (by omega), ih _ (by omega) (h.s _ _ _)]
    refine congrArg (fun z => some (nI N, z)) (Prod.ext rfl (Prod.ext ?_ rfl))
    funext a b
    show (if a = A ∧ 2 + (N - d) ≤ b ∧ b < 2 + N then crv (kk N) N (b - 2) else up2 M.2.1 A (2 + (N - (d + 1))) (crv (kk N) N (N - (d + 1))) a b) = if a = A ∧ 2 + (N - (d + 1)) ≤ b ∧ b < 2 + N then crv (kk N) N (b - 2) else M.2.1 a b
    by_cases q1 : a = A ∧ 2 + (N - d) ≤ b ∧ b < 2 + N
    · rw [if_pos q1, if_pos (by omega)]
    · rw [if_neg q1]
      by_cases q2 : a = A ∧ b = 2 + (N - (d + 1))
      · rw [up2, if_pos q2, if_pos (by omega), q2.2]
        congr 1
        omega
      · rw [up2, if_neg q2, if_neg (by omega)]
/-- the row behind makeFilled -/
def mff (f : Nat → Int32) (N : Nat) (b : Nat) : Int32 := if 2 ≤ b ∧ b < 2 + N then crv (kk N) N (b - 2) else bgf f (nI N) 0 b
theorem f_filled {r A N n : Nat} {M : Mem} (h1 : 2 ≤ N) (h2 : N ≤ 16) (h : RK M r A) (hn : 11100 ≤ n) : f_X10_makeFilled n r (nI N) M = some (nI N, wA M A (mff (mI M A) N)) := by
  have sq : ∀ v : Nat, v ≤ 4 → nI v * nI v = nI (v * v) := fun v _ => pk_mul v v
  have stop : ∀ (n : Nat), 11050 ≤ n → f_X10_makeFilled_2 n r (nI N) (nI (kk N)) M = some (nI N, wA M A (mff (mI M A) N)) := by
    intro n hn
    have hle : nI N ≤ nI (kk N) * nI (kk N) := by
      unfold kk
      by_cases q1 : N ≤ 4
      · rw [if_pos q1, sq 2 (by decide)]; exact nI_le (by omega) (by decide)
      · rw [if_neg q1]
        by_cases q2 : N ≤ 9
        · rw [if_pos q2, sq 3 (by decide)]; exact nI_le (by omega) (by decide)
        · rw [if_neg q2, sq 4 (by decide)]; exact nI_le (by omega) (by decide)
    rw [show n = (n - 1) + 1 by omega, f_X10_makeFilled_2, if_pos hle, chk_t h.1, f_begin h (by omega), if_pos rfl, obd_s]
    have hw : RK (wA M A (bgf (mI M A) (nI N) 0)) r A := h
    have hl := mf_l h1 h2 N (n - 1 - N - 13) _ (Nat.le_refl _) hw
    rw [Nat.sub_self] at hl
    have en : n - 1 = N + (n - 1 - N - 13) + 13 := by omega
    rw [← en] at hl
    refine Eq.trans hl ?_
    refine congrArg (fun z => some (nI N, z)) (wA_e rfl rfl (fun a b hne => ?_) (fun b => ?_))
    · show (if a = A ∧ 2 + 0 ≤ b ∧ b < 2 + N then crv (kk N) N (b - 2) else if a = A then bgf (mI M A) (nI N) 0 b else M.2.1 a b) = M.2.1 a b
      rw [if_neg (fun q => hne q.1), if_neg hne]
    · show (if A = A ∧ 2 + 0 ≤ b ∧ b < 2 + N then crv (kk N) N (b - 2) else if A = A then bgf (mI M A) (nI N) 0 b else M.2.1 A b) = mff (mI M A) N b
      unfold mff
      by_cases q : 2 ≤ b ∧ b < 2 + N
      · rw [if_pos ⟨rfl, q⟩, if_pos q]
      · rw [if_neg (fun z => q z.2), if_neg q, if_pos rfl]
  have go : ∀ (v n : Nat), v < kk N → 1 ≤ v → f_X10_makeFilled_2 (n + 1) r (nI N) (nI v) M = f_X10_makeFilled_2 n r (nI N) (nI (v + 1)) M := by
    intro v n hv hv1
    have hlt : v * v < N := by
      unfold kk at hv
      by_cases q1 : N ≤ 4
      · rw [if_pos q1] at hv
        have : v = 1 := by omega
        subst this; omega
      · rw [if_neg q1] at hv
        by_cases q2 : N ≤ 9
        · rw [if_pos q2] at hv
          have : v = 1 ∨ v = 2 := by omega
          rcases this with rfl | rfl <;> omega
        · rw [if_neg q2] at hv
          have : v = 1 ∨ v = 2 ∨ v = 3 := by omega
          rcases this with rfl | rfl | rfl <;> omega
    have hv4 : v ≤ 4 := by unfold kk at hv; split at hv <;> (try split at hv) <;> omega
    rw [f_X10_makeFilled_2, sq v hv4, if_neg (nI_ge hlt (by omega)), bnd_e, nI_1]
  have hkk : kk N = 2 ∨ kk N = 3 ∨ kk N = 4 := by
    unfold kk
    split
    · exact Or.inl rfl
    · split
      · exact Or.inr (Or.inl rfl)
      · exact Or.inr (Or.inr rfl)
  rw [f_X10_makeFilled, show (1 : Int32) = nI 1 from rfl, show n = (n - 1) + 1 by omega, go 1 _ (by omega) (by decide)]
  rcases hkk with q | q | q
  · have := stop (n - 1) (by omega); rw [q] at this; exact this
  · rw [show n - 1 = (n - 2) + 1 by omega, go 2 _ (by omega) (by decide)]
    have := stop (n - 2) (by omega); rw [q] at this; exact this
  · rw [show n - 1 = (n - 2) + 1 by omega, go 2 _ (by omega) (by decide), show n - 2 = (n - 3) + 1 by omega, go 3 _ (by omega) (by decide)]
    have := stop (n - 3) (by omega); rw [q] at this; exact this
