/-! ===== pure rows: the memory, and the small methods of the reference ===== -/
theorem chk_t {α : Type} {c : Prop} [Decidable c] {x : Option α} (h : c) : chk c x = x := if_pos h
theorem bnd_e {α β : Type} (a : α) (f : α → Option β) : bnd a f = f a := rfl
theorem obd_s {α β : Type} (a : α) (k : α → Option β) : obd (some a) k = k a := rfl
theorem obd2_s {α β : Type} (a : α) (M : Mem) (k : α → Mem → Option β) : obd2 (some (a, M)) k = k a M := rfl
theorem mI_sI (M : Mem) (o k : Nat) (x : Int32) (a b : Nat) : mI (sI M o k x) a b = if a = o ∧ b = k then x else mI M a b := rfl
theorem mI_s (M : Mem) (o k : Nat) (x : Int32) : mI (sI M o k x) o k = x := by simp [mI_sI]
theorem mI_n (M : Mem) (o k : Nat) (x : Int32) {b : Nat} (h : b ≠ k) : mI (sI M o k x) o b = mI M o b := by simp [mI_sI, h]
theorem mI_o (M : Mem) (o k : Nat) (x : Int32) {a : Nat} (b : Nat) (h : a ≠ o) : mI (sI M o k x) a b = mI M a b := by simp [mI_sI, h]
/-- the reference r with its row A -/
def RK (M : Mem) (r A : Nat) : Prop := isO M 10 r ∧ mR M r 0 = A ∧ isO M 100 A ∧ mLn M A = 10465
theorem RK.s {M : Mem} {r A : Nat} (h : RK M r A) (o k : Nat) (x : Int32) : RK (sI M o k x) r A := h
theorem inB_n {n N : Nat} (h : n < N) (hN : N < 2 ^ 31) : inB (nI n) N := vp_in_nI h hN
theorem rk_in {M : Mem} {r A k : Nat} (h : RK M r A) (hk : k < 10465) : inB (nI k) (mLn M A) := by
  rw [h.2.2.2]; exact inB_n hk (by decide)
theorem f_get {M : Mem} {r A v w : Nat} (h : RK M r A) (hv : v < 16) (hw : w < 8) : f_X10_get r (nI v) (nI w) M = some (mI M A (18 + 8 * v + w)) := by
  have e : ((18 : Int32) + ((8 : Int32) * nI v)) + nI w = nI (18 + 8 * v + w) := by
    rw [show (18 : Int32) = nI 18 from rfl, show (8 : Int32) = nI 8 from rfl, pk_mul, nI_add, nI_add]
  rw [f_X10_get, chk_t h.1, bnd_e, h.2.1, chk_t h.2.2.1, e, chk_t (rk_in h (by omega)), nI_clamp (by omega)]
theorem f_let {M : Mem} {r A v w : Nat} {x : Int32} (h : RK M r A) (hv : v < 16) (hw : w < 8) : f_X10_let r (nI v) (nI w) x M = some (sI M A (18 + 8 * v + w) x) := by
  have e : ((18 : Int32) + ((8 : Int32) * nI v)) + nI w = nI (18 + 8 * v + w) := by
    rw [show (18 : Int32) = nI 18 from rfl, show (8 : Int32) = nI 8 from rfl, pk_mul, nI_add, nI_add]
  rw [f_X10_let, chk_t h.1, bnd_e, h.2.1, chk_t h.2.2.1, e, chk_t (rk_in h (by omega)), nI_clamp (by omega), bnd_e]
theorem f_of {M : Mem} {r A v w : Nat} (h : RK M r A) (hv : v < 16) (hw : w < 44) : f_X10_of r (nI v) (nI w) M = some (mI M A (146 + 44 * v + w)) := by
  have e : ((146 : Int32) + ((44 : Int32) * nI v)) + nI w = nI (146 + 44 * v + w) := by
    rw [show (146 : Int32) = nI 146 from rfl, show (44 : Int32) = nI 44 from rfl, pk_mul, nI_add, nI_add]
  rw [f_X10_of, chk_t h.1, bnd_e, h.2.1, chk_t h.2.2.1, e, chk_t (rk_in h (by omega)), nI_clamp (by omega)]
theorem f_put {M : Mem} {r A v w : Nat} {x : Int32} (h : RK M r A) (hv : v < 16) (hw : w < 44) : f_X10_put r (nI v) (nI w) x M = some (sI M A (146 + 44 * v + w) x) := by
  have e : ((146 : Int32) + ((44 : Int32) * nI v)) + nI w = nI (146 + 44 * v + w) := by
    rw [show (146 : Int32) = nI 146 from rfl, show (44 : Int32) = nI 44 from rfl, pk_mul, nI_add, nI_add]
  rw [f_X10_put, chk_t h.1, bnd_e, h.2.1, chk_t h.2.2.1, e, chk_t (rk_in h (by omega)), nI_clamp (by omega), bnd_e]
theorem f_baseOf {M : Mem} {r A v : Nat} (h : RK M r A) (hv : v < 16) : f_X10_baseOf r (nI v) M = some (mI M A (2 + v)) := by
  have e : (2 : Int32) + nI v = nI (2 + v) := by rw [show (2 : Int32) = nI 2 from rfl, nI_add]
  rw [f_X10_baseOf, chk_t h.1, bnd_e, h.2.1, chk_t h.2.2.1, e, chk_t (rk_in h (by omega)), nI_clamp (by omega)]
/-- the first loop of begin: all behind the bases is 0 -/
def zA (M : Mem) (A lo hi : Nat) : Mem := (M.1, (fun a b => if a = A ∧ lo ≤ b ∧ b < hi then 0 else M.2.1 a b), M.2.2)
theorem begin_l1 {r A : Nat} {v1 v2 : Int32} (d j : Nat) : ∀ (M : Mem), d ≤ 10465 → RK M r A → f_X10_begin_3 (d + j + 1) r v1 v2 (nI (10465 - d)) M = f_X10_begin_3 (j + 1) r v1 v2 (nI 10465) (zA M A (10465 - d) 10465) := by
  induction d with
  | zero =>
    intro M _ h
    have e : zA M A 10465 10465 = M := by
      have : (fun a b => if a = A ∧ 10465 ≤ b ∧ b < 10465 then (0 : Int32) else M.2.1 a b) = M.2.1 := by
        funext a b
        rw [if_neg (by omega)]
      simp only [zA, Nat.sub_zero, this]
    rw [Nat.zero_add, Nat.sub_zero, e]
  | succ d ih =>
    intro M hd h
    have hk : 10465 - (d + 1) < 10465 := by omega
    have e1 : nI (10465 - (d + 1)) + 1 = nI (10465 - d) := by rw [nI_1]; congr 1; omega
    have hn : ¬ (10465 : Int32) ≤ nI (10465 - (d + 1)) := by
      rw [show (10465 : Int32) = nI 10465 from rfl]
      exact nI_ge hk (by decide)
    rw [show d + 1 + j + 1 = (d + j + 1) + 1 by omega, f_X10_begin_3, if_neg hn, chk_t h.1, bnd_e, h.2.1, chk_t h.2.2.1, chk_t (rk_in h hk), bnd_e, bnd_e, e1, nI_clamp (by omega), ih _ (by omega) (h.s _ _ _)]
    have e2 : zA (sI M A (10465 - (d + 1)) 0) A (10465 - d) 10465 = zA M A (10465 - (d + 1)) 10465 := by
      simp only [zA, sI]
      refine Prod.ext rfl (Prod.ext ?_ rfl)
      funext a b
      show (if a = A ∧ 10465 - d ≤ b ∧ b < 10465 then 0 else up2 M.2.1 A (10465 - (d + 1)) 0 a b) = if a = A ∧ 10465 - (d + 1) ≤ b ∧ b < 10465 then 0 else M.2.1 a b
      by_cases h1 : a = A ∧ 10465 - d ≤ b ∧ b < 10465
      · rw [if_pos h1, if_pos (by omega)]
      · rw [if_neg h1]
        by_cases h2 : a = A ∧ b = 10465 - (d + 1)
        · rw [up2, if_pos h2, if_pos (by omega)]
        · rw [up2, if_neg h2, if_neg (by omega)]
    rw [e2]
