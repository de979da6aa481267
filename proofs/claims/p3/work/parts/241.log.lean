/-! ===== the class: the logs ===== -/
/-- a log of the class that was told xs -/
def LG (M : Mem) (l m : Nat) (xs : List Row4) : Prop := mI M l 0 = nI m ∧ mI M l 2 = nI (min xs.length m) ∧ mI M l 3 = nI (xs.length % m) ∧ ∀ j q, xs[j]? = some q → xs.length ≤ j + m → mI M (l + 1) (4 * (j % m)) = q.1 ∧ mI M (l + 1) (4 * (j % m) + 1) = q.2.1 ∧ mI M (l + 1) (4 * (j % m) + 2) = q.2.2.1 ∧ mI M (l + 1) (4 * (j % m) + 3) = q.2.2.2
theorem LG.cg {M M' : Mem} {l m : Nat} {xs : List Row4} (g : LG M l m xs) (h0 : ∀ k, mI M' l k = mI M l k) (h1 : ∀ k, mI M' (l + 1) k = mI M (l + 1) k) : LG M' l m xs := by
  obtain ⟨g0, g2, g3, g4⟩ := g
  refine ⟨by rw [h0, g0], by rw [h0, g2], by rw [h0, g3], fun j q hj hl => ?_⟩
  rw [h1, h1, h1, h1]; exact g4 j q hj hl
set_option maxHeartbeats 1000000 in
theorem f_add {M : Mem} {l m : Nat} {xs : List Row4} (hm : m = 30 ∨ m = 40) (i1 : isO M 3 l) (r1 : mR M l 1 = l + 1) (i2 : isO M 100 (l + 1)) (n2 : mLn M (l + 1) = 4 * m) (g : LG M l m xs) (a b c d : Int32) : ∃ M', f_X3_add l a b c d M = some M' ∧ LG M' l m (xs ++ [(a, b, c, d)]) ∧ M'.1 = M.1 ∧ (∀ o k, mL M' o k = mL M o k) ∧ ∀ o, o ≠ l → o ≠ l + 1 → ∀ k, mI M' o k = mI M o k := by
  obtain ⟨g0, g2, g3, g4⟩ := g
  generalize hp : xs.length % m = p at g3
  have pm : p < m := by rw [← hp]; exact Nat.mod_lt _ (by omega)
  have io : ∀ M' : Mem, M'.1 = M.1 → isO M' 3 l ∧ mR M' l 1 = l + 1 ∧ isO M' 100 (l + 1) ∧ mLn M' (l + 1) = 4 * m := fun M' e => by
    unfold isO mN mC mR mLn at *
    rw [e]
    exact ⟨i1, r1, i2, n2⟩
  generalize hMa : sI M (l + 1) (4 * p) a = Ma
  generalize hMb : sI Ma (l + 1) (4 * p + 1) b = Mb
  generalize hMc : sI Mb (l + 1) (4 * p + 2) c = Mc
  generalize hMd : sI Mc (l + 1) (4 * p + 3) d = Md
  have sa : Ma.1 = M.1 := by rw [← hMa]; rfl
  have sb : Mb.1 = M.1 := by rw [← hMb]; exact sa
  have sc : Mc.1 = M.1 := by rw [← hMc]; exact sb
  have sd : Md.1 = M.1 := by rw [← hMd]; exact sc
  obtain ⟨a1, a2, a3, a4⟩ := io Ma sa
  obtain ⟨b1, b2, b3, b4⟩ := io Mb sb
  obtain ⟨c1, c2, c3, c4⟩ := io Mc sc
  obtain ⟨d1, d2, d3, d4⟩ := io Md sd
  have od : ∀ o, o ≠ l + 1 → ∀ k, mI Md o k = mI M o k := fun o n k => by
    rw [← hMd, mI_o _ _ _ _ _ n, ← hMc, mI_o _ _ _ _ _ n, ← hMb, mI_o _ _ _ _ _ n, ← hMa, mI_o _ _ _ _ _ n]
  have cd : ∀ k, mI Md (l + 1) k = if k = 4 * p + 3 then d else if k = 4 * p + 2 then c else if k = 4 * p + 1 then b else if k = 4 * p then a else mI M (l + 1) k := fun k => by
    rw [← hMd, mI_sI, ← hMc, mI_sI, ← hMb, mI_sI, ← hMa, mI_sI]
    simp only [true_and]
  generalize hu : (if m ≤ p + 1 then 0 else p + 1) = u
  generalize hMe : sI Md l 3 (nI u) = Me
  have se : Me.1 = M.1 := by rw [← hMe]; exact sd
  obtain ⟨e1, e2, e3, e4⟩ := io Me se
  have f0 : mI Me l 0 = nI m := by rw [← hMe, mI_n _ _ _ _ (by decide), od _ (by omega)]; exact g0
  have f2 : mI Me l 2 = nI (min xs.length m) := by rw [← hMe, mI_n _ _ _ _ (by decide), od _ (by omega)]; exact g2
  generalize hw : min (xs.length + 1) m = w
  refine ⟨sI Me l 2 (nI w), ?_, ⟨?_, ?_, ?_, fun j q hj hl => ?_⟩, se, fun o k => ?_, fun o n1 n2 k => ?_⟩
  · have k1 : nI p * (4 : Int32) = nI (4 * p) := by rw [show (4 : Int32) = nI 4 from rfl, pk_mul, Nat.mul_comm]
    have k2 : nI (4 * p) + (2 : Int32) = nI (4 * p + 2) := by rw [show (2 : Int32) = nI 2 from rfl, nI_add]
    have k3 : nI (4 * p) + (3 : Int32) = nI (4 * p + 3) := by rw [show (3 : Int32) = nI 3 from rfl, nI_add]
    have inb : ∀ i, i < 4 → inB (nI (4 * p + i)) (4 * m) := fun i hi => inB_n (by omega) (by omega)
    have last : f_X3_add_71 l (nI u) l Md = some (sI Me l 2 (nI w)) := by
      rw [f_X3_add_71, chk_t d1, hMe, bnd_e, chk_t e1, f0, f2]
      by_cases c : m ≤ xs.length
      · rw [if_pos (nI_le (by omega) (by omega)), bnd_e, show w = m by omega]
      · rw [if_neg (nI_ge (by omega) (by omega)), nI_1, bnd_e, show min xs.length m + 1 = w by omega]
    have in0 : inB (nI (4 * p)) (4 * m) := inb 0 (by decide)
    have in1 : inB (nI (4 * p + 1)) (4 * m) := inb 1 (by decide)
    have in2 : inB (nI (4 * p + 2)) (4 * m) := inb 2 (by decide)
    have in3 : inB (nI (4 * p + 3)) (4 * m) := inb 3 (by decide)
    rw [f_X3_add, chk_t i1, g3, k1, bnd_e, r1, bnd_e, chk_t i2, n2, chk_t in0, sI_d (by omega), hMa, bnd_e, a2, bnd_e, chk_t a3, a4, nI_1, chk_t in1, sI_d (by omega), hMb, bnd_e, b2, bnd_e, chk_t b3, b4, k2, chk_t in2, sI_d (by omega), hMc, bnd_e, c2, bnd_e, chk_t c3, c4, k3, chk_t in3, sI_d (by omega), hMd, bnd_e, od l (by omega), g0, od l (by omega), g3, nI_1]
    by_cases c : m ≤ p + 1
    · rw [if_pos (nI_le c (by omega))]
      rw [← hu, if_pos c] at last
      exact last
    · rw [if_neg (nI_ge (by omega) (by omega))]
      rw [← hu, if_neg c] at last
      exact last
  · rw [mI_n _ _ _ _ (by decide)]; exact f0
  · rw [mI_s, List.length_append, List.length_singleton, hw]
  · rw [mI_n _ _ _ _ (by decide), ← hMe, mI_s, List.length_append, List.length_singleton, ← hu, ← hp]
    congr 1
    rcases hm with rfl | rfl <;> split <;> omega
  · have mo : ∀ k, mI (sI Me l 2 (nI w)) (l + 1) k = mI Md (l + 1) k := fun k => by rw [mI_o _ _ _ _ _ (by omega), ← hMe, mI_o _ _ _ _ _ (by omega)]
    rw [mo, mo, mo, mo]
    rw [List.length_append, List.length_singleton] at hl
    by_cases c : j < xs.length
    · rw [List.getElem?_append_left c] at hj
      have hne : j % m ≠ p := by
        rw [← hp]
        rcases hm with rfl | rfl <;> omega
      rw [cd, cd, cd, cd, if_neg (by omega), if_neg (by omega), if_neg (by omega), if_neg (by omega), if_neg (by omega), if_neg (by omega), if_neg (by omega), if_neg (by omega), if_neg (by omega), if_neg (by omega), if_neg (by omega), if_neg (by omega), if_neg (by omega), if_neg (by omega), if_neg (by omega), if_neg (by omega)]
      exact g4 j q hj (by omega)
    · have hj2 := hj
      rw [List.getElem?_append_right (by omega)] at hj
      have : j - xs.length = 0 := by
        cases e : j - xs.length with
        | zero => rfl
        | succ n => rw [e] at hj; simp at hj
      rw [this] at hj
      simp only [List.getElem?_cons_zero, Option.some.injEq] at hj
      subst hj
      have ej : j % m = p := by rw [show j = xs.length by omega, hp]
      rw [ej, cd, cd, cd, cd]
      refine ⟨?_, ?_, ?_, ?_⟩
      · rw [if_neg (by omega), if_neg (by omega), if_neg (by omega), if_pos rfl]
      · rw [if_neg (by omega), if_neg (by omega), if_pos rfl]
      · rw [if_neg (by omega), if_pos rfl]
      · rw [if_pos rfl]
  · rw [← hMe, ← hMd, ← hMc, ← hMb, ← hMa]; rfl
  · rw [mI_o _ _ _ _ _ n1, ← hMe, mI_o _ _ _ _ _ n1, od o n2]
