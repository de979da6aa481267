/-! ===== the reference's registers, one by one ===== -/
theorem RV.toRK {M : Mem} {tw : Bool} {t : Int32} {S : St} {pb pt : List Row4} (h : RV M tw t S pb pt) : RK M 120 121 := h.1.toRK
theorem RV.rg {M : Mem} {tw : Bool} {t : Int32} {S : St} {pb pt : List Row4} (h : RV M tw t S pb pt) {k i : Nat} (hv : vk k i) : mI M 121 (ad k i) = xR S k i := h.2.2.1 k i hv
theorem RV.st {M : Mem} {tw : Bool} {t : Int32} {S : St} {pb pt : List Row4} (h : RV M tw t S pb pt) {k i : Nat} (hv : vk k i) (x : Int32) : RV (sI M 121 (ad k i) x) tw t (uR S k i x) pb pt := by
  obtain ⟨hS, ht, ha, hw, hl, hb1, hb2⟩ := h
  have lim := ad_lim hv
  refine ⟨hS.e rfl, ?_, fun k' i' hv' => ?_, fun a hA => ?_, ⟨?_, hl.2.1, hl.2.2.cg fun j _ hj => ⟨?_, ?_⟩⟩, hb1.cg ?_ (fun b _ _ => ?_), hb2.cg ?_ (fun b _ _ => ?_)⟩
  · rw [mI_o _ _ _ _ _ (by decide)]; exact ht
  · rw [mI_sI, xR_uR]
    by_cases e : k' = k ∧ i' = i
    · rw [if_pos e, e.1, e.2, if_pos ⟨rfl, rfl⟩]
    · rw [if_neg e, if_neg (fun q => e (ad_inj hv' hv q.2))]
      exact ha k' i' hv'
  · obtain ⟨h1, h2, h3, h4⟩ := hw a hA
    have w : ∀ j, j < 41 → mI (sI M 121 (ad k i) x) 121 (149 + 44 * a + j) = mI M 121 (149 + 44 * a + j) := fun j hj => mI_n _ _ _ _ (fun e => ad_w hv hA hj e.symm)
    refine ⟨(w 0 (by decide)).trans h1, h2, fun j q hj => ?_, fun j hj1 hj2 => ?_⟩
    · have hl := (List.getElem?_eq_some_iff.mp hj).1
      have h2' : (xW S a).length ≤ 20 := h2
      have hl' : j < (xW S a).length := hl
      rw [show 150 + 44 * a + 2 * j = 149 + 44 * a + (1 + 2 * j) by omega, show 151 + 44 * a + 2 * j = 149 + 44 * a + (2 + 2 * j) by omega, w _ (by omega), w _ (by omega), show 149 + 44 * a + (1 + 2 * j) = 150 + 44 * a + 2 * j by omega, show 149 + 44 * a + (2 + 2 * j) = 151 + 44 * a + 2 * j by omega]
      exact h3 j q hj
    · rw [show 150 + 44 * a + 2 * j = 149 + 44 * a + (1 + 2 * j) by omega, show 151 + 44 * a + 2 * j = 149 + 44 * a + (2 + 2 * j) by omega, w _ (by omega), w _ (by omega), show 149 + 44 * a + (1 + 2 * j) = 150 + 44 * a + 2 * j by omega, show 149 + 44 * a + (2 + 2 * j) = 151 + 44 * a + 2 * j by omega]
      exact h4 j hj1 hj2
  · rw [mI_n _ _ _ _ (by omega)]; exact hl.1
  · have := hl.2.1
    exact mI_n _ _ _ _ (by omega)
  · exact mI_o _ _ _ _ _ (by decide)
  · exact mI_n _ _ _ _ (by omega)
  · exact mI_n _ _ _ _ (by omega)
  · exact mI_n _ _ _ _ (by omega)
  · exact mI_n _ _ _ _ (by omega)
theorem Fr.tad {M : Mem} {k i : Nat} {x : Int32} : Fr PA M (sI M 121 (ad k i) x) := Fr.tsI ⟨by decide, by decide⟩
theorem vk_n {k i : Nat} (hk : k < 11) (hi : i < 16) : vk k i := Or.inl ⟨hk, hi⟩
section
variable {M : Mem} {tw : Bool} {t : Int32} {S : St} {pb pt : List Row4}
theorem RV.get0 (h : RV M tw t S pb pt) {v : Nat} (hv : v < 16) : f_X10_get 120 (nI v) (0 : Int32) M = some (xR S 0 v) := (f_get h.toRK hv (w := 0) (by decide)).trans (congrArg some (h.rg (k := 0) (vk_n (by decide) hv)))
theorem RV.let0 (h : RV M tw t S pb pt) {v : Nat} (hv : v < 16) (x : Int32) : f_X10_let 120 (nI v) (0 : Int32) x M = some (sI M 121 (ad 0 v) x) := f_let h.toRK hv (w := 0) (by decide)
theorem RV.get1 (h : RV M tw t S pb pt) {v : Nat} (hv : v < 16) : f_X10_get 120 (nI v) (1 : Int32) M = some (xR S 1 v) := (f_get h.toRK hv (w := 1) (by decide)).trans (congrArg some (h.rg (k := 1) (vk_n (by decide) hv)))
theorem RV.let1 (h : RV M tw t S pb pt) {v : Nat} (hv : v < 16) (x : Int32) : f_X10_let 120 (nI v) (1 : Int32) x M = some (sI M 121 (ad 1 v) x) := f_let h.toRK hv (w := 1) (by decide)
theorem RV.get2 (h : RV M tw t S pb pt) {v : Nat} (hv : v < 16) : f_X10_get 120 (nI v) (2 : Int32) M = some (xR S 2 v) := (f_get h.toRK hv (w := 2) (by decide)).trans (congrArg some (h.rg (k := 2) (vk_n (by decide) hv)))
theorem RV.let2 (h : RV M tw t S pb pt) {v : Nat} (hv : v < 16) (x : Int32) : f_X10_let 120 (nI v) (2 : Int32) x M = some (sI M 121 (ad 2 v) x) := f_let h.toRK hv (w := 2) (by decide)
theorem RV.get3 (h : RV M tw t S pb pt) {v : Nat} (hv : v < 16) : f_X10_get 120 (nI v) (3 : Int32) M = some (xR S 3 v) := (f_get h.toRK hv (w := 3) (by decide)).trans (congrArg some (h.rg (k := 3) (vk_n (by decide) hv)))
theorem RV.let3 (h : RV M tw t S pb pt) {v : Nat} (hv : v < 16) (x : Int32) : f_X10_let 120 (nI v) (3 : Int32) x M = some (sI M 121 (ad 3 v) x) := f_let h.toRK hv (w := 3) (by decide)
theorem RV.get4 (h : RV M tw t S pb pt) {v : Nat} (hv : v < 16) : f_X10_get 120 (nI v) (4 : Int32) M = some (xR S 4 v) := (f_get h.toRK hv (w := 4) (by decide)).trans (congrArg some (h.rg (k := 4) (vk_n (by decide) hv)))
theorem RV.let4 (h : RV M tw t S pb pt) {v : Nat} (hv : v < 16) (x : Int32) : f_X10_let 120 (nI v) (4 : Int32) x M = some (sI M 121 (ad 4 v) x) := f_let h.toRK hv (w := 4) (by decide)
theorem RV.get5 (h : RV M tw t S pb pt) {v : Nat} (hv : v < 16) : f_X10_get 120 (nI v) (5 : Int32) M = some (xR S 5 v) := (f_get h.toRK hv (w := 5) (by decide)).trans (congrArg some (h.rg (k := 5) (vk_n (by decide) hv)))
theorem RV.let5 (h : RV M tw t S pb pt) {v : Nat} (hv : v < 16) (x : Int32) : f_X10_let 120 (nI v) (5 : Int32) x M = some (sI M 121 (ad 5 v) x) := f_let h.toRK hv (w := 5) (by decide)
theorem RV.get6 (h : RV M tw t S pb pt) {v : Nat} (hv : v < 16) : f_X10_get 120 (nI v) (6 : Int32) M = some (xR S 6 v) := (f_get h.toRK hv (w := 6) (by decide)).trans (congrArg some (h.rg (k := 6) (vk_n (by decide) hv)))
theorem RV.let6 (h : RV M tw t S pb pt) {v : Nat} (hv : v < 16) (x : Int32) : f_X10_let 120 (nI v) (6 : Int32) x M = some (sI M 121 (ad 6 v) x) := f_let h.toRK hv (w := 6) (by decide)
theorem RV.get7 (h : RV M tw t S pb pt) {v : Nat} (hv : v < 16) : f_X10_get 120 (nI v) (7 : Int32) M = some (xR S 7 v) := (f_get h.toRK hv (w := 7) (by decide)).trans (congrArg some (h.rg (k := 7) (vk_n (by decide) hv)))
theorem RV.let7 (h : RV M tw t S pb pt) {v : Nat} (hv : v < 16) (x : Int32) : f_X10_let 120 (nI v) (7 : Int32) x M = some (sI M 121 (ad 7 v) x) := f_let h.toRK hv (w := 7) (by decide)
theorem RV.of0 (h : RV M tw t S pb pt) {v : Nat} (hv : v < 16) : f_X10_of 120 (nI v) (0 : Int32) M = some (xR S 8 v) := (f_of h.toRK hv (w := 0) (by decide)).trans (congrArg some (h.rg (k := 8) (vk_n (by decide) hv)))
theorem RV.put0 (h : RV M tw t S pb pt) {v : Nat} (hv : v < 16) (x : Int32) : f_X10_put 120 (nI v) (0 : Int32) x M = some (sI M 121 (ad 8 v) x) := f_put h.toRK hv (w := 0) (by decide)
theorem RV.of1 (h : RV M tw t S pb pt) {v : Nat} (hv : v < 16) : f_X10_of 120 (nI v) (1 : Int32) M = some (xR S 9 v) := (f_of h.toRK hv (w := 1) (by decide)).trans (congrArg some (h.rg (k := 9) (vk_n (by decide) hv)))
theorem RV.put1 (h : RV M tw t S pb pt) {v : Nat} (hv : v < 16) (x : Int32) : f_X10_put 120 (nI v) (1 : Int32) x M = some (sI M 121 (ad 9 v) x) := f_put h.toRK hv (w := 1) (by decide)
theorem RV.of2 (h : RV M tw t S pb pt) {v : Nat} (hv : v < 16) : f_X10_of 120 (nI v) (2 : Int32) M = some (xR S 10 v) := (f_of h.toRK hv (w := 2) (by decide)).trans (congrArg some (h.rg (k := 10) (vk_n (by decide) hv)))
theorem RV.put2 (h : RV M tw t S pb pt) {v : Nat} (hv : v < 16) (x : Int32) : f_X10_put 120 (nI v) (2 : Int32) x M = some (sI M 121 (ad 10 v) x) := f_put h.toRK hv (w := 2) (by decide)
theorem RV.of3 (h : RV M tw t S pb pt) {v : Nat} (hv : v < 16) : f_X10_of 120 (nI v) (3 : Int32) M = some (nI (xW S v).length) := (f_of h.toRK hv (w := 3) (by decide)).trans (congrArg some (by rw [show 146 + 44 * v + 3 = 149 + 44 * v by omega]; exact (h.2.2.2.1 v hv).1))
end
/-! ===== who is ahead ===== -/
def ahd (s v s' v' : Int32) : Bool := decide (s < s' ∨ (s = s' ∧ v < v'))
theorem f_ah10 (s v s' v' : Int32) (M : Mem) : f_X10_isAhead s v s' v' M = some (if ahd s v s' v' then 1 else 0) := by
  rw [f_X10_isAhead]
  unfold ahd
  by_cases h : s = s'
  · subst h
    rw [if_pos rfl]
    have h1 : ¬ s < s := Int32.lt_irrefl
    by_cases h2 : v' ≤ v
    · rw [if_pos h2]
      have : ¬ v < v' := Int32.not_lt.mpr h2
      simp [h1, this]
    · rw [if_neg h2]
      have : v < v' := Int32.not_le.mp h2
      simp [this]
  · rw [if_neg h]
    by_cases h2 : s' ≤ s
    · rw [if_pos h2]
      have : ¬ s < s' := Int32.not_lt.mpr h2
      simp [h, this]
    · rw [if_neg h2]
      have : s < s' := Int32.not_le.mp h2
      simp [this]
theorem f_ah9 (s v s' v' : Int32) (M : Mem) : f_X9_isAhead s v s' v' M = some (if ahd s v s' v' then 1 else 0) := by
  rw [f_X9_isAhead]
  unfold ahd
  by_cases h : s < s'
  · rw [if_pos h]; simp [h]
  · rw [if_neg h]
    by_cases h1 : s = s'
    · rw [if_pos h1]
      by_cases h2 : v' ≤ v
      · rw [if_pos h2]
        have : ¬ v < v' := Int32.not_lt.mpr h2
        simp [h, this]
      · rw [if_neg h2]
        have : v < v' := Int32.not_le.mp h2
        simp [h1, this]
    · rw [if_neg h1]; simp [h, h1]
