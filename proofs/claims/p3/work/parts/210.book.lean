/-! ===== the book and the trace of the reference ===== -/
theorem lastn_push {α : Type} (n : Nat) (hn : 0 < n) (l : List α) (x : α) : lastn n (l ++ [x]) = (if (lastn n l).length = n then (lastn n l).drop 1 else lastn n l) ++ [x] := by
  unfold lastn
  rw [List.length_drop, List.length_append, List.length_singleton]
  by_cases h : n ≤ l.length
  · rw [if_pos (by omega), List.drop_drop, List.drop_append_of_le_length (by omega)]
    congr 2
    omega
  · rw [if_neg (by omega), show l.length - n = 0 by omega, show l.length + 1 - n = 0 by omega]
    rfl
/-- the cells B .. B + 4 n - 1 and the count A alone have changed -/
def FrB (A B n : Nat) (M M' : Mem) : Prop := M'.1 = M.1 ∧ (∀ o, o ≠ 121 → ∀ k, mI M' o k = mI M o k) ∧ (∀ o k, mL M' o k = mL M o k) ∧ (∀ b, b ≠ A → (b < B ∨ B + 4 * n ≤ b) → mI M' 121 b = mI M 121 b)
theorem FrB.rf (A B n : Nat) (M : Mem) : FrB A B n M M := ⟨rfl, fun _ _ _ => rfl, fun _ _ => rfl, fun _ _ _ => rfl⟩
theorem FrB.tr {A B n : Nat} {M M' M'' : Mem} (h : FrB A B n M M') (h' : FrB A B n M' M'') : FrB A B n M M'' :=
  ⟨h'.1.trans h.1, fun o q k => (h'.2.1 o q k).trans (h.2.1 o q k), fun o k => (h'.2.2.1 o k).trans (h.2.2.1 o k), fun b q1 q2 => (h'.2.2.2 b q1 q2).trans (h.2.2.2 b q1 q2)⟩
theorem FrB.s {A B n b : Nat} {M : Mem} {x : Int32} (h : b = A ∨ (B ≤ b ∧ b < B + 4 * n)) : FrB A B n M (sI M 121 b x) :=
  ⟨rfl, fun o q k => mI_o _ _ _ _ _ q, fun _ _ => rfl, fun c h1 h2 => mI_n _ _ _ _ (by omega)⟩
theorem FrB.toFr {A B n : Nat} {M M' : Mem} (h : FrB A B n M M') : Fr PA M M' :=
  ⟨h.1, fun o q k => h.2.1 o (fun e => q (e ▸ ⟨by decide, by decide⟩)) k, fun o k => h.2.2.1 o k⟩
set_option maxHeartbeats 1000000 in
theorem shift_E {v1 v2 v3 : Int32} (v : Int32) : ∀ (d : Nat) (M : Mem) (n : Nat), RS M → d ≤ 116 → d + 1 ≤ n → ∃ M1 n', f_X10_enter_237 n 120 v v2 v3 (nI (10029 - d)) M = f_X10_enter_237 (n' + 1) 120 v v2 v3 (nI 10029) M1 ∧ FrB 9857 9913 30 M M1 ∧ mI M1 121 9857 = mI M 121 9857 ∧ (∀ b, b < 10029 → 10029 - d ≤ b → mI M1 121 b = mI M 121 (b + 4)) ∧ (∀ b, b < 10029 - d ∨ 10029 ≤ b → mI M1 121 b = mI M 121 b) := by
  intro d
  induction d with
  | zero =>
    intro M n hS hd hn
    obtain ⟨n, rfl⟩ : ∃ m, n = m + 1 := ⟨n - 1, by omega⟩
    exact ⟨M, n, rfl, FrB.rf _ _ _ _, rfl, fun b h1 h2 => by omega, fun _ _ => rfl⟩
  | succ d ih =>
    intro M n hS hd hn
    obtain ⟨n, rfl⟩ : ∃ m, n = m + 1 := ⟨n - 1, by omega⟩
    generalize hMa : sI M 121 (10029 - (d + 1)) (mI M 121 (10029 - (d + 1) + 4)) = Ma
    have hSa : RS Ma := by subst hMa; exact hS.e rfl
    obtain ⟨M1, n', i1, i2, i3, i4, i5⟩ := ih Ma n hSa (by omega) (by omega)
    refine ⟨M1, n', ?_, FrB.tr ?_ i2, ?_, fun b h1 h2 => ?_, fun b h1 => ?_⟩
    · rw [← i1, f_X10_enter_237, if_neg (by rw [show (10029 : Int32) = nI 10029 from rfl]; exact nI_ge (by omega) (by omega)), rs_f hS, rs_0 hS, bnd_e, rs_fa hS, bnd_e, rs_fa hS, show nI (10029 - (d + 1)) + (4 : Int32) = nI (10029 - (d + 1) + 4) by rw [show (4 : Int32) = nI 4 from rfl, nI_add], rs_c hS (by omega), rs_c hS (by omega), bnd_e, cl_n (by omega), cl_n (by omega), hMa, nI_1, bnd_e]
      congr 2
      omega
    · rw [← hMa]; exact FrB.s (Or.inr (by omega))
    · rw [i3, ← hMa, mI_n _ _ _ _ (by omega)]
    · by_cases c : b = 10029 - (d + 1)
      · rw [i5 b (by omega), ← hMa, c, mI_s]
      · rw [i4 b h1 (by omega), ← hMa, mI_n _ _ _ _ (by omega)]
    · rw [i5 b (by omega), ← hMa, mI_n _ _ _ _ (by omega)]
set_option maxHeartbeats 1000000 in
theorem shift_T {v1 v2 v3 v4 : Int32} : ∀ (d : Nat) (M : Mem) (n : Nat), RS M → d ≤ 156 → d + 1 ≤ n → ∃ M1 n', n ≤ n' + 1 + d ∧ f_X10_writeTrace_18 n 120 v1 v2 v3 v4 (nI (10189 - d)) M = f_X10_writeTrace_18 (n' + 1) 120 v1 v2 v3 v4 (nI 10189) M1 ∧ FrB 9858 10033 40 M M1 ∧ mI M1 121 9858 = mI M 121 9858 ∧ (∀ b, b < 10189 → 10189 - d ≤ b → mI M1 121 b = mI M 121 (b + 4)) ∧ (∀ b, b < 10189 - d ∨ 10189 ≤ b → mI M1 121 b = mI M 121 b) := by
  intro d
  induction d with
  | zero =>
    intro M n hS hd hn
    obtain ⟨n, rfl⟩ : ∃ m, n = m + 1 := ⟨n - 1, by omega⟩
    exact ⟨M, n, by omega, rfl, FrB.rf _ _ _ _, rfl, fun b h1 h2 => by omega, fun _ _ => rfl⟩
  | succ d ih =>
    intro M n hS hd hn
    obtain ⟨n, rfl⟩ : ∃ m, n = m + 1 := ⟨n - 1, by omega⟩
    generalize hMa : sI M 121 (10189 - (d + 1)) (mI M 121 (10189 - (d + 1) + 4)) = Ma
    have hSa : RS Ma := by subst hMa; exact hS.e rfl
    obtain ⟨M1, n', i0, i1, i2, i3, i4, i5⟩ := ih Ma n hSa (by omega) (by omega)
    refine ⟨M1, n', by omega, ?_, FrB.tr ?_ i2, ?_, fun b h1 h2 => ?_, fun b h1 => ?_⟩
    · rw [← i1, f_X10_writeTrace_18, if_neg (by rw [show (10189 : Int32) = nI 10189 from rfl]; exact nI_ge (by omega) (by omega)), rs_f hS, rs_0 hS, bnd_e, rs_fa hS, bnd_e, rs_fa hS, show nI (10189 - (d + 1)) + (4 : Int32) = nI (10189 - (d + 1) + 4) by rw [show (4 : Int32) = nI 4 from rfl, nI_add], rs_c hS (by omega), rs_c hS (by omega), bnd_e, cl_n (by omega), cl_n (by omega), hMa, nI_1, bnd_e]
      congr 2
      omega
    · rw [← hMa]; exact FrB.s (Or.inr (by omega))
    · rw [i3, ← hMa, mI_n _ _ _ _ (by omega)]
    · by_cases c : b = 10189 - (d + 1)
      · rw [i5 b (by omega), ← hMa, c, mI_s]
      · rw [i4 b h1 (by omega), ← hMa, mI_n _ _ _ _ (by omega)]
    · rw [i5 b (by omega), ← hMa, mI_n _ _ _ _ (by omega)]
/-- one row put behind m others -/
def put4 (M : Mem) (B m : Nat) (q : Row4) : Mem := sI (sI (sI (sI M 121 (B + 4 * m) q.1) 121 (B + 4 * m + 1) q.2.1) 121 (B + 4 * m + 2) q.2.2.1) 121 (B + 4 * m + 3) q.2.2.2
theorem put4_o (M : Mem) (B m : Nat) (q : Row4) {b : Nat} (h : b < B + 4 * m ∨ B + 4 * m + 3 < b) : mI (put4 M B m q) 121 b = mI M 121 b := by
  unfold put4
  rw [mI_n _ _ _ _ (by omega), mI_n _ _ _ _ (by omega), mI_n _ _ _ _ (by omega), mI_n _ _ _ _ (by omega)]
theorem put4_s (M : Mem) (B m : Nat) (q : Row4) : mI (put4 M B m q) 121 (B + 4 * m) = q.1 ∧ mI (put4 M B m q) 121 (B + 4 * m + 1) = q.2.1 ∧ mI (put4 M B m q) 121 (B + 4 * m + 2) = q.2.2.1 ∧ mI (put4 M B m q) 121 (B + 4 * m + 3) = q.2.2.2 := by
  unfold put4
  refine ⟨?_, ?_, ?_, ?_⟩
  · rw [mI_n _ _ _ _ (by omega), mI_n _ _ _ _ (by omega), mI_n _ _ _ _ (by omega), mI_s]
  · rw [mI_n _ _ _ _ (by omega), mI_n _ _ _ _ (by omega), mI_s]
  · rw [mI_n _ _ _ _ (by omega), mI_s]
  · rw [mI_s]
theorem put4_F {A B n m : Nat} (M : Mem) (q : Row4) (h : m < n) : FrB A B n M (put4 M B m q) := by
  unfold put4
  exact FrB.tr (FrB.s (Or.inr (by omega))) (FrB.tr (FrB.s (Or.inr (by omega))) (FrB.tr (FrB.s (Or.inr (by omega))) (FrB.s (Or.inr (by omega)))))
theorem Rows.put {M : Mem} {B : Nat} {xs : List Row4} (h : Rows M B xs) (q : Row4) : Rows (put4 M B xs.length q) B (xs ++ [q]) := by
  intro i z hi
  by_cases c : i < xs.length
  · rw [List.getElem?_append_left c] at hi
    rw [put4_o _ _ _ _ (by omega), put4_o _ _ _ _ (by omega), put4_o _ _ _ _ (by omega), put4_o _ _ _ _ (by omega)]
    exact h i z hi
  · rw [List.getElem?_append_right (by omega)] at hi
    have hl := (List.getElem?_eq_some_iff.mp hi).1
    rw [List.length_singleton] at hl
    have e : i = xs.length := by omega
    subst e
    rw [Nat.sub_self] at hi
    simp at hi
    rw [← hi]
    exact put4_s _ _ _ _
theorem Rows.cg {M M' : Mem} {B : Nat} {xs : List Row4} (h : Rows M B xs) (e : ∀ b, B ≤ b → b < B + 4 * xs.length → mI M' 121 b = mI M 121 b) : Rows M' B xs := by
  intro i q hi
  have hl := (List.getElem?_eq_some_iff.mp hi).1
  rw [e _ (by omega) (by omega), e _ (by omega) (by omega), e _ (by omega) (by omega), e _ (by omega) (by omega)]
  exact h i q hi
theorem Rows.sh {M M' : Mem} {B : Nat} {xs : List Row4} (h : Rows M B xs) (e : ∀ b, B ≤ b → b + 4 < B + 4 * xs.length → mI M' 121 b = mI M 121 (b + 4)) : Rows M' B (xs.drop 1) := by
  intro i q hi
  rw [List.getElem?_drop] at hi
  have hl := (List.getElem?_eq_some_iff.mp hi).1
  rw [e _ (by omega) (by omega), e _ (by omega) (by omega), e _ (by omega) (by omega), e _ (by omega) (by omega)]
  have := h (1 + i) q hi
  rw [show B + 4 * i + 4 = B + 4 * (1 + i) by omega, show B + 4 * i + 1 + 4 = B + 4 * (1 + i) + 1 by omega, show B + 4 * i + 2 + 4 = B + 4 * (1 + i) + 2 by omega, show B + 4 * i + 3 + 4 = B + 4 * (1 + i) + 3 by omega]
  exact this
/-- RV behind a change of the book -/
theorem RV.bookE {M M' : Mem} {tw : Bool} {t : Int32} {S : St} {pb pt : List Row4} (h : RV M tw t S pb pt) (x : Row4) (f : FrB 9857 9913 30 M M') (hb : RVb M' 9857 9913 30 (pb ++ (xE S ++ [x]))) : RV M' tw t (uE S x) pb pt := by
  obtain ⟨hS, ht, hA, hw, hl, hb1, hb2⟩ := h
  refine ⟨hS.e f.1, (f.2.1 120 (by decide) 3).trans ht, fun k i hv => ?_, hw.cg (fun b _ _ => f.2.2.2 b (by omega) (by omega)) rfl, ⟨?_, hl.2.1, hl.2.2.cg fun j _ hj => ⟨?_, ?_⟩⟩, hb, hb2.cg (f.2.2.2 _ (by omega) (by omega)) (fun b _ _ => f.2.2.2 _ (by omega) (by omega))⟩
  · have := ad_lim hv
    rw [f.2.2.2 _ (by omega) (by omega)]; exact hA k i hv
  · rw [f.2.2.2 _ (by omega) (by omega)]; exact hl.1
  · have := hl.2.1
    exact f.2.2.2 _ (by omega) (by omega)
  · exact f.2.1 123 (by decide) _
theorem RV.bookT {M M' : Mem} {tw : Bool} {t : Int32} {S : St} {pb pt : List Row4} (h : RV M tw t S pb pt) (x : Row4) (f : FrB 9858 10033 40 M M') (hb : RVb M' 9858 10033 40 (pt ++ (xT S ++ [x]))) : RV M' tw t (uT S x) pb pt := by
  obtain ⟨hS, ht, hA, hw, hl, hb1, hb2⟩ := h
  refine ⟨hS.e f.1, (f.2.1 120 (by decide) 3).trans ht, fun k i hv => ?_, hw.cg (fun b _ _ => f.2.2.2 b (by omega) (by omega)) rfl, ⟨?_, hl.2.1, hl.2.2.cg fun j _ hj => ⟨?_, ?_⟩⟩, hb1.cg (f.2.2.2 _ (by omega) (by omega)) (fun b _ _ => f.2.2.2 _ (by omega) (by omega)), hb⟩
  · have := ad_lim hv
    rw [f.2.2.2 _ (by omega) (by omega)]; exact hA k i hv
  · rw [f.2.2.2 _ (by omega) (by omega)]; exact hl.1
  · have := hl.2.1
    exact f.2.2.2 _ (by omega) (by omega)
  · exact f.2.1 123 (by decide) _
theorem RVb.push {M Ma Mb : Mem} {A B n : Nat} (hn : 0 < n) (hA : A < B ∨ B + 4 * n ≤ A) {xs : List Row4} (h : RVb M A B n xs) (q : Row4) (m : Nat) (hm : m = if (lastn n xs).length = n then n - 1 else (lastn n xs).length) (ha : Rows Ma B (if (lastn n xs).length = n then (lastn n xs).drop 1 else lastn n xs)) (e : Mb = sI (put4 Ma B m q) 121 A (nI (m + 1))) : RVb Mb A B n (xs ++ [q]) := by
  subst e
  have hle := lastn_le n xs
  have hlen : (if (lastn n xs).length = n then (lastn n xs).drop 1 else lastn n xs).length = m := by
    rw [hm]
    by_cases c : (lastn n xs).length = n
    · rw [if_pos c, if_pos c, List.length_drop, c]
    · rw [if_neg c, if_neg c]
  have hmn : m < n := by
    rw [hm]
    by_cases c : (lastn n xs).length = n
    · rw [if_pos c]; omega
    · rw [if_neg c]; omega
  refine ⟨?_, ?_⟩
  · rw [mI_s, lastn_push n hn, List.length_append, hlen, List.length_singleton]
  · rw [lastn_push n hn]
    have := ha.put q
    rw [hlen] at this
    refine this.cg fun b h1 h2 => mI_n _ _ _ _ ?_
    rw [List.length_append, hlen, List.length_singleton] at h2
    omega
theorem c4i (B m : Nat) : nI B + ((4 : Int32) * nI m) = nI (B + 4 * m) := by rw [show (4 : Int32) = nI 4 from rfl, pk_mul, nI_add]
set_option maxHeartbeats 1000000 in
theorem RV.w279 {M : Mem} (hS : RS M) {m v : Nat} (hv : v < 16) (hm : m < 30) (hA : mI M 121 9857 = nI m) (x y : Int32) (n : Nat) : f_X10_enter_279 n 120 (nI v) x y M = some (sI (put4 M 9913 m (nI v, mI M 121 (18 + 8 * v + 2), x, y)) 121 9857 (nI (m + 1))) := by
  generalize hMa : sI M 121 (9913 + 4 * m) (nI v) = Ma
  generalize hMb : sI Ma 121 (9913 + 4 * m + 1) (mI M 121 (18 + 8 * v + 2)) = Mb
  generalize hMc : sI Mb 121 (9913 + 4 * m + 2) x = Mc
  generalize hMd : sI Mc 121 (9913 + 4 * m + 3) y = Md
  have hSa : RS Ma := by subst hMa; exact hS.e rfl
  have hSb : RS Mb := by subst hMb; exact hSa.e rfl
  have hSc : RS Mc := by subst hMc; exact hSb.e rfl
  have hSd : RS Md := by subst hMd; exact hSc.e rfl
  have hp : put4 M 9913 m (nI v, mI M 121 (18 + 8 * v + 2), x, y) = Md := by
    unfold put4
    rw [hMa, hMb, hMc, hMd]
  have g2 : f_X10_get 120 (nI v) (2 : Int32) Ma = some (mI M 121 (18 + 8 * v + 2)) := by
    have := f_get hSa.toRK hv (w := 2) (by decide)
    rw [← hMa] at this ⊢
    rw [mI_n _ _ _ _ (by omega)] at this
    exact this
  have hB : mI Md 121 9857 = nI m := by
    rw [← hMd, mI_n _ _ _ _ (by omega), ← hMc, mI_n _ _ _ _ (by omega), ← hMb, mI_n _ _ _ _ (by omega), ← hMa, mI_n _ _ _ _ (by omega)]
    exact hA
  rw [hp, f_X10_enter_279, rs_f hS, rs_0 hS, bnd_e, rs_fa hS, show (9857 : Int32) = nI 9857 from rfl, rs_c hS (by decide), mI_c (by decide), hA, show (9913 : Int32) = nI 9913 from rfl, c4i, bnd_e, bnd_e, rs_fa hS, rs_c hS (by omega), bnd_e, cl_n (by omega), hMa, rs_0 hSa, bnd_e, rs_fa hSa, g2, obd_s, nI_1, rs_c hSa (by omega), bnd_e, cl_n (by omega), hMb, rs_0 hSb, bnd_e, rs_fa hSb, show nI (9913 + 4 * m) + (2 : Int32) = nI (9913 + 4 * m + 2) by rw [show (2 : Int32) = nI 2 from rfl, nI_add], rs_c hSb (by omega), bnd_e, cl_n (by omega), hMc, rs_0 hSc, bnd_e, rs_fa hSc, show nI (9913 + 4 * m) + (3 : Int32) = nI (9913 + 4 * m + 3) by rw [show (3 : Int32) = nI 3 from rfl, nI_add], rs_c hSc (by omega), bnd_e, cl_n (by omega), hMd, rs_0 hSd, bnd_e, rs_fa hSd, rs_c hSd (by decide), rs_c hSd (by decide), bnd_e, cl_n (by decide), hB, nI_1]
