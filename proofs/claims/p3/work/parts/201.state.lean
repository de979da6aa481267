/-! ===== the model's state: registers, who waits, letters, the book, the trace; how the reference's row holds it ===== -/
abbrev Ltr : Type := Int32 × Int32 × Int32
abbrev Wtr : Type := Nat × Int32
abbrev Row4 : Type := Int32 × Int32 × Int32 × Int32
abbrev St : Type := (Nat → Nat → Int32) × (Nat → List Wtr) × (Nat → List Ltr) × List Row4 × List Row4
def xR (S : St) : Nat → Nat → Int32 := S.1
def xW (S : St) : Nat → List Wtr := S.2.1
def xL (S : St) : Nat → List Ltr := S.2.2.1
def xE (S : St) : List Row4 := S.2.2.2.1
def xT (S : St) : List Row4 := S.2.2.2.2
def up1 {α : Type} (f : Nat → α) (o : Nat) (x : α) : Nat → α := fun a => if a = o then x else f a
theorem up1_s {α : Type} (f : Nat → α) (o : Nat) (x : α) : up1 f o x o = x := by simp [up1]
theorem up1_o {α : Type} (f : Nat → α) (o : Nat) (x : α) {a : Nat} (h : a ≠ o) : up1 f o x a = f a := by simp [up1, h]
def uR (S : St) (k i : Nat) (x : Int32) : St := (up2 S.1 k i x, S.2)
def uW (S : St) (a : Nat) (w : List Wtr) : St := (S.1, up1 S.2.1 a w, S.2.2)
def uL (S : St) (l : Nat) (x : List Ltr) : St := (S.1, S.2.1, up1 S.2.2.1 l x, S.2.2.2)
def uE (S : St) (x : Row4) : St := (S.1, S.2.1, S.2.2.1, S.2.2.2.1 ++ [x], S.2.2.2.2)
def uT (S : St) (x : Row4) : St := (S.1, S.2.1, S.2.2.1, S.2.2.2.1, S.2.2.2.2 ++ [x])
theorem xR_uR (S : St) (k i : Nat) (x : Int32) (a b : Nat) : xR (uR S k i x) a b = if a = k ∧ b = i then x else xR S a b := rfl
theorem xR_uW (S : St) (a : Nat) (w : List Wtr) : xR (uW S a w) = xR S := rfl
theorem xR_uL (S : St) (l : Nat) (x : List Ltr) : xR (uL S l x) = xR S := rfl
theorem xR_uE (S : St) (x : Row4) : xR (uE S x) = xR S := rfl
theorem xR_uT (S : St) (x : Row4) : xR (uT S x) = xR S := rfl
theorem xW_uR (S : St) (k i : Nat) (x : Int32) : xW (uR S k i x) = xW S := rfl
theorem xW_uW (S : St) (a : Nat) (w : List Wtr) (b : Nat) : xW (uW S a w) b = if b = a then w else xW S b := rfl
theorem xW_uL (S : St) (l : Nat) (x : List Ltr) : xW (uL S l x) = xW S := rfl
theorem xW_uE (S : St) (x : Row4) : xW (uE S x) = xW S := rfl
theorem xW_uT (S : St) (x : Row4) : xW (uT S x) = xW S := rfl
theorem xL_uR (S : St) (k i : Nat) (x : Int32) : xL (uR S k i x) = xL S := rfl
theorem xL_uW (S : St) (a : Nat) (w : List Wtr) : xL (uW S a w) = xL S := rfl
theorem xL_uL (S : St) (l : Nat) (x : List Ltr) (m : Nat) : xL (uL S l x) m = if m = l then x else xL S m := rfl
theorem xL_uE (S : St) (x : Row4) : xL (uE S x) = xL S := rfl
theorem xL_uT (S : St) (x : Row4) : xL (uT S x) = xL S := rfl
/-- where the reference's row holds register k of i -/
def ad (k i : Nat) : Nat := if k < 8 then 18 + 8 * i + k else if k < 11 then 146 + 44 * i + (k - 8) else if k < 15 then 9865 + 3 * i + (k - 12) else if k = 15 then 9851 + i else if k = 16 then 9859 + i else if k = 17 then 2 + i else if k = 18 then 10193 + i else if k = 19 then 10209 + i else i
def vk (k i : Nat) : Prop := (k < 11 ∧ i < 16) ∨ (12 ≤ k ∧ k < 15 ∧ i < 16) ∨ (k = 15 ∧ i < 6) ∨ (k = 16 ∧ i < 6) ∨ (k = 17 ∧ i < 16) ∨ (k = 18 ∧ i < 16) ∨ (k = 19 ∧ i < 256) ∨ (k = 20 ∧ i < 2)
theorem ad_cases {k i : Nat} (h : vk k i) : (k < 8 ∧ i < 16 ∧ ad k i = 18 + 8 * i + k) ∨ (8 ≤ k ∧ k < 11 ∧ i < 16 ∧ ad k i = 146 + 44 * i + (k - 8)) ∨ (12 ≤ k ∧ k < 15 ∧ i < 16 ∧ ad k i = 9865 + 3 * i + (k - 12)) ∨ (k = 15 ∧ i < 6 ∧ ad k i = 9851 + i) ∨ (k = 16 ∧ i < 6 ∧ ad k i = 9859 + i) ∨ (k = 17 ∧ i < 16 ∧ ad k i = 2 + i) ∨ (k = 18 ∧ i < 16 ∧ ad k i = 10193 + i) ∨ (k = 19 ∧ i < 256 ∧ ad k i = 10209 + i) ∨ (k = 20 ∧ i < 2 ∧ ad k i = i) := by
  unfold vk at h
  have a1 : k < 8 → ad k i = 18 + 8 * i + k := fun q => by unfold ad; rw [if_pos q]
  have a2 : ¬ k < 8 → k < 11 → ad k i = 146 + 44 * i + (k - 8) := fun q q2 => by unfold ad; rw [if_neg q, if_pos q2]
  have a3 : ¬ k < 11 → k < 15 → ad k i = 9865 + 3 * i + (k - 12) := fun q q2 => by unfold ad; rw [if_neg (by omega), if_neg q, if_pos q2]
  have a4 : k = 15 → ad k i = 9851 + i := fun q => by subst q; rfl
  have a5 : k = 16 → ad k i = 9859 + i := fun q => by subst q; rfl
  have a6 : k = 17 → ad k i = 2 + i := fun q => by subst q; rfl
  have a7 : k = 18 → ad k i = 10193 + i := fun q => by subst q; rfl
  have a8 : k = 19 → ad k i = 10209 + i := fun q => by subst q; rfl
  have a9 : k = 20 → ad k i = i := fun q => by subst q; rfl
  rcases h with ⟨h1, h2⟩ | ⟨h1, h2, h3⟩ | ⟨h1, h2⟩ | ⟨h1, h2⟩ | ⟨h1, h2⟩ | ⟨h1, h2⟩ | ⟨h1, h2⟩ | ⟨h1, h2⟩
  · by_cases q : k < 8
    · exact Or.inl ⟨q, h2, a1 q⟩
    · exact Or.inr (Or.inl ⟨Nat.le_of_not_lt q, h1, h2, a2 q h1⟩)
  · exact Or.inr (Or.inr (Or.inl ⟨h1, h2, h3, a3 (by omega) h2⟩))
  · exact Or.inr (Or.inr (Or.inr (Or.inl ⟨h1, h2, a4 h1⟩)))
  · exact Or.inr (Or.inr (Or.inr (Or.inr (Or.inl ⟨h1, h2, a5 h1⟩))))
  · exact Or.inr (Or.inr (Or.inr (Or.inr (Or.inr (Or.inl ⟨h1, h2, a6 h1⟩)))))
  · exact Or.inr (Or.inr (Or.inr (Or.inr (Or.inr (Or.inr (Or.inl ⟨h1, h2, a7 h1⟩))))))
  · exact Or.inr (Or.inr (Or.inr (Or.inr (Or.inr (Or.inr (Or.inr (Or.inl ⟨h1, h2, a8 h1⟩)))))))
  · exact Or.inr (Or.inr (Or.inr (Or.inr (Or.inr (Or.inr (Or.inr (Or.inr ⟨h1, h2, a9 h1⟩)))))))
theorem ad_inj {k i k' i' : Nat} (h : vk k i) (h' : vk k' i') (e : ad k i = ad k' i') : k = k' ∧ i = i' := by
  have a := ad_cases h
  have b := ad_cases h'
  generalize ad k i = x at *
  subst e
  rcases a with a | a | a | a | a | a | a | a | a <;> rcases b with b | b | b | b | b | b | b | b | b <;> first | omega | exact ⟨by omega, by omega⟩
theorem ad_lim {k i : Nat} (h : vk k i) : ad k i < 10465 ∧ (ad k i < 850 ∨ 9851 ≤ ad k i) ∧ (ad k i < 9857 ∨ 9858 < ad k i) ∧ (ad k i < 9913 ∨ 10193 ≤ ad k i) := by
  have a := ad_cases h
  generalize ad k i = x at *
  rcases a with a | a | a | a | a | a | a | a | a <;> exact ⟨by omega, by omega, by omega, by omega⟩
theorem ad_w {k i a j : Nat} (h : vk k i) (ha : a < 16) (hj : j < 41) : ad k i ≠ 149 + 44 * a + j := by
  have b := ad_cases h
  generalize ad k i = x at *
  rcases b with b | b | b | b | b | b | b | b | b <;> omega
/-- the reference's shape -/
def RS (M : Mem) : Prop := (∀ i, 120 ≤ i → i < 131 → M.1.2.1 i = tC.getD i (0, 0)) ∧ (∀ q, q ∈ tG → mR M q.1 q.2.1 = q.2.2) ∧ 131 ≤ mN M
theorem RS.e {M M' : Mem} (h : RS M) (e : M'.1 = M.1) : RS M' := by
  unfold RS mR mN at *
  rw [e]
  exact h
theorem RS.io {M : Mem} (h : RS M) {i c : Nat} (h1 : 120 ≤ i) (h2 : i < 131) (hc : (tC.getD i (0, 0)).1 = c) : isO M c i := by
  refine ⟨Nat.lt_of_lt_of_le h2 h.2.2, ?_⟩
  rw [mC, h.1 i h1 h2, hc]
theorem RS.ln {M : Mem} (h : RS M) {i c : Nat} (h1 : 120 ≤ i) (h2 : i < 131) (hc : (tC.getD i (0, 0)).2 = c) : mLn M i = c := by
  rw [mLn, h.1 i h1 h2, hc]
theorem RS.r {M : Mem} (h : RS M) {a b c : Nat} (q : (a, b, c) ∈ tG) : mR M a b = c := h.2.1 (a, b, c) q
theorem RS.toRK {M : Mem} (h : RS M) : RK M 120 121 :=
  ⟨h.io (by decide) (by decide) (by decide), h.r (by decide), h.io (by decide) (by decide) (by decide), h.ln (by decide) (by decide) (by decide)⟩
/-- M and M' hold the same but in the cells of P; no cell is made -/
def Fr (P : Nat → Prop) (M M' : Mem) : Prop := M'.1 = M.1 ∧ (∀ o, ¬ P o → ∀ k, mI M' o k = mI M o k) ∧ (∀ o k, mL M' o k = mL M o k)
theorem Fr.rf (P : Nat → Prop) (M : Mem) : Fr P M M := ⟨rfl, fun _ _ _ => rfl, fun _ _ => rfl⟩
theorem Fr.tr {P : Nat → Prop} {M M' M'' : Mem} (h : Fr P M M') (h' : Fr P M' M'') : Fr P M M'' :=
  ⟨h'.1.trans h.1, fun o q k => (h'.2.1 o q k).trans (h.2.1 o q k), fun o k => (h'.2.2 o k).trans (h.2.2 o k)⟩
theorem Fr.mo {P P' : Nat → Prop} {M M' : Mem} (h : Fr P M M') (q : ∀ o, P o → P' o) : Fr P' M M' :=
  ⟨h.1, fun o z k => h.2.1 o (fun y => z (q o y)) k, h.2.2⟩
theorem Fr.tsI {P : Nat → Prop} {M : Mem} {o k : Nat} {x : Int32} (h : P o) : Fr P M (sI M o k x) :=
  ⟨rfl, fun a q b => mI_o M o k x b (fun e => q (e ▸ h)), fun _ _ => rfl⟩
def PA (o : Nat) : Prop := 121 ≤ o ∧ o ≤ 123
def PM (o : Nat) : Prop := 120 ≤ o ∧ o ≤ 124
def PR (o : Nat) : Prop := 120 ≤ o ∧ o ≤ 130
/-- letters in the order of their pairs -/
def fl (S : St) : List (Nat × Ltr) := (List.range 256).flatMap fun l => (xL S l).map fun x => (l, x)
def enc (q : Nat × Ltr) : Int32 := ((q.2.2.1 <<< ((11 : Int32) &&& 31)) ||| (q.2.1 <<< ((8 : Int32) &&& 31))) ||| nI q.1
def Seg (M : Mem) (tw : Bool) (p : Nat) (xs : List (Nat × Ltr)) : Prop := ∀ i q, xs[i]? = some q → mI M 121 (851 + (p + i)) = enc q ∧ (tw = true → mI M 123 (p + i) = q.2.2.2)
def lastn {α : Type} (n : Nat) (l : List α) : List α := l.drop (l.length - n)
def Rows (M : Mem) (A : Nat) (xs : List Row4) : Prop := ∀ i q, xs[i]? = some q → mI M 121 (A + 4 * i) = q.1 ∧ mI M 121 (A + 4 * i + 1) = q.2.1 ∧ mI M 121 (A + 4 * i + 2) = q.2.2.1 ∧ mI M 121 (A + 4 * i + 3) = q.2.2.2
def RVa (M : Mem) (S : St) : Prop := ∀ k i, vk k i → mI M 121 (ad k i) = xR S k i
def RVw (M : Mem) (S : St) : Prop := ∀ a, a < 16 → mI M 121 (149 + 44 * a) = nI (xW S a).length ∧ (xW S a).length ≤ 20 ∧ (∀ i q, (xW S a)[i]? = some q → mI M 121 (150 + 44 * a + 2 * i) = nI q.1 ∧ mI M 121 (151 + 44 * a + 2 * i) = q.2) ∧ (∀ i, (xW S a).length ≤ i → i < 20 → mI M 121 (150 + 44 * a + 2 * i) = 0 ∧ mI M 121 (151 + 44 * a + 2 * i) = 0)
def RVl (M : Mem) (tw : Bool) (S : St) : Prop := mI M 121 850 = nI (fl S).length ∧ (fl S).length ≤ 9000 ∧ Seg M tw 0 (fl S)
def RVb (M : Mem) (A B n : Nat) (xs : List Row4) : Prop := mI M 121 A = nI (lastn n xs).length ∧ Rows M B (lastn n xs)
def RV (M : Mem) (tw : Bool) (t : Int32) (S : St) (pb pt : List Row4) : Prop := RS M ∧ mI M 120 3 = t ∧ RVa M S ∧ RVw M S ∧ RVl M tw S ∧ RVb M 9857 9913 30 (pb ++ xE S) ∧ RVb M 9858 10033 40 (pt ++ xT S)
