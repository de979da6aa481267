/-! ===== the class: letters in lanes ===== -/
def Chn (ne : Nat → Int32) : Int32 → List Nat → Prop
  | _, [] => True
  | x, c :: cs => x = nI c ∧ Chn ne (ne c) cs
def ChE (ne : Nat → Int32) : Int32 → List Nat → Prop
  | x, [] => x = -1
  | x, c :: cs => x = nI c ∧ ChE ne (ne c) cs
theorem Chn.cg {ne ne' : Nat → Int32} : ∀ {cs : List Nat} {x : Int32}, Chn ne x cs → (∀ c, c ∈ cs → ne' c = ne c) → Chn ne' x cs := by
  intro cs
  induction cs with
  | nil => intro x h _; exact h
  | cons c cs ih =>
    intro x h e
    refine ⟨h.1, ?_⟩
    rw [e c (by simp)]
    exact ih h.2 (fun d hd => e d (by simp [hd]))
theorem ChE.cg {ne ne' : Nat → Int32} : ∀ {cs : List Nat} {x : Int32}, ChE ne x cs → (∀ c, c ∈ cs → ne' c = ne c) → ChE ne' x cs := by
  intro cs
  induction cs with
  | nil => intro x h _; exact h
  | cons c cs ih =>
    intro x h e
    refine ⟨h.1, ?_⟩
    rw [e c (by simp)]
    exact ih h.2 (fun d hd => e d (by simp [hd]))
theorem Chn.app {ne ne' : Nat → Int32} {c : Nat} : ∀ {cs : List Nat} {x : Int32} {z : Nat}, Chn ne x (cs ++ [z]) → (cs ++ [z]).Nodup → (∀ d, d ∈ cs → ne' d = ne d) → ne' z = nI c → Chn ne' x (cs ++ [z] ++ [c]) := by
  intro cs
  induction cs with
  | nil =>
    intro x z h _ _ hz
    exact ⟨h.1, hz, trivial⟩
  | cons d cs ih =>
    intro x z h hd e hz
    rw [List.cons_append] at h hd
    refine ⟨h.1, ?_⟩
    rw [e d (by simp)]
    exact ih h.2 (List.nodup_cons.mp hd).2 (fun y hy => e y (by simp [hy])) hz
def tH : List (Nat × Nat × Nat) := [(0, 1, 1), (0, 2, 10), (0, 3, 11), (0, 4, 13), (0, 5, 15), (0, 6, 16), (1, 0, 2), (1, 1, 3), (1, 2, 4), (1, 3, 5), (1, 4, 6), (11, 1, 12), (13, 1, 14)] ++ ((List.range 16).map fun v => (10, v, 17 + 2 * v)) ++ ((List.range 16).map fun v => (17 + 2 * v, 10, 18 + 2 * v))
/-- a hall of the class: the shape of its cells but of the three rows of its letters -/
def CS (M : Mem) (h : Nat) : Prop := (∀ i, i < 49 → ¬ (7 ≤ i ∧ i ≤ 9) → M.1.2.1 (h + i) = tC.getD (14 + i) (0, 0)) ∧ (∀ q, q ∈ tH → mR M (h + q.1) q.2.1 = h + q.2.2) ∧ mR M h 0 = 1 ∧ isO M 7 1 ∧ h + 49 ≤ 131 ∧ 14 ≤ h ∧ 131 ≤ mN M
theorem CS.e {M M' : Mem} {h : Nat} (q : CS M h) (e : M'.1 = M.1) : CS M' h := by
  unfold CS mR mN at *
  have e2 : isO M 7 1 = isO M' 7 1 := by unfold isO mN mC; rw [e]
  rw [← e2, e]
  exact q
theorem CS.io {M : Mem} {h : Nat} (q : CS M h) {i c : Nat} (hi : i < 49) (hn : ¬ (7 ≤ i ∧ i ≤ 9)) (hc : (tC.getD (14 + i) (0, 0)).1 = c) : isO M c (h + i) := by
  refine ⟨by have := q.2.2.2.2; omega, ?_⟩
  rw [mC, q.1 i hi hn, hc]
theorem CS.ln {M : Mem} {h : Nat} (q : CS M h) {i c : Nat} (hi : i < 49) (hn : ¬ (7 ≤ i ∧ i ≤ 9)) (hc : (tC.getD (14 + i) (0, 0)).2 = c) : mLn M (h + i) = c := by
  rw [mLn, q.1 i hi hn, hc]
theorem CS.r {M : Mem} {h : Nat} (q : CS M h) {a b c : Nat} (z : (a, b, c) ∈ tH) : mR M (h + a) b = h + c := q.2.1 (a, b, c) z
def encC (x : Ltr) : Int32 := (x.2.1 <<< ((3 : Int32) &&& 31)) ||| x.1
theorem encC_kind {x : Ltr} {k : Nat} (hk : k < 8) (e : x.1 = nI k) : encC x &&& (7 : Int32) = nI k := by
  apply b_ext
  intro i hi
  rw [encC, b_and, b_or, b_shl03 _ hi, b_c7 i hi, e]
  by_cases h3 : i < 3
  · simp [h3, show ¬ 3 ≤ i by omega]
  · rw [bt_lt (k := 3) hk (by omega) hi]
    simp [h3]
theorem encC_stamp {x : Ltr} {k : Nat} (hk : k < 8) (e : x.1 = nI k) {s : Nat} (hs : s < 1048576) (es : x.2.1 = nI s) : encC x >>> ((3 : Int32) &&& 31) = nI s := by
  apply b_ext
  intro i hi
  rw [b_sshr03 _ hi]
  by_cases h3 : i < 29
  · rw [if_pos (by omega), encC, b_or, b_shl03 _ (by omega), e, es, bt_lt (k := 3) hk (by omega) (by omega)]
    simp
  · rw [if_neg (by omega), encC, b_or, b_shl03 _ (by omega), e, es, bt_lt (k := 3) hk (by omega) (by omega), bt_lt (k := 20) hs (by omega) (by omega), bt_lt (k := 20) hs (by omega) hi]
    simp
/-- the three rows of letters of a hall -/
def DS (M : Mem) (h d5 d6 d7 len : Nat) : Prop := (mR M (h + 1) 5 = d5 ∧ mR M (h + 1) 6 = d6 ∧ mR M (h + 1) 7 = d7) ∧ (isO M 100 d5 ∧ isO M 100 d6 ∧ isO M 100 d7) ∧ (mLn M d5 = len ∧ mLn M d6 = len ∧ mLn M d7 = len) ∧ ((d5 = h + 7 ∨ 131 ≤ d5) ∧ (d6 = h + 8 ∨ 131 ≤ d6) ∧ (d7 = h + 9 ∨ 131 ≤ d7) ∧ d5 ≠ d6 ∧ d5 ≠ d7 ∧ d6 ≠ d7)
theorem DS.e {M M' : Mem} {h d5 d6 d7 len : Nat} (q : DS M h d5 d6 d7 len) (e : M'.1 = M.1) : DS M' h d5 d6 d7 len := by
  have e2 : ∀ o, isO M' 100 o = isO M 100 o := fun o => by unfold isO mN mC; rw [e]
  unfold DS at *
  rw [e2, e2, e2]
  unfold mR mLn at *
  rw [e]
  exact q
/-- the letters of a hall: K the cells of each lane with their letters, fr the free ones, us how many were used, ow whose each is (256: free, 257: kept aside), e how many are kept aside -/
def PW (M : Mem) (h d5 d6 d7 len : Nat) (t : Int32) (se : Nat → Int32) (K : Nat → List (Nat × Ltr)) (fr : List Nat) (us : Nat) (ow : Nat → Nat) (e : Nat) : Prop :=
  DS M h d5 d6 d7 len
  ∧ (∀ l, l < 256 → ∀ q, q ∈ K l → q.1 < us ∧ ow q.1 = l ∧ mI M d5 q.1 = encC q.2 ∧ mI M d6 q.1 = q.2.2.2)
  ∧ (∀ l, l < 256 → ((K l).map Prod.fst).Nodup)
  ∧ (∀ l, l < 256 → Chn (mI M d7) (mI M (h + 2) l) ((K l).map Prod.fst))
  ∧ (∀ l, l < 256 → ∀ cs z, (K l).map Prod.fst = cs ++ [z] → mI M (h + 3) l = nI z)
  ∧ (∀ l, l < 256 → mI M (h + 4) l = nI (K l).length)
  ∧ (∀ f, f < 16 → ∀ g, g < 32 → bt (mI M (h + 5) f) g = decide (g < 16 ∧ K (16 * f + g) ≠ []))
  ∧ (∀ k, k < 6 → mI M (h + 6) k = se k)
  ∧ (fr.Nodup ∧ (∀ c, c ∈ fr → c < us ∧ ow c = 256) ∧ ChE (mI M d7) (mI M (h + 1) 9) fr)
  ∧ (mI M (h + 1) 8 = nI us ∧ us ≤ len ∧ us ≤ 9000 ∧ len ≤ 18000 ∧ 64 ≤ len)
  ∧ mI M (h + 1) 11 = t
  ∧ ∃ tot, mI M (h + 1) 10 = nI tot ∧ us = tot + fr.length + e ∧ tot = (flr (fun l => (K l).map Prod.snd) 0 256).length
def PV (M : Mem) (h : Nat) (t : Int32) (S : St) : Prop := ∃ d5 d6 d7 len K fr us ow, PW M h d5 d6 d7 len t (xR S 16) K fr us ow 0 ∧ ∀ l, l < 256 → (K l).map Prod.snd = xL S l
