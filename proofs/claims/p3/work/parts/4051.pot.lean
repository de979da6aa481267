/-! ===== how many letters: what never grows, for each arbiter ===== -/
def smN (f : Nat → Nat) : Nat → Nat
  | 0 => 0
  | n + 1 => smN f n + f n
theorem smN_le {f g : Nat → Nat} : ∀ n, (∀ i, i < n → f i ≤ g i) → smN f n ≤ smN g n := by
  intro n
  induction n with
  | zero => intro _; exact Nat.le_refl _
  | succ n ih =>
    intro h
    have h1 := ih (fun i hi => h i (by omega))
    have h2 := h n (by omega)
    show smN f n + f n ≤ smN g n + g n
    omega
theorem smN_c {f g : Nat → Nat} (n : Nat) (h : ∀ i, i < n → f i = g i) : smN f n = smN g n :=
  Nat.le_antisymm (smN_le n (fun i hi => Nat.le_of_eq (h i hi))) (smN_le n (fun i hi => Nat.le_of_eq (h i hi).symm))
theorem smN_at {f g : Nat → Nat} {v : Nat} : ∀ n, v < n → (∀ i, i < n → i ≠ v → f i = g i) → smN f n + g v = smN g n + f v := by
  intro n
  induction n with
  | zero => intro h; omega
  | succ n ih =>
    intro hv h
    show smN f n + f n + g v = smN g n + g n + f v
    by_cases c : v = n
    · subst c
      have := smN_c v (fun i hi => h i (by omega) (by omega))
      omega
    · have := ih (by omega) (fun i hi hn => h i (by omega) hn)
      have := h n (by omega) (by omega)
      omega
theorem smN_add (f g : Nat → Nat) : ∀ n, smN (fun i => f i + g i) n = smN f n + smN g n := by
  intro n
  induction n with
  | zero => rfl
  | succ n ih =>
    show smN (fun i => f i + g i) n + (f n + g n) = (smN f n + f n) + (smN g n + g n)
    omega
theorem smN_k (c : Nat) : ∀ n, smN (fun _ => c) n = c * n := by
  intro n
  induction n with
  | zero => rfl
  | succ n ih =>
    show smN (fun _ => c) n + c = c * (n + 1)
    rw [ih, Nat.mul_succ]
theorem smN_sw (f : Nat → Nat → Nat) (m : Nat) : ∀ n, smN (fun i => smN (f i) m) n = smN (fun j => smN (fun i => f i j) n) m := by
  intro n
  induction n with
  | zero =>
    show 0 = smN (fun _ => 0) m
    rw [smN_k]; omega
  | succ n ih =>
    show smN (fun i => smN (f i) m) n + smN (f n) m = smN (fun j => smN (fun i => f i j) n + f n j) m
    rw [smN_add, ih]
theorem smN_one {v : Nat} : ∀ n, v < n → smN (fun i => if v = i then 1 else 0) n = 1 := by
  intro n
  induction n with
  | zero => intro h; omega
  | succ n ih =>
    intro h
    show smN (fun i => if v = i then 1 else 0) n + (if v = n then 1 else 0) = 1
    by_cases c : v = n
    · rw [if_pos c, smN_c (g := fun _ => 0) n (fun i hi => if_neg (by omega)), smN_k]; omega
    · rw [if_neg c, ih (by omega)]
/-- the arbiter of a letter -/
def larb (l : Nat) (k : Int32) : Nat := if k = nI 0 ∨ k = nI 4 ∨ k = nI 5 then l % 16 else l / 16
def lwa (a : Nat) (q : Nat × Ltr) : Nat := if larb q.1 q.2.1 = a then 1 else 0
def phL (a : Nat) (S : St) : Nat := ((fl S).map (lwa a)).sum
def phv (S : St) (a v : Nat) : Nat := (if bt (xR S 4 v) a = true ∧ bt (xR S 3 v) a = true then 1 else 0) + (if bt (xR S 5 v) a = true then 1 else 0)
def phB (a : Nat) (S : St) : Nat := smN (phv S a) 16
def Ph (a : Nat) (S : St) : Nat := phL a S + phB a S
theorem phL_c {a : Nat} {S S' : St} (h : xL S' = xL S) : phL a S' = phL a S := by
  unfold phL; rw [fl_L h]
theorem phv_c {a v : Nat} {S S' : St} (h : ∀ k, k = 3 ∨ k = 4 ∨ k = 5 → xR S' k v = xR S k v) : phv S' a v = phv S a v := by
  unfold phv; rw [h 3 (by omega), h 4 (by omega), h 5 (by omega)]
theorem phB_c {a : Nat} {S S' : St} (h : ∀ k v, k = 3 ∨ k = 4 ∨ k = 5 → xR S' k v = xR S k v) : phB a S' = phB a S :=
  smN_c _ (fun v _ => phv_c (fun k hk => h k v hk))
theorem phB_at {a v : Nat} {S S' : St} (hv : v < 16) (h : ∀ k u, u ≠ v → k = 3 ∨ k = 4 ∨ k = 5 → xR S' k u = xR S k u) : phB a S' + phv S a v = phB a S + phv S' a v :=
  smN_at 16 hv (fun u _ hu => phv_c (fun k hk => h k u hu hk))
theorem phL_sn {a : Nat} {t : Int32} {k f g : Nat} {s : Int32} {S : St} (hf : f < 16) (hg : g < 16) (hk : k < 6) : phL a (sn t k f g s S) = phL a S + (if (if k = 0 ∨ k = 4 ∨ k = 5 then g else f) = a then 1 else 0) := by
  have h : 16 * f + g < 256 := by omega
  have e : larb (16 * f + g) (nI k) = (if k = 0 ∨ k = 4 ∨ k = 5 then g else f) := by
    unfold larb
    have n : ∀ j, j < 6 → (nI k = nI j ↔ k = j) := fun j hj => nI_eq (by omega) (by omega)
    rw [show (16 * f + g) % 16 = g by omega, show (16 * f + g) / 16 = f by omega]
    simp only [n 0 (by decide), n 4 (by decide), n 5 (by decide)]
  unfold phL
  rw [fl_sn h, fl_split S h]
  simp only [List.map_append, List.sum_append, List.map_cons, List.map_nil, List.sum_cons, List.sum_nil]
  have e2 : lwa a (16 * f + g, (nI k, s, t)) = if (if k = 0 ∨ k = 4 ∨ k = 5 then g else f) = a then 1 else 0 := by
    unfold lwa
    rw [show ((16 * f + g, (nI k, s, t)) : Nat × Ltr).1 = 16 * f + g from rfl, show ((16 * f + g, (nI k, s, t)) : Nat × Ltr).2.1 = nI k from rfl, e]
  rw [e2]
  omega
theorem phL_pop {a : Nat} {S : St} {l : Nat} (hl : l < 256) {x : Ltr} {r : List Ltr} (hx : xL S l = x :: r) : phL a S = phL a (uL S l r) + lwa a (l, x) := by
  unfold phL
  rw [fl_split S hl, fl_uL S hl, hx]
  simp only [List.map_append, List.sum_append, List.map_cons, List.sum_cons]
  omega
theorem phL_sAl {a : Nat} {t : Int32} {k f : Nat} (hf : f < 16) (hk : k = 0 ∨ k = 4 ∨ k = 5) (set s : Int32) : ∀ (d i : Nat) (S : St), i + d ≤ 16 → phL a (sAl t k f set s (List.range' i d) S) = phL a S + (if (i ≤ a ∧ a < i + d) ∧ bt set a = true then 1 else 0) := by
  intro d
  induction d with
  | zero =>
    intro i S hi
    rw [if_neg (by omega)]; rfl
  | succ d ih =>
    intro i S hi
    unfold sAl
    rw [List.range'_succ, List.foldl_cons]
    have h := ih (i + 1) (if bt set i then sn t k f i s S else S) (by omega)
    unfold sAl at h
    rw [h]
    have e : phL a (if bt set i then sn t k f i s S else S) = phL a S + (if i = a ∧ bt set i = true then 1 else 0) := by
      by_cases c : bt set i = true
      · rw [if_pos c, phL_sn hf (by omega) (by omega), if_pos hk]
        by_cases c2 : i = a
        · rw [if_pos c2, if_pos ⟨c2, c⟩]
        · rw [if_neg c2, if_neg (fun z => c2 z.1)]
      · rw [if_neg c, if_neg (fun z => c z.2)]; rfl
    rw [e]
    by_cases c : i = a
    · subst c
      rw [if_neg (show ¬ ((i + 1 ≤ i ∧ i < i + 1 + d) ∧ bt set i = true) by omega)]
      by_cases c2 : bt set i = true
      · rw [if_pos ⟨rfl, c2⟩, if_pos ⟨by omega, c2⟩]
      · rw [if_neg (fun z => c2 z.2), if_neg (fun z => c2 z.2)]
    · rw [if_neg (show ¬ (i = a ∧ bt set i = true) from fun z => c z.1)]
      by_cases c2 : (i + 1 ≤ a ∧ a < i + 1 + d) ∧ bt set a = true
      · rw [if_pos c2, if_pos ⟨by omega, c2.2⟩]
      · rw [if_neg c2, if_neg (fun z => c2 ⟨by omega, z.2⟩)]
theorem phL_sA {a : Nat} {t : Int32} {N k f : Nat} (h16 : N ≤ 16) (hf : f < 16) (hk : k = 0 ∨ k = 4 ∨ k = 5) (set s : Int32) (S : St) : phL a (sA t N k f set s S) = phL a S + (if a < N ∧ bt set a = true then 1 else 0) := by
  unfold sA
  rw [List.range_eq_range', phL_sAl hf hk set s N 0 S (by omega)]
  by_cases c : a < N ∧ bt set a = true
  · rw [if_pos c, if_pos ⟨by omega, c.2⟩]
  · rw [if_neg c, if_neg (fun z => c ⟨by omega, z.2⟩)]
/-- all letters by their arbiters -/
theorem sum_arb : ∀ (q : List (Nat × Ltr)), (∀ x, x ∈ q → x.1 < 256) → q.length = smN (fun a => (q.map (lwa a)).sum) 16 := by
  intro q
  induction q with
  | nil => intro _; show 0 = smN (fun _ => 0) 16; rw [smN_k]
  | cons x q ih =>
    intro h
    have h1 := ih (fun y hy => h y (by simp [hy]))
    have hx := h x (by simp)
    have e : smN (fun a => ((x :: q).map (lwa a)).sum) 16 = smN (fun a => lwa a x + (q.map (lwa a)).sum) 16 := smN_c _ (fun a _ => by simp)
    have hb : larb x.1 x.2.1 < 16 := by unfold larb; split <;> omega
    rw [e, smN_add, ← h1, List.length_cons]
    have : smN (fun a => lwa a x) 16 = 1 := smN_one 16 hb
    omega
theorem fl_Ph (S : St) : (fl S).length ≤ smN (fun a => Ph a S) 16 := by
  rw [sum_arb (fl S) (fun x hx => (fl_mem hx).1)]
  exact smN_le _ (fun a _ => Nat.le_add_right _ _)
