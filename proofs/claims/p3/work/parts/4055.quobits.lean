/-! ===== of which nodes a quorum is: none broken, none behind the last ===== -/
theorem bk_b {S : St} (h7 : ∀ v, v < 16 → xR S 7 v = 0 ∨ xR S 7 v = 1) : ∀ (d i : Nat) (x : Int32) (u : Nat), i + d ≤ 16 → u < 32 → bt (bk i d S x) u = (bt x u || decide (i ≤ u ∧ u < i + d ∧ xR S 7 u = 1)) := by
  intro d
  induction d with
  | zero =>
    intro i x u hi hu
    rw [show decide (i ≤ u ∧ u < i + 0 ∧ xR S 7 u = 1) = false from decide_eq_false (by omega), Bool.or_false]; rfl
  | succ d ih =>
    intro i x u hi hu
    unfold bk
    rw [List.range'_succ, List.foldl_cons]
    have := ih (i + 1) (x ||| (xR S 7 i <<< (nI i &&& 31))) u (by omega) hu
    unfold bk at this
    rw [this, b_or, b_shl i (by omega) _ hu, Bool.or_assoc]
    congr 1
    rcases h7 i (by omega) with z | z
    · rw [z, b_0, Bool.and_false, Bool.false_or]
      apply decide_eq_decide.mpr
      constructor
      · rintro ⟨a, b, c⟩; exact ⟨by omega, by omega, c⟩
      · rintro ⟨a, b, c⟩
        by_cases e : i = u
        · rw [← e, z] at c; exact absurd c (by decide)
        · exact ⟨by omega, by omega, c⟩
    · rw [z]
      by_cases e : i = u
      · subst e
        rw [Nat.sub_self, b_1 0 (by decide)]
        simp [z]
      · have e1 : (decide (i ≤ u) && bt 1 (u - i)) = false := by
          by_cases c : i ≤ u
          · rw [b_1 (u - i) (by omega)]
            simp; omega
          · simp [c]
        rw [e1, Bool.false_or]
        apply decide_eq_decide.mpr
        constructor
        · rintro ⟨a, b, c⟩; exact ⟨by omega, by omega, c⟩
        · rintro ⟨a, b, c⟩; exact ⟨by omega, by omega, c⟩
theorem bkm_b {N : Nat} {S : St} (h16 : N ≤ 16) (h7 : ∀ v, v < 16 → xR S 7 v = 0 ∨ xR S 7 v = 1) {u : Nat} (hu : u < 32) : bt (bkm N S) u = decide (u < N ∧ xR S 7 u = 1) := by
  unfold bkm
  rw [bk_b h7 N 0 0 u (by omega) hu, b_0, Bool.false_or]
  apply decide_eq_decide.mpr
  constructor
  · rintro ⟨a, b, c⟩; exact ⟨by omega, c⟩
  · rintro ⟨b, c⟩; exact ⟨by omega, by omega, c⟩
/-- all bits below N, none of b's -/
def Of (N : Nat) (b x : Int32) : Prop := ∀ i, i < 32 → bt x i = true → i < N ∧ bt b i = false
theorem Of.z (N : Nat) (b : Int32) : Of N b 0 := fun i _ h => by rw [b_0] at h; cases h
theorem Of.one {N : Nat} {b : Int32} {v : Nat} (hv : v < N) (h16 : N ≤ 16) (hb : bt b v = false) : Of N b ((1 : Int32) <<< (nI v &&& 31)) := fun i hi h => by
  rw [b_one (by omega) hi] at h
  have := of_decide_eq_true h
  subst this
  exact ⟨hv, hb⟩
theorem Of.or {N : Nat} {b x y : Int32} (h : Of N b x) (h' : Of N b y) : Of N b (x ||| y) := fun i hi q => by
  rw [b_or] at q
  rcases Bool.or_eq_true _ _ |>.mp q with q | q
  · exact h i hi q
  · exact h' i hi q
theorem wh_of {N : Nat} (h16 : N ≤ 16) (hN : N % 2 = 1) (b : Int32) : ∀ (d v : Nat), v + d = N → v < N → Of N b (wh N b v) := by
  intro d
  induction d using Nat.strongRecOn with
  | ind d ih =>
    intro v hv hvN
    have hb : bt b v = true ∨ bt b v = false := by cases bt b v <;> simp
    rw [wh_e b hvN hN]
    by_cases c : 2 * v + 1 < N
    · have hl : Of N b (wh N b (2 * v + 1)) := ih (N - (2 * v + 1)) (by omega) (2 * v + 1) (by omega) c
      have hr : Of N b (wh N b (2 * v + 2)) := ih (N - (2 * v + 2)) (by omega) (2 * v + 2) (by omega) (by omega)
      simp only [c, if_true]
      split
      · split
        · exact Of.z N b
        · split
          · exact Of.z N b
          · exact hl.or hr
      · rename_i q
        have qf : bt b v = false := hb.resolve_left q
        split
        · split
          · exact Of.z N b
          · exact hr.or (Of.one hvN h16 qf)
        · exact hl.or (Of.one hvN h16 qf)
    · simp only [c, if_false]
      split
      · simp; exact Of.z N b
      · rename_i q
        exact Of.one hvN h16 (hb.resolve_left q)
def BI (N : Nat) (S : St) : Prop := ∀ v, v < N → ∀ i, N ≤ i → i < 32 → bt (xR S 17 v) i = false
theorem base_of {N : Nat} {S : St} (hB : BI N S) {v : Nat} (hv : v < N) {b : Int32} (h : xR S 17 v &&& b = 0) : Of N b (xR S 17 v) := fun i hi q => by
  have q1 := bt_z.mp h i hi
  rw [b_and, q, Bool.true_and] at q1
  refine ⟨?_, q1⟩
  apply Decidable.byContradiction
  intro c
  rw [hB v hv i (by omega) hi] at q
  cases q
theorem fub_of {N : Nat} {S : St} (hB : BI N S) (b : Int32) : Of N b (fub 0 N S b) := by
  unfold fub
  cases h : (List.range' 0 N).find? (fun w => decide (xR S 17 w &&& b = 0)) with
  | none => exact Of.z N b
  | some w =>
    have h1 := List.find?_some h
    have h2 := List.mem_of_find?_eq_some h
    have : w < N := by
      rw [List.mem_range'_1] at h2; omega
    exact base_of hB this (of_decide_eq_true h1)
theorem qby_of {N : Nat} {S : St} (hB : BI N S) (h16 : N ≤ 16) (h0 : 0 < N) (ht : xR S 20 1 = 1 → N % 2 = 1) {v : Nat} (hv : v < N) (b : Int32) : Of N b (qby N S v b) := by
  unfold qby
  split
  · rename_i h
    exact base_of hB hv h
  · split
    · rename_i h
      exact wh_of h16 (ht h) b N 0 (by omega) h0
    · exact fub_of hB b
theorem qm_hi {N : Nat} {S : St} (hB : BI N S) (h16 : N ≤ 16) (ht : xR S 20 1 = 1 → N % 2 = 1) : ∀ v, v < N → ∀ i, N ≤ i → i < 32 → bt (qm N S v) i = false := by
  intro v hv i hi hi2
  cases h : bt (qm N S v) i with
  | false => rfl
  | true =>
    have := (qby_of hB h16 (by omega) ht hv (bkm N S) i hi2 h).1
    omega
theorem qm_ub {N : Nat} {S : St} (hB : BI N S) (h16 : N ≤ 16) (ht : xR S 20 1 = 1 → N % 2 = 1) (h7 : ∀ v, v < 16 → xR S 7 v = 0 ∨ xR S 7 v = 1) {v : Nat} (hv : v < N) : ∀ i, i < N → bt (qm N S v) i = true → Ub S i := by
  intro i hi h q
  have := (qby_of hB h16 (by omega) ht hv (bkm N S) i (by omega) h).2
  rw [bkm_b h16 h7 (by omega), decide_eq_false_iff_not] at this
  exact this ⟨hi, q⟩
