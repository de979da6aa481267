/-! ===== all yields at once ===== -/
def bfl (d : Int32) (ws : List Nat) (x : Int32) : Int32 := ws.foldl (fun x w => if bt d w then bof x w else x) x
def bnl (d : Int32) (ws : List Nat) (x : Int32) : Int32 := ws.foldl (fun x w => if bt d w then bon x w else x) x
theorem uR_id (S : St) (k i : Nat) : uR S k i (xR S k i) = S := by
  refine Prod.ext ?_ rfl
  funext a b
  show (if a = k ∧ b = i then xR S k i else S.1 a b) = S.1 a b
  by_cases c : a = k ∧ b = i
  · rw [if_pos c, c.1, c.2]; rfl
  · rw [if_neg c]
theorem fdl_e {t : Int32} {v : Nat} {d : Int32} : ∀ (ws : List Nat) (S : St), fdl t v d ws S = uR (uR (sAl t 4 v d (xR S 2 v) ws S) 4 v (bfl d ws (xR S 4 v))) 6 v (bnl d ws (xR S 6 v)) := by
  intro ws
  induction ws with
  | nil =>
    intro S
    show S = uR (uR S 4 v (xR S 4 v)) 6 v (xR S 6 v)
    rw [uR_id, uR_id]
  | cons w ws ih =>
    intro S
    have e1 : fdl t v d (w :: ws) S = fdl t v d ws (if bt d w then yT t v w S else S) := by unfold fdl; rw [List.foldl_cons]
    have e2 : sAl t 4 v d (xR S 2 v) (w :: ws) S = sAl t 4 v d (xR S 2 v) ws (if bt d w then sn t 4 v w (xR S 2 v) S else S) := by unfold sAl; rw [List.foldl_cons]
    have e3 : bfl d (w :: ws) (xR S 4 v) = bfl d ws (if bt d w then bof (xR S 4 v) w else xR S 4 v) := by unfold bfl; rw [List.foldl_cons]
    have e4 : bnl d (w :: ws) (xR S 6 v) = bnl d ws (if bt d w then bon (xR S 6 v) w else xR S 6 v) := by unfold bnl; rw [List.foldl_cons]
    rw [e1, e2, e3, e4, ih]
    by_cases c : bt d w = true
    · rw [if_pos c, if_pos c, if_pos c, if_pos c]
      have r2 : xR (yT t v w S) 2 v = xR S 2 v := by
        unfold yT
        simp only []
        rw [xR_uR, if_neg (by omega), xR_uR, if_neg (by omega), sn_R _ _ _ _ _ _ (by decide)]
      have r4 : xR (yT t v w S) 4 v = bof (xR S 4 v) w := by
        unfold yT
        simp only []
        rw [xR_uR, if_neg (by omega), xR_uR, if_pos ⟨rfl, rfl⟩]
      have r6 : xR (yT t v w S) 6 v = bon (xR S 6 v) w := by
        unfold yT
        simp only []
        rw [xR_uR, if_pos ⟨rfl, rfl⟩]
      rw [r2, r4, r6]
      unfold yT
      simp only []
      rw [sAl_uR (by decide), sAl_uR (by decide), uR_co (k := 6) (k' := 4) _ (by decide), uR_uR, uR_uR]
    · rw [if_neg c, if_neg c, if_neg c, if_neg c]
theorem bfl_b (d : Int32) : ∀ (ws : List Nat) (x : Int32), (∀ w, w ∈ ws → w < 32) → ∀ i, i < 32 → bt (bfl d ws x) i = (bt x i && !decide (i ∈ ws ∧ bt d i = true)) := by
  intro ws
  induction ws with
  | nil => intro x _ i _; simp [bfl]
  | cons w ws ih =>
    intro x hw i hi
    have e : bfl d (w :: ws) x = bfl d ws (if bt d w then bof x w else x) := by unfold bfl; rw [List.foldl_cons]
    rw [e, ih _ (fun w' h => hw w' (by simp [h])) i hi]
    have h32 := hw w (by simp)
    by_cases c : bt d w = true
    · rw [if_pos c, bt_off _ h32 hi]
      by_cases c2 : i = w
      · simp [c2, c]
      · simp [c2]
    · rw [if_neg c]
      by_cases c2 : i = w
      · simp [c2, c]
      · simp [c2]
theorem bnl_b (d : Int32) : ∀ (ws : List Nat) (x : Int32), (∀ w, w ∈ ws → w < 32) → ∀ i, i < 32 → bt (bnl d ws x) i = (bt x i || decide (i ∈ ws ∧ bt d i = true)) := by
  intro ws
  induction ws with
  | nil => intro x _ i _; simp [bnl]
  | cons w ws ih =>
    intro x hw i hi
    have e : bnl d (w :: ws) x = bnl d ws (if bt d w then bon x w else x) := by unfold bnl; rw [List.foldl_cons]
    rw [e, ih _ (fun w' h => hw w' (by simp [h])) i hi]
    have h32 := hw w (by simp)
    by_cases c : bt d w = true
    · rw [if_pos c, bt_on _ h32 hi]
      by_cases c2 : i = w
      · simp [c2, c]
      · simp [c2]
    · rw [if_neg c]
      by_cases c2 : i = w
      · simp [c2, c]
      · simp [c2]
