/-! ===== what the survey's rows tell ===== -/
def qb (x : Int64) (i : Nat) : Bool := x.toBitVec.getLsbD i
/-- is X one of the sets that the row of words tells -/
def fb (W : Nat → Int64) (X : Nat) : Bool := qb (W (X / 64)) (X % 64)
/-- X holds a base -/
def lvB (N : Nat) (S : St) (X : Nat) : Bool := (List.range' 0 N).any fun v => decide (xR S 17 v &&& (nI X ^^^ (-1 : Int32)) = 0)
/-- what there is of a quorum by the broken ones b -/
def cor (N : Nat) (S : St) (b : Int32) : Int32 := if xR S 20 1 = 1 then wh N b 0 else fub 0 N S b
/-- the rest lets a quorum be -/
def enB (N : Nat) (S : St) (X : Nat) : Bool := decide (¬ cor N S (nI (2 ^ N - 1 - X)) = 0)
def us6 (N : Nat) : Nat := if 6 < N then 2 ^ (N - 6) else 1
/-- what the survey's rows tell -/
def CT (M : Mem) (N : Nat) (S : St) : Prop := (∀ X, X < 2 ^ N → fb (mL M 7) X = lvB N S X ∧ fb (mL M 9) X = enB N S X) ∧ ∀ X, 2 ^ N ≤ X → X < 64 * us6 N → fb (mL M 7) X = false ∧ fb (mL M 9) X = false
theorem CT.cg {M M' : Mem} {N : Nat} {S S' : St} (h : CT M N S) (h7 : ∀ b, mL M' 7 b = mL M 7 b) (h9 : ∀ b, mL M' 9 b = mL M 9 b) (hR : ∀ v, xR S' 17 v = xR S 17 v) (ht : xR S' 20 1 = xR S 20 1) : CT M' N S' := by
  have e7 : ∀ X, fb (mL M' 7) X = fb (mL M 7) X := fun X => by unfold fb; rw [h7]
  have e9 : ∀ X, fb (mL M' 9) X = fb (mL M 9) X := fun X => by unfold fb; rw [h9]
  have el : ∀ X, lvB N S' X = lvB N S X := fun X => by
    unfold lvB
    congr 1
    funext v
    rw [hR]
  have ef : ∀ b, fub 0 N S' b = fub 0 N S b := fun b => by
    have e : (fun w => decide (xR S' 17 w &&& b = 0)) = fun w => decide (xR S 17 w &&& b = 0) := by
      funext w
      rw [hR]
    unfold fub
    rw [e]
    split
    · rfl
    · exact hR _
  have ee : ∀ X, enB N S' X = enB N S X := fun X => by
    unfold enB cor
    rw [ht, ef]
  exact ⟨fun X hX => ⟨by rw [e7, el]; exact (h.1 X hX).1, by rw [e9, ee]; exact (h.1 X hX).2⟩, fun X a b => ⟨by rw [e7]; exact (h.2 X a b).1, by rw [e9]; exact (h.2 X a b).2⟩⟩
