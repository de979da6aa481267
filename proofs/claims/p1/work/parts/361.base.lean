/-! ===== base on the fresh objects ===== -/
def BQ (k s : Nat) : Bool := match f_X9_base 59999 0 (nI k) (nI s) Mf with
  | none => false
  | some p => decide ((isO p.2 10 120 ∧ mR p.2 120 0 = 121 ∧ isO p.2 100 121 ∧ mLn p.2 121 = 10465) ∧ mI p.2 121 0 = 4 ∧ f_X10_isNode 120 (nI k) p.2 = some 1 ∧ f_X10_all 120 p.2 = some 15 ∧ f_X10_apart 59999 120 (sI (wA p.2 121 (bgf (mI p.2 121) 4 0)) 121 (2 + k) (nI s)) = some p.1)
set_option maxRecDepth 1000000 in
theorem op7_v00 : (List.range 4).all (fun i => (0 + i == 0) || BQ 0 (0 + i)) = true := by decide +kernel
set_option maxRecDepth 1000000 in
theorem op7_v01 : (List.range 4).all (fun i => (4 + i == 0) || BQ 0 (4 + i)) = true := by decide +kernel
set_option maxRecDepth 1000000 in
theorem op7_v02 : (List.range 4).all (fun i => (8 + i == 0) || BQ 0 (8 + i)) = true := by decide +kernel
set_option maxRecDepth 1000000 in
theorem op7_v03 : (List.range 4).all (fun i => (12 + i == 0) || BQ 0 (12 + i)) = true := by decide +kernel
