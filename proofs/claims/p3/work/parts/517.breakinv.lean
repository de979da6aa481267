/-! ===== a node breaks: what is held after it ===== -/
/-- x erased: of the sets in use; of what the arbiters that F tells know -/
def eF (x : Nat) (F : Nat → Bool) (S : St) : St := ((fun k i => if k = 3 then bof (S.1 3 i) x else if (k = 4 ∨ k = 5) ∧ S.1 0 i = 1 then bof (S.1 k i) x else if (8 ≤ k ∧ k ≤ 10) ∧ F i = true ∧ S.1 8 i = nI x then (if k = 8 then -1 else 0) else S.1 k i), (fun i => if F i = true then (S.2.1 i).filter (fun w => !decide (w.1 = x)) else S.2.1 i), S.2.2)
theorem eF_R (x : Nat) (F : Nat → Bool) (S : St) (k i : Nat) : xR (eF x F S) k i = if k = 3 then bof (xR S 3 i) x else if (k = 4 ∨ k = 5) ∧ xR S 0 i = 1 then bof (xR S k i) x else if (8 ≤ k ∧ k ≤ 10) ∧ F i = true ∧ xR S 8 i = nI x then (if k = 8 then -1 else 0) else xR S k i := rfl
theorem eF_W (x : Nat) (F : Nat → Bool) (S : St) (i : Nat) : xW (eF x F S) i = if F i = true then (xW S i).filter (fun w => !decide (w.1 = x)) else xW S i := rfl
theorem eF_L (x : Nat) (F : Nat → Bool) (S : St) : xL (eF x F S) = xL S := rfl
theorem eF_Rk {x : Nat} {F : Nat → Bool} {S : St} {k i : Nat} (h : k < 3 ∨ k = 6 ∨ k = 7 ∨ 10 < k) : xR (eF x F S) k i = xR S k i := by
  rw [eF_R, if_neg (by omega), if_neg (by omega), if_neg (by omega)]
def Fm (F : Nat → Bool) (a : Nat) : Nat → Bool := fun i => F i && !decide (i = a)
theorem Fm_a (F : Nat → Bool) (a : Nat) : Fm F a a = false := by unfold Fm; simp
theorem Fm_o {F : Nat → Bool} {a i : Nat} (h : i ≠ a) : Fm F a i = F i := by unfold Fm; simp [h]
theorem sn_Rg (t : Int32) (k f g : Nat) (s : Int32) (S : St) (a b : Nat) : xR (sn t k f g s S) a b = if a = 16 ∧ b = k then xR S 16 k + 1 else xR S a b := rfl
theorem nob_Rg (a : Nat) (S : St) (k i : Nat) : xR (nob a S) k i = if k = 10 ∧ i = a then 0 else if k = 9 ∧ i = a then 0 else if k = 8 ∧ i = a then -1 else xR S k i := by
  unfold nob
  rw [xR_uR, xR_uR, xR_uR]
theorem nob_id {a : Nat} {S : St} (h8 : xR S 8 a = -1) (h9 : xR S 9 a = 0) (h10 : xR S 10 a = 0) : nob a S = S := by
  refine St.ext (fun k i => ?_) rfl rfl rfl rfl
  rw [nob_Rg]
  by_cases c : k = 10 ∧ i = a
  · rw [if_pos c, c.1, c.2, h10]
  · rw [if_neg c]
    by_cases d : k = 9 ∧ i = a
    · rw [if_pos d, d.1, d.2, h9]
    · rw [if_neg d]
      by_cases e : k = 8 ∧ i = a
      · rw [if_pos e, e.1, e.2, h8]
      · rw [if_neg e]
theorem flt_id {l : List Wtr} {x : Nat} (h : x ∉ l.map Prod.fst) : l.filter (fun w => !decide (w.1 = x)) = l := by
  apply List.filter_eq_self.mpr
  intro w hw
  have : w.1 ≠ x := fun z => h (by rw [← z]; exact List.mem_map_of_mem hw)
  rw [decide_eq_false this]; rfl
theorem kc (k : Nat) : k = 3 ∨ k = 4 ∨ k = 5 ∨ k = 8 ∨ k = 9 ∨ k = 10 ∨ k = 16 ∨ (k ≠ 3 ∧ k ≠ 4 ∧ k ≠ 5 ∧ k ≠ 8 ∧ k ≠ 9 ∧ k ≠ 10 ∧ k ≠ 16) := by omega
theorem gsn_R (t : Int32) (a : Nat) (w : Wtr) (r : List Wtr) (T : St) (k i : Nat) : xR (sn t 1 a w.1 w.2 (uW (uR (uR (nob a T) 8 a (nI w.1)) 9 a w.2) a r)) k i = if k = 16 ∧ i = 1 then xR T 16 1 + 1 else if k = 9 ∧ i = a then w.2 else if k = 8 ∧ i = a then nI w.1 else if k = 10 ∧ i = a then 0 else xR T k i := by
  rw [sn_Rg]
  by_cases z1 : k = 16 ∧ i = 1
  · rw [if_pos z1, if_pos z1]
    simp [xR_uW, xR_uR, nob_Rg]
  · rw [if_neg z1, if_neg z1]
    simp only [xR_uW, xR_uR, nob_Rg]
    by_cases z2 : k = 9 ∧ i = a
    · rw [if_pos z2, if_pos z2]
    · rw [if_neg z2, if_neg z2]
      by_cases z3 : k = 8 ∧ i = a
      · rw [if_pos z3, if_neg z2, if_pos z3]
      · rw [if_neg z3, if_neg z3, if_neg z2, if_neg z3]
set_option maxHeartbeats 2000000 in
theorem eF_step {t : Int32} {x a : Nat} {F : Nat → Bool} {S : St} (hF : F a = true) (hW : xR S 8 a = nI x → x ∉ (xW S a).map Prod.fst) : eF x (Fm F a) (fgt t a x S) = if xR S 8 a = nI x then gF t a (eF x F S) else eF x F S := by
  unfold fgt
  by_cases c : xR S 8 a = nI x
  · rw [if_pos c, if_pos c]
    have fl := flt_id (hW c)
    unfold gF
    have eW : xW (eF x F S) a = xW S a := by rw [eF_W, if_pos hF, fl]
    rw [eW]
    cases hw : xW S a with
    | nil =>
      simp only []
      refine St.ext (fun k i => ?_) ?_ rfl rfl rfl
      · rcases kc k with rfl | rfl | rfl | rfl | rfl | rfl | rfl | ⟨n3, n4, n5, n8, n9, n10, n16⟩
        · by_cases ia : i = a
          · subst ia; simp [eF_R, nob_Rg, Fm_a, hF, c]
          · simp [eF_R, nob_Rg, Fm_o ia, ia]
        · by_cases ia : i = a
          · subst ia; simp [eF_R, nob_Rg, Fm_a, hF, c]
          · simp [eF_R, nob_Rg, Fm_o ia, ia]
        · by_cases ia : i = a
          · subst ia; simp [eF_R, nob_Rg, Fm_a, hF, c]
          · simp [eF_R, nob_Rg, Fm_o ia, ia]
        · by_cases ia : i = a
          · subst ia; simp [eF_R, nob_Rg, Fm_a, hF, c]
          · simp [eF_R, nob_Rg, Fm_o ia, ia]
        · by_cases ia : i = a
          · subst ia; simp [eF_R, nob_Rg, Fm_a, hF, c]
          · simp [eF_R, nob_Rg, Fm_o ia, ia]
        · by_cases ia : i = a
          · subst ia; simp [eF_R, nob_Rg, Fm_a, hF, c]
          · simp [eF_R, nob_Rg, Fm_o ia, ia]
        · by_cases ia : i = a
          · subst ia; simp [eF_R, nob_Rg, Fm_a, hF, c]
          · simp [eF_R, nob_Rg, Fm_o ia, ia]
        · rw [eF_Rk (by omega), nob_Rg, nob_Rg, eF_Rk (by omega)]
      · funext i
        show (if Fm F a i = true then (xW S i).filter _ else xW S i) = if F i = true then (xW S i).filter _ else xW S i
        by_cases ia : i = a
        · subst ia
          rw [Fm_a, hF, hw]; rfl
        · rw [Fm_o ia]
    | cons w r =>
      simp only []
      refine St.ext (fun k i => ?_) ?_ rfl rfl rfl
      · rcases kc k with rfl | rfl | rfl | rfl | rfl | rfl | rfl | ⟨n3, n4, n5, n8, n9, n10, n16⟩
        · by_cases ia : i = a
          · subst ia; simp [eF_R, gsn_R, Fm_a, hF, c]
          · simp [eF_R, gsn_R, Fm_o ia, ia]
        · by_cases ia : i = a
          · subst ia; simp [eF_R, gsn_R, Fm_a, hF, c]
          · simp [eF_R, gsn_R, Fm_o ia, ia]
        · by_cases ia : i = a
          · subst ia; simp [eF_R, gsn_R, Fm_a, hF, c]
          · simp [eF_R, gsn_R, Fm_o ia, ia]
        · by_cases ia : i = a
          · subst ia; simp [eF_R, gsn_R, Fm_a, hF, c]
          · simp [eF_R, gsn_R, Fm_o ia, ia]
        · by_cases ia : i = a
          · subst ia; simp [eF_R, gsn_R, Fm_a, hF, c]
          · simp [eF_R, gsn_R, Fm_o ia, ia]
        · by_cases ia : i = a
          · subst ia; simp [eF_R, gsn_R, Fm_a, hF, c]
          · simp [eF_R, gsn_R, Fm_o ia, ia]
        · by_cases ia : i = a
          · subst ia; simp [eF_R, gsn_R, Fm_a, hF, c]
          · simp [eF_R, gsn_R, Fm_o ia, ia]
        · rw [eF_Rk (by omega), gsn_R, gsn_R, eF_Rk (by omega), eF_Rk (by omega)]
      · funext i
        show (if Fm F a i = true then (if i = a then r else xW S i).filter _ else if i = a then r else xW S i) = if i = a then r else (if F i = true then (xW S i).filter _ else xW S i)
        by_cases ia : i = a
        · subst ia
          rw [Fm_a, if_neg (by decide), if_pos rfl, if_pos rfl]
        · rw [Fm_o ia, if_neg ia, if_neg ia]
  · rw [if_neg c, if_neg c]
    refine St.ext (fun k i => ?_) ?_ rfl rfl rfl
    · rw [eF_R, eF_R, xR_uW]
      by_cases ia : i = a
      · subst ia
        rw [Fm_a, if_neg (show ¬ ((8 ≤ k ∧ k ≤ 10) ∧ false = true ∧ _) from fun z => absurd z.2.1 (by decide)), if_neg (show ¬ ((8 ≤ k ∧ k ≤ 10) ∧ F i = true ∧ xR S 8 i = nI x) from fun z => c z.2.2)]
      · rw [Fm_o ia]
    · funext i
      show (if Fm F a i = true then (if i = a then _ else xW S i).filter _ else if i = a then _ else xW S i) = if F i = true then (xW S i).filter _ else xW S i
      by_cases ia : i = a
      · subst ia
        rw [Fm_a, if_neg (by decide), if_pos rfl, hF, if_pos rfl]
      · rw [Fm_o ia, if_neg ia]
