/-! ===== the class: one place for another's ===== -/
set_option maxHeartbeats 2000000 in
theorem f_pcp {M : Mem} {h k v : Nat} (q : CS M h) (q' : CS M k) (hk : h + 49 ≤ k ∨ k + 49 ≤ h) (hv : v < 16) (hb : mI M (h + 17 + 2 * v) 8 = 0 ∨ mI M (h + 17 + 2 * v) 8 = 1) : ∃ M', f_X4_copyFrom (k + 17 + 2 * v) (h + 17 + 2 * v) M = some M' ∧ M'.1 = M.1 ∧ (∀ j, j < 16 → j ≠ 10 → mI M' (k + 17 + 2 * v) j = mI M (h + 17 + 2 * v) j) ∧ (∀ j, j < 16 → mI M' (k + 18 + 2 * v) j = mI M (h + 18 + 2 * v) j) ∧ (∀ o, o ≠ k + 17 + 2 * v → o ≠ k + 18 + 2 * v → ∀ j, mI M' o j = mI M o j) ∧ (∀ o j, mL M' o j = mL M o j) := by
  have r0 := cs_pr q hv
  have r0' := cs_pr q' hv
  have i0 : ∀ x : Option Mem, chk (isO M 4 (h + 17 + 2 * v)) x = x := fun x => cs_po q hv x
  have i0' : ∀ x : Option Mem, chk (isO M 4 (k + 17 + 2 * v)) x = x := fun x => cs_po q' hv x
  have j0 : ∀ x : Option Mem, chk (isO M 100 (h + 18 + 2 * v)) x = x := fun x => cs_pa q hv x
  have j0' : ∀ x : Option Mem, chk (isO M 100 (k + 18 + 2 * v)) x = x := fun x => cs_pa q' hv x
  have ln : mLn M (h + 18 + 2 * v) = 16 := by
    have : ∀ v, v < 16 → (tC.getD (14 + (18 + 2 * v)) (0, 0)).2 = 16 := by decide
    have z := q.ln (i := 18 + 2 * v) (by omega) (by omega) (this v hv)
    rwa [← Nat.add_assoc] at z
  have ln' : mLn M (k + 18 + 2 * v) = 16 := by
    have : ∀ v, v < 16 → (tC.getD (14 + (18 + 2 * v)) (0, 0)).2 = 16 := by decide
    have z := q'.ln (i := 18 + 2 * v) (by omega) (by omega) (this v hv)
    rwa [← Nat.add_assoc] at z
  generalize hP : h + 17 + 2 * v = P at *
  generalize hP' : k + 17 + 2 * v = P' at *
  have hne : P ≠ P' := by omega
  generalize hm : mI M P = s at *
  generalize h0 : sI M P' 0 (s 0) = M0
  generalize h1 : sI M0 P' 1 (s 1) = M1
  generalize h2 : sI M1 P' 2 (s 2) = M2
  generalize h3 : sI M2 P' 3 (s 3) = M3
  generalize h4 : sI M3 P' 4 (s 4) = M4
  generalize h5 : sI M4 P' 5 (s 5) = M5
  generalize h6 : sI M5 P' 6 (s 6) = M6
  generalize h7 : sI M6 P' 7 (s 7) = M7
  generalize h8 : sI M7 P' 8 (s 8) = M8
  generalize h9 : sI M8 P' 9 (s 9) = M9
  generalize h10 : cpI M9 (h + 18 + 2 * v) 0 (k + 18 + 2 * v) 0 16 = M10
  generalize h11 : sI M10 P' 11 (s 11) = M11
  generalize h12 : sI M11 P' 12 (s 12) = M12
  generalize h13 : sI M12 P' 13 (s 13) = M13
  generalize h14 : sI M13 P' 14 (s 14) = M14
  generalize h15 : sI M14 P' 15 (s 15) = M15
  have a0 : ∀ j, mI M0 P j = s j := fun j => by rw [← h0, mI_o _ _ _ _ _ hne, hm]
  have a1 : ∀ j, mI M1 P j = s j := fun j => by rw [← h1, mI_o _ _ _ _ _ hne, a0]
  have a2 : ∀ j, mI M2 P j = s j := fun j => by rw [← h2, mI_o _ _ _ _ _ hne, a1]
  have a3 : ∀ j, mI M3 P j = s j := fun j => by rw [← h3, mI_o _ _ _ _ _ hne, a2]
  have a4 : ∀ j, mI M4 P j = s j := fun j => by rw [← h4, mI_o _ _ _ _ _ hne, a3]
  have a5 : ∀ j, mI M5 P j = s j := fun j => by rw [← h5, mI_o _ _ _ _ _ hne, a4]
  have a6 : ∀ j, mI M6 P j = s j := fun j => by rw [← h6, mI_o _ _ _ _ _ hne, a5]
  have a7 : ∀ j, mI M7 P j = s j := fun j => by rw [← h7, mI_o _ _ _ _ _ hne, a6]
  have a8 : ∀ j, mI M8 P j = s j := fun j => by rw [← h8, mI_o _ _ _ _ _ hne, a7]
  have a9 : ∀ j, mI M9 P j = s j := fun j => by rw [← h9, mI_o _ _ _ _ _ hne, a8]
  have a10 : ∀ j, mI M10 P j = s j := fun j => by rw [← h10, cp_I, if_neg (fun z => by omega), a9]
  have a11 : ∀ j, mI M11 P j = s j := fun j => by rw [← h11, mI_o _ _ _ _ _ hne, a10]
  have a12 : ∀ j, mI M12 P j = s j := fun j => by rw [← h12, mI_o _ _ _ _ _ hne, a11]
  have a13 : ∀ j, mI M13 P j = s j := fun j => by rw [← h13, mI_o _ _ _ _ _ hne, a12]
  have a14 : ∀ j, mI M14 P j = s j := fun j => by rw [← h14, mI_o _ _ _ _ _ hne, a13]
  have s9 : M9.1 = M.1 := by rw [← h9, ← h8, ← h7, ← h6, ← h5, ← h4, ← h3, ← h2, ← h1, ← h0]; rfl
  have s15 : M15.1 = M.1 := by rw [← h15, ← h14, ← h13, ← h12, ← h11, ← h10]; exact s9
  have o9 : ∀ o, o ≠ P' → ∀ j, mI M9 o j = mI M o j := fun o n j => by
    rw [← h9, mI_o _ _ _ _ _ n, ← h8, mI_o _ _ _ _ _ n, ← h7, mI_o _ _ _ _ _ n, ← h6, mI_o _ _ _ _ _ n, ← h5, mI_o _ _ _ _ _ n, ← h4, mI_o _ _ _ _ _ n, ← h3, mI_o _ _ _ _ _ n, ← h2, mI_o _ _ _ _ _ n, ← h1, mI_o _ _ _ _ _ n, ← h0, mI_o _ _ _ _ _ n]
  have o15 : ∀ o, o ≠ P' → ∀ j, mI M15 o j = mI M10 o j := fun o n j => by
    rw [← h15, mI_o _ _ _ _ _ n, ← h14, mI_o _ _ _ _ _ n, ← h13, mI_o _ _ _ _ _ n, ← h12, mI_o _ _ _ _ _ n, ← h11, mI_o _ _ _ _ _ n]
  have e9 : ∀ j, mI M9 P' j = if j = 9 then s 9 else if j = 8 then s 8 else if j = 7 then s 7 else if j = 6 then s 6 else if j = 5 then s 5 else if j = 4 then s 4 else if j = 3 then s 3 else if j = 2 then s 2 else if j = 1 then s 1 else if j = 0 then s 0 else mI M P' j := fun j => by
    rw [← h9, mI_sI, ← h8, mI_sI, ← h7, mI_sI, ← h6, mI_sI, ← h5, mI_sI, ← h4, mI_sI, ← h3, mI_sI, ← h2, mI_sI, ← h1, mI_sI, ← h0, mI_sI]
    simp only [true_and]
  have e10 : ∀ j, mI M10 P' j = mI M9 P' j := fun j => by rw [← h10, cp_I, if_neg (fun z => by omega)]
  have e15 : ∀ j, mI M15 P' j = if j = 15 then s 15 else if j = 14 then s 14 else if j = 13 then s 13 else if j = 12 then s 12 else if j = 11 then s 11 else mI M10 P' j := fun j => by
    rw [← h15, mI_sI, ← h14, mI_sI, ← h13, mI_sI, ← h12, mI_sI, ← h11, mI_sI]
    simp only [true_and]
  refine ⟨M15, ?_, s15, fun j hj n => ?_, fun j hj => ?_, fun o n1 n2 j => ?_, fun o j => ?_⟩
  · have R9 : mR M9 = mR M := by unfold mR; rw [s9]
    have I9 : ∀ c o, isO M9 c o = isO M c o := fun c o => by unfold isO mN mC; rw [s9]
    have L9 : mLn M9 = mLn M := by unfold mLn; rw [s9]
    have j9 : ∀ x : Option Mem, chk (isO M9 100 (h + 18 + 2 * v)) x = x := fun x => cs_pa (q.e s9) hv x
    have j9' : ∀ x : Option Mem, chk (isO M9 100 (k + 18 + 2 * v)) x = x := fun x => cs_pa (q'.e s9) hv x
    rw [f_X4_copyFrom, i0, i0', hm, h0, bnd_e, a0, h1, bnd_e, a1, h2, bnd_e, a2, h3, bnd_e, a3, h4, bnd_e, a4, h5, bnd_e, a5, h6, bnd_e, a6, h7, bnd_e, a7, chk_t hb, h8, bnd_e, a8, h9, bnd_e, R9, r0, bnd_e, j9, r0', bnd_e, j9', L9, ln, ln', show (16 : Int32) = nI 16 from rfl, cp_st _ (Nat.le_refl _) (Nat.le_refl _) (by decide), h10, a10, h11, bnd_e, a11, h12, bnd_e, a12, h13, bnd_e, a13, h14, bnd_e, a14, h15, bnd_e]
  · rw [e15]
    rcases (show j = 0 ∨ j = 1 ∨ j = 2 ∨ j = 3 ∨ j = 4 ∨ j = 5 ∨ j = 6 ∨ j = 7 ∨ j = 8 ∨ j = 9 ∨ j = 11 ∨ j = 12 ∨ j = 13 ∨ j = 14 ∨ j = 15 by omega) with rfl | rfl | rfl | rfl | rfl | rfl | rfl | rfl | rfl | rfl | rfl | rfl | rfl | rfl | rfl
    all_goals first | rfl | (rw [e10, e9]; rfl)
  · rw [o15 _ (by omega), ← h10, cp_I, if_pos ⟨rfl, hj⟩, o9 _ (by omega)]
  · rw [o15 _ n1, ← h10, cp_I, if_neg (fun z => n2 z.1), o9 _ n1]
  · rw [← h15, ← h14, ← h13, ← h12, ← h11, ← h10, ← h9, ← h8, ← h7, ← h6, ← h5, ← h4, ← h3, ← h2, ← h1, ← h0]; rfl
set_option maxHeartbeats 2000000 in
theorem hcp_l {h k : Nat} (hk : h + 49 ≤ k ∨ k + 49 ≤ h) : ∀ (d i n : Nat) (M : Mem), i + d = 16 → d + 1 ≤ n → CS M h → CS M k → (∀ v, v < 16 → mI M (h + 17 + 2 * v) 8 = 0 ∨ mI M (h + 17 + 2 * v) 8 = 1) → ∃ M', f_X2_copyFrom_13 n k h (nI i) M = some M' ∧ M'.1 = M.1 ∧ (∀ v, i ≤ v → v < 16 → (∀ j, j < 16 → j ≠ 10 → mI M' (k + 17 + 2 * v) j = mI M (h + 17 + 2 * v) j) ∧ (∀ j, j < 16 → mI M' (k + 18 + 2 * v) j = mI M (h + 18 + 2 * v) j) ∧ mI M' (k + 15) v = mI M (h + 15) v) ∧ (∀ j, 7 ≤ j → j ≤ 15 → mI M' k j = mI M h j) ∧ (∀ o, ¬ (o = k ∨ o = k + 15 ∨ (k + 17 + 2 * i ≤ o ∧ o < k + 49)) → ∀ b, mI M' o b = mI M o b) ∧ (∀ b, b < i → mI M' (k + 15) b = mI M (k + 15) b) ∧ (∀ o j, mL M' o j = mL M o j) := by
  intro d
  induction d with
  | zero =>
    intro i n M hi hn q q' hb
    obtain ⟨n, rfl⟩ : ∃ m, n = m + 1 := ⟨n - 1, by omega⟩
    have hq := q.2.2.2.2
    have hq' := q'.2.2.2.2
    have hne : h ≠ k := by omega
    generalize h7 : sI M k 7 (mI M h 7) = M7
    generalize h8 : sI M7 k 8 (mI M h 8) = M8
    generalize h9 : sI M8 k 9 (mI M h 9) = M9
    generalize h10 : sI M9 k 10 (mI M h 10) = M10
    generalize h11 : sI M10 k 11 (mI M h 11) = M11
    generalize h12 : sI M11 k 12 (mI M h 12) = M12
    generalize h13 : sI M12 k 13 (mI M h 13) = M13
    generalize h14 : sI M13 k 14 (mI M h 14) = M14
    generalize h15 : sI M14 k 15 (mI M h 15) = M15
    have o7 : ∀ o, o ≠ k → ∀ j, mI M7 o j = mI M o j := fun o n j => by rw [← h7, mI_o _ _ _ _ _ n]
    have o8 : ∀ o, o ≠ k → ∀ j, mI M8 o j = mI M o j := fun o n j => by rw [← h8, mI_o _ _ _ _ _ n, o7 _ n]
    have o9 : ∀ o, o ≠ k → ∀ j, mI M9 o j = mI M o j := fun o n j => by rw [← h9, mI_o _ _ _ _ _ n, o8 _ n]
    have o10 : ∀ o, o ≠ k → ∀ j, mI M10 o j = mI M o j := fun o n j => by rw [← h10, mI_o _ _ _ _ _ n, o9 _ n]
    have o11 : ∀ o, o ≠ k → ∀ j, mI M11 o j = mI M o j := fun o n j => by rw [← h11, mI_o _ _ _ _ _ n, o10 _ n]
    have o12 : ∀ o, o ≠ k → ∀ j, mI M12 o j = mI M o j := fun o n j => by rw [← h12, mI_o _ _ _ _ _ n, o11 _ n]
    have o13 : ∀ o, o ≠ k → ∀ j, mI M13 o j = mI M o j := fun o n j => by rw [← h13, mI_o _ _ _ _ _ n, o12 _ n]
    have o14 : ∀ o, o ≠ k → ∀ j, mI M14 o j = mI M o j := fun o n j => by rw [← h14, mI_o _ _ _ _ _ n, o13 _ n]
    have o15 : ∀ o, o ≠ k → ∀ j, mI M15 o j = mI M o j := fun o n j => by rw [← h15, mI_o _ _ _ _ _ n, o14 _ n]
    refine ⟨M15, ?_, by rw [← h15, ← h14, ← h13, ← h12, ← h11, ← h10, ← h9, ← h8, ← h7]; rfl, fun v a b => by omega, fun j j1 j2 => ?_, fun o n b => o15 o (fun z => n (Or.inl z)) b, fun b _ => o15 _ (by omega) b, fun o j => by rw [← h15, ← h14, ← h13, ← h12, ← h11, ← h10, ← h9, ← h8, ← h7]; rfl⟩
    · have : nI i = (16 : Int32) := by rw [show i = 16 by omega]; rfl
      rw [f_X2_copyFrom_13, if_pos (by rw [this]; decide), cs_f q, cs_f q', h7, bnd_e, o7 _ hne, h8, bnd_e, o8 _ hne, h9, bnd_e, o9 _ hne, h10, bnd_e, o10 _ hne, h11, bnd_e, o11 _ hne, h12, bnd_e, o12 _ hne, h13, bnd_e, o13 _ hne, h14, bnd_e, o14 _ hne, h15, bnd_e]
    · have e : ∀ j, mI M15 k j = if j = 15 then mI M h 15 else if j = 14 then mI M h 14 else if j = 13 then mI M h 13 else if j = 12 then mI M h 12 else if j = 11 then mI M h 11 else if j = 10 then mI M h 10 else if j = 9 then mI M h 9 else if j = 8 then mI M h 8 else if j = 7 then mI M h 7 else mI M k j := fun j => by
        rw [← h15, mI_sI, ← h14, mI_sI, ← h13, mI_sI, ← h12, mI_sI, ← h11, mI_sI, ← h10, mI_sI, ← h9, mI_sI, ← h8, mI_sI, ← h7, mI_sI]
        simp only [true_and]
      rw [e]
      rcases (show j = 7 ∨ j = 8 ∨ j = 9 ∨ j = 10 ∨ j = 11 ∨ j = 12 ∨ j = 13 ∨ j = 14 ∨ j = 15 by omega) with rfl | rfl | rfl | rfl | rfl | rfl | rfl | rfl | rfl <;> rfl
  | succ d ih =>
    intro i n M hi hn q q' hb
    obtain ⟨n, rfl⟩ : ∃ m, n = m + 1 := ⟨n - 1, by omega⟩
    have hq := q.2.2.2.2
    have hq' := q'.2.2.2.2
    have i6 : i < 16 := by omega
    obtain ⟨M1, e1, s1, p1, p2, p3, p4⟩ := f_pcp q q' hk i6 (hb i i6)
    have q1 := q.e s1
    have q1' := q'.e s1
    have e15 : mI M1 (h + 15) i = mI M (h + 15) i := p3 _ (by omega) (by omega) i
    generalize hM2 : sI M1 (k + 15) i (mI M (h + 15) i) = M2
    have s2 : M2.1 = M.1 := by rw [← hM2]; exact s1
    have o2 : ∀ o, o ≠ k + 15 → ∀ j, mI M2 o j = mI M1 o j := fun o n j => by rw [← hM2, mI_o _ _ _ _ _ n]
    have src : ∀ o, h ≤ o → o < h + 49 → ∀ j, mI M2 o j = mI M o j := fun o a b j => by
      rw [o2 _ (by omega), p3 _ (by omega) (by omega)]
    obtain ⟨M3, e3, s3, f1, f2, f3, f4, f5⟩ := ih (i + 1) n M2 (by omega) (by omega) (q.e s2) (q'.e s2) (fun v hv => by rw [src _ (by omega) (by omega)]; exact hb v hv)
    refine ⟨M3, ?_, s3.trans s2, fun v a b => ?_, fun j j1 j2 => ?_, fun o n b => ?_, fun b hb' => ?_, fun o j => ?_⟩
    · rw [f_X2_copyFrom_13, if_neg (show ¬ (16 : Int32) ≤ nI i from nI_ge (a := i) (b := 16) (by omega) (by decide)), cs_f q', cs_h2 q', bnd_e, cs_a10 q', cs_i10 q' i6, cs_rpc q' i6, bnd_e, cs_po q' i6, cs_f q, cs_h2 q, bnd_e, cs_a10 q, cs_i10 q i6, cs_rpc q i6, bnd_e, cs_po q i6, e1, obd_s, cs_f q1', cs_h5 q1', bnd_e, cs_a15 q1', cs_f q1, cs_h5 q1, bnd_e, cs_a15 q1, cs_i15 q1 i6, cs_i15 q1' i6, cl_n (by omega), e15, hM2, bnd_e, nI_1, bnd_e, e3]
    · by_cases c : v = i
      · subst c
        refine ⟨fun j hj n => ?_, fun j hj => ?_, ?_⟩
        · rw [f3 _ (by omega), o2 _ (by omega), p1 j hj n]
        · rw [f3 _ (by omega), o2 _ (by omega), p2 j hj]
        · rw [f4 v (by omega), ← hM2, mI_s]
      · obtain ⟨g1, g2, g3⟩ := f1 v (by omega) b
        refine ⟨fun j hj n => ?_, fun j hj => ?_, ?_⟩
        · rw [g1 j hj n, src _ (by omega) (by omega)]
        · rw [g2 j hj, src _ (by omega) (by omega)]
        · rw [g3, src _ (by omega) (by omega)]
    · rw [f2 j j1 j2, src _ (by omega) (by omega)]
    · rw [f3 o (by omega), o2 _ (by omega), p3 _ (by omega) (by omega)]
    · rw [f4 b (by omega), ← hM2, mI_n _ _ _ _ (by omega), p3 _ (by omega) (by omega)]
    · rw [f5, ← hM2]; exact p4 o j
