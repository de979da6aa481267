/-! ===== the class takes a letter ===== -/
set_option maxHeartbeats 1000000 in
theorem ftake {M : Mem} {h d5 d6 d7 len l c f g m tot : Nat} {y : Int32} (q : CS M h) (w : DS M h d5 d6 d7 len) (hl : 16 * f + g = l) (hc : c < len) (hln : len < 20000) (hf : f < 16) (hg : g < 16) (hm : mI M (h + 4) l = nI (m + 1)) (hm2 : m < 20000) (hfi : mI M (h + 2) l = nI c) (htot : mI M (h + 1) 10 = nI (tot + 1)) (hy : mI M (h + 1) 9 = y) : ∃ M', f_X5_takeFirst (h + 1) (nI f) (nI g) M = some (mI M d5 c, M') ∧ M'.1 = M.1 ∧ (∀ o b, mL M' o b = mL M o b) ∧ (∀ b, mI M' d7 b = if b = c then y else mI M d7 b) ∧ (∀ b, mI M' (h + 2) b = if b = l then mI M d7 c else mI M (h + 2) b) ∧ (∀ b, mI M' (h + 4) b = if b = l then nI m else mI M (h + 4) b) ∧ (∀ b, mI M' (h + 5) b = if m = 0 ∧ b = f then bof (mI M (h + 5) f) g else mI M (h + 5) b) ∧ (∀ b, mI M' (h + 1) b = if b = 10 then nI tot else if b = 9 then nI c else mI M (h + 1) b) ∧ (∀ o, o ≠ h + 1 → o ≠ h + 2 → o ≠ h + 4 → o ≠ h + 5 → o ≠ d7 → ∀ b, mI M' o b = mI M o b) := by
  obtain ⟨⟨w1, w2, w3⟩, wi, wl, x5, x6, x7, x56, x57, x67⟩ := id w
  have hq := q.2.2.2.2
  have l1 : l < 256 := by omega
  have h7 : ∀ i, i < 7 → h + i ≠ d7 := fun i hi => by omega
  have h5 : ∀ i, i < 7 → h + i ≠ d5 := fun i hi => by omega
  have fin : ∀ Mc : Mem, Mc.1 = M.1 → (∀ o b, mL Mc o b = mL M o b) → (∀ o, o ≠ h + 2 → o ≠ h + 4 → o ≠ h + 5 → ∀ b, mI Mc o b = mI M o b) → ∃ M', f_X5_takeFirst_72 (h + 1) (nI c) Mc = some (mI M d5 c, M') ∧ M'.1 = M.1 ∧ (∀ o b, mL M' o b = mL M o b) ∧ (∀ b, mI M' d7 b = if b = c then y else mI M d7 b) ∧ (∀ b, mI M' (h + 1) b = if b = 10 then nI tot else if b = 9 then nI c else mI M (h + 1) b) ∧ (∀ o, o ≠ h + 1 → o ≠ d7 → ∀ b, mI M' o b = mI Mc o b) := by
    intro Mc sc lc oc
    generalize hMd : sI Mc d7 c y = Md
    generalize hMe : sI Md (h + 1) 9 (nI c) = Me
    generalize hMf : sI Me (h + 1) 10 (nI tot) = Mf
    have sd : Md.1 = M.1 := by rw [← hMd]; exact sc
    have se : Me.1 = M.1 := by rw [← hMe]; exact sd
    have sf : Mf.1 = M.1 := by rw [← hMf]; exact se
    have wc := (w.e sc).1
    have wf := (w.e sf).1
    have y1 : mI Mc (h + 1) 9 = y := by rw [oc _ (by omega) (by omega) (by omega)]; exact hy
    have y2 : mI Me (h + 1) 10 = nI (tot + 1) := by rw [← hMe, mI_n _ _ _ _ (by decide), ← hMd, mI_o _ _ _ _ _ (h7 1 (by decide)), oc _ (by omega) (by omega) (by omega)]; exact htot
    have y3 : ∀ o, o ≠ h + 1 → o ≠ d7 → ∀ b, mI Mf o b = mI Mc o b := fun o n1 n7 b => by rw [← hMf, mI_o _ _ _ _ _ n1, ← hMe, mI_o _ _ _ _ _ n1, ← hMd, mI_o _ _ _ _ _ n7]
    refine ⟨Mf, ?_, sf, fun o b => ?_, fun b => ?_, fun b => ?_, y3⟩
    · rw [f_X5_takeFirst_72, cs_p (q.e sc), wc.2.2, bnd_e, (w.e sc).c (Or.inr (Or.inr rfl)), (w.e sc).i (Or.inr (Or.inr rfl)) hc (by omega), y1, sI_d (by omega), hMd, bnd_e, hMe, bnd_e, y2, nI_pred, hMf, bnd_e, wf.1, bnd_e, (w.e sf).c (Or.inl rfl), (w.e sf).i (Or.inl rfl) hc (by omega), mI_d (by omega), y3 d5 (h5 1 (by decide)).symm x57, oc _ (h5 2 (by decide)).symm (h5 4 (by decide)).symm (h5 5 (by decide)).symm]
    · rw [← hMf, ← hMe, ← hMd]; exact lc o b
    · rw [← hMf, mI_o _ _ _ _ _ (h7 1 (by decide)).symm, ← hMe, mI_o _ _ _ _ _ (h7 1 (by decide)).symm, ← hMd, mI_sI]
      by_cases e : b = c
      · rw [if_pos ⟨rfl, e⟩, if_pos e]
      · rw [if_neg (fun z => e z.2), if_neg e, oc _ (h7 2 (by decide)).symm (h7 4 (by decide)).symm (h7 5 (by decide)).symm]
    · rw [← hMf, mI_sI]
      by_cases e : b = 10
      · rw [if_pos ⟨rfl, e⟩, if_pos e]
      · rw [if_neg (fun z => e z.2), if_neg e, ← hMe, mI_sI]
        by_cases e2 : b = 9
        · rw [if_pos ⟨rfl, e2⟩, if_pos e2]
        · rw [if_neg (fun z => e2 z.2), if_neg e2, ← hMd, mI_o _ _ _ _ _ (h7 1 (by decide)), oc _ (by omega) (by omega) (by omega)]
  generalize hMa : sI M (h + 2) l (mI M d7 c) = Ma
  generalize hMb : sI Ma (h + 4) l (nI m) = Mb
  have sa : Ma.1 = M.1 := by rw [← hMa]; rfl
  have sb : Mb.1 = M.1 := by rw [← hMb]; exact sa
  have qa := q.e sa
  have qb := q.e sb
  have e4 : mI Ma (h + 4) l = nI (m + 1) := by rw [← hMa, mI_o _ _ _ _ _ (by omega)]; exact hm
  have e4b : mI Mb (h + 4) l = nI m := by rw [← hMb, mI_s]
  have ob : ∀ o, o ≠ h + 2 → o ≠ h + 4 → ∀ b, mI Mb o b = mI M o b := fun o n2 n4 b => by rw [← hMb, mI_o _ _ _ _ _ n4, ← hMa, mI_o _ _ _ _ _ n2]
  have b2 : ∀ b, mI Mb (h + 2) b = if b = l then mI M d7 c else mI M (h + 2) b := fun b => by
    rw [← hMb, mI_o _ _ _ _ _ (by omega), ← hMa, mI_sI]
    by_cases e : b = l
    · rw [if_pos ⟨rfl, e⟩, if_pos e]
    · rw [if_neg (fun z => e z.2), if_neg e]
  have b4 : ∀ b, mI Mb (h + 4) b = if b = l then nI m else mI M (h + 4) b := fun b => by
    rw [← hMb, mI_sI]
    by_cases e : b = l
    · rw [if_pos ⟨rfl, e⟩, if_pos e]
    · rw [if_neg (fun z => e z.2), if_neg e, ← hMa, mI_o _ _ _ _ _ (by omega)]
  have start : f_X5_takeFirst (h + 1) (nI f) (nI g) M = if m = 0 then f_X5_takeFirst_72 (h + 1) (nI c) (sI Mb (h + 5) f (bof (mI M (h + 5) f) g)) else f_X5_takeFirst_72 (h + 1) (nI c) Mb := by
    rw [f_X5_takeFirst, c16', hl, bnd_e, cs_p q, cs_r4 q, bnd_e, cs_a4 q, cs_i4 q l1, mI_c (by omega), hm, if_neg (nI_ne0 (by omega) (by omega)), cs_r2 q, bnd_e, cs_a2 q, cs_i2 q l1, mI_c (by omega), hfi, bnd_e, bnd_e, cs_a2 q, w3, bnd_e, w.c (Or.inr (Or.inr rfl)), w.i (Or.inr (Or.inr rfl)) hc (by omega), cs_i2 q l1, mI_d (by omega), sI_c (by omega), hMa, bnd_e, cs_r4 qa, bnd_e, cs_a4 qa, cs_i4 qa l1, cs_i4 qa l1, mI_c (by omega), e4, nI_pred, sI_c (by omega), hMb, bnd_e, cs_r4 qb, bnd_e, cs_a4 qb, cs_i4 qb l1, mI_c (by omega), e4b]
    by_cases e : m = 0
    · rw [if_pos e, if_pos (by rw [e]; rfl), cs_r5 qb, bnd_e, cs_a5 qb, cs_i5 qb hf, cs_i5 qb hf, mI_c (by omega), ob _ (by omega) (by omega), sI_c (by omega)]
      rw [show (mI M (h + 5) f &&& (((1 : Int32) <<< (nI g &&& 31)) ^^^ (-1 : Int32))) = bof (mI M (h + 5) f) g from rfl, bnd_e]
    · rw [if_neg e, if_neg (nI_ne0 (by omega) (by omega))]
  rw [start]
  by_cases e : m = 0
  · rw [if_pos e]
    obtain ⟨M', e', m1, m2, m7, m3, mo⟩ := fin (sI Mb (h + 5) f (bof (mI M (h + 5) f) g)) sb (fun o b => by rw [← hMb, ← hMa]; rfl) (fun o n2 n4 n5 b => by rw [mI_o _ _ _ _ _ n5, ob o n2 n4])
    refine ⟨M', e', m1, m2, m7, fun b => ?_, fun b => ?_, fun b => ?_, m3, fun o n1 n2 n4 n5 n7 b => ?_⟩
    · rw [mo _ (by omega) (h7 2 (by decide)), mI_o _ _ _ _ _ (by omega), b2]
    · rw [mo _ (by omega) (h7 4 (by decide)), mI_o _ _ _ _ _ (by omega), b4]
    · rw [mo _ (by omega) (h7 5 (by decide)), mI_sI]
      by_cases e2 : b = f
      · rw [if_pos ⟨rfl, e2⟩, if_pos ⟨e, e2⟩]
      · rw [if_neg (fun z => e2 z.2), if_neg (fun z => e2 z.2), ob _ (by omega) (by omega)]
    · rw [mo o n1 n7, mI_o _ _ _ _ _ n5, ob o n2 n4]
  · rw [if_neg e]
    obtain ⟨M', e', m1, m2, m7, m3, mo⟩ := fin Mb sb (fun o b => by rw [← hMb, ← hMa]; rfl) (fun o n2 n4 _ b => ob o n2 n4 b)
    refine ⟨M', e', m1, m2, m7, fun b => ?_, fun b => ?_, fun b => ?_, m3, fun o n1 n2 n4 n5 n7 b => ?_⟩
    · rw [mo _ (by omega) (h7 2 (by decide)), b2]
    · rw [mo _ (by omega) (h7 4 (by decide)), b4]
    · rw [mo _ (by omega) (h7 5 (by decide)), ob _ (by omega) (by omega), if_neg (fun z => e z.1)]
    · rw [mo o n1 n7, ob o n2 n4]
