theorem mI_d {M : Mem} {o k : Nat} (h : k < 2147483648) : mI M o (nI k).toNatClampNeg = mI M o k := by rw [nI_clamp (by omega)]
theorem sI_d {M : Mem} {o k : Nat} {x : Int32} (h : k < 2147483648) : sI M o (nI k).toNatClampNeg x = sI M o k x := by rw [nI_clamp (by omega)]
theorem put5_o {M : Mem} {h l c f g k m tot o : Nat} (b : Nat) (ho : ¬ (h + 1 ≤ o ∧ o ≤ h + 6) ∨ o = h + 2) : mI (put5 M h l c f g k m tot) o b = mI M o b := by
  unfold put5
  rw [mI_o _ _ _ _ _ (by omega), mI_o _ _ _ _ _ (by omega), mI_o _ _ _ _ _ (by omega), mI_o _ _ _ _ _ (by omega), mI_o _ _ _ _ _ (by omega)]
theorem put5_1 {M : Mem} {h l c f g k m tot : Nat} (b : Nat) : mI (put5 M h l c f g k m tot) (h + 1) b = if b = 10 then nI (tot + 1) else mI M (h + 1) b := by
  unfold put5
  rw [mI_sI]
  by_cases e : b = 10
  · rw [if_pos ⟨rfl, e⟩, if_pos e]
  · rw [if_neg (fun z => e z.2), if_neg e, mI_o _ _ _ _ _ (by omega), mI_o _ _ _ _ _ (by omega), mI_o _ _ _ _ _ (by omega), mI_o _ _ _ _ _ (by omega)]
theorem put5_3 {M : Mem} {h l c f g k m tot : Nat} (b : Nat) : mI (put5 M h l c f g k m tot) (h + 3) b = if b = l then nI c else mI M (h + 3) b := by
  unfold put5
  rw [mI_o _ _ _ _ _ (by omega), mI_o _ _ _ _ _ (by omega), mI_o _ _ _ _ _ (by omega), mI_o _ _ _ _ _ (by omega), mI_sI]
  by_cases e : b = l
  · rw [if_pos ⟨rfl, e⟩, if_pos e]
  · rw [if_neg (fun z => e z.2), if_neg e]
theorem put5_4 {M : Mem} {h l c f g k m tot : Nat} (b : Nat) : mI (put5 M h l c f g k m tot) (h + 4) b = if b = l then nI (m + 1) else mI M (h + 4) b := by
  unfold put5
  rw [mI_o _ _ _ _ _ (by omega), mI_o _ _ _ _ _ (by omega), mI_o _ _ _ _ _ (by omega), mI_sI]
  by_cases e : b = l
  · rw [if_pos ⟨rfl, e⟩, if_pos e]
  · rw [if_neg (fun z => e z.2), if_neg e, mI_o _ _ _ _ _ (by omega)]
theorem put5_5 {M : Mem} {h l c f g k m tot : Nat} (b : Nat) : mI (put5 M h l c f g k m tot) (h + 5) b = if b = f then bon (mI M (h + 5) f) g else mI M (h + 5) b := by
  unfold put5
  rw [mI_o _ _ _ _ _ (by omega), mI_o _ _ _ _ _ (by omega), mI_sI]
  by_cases e : b = f
  · rw [if_pos ⟨rfl, e⟩, if_pos e]
  · rw [if_neg (fun z => e z.2), if_neg e, mI_o _ _ _ _ _ (by omega), mI_o _ _ _ _ _ (by omega)]
theorem put5_6 {M : Mem} {h l c f g k m tot : Nat} (b : Nat) : mI (put5 M h l c f g k m tot) (h + 6) b = if b = k then mI M (h + 6) k + 1 else mI M (h + 6) b := by
  unfold put5
  rw [mI_o _ _ _ _ _ (by omega), mI_sI]
  by_cases e : b = k
  · rw [if_pos ⟨rfl, e⟩, if_pos e]
  · rw [if_neg (fun z => e z.2), if_neg e, mI_o _ _ _ _ _ (by omega), mI_o _ _ _ _ _ (by omega), mI_o _ _ _ _ _ (by omega)]
theorem DS.i {α : Type} {M : Mem} {h d5 d6 d7 len : Nat} (q : DS M h d5 d6 d7 len) {d c : Nat} (hd : d = d5 ∨ d = d6 ∨ d = d7) (hc : c < len) (hl : len < 2 ^ 31) (x : Option α) : chk (inB (nI c) (mLn M d)) x = x := by
  refine chk_t ?_
  have : mLn M d = len := by rcases hd with rfl | rfl | rfl <;> simp [q.2.2.1]
  rw [this]; exact inB_n hc hl
theorem DS.c {α : Type} {M : Mem} {h d5 d6 d7 len : Nat} (q : DS M h d5 d6 d7 len) {d : Nat} (hd : d = d5 ∨ d = d6 ∨ d = d7) (x : Option α) : chk (isO M 100 d) x = x := by
  refine chk_t ?_
  rcases hd with rfl | rfl | rfl
  · exact q.2.1.1
  · exact q.2.1.2.1
  · exact q.2.1.2.2
set_option maxHeartbeats 1000000 in
theorem f129 {M : Mem} {h d5 d6 d7 len l c f g k m tot z : Nat} {s t : Int32} (q : CS M h) (w : DS M h d5 d6 d7 len) (hl : 16 * f + g = l) (hc : c < len) (hz : m ≠ 0 → z < len ∧ z ≠ c) (hln : len < 20000) (hf : f < 16) (hg : g < 16) (hk : k < 6) (hm : mI M (h + 4) l = nI m) (hm2 : m < 20000) (hla : m ≠ 0 → mI M (h + 3) l = nI z) (htot : mI M (h + 1) 10 = nI tot) (ht : mI M (h + 1) 11 = t) : ∃ M', f_X5_put_129 (h + 1) (nI k) (nI f) (nI g) s (nI c) M = some M' ∧ M'.1 = M.1 ∧ (∀ o b, mL M' o b = mL M o b) ∧ (∀ b, mI M' d5 b = if b = c then encC (nI k, s, t) else mI M d5 b) ∧ (∀ b, mI M' d6 b = if b = c then t else mI M d6 b) ∧ (∀ b, mI M' d7 b = if m ≠ 0 ∧ b = z then nI c else if b = c then -1 else mI M d7 b) ∧ (∀ b, mI M' (h + 2) b = if m = 0 ∧ b = l then nI c else mI M (h + 2) b) ∧ (∀ b, mI M' (h + 3) b = if b = l then nI c else mI M (h + 3) b) ∧ (∀ b, mI M' (h + 4) b = if b = l then nI (m + 1) else mI M (h + 4) b) ∧ (∀ b, mI M' (h + 5) b = if b = f then bon (mI M (h + 5) f) g else mI M (h + 5) b) ∧ (∀ b, mI M' (h + 6) b = if b = k then mI M (h + 6) k + 1 else mI M (h + 6) b) ∧ (∀ b, mI M' (h + 1) b = if b = 10 then nI (tot + 1) else mI M (h + 1) b) ∧ (∀ o, ¬ (h + 1 ≤ o ∧ o ≤ h + 6) → o ≠ d5 → o ≠ d6 → o ≠ d7 → ∀ b, mI M' o b = mI M o b) := by
  obtain ⟨⟨w1, w2, w3⟩, wi, wl, x5, x6, x7, x56, x57, x67⟩ := id w
  have hq := q.2.2.2.2
  have l1 : l < 256 := by omega
  generalize hMa : sI M d5 c (encC (nI k, s, t)) = Ma
  generalize hMb : sI Ma d6 c t = Mb
  generalize hMc : sI Mb d7 c (-1) = Mc
  have sa : Ma.1 = M.1 := by rw [← hMa]; rfl
  have sb : Mb.1 = M.1 := by rw [← hMb]; exact sa
  have sc : Mc.1 = M.1 := by rw [← hMc]; exact sb
  have wa := w.e sa
  have wb := w.e sb
  have wc := w.e sc
  have qa := q.e sa
  have qb := q.e sb
  have qc := q.e sc
  have oc : ∀ o, o ≠ d5 → o ≠ d6 → o ≠ d7 → ∀ b, mI Mc o b = mI M o b := by
    intro o n5 n6 n7 b
    rw [← hMc, mI_o _ _ _ _ _ n7, ← hMb, mI_o _ _ _ _ _ n6, ← hMa, mI_o _ _ _ _ _ n5]
  have c5 : ∀ b, mI Mc d5 b = if b = c then encC (nI k, s, t) else mI M d5 b := by
    intro b
    rw [← hMc, mI_o _ _ _ _ _ x57, ← hMb, mI_o _ _ _ _ _ x56, ← hMa, mI_sI]
    by_cases e : b = c
    · rw [if_pos ⟨rfl, e⟩, if_pos e]
    · rw [if_neg (fun y => e y.2), if_neg e]
  have c6 : ∀ b, mI Mc d6 b = if b = c then t else mI M d6 b := by
    intro b
    rw [← hMc, mI_o _ _ _ _ _ x67, ← hMb, mI_sI]
    by_cases e : b = c
    · rw [if_pos ⟨rfl, e⟩, if_pos e]
    · rw [if_neg (fun y => e y.2), if_neg e, ← hMa, mI_o _ _ _ _ _ x56.symm]
  have c7 : ∀ b, mI Mc d7 b = if b = c then -1 else mI M d7 b := by
    intro b
    rw [← hMc, mI_sI]
    by_cases e : b = c
    · rw [if_pos ⟨rfl, e⟩, if_pos e]
    · rw [if_neg (fun y => e y.2), if_neg e, ← hMb, mI_o _ _ _ _ _ x67.symm, ← hMa, mI_o _ _ _ _ _ x57.symm]
  have h5 : ∀ i, i < 7 → h + i ≠ d5 ∧ h + i ≠ d6 ∧ h + i ≠ d7 := fun i hi => by omega
  have o1 : ∀ i, i < 7 → ∀ b, mI Mc (h + i) b = mI M (h + i) b := fun i hi b => oc _ (h5 i hi).1 (h5 i hi).2.1 (h5 i hi).2.2 b
  have e11 : mI Ma (h + 1) 11 = t := by rw [← hMa, mI_o _ _ _ _ _ (h5 1 (by decide)).1]; exact ht
  have start : f_X5_put_129 (h + 1) (nI k) (nI f) (nI g) s (nI c) M = if m = 0 then f_X5_put_205 (h + 1) (nI k) (nI f) (nI g) (nI c) (nI l) (sI Mc (h + 2) l (nI c)) else f_X5_put_205 (h + 1) (nI k) (nI f) (nI g) (nI c) (nI l) (sI Mc d7 z (nI c)) := by
    have w1a := wa.1; have w1b := wb.1; have w1c := wc.1
    rw [f_X5_put_129, cs_p q, w1, bnd_e, w.c (Or.inl rfl), w.i (Or.inl rfl) hc (by omega), bnd_e, sI_d (by omega)]
    rw [show ((s <<< ((3 : Int32) &&& 31)) ||| nI k) = encC (nI k, s, t) from rfl, hMa, w1a.2.1, bnd_e, wa.c (Or.inr (Or.inl rfl)), wa.i (Or.inr (Or.inl rfl)) hc (by omega), bnd_e, sI_d (by omega), e11, hMb, w1b.2.2, bnd_e, wb.c (Or.inr (Or.inr rfl)), wb.i (Or.inr (Or.inr rfl)) hc (by omega), bnd_e, sI_d (by omega), hMc, c16', hl, bnd_e, cs_r4 qc, bnd_e, cs_a4 qc, cs_i4 qc l1, mI_c (by omega), o1 4 (by decide), hm]
    by_cases e : m = 0
    · rw [if_pos e, e, if_pos (by rfl), cs_r2 qc, bnd_e, cs_a2 qc, cs_i2 qc l1, bnd_e, sI_c (by omega)]
    · obtain ⟨hz1, hz2⟩ := hz e
      rw [if_neg e, if_neg (nI_ne0 (by omega) (by omega)), w1c.2.2, bnd_e, wc.c (Or.inr (Or.inr rfl)), cs_r3 qc, bnd_e, cs_a3 qc, cs_i3 qc l1, mI_c (by omega), o1 3 (by decide), hla e, wc.i (Or.inr (Or.inr rfl)) hz1 (by omega), bnd_e, sI_d (by omega)]
  by_cases e : m = 0
  · rw [if_pos e] at start
    generalize hMd : sI Mc (h + 2) l (nI c) = Md at start
    have sd : Md.1 = M.1 := by rw [← hMd]; exact sc
    have od : ∀ o, o ≠ h + 2 → ∀ b, mI Md o b = mI Mc o b := fun o n b => by rw [← hMd, mI_o _ _ _ _ _ n]
    refine ⟨put5 Md h l c f g k m tot, ?_, sd, ?_, fun b => ?_, fun b => ?_, fun b => ?_, fun b => ?_, fun b => ?_, fun b => ?_, fun b => ?_, fun b => ?_, fun b => ?_, fun o n1 n5 n6 n7 b => ?_⟩
    · rw [start, f205 (q.e sd) l1 (by omega) hf hg hk (by rw [od _ (by omega), o1 4 (by decide)]; exact hm) (by rw [od _ (by omega), o1 1 (by decide)]; exact htot)]
    · intro o b; rw [← hMd, ← hMc, ← hMb, ← hMa]; rfl
    · rw [put5_o b (by omega), od _ (by omega), c5]
    · rw [put5_o b (by omega), od _ (by omega), c6]
    · rw [put5_o b (by omega), od _ (by omega), c7, if_neg (show ¬ (m ≠ 0 ∧ b = z) from fun y => y.1 e)]
    · rw [put5_o b (Or.inr rfl), ← hMd, mI_sI]
      by_cases e2 : b = l
      · rw [if_pos ⟨rfl, e2⟩, if_pos ⟨e, e2⟩]
      · rw [if_neg (fun y => e2 y.2), if_neg (fun y => e2 y.2), o1 2 (by decide)]
    · rw [put5_3, od _ (by omega), o1 3 (by decide)]
    · rw [put5_4, od _ (by omega), o1 4 (by decide)]
    · rw [put5_5, od _ (by omega), o1 5 (by decide), od _ (by omega), o1 5 (by decide)]
    · rw [put5_6, od _ (by omega), o1 6 (by decide), od _ (by omega), o1 6 (by decide)]
    · rw [put5_1, od _ (by omega), o1 1 (by decide)]
    · rw [put5_o b (Or.inl n1), od _ (by omega), oc o n5 n6 n7]
  · rw [if_neg e] at start
    obtain ⟨hz1, hz2⟩ := hz e
    generalize hMd : sI Mc d7 z (nI c) = Md at start
    have sd : Md.1 = M.1 := by rw [← hMd]; exact sc
    have od : ∀ o, o ≠ d7 → ∀ b, mI Md o b = mI Mc o b := fun o n b => by rw [← hMd, mI_o _ _ _ _ _ n]
    refine ⟨put5 Md h l c f g k m tot, ?_, sd, ?_, fun b => ?_, fun b => ?_, fun b => ?_, fun b => ?_, fun b => ?_, fun b => ?_, fun b => ?_, fun b => ?_, fun b => ?_, fun o n1 n5 n6 n7 b => ?_⟩
    · rw [start, f205 (q.e sd) l1 (by omega) hf hg hk (by rw [od _ (by omega), o1 4 (by decide)]; exact hm) (by rw [od _ (by omega), o1 1 (by decide)]; exact htot)]
    · intro o b; rw [← hMd, ← hMc, ← hMb, ← hMa]; rfl
    · rw [put5_o b (by omega), od _ x57, c5]
    · rw [put5_o b (by omega), od _ x67, c6]
    · rw [put5_o b (by omega), ← hMd, mI_sI]
      by_cases e2 : b = z
      · rw [if_pos ⟨rfl, e2⟩, if_pos ⟨e, e2⟩]
      · rw [if_neg (fun y => e2 y.2), if_neg (show ¬ (m ≠ 0 ∧ b = z) from fun y => e2 y.2), c7]
    · rw [put5_o b (Or.inr rfl), od _ (by omega), o1 2 (by decide), if_neg (fun y => e y.1)]
    · rw [put5_3, od _ (by omega), o1 3 (by decide)]
    · rw [put5_4, od _ (by omega), o1 4 (by decide)]
    · rw [put5_5, od _ (by omega), o1 5 (by decide), od _ (by omega), o1 5 (by decide)]
    · rw [put5_6, od _ (by omega), o1 6 (by decide), od _ (by omega), o1 6 (by decide)]
    · rw [put5_1, od _ (by omega), o1 1 (by decide)]
    · rw [put5_o b (Or.inl n1), od _ n7, oc o n5 n6 n7]
