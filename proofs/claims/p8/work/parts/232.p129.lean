theorem mI_d {M : Mem} {o k : Nat} (h : k < 2147483648) : mI M o (nI k).toNatClampNeg = mI M o k := by rw [nI_clamp (by omega)]
theorem sI_d {M : Mem} {o k : Nat} {x : Int32} (h : k < 2147483648) : sI M o (nI k).toNatClampNeg x = sI M o k x := by rw [nI_clamp (by omega)]
theorem put5_o {M : Mem} {h l c f g k m tot o : Nat} (b : Nat) (ho : ¬ (h + 1 ≤ o ∧ o ≤ h + 6) ∨ o = h + 2) : mI (put5 M h l c f g k m tot) o b = mI M o b := by
  unfold put5
  rw [mI_o _ _ _ _ _ (by omega), mI_o _ _ _ _ _ (by omega), mI_o _ _ _ _ _ (by omega), mI_o _ _ _ _ _ (by omega), mI_o _ _ _ _ _ (by omega)]
theorem put5_1 {M : Mem} {h l c f g k m tot : Nat} (b : Nat) : mI (put5 M h l c f g k m tot) (h + 1) b = if b = 10 then nI (tot + 1) else mI M (h + 1) b := by
  unfold put5
  rw [mI_sI]
  by_cases e : b = 10
  · rw [if_pos ⟨rfl, e⟩, if_pos e]
  · rw [if_neg (fun z => e z.2), if_neg e, mI_o _ _ _ _ _ (by omega), mI_o _ _ _ _ _ (by omega), mI_o _ _ _ _ _ (by omega), mI_o _ _ _ _ _ (by omega)]
theorem put5_3 {M : Mem} {h l c f g k m tot : Nat} (b : Nat) : mI (put5 M h l c f g k m tot) (h + 3) b = if b = l then nI c else mI M (h + 3) b := by
  unfold put5
  rw [mI_o _ _ _ _ _ (by omega), mI_o _ _ _ _ _ (by omega), mI_o _ _ _ _ _ (by omega), mI_o _ _ _ _ _ (by omega), mI_sI]
  by_cases e : b = l
  · rw [if_pos ⟨rfl, e⟩, if_pos e]
  · rw [if_neg (fun z => e z.2), if_neg e]
theorem put5_4 {M : Mem} {h l c f g k m tot : Nat} (b : Nat) : mI (put5 M h l c f g k m tot) (h + 4) b = if b = l then nI (m + 1) else mI M (h + 4) b := by
  unfold put5
  rw [mI_o _ _ _ _ _ (by omega), mI_o _ _ _ _ _ (by omega), mI_o _ _ _ _ _ (by omega), mI_sI]
  by_cases e : b = l
  · rw [if_pos ⟨rfl, e⟩, if_pos e]
  · rw [if_neg (fun z => e z.2), if_neg e, mI_o _ _ _ _ _ (by omega)]
theorem put5_5 {M : Mem} {h l c f g k m tot : Nat} (b : Nat) : mI (put5 M h l c f g k m tot) (h + 5) b = if b = f then bon (mI M (h + 5) f) g else mI M (h + 5) b := by
  unfold put5
  rw [mI_o _ _ _ _ _ (by omega), mI_o _ _ _ _ _ (by omega), mI_sI]
  by_cases e : b = f
  · rw [if_pos ⟨rfl, e⟩, if_pos e]
  · rw [if_neg (fun z => e z.2), if_neg e, mI_o _ _ _ _ _ (by omega), mI_o _ _ _ _ _ (by omega)]
theorem put5_6 {M : Mem} {h l c f g k m tot : Nat} (b : Nat) : mI (put5 M h l c f g k m tot) (h + 6) b = if b = k then mI M (h + 6) k + 1 else mI M (h + 6) b := by
  unfold put5
  rw [mI_o _ _ _ _ _ (by omega), mI_sI]
  by_cases e : b = k
  · rw [if_pos ⟨rfl, e⟩, if_pos e]
  · rw [if_neg (fun z => e z.2), if_neg e, mI_o _ _ _ _ _ (by omega), mI_o _ _ _ _ _ (by omega), mI_o _ _ _ _ _ (by omega)]
theorem DS.i {α : Type} {M : Mem} {h d5 d6 d7 len : Nat} (q : DS M h d5 d6 d7 len) {d c : Nat} (hd : d = d5 ∨ d = d6 ∨ d = d7) (hc : c < len) (hl : len < 2 ^ 31) (x : Option α) : chk (inB (nI c) (mLn M d)) x = x := by
  refine chk_t ?_
  have : mLn M d = len := by rcases hd with rfl | rfl | rfl <;> simp [q.2.2.1]
  rw [this]; exact inB_n hc hl
theorem DS.c {α : Type} {M : Mem} {h d5 d6 d7 len : Nat} (q : DS M h d5 d6 d7 len) {d : Nat} (hd : d = d5 ∨ d = d6 ∨ d = d7) (x : Option α) : chk (isO M 100 d) x = x := by
  refine chk_t ?_
  rcases hd with rfl | rfl | rfl
  · exact q.2.1.1
  · exact q.2.1.2.1
  · exact q.2.1.2.2
set_option maxHeartbeats 1000000 in
theorem f129 {M : Mem} {h d5 d6 d7 len l c f g k m tot z : Nat} {s t : Int32} (q : CS M h) (w : DS M h d5 d6 d7 len) (hl : 16 * f + g = l) (hc : c < len) (hz : m ≠ 0 → z < len ∧ z ≠ c) (hln : len < 20000) (hf : f < 16) (hg : g < 16) (hk : k < 6) (hm : mI M (h + 4) l = nI m) (hm2 : m < 20000) (hla : m ≠ 0 → mI M (h + 3) l = nI z) (htot : mI M (h + 1) 10 = nI tot) (ht : mI M (h + 1) 11 = t) : ∃ M', f_X5_put_129 (h + 1) (nI k) (nI f) (nI g) s (nI c) M = some M' ∧ M'.1 = M.1 ∧ (∀ o b, mL M' o b = mL M o b) ∧ (∀ b, mI M' d5 b = if b = c then encC (nI k, s, t) else mI M d5 b) ∧ (∀ b, mI M' d6 b = if b = c then t else mI M d6 b) ∧ (∀ b, mI M' d7 b = if m ≠ 0 ∧ b = z then nI c else if b = c then -1 else mI M d7 b) ∧ (∀ b, mI M' (h + 2) b = if m = 0 ∧ b = l then nI c else mI M (h + 2) b) ∧ (∀ b, mI M' (h + 3) b = if b = l then nI c else mI M (h + 3) b) ∧ (∀ b, mI M' (h + 4) b = if b = l then nI (m + 1) else mI M (h + 4) b) ∧ (∀ b, mI M' (h + 5) b = if b = f then bon (mI M (h + 5) f) g else mI M (h + 5) b) ∧ (∀ b, mI M' (h + 6) b = if b = k then mI M (h + 6) k + 1 else mI M (h + 6) b) ∧ (∀ b, mI M' (h + 1) b = if b = 10 then nI (tot + 1) else mI M (h + 1) b) ∧ (∀ o, ¬ (h + 1 ≤ o ∧ o ≤ h + 6) → o ≠ d5 → o ≠ d6 → o ≠ d7 → ∀ b, mI M' o b = mI M o b) := by
  obtain ⟨⟨w1, w2, w3⟩, wi, wl, x5, x6, x7, x56, x57, x67⟩ := id w
  have hq := q.2.2.2.2
  have l1 : l < 256 := by omega
  generalize hMa : sI M d5 c (encC (nI k, s, t)) = Ma
  generalize hMb : sI Ma d6 c t = Mb
  generalize hMc : sI Mb d7 c (-1) = Mc
  have sa : Ma.1 = M.1 := by rw [← hMa]; rfl
  have sb : Mb.1 = M.1 := by rw [← hMb]; exact sa
  have sc : Mc.1 = M.1 := by rw [← hMc]; exact sb
  have wa := w.e sa
  have wb := w.e sb
  have wc := w.e sc
  have qa := q.e sa
  have qb := q.e sb
  have qc := q.e sc
  have oc : ∀ o, o ≠ d5 → o ≠ d6 → o ≠ d7 → ∀ b, mI Mc o b = mI M o b := by
    intro o n5 n6 n7 b
    rw [← hMc, mI_o _ _ _ _ _ n7, ← hMb, mI_o _ _ _ _ _ n6, ← hMa, mI_o _ _ _ _ _ n5]
  have c5 : ∀ b, mI Mc d5 b = if b = c then encC (nI k, s, t) else mI M d5 b := by
    intro b
    rw [← hMc, mI_o _ _ _ _ _ x57, ← hMb, mI_o _ _ _ _ _ x56, ← hMa, mI_sI]
    by_cases e : b = c
    · rw [if_pos ⟨rfl, e⟩, if_pos e]
    · rw [if_neg (fun y => e y.2), if_neg e]
  have c6 : ∀ b, mI Mc d6 b = if b = c then t else mI M d6 b := by
    intro b
    rw [← hMc, mI_o _ _ _ _ _ x67, ← hMb, mI_sI]
    by_cases e : b = c
    · rw [if_pos ⟨rfl, e⟩, if_pos e]
    · rw [if_neg (fun y => e y.2), if_neg e, ← hMa, mI_o _ _ _ _ _ x56.symm]
  have c7 : ∀ b, mI Mc d7 b = if b = c then -1 else mI M d7 b := by
    intro b
    rw [← hMc, mI_sI]
    by_cases e : b = c
    · rw [if_pos ⟨rfl, e⟩, if_pos e]
    · rw [if_neg (fun y => e y.2), if_neg e, ← hMb, mI_o _ _ _ _ _ x67.symm, ← hMa, mI_o _ _ _ _ _ x57.symm]
  have h5 : ∀ i, i < 7 → h + i ≠ d5 ∧ h + i ≠ d6 ∧ h + i ≠ d7 := fun i hi => by omega
  have o1 : ∀ i, i < 7 → ∀ b, mI Mc (h + i) b = mI M (h + i) b := fun i hi b => oc _ (h5 i hi).1 (h5 i hi).2.1 (h5 i hi).2.2 b
  have e11 : mI Ma (h + 1) 11 = t := by rw [← hMa, mI_o _ _ _ _ _ (h5 1 (by decide)).1]; exact ht
  have start : f_X5_put_129 (h + 1) (nI k) (nI f) (nI g) s (nI c) M = if m = 0 then f_X5_put_205 (h + 1) (nI k) (nI f) (nI g) (nI c) (nI l) (sI Mc (h + 2) l (nI c)) else f_X5_put_205 (h + 1) (nI k) (nI f) (nI g) (nI c) (nI l) (sI Mc d7 z (nI c)) := by
    have w1a := wa.1; have w1b := wb.1; have w1c := wc.1
    rw [f_X5_put_129, cs_p q, w1, bnd_e, w.c (Or.inl rfl), w.i (Or.inl rfl) hc (by omega), bnd_e, sI_d (by omega)]
    rw [show ((s <<< ((3 : Int32) &&& 31)) ||| nI k) = encC (nI k, s, t) from rfl, hMa, w1a.2.1, bnd_e, wa.c (Or.inr (Or.inl rfl)), wa.i (Or.inr (Or.inl rfl)) hc (by omega), bnd_e, sI_d (by omega), e11, hMb, w1b.2.2, bnd_e, wb.c (Or.inr (Or.inr rfl)), wb.i (Or.inr (Or.inr rfl)) hc (by omega), bnd_e, sI_d (by omega), hMc, c16', hl, bnd_e, cs_r4 qc, bnd_e, cs_a4 qc, cs_i4 qc l1, mI_c (by omega), o1 4 (by decide), hm]
    by_cases e : m = 0
    · rw [if_pos e, e, if_pos (by rfl), cs_r2 qc, bnd_e, cs_a2 qc, cs_i2 qc l1, bnd_e, sI_c (by omega)]
    · obtain ⟨hz1, hz2⟩ := hz e
      rw [if_neg e, if_neg (nI_ne0 (by omega) (by omega)), w1c.2.2, bnd_e, wc.c (Or.inr (Or.inr rfl)), cs_r3 qc, bnd_e, cs_a3 qc, cs_i3 qc l1, mI_c (by omega), o1 3 (by decide), hla e, wc.i (Or.inr (Or.inr rfl)) hz1 (by omega), bnd_e, sI_d (by omega)]
  by_cases e : m = 0
  · rw [if_pos e] at start
    generalize hMd : sI Mc (h + 2) l (nI c) = Md at start
    have sd : Md.1 = M.1 := by rw [← hMd]; exact sc
    have od : ∀ o, o ≠ h + 2 → ∀ b, mI Md o b = mI Mc o b := fun o n b => by rw [← hMd, mI_o _ _ _ _ _ n]
    refine ⟨put5 Md h l c f g k m tot, ?_, sd, ?_, fun b => ?_, fun b => ?_, fun b => ?_, fun b => ?_, fun b => ?_, fun b => ?_, fun b => ?_, fun b => ?_, fun b => ?_, fun o n1 n5 n6 n7 b => ?_⟩
    · rw [start, f205 (q.e sd) l1 (by omega) hf hg hk (by rw [od _ (by omega), o1 4 (by decide)]; exact hm) (by rw [od _ (by omega), o1 1 (by decide)]; exact htot)]
    · intro o b; rw [← hMd, ← hMc, ← hMb, ← hMa]; rfl
    · rw [put5_o b (by omega), od _ (by omega), c5]
    · rw [put5_o b (by omega), od _ (by omega), c6]
    · rw [put5_o b (by omega), od _ (by omega), c7, if_neg (show ¬ (m ≠ 0 ∧ b = z) from fun y => y.1 e)]
    · rw [put5_o b (Or.inr rfl), ← hMd, mI_sI]
      by_cases e2 : b = l
      · rw [if_pos ⟨rfl, e2⟩, if_pos ⟨e, e2⟩]
      · rw [if_neg (fun y => e2 y.2), if_neg (fun y => e2 y.2), o1 2 (by decide)]
    · rw [put5_3, od _ (by omega), o1 3 (by decide)]
    · rw [put5_4, od _ (by omega), o1 4 (by decide)]
    · rw [put5_5, od _ (by omega), o1 5 (by decide), od _ (by omega), o1 5 (by decide)]
    · rw [put5_6, od _ (by omega), o1 6 (by decide), od _ (by omega), o1 6 (by decide)]
    · rw [put5_1, od _ (by omega), o1 1 (by decide)]
    · rw [put5_o b (Or.inl n1), od _ (by omega), oc o n5 n6 n7]
  · rw [if_neg e] at start
    obtain ⟨hz1, hz2⟩ := hz e
    generalize hMd : sI Mc d7 z (nI c) = Md at start
    have sd : Md.1 = M.1 := by rw [← hMd]; exact sc
    have od : ∀ o, o ≠ d7 → ∀ b, mI Md o b = mI Mc o b := fun o n b => by rw [← hMd, mI_o _ _ _ _ _ n]
    refine ⟨put5 Md h l c f g k m tot, ?_, sd, ?_, fun b => ?_, fun b => ?_, fun b => ?_, fun b => ?_, fun b => ?_, fun b => ?_, fun b => ?_, fun b => ?_, fun b => ?_, fun o n1 n5 n6 n7 b => ?_⟩
    · rw [start, f205 (q.e sd) l1 (by omega) hf hg hk (by rw [od _ (by omega), o1 4 (by decide)]; exact hm) (by rw [od _ (by omega), o1 1 (by decide)]; exact htot)]
    · intro o b; rw [← hMd, ← hMc, ← hMb, ← hMa]; rfl
    · rw [put5_o b (by omega), od _ x57, c5]
    · rw [put5_o b (by omega), od _ x67, c6]
    · rw [put5_o b (by omega), ← hMd, mI_sI]
      by_cases e2 : b = z
      · rw [if_pos ⟨rfl, e2⟩, if_pos ⟨e, e2⟩]
      · rw [if_neg (fun y => e2 y.2), if_neg (show ¬ (m ≠ 0 ∧ b = z) from fun y => e2 y.2), c7]
    · rw [put5_o b (Or.inr rfl), od _ (by omega), o1 2 (by decide), if_neg (fun y => e y.1)]
    · rw [put5_3, od _ (by omega), o1 3 (by decide)]
    · rw [put5_4, od _ (by omega), o1 4 (by decide)]
    · rw [put5_5, od _ (by omega), o1 5 (by decide), od _ (by omega), o1 5 (by decide)]
    · rw [put5_6, od _ (by omega), o1 6 (by decide), od _ (by omega), o1 6 (by decide)]
    · rw [put5_1, od _ (by omega), o1 1 (by decide)]
    · rw [put5_o b (Or.inl n1), od _ n7, oc o n5 n6 n7]
/-! ===== a letter put into a cell kept aside ===== -/
theorem flr_len_up {L : Nat → List Ltr} {l : Nat} (hl : l < 256) (x : List Ltr) : (flr (up1 L l x) 0 256).length + (L l).length = (flr L 0 256).length + x.length := by
  have a1 := congrArg List.length (flr_split L l hl)
  have a2 := congrArg List.length (flr_split (up1 L l x) l hl)
  rw [flr_up (a := 0) (n := l) (Or.inr (by omega)), flr_up (a := l + 1) (n := 255 - l) (Or.inl (by omega)), up1_s] at a2
  simp only [List.length_append, List.length_map] at a1 a2
  omega
theorem up1_fst {K : Nat → List (Nat × Ltr)} {l : Nat} {x : List (Nat × Ltr)} : (fun i => (up1 K l x i).map Prod.snd) = up1 (fun i => (K i).map Prod.snd) l (x.map Prod.snd) := by
  funext i
  unfold up1
  split <;> rfl
set_option maxHeartbeats 2000000 in
theorem PW.put {M : Mem} {h d5 d6 d7 len : Nat} {t : Int32} {se : Nat → Int32} {K : Nat → List (Nat × Ltr)} {fr : List Nat} {us : Nat} {ow : Nat → Nat} (q : CS M h) (p : PW M h d5 d6 d7 len t se K fr us ow 1) {c k f g : Nat} {s : Int32} (hc : c < us) (hoc : ow c = 257) (hk : k < 6) (hf : f < 16) (hg : g < 16) : ∃ M', f_X5_put_129 (h + 1) (nI k) (nI f) (nI g) s (nI c) M = some M' ∧ PW M' h d5 d6 d7 len t (up1 se k (se k + 1)) (up1 K (16 * f + g) (K (16 * f + g) ++ [(c, (nI k, s, t))])) fr us (up1 ow c (16 * f + g)) 0 ∧ M'.1 = M.1 ∧ (∀ o b, mL M' o b = mL M o b) ∧ (∀ o, ¬ (h + 1 ≤ o ∧ o ≤ h + 6) → o ≠ d5 → o ≠ d6 → o ≠ d7 → ∀ b, mI M' o b = mI M o b) := by
  obtain ⟨w, pc, pn, pch, pla, pma, pbu, pse, ⟨pf1, pf2, pf3⟩, ⟨pu1, pu2, pu3, pu4, pu5⟩, pt, tot, pt1, pt2, pt3⟩ := p
  generalize hl : 16 * f + g = l
  have l1 : l < 256 := by omega
  have hcl : ∀ l', l' < 256 → ∀ y, y ∈ K l' → y.1 ≠ c := fun l' hl' y hy e => by
    have := (pc l' hl' y hy).2.1
    rw [e, hoc] at this; omega
  have hml : (K l).length ≤ us := by
    have := nd_le us ((K l).map Prod.fst) (pn l l1) (fun x hx => by
      obtain ⟨y, hy, rfl⟩ := List.mem_map.mp hx
      exact (pc l l1 y hy).1)
    rwa [List.length_map] at this
  obtain ⟨z, hz⟩ : ∃ z, (K l).length ≠ 0 → ∃ cs, (K l).map Prod.fst = cs ++ [z] := by
    rcases nil_app ((K l).map Prod.fst) with e | ⟨cs, z, e⟩
    · exact ⟨0, fun n => absurd (by rw [← List.length_map (f := Prod.fst), e]; rfl) n⟩
    · exact ⟨z, fun _ => ⟨cs, e⟩⟩
  have hzK : (K l).length ≠ 0 → z < us ∧ ow z = l ∧ z ≠ c := by
    intro n
    obtain ⟨cs, e⟩ := hz n
    have : z ∈ (K l).map Prod.fst := by rw [e]; simp
    obtain ⟨y, hy, rfl⟩ := List.mem_map.mp this
    exact ⟨(pc l l1 y hy).1, (pc l l1 y hy).2.1, hcl l l1 y hy⟩
  obtain ⟨M', e, m1, m2, f5, f6, f7, g2, g3, g4, g5, g6, g1, fo⟩ := f129 (z := z) (s := s) q w hl (show c < len by omega) (fun n => ⟨by have := (hzK n).1; omega, (hzK n).2.2⟩) (by omega) hf hg hk (pma l l1) (by omega) (fun n => by obtain ⟨cs, e⟩ := hz n; exact pla l l1 cs z e) pt1 pt
  have uK : ∀ l', l' ≠ l → up1 K l (K l ++ [(c, (nI k, s, t))]) l' = K l' := fun l' n => up1_o _ _ _ n
  have uO : ∀ x, x ≠ c → up1 ow c l x = ow x := fun x n => up1_o _ _ _ n
  refine ⟨M', e, ⟨w.e m1, fun l' hl' y hy => ?_, fun l' hl' => ?_, fun l' hl' => ?_, fun l' hl' cs z' ez => ?_, fun l' hl' => ?_, fun f' hf' g' hg' => ?_, fun k' hk' => ?_, ⟨pf1, fun x hx => ?_, ?_⟩, ⟨?_, pu2, pu3, pu4, pu5⟩, ?_, tot + 1, ?_, by omega, ?_⟩, m1, m2, fo⟩
  · by_cases n : l' = l
    · subst n
      rw [up1_s] at hy
      rcases List.mem_append.mp hy with hy | hy
      · have hn := hcl l' hl' y hy
        rw [uO _ hn, f5, if_neg hn, f6, if_neg hn]
        exact pc l' hl' y hy
      · rw [List.mem_singleton] at hy
        subst hy
        exact ⟨hc, up1_s _ _ _, by rw [f5, if_pos rfl], by rw [f6, if_pos rfl]⟩
    · rw [uK l' n] at hy
      have hn := hcl l' hl' y hy
      rw [uO _ hn, f5, if_neg hn, f6, if_neg hn]
      exact pc l' hl' y hy
  · by_cases n : l' = l
    · subst n
      rw [up1_s, List.map_append, List.nodup_append]
      refine ⟨pn l' hl', by simp, fun x hx y hy => ?_⟩
      obtain ⟨r, hr, rfl⟩ := List.mem_map.mp hx
      simp at hy
      rw [hy]
      exact hcl l' hl' r hr
    · rw [uK l' n]; exact pn l' hl'
  · by_cases n : l' = l
    · subst n
      rw [up1_s, List.map_append, g2]
      by_cases m0 : (K l').length = 0
      · have : K l' = [] := List.eq_nil_of_length_eq_zero m0
        rw [this, if_pos ⟨rfl, rfl⟩]
        exact ⟨rfl, trivial⟩
      · rw [if_neg (fun y => m0 y.1)]
        obtain ⟨cs, ez⟩ := hz m0
        have hnd := pn l' hl'
        have hch := pch l' hl'
        rw [ez] at hnd hch ⊢
        refine Chn.app hch hnd (fun d hd => ?_) ?_
        · have hdz : d ≠ z := fun e2 => by
            rw [List.nodup_append] at hnd
            exact hnd.2.2 d hd z (by simp) e2
          have : d ∈ (K l').map Prod.fst := by rw [ez]; exact List.mem_append_left _ hd
          obtain ⟨r, hr, rfl⟩ := List.mem_map.mp this
          rw [f7, if_neg (fun y => hdz y.2), if_neg (hcl l' hl' r hr)]
        · rw [f7, if_pos ⟨m0, rfl⟩]
    · rw [uK l' n, g2, if_neg (fun y => n y.2)]
      refine (pch l' hl').cg fun x hx => ?_
      obtain ⟨r, hr, rfl⟩ := List.mem_map.mp hx
      rw [f7, if_neg, if_neg (hcl l' hl' r hr)]
      rintro ⟨m0, e2⟩
      have := (hzK m0).2.1
      rw [← e2, (pc l' hl' r hr).2.1] at this
      exact n this
  · by_cases n : l' = l
    · subst n
      rw [up1_s, List.map_append] at ez
      have := List.append_inj_right' ez (by simp)
      simp at this
      rw [g3, if_pos rfl, this]
    · rw [uK l' n] at ez
      rw [g3, if_neg n]
      exact pla l' hl' cs z' ez
  · by_cases n : l' = l
    · subst n
      rw [up1_s, g4, if_pos rfl, List.length_append, List.length_singleton]
    · rw [uK l' n, g4, if_neg n]; exact pma l' hl'
  · rw [g5]
    by_cases nf : f' = f
    · subst nf
      rw [if_pos rfl, bt_on _ (by omega) hg', pbu f' hf' g' hg']
      by_cases ng : g' = g
      · subst ng
        rw [hl, up1_s]
        simp [hg]
      · by_cases g16 : g' < 16
        · rw [uK _ (by omega)]; simp [ng]
        · simp [ng, g16]
    · rw [if_neg nf, pbu f' hf' g' hg']
      by_cases g16 : g' < 16
      · rw [uK _ (by omega)]
      · simp [g16]
  · rw [g6]
    by_cases n : k' = k
    · subst n; rw [if_pos rfl, up1_s, pse k' hk']
    · rw [if_neg n, up1_o _ _ _ n]; exact pse k' hk'
  · have := pf2 x hx
    rw [uO x (fun e2 => by rw [e2, hoc] at this; omega)]; exact this
  · rw [g1, if_neg (by decide)]
    refine pf3.cg fun x hx => ?_
    have := pf2 x hx
    rw [f7, if_neg, if_neg (fun e2 => by rw [e2, hoc] at this; omega)]
    rintro ⟨m0, e2⟩
    have h2 := (hzK m0).2.1
    rw [← e2, this.2] at h2
    omega
  · rw [g1, if_neg (by decide)]; exact pu1
  · rw [g1, if_neg (by decide)]; exact pt
  · rw [g1, if_pos rfl]
  · rw [up1_fst, List.map_append]
    have := flr_len_up (L := fun i => (K i).map Prod.snd) l1 ((K l).map Prod.snd ++ [(nI k, s, t)])
    simp only [List.length_append, List.length_singleton] at this
    simp only [List.map_cons, List.map_nil]
    omega
/-! ===== a row of letters made twice as long ===== -/
def gw1 (M : Mem) (a p j len : Nat) : Mem := sR (cpI (nw M 100 (2 * len) (2 * len)) a 0 (mN M) 0 len) p j (mN M)
theorem gw1_N (M : Mem) (a p j len : Nat) : mN (gw1 M a p j len) = mN M + 1 := rfl
theorem gw1_U (M : Mem) (a p j len : Nat) : mU (gw1 M a p j len) = mU M + 2 * len := rfl
theorem gw1_C (M : Mem) (a p j len : Nat) (i : Nat) : (gw1 M a p j len).1.2.1 i = if i = mN M then (100, 2 * len) else M.1.2.1 i := rfl
theorem gw1_R (M : Mem) (a p j len : Nat) {x : Nat} (y : Nat) (h : x ≠ mN M) : mR (gw1 M a p j len) x y = if x = p ∧ y = j then mN M else mR M x y := by
  show (if x = p ∧ y = j then mN M else (if x = mN M then NUL else M.1.2.2 x y)) = _
  rw [if_neg h]; rfl
theorem gw1_I (M : Mem) (a p j len : Nat) {x : Nat} (y : Nat) (h : x ≠ mN M) : mI (gw1 M a p j len) x y = mI M x y := by
  show (if x = mN M then va_cpy _ _ 0 0 len y else (if x = mN M then 0 else M.2.1 x y)) = _
  rw [if_neg h, if_neg h]; rfl
theorem gw1_J (M : Mem) (a p j len : Nat) {y : Nat} (h : a ≠ mN M) (hy : y < len) : mI (gw1 M a p j len) (mN M) y = mI M a y := by
  show (if mN M = mN M then va_cpy ((nw M 100 (2 * len) (2 * len)).2.1 a) ((nw M 100 (2 * len) (2 * len)).2.1 (mN M)) 0 0 len y else _) = _
  rw [if_pos rfl]
  have e := pk_cpy_in (f := (nw M 100 (2 * len) (2 * len)).2.1 a) (g := (nw M 100 (2 * len) (2 * len)).2.1 (mN M)) (sp := 0) (dp := 0) (n := len) (j := y) (Nat.zero_le _) (by omega)
  rw [e, Nat.zero_add, Nat.sub_zero]
  show (if a = mN M then 0 else M.2.1 a y) = _
  rw [if_neg h]; rfl
theorem gw1_L (M : Mem) (a p j len : Nat) {x : Nat} (y : Nat) (h : x ≠ mN M) : mL (gw1 M a p j len) x y = mL M x y := by
  show (if x = mN M then 0 else M.2.2 x y) = _
  rw [if_neg h]; rfl
theorem gw1_io {M : Mem} {a p j len : Nat} {c o : Nat} (h : isO M c o) : isO (gw1 M a p j len) c o := by
  refine ⟨by rw [gw1_N]; have := h.1; omega, ?_⟩
  rw [mC, gw1_C, if_neg (by have := h.1; omega)]; exact h.2
theorem gw1_new (M : Mem) (a p j len : Nat) : isO (gw1 M a p j len) 100 (mN M) := by
  refine ⟨by rw [gw1_N]; omega, ?_⟩
  rw [mC, gw1_C, if_pos rfl]
theorem gw1_ln {M : Mem} {a p j len : Nat} {o : Nat} (h : o ≠ mN M) : mLn (gw1 M a p j len) o = mLn M o := by
  rw [mLn, gw1_C, if_neg h]; rfl
theorem gw1_ln' (M : Mem) (a p j len : Nat) : mLn (gw1 M a p j len) (mN M) = 2 * len := by
  rw [mLn, gw1_C, if_pos rfl]
theorem n32 (n : Nat) : Int32.ofNat n = nI n := rfl
theorem f_copyOf {M : Mem} {a len : Nat} (ha : isO M 100 a) (hl : mLn M a = len) (h1 : 64 ≤ len) (h2 : len ≤ 1000000) (hN : mN M + 1 ≤ CAP) (hU : mU M + 2 * len ≤ CAPU) : f_J7_copyOf_59c91 a (nI (2 * len)) M = some (mN M, cpI (nw M 100 (2 * len) (2 * len)) a 0 (mN M) 0 len) := by
  have hne : a ≠ mN M := by have := ha.1; omega
  have l1 : mLn (nw M 100 (2 * len) (2 * len)) a = len := by
    show (if a = mN M then (100, 2 * len) else M.1.2.1 a).2 = len
    rw [if_neg hne]; exact hl
  have l2 : mLn (nw M 100 (2 * len) (2 * len)) (mN M) = 2 * len := by
    show (if mN M = mN M then (100, 2 * len) else M.1.2.1 (mN M)).2 = 2 * len
    rw [if_pos rfl]
  have c1 : (nI (2 * len)).toNatClampNeg = 2 * len := nI_clamp (by omega)
  rw [f_J7_copyOf_59c91, chk_t ha, hl, n32, if_neg (nI_ne (by omega) (by omega) (by omega)), chk_t (nI_pos (by omega)), chk_t (by rw [c1]; exact ⟨hN, hU⟩), bnd_e, c1, bnd_e, l1, n32, if_neg (nI_nlt (by omega) (by omega)), chk_t (by
    rw [l2]
    refine ⟨by decide, by decide, nI_pos (by omega), ?_, ?_⟩
    · rw [nI_clamp (by omega), show ((0 : Int32)).toNatClampNeg = 0 by decide]; omega
    · rw [nI_clamp (by omega), show ((0 : Int32)).toNatClampNeg = 0 by decide]; omega), bnd_e, nI_clamp (by omega), show ((0 : Int32)).toNatClampNeg = 0 by decide]
/-- room for a hall's rows of letters -/
def Rm (M : Mem) (h X Y : Nat) : Prop := mN M * 64 ≤ X + 3 * mLn M (mR M (h + 1) 5) ∧ mU M ≤ Y + 6 * mLn M (mR M (h + 1) 5) ∧ X ≤ 2000000 ∧ Y ≤ 6000000 ∧ ∃ z, mLn M (mR M (h + 1) 5) = 64 * 2 ^ z
theorem pw_dbl {a b : Nat} (ha : ∃ z, a = 64 * 2 ^ z) (hb : ∃ z, b = 64 * 2 ^ z) (h : a < b) : 2 * a ≤ b := by
  obtain ⟨x, rfl⟩ := ha
  obtain ⟨y, rfl⟩ := hb
  have hxy : x < y := by
    apply Decidable.byContradiction
    intro c
    have := Nat.pow_le_pow_right (n := 2) (by decide) (show y ≤ x by omega)
    omega
  have := Nat.pow_le_pow_right (n := 2) (by decide) (show x + 1 ≤ y by omega)
  rw [Nat.pow_succ] at this
  omega
/-- a hall's letters alone have changed -/
def FrP (M M' : Mem) (h : Nat) : Prop := mN M ≤ mN M' ∧ (∀ i, i < mN M → M'.1.2.1 i = M.1.2.1 i) ∧ (∀ a b, a < mN M → ¬ (a = h + 1 ∧ 5 ≤ b ∧ b ≤ 7) → mR M' a b = mR M a b) ∧ (∀ o, o < mN M → ¬ (h + 1 ≤ o ∧ o ≤ h + 6) → o ≠ mR M (h + 1) 5 → o ≠ mR M (h + 1) 6 → o ≠ mR M (h + 1) 7 → ∀ b, mI M' o b = mI M o b) ∧ (∀ o, o < mN M → ∀ b, mL M' o b = mL M o b) ∧ (∀ j, 5 ≤ j → j ≤ 7 → mR M' (h + 1) j = mR M (h + 1) j ∨ mN M ≤ mR M' (h + 1) j)
theorem FrP.rf (M : Mem) (h : Nat) : FrP M M h := ⟨Nat.le_refl _, fun _ _ => rfl, fun _ _ _ _ => rfl, fun _ _ _ _ _ _ _ => rfl, fun _ _ _ => rfl, fun _ _ _ => Or.inl rfl⟩
theorem FrP.tr {M M' M'' : Mem} {h : Nat} (p : FrP M M' h) (p' : FrP M' M'' h) : FrP M M'' h := by
  obtain ⟨a1, a2, a3, a4, a5, a6⟩ := p
  obtain ⟨b1, b2, b3, b4, b5, b6⟩ := p'
  refine ⟨Nat.le_trans a1 b1, fun i hi => (b2 i (by omega)).trans (a2 i hi), fun a b ha hn => (b3 a b (by omega) hn).trans (a3 a b ha hn), fun o ho h1 h5 h6 h7 b => ?_, fun o ho b => (b5 o (by omega) b).trans (a5 o ho b), fun j h5 h7 => ?_⟩
  · have n5 : o ≠ mR M' (h + 1) 5 := by rcases a6 5 (by decide) (by decide) with e | e <;> omega
    have n6 : o ≠ mR M' (h + 1) 6 := by rcases a6 6 (by decide) (by decide) with e | e <;> omega
    have n7 : o ≠ mR M' (h + 1) 7 := by rcases a6 7 (by decide) (by decide) with e | e <;> omega
    exact (b4 o (by omega) h1 n5 n6 n7 b).trans (a4 o ho h1 h5 h6 h7 b)
  · rcases b6 j h5 h7 with e | e
    · rcases a6 j h5 h7 with e2 | e2
      · exact Or.inl (e.trans e2)
      · exact Or.inr (by omega)
    · exact Or.inr (by omega)
theorem CS.gw {M : Mem} {h : Nat} (q : CS M h) {a j len : Nat} (hj : 5 ≤ j) : CS (gw1 M a (h + 1) j len) h := by
  obtain ⟨c1, c2, c3, c4, c5, c6, c7⟩ := q
  refine ⟨fun i hi hn => ?_, fun z hz => ?_, ?_, gw1_io c4, c5, c6, by rw [gw1_N]; omega⟩
  · rw [gw1_C, if_neg (by omega)]; exact c1 i hi hn
  · have hb : z.1 < 49 ∧ ¬ (z.1 = 1 ∧ 5 ≤ z.2.1) := by
      have : ∀ z, z ∈ tH → z.1 < 49 ∧ ¬ (z.1 = 1 ∧ 5 ≤ z.2.1) := by decide
      exact this z hz
    rw [gw1_R _ _ _ _ _ _ (by omega), if_neg (by omega)]; exact c2 z hz
  · rw [gw1_R _ _ _ _ _ _ (by omega), if_neg (by omega)]; exact c3
/-! ===== the class puts a letter ===== -/
theorem PW.cg {M M' : Mem} {h d5 d6 d7 len e5 e6 e7 len' : Nat} {t : Int32} {se : Nat → Int32} {K : Nat → List (Nat × Ltr)} {fr : List Nat} {us : Nat} {ow : Nat → Nat} {e : Nat} (p : PW M h d5 d6 d7 len t se K fr us ow e) (w : DS M' h e5 e6 e7 len') (hle : len ≤ len') (hlim : len' ≤ 18000) (hi : ∀ i, 1 ≤ i → i ≤ 6 → ∀ b, mI M' (h + i) b = mI M (h + i) b) (g5 : ∀ b, b < len → mI M' e5 b = mI M d5 b) (g6 : ∀ b, b < len → mI M' e6 b = mI M d6 b) (g7 : ∀ b, b < len → mI M' e7 b = mI M d7 b) : PW M' h e5 e6 e7 len' t se K fr us ow e := by
  obtain ⟨w0, pc, pn, pch, pla, pma, pbu, pse, ⟨pf1, pf2, pf3⟩, ⟨pu1, pu2, pu3, pu4, pu5⟩, pt, tot, pt1, pt2, pt3⟩ := p
  have hlt : ∀ l, l < 256 → ∀ x, x ∈ (K l).map Prod.fst → x < len := fun l hl x hx => by
    obtain ⟨y, hy, rfl⟩ := List.mem_map.mp hx
    have := (pc l hl y hy).1
    omega
  refine ⟨w, fun l hl y hy => ?_, pn, fun l hl => ?_, fun l hl cs z ez => ?_, fun l hl => ?_, fun f hf g hg => ?_, fun k hk => ?_, ⟨pf1, pf2, ?_⟩, ⟨?_, by omega, pu3, hlim, by omega⟩, ?_, tot, ?_, pt2, pt3⟩
  · have := pc l hl y hy
    rw [g5 _ (by omega), g6 _ (by omega)]; exact this
  · rw [hi 2 (by decide) (by decide)]
    exact (pch l hl).cg fun x hx => g7 x (hlt l hl x hx)
  · rw [hi 3 (by decide) (by decide)]; exact pla l hl cs z ez
  · rw [hi 4 (by decide) (by decide)]; exact pma l hl
  · rw [hi 5 (by decide) (by decide)]; exact pbu f hf g hg
  · rw [hi 6 (by decide) (by decide)]; exact pse k hk
  · rw [hi 1 (by decide) (by decide)]
    exact pf3.cg fun x hx => g7 x (by have := (pf2 x hx).1; omega)
  · rw [hi 1 (by decide) (by decide)]; exact pu1
  · rw [hi 1 (by decide) (by decide)]; exact pt
  · rw [hi 1 (by decide) (by decide)]; exact pt1
set_option maxHeartbeats 2000000 in
theorem PW.p81 {M : Mem} {h d5 d6 d7 len : Nat} {t : Int32} {se : Nat → Int32} {K : Nat → List (Nat × Ltr)} {fr : List Nat} {us : Nat} {ow : Nat → Nat} (q : CS M h) (p : PW M h d5 d6 d7 len t se K fr us ow 0) (hfr : fr = [] → us < len ∧ us < 9000) {k f g : Nat} {s : Int32} (hk : k < 6) (hf : f < 16) (hg : g < 16) : ∃ M' fr' us' ow' c, f_X5_put_81 (h + 1) (nI k) (nI f) (nI g) s M = some M' ∧ PW M' h d5 d6 d7 len t (up1 se k (se k + 1)) (up1 K (16 * f + g) (K (16 * f + g) ++ [(c, (nI k, s, t))])) fr' us' ow' 0 ∧ M'.1 = M.1 ∧ (∀ o b, mL M' o b = mL M o b) ∧ (∀ o, ¬ (h + 1 ≤ o ∧ o ≤ h + 6) → o ≠ d5 → o ≠ d6 → o ≠ d7 → ∀ b, mI M' o b = mI M o b) := by
  obtain ⟨w, pc, pn, pch, pla, pma, pbu, pse, ⟨pf1, pf2, pf3⟩, ⟨pu1, pu2, pu3, pu4, pu5⟩, pt, tot, pt1, pt2, pt3⟩ := id p
  have wd := w.2.2.2
  have hq := q.2.2.2.2
  have n1 : h + 1 ≠ d5 ∧ h + 1 ≠ d6 ∧ h + 1 ≠ d7 := by omega
  have ch0 : ∀ l c, l < 256 → (¬ ∃ y, y ∈ K l ∧ y.1 = c) → True := fun _ _ _ _ => trivial
  cases hfc : fr with
  | nil =>
    obtain ⟨hus, hus9⟩ := hfr hfc
    rw [hfc] at pf1 pf2 pf3 pt2
    have e9 : mI M (h + 1) 9 = -1 := pf3
    generalize hMa : sI M (h + 1) 8 (nI (us + 1)) = Ma
    have sa : Ma.1 = M.1 := by rw [← hMa]; rfl
    have qa := q.e sa
    have oa : ∀ o, o ≠ h + 1 → ∀ b, mI Ma o b = mI M o b := fun o n b => by rw [← hMa, mI_o _ _ _ _ _ n]
    have ob : ∀ b, b ≠ 8 → mI Ma (h + 1) b = mI M (h + 1) b := fun b n => by rw [← hMa, mI_n _ _ _ _ n]
    have pa : PW Ma h d5 d6 d7 len t se K [] (us + 1) (up1 ow us 257) 1 := by
      refine ⟨w.e sa, fun l hl y hy => ?_, pn, fun l hl => ?_, fun l hl cs z ez => ?_, fun l hl => ?_, fun f hf g hg => ?_, fun k hk => ?_, ⟨List.nodup_nil, fun c hc => by simp at hc, ?_⟩, ⟨?_, by omega, by omega, pu4, pu5⟩, ?_, tot, ?_, ?_, pt3⟩
      · have := pc l hl y hy
        rw [oa _ n1.1.symm, oa _ n1.2.1.symm, up1_o _ _ _ (by omega)]
        exact ⟨by omega, this.2⟩
      · rw [oa _ (by omega)]
        exact (pch l hl).cg fun x _ => oa _ n1.2.2.symm x
      · rw [oa _ (by omega)]; exact pla l hl cs z ez
      · rw [oa _ (by omega)]; exact pma l hl
      · rw [oa _ (by omega)]; exact pbu f hf g hg
      · rw [oa _ (by omega)]; exact pse k hk
      · rw [ob _ (by decide)]; exact e9
      · rw [← hMa, mI_s]
      · rw [ob _ (by decide)]; exact pt
      · rw [ob _ (by decide)]; exact pt1
      · simp only [List.length_nil] at pt2 ⊢; omega
    obtain ⟨M', e', p', m1, m2, m3⟩ := pa.put (s := s) qa (c := us) (by omega) (up1_s _ _ _) hk hf hg
    refine ⟨M', [], us + 1, _, us, ?_, p', m1.trans sa, fun o b => ?_, fun o z1 z5 z6 z7 b => ?_⟩
    · rw [f_X5_put_81, cs_p q, e9, if_pos rfl, pu1, bnd_e, nI_1, hMa, bnd_e, f_X5_put_107, cs_p qa, ob 9 (by decide), e9, if_neg (fun z => m1_ne' 0 (by decide) (by
        have h1 := nI_pos (n := us) (by omega)
        rw [z] at h1
        exact absurd (by decide) h1)), e']
    · rw [m2, ← hMa]; rfl
    · rw [m3 o z1 z5 z6 z7, oa _ (by omega)]
  | cons c cs =>
    rw [hfc] at pf1 pf2 pf3 pt2
    have hcu := pf2 c (by simp)
    have e9 : mI M (h + 1) 9 = nI c := pf3.1
    generalize hMa : sI M (h + 1) 9 (mI M d7 c) = Ma
    have sa : Ma.1 = M.1 := by rw [← hMa]; rfl
    have qa := q.e sa
    have oa : ∀ o, o ≠ h + 1 → ∀ b, mI Ma o b = mI M o b := fun o n b => by rw [← hMa, mI_o _ _ _ _ _ n]
    have ob : ∀ b, b ≠ 9 → mI Ma (h + 1) b = mI M (h + 1) b := fun b n => by rw [← hMa, mI_n _ _ _ _ n]
    have hnd := List.nodup_cons.mp pf1
    have pa : PW Ma h d5 d6 d7 len t se K cs us (up1 ow c 257) 1 := by
      refine ⟨w.e sa, fun l hl y hy => ?_, pn, fun l hl => ?_, fun l hl cs z ez => ?_, fun l hl => ?_, fun f hf g hg => ?_, fun k hk => ?_, ⟨hnd.2, fun x hx => ?_, ?_⟩, ⟨?_, pu2, pu3, pu4, pu5⟩, ?_, tot, ?_, ?_, pt3⟩
      · have := pc l hl y hy
        have hyc : y.1 ≠ c := fun z => by rw [z, hcu.2] at this; omega
        rw [oa _ n1.1.symm, oa _ n1.2.1.symm, up1_o _ _ _ hyc]
        exact this
      · rw [oa _ (by omega)]
        exact (pch l hl).cg fun x _ => oa _ n1.2.2.symm x
      · rw [oa _ (by omega)]; exact pla l hl cs z ez
      · rw [oa _ (by omega)]; exact pma l hl
      · rw [oa _ (by omega)]; exact pbu f hf g hg
      · rw [oa _ (by omega)]; exact pse k hk
      · have hxc : x ≠ c := fun z => hnd.1 (z ▸ hx)
        rw [up1_o _ _ _ hxc]
        exact pf2 x (by simp [hx])
      · rw [← hMa, mI_s, hMa]
        exact pf3.2.cg fun x _ => oa _ n1.2.2.symm x
      · rw [ob _ (by decide)]; exact pu1
      · rw [ob _ (by decide)]; exact pt
      · rw [ob _ (by decide)]; exact pt1
      · simp only [List.length_cons] at pt2; omega
    obtain ⟨M', e', p', m1, m2, m3⟩ := pa.put (s := s) qa (c := c) hcu.1 (up1_s _ _ _) hk hf hg
    refine ⟨M', cs, us, _, c, ?_, p', m1.trans sa, fun o b => ?_, fun o z1 z5 z6 z7 b => ?_⟩
    · have w17 := w.1
      rw [f_X5_put_81, cs_p q, e9, if_neg (fun z => by
        have h1 := nI_pos (n := c) (by omega)
        rw [z] at h1
        exact absurd (by decide) h1), f_X5_put_107, cs_p q, e9, if_pos rfl, w17.2.2, bnd_e, w.c (Or.inr (Or.inr rfl)), w.i (Or.inr (Or.inr rfl)) (by omega) (by omega), mI_d (by omega), hMa, bnd_e, e']
    · rw [m2, ← hMa]; rfl
    · rw [m3 o z1 z5 z6 z7, oa _ (by omega)]
theorem xR_sn16 (t : Int32) (k f g : Nat) (s : Int32) (S : St) : xR (sn t k f g s S) 16 = up1 (xR S 16) k (xR S 16 k + 1) := by
  funext i
  unfold sn
  rw [xR_uL, xR_uR]
  unfold up1
  by_cases e : i = k
  · rw [if_pos ⟨rfl, e⟩, if_pos e]
  · rw [if_neg (fun z => e z.2), if_neg e]
theorem PV.len {M : Mem} {h : Nat} {t : Int32} {S : St} {d5 d6 d7 len : Nat} {K : Nat → List (Nat × Ltr)} {fr : List Nat} {us : Nat} {ow : Nat → Nat} {e : Nat} (p : PW M h d5 d6 d7 len t (xR S 16) K fr us ow e) (hK : ∀ l, l < 256 → (K l).map Prod.snd = xL S l) : mI M (h + 1) 10 = nI (fl S).length ∧ us = (fl S).length + fr.length + e := by
  obtain ⟨tot, pt1, pt2, pt3⟩ := p.2.2.2.2.2.2.2.2.2.2.2
  have : tot = (fl S).length := by
    rw [pt3, fl_r]
    unfold flr
    refine congrArg List.length (fm_cg _ fun l hl => ?_)
    show ((K l).map Prod.snd).map (fun x => (l, x)) = _
    rw [hK l (by have := List.mem_range'_1.mp hl; omega)]
  rw [← this]
  exact ⟨pt1, pt2⟩
theorem cp_io {M : Mem} {a len c o : Nat} (h : isO M c o) : isO (cpI (nw M 100 (2 * len) (2 * len)) a 0 (mN M) 0 len) c o := gw1_io (a := a) (p := 0) (j := 0) h
theorem cp_new (M : Mem) (a len : Nat) : isO (cpI (nw M 100 (2 * len) (2 * len)) a 0 (mN M) 0 len) 100 (mN M) := gw1_new M a 0 0 len
set_option maxHeartbeats 4000000 in
theorem PV.put {M : Mem} {h X Y : Nat} {t : Int32} {S : St} (q : CS M h) (p : PV M h t S) (rm : Rm M h X Y) (hl : (fl S).length < 9000) {k f g : Nat} {s : Int32} (hk : k < 6) (hf : f < 16) (hg : g < 16) : ∃ M', f_X5_put (h + 1) (nI k) (nI f) (nI g) s M = some M' ∧ CS M' h ∧ PV M' h t (sn t k f g s S) ∧ Rm M' h X Y ∧ FrP M M' h := by
  obtain ⟨d5, d6, d7, len, K, fr, us, ow, p, hK⟩ := p
  obtain ⟨et, eu⟩ := PV.len p hK
  obtain ⟨w, pc, pn, pch, pla, pma, pbu, pse, ⟨pf1, pf2, pf3⟩, ⟨pu1, pu2, pu3, pu4, pu5⟩, pt, _⟩ := id p
  obtain ⟨⟨w5, w6, w7⟩, ⟨v5, v6, v7⟩, ⟨u5, u6, u7⟩, wd⟩ := id w
  obtain ⟨r1, r2, r3, r4, r5⟩ := rm
  rw [w5, u5] at r1 r2 r5
  have hq := q.2.2.2.2
  have fin : ∀ (M0 : Mem) (d5 d6 d7 len : Nat), CS M0 h → PW M0 h d5 d6 d7 len t (xR S 16) K fr us ow 0 → (fr = [] → us < len ∧ us < 9000) → Rm M0 h X Y → FrP M M0 h → ∃ M', f_X5_put_81 (h + 1) (nI k) (nI f) (nI g) s M0 = some M' ∧ CS M' h ∧ PV M' h t (sn t k f g s S) ∧ Rm M' h X Y ∧ FrP M M' h := by
    intro M0 d5 d6 d7 len q0 p0 hfr0 rm0 f0
    obtain ⟨M', fr', us', ow', c, e', p', m1, m2, m3⟩ := p0.p81 (s := s) q0 hfr0 hk hf hg
    obtain ⟨⟨w5, w6, w7⟩, _⟩ := p0.1
    refine ⟨M', e', q0.e m1, ⟨d5, d6, d7, len, _, fr', us', ow', by rw [xR_sn16]; exact p', fun l hl => ?_⟩, ?_, FrP.tr f0 ⟨?_, fun i _ => by rw [m1], fun a b _ _ => by unfold mR; rw [m1], fun o _ n1 n5 n6 n7 b => m3 o n1 (by rw [← w5]; exact n5) (by rw [← w6]; exact n6) (by rw [← w7]; exact n7) b, fun o _ b => m2 o b, fun j _ _ => Or.inl (by unfold mR; rw [m1])⟩⟩
    · rw [sn_L]
      by_cases e : l = 16 * f + g
      · rw [if_pos e, e, up1_s, List.map_append, hK _ (by omega)]; rfl
      · rw [if_neg e, up1_o _ _ _ e]; exact hK l hl
    · unfold Rm mN mU mLn mR at rm0 ⊢
      rw [m1]; exact rm0
    · unfold mN; rw [m1]; exact Nat.le_refl _
  have c0 : f_X5_put (h + 1) (nI k) (nI f) (nI g) s M = if mI M (h + 1) 9 = (-1 : Int32) then (if nI us < nI len then f_X5_put_81 (h + 1) (nI k) (nI f) (nI g) s M else obd2 (f_J7_copyOf_59c91 d5 (nI us * (2 : Int32)) M) fun r15 M16 => chk (isO M16 5 (h + 1)) <| chk (isO M16 100 r15) <| bnd (sR M16 (h + 1) 5 r15) fun M18 => bnd (mR M18 (h + 1) 6) fun o23 => chk (isO M18 100 o23) <| obd2 (f_J7_copyOf_59c91 o23 ((mI M18 (h + 1) 8) * (2 : Int32)) M18) fun r27 M28 => chk (isO M28 5 (h + 1)) <| chk (isO M28 100 r27) <| bnd (sR M28 (h + 1) 6 r27) fun M30 => bnd (mR M30 (h + 1) 7) fun o35 => chk (isO M30 100 o35) <| obd2 (f_J7_copyOf_59c91 o35 ((mI M30 (h + 1) 8) * (2 : Int32)) M30) fun r39 M40 => chk (isO M40 5 (h + 1)) <| chk (isO M40 100 r39) <| bnd (sR M40 (h + 1) 7 r39) fun M42 => f_X5_put_81 (h + 1) (nI k) (nI f) (nI g) s M42) else f_X5_put_81 (h + 1) (nI k) (nI f) (nI g) s M := by
    rw [f_X5_put, cs_p q, et, if_pos (by rw [show (131072 : Int32) = nI 131072 from rfl]; exact nI_lt (by omega) (by decide))]
    by_cases e : mI M (h + 1) 9 = -1
    · rw [if_pos e, if_pos e, w5, bnd_e, w.c (Or.inl rfl), u5, n32, pu1]
      by_cases e2 : nI us < nI len
      · rw [if_pos e2, if_pos e2]
      · rw [if_neg e2, if_neg e2, bnd_e, w.c (Or.inl rfl)]
    · rw [if_neg e, if_neg e]
  rw [c0]
  by_cases e9 : mI M (h + 1) 9 = -1
  · rw [if_pos e9]
    have hfr : fr = [] := by
      cases fr with
      | nil => rfl
      | cons c cs =>
        have h9 : mI M (h + 1) 9 = nI c := pf3.1
        have h1 := nI_pos (n := c) (by have := pf2 c (by simp); omega)
        rw [← h9, e9] at h1
        exact absurd (by decide) h1
    rw [hfr, List.length_nil] at eu
    by_cases e2 : us < len
    · rw [if_pos (nI_lt e2 (by omega))]
      exact fin M d5 d6 d7 len q p (fun _ => ⟨e2, by omega⟩) ⟨by rw [w5, u5]; exact r1, by rw [w5, u5]; exact r2, r3, r4, by rw [w5, u5]; exact r5⟩ (FrP.rf M h)
    · have eul : us = len := by omega
      rw [if_neg (nI_nlt (by omega) (by omega)), eul]
      have em : nI len * (2 : Int32) = nI (2 * len) := by rw [show (2 : Int32) = nI 2 from rfl, pk_mul, Nat.mul_comm]
      have pu1' : mI M (h + 1) 8 = nI len := by rw [← eul]; exact pu1
      have hN : mN M + 3 ≤ CAP := by unfold CAP; omega
      have hU : mU M + 6 * len ≤ CAPU := by unfold CAPU; omega
      generalize hG1 : gw1 M d5 (h + 1) 5 len = G1
      have N1 : mN G1 = mN M + 1 := by rw [← hG1]; rfl
      have U1 : mU G1 = mU M + 2 * len := by rw [← hG1]; rfl
      have q1 : CS G1 h := by rw [← hG1]; exact q.gw (by decide)
      have R1 : ∀ a b, a < mN M → mR G1 a b = if a = h + 1 ∧ b = 5 then mN M else mR M a b := fun a b ha => by rw [← hG1]; exact gw1_R _ _ _ _ _ _ (by omega)
      have I1 : ∀ o, o < mN M → ∀ b, mI G1 o b = mI M o b := fun o ho b => by rw [← hG1]; exact gw1_I _ _ _ _ _ _ (by omega)
      have J1 : ∀ b, b < len → mI G1 (mN M) b = mI M d5 b := fun b hb => by rw [← hG1]; exact gw1_J _ _ _ _ _ (by have := v5.1; omega) hb
      have C1 : ∀ i, i < mN M → G1.1.2.1 i = M.1.2.1 i := fun i hi => by rw [← hG1, gw1_C, if_neg (by omega)]
      have L1 : ∀ o, o < mN M → ∀ b, mL G1 o b = mL M o b := fun o ho b => by rw [← hG1]; exact gw1_L _ _ _ _ _ _ (by omega)
      have K1 : G1.1.2.1 (mN M) = (100, 2 * len) := by rw [← hG1, gw1_C, if_pos rfl]
      generalize hG2 : gw1 G1 d6 (h + 1) 6 len = G2
      have N2 : mN G2 = mN M + 2 := by rw [← hG2, gw1_N, N1]
      have U2 : mU G2 = mU M + 4 * len := by rw [← hG2, gw1_U, U1]; omega
      have q2 : CS G2 h := by rw [← hG2]; exact q1.gw (by decide)
      have R2 : ∀ a b, a < mN G1 → mR G2 a b = if a = h + 1 ∧ b = 6 then mN G1 else mR G1 a b := fun a b ha => by rw [← hG2]; exact gw1_R _ _ _ _ _ _ (by omega)
      have I2 : ∀ o, o < mN G1 → ∀ b, mI G2 o b = mI G1 o b := fun o ho b => by rw [← hG2]; exact gw1_I _ _ _ _ _ _ (by omega)
      have J2 : ∀ b, b < len → mI G2 (mN G1) b = mI G1 d6 b := fun b hb => by rw [← hG2]; exact gw1_J _ _ _ _ _ (by have := v6.1; omega) hb
      have C2 : ∀ i, i < mN G1 → G2.1.2.1 i = G1.1.2.1 i := fun i hi => by rw [← hG2, gw1_C, if_neg (by omega)]
      have L2 : ∀ o, o < mN G1 → ∀ b, mL G2 o b = mL G1 o b := fun o ho b => by rw [← hG2]; exact gw1_L _ _ _ _ _ _ (by omega)
      have K2 : G2.1.2.1 (mN G1) = (100, 2 * len) := by rw [← hG2, gw1_C, if_pos rfl]
      generalize hG3 : gw1 G2 d7 (h + 1) 7 len = G3
      have N3 : mN G3 = mN M + 3 := by rw [← hG3, gw1_N, N2]
      have U3 : mU G3 = mU M + 6 * len := by rw [← hG3, gw1_U, U2]; omega
      have q3 : CS G3 h := by rw [← hG3]; exact q2.gw (by decide)
      have R3 : ∀ a b, a < mN G2 → mR G3 a b = if a = h + 1 ∧ b = 7 then mN G2 else mR G2 a b := fun a b ha => by rw [← hG3]; exact gw1_R _ _ _ _ _ _ (by omega)
      have I3 : ∀ o, o < mN G2 → ∀ b, mI G3 o b = mI G2 o b := fun o ho b => by rw [← hG3]; exact gw1_I _ _ _ _ _ _ (by omega)
      have J3 : ∀ b, b < len → mI G3 (mN G2) b = mI G2 d7 b := fun b hb => by rw [← hG3]; exact gw1_J _ _ _ _ _ (by have := v7.1; omega) hb
      have C3 : ∀ i, i < mN G2 → G3.1.2.1 i = G2.1.2.1 i := fun i hi => by rw [← hG3, gw1_C, if_neg (by omega)]
      have L3 : ∀ o, o < mN G2 → ∀ b, mL G3 o b = mL G2 o b := fun o ho b => by rw [← hG3]; exact gw1_L _ _ _ _ _ _ (by omega)
      have K3 : G3.1.2.1 (mN G2) = (100, 2 * len) := by rw [← hG3, gw1_C, if_pos rfl]
      have b5 := v5.1; have b6 := v6.1; have b7 := v7.1
      have z5 : mR G3 (h + 1) 5 = mN M := by rw [R3 _ _ (by omega), if_neg (by omega), R2 _ _ (by omega), if_neg (by omega), R1 _ _ (by omega), if_pos ⟨rfl, rfl⟩]
      have z6 : mR G3 (h + 1) 6 = mN M + 1 := by rw [R3 _ _ (by omega), if_neg (by omega), R2 _ _ (by omega), if_pos ⟨rfl, rfl⟩, N1]
      have z7 : mR G3 (h + 1) 7 = mN M + 2 := by rw [R3 _ _ (by omega), if_pos ⟨rfl, rfl⟩, N2]
      have y5 : G3.1.2.1 (mN M) = (100, 2 * len) := by rw [C3 _ (by omega), C2 _ (by omega), K1]
      have y6 : G3.1.2.1 (mN M + 1) = (100, 2 * len) := by rw [C3 _ (by omega), ← N1, K2]
      have y7 : G3.1.2.1 (mN M + 2) = (100, 2 * len) := by rw [← N2, K3]
      have w3 : DS G3 h (mN M) (mN M + 1) (mN M + 2) (2 * len) := by
        refine ⟨⟨z5, z6, z7⟩, ⟨⟨by omega, ?_⟩, ⟨by omega, ?_⟩, ⟨by omega, ?_⟩⟩, ⟨?_, ?_, ?_⟩, by omega⟩
        · rw [mC, y5]
        · rw [mC, y6]
        · rw [mC, y7]
        · rw [mLn, y5]
        · rw [mLn, y6]
        · rw [mLn, y7]
      have I : ∀ o, o < mN M → ∀ b, mI G3 o b = mI M o b := fun o ho b => by rw [I3 _ (by omega), I2 _ (by omega), I1 _ ho]
      have p3 : PW G3 h (mN M) (mN M + 1) (mN M + 2) (2 * len) t (xR S 16) K fr us ow 0 := by
        refine p.cg w3 (by omega) (by omega) (fun i _ _ b => I _ (by omega) b) (fun b hb => ?_) (fun b hb => ?_) (fun b hb => ?_)
        · rw [I3 _ (by omega), I2 _ (by omega), J1 b hb]
        · rw [I3 _ (by omega), ← N1, J2 b hb, I1 _ b6]
        · rw [← N2, J3 b hb, I2 _ (by omega), I1 _ b7]
      obtain ⟨M', e', g1, g2, g3, g4⟩ := fin G3 _ _ _ _ q3 p3 (fun _ => by omega) ⟨by rw [z5, mLn, y5, N3]; show (mN M + 3) * 64 ≤ X + 3 * (2 * len); omega, by rw [z5, mLn, y5, U3]; show mU M + 6 * len ≤ Y + 6 * (2 * len); omega, r3, r4, by rw [z5, mLn, y5]; obtain ⟨z, ez⟩ := r5; exact ⟨z + 1, by show 2 * len = _; rw [ez, Nat.pow_succ]; omega⟩⟩ ⟨by omega, fun i hi => by rw [C3 _ (by omega), C2 _ (by omega), C1 _ hi], fun a b ha hn => by rw [R3 _ _ (by omega), if_neg (by omega), R2 _ _ (by omega), if_neg (by omega), R1 _ _ ha, if_neg (by omega)], fun o ho _ _ _ _ b => I o ho b, fun o ho b => by rw [L3 _ (by omega), L2 _ (by omega), L1 _ ho], fun j h5 h7 => by
        rcases (show j = 5 ∨ j = 6 ∨ j = 7 by omega) with rfl | rfl | rfl
        · right; rw [z5]; exact Nat.le_refl _
        · right; rw [z6]; omega
        · right; rw [z7]; omega⟩
      refine ⟨M', ?_, g1, g2, g3, g4⟩
      have f1 := f_copyOf (M := M) v5 u5 (by omega) (by omega) (by omega) (by omega)
      have f2 := f_copyOf (M := G1) (a := d6) (len := len) ⟨by omega, by rw [mC, C1 _ b6]; exact v6.2⟩ (by rw [mLn, C1 _ b6]; exact u6) (by omega) (by omega) (by omega) (by omega)
      have f3 := f_copyOf (M := G2) (a := d7) (len := len) ⟨by omega, by rw [mC, C2 _ (by omega), C1 _ b7]; exact v7.2⟩ (by rw [mLn, C2 _ (by omega), C1 _ b7]; exact u7) (by omega) (by omega) (by omega) (by omega)
      have i0 : isO M 5 (h + 1) := q.io (i := 1) (by decide) (by decide) (by decide)
      have i1 : isO G1 5 (h + 1) := q1.io (i := 1) (by decide) (by decide) (by decide)
      have i2 : isO G2 5 (h + 1) := q2.io (i := 1) (by decide) (by decide) (by decide)
      have e6 : mR G1 (h + 1) 6 = d6 := by rw [R1 _ _ (by omega), if_neg (by omega)]; exact w6
      have e7 : mR G2 (h + 1) 7 = d7 := by rw [R2 _ _ (by omega), if_neg (by omega), R1 _ _ (by omega), if_neg (by omega)]; exact w7
      have s1 : mI G1 (h + 1) 8 = nI len := by rw [I1 _ (by omega)]; exact pu1'
      have s2 : mI G2 (h + 1) 8 = nI len := by rw [I2 _ (by omega)]; exact s1
      have o6 : isO G1 100 d6 := ⟨by omega, by rw [mC, C1 _ b6]; exact v6.2⟩
      have o7 : isO G2 100 d7 := ⟨by omega, by rw [mC, C2 _ (by omega), C1 _ b7]; exact v7.2⟩
      rw [em, f1, obd2_s, chk_t (cp_io i0), chk_t (cp_new M d5 len), show sR (cpI (nw M 100 (2 * len) (2 * len)) d5 0 (mN M) 0 len) (h + 1) 5 (mN M) = G1 from hG1, bnd_e, e6, bnd_e, chk_t o6, s1, em, f2, obd2_s, chk_t (cp_io i1), chk_t (cp_new G1 d6 len), show sR (cpI (nw G1 100 (2 * len) (2 * len)) d6 0 (mN G1) 0 len) (h + 1) 6 (mN G1) = G2 from hG2, bnd_e, e7, bnd_e, chk_t o7, s2, em, f3, obd2_s, chk_t (cp_io i2), chk_t (cp_new G2 d7 len), show sR (cpI (nw G2 100 (2 * len) (2 * len)) d7 0 (mN G2) 0 len) (h + 1) 7 (mN G2) = G3 from hG3, bnd_e]
      exact e'
  · rw [if_neg e9]
    refine fin M d5 d6 d7 len q p (fun z => absurd ?_ e9) ⟨by rw [w5, u5]; exact r1, by rw [w5, u5]; exact r2, r3, r4, by rw [w5, u5]; exact r5⟩ (FrP.rf M h)
    rw [z] at pf3
    exact pf3
/-! ===== the class takes a letter ===== -/
set_option maxHeartbeats 1000000 in
theorem ftake {M : Mem} {h d5 d6 d7 len l c f g m tot : Nat} {y : Int32} (q : CS M h) (w : DS M h d5 d6 d7 len) (hl : 16 * f + g = l) (hc : c < len) (hln : len < 20000) (hf : f < 16) (hg : g < 16) (hm : mI M (h + 4) l = nI (m + 1)) (hm2 : m < 20000) (hfi : mI M (h + 2) l = nI c) (htot : mI M (h + 1) 10 = nI (tot + 1)) (hy : mI M (h + 1) 9 = y) : ∃ M', f_X5_takeFirst (h + 1) (nI f) (nI g) M = some (mI M d5 c, M') ∧ M'.1 = M.1 ∧ (∀ o b, mL M' o b = mL M o b) ∧ (∀ b, mI M' d7 b = if b = c then y else mI M d7 b) ∧ (∀ b, mI M' (h + 2) b = if b = l then mI M d7 c else mI M (h + 2) b) ∧ (∀ b, mI M' (h + 4) b = if b = l then nI m else mI M (h + 4) b) ∧ (∀ b, mI M' (h + 5) b = if m = 0 ∧ b = f then bof (mI M (h + 5) f) g else mI M (h + 5) b) ∧ (∀ b, mI M' (h + 1) b = if b = 10 then nI tot else if b = 9 then nI c else mI M (h + 1) b) ∧ (∀ o, o ≠ h + 1 → o ≠ h + 2 → o ≠ h + 4 → o ≠ h + 5 → o ≠ d7 → ∀ b, mI M' o b = mI M o b) := by
  obtain ⟨⟨w1, w2, w3⟩, wi, wl, x5, x6, x7, x56, x57, x67⟩ := id w
  have hq := q.2.2.2.2
  have l1 : l < 256 := by omega
  have h7 : ∀ i, i < 7 → h + i ≠ d7 := fun i hi => by omega
  have h5 : ∀ i, i < 7 → h + i ≠ d5 := fun i hi => by omega
  have fin : ∀ Mc : Mem, Mc.1 = M.1 → (∀ o b, mL Mc o b = mL M o b) → (∀ o, o ≠ h + 2 → o ≠ h + 4 → o ≠ h + 5 → ∀ b, mI Mc o b = mI M o b) → ∃ M', f_X5_takeFirst_72 (h + 1) (nI c) Mc = some (mI M d5 c, M') ∧ M'.1 = M.1 ∧ (∀ o b, mL M' o b = mL M o b) ∧ (∀ b, mI M' d7 b = if b = c then y else mI M d7 b) ∧ (∀ b, mI M' (h + 1) b = if b = 10 then nI tot else if b = 9 then nI c else mI M (h + 1) b) ∧ (∀ o, o ≠ h + 1 → o ≠ d7 → ∀ b, mI M' o b = mI Mc o b) := by
    intro Mc sc lc oc
    generalize hMd : sI Mc d7 c y = Md
    generalize hMe : sI Md (h + 1) 9 (nI c) = Me
    generalize hMf : sI Me (h + 1) 10 (nI tot) = Mf
    have sd : Md.1 = M.1 := by rw [← hMd]; exact sc
    have se : Me.1 = M.1 := by rw [← hMe]; exact sd
    have sf : Mf.1 = M.1 := by rw [← hMf]; exact se
    have wc := (w.e sc).1
    have wf := (w.e sf).1
    have y1 : mI Mc (h + 1) 9 = y := by rw [oc _ (by omega) (by omega) (by omega)]; exact hy
    have y2 : mI Me (h + 1) 10 = nI (tot + 1) := by rw [← hMe, mI_n _ _ _ _ (by decide), ← hMd, mI_o _ _ _ _ _ (h7 1 (by decide)), oc _ (by omega) (by omega) (by omega)]; exact htot
    have y3 : ∀ o, o ≠ h + 1 → o ≠ d7 → ∀ b, mI Mf o b = mI Mc o b := fun o n1 n7 b => by rw [← hMf, mI_o _ _ _ _ _ n1, ← hMe, mI_o _ _ _ _ _ n1, ← hMd, mI_o _ _ _ _ _ n7]
    refine ⟨Mf, ?_, sf, fun o b => ?_, fun b => ?_, fun b => ?_, y3⟩
    · rw [f_X5_takeFirst_72, cs_p (q.e sc), wc.2.2, bnd_e, (w.e sc).c (Or.inr (Or.inr rfl)), (w.e sc).i (Or.inr (Or.inr rfl)) hc (by omega), y1, sI_d (by omega), hMd, bnd_e, hMe, bnd_e, y2, nI_pred, hMf, bnd_e, wf.1, bnd_e, (w.e sf).c (Or.inl rfl), (w.e sf).i (Or.inl rfl) hc (by omega), mI_d (by omega), y3 d5 (h5 1 (by decide)).symm x57, oc _ (h5 2 (by decide)).symm (h5 4 (by decide)).symm (h5 5 (by decide)).symm]
    · rw [← hMf, ← hMe, ← hMd]; exact lc o b
    · rw [← hMf, mI_o _ _ _ _ _ (h7 1 (by decide)).symm, ← hMe, mI_o _ _ _ _ _ (h7 1 (by decide)).symm, ← hMd, mI_sI]
      by_cases e : b = c
      · rw [if_pos ⟨rfl, e⟩, if_pos e]
      · rw [if_neg (fun z => e z.2), if_neg e, oc _ (h7 2 (by decide)).symm (h7 4 (by decide)).symm (h7 5 (by decide)).symm]
    · rw [← hMf, mI_sI]
      by_cases e : b = 10
      · rw [if_pos ⟨rfl, e⟩, if_pos e]
      · rw [if_neg (fun z => e z.2), if_neg e, ← hMe, mI_sI]
        by_cases e2 : b = 9
        · rw [if_pos ⟨rfl, e2⟩, if_pos e2]
        · rw [if_neg (fun z => e2 z.2), if_neg e2, ← hMd, mI_o _ _ _ _ _ (h7 1 (by decide)), oc _ (by omega) (by omega) (by omega)]
  generalize hMa : sI M (h + 2) l (mI M d7 c) = Ma
  generalize hMb : sI Ma (h + 4) l (nI m) = Mb
  have sa : Ma.1 = M.1 := by rw [← hMa]; rfl
  have sb : Mb.1 = M.1 := by rw [← hMb]; exact sa
  have qa := q.e sa
  have qb := q.e sb
  have e4 : mI Ma (h + 4) l = nI (m + 1) := by rw [← hMa, mI_o _ _ _ _ _ (by omega)]; exact hm
  have e4b : mI Mb (h + 4) l = nI m := by rw [← hMb, mI_s]
  have ob : ∀ o, o ≠ h + 2 → o ≠ h + 4 → ∀ b, mI Mb o b = mI M o b := fun o n2 n4 b => by rw [← hMb, mI_o _ _ _ _ _ n4, ← hMa, mI_o _ _ _ _ _ n2]
  have b2 : ∀ b, mI Mb (h + 2) b = if b = l then mI M d7 c else mI M (h + 2) b := fun b => by
    rw [← hMb, mI_o _ _ _ _ _ (by omega), ← hMa, mI_sI]
    by_cases e : b = l
    · rw [if_pos ⟨rfl, e⟩, if_pos e]
    · rw [if_neg (fun z => e z.2), if_neg e]
  have b4 : ∀ b, mI Mb (h + 4) b = if b = l then nI m else mI M (h + 4) b := fun b => by
    rw [← hMb, mI_sI]
    by_cases e : b = l
    · rw [if_pos ⟨rfl, e⟩, if_pos e]
    · rw [if_neg (fun z => e z.2), if_neg e, ← hMa, mI_o _ _ _ _ _ (by omega)]
  have start : f_X5_takeFirst (h + 1) (nI f) (nI g) M = if m = 0 then f_X5_takeFirst_72 (h + 1) (nI c) (sI Mb (h + 5) f (bof (mI M (h + 5) f) g)) else f_X5_takeFirst_72 (h + 1) (nI c) Mb := by
    rw [f_X5_takeFirst, c16', hl, bnd_e, cs_p q, cs_r4 q, bnd_e, cs_a4 q, cs_i4 q l1, mI_c (by omega), hm, if_neg (nI_ne0 (by omega) (by omega)), cs_r2 q, bnd_e, cs_a2 q, cs_i2 q l1, mI_c (by omega), hfi, bnd_e, bnd_e, cs_a2 q, w3, bnd_e, w.c (Or.inr (Or.inr rfl)), w.i (Or.inr (Or.inr rfl)) hc (by omega), cs_i2 q l1, mI_d (by omega), sI_c (by omega), hMa, bnd_e, cs_r4 qa, bnd_e, cs_a4 qa, cs_i4 qa l1, cs_i4 qa l1, mI_c (by omega), e4, nI_pred, sI_c (by omega), hMb, bnd_e, cs_r4 qb, bnd_e, cs_a4 qb, cs_i4 qb l1, mI_c (by omega), e4b]
    by_cases e : m = 0
    · rw [if_pos e, if_pos (by rw [e]; rfl), cs_r5 qb, bnd_e, cs_a5 qb, cs_i5 qb hf, cs_i5 qb hf, mI_c (by omega), ob _ (by omega) (by omega), sI_c (by omega)]
      rw [show (mI M (h + 5) f &&& (((1 : Int32) <<< (nI g &&& 31)) ^^^ (-1 : Int32))) = bof (mI M (h + 5) f) g from rfl, bnd_e]
    · rw [if_neg e, if_neg (nI_ne0 (by omega) (by omega))]
  rw [start]
  by_cases e : m = 0
  · rw [if_pos e]
    obtain ⟨M', e', m1, m2, m7, m3, mo⟩ := fin (sI Mb (h + 5) f (bof (mI M (h + 5) f) g)) sb (fun o b => by rw [← hMb, ← hMa]; rfl) (fun o n2 n4 n5 b => by rw [mI_o _ _ _ _ _ n5, ob o n2 n4])
    refine ⟨M', e', m1, m2, m7, fun b => ?_, fun b => ?_, fun b => ?_, m3, fun o n1 n2 n4 n5 n7 b => ?_⟩
    · rw [mo _ (by omega) (h7 2 (by decide)), mI_o _ _ _ _ _ (by omega), b2]
    · rw [mo _ (by omega) (h7 4 (by decide)), mI_o _ _ _ _ _ (by omega), b4]
    · rw [mo _ (by omega) (h7 5 (by decide)), mI_sI]
      by_cases e2 : b = f
      · rw [if_pos ⟨rfl, e2⟩, if_pos ⟨e, e2⟩]
      · rw [if_neg (fun z => e2 z.2), if_neg (fun z => e2 z.2), ob _ (by omega) (by omega)]
    · rw [mo o n1 n7, mI_o _ _ _ _ _ n5, ob o n2 n4]
  · rw [if_neg e]
    obtain ⟨M', e', m1, m2, m7, m3, mo⟩ := fin Mb sb (fun o b => by rw [← hMb, ← hMa]; rfl) (fun o n2 n4 _ b => ob o n2 n4 b)
    refine ⟨M', e', m1, m2, m7, fun b => ?_, fun b => ?_, fun b => ?_, m3, fun o n1 n2 n4 n5 n7 b => ?_⟩
    · rw [mo _ (by omega) (h7 2 (by decide)), b2]
    · rw [mo _ (by omega) (h7 4 (by decide)), b4]
    · rw [mo _ (by omega) (h7 5 (by decide)), ob _ (by omega) (by omega), if_neg (fun z => e z.1)]
    · rw [mo o n1 n7, ob o n2 n4]
set_option maxHeartbeats 2000000 in
theorem PW.take {M : Mem} {h d5 d6 d7 len : Nat} {t : Int32} {se : Nat → Int32} {K : Nat → List (Nat × Ltr)} {fr : List Nat} {us : Nat} {ow : Nat → Nat} (q : CS M h) (p : PW M h d5 d6 d7 len t se K fr us ow 0) {f g c : Nat} {x : Ltr} {r : List (Nat × Ltr)} (hf : f < 16) (hg : g < 16) (hK : K (16 * f + g) = (c, x) :: r) : ∃ M', f_X5_takeFirst (h + 1) (nI f) (nI g) M = some (encC x, M') ∧ PW M' h d5 d6 d7 len t se (up1 K (16 * f + g) r) (c :: fr) us (up1 ow c 256) 0 ∧ M'.1 = M.1 ∧ (∀ o b, mL M' o b = mL M o b) ∧ (∀ o, ¬ (h + 1 ≤ o ∧ o ≤ h + 6) → o ≠ d5 → o ≠ d6 → o ≠ d7 → ∀ b, mI M' o b = mI M o b) := by
  obtain ⟨w, pc, pn, pch, pla, pma, pbu, pse, ⟨pf1, pf2, pf3⟩, ⟨pu1, pu2, pu3, pu4, pu5⟩, pt, tot, pt1, pt2, pt3⟩ := p
  generalize hl : 16 * f + g = l at hK ⊢
  have l1 : l < 256 := by omega
  have wd := w.2.2.2
  have hq := q.2.2.2.2
  have hcm : (c, x) ∈ K l := by rw [hK]; simp
  obtain ⟨c1, c2, c3, c4⟩ := pc l l1 _ hcm
  simp only at c1 c2 c3 c4
  have hnd := pn l l1
  rw [hK, List.map_cons] at hnd
  obtain ⟨nd1, nd2⟩ := List.nodup_cons.mp hnd
  have hcl : ∀ l', l' < 256 → ∀ y, y ∈ up1 K l r l' → y.1 ≠ c := fun l' hl' y hy e => by
    by_cases n : l' = l
    · subst n
      rw [up1_s] at hy
      exact nd1 (List.mem_map.mpr ⟨y, hy, e⟩)
    · rw [up1_o _ _ _ n] at hy
      have := (pc l' hl' y hy).2.1
      rw [e, c2] at this; omega
  have hmem : ∀ l', l' < 256 → ∀ y, y ∈ up1 K l r l' → y ∈ K l' := fun l' hl' y hy => by
    by_cases n : l' = l
    · subst n
      rw [up1_s] at hy
      rw [hK]; exact List.mem_cons_of_mem _ hy
    · rwa [up1_o _ _ _ n] at hy
  have hnf : c ∉ fr := fun hc => by have := (pf2 c hc).2; omega
  have hch := pch l l1
  rw [hK, List.map_cons] at hch
  have hlen := flr_len_up (L := fun i => (K i).map Prod.snd) l1 (r.map Prod.snd)
  have htp : ∃ tot', tot = tot' + 1 := by
    have : (K l).length = r.length + 1 := by rw [hK]; rfl
    simp only [List.length_map] at hlen
    exact ⟨tot - 1, by omega⟩
  obtain ⟨tot', rfl⟩ := htp
  have hml : (K l).length ≤ us := by
    have := nd_le us ((K l).map Prod.fst) (pn l l1) (fun x hx => by
      obtain ⟨y, hy, rfl⟩ := List.mem_map.mp hx
      exact (pc l l1 y hy).1)
    rwa [List.length_map] at this
  have hKl : (K l).length = r.length + 1 := by rw [hK]; rfl
  obtain ⟨M', e, m1, m2, f7, g2, g4, g5, g1, fo⟩ := ftake (y := mI M (h + 1) 9) (m := r.length) (tot := tot') q w hl (show c < len by omega) (by omega) hf hg (by rw [pma l l1, hKl]) (by omega) hch.1 pt1 rfl
  have o5 : ∀ b, mI M' d5 b = mI M d5 b := fun b => fo d5 (by omega) (by omega) (by omega) (by omega) wd.2.2.2.2.1 b
  have o6 : ∀ b, mI M' d6 b = mI M d6 b := fun b => fo d6 (by omega) (by omega) (by omega) (by omega) wd.2.2.2.2.2 b
  refine ⟨M', by rw [e, c3], ⟨w.e m1, fun l' hl' y hy => ?_, fun l' hl' => ?_, fun l' hl' => ?_, fun l' hl' cs z' ez => ?_, fun l' hl' => ?_, fun f' hf' g' hg' => ?_, fun k' hk' => ?_, ⟨List.nodup_cons.mpr ⟨hnf, pf1⟩, fun x hx => ?_, ?_⟩, ⟨?_, pu2, pu3, pu4, pu5⟩, ?_, tot', ?_, ?_, ?_⟩, m1, m2, fun o n1 n5 n6 n7 b => fo o (by omega) (by omega) (by omega) (by omega) n7 b⟩
  · rw [up1_o _ _ _ (hcl l' hl' y hy), o5, o6]
    exact pc l' hl' y (hmem l' hl' y hy)
  · by_cases n : l' = l
    · subst n; rw [up1_s]; exact nd2
    · rw [up1_o _ _ _ n]; exact pn l' hl'
  · have h7 : ∀ x, x ∈ (up1 K l r l').map Prod.fst → mI M' d7 x = mI M d7 x := fun x hx => by
      obtain ⟨y, hy, rfl⟩ := List.mem_map.mp hx
      rw [f7, if_neg (hcl l' hl' y hy)]
    refine Chn.cg ?_ h7
    rw [g2]
    by_cases n : l' = l
    · subst n; rw [up1_s, if_pos rfl]; exact hch.2
    · rw [up1_o _ _ _ n, if_neg n]; exact pch l' hl'
  · rw [fo (h + 3) (by omega) (by omega) (by omega) (by omega) (by omega)]
    by_cases n : l' = l
    · subst n
      rw [up1_s] at ez
      exact pla l' hl' (c :: cs) z' (by rw [hK, List.map_cons, ez]; rfl)
    · rw [up1_o _ _ _ n] at ez
      exact pla l' hl' cs z' ez
  · rw [g4]
    by_cases n : l' = l
    · subst n; rw [up1_s, if_pos rfl]
    · rw [up1_o _ _ _ n, if_neg n]; exact pma l' hl'
  · have h0 := pbu f' hf' g' hg'
    rw [g5]
    by_cases n : 16 * f' + g' = l ∧ g' < 16
    · have e1 : f' = f := by omega
      have e2 : g' = g := by omega
      subst e1; subst e2
      rw [hl, up1_s]
      by_cases r0 : r = []
      · rw [if_pos ⟨by rw [r0]; rfl, rfl⟩, bt_off _ (by omega) hg']
        simp [r0]
      · rw [if_neg (fun z => r0 (List.eq_nil_of_length_eq_zero z.1)), h0, hl, hK]
        simp [r0]
    · by_cases e1 : r.length = 0 ∧ f' = f
      · have e2 : f' = f := e1.2
        subst e2
        rw [if_pos e1, bt_off _ (by omega) hg', h0]
        by_cases g16 : g' < 16
        · have e3 : g' ≠ g := fun z => n ⟨by rw [z]; exact hl, g16⟩
          rw [up1_o _ _ _ (by omega)]
          simp [e3]
        · simp [g16]
      · rw [if_neg e1, h0]
        by_cases g16 : g' < 16
        · rw [up1_o _ _ _ (fun z => n ⟨z, g16⟩)]
        · simp [g16]
  · rw [fo (h + 6) (by omega) (by omega) (by omega) (by omega) (by omega)]; exact pse k' hk'
  · rcases List.mem_cons.mp hx with e2 | hx2
    · rw [e2]; exact ⟨c1, up1_s _ _ _⟩
    · have := pf2 x hx2
      rw [up1_o _ _ _ (fun z => hnf (by rw [← z]; exact hx2))]
      exact this
  · rw [g1, if_neg (by decide), if_pos rfl]
    refine ⟨rfl, ?_⟩
    rw [f7, if_pos rfl]
    refine pf3.cg fun x hx => ?_
    rw [f7, if_neg (fun z => hnf (by rw [← z]; exact hx))]
  · rw [g1, if_neg (by decide), if_neg (by decide)]; exact pu1
  · rw [g1, if_neg (by decide), if_neg (by decide)]; exact pt
  · rw [g1, if_pos rfl]
  · simp only [List.length_cons]; omega
  · rw [up1_fst]
    simp only [List.length_map] at hlen
    omega
theorem ltr_nil {K : Nat → List (Nat × Ltr)} {S : St} {l : Nat} (e : (K l).map Prod.snd = xL S l) (hx : xL S l = []) : K l = [] := by
  rw [hx] at e
  exact List.map_eq_nil_iff.mp e
theorem PV.tno {M : Mem} {h : Nat} {t : Int32} {S : St} (q : CS M h) (p : PV M h t S) {f g : Nat} (hf : f < 16) (hg : g < 16) (hx : xL S (16 * f + g) = []) : f_X5_takeFirst (h + 1) (nI f) (nI g) M = some (-1, M) := by
  obtain ⟨d5, d6, d7, len, K, fr, us, ow, p, hK⟩ := p
  have hm := p.2.2.2.2.2.1 (16 * f + g) (by omega)
  rw [ltr_nil (hK _ (by omega)) hx] at hm
  rw [f_X5_takeFirst, c16', bnd_e, cs_p q, cs_r4 q, bnd_e, cs_a4 q, cs_i4 q (by omega), mI_c (by omega), hm, if_pos (by rfl)]
theorem PV.take {M : Mem} {h X Y : Nat} {t : Int32} {S : St} (q : CS M h) (p : PV M h t S) (rm : Rm M h X Y) {f g : Nat} {x : Ltr} {r : List Ltr} (hf : f < 16) (hg : g < 16) (hx : xL S (16 * f + g) = x :: r) : ∃ M', f_X5_takeFirst (h + 1) (nI f) (nI g) M = some (encC x, M') ∧ CS M' h ∧ PV M' h t (uL S (16 * f + g) r) ∧ Rm M' h X Y ∧ FrP M M' h := by
  obtain ⟨d5, d6, d7, len, K, fr, us, ow, p, hK⟩ := p
  obtain ⟨⟨w5, w6, w7⟩, _⟩ := id p.1
  have e0 := hK (16 * f + g) (by omega)
  rw [hx] at e0
  obtain ⟨⟨c, x'⟩, r', ek, e1, e2⟩ := List.map_eq_cons_iff.mp e0
  simp only at e1
  subst e1
  obtain ⟨M', e', p', m1, m2, m3⟩ := p.take q hf hg ek
  refine ⟨M', e', q.e m1, ⟨d5, d6, d7, len, _, _, us, _, p', fun l hl => ?_⟩, ?_, ?_, fun i _ => by rw [m1], fun a b _ _ => by unfold mR; rw [m1], fun o _ n1 n5 n6 n7 b => m3 o n1 (by rw [← w5]; exact n5) (by rw [← w6]; exact n6) (by rw [← w7]; exact n7) b, fun o _ b => m2 o b, fun j _ _ => Or.inl (by unfold mR; rw [m1])⟩
  · rw [xL_uL]
    by_cases e : l = 16 * f + g
    · rw [if_pos e, e, up1_s, e2]
    · rw [if_neg e, up1_o _ _ _ e]; exact hK l hl
  · unfold Rm mN mU mLn mR at rm ⊢
    rw [m1]; exact rm
  · unfold mN; rw [m1]; exact Nat.le_refl _
theorem PV.cnt {M : Mem} {h : Nat} {t : Int32} {S : St} (q : CS M h) (p : PV M h t S) {f g : Nat} (hf : f < 16) (hg : g < 16) : f_X5_countOn (h + 1) (nI f) (nI g) M = some (nI (xL S (16 * f + g)).length) := by
  obtain ⟨d5, d6, d7, len, K, fr, us, ow, p, hK⟩ := p
  have hm := p.2.2.2.2.2.1 (16 * f + g) (by omega)
  rw [f_X5_countOn, cs_p q, cs_r4 q, bnd_e, cs_a4 q, c16', cs_i4 q (by omega), mI_c (by omega), hm, ← hK _ (by omega), List.length_map]
theorem drop_7 {h X Y : Nat} {t : Int32} {f g : Nat} (hf : f < 16) (hg : g < 16) : ∀ (xs : List Ltr) (M : Mem) (S : St) (n : Nat), CS M h → PV M h t S → Rm M h X Y → xL S (16 * f + g) = xs → xs.length + 1 ≤ n → xs.length < 20000 → ∃ M', f_X5_drop_7 n (h + 1) (nI f) (nI g) (nI xs.length) M = some M' ∧ CS M' h ∧ PV M' h t (if xs = [] then S else uL S (16 * f + g) []) ∧ Rm M' h X Y ∧ FrP M M' h := by
  intro xs
  induction xs with
  | nil =>
    intro M S n q p rm hx hn _
    obtain ⟨n, rfl⟩ : ∃ m, n = m + 1 := ⟨n - 1, by omega⟩
    refine ⟨M, ?_, q, by rw [if_pos rfl]; exact p, rm, FrP.rf M h⟩
    rw [f_X5_drop_7, if_pos (by decide)]
  | cons x xs ih =>
    intro M S n q p rm hx hn hl
    obtain ⟨n, rfl⟩ : ∃ m, n = m + 1 := ⟨n - 1, by omega⟩
    simp only [List.length_cons] at hn hl ⊢
    obtain ⟨M1, e1, q1, p1, r1, f1⟩ := p.take q rm hf hg hx
    obtain ⟨M2, e2, q2, p2, r2, f2⟩ := ih M1 _ n q1 p1 r1 (by rw [xL_uL, if_pos rfl]) (by omega) (by omega)
    refine ⟨M2, ?_, q2, ?_, r2, f1.tr f2⟩
    · rw [f_X5_drop_7, if_neg (show ¬ nI (xs.length + 1) ≤ (0 : Int32) from nI_ge (a := 0) (b := xs.length + 1) (by omega) (by omega)), cs_p q, e1, obd2_s, show nI (xs.length + 1) + (-1 : Int32) = nI xs.length by rw [← nI_pred xs.length, Int32.sub_eq_add_neg], bnd_e, e2]
    · rw [if_neg (by simp)]
      by_cases e : xs = []
      · rw [if_pos e] at p2
        rw [← e]; exact p2
      · rw [if_neg e] at p2
        have : uL (uL S (16 * f + g) xs) (16 * f + g) [] = uL S (16 * f + g) [] := by
          have z : up1 (up1 S.2.2.1 (16 * f + g) xs) (16 * f + g) [] = up1 S.2.2.1 (16 * f + g) [] := by
            funext a
            unfold up1
            by_cases e : a = 16 * f + g
            · rw [if_pos e, if_pos e]
            · rw [if_neg e, if_neg e, if_neg e]
          unfold uL
          rw [show (S.1, S.2.1, up1 S.2.2.1 (16 * f + g) xs, S.2.2.2).2.2.1 = up1 S.2.2.1 (16 * f + g) xs from rfl, z]
        rwa [this] at p2
theorem PV.drop {M : Mem} {h X Y : Nat} {t : Int32} {S : St} (q : CS M h) (p : PV M h t S) (rm : Rm M h X Y) {f g n : Nat} (hf : f < 16) (hg : g < 16) (hl : (xL S (16 * f + g)).length < 9001) (hn : 9002 ≤ n) : ∃ M', f_X5_drop n (h + 1) (nI f) (nI g) M = some M' ∧ CS M' h ∧ PV M' h t (if xL S (16 * f + g) = [] then S else uL S (16 * f + g) []) ∧ Rm M' h X Y ∧ FrP M M' h := by
  obtain ⟨M', e, r⟩ := drop_7 hf hg _ M S n q p rm rfl (by omega) (by omega)
  exact ⟨M', by rw [f_X5_drop, cs_p q, p.cnt q hf hg, obd_s, e], r⟩
/-! ===== the class: the places ===== -/
def ft : List (Nat × Nat) := [(0, 1), (1, 2), (2, 3), (3, 4), (4, 5), (5, 6), (6, 8), (8, 10), (11, 12), (12, 18), (13, 13), (15, 21)]
/-- the place of node v -/
def HPv (M : Mem) (h : Nat) (S : St) (v : Nat) : Prop := (∀ p, p ∈ ft → mI M (h + 17 + 2 * v) p.1 = xR S p.2 v) ∧ mI M (h + 17 + 2 * v) 7 = (if xR S 8 v = -1 then -1 else xR S 9 v) ∧ (xR S 0 v = 1 → mI M (h + 17 + 2 * v) 14 = xR S 14 v) ∧ (∀ u, u < 32 → bt (mI M (h + 17 + 2 * v) 9) u = decide (u ∈ (xW S v).map Prod.fst)) ∧ (∀ w, w ∈ xW S v → mI M (h + 18 + 2 * v) w.1 = w.2)
/-- the hall's own numbers -/
def HG (M : Mem) (h : Nat) (S : St) : Prop := (∀ v, v < 32 → bt (mI M h 7) v = decide (v < 16 ∧ xR S 0 v = 2)) ∧ (∀ v, v < 32 → bt (mI M h 8) v = decide (v < 16 ∧ xR S 0 v = 1)) ∧ (∀ v, v < 32 → bt (mI M h 9) v = decide (v < 16 ∧ xR S 7 v = 1)) ∧ mI M h 10 = xR S 15 1 ∧ mI M h 11 = xR S 15 0 ∧ mI M h 12 = xR S 15 2 ∧ mI M h 13 = xR S 15 5 ∧ mI M h 14 = xR S 15 3 ∧ mI M h 15 = xR S 15 4
def HP (M : Mem) (h : Nat) (S : St) : Prop := (∀ v, v < 16 → HPv M h S v) ∧ HG M h S
section
variable {M : Mem} {h : Nat}
theorem cs_h2 (q : CS M h) : mR M h 2 = h + 10 := q.r (a := 0) (b := 2) (c := 10) (by decide)
theorem cs_a10 {α : Type} (q : CS M h) (x : Option α) : chk (isO M 102 (h + 10)) x = x := chk_t (q.io (i := 10) (by decide) (by decide) (by decide))
theorem cs_i10 {α : Type} (q : CS M h) {k : Nat} (hk : k < 16) (x : Option α) : chk (inB (nI k) (mLn M (h + 10))) x = x := by
  refine chk_t ?_
  rw [q.ln (i := 10) (c := 16) (by decide) (by decide) (by decide)]; exact inB_n hk (by decide)
theorem cs_rp (q : CS M h) {v : Nat} (hv : v < 16) : mR M (h + 10) v = h + 17 + 2 * v := by
  have : ∀ v, v < 16 → (10, v, 17 + 2 * v) ∈ tH := by decide
  rw [q.r (this v hv)]; omega
theorem cs_rpc (q : CS M h) {v : Nat} (hv : v < 16) : mR M (h + 10) (nI v).toNatClampNeg = h + 17 + 2 * v := by
  rw [cl_n (by omega), cs_rp q hv]
theorem cs_po {α : Type} (q : CS M h) {v : Nat} (hv : v < 16) (x : Option α) : chk (isO M 4 (h + 17 + 2 * v)) x = x := by
  have : ∀ v, v < 16 → (tC.getD (14 + (17 + 2 * v)) (0, 0)).1 = 4 := by decide
  have z := q.io (i := 17 + 2 * v) (by omega) (by omega) (this v hv)
  rw [← Nat.add_assoc] at z
  exact chk_t z
theorem cs_pr (q : CS M h) {v : Nat} (hv : v < 16) : mR M (h + 17 + 2 * v) 10 = h + 18 + 2 * v := by
  have : ∀ v, v < 16 → (17 + 2 * v, 10, 18 + 2 * v) ∈ tH := by decide
  have z := q.r (this v hv)
  rw [← Nat.add_assoc, ← Nat.add_assoc] at z
  exact z
theorem cs_pa {α : Type} (q : CS M h) {v : Nat} (hv : v < 16) (x : Option α) : chk (isO M 100 (h + 18 + 2 * v)) x = x := by
  have : ∀ v, v < 16 → (tC.getD (14 + (18 + 2 * v)) (0, 0)).1 = 100 := by decide
  have z := q.io (i := 18 + 2 * v) (by omega) (by omega) (this v hv)
  rw [← Nat.add_assoc] at z
  exact chk_t z
theorem cs_pi {α : Type} (q : CS M h) {v : Nat} (hv : v < 16) {k : Nat} (hk : k < 16) (x : Option α) : chk (inB (nI k) (mLn M (h + 18 + 2 * v))) x = x := by
  have : ∀ v, v < 16 → (tC.getD (14 + (18 + 2 * v)) (0, 0)).2 = 16 := by decide
  have z := q.ln (i := 18 + 2 * v) (by omega) (by omega) (this v hv)
  rw [← Nat.add_assoc] at z
  refine chk_t ?_
  rw [z]; exact inB_n hk (by decide)
end
/-- the places of the others stay -/
theorem HP.at {M M' : Mem} {h : Nat} {S S' : St} (p : HP M h S) {v : Nat} (hv : HPv M' h S' v) (ho : ∀ o, (o = h ∨ (h + 17 ≤ o ∧ o < h + 49)) → o ≠ h + 17 + 2 * v → o ≠ h + 18 + 2 * v → ∀ b, mI M' o b = mI M o b) (hr : ∀ k i, i ≠ v → k ≠ 15 → k ≠ 16 → k ≠ 17 → xR S' k i = xR S k i) (h0 : xR S' 0 v = xR S 0 v) (h7 : xR S' 7 v = xR S 7 v) (h15 : xR S' 15 = xR S 15) (hW : ∀ a, a ≠ v → xW S' a = xW S a) : HP M' h S' := by
  obtain ⟨p1, g7, g8, g9, g10⟩ := p
  have e0 : ∀ u, xR S' 0 u = xR S 0 u := fun u => by
    by_cases n : u = v
    · rw [n, h0]
    · exact hr 0 u n (by decide) (by decide) (by decide)
  have e7 : ∀ u, xR S' 7 u = xR S 7 u := fun u => by
    by_cases n : u = v
    · rw [n, h7]
    · exact hr 7 u n (by decide) (by decide) (by decide)
  have eh : ∀ b, mI M' h b = mI M h b := fun b => ho h (Or.inl rfl) (by omega) (by omega) b
  refine ⟨fun u hu => ?_, ?_⟩
  · by_cases n : u = v
    · rw [n]; exact hv
    · obtain ⟨a1, a2, a3, a4, a5⟩ := p1 u hu
      have o1 : ∀ b, mI M' (h + 17 + 2 * u) b = mI M (h + 17 + 2 * u) b := fun b => ho _ (Or.inr (by omega)) (by omega) (by omega) b
      have o2 : ∀ b, mI M' (h + 18 + 2 * u) b = mI M (h + 18 + 2 * u) b := fun b => ho _ (Or.inr (by omega)) (by omega) (by omega) b
      have hf : ∀ p, p ∈ ft → p.2 ≠ 15 ∧ p.2 ≠ 16 ∧ p.2 ≠ 17 := by decide
      refine ⟨fun p hp => ?_, ?_, fun z => ?_, fun w hw => ?_, fun w hw => ?_⟩
      · rw [o1, hr _ _ n (hf p hp).1 (hf p hp).2.1 (hf p hp).2.2]; exact a1 p hp
      · rw [o1, hr 8 _ n (by decide) (by decide) (by decide), hr 9 _ n (by decide) (by decide) (by decide)]; exact a2
      · rw [o1, hr 14 _ n (by decide) (by decide) (by decide)]
        exact a3 (by rw [← e0]; exact z)
      · rw [o1, hW _ n]; exact a4 w hw
      · rw [hW _ n] at hw
        rw [o2]; exact a5 w hw
  · refine ⟨fun u hu => ?_, fun u hu => ?_, fun u hu => ?_, ?_⟩
    · rw [eh, e0]; exact g7 u hu
    · rw [eh, e0]; exact g8 u hu
    · rw [eh, e7]; exact g9 u hu
    · rw [eh, eh, eh, eh, eh, eh, h15]; exact g10
/-- one number of a place -/
theorem HP.fld {M : Mem} {h : Nat} {S : St} (p : HP M h S) {v a k : Nat} {x : Int32} (hv : v < 16) (hf : (a, k) ∈ ft) (h8 : k ≠ 8) : HP (sI M (h + 17 + 2 * v) a x) h (uR S k v x) := by
  have hp := p.1 v hv
  obtain ⟨a1, a2, a3, a4, a5⟩ := hp
  have inj : ∀ p, p ∈ ft → ∀ p', p' ∈ ft → (p.1 = p'.1 ↔ p.2 = p'.2) := by decide
  have lim : ∀ p, p ∈ ft → p.1 ≠ 7 ∧ p.1 ≠ 14 ∧ p.1 ≠ 9 ∧ p.2 ≠ 9 ∧ p.2 ≠ 0 ∧ p.2 ≠ 14 ∧ p.2 ≠ 7 ∧ p.2 ≠ 15 := by decide
  obtain ⟨l1, l2, l3, l4, l5, l6, l7, l8⟩ := lim _ hf
  simp only at l1 l2 l3 l4 l5 l6 l7 l8
  have r : ∀ k' i, k' ≠ k → xR (uR S k v x) k' i = xR S k' i := fun k' i n => by rw [xR_uR, if_neg (fun z => n z.1)]
  refine p.at ⟨fun p hp => ?_, ?_, fun z => ?_, fun u hu => ?_, fun w hw => ?_⟩ (fun o _ n _ b => by rw [mI_o _ _ _ _ _ n]) (fun k' i n _ _ _ => by rw [xR_uR, if_neg (fun z => n z.2)]) (r 0 v l5.symm) (r 7 v l7.symm) (by funext i; exact r 15 i l8.symm) (fun _ _ => rfl)
  · have ij := inj p hp (a, k) hf
    by_cases e : p.1 = a
    · rw [e, mI_s, xR_uR, if_pos ⟨ij.mp e, rfl⟩]
    · rw [mI_n _ _ _ _ e, r _ _ (fun z => e (ij.mpr z))]; exact a1 p hp
  · rw [mI_n _ _ _ _ l1.symm, r 8 v h8.symm, r 9 v l4.symm]; exact a2
  · rw [mI_n _ _ _ _ l2.symm, r 14 v l6.symm]
    exact a3 (by rw [← r 0 v l5.symm]; exact z)
  · rw [mI_n _ _ _ _ l3.symm]; exact a4 u hu
  · rw [mI_o _ _ _ _ _ (by omega)]; exact a5 w hw
/-! ===== the class: who waits first ===== -/
theorem nd_eq : ∀ {l : List Wtr}, (l.map Prod.fst).Nodup → ∀ {a b : Wtr}, a ∈ l → b ∈ l → a.1 = b.1 → a = b := by
  intro l
  induction l with
  | nil => intro _ a b ha; simp at ha
  | cons w r ih =>
    intro h a b ha hb e
    rw [List.map_cons] at h
    obtain ⟨h1, h2⟩ := List.nodup_cons.mp h
    rcases List.mem_cons.mp ha with ea | ha
    · rcases List.mem_cons.mp hb with eb | hb
      · rw [ea, eb]
      · exact absurd (List.mem_map.mpr ⟨b, hb, by rw [← e, ea]⟩) h1
    · rcases List.mem_cons.mp hb with eb | hb
      · exact absurd (List.mem_map.mpr ⟨a, ha, by rw [e, eb]⟩) h1
      · exact ih h2 ha hb e
def hdW (l : List Wtr) : Int32 := match l with
  | [] => -1
  | w :: _ => nI w.1
def Bst (l : List Wtr) (i : Nat) (b : Int32) : Prop := (b = -1 ∧ ∀ w, w ∈ l → i ≤ w.1) ∨ ∃ w, w ∈ l ∧ w.1 < i ∧ b = nI w.1 ∧ ∀ w', w' ∈ l → w'.1 < i → w' = w ∨ aw w w'
theorem Bst_hd {N A : Nat} {l : List Wtr} (hl : Wok N A l) (h16 : N ≤ 16) {b : Int32} (hb : Bst l 16 b) : b = hdW l := by
  cases l with
  | nil =>
    rcases hb with ⟨e, _⟩ | ⟨w, hw, _⟩
    · exact e
    · simp at hw
  | cons w0 r =>
    have h0 := hl.2.2 w0 (by simp)
    rcases hb with ⟨_, h⟩ | ⟨w, hw, _, e, h⟩
    · have := h w0 (by simp); omega
    · rcases h w0 (by simp) (by omega) with h1 | h1
      · rw [e, ← h1]; rfl
      · rcases List.mem_cons.mp hw with h2 | h2
        · rw [e, h2]; rfl
        · have h3 := (List.pairwise_cons.mp hl.1).1 w h2
          have h4 := ahd_as h3
          unfold aw at h1
          rw [h4] at h1
          exact absurd h1 (by decide)
set_option maxHeartbeats 1000000 in
theorem fw_4 {M : Mem} {h v N A : Nat} {l : List Wtr} (q : CS M h) (hv : v < 16) (hl : Wok N A l) (h16 : N ≤ 16) (hm : ∀ u, u < 32 → bt (mI M (h + 17 + 2 * v) 9) u = decide (u ∈ l.map Prod.fst)) (hs : ∀ w, w ∈ l → mI M (h + 18 + 2 * v) w.1 = w.2) : ∀ (d i : Nat) (b : Int32) (n : Nat), i + d = 16 → d + 1 ≤ n → Bst l i b → f_X4_firstWaiter_4 M n (h + 17 + 2 * v) b (nI i) = some (hdW l) := by
  intro d
  induction d with
  | zero =>
    intro i b n hi hn hb
    obtain ⟨n, rfl⟩ : ∃ m, n = m + 1 := ⟨n - 1, by omega⟩
    have : i = 16 := by omega
    subst this
    rw [f_X4_firstWaiter_4, if_pos (show (16 : Int32) ≤ nI 16 by decide), Bst_hd hl h16 hb]
  | succ d ih =>
    intro i b n hi hn hb
    obtain ⟨n, rfl⟩ : ∃ m, n = m + 1 := ⟨n - 1, by omega⟩
    rw [f_X4_firstWaiter_4, if_neg (show ¬ (16 : Int32) ≤ nI i from nI_ge (a := i) (b := 16) (by omega) (by decide)), cs_po q hv, f_has9 _ (by omega), obd_s, hm i (by omega), nI_1]
    by_cases c : i ∈ l.map Prod.fst
    · obtain ⟨w, hw, ew⟩ := List.mem_map.mp c
      rw [decide_eq_true c, if_pos rfl, if_neg (by decide)]
      have only : ∀ w', w' ∈ l → w'.1 < i + 1 → ¬ w'.1 < i → w' = w := fun w' hw' h1 h2 => nd_eq hl.2.1 hw' hw (by omega)
      rcases hb with ⟨e, hb⟩ | ⟨u, hu, ui, e, hb⟩
      · rw [if_pos e, bnd_e]
        refine ih (i + 1) _ n (by omega) (by omega) (Or.inr ⟨w, hw, by omega, by rw [ew], fun w' hw' h1 => ?_⟩)
        have := hb w' hw'
        exact Or.inl (only w' hw' h1 (by omega))
      · have hu2 := (hl.2.2 u hu).1
        rw [e, if_neg (nI_m1 (by omega)), cs_pr q hv, bnd_e, cs_pa q hv, cs_pi q hv (by omega), bnd_e, cs_pa q hv, cs_pi q hv (by omega), mI_c (by omega), mI_c (by omega), hs u hu, ← ew, hs w hw, ew]
        by_cases c2 : u.2 ≤ w.2
        · rw [if_pos c2, bnd_e]
          have huw : aw u w := by
            unfold aw ahd
            refine decide_eq_true ?_
            by_cases c3 : u.2 = w.2
            · exact Or.inr ⟨c3, nI_lt (by omega) (by omega)⟩
            · exact Or.inl (Int32.lt_of_le_of_ne c2 c3)
          refine ih (i + 1) _ n (by omega) (by omega) (Or.inr ⟨u, hu, by omega, rfl, fun w' hw' h1 => ?_⟩)
          by_cases c4 : w'.1 < i
          · exact hb w' hw' c4
          · rw [only w' hw' h1 c4]; exact Or.inr huw
        · rw [if_neg c2, bnd_e]
          have hwu : aw w u := by
            unfold aw ahd
            exact decide_eq_true (Or.inl (Int32.not_le.mp c2))
          refine ih (i + 1) _ n (by omega) (by omega) (Or.inr ⟨w, hw, by omega, by rw [ew], fun w' hw' h1 => ?_⟩)
          by_cases c4 : w'.1 < i
          · rcases hb w' hw' c4 with e5 | e5
            · rw [e5]; exact Or.inr hwu
            · exact Or.inr (ahd_t hwu e5)
          · exact Or.inl (only w' hw' h1 c4)
    · rw [decide_eq_false c, if_pos (by decide), bnd_e]
      have nc : ∀ w, w ∈ l → w.1 ≠ i := fun w hw e => c (List.mem_map.mpr ⟨w, hw, e⟩)
      refine ih (i + 1) b n (by omega) (by omega) ?_
      rcases hb with ⟨e, hb⟩ | ⟨u, hu, ui, e, hb⟩
      · exact Or.inl ⟨e, fun w hw => by have := hb w hw; have := nc w hw; omega⟩
      · exact Or.inr ⟨u, hu, by omega, e, fun w' hw' h1 => hb w' hw' (by have := nc w' hw'; omega)⟩
theorem HP.fw {M : Mem} {h v N A n : Nat} {S : St} (q : CS M h) (p : HP M h S) (hv : v < 16) (hl : Wok N A (xW S v)) (h16 : N ≤ 16) (hn : 17 ≤ n) : f_X4_firstWaiter n (h + 17 + 2 * v) M = some (hdW (xW S v)) := by
  obtain ⟨_, _, _, a4, a5⟩ := p.1 v hv
  rw [f_X4_firstWaiter, show (0 : Int32) = nI 0 from rfl]
  exact fw_4 q hv hl h16 a4 a5 16 0 _ n (by omega) (by omega) (Or.inl ⟨rfl, fun _ _ => Nat.zero_le _⟩)
/-! ===== the class: the logs ===== -/
/-- a log of the class that was told xs -/
def LG (M : Mem) (l m : Nat) (xs : List Row4) : Prop := mI M l 0 = nI m ∧ mI M l 2 = nI (min xs.length m) ∧ mI M l 3 = nI (xs.length % m) ∧ ∀ j q, xs[j]? = some q → xs.length ≤ j + m → mI M (l + 1) (4 * (j % m)) = q.1 ∧ mI M (l + 1) (4 * (j % m) + 1) = q.2.1 ∧ mI M (l + 1) (4 * (j % m) + 2) = q.2.2.1 ∧ mI M (l + 1) (4 * (j % m) + 3) = q.2.2.2
theorem LG.cg {M M' : Mem} {l m : Nat} {xs : List Row4} (g : LG M l m xs) (h0 : ∀ k, mI M' l k = mI M l k) (h1 : ∀ k, mI M' (l + 1) k = mI M (l + 1) k) : LG M' l m xs := by
  obtain ⟨g0, g2, g3, g4⟩ := g
  refine ⟨by rw [h0, g0], by rw [h0, g2], by rw [h0, g3], fun j q hj hl => ?_⟩
  rw [h1, h1, h1, h1]; exact g4 j q hj hl
set_option maxHeartbeats 1000000 in
theorem f_add {M : Mem} {l m : Nat} {xs : List Row4} (hm : m = 30 ∨ m = 40) (i1 : isO M 3 l) (r1 : mR M l 1 = l + 1) (i2 : isO M 100 (l + 1)) (n2 : mLn M (l + 1) = 4 * m) (g : LG M l m xs) (a b c d : Int32) : ∃ M', f_X3_add l a b c d M = some M' ∧ LG M' l m (xs ++ [(a, b, c, d)]) ∧ M'.1 = M.1 ∧ (∀ o k, mL M' o k = mL M o k) ∧ ∀ o, o ≠ l → o ≠ l + 1 → ∀ k, mI M' o k = mI M o k := by
  obtain ⟨g0, g2, g3, g4⟩ := g
  generalize hp : xs.length % m = p at g3
  have pm : p < m := by rw [← hp]; exact Nat.mod_lt _ (by omega)
  have io : ∀ M' : Mem, M'.1 = M.1 → isO M' 3 l ∧ mR M' l 1 = l + 1 ∧ isO M' 100 (l + 1) ∧ mLn M' (l + 1) = 4 * m := fun M' e => by
    unfold isO mN mC mR mLn at *
    rw [e]
    exact ⟨i1, r1, i2, n2⟩
  generalize hMa : sI M (l + 1) (4 * p) a = Ma
  generalize hMb : sI Ma (l + 1) (4 * p + 1) b = Mb
  generalize hMc : sI Mb (l + 1) (4 * p + 2) c = Mc
  generalize hMd : sI Mc (l + 1) (4 * p + 3) d = Md
  have sa : Ma.1 = M.1 := by rw [← hMa]; rfl
  have sb : Mb.1 = M.1 := by rw [← hMb]; exact sa
  have sc : Mc.1 = M.1 := by rw [← hMc]; exact sb
  have sd : Md.1 = M.1 := by rw [← hMd]; exact sc
  obtain ⟨a1, a2, a3, a4⟩ := io Ma sa
  obtain ⟨b1, b2, b3, b4⟩ := io Mb sb
  obtain ⟨c1, c2, c3, c4⟩ := io Mc sc
  obtain ⟨d1, d2, d3, d4⟩ := io Md sd
  have od : ∀ o, o ≠ l + 1 → ∀ k, mI Md o k = mI M o k := fun o n k => by
    rw [← hMd, mI_o _ _ _ _ _ n, ← hMc, mI_o _ _ _ _ _ n, ← hMb, mI_o _ _ _ _ _ n, ← hMa, mI_o _ _ _ _ _ n]
  have cd : ∀ k, mI Md (l + 1) k = if k = 4 * p + 3 then d else if k = 4 * p + 2 then c else if k = 4 * p + 1 then b else if k = 4 * p then a else mI M (l + 1) k := fun k => by
    rw [← hMd, mI_sI, ← hMc, mI_sI, ← hMb, mI_sI, ← hMa, mI_sI]
    simp only [true_and]
  generalize hu : (if m ≤ p + 1 then 0 else p + 1) = u
  generalize hMe : sI Md l 3 (nI u) = Me
  have se : Me.1 = M.1 := by rw [← hMe]; exact sd
  obtain ⟨e1, e2, e3, e4⟩ := io Me se
  have f0 : mI Me l 0 = nI m := by rw [← hMe, mI_n _ _ _ _ (by decide), od _ (by omega)]; exact g0
  have f2 : mI Me l 2 = nI (min xs.length m) := by rw [← hMe, mI_n _ _ _ _ (by decide), od _ (by omega)]; exact g2
  generalize hw : min (xs.length + 1) m = w
  refine ⟨sI Me l 2 (nI w), ?_, ⟨?_, ?_, ?_, fun j q hj hl => ?_⟩, se, fun o k => ?_, fun o n1 n2 k => ?_⟩
  · have k1 : nI p * (4 : Int32) = nI (4 * p) := by rw [show (4 : Int32) = nI 4 from rfl, pk_mul, Nat.mul_comm]
    have k2 : nI (4 * p) + (2 : Int32) = nI (4 * p + 2) := by rw [show (2 : Int32) = nI 2 from rfl, nI_add]
    have k3 : nI (4 * p) + (3 : Int32) = nI (4 * p + 3) := by rw [show (3 : Int32) = nI 3 from rfl, nI_add]
    have inb : ∀ i, i < 4 → inB (nI (4 * p + i)) (4 * m) := fun i hi => inB_n (by omega) (by omega)
    have last : f_X3_add_71 l (nI u) l Md = some (sI Me l 2 (nI w)) := by
      rw [f_X3_add_71, chk_t d1, hMe, bnd_e, chk_t e1, f0, f2]
      by_cases c : m ≤ xs.length
      · rw [if_pos (nI_le (by omega) (by omega)), bnd_e, show w = m by omega]
      · rw [if_neg (nI_ge (by omega) (by omega)), nI_1, bnd_e, show min xs.length m + 1 = w by omega]
    have in0 : inB (nI (4 * p)) (4 * m) := inb 0 (by decide)
    have in1 : inB (nI (4 * p + 1)) (4 * m) := inb 1 (by decide)
    have in2 : inB (nI (4 * p + 2)) (4 * m) := inb 2 (by decide)
    have in3 : inB (nI (4 * p + 3)) (4 * m) := inb 3 (by decide)
    rw [f_X3_add, chk_t i1, g3, k1, bnd_e, r1, bnd_e, chk_t i2, n2, chk_t in0, sI_d (by omega), hMa, bnd_e, a2, bnd_e, chk_t a3, a4, nI_1, chk_t in1, sI_d (by omega), hMb, bnd_e, b2, bnd_e, chk_t b3, b4, k2, chk_t in2, sI_d (by omega), hMc, bnd_e, c2, bnd_e, chk_t c3, c4, k3, chk_t in3, sI_d (by omega), hMd, bnd_e, od l (by omega), g0, od l (by omega), g3, nI_1]
    by_cases c : m ≤ p + 1
    · rw [if_pos (nI_le c (by omega))]
      rw [← hu, if_pos c] at last
      exact last
    · rw [if_neg (nI_ge (by omega) (by omega))]
      rw [← hu, if_neg c] at last
      exact last
  · rw [mI_n _ _ _ _ (by decide)]; exact f0
  · rw [mI_s, List.length_append, List.length_singleton, hw]
  · rw [mI_n _ _ _ _ (by decide), ← hMe, mI_s, List.length_append, List.length_singleton, ← hu, ← hp]
    congr 1
    rcases hm with rfl | rfl <;> split <;> omega
  · have mo : ∀ k, mI (sI Me l 2 (nI w)) (l + 1) k = mI Md (l + 1) k := fun k => by rw [mI_o _ _ _ _ _ (by omega), ← hMe, mI_o _ _ _ _ _ (by omega)]
    rw [mo, mo, mo, mo]
    rw [List.length_append, List.length_singleton] at hl
    by_cases c : j < xs.length
    · rw [List.getElem?_append_left c] at hj
      have hne : j % m ≠ p := by
        rw [← hp]
        rcases hm with rfl | rfl <;> omega
      rw [cd, cd, cd, cd, if_neg (by omega), if_neg (by omega), if_neg (by omega), if_neg (by omega), if_neg (by omega), if_neg (by omega), if_neg (by omega), if_neg (by omega), if_neg (by omega), if_neg (by omega), if_neg (by omega), if_neg (by omega), if_neg (by omega), if_neg (by omega), if_neg (by omega), if_neg (by omega)]
      exact g4 j q hj (by omega)
    · have hj2 := hj
      rw [List.getElem?_append_right (by omega)] at hj
      have : j - xs.length = 0 := by
        cases e : j - xs.length with
        | zero => rfl
        | succ n => rw [e] at hj; simp at hj
      rw [this] at hj
      simp only [List.getElem?_cons_zero, Option.some.injEq] at hj
      subst hj
      have ej : j % m = p := by rw [show j = xs.length by omega, hp]
      rw [ej, cd, cd, cd, cd]
      refine ⟨?_, ?_, ?_, ?_⟩
      · rw [if_neg (by omega), if_neg (by omega), if_neg (by omega), if_pos rfl]
      · rw [if_neg (by omega), if_neg (by omega), if_pos rfl]
      · rw [if_neg (by omega), if_pos rfl]
      · rw [if_pos rfl]
  · rw [← hMe, ← hMd, ← hMc, ← hMb, ← hMa]; rfl
  · rw [mI_o _ _ _ _ _ n1, ← hMe, mI_o _ _ _ _ _ n1, od o n2]
/-! ===== the class: a hall ===== -/
/-- what a step of a hall leaves alone -/
def FrH (M M' : Mem) (h : Nat) : Prop := mN M ≤ mN M' ∧ (∀ i, i < mN M → M'.1.2.1 i = M.1.2.1 i) ∧ (∀ a b, a < mN M → ¬ (a = h + 1 ∧ 5 ≤ b ∧ b ≤ 7) → mR M' a b = mR M a b) ∧ (∀ o, o < mN M → ¬ (h ≤ o ∧ o < h + 49) → o ≠ mR M (h + 1) 5 → o ≠ mR M (h + 1) 6 → o ≠ mR M (h + 1) 7 → ∀ b, mI M' o b = mI M o b) ∧ (∀ o, o < mN M → ∀ b, mL M' o b = mL M o b) ∧ (∀ j, 5 ≤ j → j ≤ 7 → mR M' (h + 1) j = mR M (h + 1) j ∨ mN M ≤ mR M' (h + 1) j)
theorem FrH.rf (M : Mem) (h : Nat) : FrH M M h := ⟨Nat.le_refl _, fun _ _ => rfl, fun _ _ _ _ => rfl, fun _ _ _ _ _ _ _ => rfl, fun _ _ _ => rfl, fun _ _ _ => Or.inl rfl⟩
theorem FrH.tr {M M' M'' : Mem} {h : Nat} (p : FrH M M' h) (p' : FrH M' M'' h) : FrH M M'' h := by
  obtain ⟨a1, a2, a3, a4, a5, a6⟩ := p
  obtain ⟨b1, b2, b3, b4, b5, b6⟩ := p'
  refine ⟨Nat.le_trans a1 b1, fun i hi => (b2 i (by omega)).trans (a2 i hi), fun a b ha hn => (b3 a b (by omega) hn).trans (a3 a b ha hn), fun o ho h1 h5 h6 h7 b => ?_, fun o ho b => (b5 o (by omega) b).trans (a5 o ho b), fun j h5 h7 => ?_⟩
  · have n5 : o ≠ mR M' (h + 1) 5 := by rcases a6 5 (by decide) (by decide) with e | e <;> omega
    have n6 : o ≠ mR M' (h + 1) 6 := by rcases a6 6 (by decide) (by decide) with e | e <;> omega
    have n7 : o ≠ mR M' (h + 1) 7 := by rcases a6 7 (by decide) (by decide) with e | e <;> omega
    exact (b4 o (by omega) h1 n5 n6 n7 b).trans (a4 o ho h1 h5 h6 h7 b)
  · rcases b6 j h5 h7 with e | e
    · rcases a6 j h5 h7 with e2 | e2
      · exact Or.inl (e.trans e2)
      · exact Or.inr (by omega)
    · exact Or.inr (by omega)
theorem FrP.toH {M M' : Mem} {h : Nat} (p : FrP M M' h) : FrH M M' h := by
  obtain ⟨a1, a2, a3, a4, a5, a6⟩ := p
  exact ⟨a1, a2, a3, fun o ho n => a4 o ho (fun z => n (by omega)), fun o ho => a5 o ho, a6⟩
/-- a step that makes nothing new -/
theorem FrH.of {M M' : Mem} {h : Nat} (e : M'.1 = M.1) (hI : ∀ o, ¬ (h ≤ o ∧ o < h + 49) → ∀ b, mI M' o b = mI M o b) (hL : ∀ o b, mL M' o b = mL M o b) : FrH M M' h :=
  ⟨by unfold mN; rw [e]; exact Nat.le_refl _, fun i _ => by rw [e], fun a b _ _ => by unfold mR; rw [e], fun o _ n _ _ _ b => hI o n b, fun o _ b => hL o b, fun j _ _ => Or.inl (by unfold mR; rw [e])⟩
theorem FrH.sI {M : Mem} {h o k : Nat} {x : Int32} (ho : h ≤ o ∧ o < h + 49) : FrH M (sI M o k x) h :=
  FrH.of rfl (fun o' n b => mI_o _ _ _ _ _ (fun z => n (by rw [z]; exact ho))) (fun _ _ => rfl)
theorem HP.cg {M M' : Mem} {h : Nat} {S S' : St} (p : HP M h S) (ho : ∀ o, (o = h ∨ (h + 17 ≤ o ∧ o < h + 49)) → ∀ b, mI M' o b = mI M o b) (hr : ∀ k i, k ≠ 16 → xR S' k i = xR S k i) (hW : xW S' = xW S) : HP M' h S' := by
  obtain ⟨p1, g7, g8, g9, g10, g11, g12, g13, g14, g15⟩ := p
  have hf : ∀ p, p ∈ ft → p.2 ≠ 16 := by decide
  have e0 := fun v => hr 0 v (by decide)
  have e15 := fun v => hr 15 v (by decide)
  have eh := ho h (Or.inl rfl)
  refine ⟨fun v hv => ?_, fun v hv => ?_, fun v hv => ?_, fun v hv => ?_, ?_, ?_, ?_, ?_, ?_, ?_⟩
  · obtain ⟨a1, a2, a3, a4, a5⟩ := p1 v hv
    have o1 := ho (h + 17 + 2 * v) (Or.inr (by omega))
    have o2 := ho (h + 18 + 2 * v) (Or.inr (by omega))
    refine ⟨fun p hp => ?_, ?_, fun z => ?_, fun w hw => ?_, fun w hw => ?_⟩
    · rw [o1, hr _ _ (hf p hp)]; exact a1 p hp
    · rw [o1, hr 8 _ (by decide), hr 9 _ (by decide)]; exact a2
    · rw [o1, hr 14 _ (by decide)]; exact a3 (by rw [← e0]; exact z)
    · rw [o1, hW]; exact a4 w hw
    · rw [hW] at hw; rw [o2]; exact a5 w hw
  · rw [eh, e0]; exact g7 v hv
  · rw [eh, e0]; exact g8 v hv
  · rw [eh, hr 7 _ (by decide)]; exact g9 v hv
  · rw [eh, e15]; exact g10
  · rw [eh, e15]; exact g11
  · rw [eh, e15]; exact g12
  · rw [eh, e15]; exact g13
  · rw [eh, e15]; exact g14
  · rw [eh, e15]; exact g15
/-- a hall of the class stands for S; N nodes, Q the quorums it keeps, pb and pt what its logs held before -/
def HV (M : Mem) (h X Y : Nat) (t : Int32) (N : Nat) (Q : Nat → Int32) (S : St) (pb pt : List Row4) : Prop := CS M h ∧ PV M h t S ∧ HP M h S ∧ Rm M h X Y ∧ (LG M (h + 11) 30 (pb ++ xE S) ∧ LG M (h + 13) 40 (pt ++ xT S)) ∧ mI M 1 3 = nI N ∧ (∀ v, v < N → mI M (h + 15) v = Q v)
theorem PV.ds {M : Mem} {h : Nat} {t : Int32} {S : St} (p : PV M h t S) : (mR M (h + 1) 5 = h + 7 ∨ 131 ≤ mR M (h + 1) 5) ∧ (mR M (h + 1) 6 = h + 8 ∨ 131 ≤ mR M (h + 1) 6) ∧ (mR M (h + 1) 7 = h + 9 ∨ 131 ≤ mR M (h + 1) 7) := by
  obtain ⟨d5, d6, d7, len, K, fr, us, ow, p, _⟩ := p
  obtain ⟨⟨w5, w6, w7⟩, _, _, x⟩ := p.1
  rw [w5, w6, w7]
  exact ⟨x.1, x.2.1, x.2.2.1⟩
theorem HV.frP {M M' : Mem} {h X Y N : Nat} {t : Int32} {Q : Nat → Int32} {S S' : St} {pb pt : List Row4} (p : HV M h X Y t N Q S pb pt) (f : FrP M M' h) (q' : CS M' h) (p' : PV M' h t S') (r' : Rm M' h X Y) (hr : ∀ k i, k ≠ 16 → xR S' k i = xR S k i) (hW : xW S' = xW S) (hE : xE S' = xE S) (hT : xT S' = xT S) : HV M' h X Y t N Q S' pb pt := by
  obtain ⟨q, p, hp, rm, ⟨lb, lt⟩, hN, hQ⟩ := p
  have ds := p.ds
  have hq := q.2.2.2.2
  have oI : ∀ o, o < 131 → ¬ (h + 1 ≤ o ∧ o ≤ h + 9) → ∀ b, mI M' o b = mI M o b := fun o h1 h2 b => f.2.2.2.1 o (by omega) (by omega) (by omega) (by omega) (by omega) b
  refine ⟨q', p', hp.cg (fun o ho => oI o (by omega) (by omega)) hr hW, r', ⟨?_, ?_⟩, ?_, fun v hv => ?_⟩
  · rw [hE]; exact lb.cg (oI _ (by omega) (by omega)) (oI _ (by omega) (by omega))
  · rw [hT]; exact lt.cg (oI _ (by omega) (by omega)) (oI _ (by omega) (by omega))
  · rw [oI 1 (by decide) (by omega)]; exact hN
  · rw [oI _ (by omega) (by omega)]; exact hQ v hv
theorem HV.put {M : Mem} {h X Y N : Nat} {t : Int32} {Q : Nat → Int32} {S : St} {pb pt : List Row4} (p : HV M h X Y t N Q S pb pt) (hl : (fl S).length < 9000) {k f g : Nat} {s : Int32} (hk : k < 6) (hf : f < 16) (hg : g < 16) : ∃ M', f_X5_put (h + 1) (nI k) (nI f) (nI g) s M = some M' ∧ HV M' h X Y t N Q (sn t k f g s S) pb pt ∧ FrH M M' h := by
  obtain ⟨M', e, q', p', r', f'⟩ := p.2.1.put (s := s) p.1 p.2.2.2.1 hl hk hf hg
  refine ⟨M', e, p.frP f' q' p' r' (fun k' i n => ?_) rfl rfl rfl, f'.toH⟩
  unfold sn
  rw [xR_uL, xR_uR, if_neg (fun z => n z.1)]
theorem HV.take {M : Mem} {h X Y N : Nat} {t : Int32} {Q : Nat → Int32} {S : St} {pb pt : List Row4} (p : HV M h X Y t N Q S pb pt) {f g : Nat} {x : Ltr} {r : List Ltr} (hf : f < 16) (hg : g < 16) (hx : xL S (16 * f + g) = x :: r) : ∃ M', f_X5_takeFirst (h + 1) (nI f) (nI g) M = some (encC x, M') ∧ HV M' h X Y t N Q (uL S (16 * f + g) r) pb pt ∧ FrH M M' h := by
  obtain ⟨M', e, q', p', r', f'⟩ := p.2.1.take p.1 p.2.2.2.1 hf hg hx
  exact ⟨M', e, p.frP f' q' p' r' (fun k' i n => rfl) rfl rfl rfl, f'.toH⟩
/-! ===== the class: a grant ===== -/
theorem PV.fr {M M' : Mem} {h : Nat} {t : Int32} {S S' : St} (q : CS M h) (p : PV M h t S) (e : M'.1 = M.1) (hI : ∀ o, ¬ (o = h ∨ (h + 11 ≤ o ∧ o < h + 49)) → ∀ b, mI M' o b = mI M o b) (hL : xL S' = xL S) (h16 : xR S' 16 = xR S 16) : PV M' h t S' := by
  obtain ⟨d5, d6, d7, len, K, fr, us, ow, p, hK⟩ := p
  have w := p.1
  have x := w.2.2.2
  have hq := q.2.2.2.2
  have hl := p.2.2.2.2.2.2.2.2.2.1
  refine ⟨d5, d6, d7, len, K, fr, us, ow, ?_, fun l hl => by rw [hL]; exact hK l hl⟩
  rw [h16]
  exact p.cg (w.e e) (Nat.le_refl _) (by omega) (fun i _ _ b => hI _ (by omega) b) (fun b _ => hI _ (by omega) b) (fun b _ => hI _ (by omega) b) (fun b _ => hI _ (by omega) b)
/-- places and the hall's own numbers alone are set -/
theorem HV.at {M M' : Mem} {h X Y N : Nat} {t : Int32} {Q : Nat → Int32} {S S' : St} {pb pt : List Row4} (p : HV M h X Y t N Q S pb pt) (e : M'.1 = M.1) (hI : ∀ o, ¬ (o = h ∨ (h + 17 ≤ o ∧ o < h + 49)) → ∀ b, mI M' o b = mI M o b) (hp : HP M' h S') (hL : xL S' = xL S) (h16 : xR S' 16 = xR S 16) (hE : xE S' = xE S) (hT : xT S' = xT S) : HV M' h X Y t N Q S' pb pt := by
  obtain ⟨q, p, _, rm, ⟨lb, lt⟩, hN, hQ⟩ := p
  have hq := q.2.2.2.2
  refine ⟨q.e e, p.fr q e (fun o n b => hI o (by omega) b) hL h16, hp, ?_, ⟨?_, ?_⟩, ?_, fun v hv => ?_⟩
  · unfold Rm mN mU mLn mR at rm ⊢
    rw [e]; exact rm
  · rw [hE]; exact lb.cg (hI _ (by omega)) (hI _ (by omega))
  · rw [hT]; exact lt.cg (hI _ (by omega)) (hI _ (by omega))
  · rw [hI 1 (by omega)]; exact hN
  · rw [hI _ (by omega)]; exact hQ v hv
/-- a without the one granted, and its first waiting one granted, before the letter -/
def g1 (a : Nat) (w : Wtr) (r : List Wtr) (S : St) : St := uW (uR (uR (nob a S) 8 a (nI w.1)) 9 a w.2) a r
theorem g1_R (a : Nat) (w : Wtr) (r : List Wtr) (S : St) (k : Nat) : xR (g1 a w r S) k a = if k = 9 then w.2 else if k = 8 then nI w.1 else if k = 10 then 0 else xR S k a := by
  unfold g1 nob
  rw [xR_uW, xR_uR, xR_uR, xR_uR, xR_uR, xR_uR]
  by_cases c9 : k = 9
  · rw [if_pos ⟨c9, rfl⟩, if_pos c9]
  · rw [if_neg (fun z => c9 z.1), if_neg c9]
    by_cases c8 : k = 8
    · rw [if_pos ⟨c8, rfl⟩, if_pos c8]
    · rw [if_neg (fun z => c8 z.1), if_neg c8]
      by_cases c10 : k = 10
      · rw [if_pos ⟨c10, rfl⟩, if_pos c10]
      · rw [if_neg (fun z => c10 z.1), if_neg c10, if_neg (fun z => c9 z.1), if_neg (fun z => c8 z.1)]
theorem g1_Ro (a : Nat) (w : Wtr) (r : List Wtr) (S : St) (k i : Nat) (n : i ≠ a) : xR (g1 a w r S) k i = xR S k i := by
  unfold g1 nob
  rw [xR_uW, xR_uR, xR_uR, xR_uR, xR_uR, xR_uR, if_neg (fun z => n z.2), if_neg (fun z => n z.2), if_neg (fun z => n z.2), if_neg (fun z => n z.2), if_neg (fun z => n z.2)]
theorem g1_Rk (a : Nat) (w : Wtr) (r : List Wtr) (S : St) (k : Nat) (h : k ≠ 8 ∧ k ≠ 9 ∧ k ≠ 10) : xR (g1 a w r S) k = xR S k := by
  funext i
  by_cases n : i = a
  · rw [n, g1_R, if_neg h.2.1, if_neg h.1, if_neg h.2.2]
  · exact g1_Ro a w r S k i n
set_option maxHeartbeats 1000000 in
theorem HV.grant {M : Mem} {h X Y N A n : Nat} {t : Int32} {Q : Nat → Int32} {S : St} {pb pt : List Row4} (p : HV M h X Y t N Q S pb pt) (hl : (fl S).length < 9000) {a : Nat} (ha : a < 16) (hw : Wok N A (xW S a)) (h16 : N ≤ 16) (hn : 17 ≤ n) {w : Wtr} {r : List Wtr} (hx : xW S a = w :: r) : ∃ M', f_X2_grantFirst n h (nI a) M = some M' ∧ HV M' h X Y t N Q (gF t a S) pb pt ∧ FrH M M' h := by
  obtain ⟨q, pv, hp, rm, lg, hN, hQ⟩ := id p
  have hq := q.2.2.2.2
  have wN := (hw.2.2 w (by rw [hx]; simp)).1
  obtain ⟨a1, a2, a3, a4, a5⟩ := hp.1 a ha
  generalize hP : h + 17 + 2 * a = P at *
  generalize hMa : sI M P 9 (bof (mI M P 9) w.1) = Ma
  generalize hMb : sI Ma P 6 (nI w.1) = Mb
  generalize hMc : sI Mb P 7 w.2 = Mc
  generalize hMd : sI Mc P 8 0 = Md
  have sa : Ma.1 = M.1 := by rw [← hMa]; rfl
  have sb : Mb.1 = M.1 := by rw [← hMb]; exact sa
  have sc : Mc.1 = M.1 := by rw [← hMc]; exact sb
  have sd : Md.1 = M.1 := by rw [← hMd]; exact sc
  have od : ∀ o, o ≠ P → ∀ b, mI Md o b = mI M o b := fun o n b => by rw [← hMd, mI_o _ _ _ _ _ n, ← hMc, mI_o _ _ _ _ _ n, ← hMb, mI_o _ _ _ _ _ n, ← hMa, mI_o _ _ _ _ _ n]
  have ob : ∀ o, o ≠ P → ∀ b, mI Mb o b = mI M o b := fun o n b => by rw [← hMb, mI_o _ _ _ _ _ n, ← hMa, mI_o _ _ _ _ _ n]
  have d8 : mI Md P 8 = 0 := by rw [← hMd, mI_s]
  have d7 : mI Md P 7 = w.2 := by rw [← hMd, mI_n _ _ _ _ (by decide), ← hMc, mI_s]
  have d6 : mI Md P 6 = nI w.1 := by rw [← hMd, mI_n _ _ _ _ (by decide), ← hMc, mI_n _ _ _ _ (by decide), ← hMb, mI_s]
  have d9 : mI Md P 9 = bof (mI M P 9) w.1 := by rw [← hMd, mI_n _ _ _ _ (by decide), ← hMc, mI_n _ _ _ _ (by decide), ← hMb, mI_n _ _ _ _ (by decide), ← hMa, mI_s]
  have dn : ∀ b, b ≠ 6 → b ≠ 7 → b ≠ 8 → b ≠ 9 → mI Md P b = mI M P b := fun b n6 n7 n8 n9 => by rw [← hMd, mI_n _ _ _ _ n8, ← hMc, mI_n _ _ _ _ n7, ← hMb, mI_n _ _ _ _ n6, ← hMa, mI_n _ _ _ _ n9]
  have hpd : HP Md h (g1 a w r S) := by
    refine hp.at (v := a) ⟨fun p hp => ?_, ?_, fun z => ?_, fun u hu => ?_, fun w' hw' => ?_⟩ (fun o _ n _ b => od o (by rw [← hP]; exact n) b) (fun k i n _ _ _ => g1_Ro a w r S k i n) (by rw [g1_Rk _ _ _ _ _ (by decide)]) (by rw [g1_Rk _ _ _ _ _ (by decide)]) (g1_Rk _ _ _ _ _ (by decide)) (fun b n => ?_)
    · have lim : ∀ p, p ∈ ft → p.1 ≠ 7 ∧ p.1 ≠ 9 ∧ p.2 ≠ 9 ∧ (p.1 = 6 ↔ p.2 = 8) ∧ (p.1 = 8 ↔ p.2 = 10) := by decide
      obtain ⟨l7, l9, k9, l6, l8⟩ := lim p hp
      rw [hP, g1_R, if_neg k9]
      by_cases c6 : p.1 = 6
      · rw [c6, d6, if_pos (l6.mp c6)]
      · rw [if_neg (fun z => c6 (l6.mpr z))]
        by_cases c8 : p.1 = 8
        · rw [c8, d8, if_pos (l8.mp c8)]
        · rw [if_neg (fun z => c8 (l8.mpr z)), dn _ c6 l7 c8 l9]
          exact a1 p hp
    · have e8 : xR (g1 a w r S) 8 a = nI w.1 := by rw [g1_R, if_neg (by decide), if_pos rfl]
      have e9 : xR (g1 a w r S) 9 a = w.2 := by rw [g1_R, if_pos rfl]
      rw [hP, d7, e8, e9, if_neg (nI_m1 (by omega))]
    · rw [hP, dn _ (by decide) (by decide) (by decide) (by decide), g1_Rk _ _ _ _ _ (by decide)]
      exact a3 (by rw [g1_Rk _ _ _ _ _ (by decide)] at z; exact z)
    · rw [hP, d9, bt_off _ (by omega) hu, a4 u hu, hx]
      have nd := hw.2.1
      rw [hx, List.map_cons] at nd
      obtain ⟨n1, n2⟩ := List.nodup_cons.mp nd
      show _ = decide (u ∈ (xW (uW _ a r) a).map Prod.fst)
      rw [xW_uW, if_pos rfl, List.map_cons]
      by_cases c : u = w.1
      · rw [c, decide_eq_false n1]; simp
      · simp [c]
    · have hw2 : w' ∈ r := by
        have z : xW (g1 a w r S) a = r := by unfold g1; rw [xW_uW, if_pos rfl]
        rwa [z] at hw'
      rw [od _ (by omega)]
      exact a5 w' (by rw [hx]; exact List.mem_cons_of_mem _ hw2)
    · unfold g1 nob
      rw [xW_uW, if_neg n]; rfl
  have vd : HV Md h X Y t N Q (g1 a w r S) pb pt := p.at sd (fun o n b => od o (by omega) b) hpd rfl (g1_Rk _ _ _ _ _ (by decide)) rfl rfl
  have frd : FrH M Md h := FrH.of sd (fun o n b => od o (by omega) b) (fun o b => by rw [← hMd, ← hMc, ← hMb, ← hMa]; rfl)
  obtain ⟨M', e', v', f'⟩ := vd.put (k := 1) (f := a) (g := w.1) (s := w.2) hl (by decide) ha (by omega)
  refine ⟨M', ?_, ?_, frd.tr f'⟩
  · have qb := q.e sb
    have qd := q.e sd
    have fw := hp.fw q ha hw h16 hn
    have po := fun x : Option Mem => cs_po q ha x
    have rb := cs_pr qb ha
    rw [hP] at fw po rb
    have hh : hdW (xW S a) = nI w.1 := by rw [hx]; rfl
    have hm : mI Mb (h + 18 + 2 * a) w.1 = w.2 := by rw [ob _ (by omega)]; exact a5 w (by rw [hx]; simp)
    rw [f_X2_grantFirst, cs_f q, cs_h2 q, bnd_e, cs_a10 q, cs_i10 q ha, cs_rpc q ha, bnd_e, hP, po, fw, obd_s, hh, if_neg (nI_m1 (by omega)), show (mI M P 9 &&& (((1 : Int32) <<< (nI w.1 &&& 31)) ^^^ (-1 : Int32))) = bof (mI M P 9) w.1 from rfl, hMa, bnd_e, hMb, bnd_e, rb, bnd_e, cs_pa qb ha, cs_pi qb ha (by omega), mI_c (by omega), hm, hMc, bnd_e, chk_t (Or.inl rfl), hMd, bnd_e, cs_h1 qd, bnd_e, cs_p qd, d7]
    rw [show f_X5_put (h + 1) 1 (nI a) (nI w.1) w.2 Md = some M' from e', obd_s]
  · unfold gF
    rw [hx]
    exact v'
