/-! ===== the class: entering ===== -/
/-- a row of the book or the trace is told to the class's log -/
theorem cs_h3 {M : Mem} {h : Nat} (q : CS M h) : mR M h 3 = h + 11 := q.r (a := 0) (b := 3) (c := 11) (by decide)
theorem cs_h4 {M : Mem} {h : Nat} (q : CS M h) : mR M h 4 = h + 13 := q.r (a := 0) (b := 4) (c := 13) (by decide)
theorem cs_e11 {M : Mem} {h : Nat} (q : CS M h) : isO M 3 (h + 11) ∧ mR M (h + 11) 1 = h + 11 + 1 ∧ isO M 100 (h + 11 + 1) ∧ mLn M (h + 11 + 1) = 4 * 30 :=
  ⟨q.io (by decide) (by decide) (by decide), q.r (a := 11) (b := 1) (c := 12) (by decide), q.io (i := 12) (by decide) (by decide) (by decide), q.ln (i := 12) (by decide) (by decide) (by decide)⟩
theorem cs_e13 {M : Mem} {h : Nat} (q : CS M h) : isO M 3 (h + 13) ∧ mR M (h + 13) 1 = h + 13 + 1 ∧ isO M 100 (h + 13 + 1) ∧ mLn M (h + 13 + 1) = 4 * 40 :=
  ⟨q.io (by decide) (by decide) (by decide), q.r (a := 13) (b := 1) (c := 14) (by decide), q.io (i := 14) (by decide) (by decide) (by decide), q.ln (i := 14) (by decide) (by decide) (by decide)⟩
theorem HV.lgE {M : Mem} {h X Y N : Nat} {t : Int32} {Q : Nat → Int32} {S : St} {pb pt : List Row4} (p : HV M h X Y t N Q S pb pt) (a b c d : Int32) : ∃ M', f_X3_add (h + 11) a b c d M = some M' ∧ HV M' h X Y t N Q (uE S (a, b, c, d)) pb pt ∧ FrH M M' h := by
  obtain ⟨q, pv, hp, rm, ⟨lb, lt⟩, hN, hQ⟩ := p
  obtain ⟨i1, r1, i2, n2⟩ := cs_e11 q
  obtain ⟨M', e, l', s, sL, o⟩ := f_add (Or.inl rfl) i1 r1 i2 n2 lb a b c d
  have hI : ∀ o', o' ≠ h + 11 → o' ≠ h + 12 → ∀ b, mI M' o' b = mI M o' b := fun o' n1 n2 b => o o' n1 n2 b
  refine ⟨M', e, ⟨q.e s, pv.fr q s (fun o' n b => hI o' (by omega) (by omega) b) rfl rfl, hp.cg (fun o' n b => hI o' (by omega) (by omega) b) (fun _ _ _ => rfl) rfl, ?_, ⟨?_, ?_⟩, ?_, fun v hv => ?_⟩, FrH.of s (fun o' n b => hI o' (by omega) (by omega) b) sL⟩
  · unfold Rm mN mU mLn mR at rm ⊢
    rw [s]; exact rm
  · show LG M' (h + 11) 30 (pb ++ (xE S ++ [(a, b, c, d)]))
    rw [← List.append_assoc]; exact l'
  · exact lt.cg (hI _ (by omega) (by omega)) (hI _ (by omega) (by omega))
  · have := q.2.2.2.2
    rw [hI 1 (by omega) (by omega)]; exact hN
  · rw [hI _ (by omega) (by omega)]; exact hQ v hv
theorem HV.lgT {M : Mem} {h X Y N : Nat} {t : Int32} {Q : Nat → Int32} {S : St} {pb pt : List Row4} (p : HV M h X Y t N Q S pb pt) (a b c d : Int32) : ∃ M', f_X3_add (h + 13) a b c d M = some M' ∧ HV M' h X Y t N Q (uT S (a, b, c, d)) pb pt ∧ FrH M M' h := by
  obtain ⟨q, pv, hp, rm, ⟨lb, lt⟩, hN, hQ⟩ := p
  obtain ⟨i1, r1, i2, n2⟩ := cs_e13 q
  obtain ⟨M', e, l', s, sL, o⟩ := f_add (Or.inr rfl) i1 r1 i2 n2 lt a b c d
  have hI : ∀ o', o' ≠ h + 13 → o' ≠ h + 14 → ∀ b, mI M' o' b = mI M o' b := fun o' n1 n2 b => o o' n1 n2 b
  refine ⟨M', e, ⟨q.e s, pv.fr q s (fun o' n b => hI o' (by omega) (by omega) b) rfl rfl, hp.cg (fun o' n b => hI o' (by omega) (by omega) b) (fun _ _ _ => rfl) rfl, ?_, ⟨?_, ?_⟩, ?_, fun v hv => ?_⟩, FrH.of s (fun o' n b => hI o' (by omega) (by omega) b) sL⟩
  · unfold Rm mN mU mLn mR at rm ⊢
    rw [s]; exact rm
  · exact lb.cg (hI _ (by omega) (by omega)) (hI _ (by omega) (by omega))
  · show LG M' (h + 13) 40 (pt ++ (xT S ++ [(a, b, c, d)]))
    rw [← List.append_assoc]; exact l'
  · have := q.2.2.2.2
    rw [hI 1 (by omega) (by omega)]; exact hN
  · rw [hI _ (by omega) (by omega)]; exact hQ v hv
theorem ovr_c {N v : Nat} {S S' : St} (h0 : ∀ w, xR S' 0 w = xR S 0 w) (h2 : ∀ w, xR S' 2 w = xR S 2 w) : ovr N v S' = ovr N v S := by
  unfold ovr
  simp only [h0, h2]
theorem pcI_c {N : Nat} {S S' : St} (h0 : ∀ w, xR S' 0 w = xR S 0 w) : pcI N S' = pcI N S := by
  unfold pcI
  simp only [h0]
def mxI (a b : Int32) : Int32 := if a < b then b else a
theorem mx_le (S : St) (k i : Nat) (x : Int32) : (if x ≤ xR S k i then S else uR S k i x) = uR S k i (mxI (xR S k i) x) := by
  unfold mxI
  by_cases c : xR S k i < x
  · rw [if_pos c, if_neg (Int32.not_le.mpr c)]
  · rw [if_neg c, if_pos (Int32.not_lt.mp c), uR_id]
theorem uR_uE (S : St) (k i : Nat) (x : Int32) (r : Row4) : uR (uE S r) k i x = uE (uR S k i x) r := rfl
/-- the model's entering, in the order in which the class writes it -/
def enC (t : Int32) (N v : Nat) (S : St) : St :=
  let S1 := uR (uR S 5 v 0) 0 v 2
  let S2 := uR (uR (uR S1 21 v t) 12 v (xR S 12 v + 1)) 15 0 (xR S 15 0 + 1)
  let S3 := uR S2 15 2 (xR S 15 2 + (if pcI N S1 ≤ 1 then 0 else 1))
  let S4 := uR S3 15 5 (xR S 15 5 + (if ovr N v S1 then 1 else 0))
  let x := xR S 15 1 - xR S 13 v
  let S5 := uR (uR S4 15 4 (mxI (xR S 15 4) x)) 15 3 (mxI (xR S 15 3) (xR S 14 v))
  uE S5 (nI v, xR S 2 v, x, xR S 14 v)
theorem en_ch (S : St) (v : Nat) (m0 m12 m2 m3 m4 m5 t : Int32) : uR (uR (uR (uR (uR (uR (uR (uR (uR S 0 v 2) 5 v 0) 15 0 m0) 12 v m12) 15 4 m4) 15 3 m3) 15 2 m2) 15 5 m5) 21 v t = uR (uR (uR (uR (uR (uR (uR (uR (uR S 5 v 0) 0 v 2) 21 v t) 12 v m12) 15 0 m0) 15 2 m2) 15 5 m5) 15 4 m4) 15 3 m3 := by
  have c : ∀ (S : St) {k i k' i' : Nat} (x y : Int32), ¬ (k = k' ∧ i = i') → uR (uR S k i x) k' i' y = uR (uR S k' i' y) k i x := fun S _ _ _ _ x y h => uR_cm S x y h
  rw [c _ (k := 15) (i := 5) (k' := 21) (i' := v) m5 t (by omega), c _ (k := 15) (i := 2) (k' := 21) (i' := v) m2 t (by omega), c _ (k := 15) (i := 3) (k' := 21) (i' := v) m3 t (by omega), c _ (k := 15) (i := 4) (k' := 21) (i' := v) m4 t (by omega), c _ (k := 12) (i := v) (k' := 21) (i' := v) m12 t (by omega), c _ (k := 15) (i := 0) (k' := 21) (i' := v) m0 t (by omega), c _ (k := 0) (i := v) (k' := 5) (i' := v) 2 0 (by omega), c _ (k := 15) (i := 0) (k' := 12) (i' := v) m0 m12 (by omega), c _ (k := 15) (i := 3) (k' := 15) (i' := 2) m3 m2 (by omega), c _ (k := 15) (i := 4) (k' := 15) (i' := 2) m4 m2 (by omega), c _ (k := 15) (i := 3) (k' := 15) (i' := 5) m3 m5 (by omega), c _ (k := 15) (i := 4) (k' := 15) (i' := 5) m4 m5 (by omega)]
def st2 (N : Nat) (S : St) : St := if pcI N S ≤ 1 then S else uR S 15 2 (xR S 15 2 + 1)
def st5 (N v : Nat) (S : St) : St := uR S 15 5 (xR S 15 5 + (if ovr N v S then 1 else 0))
theorem st2_e {N k : Nat} {S : St} (h : pcI N S = k) : st2 N S = uR S 15 2 (xR S 15 2 + (if k ≤ 1 then 0 else 1)) := by
  unfold st2
  rw [h]
  by_cases c : k ≤ 1
  · rw [if_pos c, if_pos c, Int32.add_zero, uR_id]
  · rw [if_neg c, if_neg c]
theorem st5_e {N v : Nat} {b : Bool} {S : St} (h : ovr N v S = b) : st5 N v S = uR S 15 5 (xR S 15 5 + (if b then 1 else 0)) := by
  unfold st5
  rw [h]
def enG (t : Int32) (N v : Nat) (x y : Int32) (S : St) : St := uR (uE (st5 N v (st2 N S)) (nI v, xR (st5 N v (st2 N S)) 2 v, x, y)) 21 v t
def enA (v : Nat) (S : St) : St := uR (uR (uR (uR S 0 v 2) 5 v 0) 15 0 (xR S 15 0 + 1)) 12 v (xR S 12 v + 1)
def enM (v : Nat) (x y : Int32) (S : St) : St := if y ≤ xR S 15 3 then (if x ≤ xR S 15 4 then enA v S else uR (enA v S) 15 4 x) else uR (if x ≤ xR S 15 4 then enA v S else uR (enA v S) 15 4 x) 15 3 y
theorem en_f (t : Int32) (N v : Nat) (S : St) : en t N v S = enG t N v (xR S 15 1 - xR S 13 v) (xR S 14 v) (enM v (xR S 15 1 - xR S 13 v) (xR S 14 v) S) := rfl
theorem enM_e (v : Nat) (x y : Int32) (S : St) : enM v x y S = uR (uR (enA v S) 15 4 (mxI (xR S 15 4) x)) 15 3 (mxI (xR S 15 3) y) := by
  have a154 : xR (enA v S) 15 4 = xR S 15 4 := by unfold enA; simp [xR_uR]
  have a153 : ∀ z, xR (uR (enA v S) 15 4 z) 15 3 = xR S 15 3 := fun z => by unfold enA; simp [xR_uR]
  have e1 : (if x ≤ xR S 15 4 then enA v S else uR (enA v S) 15 4 x) = uR (enA v S) 15 4 (mxI (xR S 15 4) x) := by
    have := mx_le (enA v S) 15 4 x
    rwa [a154] at this
  unfold enM
  rw [e1]
  have := mx_le (uR (enA v S) 15 4 (mxI (xR S 15 4) x)) 15 3 y
  rwa [a153] at this
theorem enC_e (t : Int32) (N v : Nat) (S : St) : en t N v S = enC t N v S := by
  rw [en_f, enM_e]
  unfold enC
  simp only []
  generalize hS1 : uR (uR S 5 v 0) 0 v 2 = S1
  generalize hx : xR S 15 1 - xR S 13 v = x
  generalize hy : xR S 14 v = y
  generalize mxI (xR S 15 4) x = m4
  generalize mxI (xR S 15 3) y = m3
  have k0 : ∀ w, xR S1 0 w = if w = v then 2 else xR S 0 w := fun w => by
    rw [← hS1, xR_uR, xR_uR]
    by_cases c : w = v
    · rw [if_pos ⟨rfl, c⟩, if_pos c]
    · rw [if_neg (fun z => c z.2), if_neg (fun z => by have := z.1; omega), if_neg c]
  have k2 : ∀ w, xR S1 2 w = xR S 2 w := fun w => by
    rw [← hS1, xR_uR, if_neg (fun z => by have := z.1; omega), xR_uR, if_neg (fun z => by have := z.1; omega)]
  generalize hB : uR (uR (enA v S) 15 4 m4) 15 3 m3 = B
  have b0 : ∀ w, xR B 0 w = xR S1 0 w := fun w => by
    rw [k0, ← hB, xR_uR, if_neg (fun z => by have := z.1; omega), xR_uR, if_neg (fun z => by have := z.1; omega)]
    unfold enA
    rw [xR_uR, if_neg (fun z => by have := z.1; omega), xR_uR, if_neg (fun z => by have := z.1; omega), xR_uR, if_neg (fun z => by have := z.1; omega), xR_uR]
    by_cases c : w = v
    · rw [if_pos ⟨rfl, c⟩, if_pos c]
    · rw [if_neg (fun z => c z.2), if_neg c]
  have b2 : ∀ w, xR B 2 w = xR S1 2 w := fun w => by
    rw [k2, ← hB, xR_uR, if_neg (fun z => by have := z.1; omega), xR_uR, if_neg (fun z => by have := z.1; omega)]
    unfold enA
    rw [xR_uR, if_neg (fun z => by have := z.1; omega), xR_uR, if_neg (fun z => by have := z.1; omega), xR_uR, if_neg (fun z => by have := z.1; omega), xR_uR, if_neg (fun z => by have := z.1; omega)]
  have b15 : ∀ j, j ≠ 3 → j ≠ 4 → j ≠ 0 → xR B 15 j = xR S 15 j := fun j n3 n4 n0 => by
    rw [← hB, xR_uR, if_neg (fun z => n3 z.2), xR_uR, if_neg (fun z => n4 z.2)]
    unfold enA
    rw [xR_uR, if_neg (fun z => by have := z.1; omega), xR_uR, if_neg (fun z => n0 z.2), xR_uR, if_neg (fun z => by have := z.1; omega), xR_uR, if_neg (fun z => by have := z.1; omega)]
  have hp : pcI N B = pcI N S1 := pcI_c b0
  generalize pcI N S1 = pk at hp
  have f2 := st2_e hp
  rw [b15 2 (by decide) (by decide) (by decide)] at f2
  generalize xR S 15 2 + (if pk ≤ 1 then 0 else 1) = m2 at f2
  have c0 : ∀ w, xR (uR B 15 2 m2) 0 w = xR S1 0 w := fun w => by
    rw [xR_uR, if_neg (fun z => by have := z.1; omega), b0]
  have c2 : ∀ w, xR (uR B 15 2 m2) 2 w = xR S1 2 w := fun w => by
    rw [xR_uR, if_neg (fun z => by have := z.1; omega), b2]
  have ho : ovr N v (uR B 15 2 m2) = ovr N v S1 := ovr_c c0 c2
  generalize ovr N v S1 = ob at ho
  have f5 := st5_e ho
  rw [xR_uR, if_neg (fun z => by have := z.2; omega), b15 5 (by decide) (by decide) (by decide)] at f5
  generalize xR S 15 5 + (if ob = true then 1 else 0) = m5 at f5
  unfold enG
  rw [f2, f5, uR_uE, xR_uR, if_neg (fun z => by have := z.1; omega), c2, k2]
  have e4 : ∀ Z Z' r, Z = Z' → uE Z r = uE Z' r := fun Z Z' r z => by rw [z]
  refine e4 _ _ _ ?_
  rw [← hB, ← hS1]
  exact en_ch S v _ _ m2 m3 m4 m5 t
set_option maxHeartbeats 2000000 in
theorem HV.en {M : Mem} {h X Y N n : Nat} {t : Int32} {Q : Nat → Int32} {S : St} {pb pt : List Row4} (p : HV M h X Y t N Q S pb pt) (h16 : N ≤ 16) {v : Nat} (hv : v < 16) (h1 : xR S 0 v = 1) (hI : ∀ w, N ≤ w → w < 16 → xR S 0 w ≠ 2) (hvN : v < N) (hn : 17 ≤ n) : ∃ M', f_X2_enter n h (nI v) M = some M' ∧ HV M' h X Y t N Q (en t N v S) pb pt ∧ FrH M M' h := by
  have q := p.1
  rw [enC_e]
  obtain ⟨p1, f1⟩ := p.fld (a := 4) (k := 5) (x := 0) hv (by decide) (by decide)
  generalize hMa : sI M (h + 17 + 2 * v) 4 0 = Ma at p1 f1
  generalize hMb : sI Ma h 8 (bof (mI Ma h 8) v) = Mb
  generalize hMc : sI Mb h 7 (bon (mI Mb h 7) v) = Mc
  have sb : Mb.1 = Ma.1 := by rw [← hMb]; rfl
  have sc : Mc.1 = Ma.1 := by rw [← hMc]; exact sb
  have oc : ∀ o, o ≠ h → ∀ b, mI Mc o b = mI Ma o b := fun o n b => by rw [← hMc, mI_o _ _ _ _ _ n, ← hMb, mI_o _ _ _ _ _ n]
  obtain ⟨_, g7, g8, _⟩ := id p1.2.2.1
  have hpc : HP Mc h (uR (uR S 5 v 0) 0 v 2) := by
    refine p1.2.2.1.stt (fun u hu => ?_) (fun u hu => ?_) oc (fun b n7 n8 => by rw [← hMc, mI_n _ _ _ _ n7, ← hMb, mI_n _ _ _ _ n8]) (fun z => absurd z (by decide))
    · rw [← hMc, mI_s, bt_on _ (by omega) hu, ← hMb, mI_n _ _ _ _ (by decide), g7 u hu]
      by_cases c : u = v
      · rw [if_pos c]; simp [c, hv]
      · rw [if_neg c]; simp [c]
    · rw [← hMc, mI_n _ _ _ _ (by decide), ← hMb, mI_s, bt_off _ (by omega) hu, g8 u hu]
      by_cases c : u = v
      · rw [if_pos c]; simp [c]
      · rw [if_neg c]; simp [c]
  have p2 : HV Mc h X Y t N Q (uR (uR S 5 v 0) 0 v 2) pb pt := p1.at sc (fun o n b => oc o (fun z => n (Or.inl z)) b) hpc rfl (by funext i; rw [xR_uR, if_neg (fun z => by have := z.1; omega)]) rfl rfl
  have f2 : FrH Ma Mc h := FrH.of sc (fun o n b => oc o (fun z => n (by omega)) b) (fun o b => by rw [← hMc, ← hMb]; rfl)
  generalize hS1 : uR (uR S 5 v 0) 0 v 2 = S1 at p2
  have k0 : ∀ w, xR S1 0 w = if w = v then 2 else xR S 0 w := fun w => by
    rw [← hS1, xR_uR, xR_uR]
    by_cases c : w = v
    · rw [if_pos ⟨rfl, c⟩, if_pos c]
    · rw [if_neg (fun z => c z.2), if_neg (fun z => by have := z.1; omega), if_neg c]
  have kk : ∀ k i, k ≠ 0 → k ≠ 5 → xR S1 k i = xR S k i := fun k i n0 n5 => by
    rw [← hS1, xR_uR, if_neg (fun z => n0 z.1), xR_uR, if_neg (fun z => n5 z.1)]
  obtain ⟨p3, f3⟩ := p2.fld (a := 15) (k := 21) (x := t) hv (by decide) (by decide)
  generalize hMd : sI Mc (h + 17 + 2 * v) 15 t = Md at p3 f3
  have d11 := p3.fs hv (a := 11) (k := 12) (by decide)
  rw [xR_uR, if_neg (by omega), kk 12 _ (by decide) (by decide)] at d11
  obtain ⟨p4, f4⟩ := p3.fld (a := 11) (k := 12) (x := xR S 12 v + 1) hv (by decide) (by decide)
  generalize hMe : sI Md (h + 17 + 2 * v) 11 (xR S 12 v + 1) = Me at p4 f4
  have e11 := p4.gs (b := 11) (j := 0) (by decide)
  rw [xR_uR, if_neg (by omega), xR_uR, if_neg (by omega), kk 15 _ (by decide) (by decide)] at e11
  obtain ⟨p5, f5⟩ := p4.gw (b := 11) (j := 0) (by decide) (xR S 15 0 + 1)
  generalize hMf : sI Me h 11 (xR S 15 0 + 1) = Mf at p5 f5
  generalize hS2 : uR (uR (uR S1 21 v t) 12 v (xR S 12 v + 1)) 15 0 (xR S 15 0 + 1) = S2 at p5
  have m0 : ∀ w, xR S2 0 w = xR S1 0 w := fun w => by
    rw [← hS2, xR_uR, if_neg (by omega), xR_uR, if_neg (by omega), xR_uR, if_neg (by omega)]
  have m2 : ∀ w, xR S2 2 w = xR S1 2 w := fun w => by
    rw [← hS2, xR_uR, if_neg (by omega), xR_uR, if_neg (by omega), xR_uR, if_neg (by omega)]
  have m15 : ∀ j, j ≠ 0 → xR S2 15 j = xR S 15 j := fun j nj => by
    rw [← hS2, xR_uR, if_neg (by omega), xR_uR, if_neg (by omega), xR_uR, if_neg (by omega), kk _ _ (by decide) (by decide)]
  have m13 : xR S2 13 v = xR S 13 v := by
    rw [← hS2, xR_uR, if_neg (by omega), xR_uR, if_neg (by omega), xR_uR, if_neg (by omega), kk _ _ (by decide) (by decide)]
  have b7 := p5.2.2.1.2.1
  have er := f_bcx (x := mI Mf h 7) (fun i hi1 hi2 => by rw [b7 i hi2]; simp; omega) Mf
  have hpc2 : pc (mI Mf h 7) = pcI N S1 := by
    rw [pc_mask (N := N) (S := S2) (fun w hw => ?_), pcI_c m0]
    rw [b7 w hw]
    by_cases c : w < N
    · have : w < 16 := by omega
      simp [c, this]
    · by_cases c2 : w < 16
      · have nv : w ≠ v := by omega
        have := hI w (by omega) c2
        rw [m0, k0, if_neg nv]
        simp [c, this]
      · simp [c, c2]
  rw [hpc2] at er
  have p32 : pcI N S1 ≤ 32 := by rw [← hpc2]; exact pc_le _
  have hr : nI (pcI N S1) < (2 : Int32) ↔ pcI N S1 ≤ 1 := by
    rw [show (2 : Int32) = nI 2 from rfl, nI_ltI (by omega) (by decide)]
    omega
  -- the hall's twice
  have g12 := p5.gs (b := 12) (j := 2) (by decide)
  rw [m15 2 (by decide)] at g12
  have P6 : ∃ Mg, (if nI (pcI N S1) < (2 : Int32) then f_X2_enter_90 n h (nI v) (h + 17 + 2 * v) Mf else bnd (sI Mf h 12 ((mI Mf h 12) + (1 : Int32))) fun M49 => f_X2_enter_90 n h (nI v) (h + 17 + 2 * v) M49) = f_X2_enter_90 n h (nI v) (h + 17 + 2 * v) Mg ∧ HV Mg h X Y t N Q (uR S2 15 2 (xR S 15 2 + (if pcI N S1 ≤ 1 then 0 else 1))) pb pt ∧ FrH Mf Mg h ∧ (∀ o, o ≠ h → ∀ b, mI Mg o b = mI Mf o b) := by
    by_cases c : pcI N S1 ≤ 1
    · rw [if_pos (hr.mpr c), if_pos c, Int32.add_zero, ← m15 2 (by decide), uR_id]
      exact ⟨Mf, rfl, p5, FrH.rf _ _, fun _ _ _ => rfl⟩
    · rw [if_neg (fun z => c (hr.mp z)), if_neg c]
      obtain ⟨p6, f6⟩ := p5.gw (b := 12) (j := 2) (by decide) (xR S 15 2 + 1)
      exact ⟨_, by rw [g12, bnd_e], p6, f6, fun o n b => mI_o _ _ _ _ _ n⟩
  obtain ⟨Mg, e6, p6, f6, og⟩ := P6
  generalize hS3 : uR S2 15 2 (xR S 15 2 + (if pcI N S1 ≤ 1 then 0 else 1)) = S3 at p6
  have n0 : ∀ w, xR S3 0 w = xR S1 0 w := fun w => by rw [← hS3, xR_uR, if_neg (by omega), m0]
  have n2 : ∀ w, xR S3 2 w = xR S1 2 w := fun w => by rw [← hS3, xR_uR, if_neg (by omega), m2]
  have n15 : ∀ j, j ≠ 0 → j ≠ 2 → xR S3 15 j = xR S 15 j := fun j n1 n2 => by rw [← hS3, xR_uR, if_neg (by omega), m15 j n1]
  have n13 : xR S3 13 v = xR S 13 v := by rw [← hS3, xR_uR, if_neg (by omega), m13]
  have ah := p6.ahead h16 hv hn
  rw [ovr_c n0 n2] at ah
  have g13 := p6.gs (b := 13) (j := 5) (by decide)
  rw [n15 5 (by decide) (by decide)] at g13
  have P7 : ∃ Mh, f_X2_enter_90 n h (nI v) (h + 17 + 2 * v) Mg = f_X2_enter_108 n h (nI v) (h + 17 + 2 * v) Mh ∧ HV Mh h X Y t N Q (uR S3 15 5 (xR S 15 5 + (if ovr N v S1 then 1 else 0))) pb pt ∧ FrH Mg Mh h ∧ (∀ o, o ≠ h → ∀ b, mI Mh o b = mI Mg o b) := by
    rw [f_X2_enter_90, cs_f p6.1, ah, obd_s]
    by_cases c : ovr N v S1 = true
    · rw [if_pos c, if_neg ne10]
      obtain ⟨p7, f7⟩ := p6.gw (b := 13) (j := 5) (by decide) (xR S 15 5 + 1)
      exact ⟨_, by rw [g13, bnd_e], p7, f7, fun o n b => mI_o _ _ _ _ _ n⟩
    · rw [if_neg c, if_pos rfl, Int32.add_zero, ← n15 5 (by decide) (by decide), uR_id]
      exact ⟨Mg, rfl, p6, FrH.rf _ _, fun _ _ _ => rfl⟩
  obtain ⟨Mh, e7, p7, f7, oh⟩ := P7
  generalize hS4 : uR S3 15 5 (xR S 15 5 + (if ovr N v S1 then 1 else 0)) = S4 at p7
  have o15 : ∀ j, j ≠ 0 → j ≠ 2 → j ≠ 5 → xR S4 15 j = xR S 15 j := fun j n1 n2 n3 => by rw [← hS4, xR_uR, if_neg (by omega), n15 j n1 n2]
  have o13 : xR S4 13 v = xR S 13 v := by rw [← hS4, xR_uR, if_neg (by omega), n13]
  have o2 : xR S4 2 v = xR S 2 v := by rw [← hS4, xR_uR, if_neg (by omega), n2, kk _ _ (by decide) (by decide)]
  -- the waited, the letters, the log
  generalize hx : xR S 15 1 - xR S 13 v = x
  generalize hy : xR S 14 v = y
  have i10 := p7.gs (b := 10) (j := 1) (by decide)
  rw [o15 1 (by decide) (by decide) (by decide)] at i10
  have i13 := p7.fs hv (a := 13) (k := 13) (by decide)
  rw [o13] at i13
  have i15 := p7.gs (b := 15) (j := 4) (by decide)
  rw [o15 4 (by decide) (by decide) (by decide)] at i15
  obtain ⟨p8, f8⟩ := p7.gw (b := 15) (j := 4) (by decide) (mxI (xR S 15 4) x)
  generalize hMi : sI Mh h 15 (mxI (xR S 15 4) x) = Mi at p8 f8
  have j14 := p8.gs (b := 14) (j := 3) (by decide)
  rw [xR_uR, if_neg (by omega), o15 3 (by decide) (by decide) (by decide)] at j14
  have l14 : mI M (h + 17 + 2 * v) 14 = y := by
    rw [← hy]
    exact (p.2.2.1.1 v hv).2.2.1 h1
  have pl : h + 17 + 2 * v ≠ h := by omega
  have l14h : mI Mh (h + 17 + 2 * v) 14 = y := by
    rw [oh _ pl, og _ pl, ← hMf, mI_o _ _ _ _ _ pl, ← hMe, mI_n _ _ _ _ (by decide), ← hMd, mI_n _ _ _ _ (by decide), oc _ pl, ← hMa, mI_n _ _ _ _ (by decide)]
    exact l14
  have l14i : mI Mi (h + 17 + 2 * v) 14 = y := by rw [← hMi, mI_o _ _ _ _ _ pl]; exact l14h
  obtain ⟨p9, f9⟩ := p8.gw (b := 14) (j := 3) (by decide) (mxI (xR S 15 3) y)
  generalize hMj : sI Mi h 14 (mxI (xR S 15 3) y) = Mj at p9 f9
  have l14j : mI Mj (h + 17 + 2 * v) 14 = y := by rw [← hMj, mI_o _ _ _ _ _ pl]; exact l14i
  have j1 := p9.fs hv (a := 1) (k := 2) (by decide)
  rw [xR_uR, if_neg (by omega), xR_uR, if_neg (by omega), o2] at j1
  obtain ⟨M', e', p', f'⟩ := p9.lgE (nI v) (xR S 2 v) x y
  have end108 : f_X2_enter_108 n h (nI v) (h + 17 + 2 * v) Mh = some M' := by
    rw [f_X2_enter_108, cs_f p7.1, cs_po p7.1 hv, i10, i13, hx, bnd_e, i15, show (if xR S 15 4 < x then x else xR S 15 4) = mxI (xR S 15 4) x from rfl, hMi, bnd_e, j14, l14i, show (if xR S 15 3 < y then y else xR S 15 3) = mxI (xR S 15 3) y from rfl, hMj, bnd_e, cs_h3 p9.1, bnd_e, chk_t (cs_e11 p9.1).1, j1, l14j, e', obd_s]
  refine ⟨M', ?_, ?_, ((((((((f1.tr f2).tr f3).tr f4).tr f5).tr f6).tr f7).tr f8).tr f9).tr f'⟩
  · have q2 := p2.1
    have c8 : mI Mb h 7 = mI Ma h 7 := by rw [← hMb, mI_n _ _ _ _ (by decide)]
    rw [f_X2_enter, cs_f q, cs_h2 q, bnd_e, cs_a10 q, cs_i10 q hv, cs_rpc q hv, bnd_e, cs_po q hv, hMa, bnd_e, show (mI Ma h 8 &&& (((1 : Int32) <<< (nI v &&& 31)) ^^^ (-1 : Int32))) = bof (mI Ma h 8) v from rfl, hMb, bnd_e, show (mI Mb h 7 ||| ((1 : Int32) <<< (nI v &&& 31))) = bon (mI Mb h 7) v from rfl, hMc, bnd_e, cs_h1 q2, bnd_e, cs_p q2, p2.t11, hMd, bnd_e, d11, hMe, bnd_e, e11, hMf, bnd_e, er, obd_s]
    exact e6.trans (e7.trans end108)
  · unfold enC
    simp only []
    rw [hS1, hS2, hS3, hS4, hx, hy]
    exact p'
