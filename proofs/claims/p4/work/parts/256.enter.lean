/-! ===== the class: entering ===== -/
/-- a row of the book or the trace is told to the class's log -/
theorem cs_h3 {M : Mem} {h : Nat} (q : CS M h) : mR M h 3 = h + 11 := q.r (a := 0) (b := 3) (c := 11) (by decide)
theorem cs_h4 {M : Mem} {h : Nat} (q : CS M h) : mR M h 4 = h + 13 := q.r (a := 0) (b := 4) (c := 13) (by decide)
theorem cs_e11 {M : Mem} {h : Nat} (q : CS M h) : isO M 3 (h + 11) ∧ mR M (h + 11) 1 = h + 11 + 1 ∧ isO M 100 (h + 11 + 1) ∧ mLn M (h + 11 + 1) = 4 * 30 :=
  ⟨q.io (by decide) (by decide) (by decide), q.r (a := 11) (b := 1) (c := 12) (by decide), q.io (i := 12) (by decide) (by decide) (by decide), q.ln (i := 12) (by decide) (by decide) (by decide)⟩
theorem cs_e13 {M : Mem} {h : Nat} (q : CS M h) : isO M 3 (h + 13) ∧ mR M (h + 13) 1 = h + 13 + 1 ∧ isO M 100 (h + 13 + 1) ∧ mLn M (h + 13 + 1) = 4 * 40 :=
  ⟨q.io (by decide) (by decide) (by decide), q.r (a := 13) (b := 1) (c := 14) (by decide), q.io (i := 14) (by decide) (by decide) (by decide), q.ln (i := 14) (by decide) (by decide) (by decide)⟩
theorem HV.lgE {M : Mem} {h X Y N : Nat} {t : Int32} {Q : Nat → Int32} {S : St} {pb pt : List Row4} (p : HV M h X Y t N Q S pb pt) (a b c d : Int32) : ∃ M', f_X3_add (h + 11) a b c d M = some M' ∧ HV M' h X Y t N Q (uE S (a, b, c, d)) pb pt ∧ FrH M M' h := by
  obtain ⟨q, pv, hp, rm, ⟨lb, lt⟩, hN, hQ⟩ := p
  obtain ⟨i1, r1, i2, n2⟩ := cs_e11 q
  obtain ⟨M', e, l', s, sL, o⟩ := f_add (Or.inl rfl) i1 r1 i2 n2 lb a b c d
  have hI : ∀ o', o' ≠ h + 11 → o' ≠ h + 12 → ∀ b, mI M' o' b = mI M o' b := fun o' n1 n2 b => o o' n1 n2 b
  refine ⟨M', e, ⟨q.e s, pv.fr q s (fun o' n b => hI o' (by omega) (by omega) b) rfl rfl, hp.cg (fun o' n b => hI o' (by omega) (by omega) b) (fun _ _ _ => rfl) rfl, ?_, ⟨?_, ?_⟩, ?_, fun v hv => ?_⟩, FrH.of s (fun o' n b => hI o' (by omega) (by omega) b) sL⟩
  · unfold Rm mN mU mLn mR at rm ⊢
    rw [s]; exact rm
  · show LG M' (h + 11) 30 (pb ++ (xE S ++ [(a, b, c, d)]))
    rw [← List.append_assoc]; exact l'
  · exact lt.cg (hI _ (by omega) (by omega)) (hI _ (by omega) (by omega))
  · have := q.2.2.2.2
    rw [hI 1 (by omega) (by omega)]; exact hN
  · rw [hI _ (by omega) (by omega)]; exact hQ v hv
theorem HV.lgT {M : Mem} {h X Y N : Nat} {t : Int32} {Q : Nat → Int32} {S : St} {pb pt : List Row4} (p : HV M h X Y t N Q S pb pt) (a b c d : Int32) : ∃ M', f_X3_add (h + 13) a b c d M = some M' ∧ HV M' h X Y t N Q (uT S (a, b, c, d)) pb pt ∧ FrH M M' h := by
  obtain ⟨q, pv, hp, rm, ⟨lb, lt⟩, hN, hQ⟩ := p
  obtain ⟨i1, r1, i2, n2⟩ := cs_e13 q
  obtain ⟨M', e, l', s, sL, o⟩ := f_add (Or.inr rfl) i1 r1 i2 n2 lt a b c d
  have hI : ∀ o', o' ≠ h + 13 → o' ≠ h + 14 → ∀ b, mI M' o' b = mI M o' b := fun o' n1 n2 b => o o' n1 n2 b
  refine ⟨M', e, ⟨q.e s, pv.fr q s (fun o' n b => hI o' (by omega) (by omega) b) rfl rfl, hp.cg (fun o' n b => hI o' (by omega) (by omega) b) (fun _ _ _ => rfl) rfl, ?_, ⟨?_, ?_⟩, ?_, fun v hv => ?_⟩, FrH.of s (fun o' n b => hI o' (by omega) (by omega) b) sL⟩
  · unfold Rm mN mU mLn mR at rm ⊢
    rw [s]; exact rm
  · exact lb.cg (hI _ (by omega) (by omega)) (hI _ (by omega) (by omega))
  · show LG M' (h + 13) 40 (pt ++ (xT S ++ [(a, b, c, d)]))
    rw [← List.append_assoc]; exact l'
  · have := q.2.2.2.2
    rw [hI 1 (by omega) (by omega)]; exact hN
  · rw [hI _ (by omega) (by omega)]; exact hQ v hv
theorem ovr_c {N v : Nat} {S S' : St} (h0 : ∀ w, xR S' 0 w = xR S 0 w) (h2 : ∀ w, xR S' 2 w = xR S 2 w) : ovr N v S' = ovr N v S := by
  unfold ovr
  simp only [h0, h2]
theorem pcI_c {N : Nat} {S S' : St} (h0 : ∀ w, xR S' 0 w = xR S 0 w) : pcI N S' = pcI N S := by
  unfold pcI
  simp only [h0]
def mxI (a b : Int32) : Int32 := if a < b then b else a
theorem mx_le (S : St) (k i : Nat) (x : Int32) : (if x ≤ xR S k i then S else uR S k i x) = uR S k i (mxI (xR S k i) x) := by
  unfold mxI
  by_cases c : xR S k i < x
  · rw [if_pos c, if_neg (Int32.not_le.mpr c)]
  · rw [if_neg c, if_pos (Int32.not_lt.mp c), uR_id]
theorem uR_uE (S : St) (k i : Nat) (x : Int32) (r : Row4) : uR (uE S r) k i x = uE (uR S k i x) r := rfl
/-- the model's entering, in the order in which the class writes it -/
def enC (t : Int32) (N v : Nat) (S : St) : St :=
  let S1 := uR (uR S 5 v 0) 0 v 2
  let S2 := uR (uR (uR S1 21 v t) 12 v (xR S 12 v + 1)) 15 0 (xR S 15 0 + 1)
  let S3 := uR S2 15 2 (xR S 15 2 + (if pcI N S1 ≤ 1 then 0 else 1))
  let S4 := uR S3 15 5 (xR S 15 5 + (if ovr N v S1 then 1 else 0))
  let x := xR S 15 1 - xR S 13 v
  let S5 := uR (uR S4 15 4 (mxI (xR S 15 4) x)) 15 3 (mxI (xR S 15 3) (xR S 14 v))
  uE S5 (nI v, xR S 2 v, x, xR S 14 v)
theorem en_ch (S : St) (v : Nat) (m0 m12 m2 m3 m4 m5 t : Int32) : uR (uR (uR (uR (uR (uR (uR (uR (uR S 0 v 2) 5 v 0) 15 0 m0) 12 v m12) 15 4 m4) 15 3 m3) 15 2 m2) 15 5 m5) 21 v t = uR (uR (uR (uR (uR (uR (uR (uR (uR S 5 v 0) 0 v 2) 21 v t) 12 v m12) 15 0 m0) 15 2 m2) 15 5 m5) 15 4 m4) 15 3 m3 := by
  have c : ∀ (S : St) {k i k' i' : Nat} (x y : Int32), ¬ (k = k' ∧ i = i') → uR (uR S k i x) k' i' y = uR (uR S k' i' y) k i x := fun S _ _ _ _ x y h => uR_cm S x y h
  rw [c _ (k := 15) (i := 5) (k' := 21) (i' := v) m5 t (by omega), c _ (k := 15) (i := 2) (k' := 21) (i' := v) m2 t (by omega), c _ (k := 15) (i := 3) (k' := 21) (i' := v) m3 t (by omega), c _ (k := 15) (i := 4) (k' := 21) (i' := v) m4 t (by omega), c _ (k := 12) (i := v) (k' := 21) (i' := v) m12 t (by omega), c _ (k := 15) (i := 0) (k' := 21) (i' := v) m0 t (by omega), c _ (k := 0) (i := v) (k' := 5) (i' := v) 2 0 (by omega), c _ (k := 15) (i := 0) (k' := 12) (i' := v) m0 m12 (by omega), c _ (k := 15) (i := 3) (k' := 15) (i' := 2) m3 m2 (by omega), c _ (k := 15) (i := 4) (k' := 15) (i' := 2) m4 m2 (by omega), c _ (k := 15) (i := 3) (k' := 15) (i' := 5) m3 m5 (by omega), c _ (k := 15) (i := 4) (k' := 15) (i' := 5) m4 m5 (by omega)]
def st2 (N : Nat) (S : St) : St := if pcI N S ≤ 1 then S else uR S 15 2 (xR S 15 2 + 1)
def st5 (N v : Nat) (S : St) : St := uR S 15 5 (xR S 15 5 + (if ovr N v S then 1 else 0))
theorem st2_e {N k : Nat} {S : St} (h : pcI N S = k) : st2 N S = uR S 15 2 (xR S 15 2 + (if k ≤ 1 then 0 else 1)) := by
  unfold st2
  rw [h]
  by_cases c : k ≤ 1
  · rw [if_pos c, if_pos c, Int32.add_zero, uR_id]
  · rw [if_neg c, if_neg c]
theorem st5_e {N v : Nat} {b : Bool} {S : St} (h : ovr N v S = b) : st5 N v S = uR S 15 5 (xR S 15 5 + (if b then 1 else 0)) := by
  unfold st5
  rw [h]
def enG (t : Int32) (N v : Nat) (x y : Int32) (S : St) : St := uR (uE (st5 N v (st2 N S)) (nI v, xR (st5 N v (st2 N S)) 2 v, x, y)) 21 v t
def enA (v : Nat) (S : St) : St := uR (uR (uR (uR S 0 v 2) 5 v 0) 15 0 (xR S 15 0 + 1)) 12 v (xR S 12 v + 1)
def enM (v : Nat) (x y : Int32) (S : St) : St := if y ≤ xR S 15 3 then (if x ≤ xR S 15 4 then enA v S else uR (enA v S) 15 4 x) else uR (if x ≤ xR S 15 4 then enA v S else uR (enA v S) 15 4 x) 15 3 y
theorem en_f (t : Int32) (N v : Nat) (S : St) : en t N v S = enG t N v (xR S 15 1 - xR S 13 v) (xR S 14 v) (enM v (xR S 15 1 - xR S 13 v) (xR S 14 v) S) := rfl
theorem enM_e (v : Nat) (x y : Int32) (S : St) : enM v x y S = uR (uR (enA v S) 15 4 (mxI (xR S 15 4) x)) 15 3 (mxI (xR S 15 3) y) := by
  have a154 : xR (enA v S) 15 4 = xR S 15 4 := by unfold enA; simp [xR_uR]
  have a153 : ∀ z, xR (uR (enA v S) 15 4 z) 15 3 = xR S 15 3 := fun z => by unfold enA; simp [xR_uR]
  have e1 : (if x ≤ xR S 15 4 then enA v S else uR (enA v S) 15 4 x) = uR (enA v S) 15 4 (mxI (xR S 15 4) x) := by
    have := mx_le (enA v S) 15 4 x
    rwa [a154] at this
  unfold enM
  rw [e1]
  have := mx_le (uR (enA v S) 15 4 (mxI (xR S 15 4) x)) 15 3 y
  rwa [a153] at this
theorem enC_e (t : Int32) (N v : Nat) (S : St) : en t N v S = enC t N v S := by
  rw [en_f, enM_e]
  unfold enC
  simp only []
  generalize hS1 : uR (uR S 5 v 0) 0 v 2 = S1
  generalize hx : xR S 15 1 - xR S 13 v = x
  generalize hy : xR S 14 v = y
  generalize mxI (xR S 15 4) x = m4
  generalize mxI (xR S 15 3) y = m3
  have k0 : ∀ w, xR S1 0 w = if w = v then 2 else xR S 0 w := fun w => by
    rw [← hS1, xR_uR, xR_uR]
    by_cases c : w = v
    · rw [if_pos ⟨rfl, c⟩, if_pos c]
    · rw [if_neg (fun z => c z.2), if_neg (fun z => by have := z.1; omega), if_neg c]
  have k2 : ∀ w, xR S1 2 w = xR S 2 w := fun w => by
    rw [← hS1, xR_uR, if_neg (fun z => by have := z.1; omega), xR_uR, if_neg (fun z => by have := z.1; omega)]
  generalize hB : uR (uR (enA v S) 15 4 m4) 15 3 m3 = B
  have b0 : ∀ w, xR B 0 w = xR S1 0 w := fun w => by
    rw [k0, ← hB, xR_uR, if_neg (fun z => by have := z.1; omega), xR_uR, if_neg (fun z => by have := z.1; omega)]
    unfold enA
    rw [xR_uR, if_neg (fun z => by have := z.1; omega), xR_uR, if_neg (fun z => by have := z.1; omega), xR_uR, if_neg (fun z => by have := z.1; omega), xR_uR]
    by_cases c : w = v
    · rw [if_pos ⟨rfl, c⟩, if_pos c]
    · rw [if_neg (fun z => c z.2), if_neg c]
  have b2 : ∀ w, xR B 2 w = xR S1 2 w := fun w => by
    rw [k2, ← hB, xR_uR, if_neg (fun z => by have := z.1; omega), xR_uR, if_neg (fun z => by have := z.1; omega)]
    unfold enA
    rw [xR_uR, if_neg (fun z => by have := z.1; omega), xR_uR, if_neg (fun z => by have := z.1; omega), xR_uR, if_neg (fun z => by have := z.1; omega), xR_uR, if_neg (fun z => by have := z.1; omega)]
  have b15 : ∀ j, j ≠ 3 → j ≠ 4 → j ≠ 0 → xR B 15 j = xR S 15 j := fun j n3 n4 n0 => by
    rw [← hB, xR_uR, if_neg (fun z => n3 z.2), xR_uR, if_neg (fun z => n4 z.2)]
    unfold enA
    rw [xR_uR, if_neg (fun z => by have := z.1; omega), xR_uR, if_neg (fun z => n0 z.2), xR_uR, if_neg (fun z => by have := z.1; omega), xR_uR, if_neg (fun z => by have := z.1; omega)]
  have hp : pcI N B = pcI N S1 := pcI_c b0
  generalize pcI N S1 = pk at hp
  have f2 := st2_e hp
  rw [b15 2 (by decide) (by decide) (by decide)] at f2
  generalize xR S 15 2 + (if pk ≤ 1 then 0 else 1) = m2 at f2
  have c0 : ∀ w, xR (uR B 15 2 m2) 0 w = xR S1 0 w := fun w => by
    rw [xR_uR, if_neg (fun z => by have := z.1; omega), b0]
  have c2 : ∀ w, xR (uR B 15 2 m2) 2 w = xR S1 2 w := fun w => by
    rw [xR_uR, if_neg (fun z => by have := z.1; omega), b2]
  have ho : ovr N v (uR B 15 2 m2) = ovr N v S1 := ovr_c c0 c2
  generalize ovr N v S1 = ob at ho
  have f5 := st5_e ho
  rw [xR_uR, if_neg (fun z => by have := z.2; omega), b15 5 (by decide) (by decide) (by decide)] at f5
  generalize xR S 15 5 + (if ob = true then 1 else 0) = m5 at f5
  unfold enG
  rw [f2, f5, uR_uE, xR_uR, if_neg (fun z => by have := z.1; omega), c2, k2]
  have e4 : ∀ Z Z' r, Z = Z' → uE Z r = uE Z' r := fun Z Z' r z => by rw [z]
  refine e4 _ _ _ ?_
  rw [← hB, ← hS1]
  exact en_ch S v _ _ m2 m3 m4 m5 t
set_option maxHeartbeats 2000000 in
theorem HV.en {M : Mem} {h X Y N n : Nat} {t : Int32} {Q : Nat → Int32} {S : St} {pb pt : List Row4} (p : HV M h X Y t N Q S pb pt) (h16 : N ≤ 16) {v : Nat} (hv : v < 16) (h1 : xR S 0 v = 1) (hI : ∀ w, N ≤ w → w < 16 → xR S 0 w ≠ 2) (hvN : v < N) (hn : 17 ≤ n) : ∃ M', f_X2_enter n h (nI v) M = some M' ∧ HV M' h X Y t N Q (en t N v S) pb pt ∧ FrH M M' h := by
  have q := p.1
  rw [enC_e]
  obtain ⟨p1, f1⟩ := p.fld (a := 4) (k := 5) (x := 0) hv (by decide) (by decide)
  generalize hMa : sI M (h + 17 + 2 * v) 4 0 = Ma at p1 f1
  generalize hMb : sI Ma h 8 (bof (mI Ma h 8) v) = Mb
  generalize hMc : sI Mb h 7 (bon (mI Mb h 7) v) = Mc
  have sb : Mb.1 = Ma.1 := by rw [← hMb]; rfl
  have sc : Mc.1 = Ma.1 := by rw [← hMc]; exact sb
  have oc : ∀ o, o ≠ h → ∀ b, mI Mc o b = mI Ma o b := fun o n b => by rw [← hMc, mI_o _ _ _ _ _ n, ← hMb, mI_o _ _ _ _ _ n]
  obtain ⟨_, g7, g8, _⟩ := id p1.2.2.1
  have hpc : HP Mc h (uR (uR S 5 v 0) 0 v 2) := by
    refine p1.2.2.1.stt (fun u hu => ?_) (fun u hu => ?_) oc (fun b n7 n8 => by rw [← hMc, mI_n _ _ _ _ n7, ← hMb, mI_n _ _ _ _ n8]) (fun z => absurd z (by decide))
    · rw [← hMc, mI_s, bt_on _ (by omega) hu, ← hMb, mI_n _ _ _ _ (by decide), g7 u hu]
      by_cases c : u = v
      · rw [if_pos c]; simp [c, hv]
      · rw [if_neg c]; simp [c]
    · rw [← hMc, mI_n _ _ _ _ (by decide), ← hMb, mI_s, bt_off _ (by omega) hu, g8 u hu]
      by_cases c : u = v
      · rw [if_pos c]; simp [c]
      · rw [if_neg c]; simp [c]
  have p2 : HV Mc h X Y t N Q (uR (uR S 5 v 0) 0 v 2) pb pt := p1.at sc (fun o n b => oc o (fun z => n (Or.inl z)) b) hpc rfl (by funext i; rw [xR_uR, if_neg (fun z => by have := z.1; omega)]) rfl rfl
  have f2 : FrH Ma Mc h := FrH.of sc (fun o n b => oc o (fun z => n (by omega)) b) (fun o b => by rw [← hMc, ← hMb]; rfl)
  generalize hS1 : uR (uR S 5 v 0) 0 v 2 = S1 at p2
  have k0 : ∀ w, xR S1 0 w = if w = v then 2 else xR S 0 w := fun w => by
    rw [← hS1, xR_uR, xR_uR]
    by_cases c : w = v
    · rw [if_pos ⟨rfl, c⟩, if_pos c]
    · rw [if_neg (fun z => c z.2), if_neg (fun z => by have := z.1; omega), if_neg c]
  have kk : ∀ k i, k ≠ 0 → k ≠ 5 → xR S1 k i = xR S k i := fun k i n0 n5 => by
    rw [← hS1, xR_uR, if_neg (fun z => n0 z.1), xR_uR, if_neg (fun z => n5 z.1)]
  obtain ⟨p3, f3⟩ := p2.fld (a := 15) (k := 21) (x := t) hv (by decide) (by decide)
  generalize hMd : sI Mc (h + 17 + 2 * v) 15 t = Md at p3 f3
  have d11 := p3.fs hv (a := 11) (k := 12) (by decide)
  rw [xR_uR, if_neg (by omega), kk 12 _ (by decide) (by decide)] at d11
  obtain ⟨p4, f4⟩ := p3.fld (a := 11) (k := 12) (x := xR S 12 v + 1) hv (by decide) (by decide)
  generalize hMe : sI Md (h + 17 + 2 * v) 11 (xR S 12 v + 1) = Me at p4 f4
  have e11 := p4.gs (b := 11) (j := 0) (by decide)
  rw [xR_uR, if_neg (by omega), xR_uR, if_neg (by omega), kk 15 _ (by decide) (by decide)] at e11
  obtain ⟨p5, f5⟩ := p4.gw (b := 11) (j := 0) (by decide) (xR S 15 0 + 1)
  generalize hMf : sI Me h 11 (xR S 15 0 + 1) = Mf at p5 f5
  generalize hS2 : uR (uR (uR S1 21 v t) 12 v (xR S 12 v + 1)) 15 0 (xR S 15 0 + 1) = S2 at p5
  have m0 : ∀ w, xR S2 0 w = xR S1 0 w := fun w => by
    rw [← hS2, xR_uR, if_neg (by omega), xR_uR, if_neg (by omega), xR_uR, if_neg (by omega)]
  have m2 : ∀ w, xR S2 2 w = xR S1 2 w := fun w => by
    rw [← hS2, xR_uR, if_neg (by omega), xR_uR, if_neg (by omega), xR_uR, if_neg (by omega)]
  have m15 : ∀ j, j ≠ 0 → xR S2 15 j = xR S 15 j := fun j nj => by
    rw [← hS2, xR_uR, if_neg (by omega), xR_uR, if_neg (by omega), xR_uR, if_neg (by omega), kk _ _ (by decide) (by decide)]
  have m13 : xR S2 13 v = xR S 13 v := by
    rw [← hS2, xR_uR, if_neg (by omega), xR_uR, if_neg (by omega), xR_uR, if_neg (by omega), kk _ _ (by decide) (by decide)]
  have b7 := p5.2.2.1.2.1
  have er := f_bcx (x := mI Mf h 7) (fun i hi1 hi2 => by rw [b7 i hi2]; simp; omega) Mf
  have hpc2 : pc (mI Mf h 7) = pcI N S1 := by
    rw [pc_mask (N := N) (S := S2) (fun w hw => ?_), pcI_c m0]
    rw [b7 w hw]
    by_cases c : w < N
    · have : w < 16 := by omega
      simp [c, this]
    · by_cases c2 : w < 16
      · have nv : w ≠ v := by omega
        have := hI w (by omega) c2
        rw [m0, k0, if_neg nv]
        simp [c, this]
      · simp [c, c2]
  rw [hpc2] at er
  have p32 : pcI N S1 ≤ 32 := by rw [← hpc2]; exact pc_le _
  have hr : nI (pcI N S1) < (2 : Int32) ↔ pcI N S1 ≤ 1 := by
    rw [show (2 : Int32) = nI 2 from rfl, nI_ltI (by omega) (by decide)]
    omega
  -- the hall's twice
  have g12 := p5.gs (b := 12) (j := 2) (by decide)
  rw [m15 2 (by decide)] at g12
  have P6 : ∃ Mg, (if nI (pcI N S1) < (2 : Int32) then f_X2_enter_90 n h (nI v) (h + 17 + 2 * v) Mf else bnd (sI Mf h 12 ((mI Mf h 12) + (1 : Int32))) fun M49 => f_X2_enter_90 n h (nI v) (h + 17 + 2 * v) M49) = f_X2_enter_90 n h (nI v) (h + 17 + 2 * v) Mg ∧ HV Mg h X Y t N Q (uR S2 15 2 (xR S 15 2 + (if pcI N S1 ≤ 1 then 0 else 1))) pb pt ∧ FrH Mf Mg h ∧ (∀ o, o ≠ h → ∀ b, mI Mg o b = mI Mf o b) := by
    by_cases c : pcI N S1 ≤ 1
    · rw [if_pos (hr.mpr c), if_pos c, Int32.add_zero, ← m15 2 (by decide), uR_id]
      exact ⟨Mf, rfl, p5, FrH.rf _ _, fun _ _ _ => rfl⟩
    · rw [if_neg (fun z => c (hr.mp z)), if_neg c]
      obtain ⟨p6, f6⟩ := p5.gw (b := 12) (j := 2) (by decide) (xR S 15 2 + 1)
      exact ⟨_, by rw [g12, bnd_e], p6, f6, fun o n b => mI_o _ _ _ _ _ n⟩
  obtain ⟨Mg, e6, p6, f6, og⟩ := P6
  generalize hS3 : uR S2 15 2 (xR S 15 2 + (if pcI N S1 ≤ 1 then 0 else 1)) = S3 at p6
  have n0 : ∀ w, xR S3 0 w = xR S1 0 w := fun w => by rw [← hS3, xR_uR, if_neg (by omega), m0]
  have n2 : ∀ w, xR S3 2 w = xR S1 2 w := fun w => by rw [← hS3, xR_uR, if_neg (by omega), m2]
  have n15 : ∀ j, j ≠ 0 → j ≠ 2 → xR S3 15 j = xR S 15 j := fun j n1 n2 => by rw [← hS3, xR_uR, if_neg (by omega), m15 j n1]
  have n13 : xR S3 13 v = xR S 13 v := by rw [← hS3, xR_uR, if_neg (by omega), m13]
  have ah := p6.ahead h16 hv hn
  rw [ovr_c n0 n2] at ah
  have g13 := p6.gs (b := 13) (j := 5) (by decide)
  rw [n15 5 (by decide) (by decide)] at g13
  have P7 : ∃ Mh, f_X2_enter_90 n h (nI v) (h + 17 + 2 * v) Mg = f_X2_enter_108 n h (nI v) (h + 17 + 2 * v) Mh ∧ HV Mh h X Y t N Q (uR S3 15 5 (xR S 15 5 + (if ovr N v S1 then 1 else 0))) pb pt ∧ FrH Mg Mh h ∧ (∀ o, o ≠ h → ∀ b, mI Mh o b = mI Mg o b) := by
    rw [f_X2_enter_90, cs_f p6.1, ah, obd_s]
    by_cases c : ovr N v S1 = true
    · rw [if_pos c, if_neg ne10]
      obtain ⟨p7, f7⟩ := p6.gw (b := 13) (j := 5) (by decide) (xR S 15 5 + 1)
      exact ⟨_, by rw [g13, bnd_e], p7, f7, fun o n b => mI_o _ _ _ _ _ n⟩
    · rw [if_neg c, if_pos rfl, Int32.add_zero, ← n15 5 (by decide) (by decide), uR_id]
      exact ⟨Mg, rfl, p6, FrH.rf _ _, fun _ _ _ => rfl⟩
  obtain ⟨Mh, e7, p7, f7, oh⟩ := P7
  generalize hS4 : uR S3 15 5 (xR S 15 5 + (if ovr N v S1 then 1 else 0)) = S4 at p7
  have o15 : ∀ j, j ≠ 0 → j ≠ 2 → j ≠ 5 → xR S4 15 j = xR S 15 j := fun j n1 n2 n3 => by rw [← hS4, xR_uR, if_neg (by omega), n15 j n1 n2]
  have o13 : xR S4 13 v = xR S 13 v := by rw [← hS4, xR_uR, if_neg (by omega), n13]
  have o2 : xR S4 2 v = xR S 2 v := by rw [← hS4, xR_uR, if_neg (by omega), n2, kk _ _ (by decide) (by decide)]
  -- the waited, the letters, the log
  generalize hx : xR S 15 1 - xR S 13 v = x
  generalize hy : xR S 14 v = y
  have i10 := p7.gs (b := 10) (j := 1) (by decide)
  rw [o15 1 (by decide) (by decide) (by decide)] at i10
  have i13 := p7.fs hv (a := 13) (k := 13) (by decide)
  rw [o13] at i13
  have i15 := p7.gs (b := 15) (j := 4) (by decide)
  rw [o15 4 (by decide) (by decide) (by decide)] at i15
  obtain ⟨p8, f8⟩ := p7.gw (b := 15) (j := 4) (by decide) (mxI (xR S 15 4) x)
  generalize hMi : sI Mh h 15 (mxI (xR S 15 4) x) = Mi at p8 f8
  have j14 := p8.gs (b := 14) (j := 3) (by decide)
  rw [xR_uR, if_neg (by omega), o15 3 (by decide) (by decide) (by decide)] at j14
  have l14 : mI M (h + 17 + 2 * v) 14 = y := by
    rw [← hy]
    exact (p.2.2.1.1 v hv).2.2.1 h1
  have pl : h + 17 + 2 * v ≠ h := by omega
  have l14h : mI Mh (h + 17 + 2 * v) 14 = y := by
    rw [oh _ pl, og _ pl, ← hMf, mI_o _ _ _ _ _ pl, ← hMe, mI_n _ _ _ _ (by decide), ← hMd, mI_n _ _ _ _ (by decide), oc _ pl, ← hMa, mI_n _ _ _ _ (by decide)]
    exact l14
  have l14i : mI Mi (h + 17 + 2 * v) 14 = y := by rw [← hMi, mI_o _ _ _ _ _ pl]; exact l14h
  obtain ⟨p9, f9⟩ := p8.gw (b := 14) (j := 3) (by decide) (mxI (xR S 15 3) y)
  generalize hMj : sI Mi h 14 (mxI (xR S 15 3) y) = Mj at p9 f9
  have l14j : mI Mj (h + 17 + 2 * v) 14 = y := by rw [← hMj, mI_o _ _ _ _ _ pl]; exact l14i
  have j1 := p9.fs hv (a := 1) (k := 2) (by decide)
  rw [xR_uR, if_neg (by omega), xR_uR, if_neg (by omega), o2] at j1
  obtain ⟨M', e', p', f'⟩ := p9.lgE (nI v) (xR S 2 v) x y
  have end108 : f_X2_enter_108 n h (nI v) (h + 17 + 2 * v) Mh = some M' := by
    rw [f_X2_enter_108, cs_f p7.1, cs_po p7.1 hv, i10, i13, hx, bnd_e, i15, show (if xR S 15 4 < x then x else xR S 15 4) = mxI (xR S 15 4) x from rfl, hMi, bnd_e, j14, l14i, show (if xR S 15 3 < y then y else xR S 15 3) = mxI (xR S 15 3) y from rfl, hMj, bnd_e, cs_h3 p9.1, bnd_e, chk_t (cs_e11 p9.1).1, j1, l14j, e', obd_s]
  refine ⟨M', ?_, ?_, ((((((((f1.tr f2).tr f3).tr f4).tr f5).tr f6).tr f7).tr f8).tr f9).tr f'⟩
  · have q2 := p2.1
    have c8 : mI Mb h 7 = mI Ma h 7 := by rw [← hMb, mI_n _ _ _ _ (by decide)]
    rw [f_X2_enter, cs_f q, cs_h2 q, bnd_e, cs_a10 q, cs_i10 q hv, cs_rpc q hv, bnd_e, cs_po q hv, hMa, bnd_e, show (mI Ma h 8 &&& (((1 : Int32) <<< (nI v &&& 31)) ^^^ (-1 : Int32))) = bof (mI Ma h 8) v from rfl, hMb, bnd_e, show (mI Mb h 7 ||| ((1 : Int32) <<< (nI v &&& 31))) = bon (mI Mb h 7) v from rfl, hMc, bnd_e, cs_h1 q2, bnd_e, cs_p q2, p2.t11, hMd, bnd_e, d11, hMe, bnd_e, e11, hMf, bnd_e, er, obd_s]
    exact e6.trans (e7.trans end108)
  · unfold enC
    simp only []
    rw [hS1, hS2, hS3, hS4, hx, hy]
    exact p'
/-! ===== the class hears a grant ===== -/
set_option maxHeartbeats 1000000 in
theorem HV.tgr {M : Mem} {h X Y N n : Nat} {t : Int32} {Q : Nat → Int32} {S : St} {pb pt : List Row4} (p : HV M h X Y t N Q S pb pt) (h16 : N ≤ 16) {a v : Nat} {s : Int32} (ha : a < 32) (hv : v < N) (hI : ∀ w, N ≤ w → w < 16 → xR S 0 w ≠ 2) (hV : xR S 0 v = 1 → xR S 2 v = s → bt (xR S 3 v) a = true ∧ ∀ i, i < 32 → bt (xR S 4 v) i = true → bt (xR S 3 v) i = true) (hn : 17 ≤ n) : ∃ M', f_X2_hearGrant n h (nI a) (nI v) s M = some M' ∧ HV M' h X Y t N Q (if xR S 0 v = 1 ∧ xR S 2 v = s then gr t N v a S else S) pb pt ∧ FrH M M' h := by
  have q := p.1
  have v6 : v < 16 := by omega
  rw [f_X2_hearGrant, cs_f q, cs_h2 q, bnd_e, cs_a10 q, cs_i10 q v6, cs_rpc q v6, bnd_e, cs_po q v6, p.ia v6, obd_s]
  by_cases c : xR S 0 v = 1 ∧ xR S 2 v = s
  · rw [if_pos c, if_pos c, if_neg (by decide)]
    obtain ⟨k3, kv⟩ := hV c.1 c.2
    have b3 := p.fs v6 (a := 3) (k := 4) (by decide)
    obtain ⟨p1, f1⟩ := p.fld (a := 3) (k := 4) (x := bon (xR S 4 v) a) v6 (by decide) (by decide)
    generalize hMa : sI M (h + 17 + 2 * v) 3 (bon (xR S 4 v) a) = Ma at p1 f1
    have b4 := p1.fs v6 (a := 4) (k := 5) (by decide)
    rw [xR_uR, if_neg (by omega)] at b4
    obtain ⟨p2, f2⟩ := p1.fld (a := 4) (k := 5) (x := bof (xR S 5 v) a) v6 (by decide) (by decide)
    generalize hMb : sI Ma (h + 17 + 2 * v) 4 (bof (xR S 5 v) a) = Mb at p2 f2
    have b5 := p2.fs v6 (a := 5) (k := 6) (by decide)
    rw [xR_uR, if_neg (by omega), xR_uR, if_neg (by omega)] at b5
    obtain ⟨p3, f3⟩ := p2.fld (a := 5) (k := 6) (x := bof (xR S 6 v) a) v6 (by decide) (by decide)
    generalize hMc : sI Mb (h + 17 + 2 * v) 5 (bof (xR S 6 v) a) = Mc at p3 f3
    generalize hS3 : uR (uR (uR S 4 v (bon (xR S 4 v) a)) 5 v (bof (xR S 5 v) a)) 6 v (bof (xR S 6 v) a) = S3 at p3
    have c3 := p3.fs v6 (a := 3) (k := 4) (by decide)
    have c2 := p3.fs v6 (a := 2) (k := 3) (by decide)
    have r4 : xR S3 4 v = bon (xR S 4 v) a := by
      rw [← hS3, xR_uR, if_neg (by omega), xR_uR, if_neg (by omega), xR_uR, if_pos ⟨rfl, rfl⟩]
    have r3 : xR S3 3 v = xR S 3 v := by
      rw [← hS3, xR_uR, if_neg (by omega), xR_uR, if_neg (by omega), xR_uR, if_neg (by omega)]
    have r0 : ∀ w, xR S3 0 w = xR S 0 w := fun w => by
      rw [← hS3, xR_uR, if_neg (by omega), xR_uR, if_neg (by omega), xR_uR, if_neg (by omega)]
    rw [r4] at c3
    rw [r3] at c2
    have hz : bon (xR S 4 v) a = xR S 3 v ↔ xR S 3 v &&& ((bon (xR S 4 v) a) ^^^ (-1 : Int32)) = 0 := by
      rw [bt_z]
      constructor
      · intro z i hi
        rw [bt_minus _ _ hi, z]
        cases bt (xR S 3 v) i <;> rfl
      · intro z
        apply b_ext
        intro i hi
        have zi := z i hi
        rw [bt_minus _ _ hi] at zi
        cases d : bt (xR S 3 v) i with
        | true =>
          rw [d] at zi
          simpa using zi
        | false =>
          rw [bt_on _ ha hi]
          have n4 : bt (xR S 4 v) i = false := by
            cases e : bt (xR S 4 v) i with
            | false => rfl
            | true => rw [kv i hi e] at d; exact absurd d (by decide)
          have na : i ≠ a := fun z => by rw [z, k3] at d; exact absurd d (by decide)
          simp [n4, na]
    have fr := (f1.tr f2).tr f3
    have head : ∀ y : Option Mem, (if bon (xR S 4 v) a = xR S 3 v then obd (f_X2_enter n h (nI v) Mc) fun M31 => some M31 else some Mc) = y → (bnd (sI M (h + 17 + 2 * v) 3 ((mI M (h + 17 + 2 * v) 3) ||| ((1 : Int32) <<< (nI a &&& 31)))) fun M13 => bnd (sI M13 (h + 17 + 2 * v) 4 ((mI M13 (h + 17 + 2 * v) 4) &&& (((1 : Int32) <<< (nI a &&& 31)) ^^^ (-1 : Int32)))) fun M18 => bnd (sI M18 (h + 17 + 2 * v) 5 ((mI M18 (h + 17 + 2 * v) 5) &&& (((1 : Int32) <<< (nI a &&& 31)) ^^^ (-1 : Int32)))) fun M23 => if (mI M23 (h + 17 + 2 * v) 3) = (mI M23 (h + 17 + 2 * v) 2) then (obd (f_X2_enter n h (nI v) M23) fun M31 => some M31) else some M23) = y := by
      intro y hy
      rw [b3, show (xR S 4 v ||| ((1 : Int32) <<< (nI a &&& 31))) = bon (xR S 4 v) a from rfl, hMa, bnd_e, b4, show (xR S 5 v &&& (((1 : Int32) <<< (nI a &&& 31)) ^^^ (-1 : Int32))) = bof (xR S 5 v) a from rfl, hMb, bnd_e, b5, show (xR S 6 v &&& (((1 : Int32) <<< (nI a &&& 31)) ^^^ (-1 : Int32))) = bof (xR S 6 v) a from rfl, hMc, bnd_e, c3, c2]
      exact hy
    unfold gr
    simp only []
    rw [hS3]
    by_cases d : bon (xR S 4 v) a = xR S 3 v
    · obtain ⟨M', e', p', f'⟩ := p3.en h16 v6 (by rw [r0]; exact c.1) (fun w h1 h2 => by rw [r0]; exact hI w h1 h2) hv hn
      rw [if_pos (hz.mp d)]
      exact ⟨M', head _ (by rw [if_pos d, e', obd_s]), p', fr.tr f'⟩
    · rw [if_neg (fun z => d (hz.mpr z))]
      exact ⟨Mc, head _ (by rw [if_neg d]), p3, fr⟩
  · rw [if_neg c, if_neg c, if_pos rfl]
    exact ⟨M, rfl, p, FrH.rf _ _⟩
/-! ===== the class: what is written down of a bringing ===== -/
def bmp (v : Nat) (S : St) : St := if xR S 0 v = 1 then uR S 14 v (xR S 14 v + 1) else S
theorem bmp_R (v : Nat) (S : St) (k i : Nat) : xR (bmp v S) k i = if k = 14 ∧ i = v ∧ xR S 0 v = 1 then xR S 14 v + 1 else xR S k i := by
  unfold bmp
  by_cases c : xR S 0 v = 1
  · rw [if_pos c, xR_uR]
    by_cases d : k = 14 ∧ i = v
    · rw [if_pos d, if_pos ⟨d.1, d.2, c⟩]
    · rw [if_neg d, if_neg (fun z => d ⟨z.1, z.2.1⟩)]
  · rw [if_neg c, if_neg (fun z => c z.2.2)]
theorem bmp_2 (v : Nat) (S : St) : (bmp v S).2 = S.2 := by
  unfold bmp
  split <;> rfl
theorem wtl_R (f g : Nat) (k i : Nat) : ∀ (ws : List Nat) (S : St), ws.Nodup → xR (wtl f g ws S) k i = if k = 14 ∧ i ∈ ws ∧ xR S 0 i = 1 ∧ (i = f ∨ i = g) then xR S 14 i + 1 else xR S k i := by
  intro ws
  induction ws with
  | nil => intro S _; rw [if_neg (fun z => by simp at z)]; rfl
  | cons w ws ih =>
    intro S hd
    have hd2 := List.nodup_cons.mp hd
    have e : wtl f g (w :: ws) S = wtl f g ws (if xR S 0 w = 1 ∧ (w = f ∨ w = g) then uR S 14 w (xR S 14 w + 1) else S) := by
      unfold wtl; rw [List.foldl_cons]
    rw [e, ih _ hd2.2]
    by_cases c : xR S 0 w = 1 ∧ (w = f ∨ w = g)
    · rw [if_pos c]
      have e0 : xR (uR S 14 w (xR S 14 w + 1)) 0 i = xR S 0 i := by rw [xR_uR, if_neg (by omega)]
      rw [e0]
      by_cases d : k = 14 ∧ i ∈ ws ∧ xR S 0 i = 1 ∧ (i = f ∨ i = g)
      · have n : i ≠ w := fun z => hd2.1 (z ▸ d.2.1)
        rw [if_pos d, if_pos ⟨d.1, List.mem_cons_of_mem _ d.2.1, d.2.2⟩, xR_uR, if_neg (fun z => n z.2)]
      · rw [if_neg d, xR_uR]
        by_cases b : k = 14 ∧ i = w
        · rw [if_pos b, if_pos ⟨b.1, by rw [b.2]; simp, by rw [b.2]; exact c⟩, b.2]
        · rw [if_neg b, if_neg]
          rintro ⟨z1, z2, z3⟩
          rcases List.mem_cons.mp z2 with z | z
          · exact b ⟨z1, z⟩
          · exact d ⟨z1, z, z3⟩
    · rw [if_neg c]
      by_cases d : k = 14 ∧ i ∈ ws ∧ xR S 0 i = 1 ∧ (i = f ∨ i = g)
      · rw [if_pos d, if_pos ⟨d.1, List.mem_cons_of_mem _ d.2.1, d.2.2⟩]
      · rw [if_neg d, if_neg]
        rintro ⟨z1, z2, z3⟩
        rcases List.mem_cons.mp z2 with z | z
        · exact c (z ▸ z3)
        · exact d ⟨z1, z, z3⟩
theorem wtl_e {N f g : Nat} (hf : f < N) (hg : g < N) (S : St) : wtl f g (List.range N) S = if f = g then bmp g S else bmp f (bmp g S) := by
  have h2 : (wtl f g (List.range N) S).2 = S.2 := wtl_W f g _ S
  have hR : ∀ k i, xR (wtl f g (List.range N) S) k i = xR (if f = g then bmp g S else bmp f (bmp g S)) k i := fun k i => by
    rw [wtl_R f g k i _ S List.nodup_range]
    have m : i ∈ List.range N ↔ i < N := List.mem_range
    by_cases c : f = g
    · subst c
      rw [if_pos rfl, bmp_R]
      by_cases d : k = 14 ∧ i = f ∧ xR S 0 f = 1
      · rw [if_pos d, if_pos ⟨d.1, m.mpr (by omega), by rw [d.2.1]; exact d.2.2, Or.inl d.2.1⟩, d.2.1]
      · rw [if_neg d, if_neg]
        rintro ⟨z1, _, z3, z4⟩
        rcases z4 with z4 | z4
        · exact d ⟨z1, z4, z4 ▸ z3⟩
        · exact d ⟨z1, z4, z4 ▸ z3⟩
    · rw [if_neg c, bmp_R, bmp_R, bmp_R, bmp_R, if_neg (show ¬ ((0 : Nat) = 14 ∧ f = g ∧ xR S 0 g = 1) from fun z => by omega), if_neg (show ¬ ((14 : Nat) = 14 ∧ f = g ∧ xR S 0 g = 1) from fun z => c z.2.1)]
      by_cases d : k = 14 ∧ i = f ∧ xR S 0 f = 1
      · rw [if_pos d, if_pos ⟨d.1, m.mpr (by omega), by rw [d.2.1]; exact d.2.2, Or.inl d.2.1⟩, d.2.1]
      · rw [if_neg d]
        by_cases b : k = 14 ∧ i = g ∧ xR S 0 g = 1
        · rw [if_pos b, if_pos ⟨b.1, m.mpr (by omega), by rw [b.2.1]; exact b.2.2, Or.inr b.2.1⟩, b.2.1]
        · rw [if_neg b, if_neg]
          rintro ⟨z1, _, z3, z4⟩
          rcases z4 with z4 | z4
          · exact d ⟨z1, z4, z4 ▸ z3⟩
          · exact b ⟨z1, z4, z4 ▸ z3⟩
  have hZ : (if f = g then bmp g S else bmp f (bmp g S)).2 = S.2 := by
    split
    · exact bmp_2 _ _
    · rw [bmp_2, bmp_2]
  have h3 := h2.trans hZ.symm
  refine St.ext hR ?_ ?_ ?_ ?_
  · unfold xW; rw [h3]
  · unfold xL; rw [h3]
  · unfold xE; rw [h3]
  · unfold xT; rw [h3]
theorem HV.b14 {M : Mem} {h X Y N : Nat} {t : Int32} {Q : Nat → Int32} {S : St} {pb pt : List Row4} (p : HV M h X Y t N Q S pb pt) {v : Nat} (hv : v < 16) : HV (sI M (h + 17 + 2 * v) 14 ((mI M (h + 17 + 2 * v) 14) + (1 : Int32))) h X Y t N Q (bmp v S) pb pt ∧ FrH M (sI M (h + 17 + 2 * v) 14 ((mI M (h + 17 + 2 * v) 14) + (1 : Int32))) h := by
  obtain ⟨a1, a2, a3, a4, a5⟩ := p.2.2.1.1 v hv
  unfold bmp
  by_cases c : xR S 0 v = 1
  · rw [if_pos c, a3 c]
    exact p.s14 hv
  · rw [if_neg c]
    refine ⟨p.at rfl (fun o n b => mI_o _ _ _ _ _ (by omega)) (p.2.2.1.at ⟨fun p hp => ?_, ?_, fun z => absurd z c, fun u hu => ?_, fun w hw => ?_⟩ (fun o _ n _ b => mI_o _ _ _ _ _ n) (fun _ _ _ _ _ _ => rfl) rfl rfl rfl (fun _ _ => rfl)) rfl rfl rfl rfl, FrH.sI (by omega)⟩
    · have lim : ∀ p, p ∈ ft → p.1 ≠ 14 := by decide
      rw [mI_n _ _ _ _ (lim p hp)]; exact a1 p hp
    · rw [mI_n _ _ _ _ (by decide)]; exact a2
    · rw [mI_n _ _ _ _ (by decide)]; exact a4 u hu
    · rw [mI_o _ _ _ _ _ (by omega)]; exact a5 w hw
set_option maxHeartbeats 1000000 in
theorem HV.twt {M : Mem} {h X Y N : Nat} {t : Int32} {Q : Nat → Int32} {S : St} {pb pt : List Row4} (p : HV M h X Y t N Q S pb pt) (h16 : N ≤ 16) {k f g : Nat} (hf : f < N) (hg : g < N) (s : Int32) : ∃ M', f_X2_noteBringing h (nI k) (nI f) (nI g) s M = some M' ∧ HV M' h X Y t N Q (wt N k f g s S) pb pt ∧ FrH M M' h := by
  have q := p.1
  have f6 : f < 16 := by omega
  have g6 : g < 16 := by omega
  have g10 := p.gs (b := 10) (j := 1) (by decide)
  obtain ⟨p1, f1⟩ := p.gw (b := 10) (j := 1) (by decide) (xR S 15 1 + 1)
  generalize hMa : sI M h 10 (xR S 15 1 + 1) = Ma at p1 f1
  obtain ⟨Mb, e2, p2, f2⟩ := p1.lgT (nI k) (nI f) (nI g) s
  have b12 := p2.fs g6 (a := 12) (k := 18) (by decide)
  rw [xR_uT, xR_uR, if_neg (by omega)] at b12
  obtain ⟨p3, f3⟩ := p2.fld (a := 12) (k := 18) (x := xR S 18 g + 1) g6 (by decide) (by decide)
  generalize hMc : sI Mb (h + 17 + 2 * g) 12 (xR S 18 g + 1) = Mc at p3 f3
  obtain ⟨p4, f4⟩ := p3.b14 g6
  generalize hMd : sI Mc (h + 17 + 2 * g) 14 ((mI Mc (h + 17 + 2 * g) 14) + (1 : Int32)) = Md at p4 f4
  have q1 := p1.1
  have q2 := p2.1
  have q3 := p3.1
  have q4 := p4.1
  have ew : wt N k f g s S = if f = g then bmp g (uR (uT (uR S 15 1 (xR S 15 1 + 1)) (nI k, nI f, nI g, s)) 18 g (xR S 18 g + 1)) else bmp f (bmp g (uR (uT (uR S 15 1 (xR S 15 1 + 1)) (nI k, nI f, nI g, s)) 18 g (xR S 18 g + 1))) := by
    unfold wt
    rw [wtl_e hf hg]
    rfl
  rw [ew, f_X2_noteBringing, cs_f q, g10, hMa, bnd_e, cs_h4 q1, bnd_e, chk_t (cs_e13 q1).1, e2, obd_s, cs_f q2, cs_h2 q2, bnd_e, cs_a10 q2, cs_i10 q2 g6, cs_rpc q2 g6, bnd_e, cs_po q2 g6, b12, hMc, bnd_e, cs_h2 q3, bnd_e, cs_a10 q3, cs_i10 q3 g6, cs_rpc q3 g6, bnd_e, cs_po q3 g6, hMd, bnd_e]
  by_cases c : f = g
  · rw [if_pos (show nI f = nI g by rw [c]), if_pos c]
    exact ⟨Md, rfl, p4, ((f1.tr f2).tr f3).tr f4⟩
  · rw [if_neg (nI_ne (by omega) (by omega) c), if_neg c]
    obtain ⟨p5, f5⟩ := p4.b14 f6
    generalize hMe : sI Md (h + 17 + 2 * f) 14 ((mI Md (h + 17 + 2 * f) 14) + (1 : Int32)) = Me at p5 f5
    exact ⟨Me, by rw [cs_h2 q4, bnd_e, cs_a10 q4, cs_i10 q4 f6, cs_rpc q4 f6, bnd_e, cs_po q4 f6, hMe, bnd_e], p5, (((f1.tr f2).tr f3).tr f4).tr f5⟩
/-! ===== the class brings a letter ===== -/
theorem f_isNode {M : Mem} {h X Y N : Nat} {t : Int32} {Q : Nat → Int32} {S : St} {pb pt : List Row4} (p : HV M h X Y t N Q S pb pt) (h16 : N ≤ 16) {v : Nat} (hv : v < N) : f_X7_isNode 1 (nI v) M = some 1 := by
  rw [f_X7_isNode, if_neg (show ¬ nI v < 0 from nI_nlt (b := 0) (by omega) (by omega)), cs_s p.1, p.2.2.2.2.2.1, if_neg (nI_ge (by omega) (by omega))]
theorem mx_clk (S : St) (g : Nat) (s : Int32) : (if s ≤ xR S 1 g then S else uR S 1 g s) = uR S 1 g (if xR S 1 g < s then s else xR S 1 g) := mx_le S 1 g s
set_option maxHeartbeats 2000000 in
theorem HV.tbr {M : Mem} {h X Y N A n : Nat} {t : Int32} {Q : Nat → Int32} {S : St} {pb pt : List Row4} (p : HV M h X Y t N Q S pb pt) (hI : Inv N A S) (hA : A < 1048576) (h2 : 2 ≤ N) (h16 : N ≤ 16) {f g : Nat} (hf : f < N) (hg : g < N) {x : Ltr} {r : List Ltr} (hx : xL S (16 * f + g) = x :: r) (hl : (fl S).length + N ≤ 9000) (hn : 17 ≤ n) : ∃ M', f_X2_bringFirst n h (nI f) (nI g) M = some (x.1, M') ∧ HV M' h X Y t N Q (br t N f g S) pb pt ∧ FrH M M' h := by
  have q := p.1
  have f6 : f < 16 := by omega
  have g6 : g < 16 := by omega
  obtain ⟨⟨k, hk, ek⟩, s, hs, es⟩ := (hI.2.2.2.2.1 _ (show 16 * f + g < 256 by omega)).1 x (by rw [hx]; simp)
  obtain ⟨M1, e1, p1, f1⟩ := p.take f6 g6 hx
  have l1 := fl_uL_len S (l := 16 * f + g) (by omega) r
  rw [hx, List.length_cons] at l1
  have kind : encC x &&& (7 : Int32) = nI k := encC_kind (by omega) ek
  have stp : encC x >>> ((3 : Int32) &&& 31) = nI s := encC_stamp (by omega) ek (by omega) es
  have ne1 : ¬ encC x = (-1 : Int32) := fun z => by
    rw [z] at kind
    have : (7 : Int32) = nI k := kind
    exact absurd ((nI_eq (a := 7) (by omega) (by omega)).mp this) (by omega)
  have kk : x.1.toNatClampNeg = k := by rw [ek, nI_clamp (by omega)]
  obtain ⟨h1, p0, p5, pz⟩ := hI.pop h16 hf hg hx
  have wl := wt_WL N k f g (nI s) (uL S (16 * f + g) r)
  have sm := wt_S N k f g (nI s) (uL S (16 * f + g) r)
  obtain ⟨M2, e2, p2, f2⟩ := p1.twt h16 (k := k) hf hg (nI s)
  have h2' := h1.reg sm wl.2
  have h3 := h2'.clk h16 hA (g := g) (s := s) g6 hs
  have l2 : (fl (wt N k f g (nI s) (uL S (16 * f + g) r))).length = (fl (uL S (16 * f + g) r)).length := by rw [fl_L wl.2]
  generalize hS2 : wt N k f g (nI s) (uL S (16 * f + g) r) = S2 at h2' h3 wl sm p2 l2
  have e0 := p2.fs g6 (a := 0) (k := 1) (by decide)
  obtain ⟨p3, f3⟩ := p2.fld (a := 0) (k := 1) (x := if xR S2 1 g < nI s then nI s else xR S2 1 g) g6 (by decide) (by decide)
  generalize hM3 : sI M2 (h + 17 + 2 * g) 0 (if xR S2 1 g < nI s then nI s else xR S2 1 g) = M3 at p3 f3
  rw [← mx_clk] at p3
  have l3 : (fl (if nI s ≤ xR S2 1 g then S2 else uR S2 1 g (nI s))).length = (fl S2).length := by rw [fl_2 clk_2]
  have q2 : ∀ k, k < 11 → k ≠ 6 → ∀ i, xR S2 k i = xR S k i := fun k hk hk6 i => sm.2 k hk hk6 i
  have er : br t N f g S = rd t N k f g (nI s) S2 := by
    unfold br
    rw [hx]
    simp only []
    rw [kk, es, hS2]
  generalize hS3 : (if nI s ≤ xR S2 1 g then S2 else uR S2 1 g (nI s)) = S3 at h3 p3 l3
  have r3 : ∀ k, k ≠ 1 → ∀ i, xR S3 k i = xR S2 k i := fun k hk i => by rw [← hS3]; exact clk_R hk
  have w3 : xW S3 = xW S2 := by rw [← hS3]; unfold xW; rw [clk_2]
  have e3 : ∀ b u, eng S3 b u = eng S b u := fun b u => by
    unfold eng
    rw [r3 8 (by decide), r3 9 (by decide), w3, q2 8 (by decide) (by decide), q2 9 (by decide) (by decide), sm.1]
    rfl
  have hF := h3.2.2.2.2.2.1 g g6
  have hAA := h3.1
  have hok := Hok_of h3 h16 (f := f) hg (nI s)
  have fr := (f1.tr f2).tr f3
  have hin : ∀ w, N ≤ w → w < 16 → xR S3 0 w ≠ 2 := fun w a b => by
    rw [(hAA w b).2.1 a]; decide
  have hcls : ∀ y : Option (Int32 × Mem), f_X2_bringFirst_35 n h (nI f) (nI g) (encC x) M1 = y → f_X2_bringFirst n h (nI f) (nI g) M = y := by
    intro y hy
    rw [f_X2_bringFirst, cs_f q, cs_h0 q, bnd_e, cs_s q, f_isNode p h16 hf, obd_s, if_neg ne10, bnd_e, cs_s q, f_isNode p h16 hg, obd_s, if_neg ne10, cs_h1 q, bnd_e, cs_p q, e1, obd2_s]
    exact hy
  have q1 := p1.1
  have q2m := p2.1
  have kd : ∀ b : Nat, b < 6 → k ≠ b → ¬ nI k = nI b := fun b hb hne => nI_ne (by omega) (by omega) hne
  have h35 : ∀ y : Option (Int32 × Mem), (if nI k = (0 : Int32) then (obd (f_X2_hearRequest n h (nI f) (nI g) (nI s) M3) fun M35 => some (nI k, M35)) else (if nI k = (1 : Int32) then (obd (f_X2_hearGrant n h (nI f) (nI g) (nI s) M3) fun M39 => some (nI k, M39)) else (if nI k = (2 : Int32) then (obd (f_X2_hearFail n h (nI f) (nI g) (nI s) M3) fun M43 => some (nI k, M43)) else (if nI k = (3 : Int32) then (obd (f_X2_hearInquire h (nI f) (nI g) (nI s) M3) fun M47 => some (nI k, M47)) else (if nI k = (4 : Int32) then (obd (f_X2_hearYield n h (nI f) (nI g) (nI s) M3) fun M51 => some (nI k, M51)) else (obd (f_X2_hearRelease n h (nI f) (nI g) (nI s) M3) fun M53 => some (nI k, M53))))))) = y → f_X2_bringFirst_35 n h (nI f) (nI g) (encC x) M1 = y := by
    intro y hy
    rw [f_X2_bringFirst_35, if_neg ne1, f_X5_kindOf, kind, obd_s, f_X5_stampOf, stp, obd_s, cs_f q1, e2, obd_s, cs_f q2m, cs_h2 q2m, bnd_e, cs_a10 q2m, cs_i10 q2m g6, cs_rpc q2m g6, bnd_e, cs_po q2m g6, bnd_e, cs_a10 q2m, cs_i10 q2m g6, cs_rpc q2m g6, bnd_e, cs_po q2m g6, e0, hM3, bnd_e]
    exact hy
  rw [er, ek]
  unfold rd
  simp only []
  rw [hS3]
  have fin : ∀ {M' : Mem} {S' : St}, f_X2_bringFirst_35 n h (nI f) (nI g) (encC x) M1 = some (nI k, M') → HV M' h X Y t N Q S' pb pt → FrH M3 M' h → ∃ M', f_X2_bringFirst n h (nI f) (nI g) M = some (nI k, M') ∧ HV M' h X Y t N Q S' pb pt ∧ FrH M M' h := fun e p' f' => ⟨_, hcls _ e, p', fr.tr f'⟩
  have other : ¬ k = 0 → ¬ k = 5 → Inv N A S3 := by
    intro k0 k5
    have : popE S f g x = eng S3 g f := by
      unfold popE
      rw [ek, if_neg (nI_ne (by omega) (by decide) k0), if_neg (nI_ne (by omega) (by decide) k5), e3]
    rw [this] at h3
    exact (InvG.id h16).mp h3
  have zz : k = 1 ∨ k = 2 ∨ k = 3 → xR S3 0 g = 1 → xR S3 2 g = nI s → bt (xR S3 3 g) f = true := by
    intro hk3 c1 c2
    have z := pz (by rw [ek]; rcases hk3 with rfl | rfl | rfl <;> simp)
    obtain ⟨a, b, z1, z2, z3, z4, z5⟩ := z
    rw [r3 3 (by decide), q2 3 (by decide) (by decide)]
    rw [r3 0 (by decide), q2 0 (by decide) (by decide)] at c1
    rw [r3 2 (by decide), q2 2 (by decide) (by decide)] at c2
    refine z5 ?_ c1
    have : nI b = nI a := z2.symm.trans (c2.trans (es.symm.trans z1))
    exact ((nI_eq (by omega) (by omega)).mp this).symm
  rcases (show k = 0 ∨ k = 1 ∨ k = 2 ∨ k = 3 ∨ k = 4 ∨ k = 5 by omega) with rfl | rfl | rfl | rfl | rfl | rfl
  · have en : eng S3 g f = none := by rw [e3]; exact p0 ek
    have hnv : f ∉ (xW S3 g).map Prod.fst := by
      unfold eng at en
      by_cases c : xR S3 8 g = nI f
      · rw [if_pos c] at en; exact absurd en (by simp)
      · rw [if_neg c] at en
        exact engW_none.mp en
    obtain ⟨M4, e4, p4, f4⟩ := p3.trq h16 g6 hf hs hF.1 hnv hok.2.2.2 (hAA g g6).2.2.2 (by omega) hn
    rw [if_pos rfl]
    exact fin (h35 _ (by rw [if_pos (show nI 0 = (0 : Int32) from rfl), e4, obd_s])) p4 f4
  · have hIn := other (by decide) (by decide)
    obtain ⟨M4, e4, p4, f4⟩ := p3.tgr h16 (a := f) (v := g) (s := nI s) (by omega) hg hin (fun c1 c2 => ⟨zz (Or.inl rfl) c1 c2, fun i hi z => (hIn.2.2.1 g g6 c1 i hi).1 z⟩) hn
    rw [if_neg (by decide), if_neg (by decide), if_neg (by decide), if_pos (show (1 : Nat) = 1 from rfl)]
    exact fin (h35 _ (by rw [if_neg (show ¬ nI 1 = (0 : Int32) by decide), if_pos (show nI 1 = (1 : Int32) from rfl), e4, obd_s])) p4 f4
  · have hIn := other (by decide) (by decide)
    obtain ⟨M4, e4, p4, f4⟩ := p3.tfd h16 (a := f) (v := g) (s := nI s) g6 (fun c1 i hi1 hi2 => by
      cases d : bt (xR S3 5 g) i with
      | false => rfl
      | true =>
        have := (hIn.2.2.1 g g6 c1 i hi2).2 d
        rw [hIn.2.1 g g6 i hi1 hi2] at this
        exact absurd this (by decide)) (by omega) hn
    rw [if_neg (by decide), if_neg (by decide), if_neg (by decide), if_neg (show ¬ (2 : Nat) = 1 by decide), if_pos (show (2 : Nat) = 2 from rfl)]
    exact fin (h35 _ (by rw [if_neg (show ¬ nI 2 = (0 : Int32) by decide), if_neg (show ¬ nI 2 = (1 : Int32) by decide), if_pos (show nI 2 = (2 : Int32) from rfl), e4, obd_s])) p4 f4
  · obtain ⟨M4, e4, p4, f4⟩ := p3.tiq (a := f) (v := g) (s := nI s) f6 g6 (by omega)
    rw [if_neg (by decide), if_neg (by decide), if_neg (by decide), if_neg (show ¬ (3 : Nat) = 1 by decide), if_neg (show ¬ (3 : Nat) = 2 by decide)]
    exact fin (h35 _ (by rw [if_neg (show ¬ nI 3 = (0 : Int32) by decide), if_neg (show ¬ nI 3 = (1 : Int32) by decide), if_neg (show ¬ nI 3 = (2 : Int32) by decide), if_pos (show nI 3 = (3 : Int32) from rfl), e4, obd_s])) p4 f4
  · obtain ⟨M4, e4, p4, f4⟩ := p3.tyl h16 (a := g) (v := f) (s := s) g6 hf hs hF.1 (fun z => by
      rcases hF.2.2 with y | ⟨y, z1, z2, z3, _⟩
      · rw [y.1] at z
        exact absurd z (m1_ne f6)
      · have : y = f := (nI_eq (by omega) (by omega)).mp (z2.symm.trans z)
        rw [← this]; exact z3) (by omega) hn
    rw [if_neg (by decide), if_pos (show (4 : Nat) = 4 from rfl)]
    exact fin (h35 _ (by rw [if_neg (show ¬ nI 4 = (0 : Int32) by decide), if_neg (show ¬ nI 4 = (1 : Int32) by decide), if_neg (show ¬ nI 4 = (2 : Int32) by decide), if_neg (show ¬ nI 4 = (3 : Int32) by decide), if_pos (show nI 4 = (4 : Int32) from rfl), e4, obd_s])) p4 f4
  · obtain ⟨M4, e4, p4, f4⟩ := p3.trl h16 (a := g) (v := f) (s := nI s) g6 f6 hF.1 (by omega) hn
    rw [if_neg (by decide), if_neg (by decide), if_pos (show (5 : Nat) = 5 from rfl)]
    exact fin (h35 _ (by rw [if_neg (show ¬ nI 5 = (0 : Int32) by decide), if_neg (show ¬ nI 5 = (1 : Int32) by decide), if_neg (show ¬ nI 5 = (2 : Int32) by decide), if_neg (show ¬ nI 5 = (3 : Int32) by decide), if_neg (show ¬ nI 5 = (4 : Int32) by decide), e4, obd_s])) p4 f4
/-! ===== the class: the moves, in their order ===== -/
def ms (x : Int32) : List Nat := (List.range 16).filter fun i => bt x i
theorem pc_ms {x : Int32} (h : ∀ i, 16 ≤ i → i < 32 → bt x i = false) : pc x = (ms x).length := by
  unfold pc ms
  have e : List.range 32 = List.range 16 ++ List.range' 16 16 := by decide
  rw [e, List.filter_append, List.length_append]
  have z : (List.range' 16 16).filter (fun i => bt x i) = [] := by
    rw [List.filter_eq_nil_iff]
    intro i hi
    have := List.mem_range'_1.mp hi
    rw [h i this.1 (by omega)]
    decide
  rw [z]
  rfl
theorem mem_l (x : Int32) (M : Mem) : ∀ (d j i n v : Nat), j + d = 16 → d + 1 ≤ n → i < 16 → ((List.range' j d).filter fun i => bt x i)[i]? = some v → f_X9_memberAt_4 M n x (nI i) (nI j) = some (nI v) := by
  intro d
  induction d with
  | zero => intro j i n v _ _ _ h; simp at h
  | succ d ih =>
    intro j i n v hj hn hi h
    obtain ⟨n, rfl⟩ : ∃ m, n = m + 1 := ⟨n - 1, by omega⟩
    rw [List.range'_succ, List.filter_cons] at h
    rw [f_X9_memberAt_4, if_neg (show ¬ (16 : Int32) ≤ nI j from nI_ge (a := j) (b := 16) (by omega) (by decide)), f_has9 _ (by omega), obd_s]
    by_cases c : bt x j = true
    · rw [if_pos c] at h
      rw [if_pos c, if_neg ne10]
      cases i with
      | zero =>
        rw [if_pos (by rfl)]
        have : j = v := by simpa using h
        rw [this]
      | succ i =>
        rw [if_neg (nI_ne0 (by omega) (by omega)), show nI (i + 1) + (-1 : Int32) = nI i by rw [← nI_pred i, Int32.sub_eq_add_neg], bnd_e, nI_1, bnd_e]
        exact ih (j + 1) i n v (by omega) (by omega) (by omega) (by simpa using h)
    · rw [if_neg c] at h
      rw [if_neg c, if_pos rfl, nI_1, bnd_e]
      exact ih (j + 1) i n v (by omega) (by omega) hi h
theorem f_member {x : Int32} {i v n : Nat} (M : Mem) (hn : 17 ≤ n) (h : (ms x)[i]? = some v) : f_X9_memberAt n x (nI i) M = some (nI v) := by
  have hl : (ms x).length ≤ 16 := by
    have := List.length_filter_le (fun i => bt x i) (List.range 16)
    rw [List.length_range] at this
    exact this
  have hi : i < 16 := by
    rcases Nat.lt_or_ge i (ms x).length with q | q
    · omega
    · rw [List.getElem?_eq_none q] at h; exact absurd h (by simp)
  unfold ms at h
  rw [List.range_eq_range'] at h
  exact mem_l x M 16 0 i n v rfl (by omega) hi h
theorem HV.busy {M : Mem} {h X Y N : Nat} {t : Int32} {Q : Nat → Int32} {S : St} {pb pt : List Row4} (p : HV M h X Y t N Q S pb pt) {f g : Nat} (hf : f < 16) (hg : g < 32) : bt (mI M (h + 5) f) g = decide (g < 16 ∧ xL S (16 * f + g) ≠ []) := by
  obtain ⟨d5, d6, d7, len, K, fr, us, ow, w, hK⟩ := p.2.1
  rw [w.2.2.2.2.2.2.1 f hf g hg]
  by_cases c : g < 16
  · have := hK (16 * f + g) (by omega)
    have e : (K (16 * f + g) ≠ []) ↔ xL S (16 * f + g) ≠ [] := by
      rw [← this]
      constructor
      · intro z y
        exact z (List.map_eq_nil_iff.mp y)
      · intro z y
        rw [y] at z
        exact z rfl
    by_cases d : xL S (16 * f + g) = []
    · simp [c, d, e]
    · simp [c, d, e]
  · simp [c]
/-- whither letters of f's are under way -/
def lnf (S : St) (f : Nat) : List Nat := (List.range 16).filter fun g => !(xL S (16 * f + g)).isEmpty
def lnr (S : St) (f d : Nat) : List Nat := (List.range' f d).flatMap fun f => (lnf S f).map fun g => 16 * f + g
theorem ms_busy {M : Mem} {h X Y N : Nat} {t : Int32} {Q : Nat → Int32} {S : St} {pb pt : List Row4} (p : HV M h X Y t N Q S pb pt) {f : Nat} (hf : f < 16) : ms (mI M (h + 5) f) = lnf S f := by
  unfold ms lnf
  apply List.filter_congr
  intro g hg
  have := List.mem_range.mp hg
  rw [p.busy hf (by omega)]
  cases xL S (16 * f + g) with
  | nil => simp
  | cons a b => simp [this]
theorem lanes_e (S : St) : lanes S = lnr S 0 16 := by
  have e : List.range 256 = (List.range' 0 16).flatMap fun f => (List.range 16).map fun g => 16 * f + g := by decide +kernel
  unfold lanes lnr lnf
  rw [e, List.filter_flatMap]
  congr 1
  funext f
  rw [List.filter_map]
  rfl
theorem lnr_s (S : St) (f d : Nat) : lnr S f (d + 1) = (lnf S f).map (fun g => 16 * f + g) ++ lnr S (f + 1) d := by
  unfold lnr
  rw [List.range'_succ, List.flatMap_cons]
theorem lnr_z (S : St) : ∀ (d f : Nat), (∀ i, f ≤ i → i < f + d → ∀ g, g < 16 → xL S (16 * i + g) = []) → lnr S f d = [] := by
  intro d
  induction d with
  | zero => intro f _; rfl
  | succ d ih =>
    intro f h
    rw [lnr_s, ih (f + 1) (fun i a b => h i (by omega) (by omega))]
    have : lnf S f = [] := by
      unfold lnf
      rw [List.filter_eq_nil_iff]
      intro g hg
      rw [h f (Nat.le_refl _) (by omega) g (List.mem_range.mp hg)]
      simp
    rw [this]
    rfl
theorem lnr_ap (S : St) : ∀ (d f e : Nat), lnr S f (d + e) = lnr S f d ++ lnr S (f + d) e := by
  intro d
  induction d with
  | zero => intro f e; rw [Nat.zero_add]; rfl
  | succ d ih =>
    intro f e
    rw [show d + 1 + e = (d + e) + 1 by omega, lnr_s, ih, lnr_s, List.append_assoc, show f + 1 + d = f + (d + 1) by omega]
theorem lanes_N {N A : Nat} {S : St} (hI : Inv N A S) (h16 : N ≤ 16) : lanes S = lnr S 0 N := by
  have e := lnr_ap S N 0 (16 - N)
  rw [show N + (16 - N) = 16 by omega] at e
  rw [lanes_e, e, lnr_z S (16 - N) (0 + N) (fun i a b g hg => ?_), List.append_nil]
  exact (hI.2.2.2.2.1 (16 * i + g) (by omega)).2 (by omega)
theorem ms_in {M : Mem} {h X Y N A : Nat} {t : Int32} {Q : Nat → Int32} {S : St} {pb pt : List Row4} (p : HV M h X Y t N Q S pb pt) (hI : Inv N A S) (h16 : N ≤ 16) : ms (mI M h 7) = inss N S := by
  have b7 := p.2.2.1.2.1
  have e : List.range 16 = List.range N ++ List.range' N (16 - N) := by
    have := List.range'_append_1 (s := 0) (m := N) (n := 16 - N)
    rw [Nat.zero_add] at this
    rw [List.range_eq_range', List.range_eq_range', this, show N + (16 - N) = 16 by omega]
  unfold ms inss
  rw [e, List.filter_append]
  have z : (List.range' N (16 - N)).filter (fun i => bt (mI M h 7) i) = [] := by
    rw [List.filter_eq_nil_iff]
    intro i hi
    have := List.mem_range'_1.mp hi
    rw [b7 i (by omega), (hI.1 i (by omega)).2.1 this.1]
    simp
  rw [z, List.append_nil]
  apply List.filter_congr
  intro g hg
  have := List.mem_range.mp hg
  rw [b7 g (by omega)]
  simp [show g < 16 by omega]
theorem cn_l {M : Mem} {h X Y N A : Nat} {t : Int32} {Q : Nat → Int32} {S : St} {pb pt : List Row4} (p : HV M h X Y t N Q S pb pt) (h16 : N ≤ 16) : ∀ (d f n c : Nat), f + d = N → d + 1 ≤ n → f_X2_countMoves_10 M n h (nI c) (nI f) = some (nI (c + (lnr S f d).length)) := by
  intro d
  induction d with
  | zero =>
    intro f n c hf hn
    obtain ⟨n, rfl⟩ : ∃ m, n = m + 1 := ⟨n - 1, by omega⟩
    have q := p.1
    rw [f_X2_countMoves_10, cs_f q, cs_h0 q, bnd_e, cs_s q, p.2.2.2.2.2.1, if_pos (nI_le (by omega) (by omega))]
    rfl
  | succ d ih =>
    intro f n c hf hn
    obtain ⟨n, rfl⟩ : ∃ m, n = m + 1 := ⟨n - 1, by omega⟩
    have q := p.1
    have hb : ∀ i, 16 ≤ i → i < 32 → bt (mI M (h + 5) f) i = false := fun i a b => by
      rw [p.busy (by omega) b]; simp; omega
    rw [f_X2_countMoves_10, cs_f q, cs_h0 q, bnd_e, cs_s q, p.2.2.2.2.2.1, if_neg (nI_ge (by omega) (by omega)), cs_h1 q, bnd_e, cs_p q, cs_r5 q, bnd_e, cs_a5 q, cs_i5 q (by omega), cl_n (by omega), f_bcx hb, obd_s, nI_add, bnd_e, nI_1, bnd_e, ih _ _ _ (by omega) (by omega), pc_ms hb, ms_busy p (by omega), lnr_s, List.length_append, List.length_map, Nat.add_assoc]
theorem HV.cm {M : Mem} {h X Y N A n : Nat} {t : Int32} {Q : Nat → Int32} {S : St} {pb pt : List Row4} (p : HV M h X Y t N Q S pb pt) (hI : Inv N A S) (h16 : N ≤ 16) (hn : 17 ≤ n) : f_X2_countMoves n h M = some (nI (mv0 N S).length) := by
  have b7 := p.2.2.1.2.1
  have hb : ∀ i, 16 ≤ i → i < 32 → bt (mI M h 7) i = false := fun i a b => by
    rw [b7 i b]; simp; omega
  rw [f_X2_countMoves, cs_f p.1, f_bcx hb, obd_s, pc_ms hb, ms_in p hI h16]
  have := cn_l (A := A) p h16 N 0 n (inss N S).length (by omega) (by omega)
  rw [show nI 0 = (0 : Int32) from rfl] at this
  rw [this]
  unfold mv0
  rw [List.length_append, List.length_map, lanes_N hI h16, Nat.add_comm]
set_option maxHeartbeats 1000000 in
theorem mk_l {M : Mem} {h X Y N A : Nat} {t : Int32} {Q : Nat → Int32} {S : St} {pb pt : List Row4} (p : HV M h X Y t N Q S pb pt) (hI : Inv N A S) (hA : A < 1048576) (h2 : 2 ≤ N) (h16 : N ≤ 16) (hl : (fl S).length + N ≤ 9000) {c : Nat} : ∀ (d f n k : Nat), f + d = N → d + 18 ≤ n → k < 1000 → (lnr S f d ++ (inss N S).map (fun v => 256 + v))[k]? = some c → ∃ M', f_X2_makeMove_4 n h (nI k) (nI f) M = some M' ∧ HV M' h X Y t N Q (dm t N c S) pb pt ∧ FrH M M' h := by
  intro d
  induction d with
  | zero =>
    intro f n k hf hn hk hc
    obtain ⟨n, rfl⟩ : ∃ m, n = m + 1 := ⟨n - 1, by omega⟩
    have q := p.1
    have b7 := p.2.2.1.2.1
    have hb : ∀ i, 16 ≤ i → i < 32 → bt (mI M h 7) i = false := fun i a b => by
      rw [b7 i b]; simp; omega
    have hc2 : ((inss N S).map (fun v => 256 + v))[k]? = some c := hc
    rw [List.getElem?_map] at hc2
    cases hv : (inss N S)[k]? with
    | none => rw [hv] at hc2; exact absurd hc2 (by simp)
    | some v =>
      rw [hv] at hc2
      have ev : 256 + v = c := by simpa using hc2
      have hin := inss_in (List.mem_of_getElem? hv)
      have kl : k < (inss N S).length := by
        rcases Nat.lt_or_ge k (inss N S).length with z | z
        · exact z
        · rw [List.getElem?_eq_none z] at hv; exact absurd hv (by simp)
      have l16 : (inss N S).length ≤ 16 := by
        have := List.length_filter_le (fun v => decide (xR S 0 v = 2)) (List.range N)
        rw [List.length_range] at this
        unfold inss; omega
      obtain ⟨M', e', p', f'⟩ := p.tlv (n := n) h16 (v := v) (by omega) hl (by omega)
      refine ⟨M', ?_, ?_, f'⟩
      · rw [f_X2_makeMove_4, cs_f q, cs_h0 q, bnd_e, cs_s q, p.2.2.2.2.2.1, if_pos (nI_le (by omega) (by omega)), f_bcx hb, obd_s, pc_ms hb, ms_in p hI h16, if_neg (nI_ge (by omega) (by omega)), f_member M (by omega) (by rw [ms_in p hI h16]; exact hv), obd_s, e', obd_s]
      · unfold dm
        rw [if_neg (by omega), if_pos (by omega), ← ev, show 256 + v - 256 = v by omega]
        exact p'
  | succ d ih =>
    intro f n k hf hn hk hc
    obtain ⟨n, rfl⟩ : ∃ m, n = m + 1 := ⟨n - 1, by omega⟩
    have q := p.1
    have hb : ∀ i, 16 ≤ i → i < 32 → bt (mI M (h + 5) f) i = false := fun i a b => by
      rw [p.busy (by omega) b]; simp; omega
    rw [lnr_s, List.append_assoc] at hc
    have l16 : (lnf S f).length ≤ 16 := by
      have := List.length_filter_le (fun g => !(xL S (16 * f + g)).isEmpty) (List.range 16)
      rw [List.length_range] at this
      unfold lnf; omega
    by_cases c2 : (lnf S f).length ≤ k
    · rw [List.getElem?_append_right (by rw [List.length_map]; exact c2), List.length_map] at hc
      obtain ⟨M', e', r⟩ := ih (f + 1) n (k - (lnf S f).length) (by omega) (by omega) (by omega) hc
      exact ⟨M', by rw [f_X2_makeMove_4, cs_f q, cs_h0 q, bnd_e, cs_s q, p.2.2.2.2.2.1, if_neg (nI_ge (by omega) (by omega)), cs_h1 q, bnd_e, cs_p q, cs_r5 q, bnd_e, cs_a5 q, cs_i5 q (by omega), mI_c (by omega), f_bcx hb, obd_s, pc_ms hb, ms_busy p (by omega), if_pos (nI_le c2 (by omega)), nI_sb c2, bnd_e, nI_1, bnd_e, e'], r⟩
    · rw [List.getElem?_append_left (by rw [List.length_map]; omega), List.getElem?_map] at hc
      cases hg : (lnf S f)[k]? with
      | none => rw [hg] at hc; exact absurd hc (by simp)
      | some g =>
        rw [hg] at hc
        have ec : 16 * f + g = c := by simpa using hc
        have mg := List.mem_of_getElem? hg
        unfold lnf at mg
        obtain ⟨mg1, mg2⟩ := List.mem_filter.mp mg
        have g16 := List.mem_range.mp mg1
        obtain ⟨x, r, hx⟩ : ∃ x r, xL S (16 * f + g) = x :: r := by
          cases z : xL S (16 * f + g) with
          | nil => rw [z] at mg2; simp at mg2
          | cons x r => exact ⟨x, r, rfl⟩
        have gN : g < N := by
          rcases Nat.lt_or_ge g N with z | z
          · exact z
          · have := (hI.2.2.2.2.1 (16 * f + g) (by omega)).2 (by omega)
            rw [this] at hx
            exact absurd hx (by simp)
        obtain ⟨M', e', p', f'⟩ := p.tbr hI hA h2 h16 (f := f) (g := g) (by omega) gN hx hl (n := n) (by omega)
        refine ⟨M', ?_, ?_, f'⟩
        · rw [f_X2_makeMove_4, cs_f q, cs_h0 q, bnd_e, cs_s q, p.2.2.2.2.2.1, if_neg (nI_ge (by omega) (by omega)), cs_h1 q, bnd_e, cs_p q, cs_r5 q, bnd_e, cs_a5 q, cs_i5 q (by omega), mI_c (by omega), f_bcx hb, obd_s, pc_ms hb, ms_busy p (by omega), if_neg (nI_ge (by omega) (by omega)), bnd_e, cs_p q, cs_r5 q, bnd_e, cs_a5 q, cs_i5 q (by omega), mI_c (by omega), f_member M (by omega) (by rw [ms_busy p (by omega)]; exact hg), obd_s, e', obd2_s]
        · unfold dm
          rw [if_pos (by omega), ← ec, show (16 * f + g) / 16 = f by omega, show (16 * f + g) % 16 = g by omega]
          exact p'
theorem HV.mk {M : Mem} {h X Y N A n k c : Nat} {t : Int32} {Q : Nat → Int32} {S : St} {pb pt : List Row4} (p : HV M h X Y t N Q S pb pt) (hI : Inv N A S) (hA : A < 1048576) (h2 : 2 ≤ N) (h16 : N ≤ 16) (hl : (fl S).length + N ≤ 9000) (hn : 40 ≤ n) (hc : (mv0 N S)[k]? = some c) (hk : k < 1000) : ∃ M', f_X2_makeMove n h (nI k) M = some M' ∧ HV M' h X Y t N Q (dm t N c S) pb pt ∧ FrH M M' h := by
  unfold mv0 at hc
  rw [lanes_N hI h16] at hc
  exact mk_l p hI hA h2 h16 hl N 0 n k (by omega) (by omega) hk hc
/-! ===== the class: a move by a draw; all ask ===== -/
theorem HV.tsL {M : Mem} {h X Y N : Nat} {t : Int32} {Q : Nat → Int32} {S : St} {pb pt : List Row4} (p : HV M h X Y t N Q S pb pt) (o k : Nat) (x : Int64) : HV (sL M o k x) h X Y t N Q S pb pt :=
  p.at rfl (fun _ _ _ => rfl) (p.2.2.1.cg (fun _ _ _ => rfl) (fun _ _ _ => rfl) rfl) rfl rfl rfl rfl
/-- a step with a draw before it -/
def FrD (M M' : Mem) (h : Nat) : Prop := ∃ x, FrH (sL M h 16 x) M' h
theorem mL_sL (M : Mem) (o k : Nat) (x : Int64) (a b : Nat) : mL (sL M o k x) a b = if a = o ∧ b = k then x else mL M a b := rfl
theorem FrH.sL {M M' : Mem} {h : Nat} (p : FrH M M' h) (x : Int64) : FrH (sL M h 16 x) (sL M' h 16 x) h := by
  obtain ⟨a1, a2, a3, a4, a5, a6⟩ := p
  refine ⟨a1, a2, a3, a4, fun o ho b => ?_, a6⟩
  rw [mL_sL, mL_sL]
  by_cases c : o = h ∧ b = 16
  · rw [if_pos c, if_pos c]
  · rw [if_neg c, if_neg c]; exact a5 o ho b
theorem sL_sL (M : Mem) (o k : Nat) (x y : Int64) : sL (sL M o k x) o k y = sL M o k y := by
  show (M.1, M.2.1, up2 (up2 M.2.2 o k x) o k y) = (M.1, M.2.1, up2 M.2.2 o k y)
  congr 2
  funext a b
  unfold up2
  by_cases c : a = o ∧ b = k
  · rw [if_pos c, if_pos c]
  · rw [if_neg c, if_neg c, if_neg c]
theorem sL_id (M : Mem) (o k : Nat) : sL M o k (mL M o k) = M := by
  show (M.1, M.2.1, up2 M.2.2 o k (M.2.2 o k)) = M
  have e : up2 M.2.2 o k (M.2.2 o k) = M.2.2 := by
    funext a b
    unfold up2
    by_cases c : a = o ∧ b = k
    · rw [if_pos c, c.1, c.2]
    · rw [if_neg c]
  rw [e]
theorem FrH.D {M M' : Mem} {h : Nat} (p : FrH M M' h) : FrD M M' h := ⟨mL M h 16, by rw [sL_id]; exact p⟩
theorem FrD.tr {M M' M'' : Mem} {h : Nat} (p : FrD M M' h) (p' : FrD M' M'' h) : FrD M M'' h := by
  obtain ⟨x, p⟩ := p
  obtain ⟨y, p'⟩ := p'
  have := p.sL y
  rw [sL_sL] at this
  exact ⟨y, this.tr p'⟩
set_option maxHeartbeats 1000000 in
theorem HV.dr {M : Mem} {h X Y N A n : Nat} {t : Int32} {Q : Nat → Int32} {S : St} {pb pt : List Row4} (p : HV M h X Y t N Q S pb pt) (hI : Inv N A S) (hA : A < 1048576) (h2 : 2 ≤ N) (h16 : N ≤ 16) (hl : (fl S).length + N ≤ 9000) (hh : h < mN M) {g : Int64} (hg : mL M h 16 = g) (hG : Gk g) (hn : 40 ≤ n) : (mv0 N S = [] → f_X2_moveByDraw n h M = some (0, M)) ∧ (mv0 N S ≠ [] → ∃ c M', (mv0 N S)[dk g (mv0 N S).length]? = some c ∧ f_X2_moveByDraw n h M = some (1, M') ∧ HV M' h X Y t N Q (dm t N c S) pb pt ∧ mL M' h 16 = drw g ∧ FrD M M' h) := by
  have hml := mvl_len (N := N) S 0 (fun _ => 0)
  rw [mvl_0] at hml
  have q := p.1
  have ec := p.cm hI h16 (n := n) (by omega)
  constructor
  · intro c
    rw [c] at ec
    rw [f_X2_moveByDraw, cs_f q, ec, obd_s, if_neg (show ¬ (1 : Int32) ≤ nI ([] : List Nat).length by decide)]
  · intro c
    have hpos : 0 < (mv0 N S).length := List.length_pos_iff.mpr c
    obtain ⟨k, hk, ek⟩ := drk_lt hG hpos (by omega)
    have edk : dk g (mv0 N S).length = k := by unfold dk; rw [ek, nI_clamp (by omega)]
    generalize hM2 : sL M h 16 (drw g) = M2
    have p2 : HV M2 h X Y t N Q S pb pt := by rw [← hM2]; exact p.tsL _ _ _
    have g2 : mL M2 h 16 = drw g := by rw [← hM2, mL_s]
    obtain ⟨M3, e3, p3, f3⟩ := p2.mk hI hA h2 h16 hl hn (k := k) (List.getElem?_eq_getElem hk) (by omega)
    have nz : ¬ (nI (mv0 N S).length).toInt64 = 0 := by
      rw [nI_l (by omega), show (0 : Int64) = lN 0 from rfl]
      exact fun q => by have := (lN_eq (by omega) (by decide)).mp q; omega
    have ek2 : (((((drw g) / (65536 : Int64)) - ((drw g) / (65536 : Int64)) / ((nI (mv0 N S).length).toInt64) * ((nI (mv0 N S).length).toInt64))).toInt32) = nI k := ek
    have hN2 : mN M2 = mN M := by rw [← hM2]; rfl
    refine ⟨(mv0 N S)[k], M3, by rw [edk]; exact List.getElem?_eq_getElem hk, ?_, p3, (f3.2.2.2.2.1 h (by omega) 16).trans g2, ⟨drw g, by rw [hM2]; exact f3⟩⟩
    rw [f_X2_moveByDraw, cs_f q, ec, obd_s, if_pos (show (1 : Int32) ≤ nI (mv0 N S).length from nI_le (a := 1) (by omega) (by omega)), chk_t (by decide), hg]
    rw [show ((g * (1103515245 : Int64)) + (12345 : Int64)) - ((g * (1103515245 : Int64)) + (12345 : Int64)) / (2147483648 : Int64) * (2147483648 : Int64) = drw g from rfl, hM2, bnd_e, chk_t (by decide), chk_t nz, g2, ek2, e3, obd_s]
theorem HV.may {M : Mem} {h X Y N : Nat} {t : Int32} {Q : Nat → Int32} {S : St} {pb pt : List Row4} (p : HV M h X Y t N Q S pb pt) (hI : IA N S) (h16 : N ≤ 16) {v : Nat} (hv : v < N) (hQ : qm N S v = Q v) : f_X2_mayAsk h (nI v) M = some (if mayA N v S then 1 else 0) := by
  have q := p.1
  obtain ⟨_, g7, g8, g9, _⟩ := p.2.2.1
  obtain ⟨i0, _, i7, _⟩ := hI v (by omega)
  rw [f_X2_mayAsk, cs_f q, f_has9 _ (by omega), obd_s, b_or, b_or, g7 v (by omega), g8 v (by omega), g9 v (by omega)]
  unfold mayA
  rw [hQ]
  have v6 : v < 16 := by omega
  by_cases c : xR S 0 v = 0 ∧ xR S 7 v = 0
  · obtain ⟨c0, c7⟩ := c
    have hz : (decide (v < 16 ∧ (0 : Int32) = 2) || decide (v < 16 ∧ (0 : Int32) = 1) || decide (v < 16 ∧ (0 : Int32) = 1)) = false := by simp
    rw [c0, c7, hz, if_neg (show ¬ false = true by decide), if_pos rfl, cs_h5 q, bnd_e, cs_a15 q, cs_i15 q v6, cl_n (by omega), p.2.2.2.2.2.2 v hv]
    by_cases d : Q v = 0
    · rw [if_pos d, d]; simp
    · rw [if_neg d]; simp [d]
  · have : (decide (v < 16 ∧ xR S 0 v = 2) || decide (v < 16 ∧ xR S 0 v = 1) || decide (v < 16 ∧ xR S 7 v = 1)) = true := by
      rcases i0 with e0 | e0 | e0
      · rcases i7 with e7 | e7
        · exact absurd ⟨e0, e7⟩ c
        · simp [e7, v6]
      · simp [e0, v6]
      · simp [e0, v6]
    rw [if_pos this, if_neg ne10]
    have n : (decide (xR S 0 v = 0) && (decide (xR S 7 v = 0) && !decide (Q v = 0))) = false := by
      by_cases c0 : xR S 0 v = 0
      · by_cases c7 : xR S 7 v = 0
        · exact absurd ⟨c0, c7⟩ c
        · simp [c7]
      · simp [c0]
    rw [n]
    rfl
theorem IA_ak {N v : Nat} {S : St} (hI : IA N S) (hv : v < N) (t : Int32) : IA N (ak t N v S) := by
  intro u hu
  obtain ⟨i0, iN, i7, i10⟩ := hI u hu
  rw [ak_R (by decide), ak_R (by decide), ak_R (by decide)]
  by_cases c : u = v
  · rw [if_pos c, if_pos c, if_pos c, if_pos rfl, if_neg (by decide), if_neg (by decide), if_neg (by decide), if_neg (by decide), if_neg (by decide), if_neg (by decide), if_neg (by decide), if_neg (by decide), if_neg (by decide), if_neg (by decide), if_neg (by decide), if_neg (by decide), if_neg (by decide), if_neg (by decide), if_neg (by decide), if_neg (by decide), if_neg (by decide), if_neg (by decide)]
    exact ⟨Or.inr (Or.inl rfl), fun z => by omega, i7, i10⟩
  · rw [if_neg c, if_neg c, if_neg c]
    exact ⟨i0, iN, i7, i10⟩
/-- what a quorum is told of -/
def Qk (S S' : St) : Prop := ∀ k, k = 7 ∨ k = 17 ∨ k = 20 → ∀ i, xR S' k i = xR S k i
theorem Qk.m {S S' : St} (h : Qk S S') (N v : Nat) : qm N S' v = qm N S v := by
  have e7 := h 7 (by omega)
  have e17 := h 17 (by omega)
  have e20 := h 20 (by omega)
  have eb : bkm N S' = bkm N S := by
    unfold bkm bk
    simp only [e7]
  unfold qm qby fub
  simp only [eb, e17, e20]
theorem Qk.ak (t : Int32) (N v : Nat) (S : St) : Qk S (ak t N v S) := by
  intro k hk i
  rw [ak_R (by omega)]
  by_cases c : i = v
  · rw [if_pos c, if_neg (by omega), if_neg (by omega), if_neg (by omega), if_neg (by omega), if_neg (by omega), if_neg (by omega), if_neg (by omega), if_neg (by omega), if_neg (by omega)]
  · rw [if_neg c]
set_option maxHeartbeats 1000000 in
theorem HV.aal {h X Y N : Nat} {t : Int32} {Q : Nat → Int32} {pb pt : List Row4} (h16 : N ≤ 16) : ∀ (d i n : Nat) (M : Mem) (S : St), HV M h X Y t N Q S pb pt → IA N S → (∀ v, v < N → qm N S v = Q v) → i + d = N → (fl S).length + N * d ≤ 9000 → d + 18 ≤ n → ∃ M', f_X2_letAllAsk_2 n h (nI i) M = some M' ∧ HV M' h X Y t N Q (akl t N (List.range' i d) S) pb pt ∧ FrH M M' h := by
  intro d
  induction d with
  | zero =>
    intro i n M S p hI hQ hi hl hn
    obtain ⟨n, rfl⟩ : ∃ m, n = m + 1 := ⟨n - 1, by omega⟩
    refine ⟨M, ?_, p, FrH.rf _ _⟩
    have q := p.1
    rw [f_X2_letAllAsk_2, cs_f q, cs_h0 q, bnd_e, cs_s q, p.2.2.2.2.2.1, if_pos (nI_le (by omega) (by omega))]
  | succ d ih =>
    intro i n M S p hI hQ hi hl hn
    obtain ⟨n, rfl⟩ : ∃ m, n = m + 1 := ⟨n - 1, by omega⟩
    rw [Nat.mul_succ] at hl
    have q := p.1
    have em := p.may hI h16 (v := i) (by omega) (hQ i (by omega))
    have el : akl t N (List.range' i (d + 1)) S = akl t N (List.range' (i + 1) d) (if mayA N i S then ak t N i S else S) := by
      unfold akl
      rw [List.range'_succ, List.foldl_cons]
    rw [el, f_X2_letAllAsk_2, cs_f q, cs_h0 q, bnd_e, cs_s q, p.2.2.2.2.2.1, if_neg (nI_ge (by omega) (by omega)), em, obd_s]
    by_cases c : mayA N i S = true
    · rw [if_pos c, if_pos c, if_neg ne10]
      have c0 : xR S 0 i = 0 := by
        unfold mayA at c
        exact of_decide_eq_true (Bool.and_eq_true _ _ |>.mp c).1
      obtain ⟨M2, e2, p2, f2⟩ := p.tak h16 (v := i) (by omega) (by rw [c0]; decide) (hQ i (by omega)) (by omega) (n := n) (by omega)
      have hlen := ak_len (N := N) (v := i) (S := S) h16 (by omega) t
      obtain ⟨M3, e3, p3, f3⟩ := ih (i + 1) n M2 _ p2 (IA_ak hI (by omega) t) (fun v hv => by rw [(Qk.ak t N i S).m]; exact hQ v hv) (by omega) (by omega) (by omega)
      exact ⟨M3, by rw [e2, obd_s, nI_1, bnd_e, e3], p3, f2.tr f3⟩
    · rw [if_neg c, if_neg c, if_pos rfl]
      obtain ⟨M3, e3, p3, f3⟩ := ih (i + 1) n M S p hI hQ (by omega) (by omega) (by omega)
      exact ⟨M3, by rw [nI_1, bnd_e, e3], p3, f3⟩
theorem HV.takA {M : Mem} {h X Y N n : Nat} {t : Int32} {Q : Nat → Int32} {S : St} {pb pt : List Row4} (p : HV M h X Y t N Q S pb pt) (h16 : N ≤ 16) (hI : IA N S) (hQ : ∀ v, v < N → qm N S v = Q v) (hl : (fl S).length + N * N ≤ 9000) (hn : 40 ≤ n) : ∃ M', f_X2_letAllAsk n h M = some M' ∧ HV M' h X Y t N Q (akA t N S) pb pt ∧ FrH M M' h := by
  obtain ⟨M', e, p', f'⟩ := HV.aal (t := t) (Q := Q) (pb := pb) (pt := pt) h16 N 0 n M S p hI hQ (by omega) hl (by omega)
  refine ⟨M', ?_, ?_, f'⟩
  · rw [f_X2_letAllAsk]; exact e
  · unfold akA; rw [List.range_eq_range']; exact p'
/-! ===== the class: one hall's letters for another's ===== -/
theorem cp_I (M : Mem) (a b n o j : Nat) : mI (cpI M a 0 b 0 n) o j = if o = b ∧ j < n then mI M a j else mI M o j := by
  show (if o = b then va_cpy (M.2.1 a) (M.2.1 b) 0 0 n j else M.2.1 o j) = _
  by_cases c : o = b
  · rw [if_pos c]
    by_cases d : j < n
    · rw [pk_cpy_in (Nat.zero_le _) (by omega), if_pos ⟨c, d⟩, Nat.zero_add, Nat.sub_zero]; rfl
    · rw [pk_cpy_out (by omega), if_neg (fun z => d z.2), ← c]; rfl
  · rw [if_neg c, if_neg (fun z => c z.1)]; rfl
theorem cp_st {α : Type} {M : Mem} {a b n la lb : Nat} (f : Mem → Option α) (h1 : n ≤ la) (h2 : n ≤ lb) (h3 : n < 2 ^ 31) : (chk (cp_ok (0 : Int32) (0 : Int32) (nI n) 0 la lb) <| bnd (cpI M a ((0 : Int32)).toNatClampNeg b ((0 : Int32)).toNatClampNeg (nI n).toNatClampNeg) f) = f (cpI M a 0 b 0 n) := by
  have c0 : ((0 : Int32)).toNatClampNeg = 0 := cl0
  have cn : (nI n).toNatClampNeg = n := nI_clamp h3
  have n0 : ¬ nI n < 0 := nI_nlt (b := 0) (Nat.zero_le _) h3
  rw [chk_t (⟨by decide, by decide, n0, by rw [c0, cn]; omega, by rw [c0, cn]; omega⟩), bnd_e, c0, cn]
theorem far1 {k e i j : Nat} (he : e = k + i ∨ 131 ≤ e) (hi : 7 ≤ i) (hk : k + 49 ≤ 131) (hj : j ≤ 6) : k + j ≠ e := by omega
theorem far2 {h k e i j : Nat} (he : e = k + i ∨ 131 ≤ e) (hi : i ≤ 9) (hk : h + 49 ≤ k ∨ k + 49 ≤ h) (hh : h + 49 ≤ 131) (hj : j ≤ 9) : h + j ≠ e := by omega
theorem far3 {h k i j : Nat} (hk : h + 49 ≤ k ∨ k + 49 ≤ h) (hi : i ≤ 9) (hj : j ≤ 9) : h + i ≠ k + j := by omega
set_option maxHeartbeats 4000000 in
theorem PW.copy {M : Mem} {h k d5 d6 d7 len e5 e6 e7 len' : Nat} {t : Int32} {se : Nat → Int32} {K : Nat → List (Nat × Ltr)} {fr : List Nat} {us : Nat} {ow : Nat → Nat} (q : CS M h) (q' : CS M k) (hk : h + 49 ≤ k ∨ k + 49 ≤ h) (p : PW M h d5 d6 d7 len t se K fr us ow 0) (w : DS M k e5 e6 e7 len') (hu : us ≤ len') (h64 : 64 ≤ len') (h18 : len' ≤ 18000) (hd : (e5 ≠ d5 ∧ e5 ≠ d6 ∧ e5 ≠ d7) ∧ (e6 ≠ d5 ∧ e6 ≠ d6 ∧ e6 ≠ d7) ∧ (e7 ≠ d5 ∧ e7 ≠ d6 ∧ e7 ≠ d7)) : ∃ M', f_X5_copyFrom (k + 1) (h + 1) M = some M' ∧ PW M' k e5 e6 e7 len' t se K fr us ow 0 ∧ M'.1 = M.1 ∧ (∀ o b, mL M' o b = mL M o b) ∧ (∀ o, ¬ (k + 1 ≤ o ∧ o ≤ k + 6) → o ≠ e5 → o ≠ e6 → o ≠ e7 → ∀ b, mI M' o b = mI M o b) := by
  obtain ⟨⟨hd51, hd52, hd53⟩, ⟨hd61, hd62, hd63⟩, ⟨hd71, hd72, hd73⟩⟩ := hd
  obtain ⟨w0, pc, pn, pch, pla, pma, pbu, pse, ⟨pf1, pf2, pf3⟩, ⟨pu1, pu2, pu3, pu4, pu5⟩, pt, tot, pt1, pt2, pt3⟩ := p
  obtain ⟨⟨a5, a6, a7⟩, ⟨b5, b6, b7⟩, ⟨l5, l6, l7⟩, x1, x2, x3, x4, x5, x6⟩ := w0
  obtain ⟨⟨a5', a6', a7'⟩, ⟨b5', b6', b7'⟩, ⟨l5', l6', l7'⟩, y1, y2, y3, y4, y5, y6⟩ := id w
  have hq := q.2.2.2.2
  have hq' := q'.2.2.2.2
  have hk' : k + 49 ≤ h ∨ h + 49 ≤ k := by omega
  have A5 : ∀ j, j ≤ 6 → k + j ≠ e5 := fun j hj => far1 y1 (by decide) hq'.1 hj
  have A6 : ∀ j, j ≤ 6 → k + j ≠ e6 := fun j hj => far1 y2 (by decide) hq'.1 hj
  have A7 : ∀ j, j ≤ 6 → k + j ≠ e7 := fun j hj => far1 y3 (by decide) hq'.1 hj
  have B5 : ∀ j, j ≤ 9 → h + j ≠ e5 := fun j hj => far2 y1 (by decide) hk hq.1 hj
  have B6 : ∀ j, j ≤ 9 → h + j ≠ e6 := fun j hj => far2 y2 (by decide) hk hq.1 hj
  have B7 : ∀ j, j ≤ 9 → h + j ≠ e7 := fun j hj => far2 y3 (by decide) hk hq.1 hj
  have D5 : ∀ j, j ≤ 9 → k + j ≠ d5 := fun j hj => far2 x1 (by decide) hk' hq'.1 hj
  have D6 : ∀ j, j ≤ 9 → k + j ≠ d6 := fun j hj => far2 x2 (by decide) hk' hq'.1 hj
  have D7 : ∀ j, j ≤ 9 → k + j ≠ d7 := fun j hj => far2 x3 (by decide) hk' hq'.1 hj
  have C0 : ∀ i j, i ≤ 9 → j ≤ 9 → h + i ≠ k + j := fun i j hi hj => far3 hk hi hj
  have lts : ∀ o, o < k + 2 → ¬ (k + 2 ≤ o ∧ o ≤ k + 6) := fun o z => by omega
  have eO5 : ¬ (k + 2 ≤ e5 ∧ e5 ≤ k + 6) := fun z => A5 (e5 - k) (by omega) (by omega)
  have eO6 : ¬ (k + 2 ≤ e6 ∧ e6 ≤ k + 6) := fun z => A6 (e6 - k) (by omega) (by omega)
  have eO7 : ¬ (k + 2 ≤ e7 ∧ e7 ≤ k + 6) := fun z => A7 (e7 - k) (by omega) (by omega)
  have hO : ∀ i, i ≤ 9 → ¬ (k + 2 ≤ h + i ∧ h + i ≤ k + 6) := fun i hi z => C0 i (h + i - k) hi (by omega) (by omega)
  clear hk hk' x1 x2 x3 y1 y2 y3
  generalize hM1 : cpI M d5 0 e5 0 us = M1
  generalize hM2 : cpI M1 d6 0 e6 0 us = M2
  generalize hM3 : cpI M2 d7 0 e7 0 us = M3
  generalize hM4 : cpI M3 (h + 2) 0 (k + 2) 0 256 = M4
  generalize hM5 : cpI M4 (h + 3) 0 (k + 3) 0 256 = M5
  generalize hM6 : cpI M5 (h + 4) 0 (k + 4) 0 256 = M6
  generalize hM7 : cpI M6 (h + 5) 0 (k + 5) 0 16 = M7
  generalize hM8 : cpI M7 (h + 6) 0 (k + 6) 0 6 = M8
  have s1 : M1.1 = M.1 := by rw [← hM1]; rfl
  have s2 : M2.1 = M.1 := by rw [← hM2]; exact s1
  have s3 : M3.1 = M.1 := by rw [← hM3]; exact s2
  have s4 : M4.1 = M.1 := by rw [← hM4]; exact s3
  have s5 : M5.1 = M.1 := by rw [← hM5]; exact s4
  have s6 : M6.1 = M.1 := by rw [← hM6]; exact s5
  have s7 : M7.1 = M.1 := by rw [← hM7]; exact s6
  have s8 : M8.1 = M.1 := by rw [← hM8]; exact s7
  have L8 : ∀ o b, mL M8 o b = mL M o b := fun o b => by rw [← hM8, ← hM7, ← hM6, ← hM5, ← hM4, ← hM3, ← hM2, ← hM1]; rfl
  have r1 : ∀ o j, mI M1 o j = if o = e5 ∧ j < us then mI M d5 j else mI M o j := fun o j => by rw [← hM1]; exact cp_I _ _ _ _ _ _
  have r2 : ∀ o j, mI M2 o j = if o = e6 ∧ j < us then mI M1 d6 j else mI M1 o j := fun o j => by rw [← hM2]; exact cp_I _ _ _ _ _ _
  have r3 : ∀ o j, mI M3 o j = if o = e7 ∧ j < us then mI M2 d7 j else mI M2 o j := fun o j => by rw [← hM3]; exact cp_I _ _ _ _ _ _
  have r4 : ∀ o j, mI M4 o j = if o = k + 2 ∧ j < 256 then mI M3 (h + 2) j else mI M3 o j := fun o j => by rw [← hM4]; exact cp_I _ _ _ _ _ _
  have r5 : ∀ o j, mI M5 o j = if o = k + 3 ∧ j < 256 then mI M4 (h + 3) j else mI M4 o j := fun o j => by rw [← hM5]; exact cp_I _ _ _ _ _ _
  have r6 : ∀ o j, mI M6 o j = if o = k + 4 ∧ j < 256 then mI M5 (h + 4) j else mI M5 o j := fun o j => by rw [← hM6]; exact cp_I _ _ _ _ _ _
  have r7 : ∀ o j, mI M7 o j = if o = k + 5 ∧ j < 16 then mI M6 (h + 5) j else mI M6 o j := fun o j => by rw [← hM7]; exact cp_I _ _ _ _ _ _
  have r8 : ∀ o j, mI M8 o j = if o = k + 6 ∧ j < 6 then mI M7 (h + 6) j else mI M7 o j := fun o j => by rw [← hM8]; exact cp_I _ _ _ _ _ _
  -- what no step has touched
  have o3 : ∀ o, o ≠ e5 → o ≠ e6 → o ≠ e7 → ∀ j, mI M3 o j = mI M o j := fun o n1 n2 n3 j => by
    rw [r3, if_neg (fun z => n3 z.1), r2, if_neg (fun z => n2 z.1), r1, if_neg (fun z => n1 z.1)]
  have o8 : ∀ o, ¬ (k + 2 ≤ o ∧ o ≤ k + 6) → ∀ j, mI M8 o j = mI M3 o j := fun o n j => by
    rw [r8, if_neg (fun z => n (by omega)), r7, if_neg (fun z => n (by omega)), r6, if_neg (fun z => n (by omega)), r5, if_neg (fun z => n (by omega)), r4, if_neg (fun z => n (by omega))]
  have g5 : ∀ j, j < us → mI M8 e5 j = mI M d5 j := fun j hj => by
    rw [o8 _ eO5, r3, if_neg (fun z => y5 z.1), r2, if_neg (fun z => y4 z.1), r1, if_pos ⟨rfl, hj⟩]
  have g6 : ∀ j, j < us → mI M8 e6 j = mI M d6 j := fun j hj => by
    rw [o8 _ eO6, r3, if_neg (fun z => y6 z.1), r2, if_pos ⟨rfl, hj⟩, r1, if_neg (fun z => hd52 z.1.symm)]
  have g7 : ∀ j, j < us → mI M8 e7 j = mI M d7 j := fun j hj => by
    rw [o8 _ eO7, r3, if_pos ⟨rfl, hj⟩, r2, if_neg (fun z => hd63 z.1.symm), r1, if_neg (fun z => hd53 z.1.symm)]
  have hh : ∀ i, i ≤ 6 → ∀ j, mI M3 (h + i) j = mI M (h + i) j := fun i hi j => o3 _ (B5 i (by omega)) (B6 i (by omega)) (B7 i (by omega)) j
  have nk : ∀ i j x, i ≠ j → ¬ (k + i = k + j ∧ x) := fun i j x n z => n (by have := z.1; omega)
  have nh : ∀ i j x, i ≤ 9 → j ≤ 9 → ¬ (h + i = k + j ∧ x) := fun i j x hi hj z => C0 i j hi hj z.1
  have c2 : ∀ j, j < 256 → mI M8 (k + 2) j = mI M (h + 2) j := fun j hj => by
    rw [r8, if_neg (nk 2 6 _ (by decide)), r7, if_neg (nk 2 5 _ (by decide)), r6, if_neg (nk 2 4 _ (by decide)), r5, if_neg (nk 2 3 _ (by decide)), r4, if_pos ⟨rfl, hj⟩, hh 2 (by decide)]
  have c3 : ∀ j, j < 256 → mI M8 (k + 3) j = mI M (h + 3) j := fun j hj => by
    rw [r8, if_neg (nk 3 6 _ (by decide)), r7, if_neg (nk 3 5 _ (by decide)), r6, if_neg (nk 3 4 _ (by decide)), r5, if_pos ⟨rfl, hj⟩, r4, if_neg (nh 3 2 _ (by decide) (by decide)), hh 3 (by decide)]
  have c4 : ∀ j, j < 256 → mI M8 (k + 4) j = mI M (h + 4) j := fun j hj => by
    rw [r8, if_neg (nk 4 6 _ (by decide)), r7, if_neg (nk 4 5 _ (by decide)), r6, if_pos ⟨rfl, hj⟩, r5, if_neg (nh 4 3 _ (by decide) (by decide)), r4, if_neg (nh 4 2 _ (by decide) (by decide)), hh 4 (by decide)]
  have c5 : ∀ j, j < 16 → mI M8 (k + 5) j = mI M (h + 5) j := fun j hj => by
    rw [r8, if_neg (nk 5 6 _ (by decide)), r7, if_pos ⟨rfl, hj⟩, r6, if_neg (nh 5 4 _ (by decide) (by decide)), r5, if_neg (nh 5 3 _ (by decide) (by decide)), r4, if_neg (nh 5 2 _ (by decide) (by decide)), hh 5 (by decide)]
  have c6 : ∀ j, j < 6 → mI M8 (k + 6) j = mI M (h + 6) j := fun j hj => by
    rw [r8, if_pos ⟨rfl, hj⟩, r7, if_neg (nh 6 5 _ (by decide) (by decide)), r6, if_neg (nh 6 4 _ (by decide) (by decide)), r5, if_neg (nh 6 3 _ (by decide) (by decide)), r4, if_neg (nh 6 2 _ (by decide) (by decide)), hh 6 (by decide)]
  have f1 : ∀ j, mI M8 (h + 1) j = mI M (h + 1) j := fun j => by rw [o8 _ (hO 1 (by decide)), hh 1 (by decide)]
  have f1' : ∀ M' : Mem, ∀ o, o ≠ k + 1 → ∀ a x j, mI (sI M' (k + 1) a x) o j = mI M' o j := fun M' o n a x j => mI_o _ _ _ _ _ n
  have u1 : ∀ j, mI M1 (h + 1) j = mI M (h + 1) j := fun j => by rw [r1, if_neg (fun z => B5 1 (by decide) z.1)]
  have u2 : ∀ j, mI M2 (h + 1) j = mI M (h + 1) j := fun j => by rw [r2, if_neg (fun z => B6 1 (by decide) z.1), u1]
  have h1k : h + 1 ≠ k + 1 := C0 1 1 (by decide) (by decide)
  generalize hN1 : sI M8 (k + 1) 8 (nI us) = N1
  generalize hN2 : sI N1 (k + 1) 9 (mI M (h + 1) 9) = N2
  generalize hN3 : sI N2 (k + 1) 10 (nI tot) = N3
  generalize hN4 : sI N3 (k + 1) 11 t = N4
  have t1 : N1.1 = M.1 := by rw [← hN1]; exact s8
  have t2 : N2.1 = M.1 := by rw [← hN2]; exact t1
  have t3 : N3.1 = M.1 := by rw [← hN3]; exact t2
  have t4 : N4.1 = M.1 := by rw [← hN4]; exact t3
  have n1 : ∀ o, o ≠ k + 1 → ∀ j, mI N1 o j = mI M8 o j := fun o n j => by rw [← hN1, f1' _ _ n]
  have n2 : ∀ o, o ≠ k + 1 → ∀ j, mI N2 o j = mI M8 o j := fun o n j => by rw [← hN2, f1' _ _ n, n1 _ n]
  have n3 : ∀ o, o ≠ k + 1 → ∀ j, mI N3 o j = mI M8 o j := fun o n j => by rw [← hN3, f1' _ _ n, n2 _ n]
  have n4 : ∀ o, o ≠ k + 1 → ∀ j, mI N4 o j = mI M8 o j := fun o n j => by rw [← hN4, f1' _ _ n, n3 _ n]
  refine ⟨N4, ?_, ⟨w.e t4, fun l hl y hy => ?_, pn, fun l hl => ?_, fun l hl cs z ez => ?_, fun l hl => ?_, fun f hf g hg => ?_, fun j hj => ?_, ⟨pf1, pf2, ?_⟩, ⟨?_, hu, pu3, h18, h64⟩, ?_, tot, ?_, pt2, pt3⟩, t4, fun o b => ?_, fun o na ne5 ne6 ne7 b => ?_⟩
  · have k5 : f_X5_copyFrom_45 (k + 1) (h + 1) M = some N4 := by
      rw [f_X5_copyFrom_45, cs_p q, a5, bnd_e, chk_t b5, cs_p q', a5', bnd_e, chk_t b5', pu1, l5, l5', cp_st _ (by omega) hu (by omega), hM1]
      have q1 := q.e s1
      have q1' := q'.e s1
      have z : ∀ M' : Mem, M'.1 = M.1 → mR M' = mR M ∧ (∀ c o, isO M' c o = isO M c o) ∧ mLn M' = mLn M := fun M' e => by
        refine ⟨?_, fun c o => ?_, ?_⟩
        · unfold mR; rw [e]
        · unfold isO mN mC; rw [e]
        · unfold mLn; rw [e]
      obtain ⟨z1, z1', z1''⟩ := z M1 s1
      obtain ⟨z2, z2', z2''⟩ := z M2 s2
      obtain ⟨z3, z3', z3''⟩ := z M3 s3
      obtain ⟨z4, z4', z4''⟩ := z M4 s4
      obtain ⟨z5, z5', z5''⟩ := z M5 s5
      obtain ⟨z6, z6', z6''⟩ := z M6 s6
      obtain ⟨z7, z7', z7''⟩ := z M7 s7
      have ln : ∀ {h : Nat}, CS M h → mLn M (h + 2) = 256 ∧ mLn M (h + 3) = 256 ∧ mLn M (h + 4) = 256 ∧ mLn M (h + 5) = 16 ∧ mLn M (h + 6) = 6 := fun q => ⟨q.ln (by decide) (by decide) (by decide), q.ln (by decide) (by decide) (by decide), q.ln (by decide) (by decide) (by decide), q.ln (by decide) (by decide) (by decide), q.ln (by decide) (by decide) (by decide)⟩
      obtain ⟨la2, la3, la4, la5, la6⟩ := ln q
      obtain ⟨lb2, lb3, lb4, lb5, lb6⟩ := ln q'
      rw [z1, a6, bnd_e, chk_t ((z1' 100 d6).mpr b6), a6', bnd_e, chk_t ((z1' 100 e6).mpr b6'), u1, pu1, z1'', l6, l6', cp_st _ (by omega) hu (by omega), hM2]
      rw [z2, a7, bnd_e, chk_t ((z2' 100 d7).mpr b7), a7', bnd_e, chk_t ((z2' 100 e7).mpr b7'), u2, pu1, z2'', l7, l7', cp_st _ (by omega) hu (by omega), hM3]
      rw [cs_r2 (q.e s3), bnd_e, cs_a2 (q.e s3), cs_r2 (q'.e s3), bnd_e, cs_a2 (q'.e s3), bnd_e, cs_a2 (q'.e s3), z3'', la2, lb2, show Int32.ofNat 256 = nI 256 from rfl, cp_st _ (Nat.le_refl _) (Nat.le_refl _) (by decide), hM4]
      rw [cs_r3 (q.e s4), bnd_e, cs_a3 (q.e s4), cs_r3 (q'.e s4), bnd_e, cs_a3 (q'.e s4), bnd_e, cs_a3 (q'.e s4), z4'', la3, lb3, show Int32.ofNat 256 = nI 256 from rfl, cp_st _ (Nat.le_refl _) (Nat.le_refl _) (by decide), hM5]
      rw [cs_r4 (q.e s5), bnd_e, cs_a4 (q.e s5), cs_r4 (q'.e s5), bnd_e, cs_a4 (q'.e s5), bnd_e, cs_a4 (q'.e s5), z5'', la4, lb4, show Int32.ofNat 256 = nI 256 from rfl, cp_st _ (Nat.le_refl _) (Nat.le_refl _) (by decide), hM6]
      rw [cs_r5 (q.e s6), bnd_e, cs_a5 (q.e s6), cs_r5 (q'.e s6), bnd_e, cs_a5 (q'.e s6), bnd_e, cs_a5 (q'.e s6), z6'', la5, lb5, show Int32.ofNat 16 = nI 16 from rfl, cp_st _ (Nat.le_refl _) (Nat.le_refl _) (by decide), hM7]
      rw [cs_r6 (q.e s7), bnd_e, cs_a6 (q.e s7), cs_r6 (q'.e s7), bnd_e, cs_a6 (q'.e s7), bnd_e, cs_a6 (q'.e s7), z7'', la6, lb6, show Int32.ofNat 6 = nI 6 from rfl, cp_st _ (Nat.le_refl _) (Nat.le_refl _) (by decide), hM8]
      rw [f1, pu1, hN1, bnd_e, n1 _ h1k, f1, hN2, bnd_e, n2 _ h1k, f1, pt1, hN3, bnd_e, n3 _ h1k, f1, pt, hN4, bnd_e]
    rw [f_X5_copyFrom, cs_p q', a5', bnd_e, chk_t b5', cs_p q, pu1, l5', n32, if_pos (nI_le hu (by omega))]
    exact k5
  · have := pc l hl y hy
    rw [n4 _ (A5 1 (by decide)).symm, n4 _ (A6 1 (by decide)).symm, g5 _ this.1, g6 _ this.1]
    exact this
  · rw [n4 _ (by omega), c2 _ hl]
    refine (pch l hl).cg fun x hx => ?_
    obtain ⟨y, hy, rfl⟩ := List.mem_map.mp hx
    rw [n4 _ (A7 1 (by decide)).symm, g7 _ (pc l hl y hy).1]
  · rw [n4 _ (by omega), c3 _ hl]; exact pla l hl cs z ez
  · rw [n4 _ (by omega), c4 _ hl]; exact pma l hl
  · rw [n4 _ (by omega), c5 _ hf]; exact pbu f hf g hg
  · rw [n4 _ (by omega), c6 _ hj]; exact pse j hj
  · have e9 : mI N4 (k + 1) 9 = mI M (h + 1) 9 := by rw [← hN4, mI_n _ _ _ _ (by decide), ← hN3, mI_n _ _ _ _ (by decide), ← hN2, mI_s]
    rw [e9]
    refine pf3.cg fun x hx => ?_
    rw [n4 _ (A7 1 (by decide)).symm, g7 _ (pf2 x hx).1]
  · rw [← hN4, mI_n _ _ _ _ (by decide), ← hN3, mI_n _ _ _ _ (by decide), ← hN2, mI_n _ _ _ _ (by decide), ← hN1, mI_s]
  · rw [← hN4, mI_s]
  · rw [← hN4, mI_n _ _ _ _ (by decide), ← hN3, mI_s]
  · rw [← hN4, ← hN3, ← hN2, ← hN1]; exact L8 o b
  · rw [n4 _ (by omega), o8 _ (by omega), o3 _ ne5 ne6 ne7]
/-! ===== the class: one place for another's ===== -/
set_option maxHeartbeats 2000000 in
theorem f_pcp {M : Mem} {h k v : Nat} (q : CS M h) (q' : CS M k) (hk : h + 49 ≤ k ∨ k + 49 ≤ h) (hv : v < 16) (hb : mI M (h + 17 + 2 * v) 8 = 0 ∨ mI M (h + 17 + 2 * v) 8 = 1) : ∃ M', f_X4_copyFrom (k + 17 + 2 * v) (h + 17 + 2 * v) M = some M' ∧ M'.1 = M.1 ∧ (∀ j, j < 16 → j ≠ 10 → mI M' (k + 17 + 2 * v) j = mI M (h + 17 + 2 * v) j) ∧ (∀ j, j < 16 → mI M' (k + 18 + 2 * v) j = mI M (h + 18 + 2 * v) j) ∧ (∀ o, o ≠ k + 17 + 2 * v → o ≠ k + 18 + 2 * v → ∀ j, mI M' o j = mI M o j) ∧ (∀ o j, mL M' o j = mL M o j) := by
  have r0 := cs_pr q hv
  have r0' := cs_pr q' hv
  have i0 : ∀ x : Option Mem, chk (isO M 4 (h + 17 + 2 * v)) x = x := fun x => cs_po q hv x
  have i0' : ∀ x : Option Mem, chk (isO M 4 (k + 17 + 2 * v)) x = x := fun x => cs_po q' hv x
  have j0 : ∀ x : Option Mem, chk (isO M 100 (h + 18 + 2 * v)) x = x := fun x => cs_pa q hv x
  have j0' : ∀ x : Option Mem, chk (isO M 100 (k + 18 + 2 * v)) x = x := fun x => cs_pa q' hv x
  have ln : mLn M (h + 18 + 2 * v) = 16 := by
    have : ∀ v, v < 16 → (tC.getD (14 + (18 + 2 * v)) (0, 0)).2 = 16 := by decide
    have z := q.ln (i := 18 + 2 * v) (by omega) (by omega) (this v hv)
    rwa [← Nat.add_assoc] at z
  have ln' : mLn M (k + 18 + 2 * v) = 16 := by
    have : ∀ v, v < 16 → (tC.getD (14 + (18 + 2 * v)) (0, 0)).2 = 16 := by decide
    have z := q'.ln (i := 18 + 2 * v) (by omega) (by omega) (this v hv)
    rwa [← Nat.add_assoc] at z
  generalize hP : h + 17 + 2 * v = P at *
  generalize hP' : k + 17 + 2 * v = P' at *
  have hne : P ≠ P' := by omega
  generalize hm : mI M P = s at *
  generalize h0 : sI M P' 0 (s 0) = M0
  generalize h1 : sI M0 P' 1 (s 1) = M1
  generalize h2 : sI M1 P' 2 (s 2) = M2
  generalize h3 : sI M2 P' 3 (s 3) = M3
  generalize h4 : sI M3 P' 4 (s 4) = M4
  generalize h5 : sI M4 P' 5 (s 5) = M5
  generalize h6 : sI M5 P' 6 (s 6) = M6
  generalize h7 : sI M6 P' 7 (s 7) = M7
  generalize h8 : sI M7 P' 8 (s 8) = M8
  generalize h9 : sI M8 P' 9 (s 9) = M9
  generalize h10 : cpI M9 (h + 18 + 2 * v) 0 (k + 18 + 2 * v) 0 16 = M10
  generalize h11 : sI M10 P' 11 (s 11) = M11
  generalize h12 : sI M11 P' 12 (s 12) = M12
  generalize h13 : sI M12 P' 13 (s 13) = M13
  generalize h14 : sI M13 P' 14 (s 14) = M14
  generalize h15 : sI M14 P' 15 (s 15) = M15
  have a0 : ∀ j, mI M0 P j = s j := fun j => by rw [← h0, mI_o _ _ _ _ _ hne, hm]
  have a1 : ∀ j, mI M1 P j = s j := fun j => by rw [← h1, mI_o _ _ _ _ _ hne, a0]
  have a2 : ∀ j, mI M2 P j = s j := fun j => by rw [← h2, mI_o _ _ _ _ _ hne, a1]
  have a3 : ∀ j, mI M3 P j = s j := fun j => by rw [← h3, mI_o _ _ _ _ _ hne, a2]
  have a4 : ∀ j, mI M4 P j = s j := fun j => by rw [← h4, mI_o _ _ _ _ _ hne, a3]
  have a5 : ∀ j, mI M5 P j = s j := fun j => by rw [← h5, mI_o _ _ _ _ _ hne, a4]
  have a6 : ∀ j, mI M6 P j = s j := fun j => by rw [← h6, mI_o _ _ _ _ _ hne, a5]
  have a7 : ∀ j, mI M7 P j = s j := fun j => by rw [← h7, mI_o _ _ _ _ _ hne, a6]
  have a8 : ∀ j, mI M8 P j = s j := fun j => by rw [← h8, mI_o _ _ _ _ _ hne, a7]
  have a9 : ∀ j, mI M9 P j = s j := fun j => by rw [← h9, mI_o _ _ _ _ _ hne, a8]
  have a10 : ∀ j, mI M10 P j = s j := fun j => by rw [← h10, cp_I, if_neg (fun z => by omega), a9]
  have a11 : ∀ j, mI M11 P j = s j := fun j => by rw [← h11, mI_o _ _ _ _ _ hne, a10]
  have a12 : ∀ j, mI M12 P j = s j := fun j => by rw [← h12, mI_o _ _ _ _ _ hne, a11]
  have a13 : ∀ j, mI M13 P j = s j := fun j => by rw [← h13, mI_o _ _ _ _ _ hne, a12]
  have a14 : ∀ j, mI M14 P j = s j := fun j => by rw [← h14, mI_o _ _ _ _ _ hne, a13]
  have s9 : M9.1 = M.1 := by rw [← h9, ← h8, ← h7, ← h6, ← h5, ← h4, ← h3, ← h2, ← h1, ← h0]; rfl
  have s15 : M15.1 = M.1 := by rw [← h15, ← h14, ← h13, ← h12, ← h11, ← h10]; exact s9
  have o9 : ∀ o, o ≠ P' → ∀ j, mI M9 o j = mI M o j := fun o n j => by
    rw [← h9, mI_o _ _ _ _ _ n, ← h8, mI_o _ _ _ _ _ n, ← h7, mI_o _ _ _ _ _ n, ← h6, mI_o _ _ _ _ _ n, ← h5, mI_o _ _ _ _ _ n, ← h4, mI_o _ _ _ _ _ n, ← h3, mI_o _ _ _ _ _ n, ← h2, mI_o _ _ _ _ _ n, ← h1, mI_o _ _ _ _ _ n, ← h0, mI_o _ _ _ _ _ n]
  have o15 : ∀ o, o ≠ P' → ∀ j, mI M15 o j = mI M10 o j := fun o n j => by
    rw [← h15, mI_o _ _ _ _ _ n, ← h14, mI_o _ _ _ _ _ n, ← h13, mI_o _ _ _ _ _ n, ← h12, mI_o _ _ _ _ _ n, ← h11, mI_o _ _ _ _ _ n]
  have e9 : ∀ j, mI M9 P' j = if j = 9 then s 9 else if j = 8 then s 8 else if j = 7 then s 7 else if j = 6 then s 6 else if j = 5 then s 5 else if j = 4 then s 4 else if j = 3 then s 3 else if j = 2 then s 2 else if j = 1 then s 1 else if j = 0 then s 0 else mI M P' j := fun j => by
    rw [← h9, mI_sI, ← h8, mI_sI, ← h7, mI_sI, ← h6, mI_sI, ← h5, mI_sI, ← h4, mI_sI, ← h3, mI_sI, ← h2, mI_sI, ← h1, mI_sI, ← h0, mI_sI]
    simp only [true_and]
  have e10 : ∀ j, mI M10 P' j = mI M9 P' j := fun j => by rw [← h10, cp_I, if_neg (fun z => by omega)]
  have e15 : ∀ j, mI M15 P' j = if j = 15 then s 15 else if j = 14 then s 14 else if j = 13 then s 13 else if j = 12 then s 12 else if j = 11 then s 11 else mI M10 P' j := fun j => by
    rw [← h15, mI_sI, ← h14, mI_sI, ← h13, mI_sI, ← h12, mI_sI, ← h11, mI_sI]
    simp only [true_and]
  refine ⟨M15, ?_, s15, fun j hj n => ?_, fun j hj => ?_, fun o n1 n2 j => ?_, fun o j => ?_⟩
  · have R9 : mR M9 = mR M := by unfold mR; rw [s9]
    have I9 : ∀ c o, isO M9 c o = isO M c o := fun c o => by unfold isO mN mC; rw [s9]
    have L9 : mLn M9 = mLn M := by unfold mLn; rw [s9]
    have j9 : ∀ x : Option Mem, chk (isO M9 100 (h + 18 + 2 * v)) x = x := fun x => cs_pa (q.e s9) hv x
    have j9' : ∀ x : Option Mem, chk (isO M9 100 (k + 18 + 2 * v)) x = x := fun x => cs_pa (q'.e s9) hv x
    rw [f_X4_copyFrom, i0, i0', hm, h0, bnd_e, a0, h1, bnd_e, a1, h2, bnd_e, a2, h3, bnd_e, a3, h4, bnd_e, a4, h5, bnd_e, a5, h6, bnd_e, a6, h7, bnd_e, a7, chk_t hb, h8, bnd_e, a8, h9, bnd_e, R9, r0, bnd_e, j9, r0', bnd_e, j9', L9, ln, ln', show (16 : Int32) = nI 16 from rfl, cp_st _ (Nat.le_refl _) (Nat.le_refl _) (by decide), h10, a10, h11, bnd_e, a11, h12, bnd_e, a12, h13, bnd_e, a13, h14, bnd_e, a14, h15, bnd_e]
  · rw [e15]
    rcases (show j = 0 ∨ j = 1 ∨ j = 2 ∨ j = 3 ∨ j = 4 ∨ j = 5 ∨ j = 6 ∨ j = 7 ∨ j = 8 ∨ j = 9 ∨ j = 11 ∨ j = 12 ∨ j = 13 ∨ j = 14 ∨ j = 15 by omega) with rfl | rfl | rfl | rfl | rfl | rfl | rfl | rfl | rfl | rfl | rfl | rfl | rfl | rfl | rfl
    all_goals first | rfl | (rw [e10, e9]; rfl)
  · rw [o15 _ (by omega), ← h10, cp_I, if_pos ⟨rfl, hj⟩, o9 _ (by omega)]
  · rw [o15 _ n1, ← h10, cp_I, if_neg (fun z => n2 z.1), o9 _ n1]
  · rw [← h15, ← h14, ← h13, ← h12, ← h11, ← h10, ← h9, ← h8, ← h7, ← h6, ← h5, ← h4, ← h3, ← h2, ← h1, ← h0]; rfl
set_option maxHeartbeats 2000000 in
theorem hcp_l {h k : Nat} (hk : h + 49 ≤ k ∨ k + 49 ≤ h) : ∀ (d i n : Nat) (M : Mem), i + d = 16 → d + 1 ≤ n → CS M h → CS M k → (∀ v, v < 16 → mI M (h + 17 + 2 * v) 8 = 0 ∨ mI M (h + 17 + 2 * v) 8 = 1) → ∃ M', f_X2_copyFrom_13 n k h (nI i) M = some M' ∧ M'.1 = M.1 ∧ (∀ v, i ≤ v → v < 16 → (∀ j, j < 16 → j ≠ 10 → mI M' (k + 17 + 2 * v) j = mI M (h + 17 + 2 * v) j) ∧ (∀ j, j < 16 → mI M' (k + 18 + 2 * v) j = mI M (h + 18 + 2 * v) j) ∧ mI M' (k + 15) v = mI M (h + 15) v) ∧ (∀ j, 7 ≤ j → j ≤ 15 → mI M' k j = mI M h j) ∧ (∀ o, ¬ (o = k ∨ o = k + 15 ∨ (k + 17 + 2 * i ≤ o ∧ o < k + 49)) → ∀ b, mI M' o b = mI M o b) ∧ (∀ b, b < i → mI M' (k + 15) b = mI M (k + 15) b) ∧ (∀ o j, mL M' o j = mL M o j) := by
  intro d
  induction d with
  | zero =>
    intro i n M hi hn q q' hb
    obtain ⟨n, rfl⟩ : ∃ m, n = m + 1 := ⟨n - 1, by omega⟩
    have hq := q.2.2.2.2
    have hq' := q'.2.2.2.2
    have hne : h ≠ k := by omega
    generalize h7 : sI M k 7 (mI M h 7) = M7
    generalize h8 : sI M7 k 8 (mI M h 8) = M8
    generalize h9 : sI M8 k 9 (mI M h 9) = M9
    generalize h10 : sI M9 k 10 (mI M h 10) = M10
    generalize h11 : sI M10 k 11 (mI M h 11) = M11
    generalize h12 : sI M11 k 12 (mI M h 12) = M12
    generalize h13 : sI M12 k 13 (mI M h 13) = M13
    generalize h14 : sI M13 k 14 (mI M h 14) = M14
    generalize h15 : sI M14 k 15 (mI M h 15) = M15
    have o7 : ∀ o, o ≠ k → ∀ j, mI M7 o j = mI M o j := fun o n j => by rw [← h7, mI_o _ _ _ _ _ n]
    have o8 : ∀ o, o ≠ k → ∀ j, mI M8 o j = mI M o j := fun o n j => by rw [← h8, mI_o _ _ _ _ _ n, o7 _ n]
    have o9 : ∀ o, o ≠ k → ∀ j, mI M9 o j = mI M o j := fun o n j => by rw [← h9, mI_o _ _ _ _ _ n, o8 _ n]
    have o10 : ∀ o, o ≠ k → ∀ j, mI M10 o j = mI M o j := fun o n j => by rw [← h10, mI_o _ _ _ _ _ n, o9 _ n]
    have o11 : ∀ o, o ≠ k → ∀ j, mI M11 o j = mI M o j := fun o n j => by rw [← h11, mI_o _ _ _ _ _ n, o10 _ n]
    have o12 : ∀ o, o ≠ k → ∀ j, mI M12 o j = mI M o j := fun o n j => by rw [← h12, mI_o _ _ _ _ _ n, o11 _ n]
    have o13 : ∀ o, o ≠ k → ∀ j, mI M13 o j = mI M o j := fun o n j => by rw [← h13, mI_o _ _ _ _ _ n, o12 _ n]
    have o14 : ∀ o, o ≠ k → ∀ j, mI M14 o j = mI M o j := fun o n j => by rw [← h14, mI_o _ _ _ _ _ n, o13 _ n]
    have o15 : ∀ o, o ≠ k → ∀ j, mI M15 o j = mI M o j := fun o n j => by rw [← h15, mI_o _ _ _ _ _ n, o14 _ n]
    refine ⟨M15, ?_, by rw [← h15, ← h14, ← h13, ← h12, ← h11, ← h10, ← h9, ← h8, ← h7]; rfl, fun v a b => by omega, fun j j1 j2 => ?_, fun o n b => o15 o (fun z => n (Or.inl z)) b, fun b _ => o15 _ (by omega) b, fun o j => by rw [← h15, ← h14, ← h13, ← h12, ← h11, ← h10, ← h9, ← h8, ← h7]; rfl⟩
    · have : nI i = (16 : Int32) := by rw [show i = 16 by omega]; rfl
      rw [f_X2_copyFrom_13, if_pos (by rw [this]; decide), cs_f q, cs_f q', h7, bnd_e, o7 _ hne, h8, bnd_e, o8 _ hne, h9, bnd_e, o9 _ hne, h10, bnd_e, o10 _ hne, h11, bnd_e, o11 _ hne, h12, bnd_e, o12 _ hne, h13, bnd_e, o13 _ hne, h14, bnd_e, o14 _ hne, h15, bnd_e]
    · have e : ∀ j, mI M15 k j = if j = 15 then mI M h 15 else if j = 14 then mI M h 14 else if j = 13 then mI M h 13 else if j = 12 then mI M h 12 else if j = 11 then mI M h 11 else if j = 10 then mI M h 10 else if j = 9 then mI M h 9 else if j = 8 then mI M h 8 else if j = 7 then mI M h 7 else mI M k j := fun j => by
        rw [← h15, mI_sI, ← h14, mI_sI, ← h13, mI_sI, ← h12, mI_sI, ← h11, mI_sI, ← h10, mI_sI, ← h9, mI_sI, ← h8, mI_sI, ← h7, mI_sI]
        simp only [true_and]
      rw [e]
      rcases (show j = 7 ∨ j = 8 ∨ j = 9 ∨ j = 10 ∨ j = 11 ∨ j = 12 ∨ j = 13 ∨ j = 14 ∨ j = 15 by omega) with rfl | rfl | rfl | rfl | rfl | rfl | rfl | rfl | rfl <;> rfl
  | succ d ih =>
    intro i n M hi hn q q' hb
    obtain ⟨n, rfl⟩ : ∃ m, n = m + 1 := ⟨n - 1, by omega⟩
    have hq := q.2.2.2.2
    have hq' := q'.2.2.2.2
    have i6 : i < 16 := by omega
    obtain ⟨M1, e1, s1, p1, p2, p3, p4⟩ := f_pcp q q' hk i6 (hb i i6)
    have q1 := q.e s1
    have q1' := q'.e s1
    have e15 : mI M1 (h + 15) i = mI M (h + 15) i := p3 _ (by omega) (by omega) i
    generalize hM2 : sI M1 (k + 15) i (mI M (h + 15) i) = M2
    have s2 : M2.1 = M.1 := by rw [← hM2]; exact s1
    have o2 : ∀ o, o ≠ k + 15 → ∀ j, mI M2 o j = mI M1 o j := fun o n j => by rw [← hM2, mI_o _ _ _ _ _ n]
    have src : ∀ o, h ≤ o → o < h + 49 → ∀ j, mI M2 o j = mI M o j := fun o a b j => by
      rw [o2 _ (by omega), p3 _ (by omega) (by omega)]
    obtain ⟨M3, e3, s3, f1, f2, f3, f4, f5⟩ := ih (i + 1) n M2 (by omega) (by omega) (q.e s2) (q'.e s2) (fun v hv => by rw [src _ (by omega) (by omega)]; exact hb v hv)
    refine ⟨M3, ?_, s3.trans s2, fun v a b => ?_, fun j j1 j2 => ?_, fun o n b => ?_, fun b hb' => ?_, fun o j => ?_⟩
    · rw [f_X2_copyFrom_13, if_neg (show ¬ (16 : Int32) ≤ nI i from nI_ge (a := i) (b := 16) (by omega) (by decide)), cs_f q', cs_h2 q', bnd_e, cs_a10 q', cs_i10 q' i6, cs_rpc q' i6, bnd_e, cs_po q' i6, cs_f q, cs_h2 q, bnd_e, cs_a10 q, cs_i10 q i6, cs_rpc q i6, bnd_e, cs_po q i6, e1, obd_s, cs_f q1', cs_h5 q1', bnd_e, cs_a15 q1', cs_f q1, cs_h5 q1, bnd_e, cs_a15 q1, cs_i15 q1 i6, cs_i15 q1' i6, cl_n (by omega), e15, hM2, bnd_e, nI_1, bnd_e, e3]
    · by_cases c : v = i
      · subst c
        refine ⟨fun j hj n => ?_, fun j hj => ?_, ?_⟩
        · rw [f3 _ (by omega), o2 _ (by omega), p1 j hj n]
        · rw [f3 _ (by omega), o2 _ (by omega), p2 j hj]
        · rw [f4 v (by omega), ← hM2, mI_s]
      · obtain ⟨g1, g2, g3⟩ := f1 v (by omega) b
        refine ⟨fun j hj n => ?_, fun j hj => ?_, ?_⟩
        · rw [g1 j hj n, src _ (by omega) (by omega)]
        · rw [g2 j hj, src _ (by omega) (by omega)]
        · rw [g3, src _ (by omega) (by omega)]
    · rw [f2 j j1 j2, src _ (by omega) (by omega)]
    · rw [f3 o (by omega), o2 _ (by omega), p3 _ (by omega) (by omega)]
    · rw [f4 b (by omega), ← hM2, mI_n _ _ _ _ (by omega), p3 _ (by omega) (by omega)]
    · rw [f5, ← hM2]; exact p4 o j
/-! ===== new rows for a hall's letters, empty ones ===== -/
def al1 (M : Mem) (p j len : Nat) : Mem := sR (nw M 100 len len) p j (mN M)
theorem al1_N (M : Mem) (p j len : Nat) : mN (al1 M p j len) = mN M + 1 := rfl
theorem al1_U (M : Mem) (p j len : Nat) : mU (al1 M p j len) = mU M + len := rfl
theorem al1_C (M : Mem) (p j len : Nat) (i : Nat) : (al1 M p j len).1.2.1 i = if i = mN M then (100, len) else M.1.2.1 i := rfl
theorem al1_R (M : Mem) (p j len : Nat) {x : Nat} (y : Nat) (h : x ≠ mN M) : mR (al1 M p j len) x y = if x = p ∧ y = j then mN M else mR M x y := by
  show (if x = p ∧ y = j then mN M else (if x = mN M then NUL else M.1.2.2 x y)) = _
  rw [if_neg h]; rfl
theorem al1_I (M : Mem) (p j len : Nat) {x : Nat} (y : Nat) (h : x ≠ mN M) : mI (al1 M p j len) x y = mI M x y := by
  show (if x = mN M then 0 else M.2.1 x y) = _
  rw [if_neg h]; rfl
theorem al1_L (M : Mem) (p j len : Nat) {x : Nat} (y : Nat) (h : x ≠ mN M) : mL (al1 M p j len) x y = mL M x y := by
  show (if x = mN M then 0 else M.2.2 x y) = _
  rw [if_neg h]; rfl
/-- three new rows for k's letters -/
def al3 (M : Mem) (k len : Nat) : Mem := al1 (al1 (al1 M (k + 1) 5 len) (k + 1) 6 len) (k + 1) 7 len
theorem al3_N (M : Mem) (k len : Nat) : mN (al3 M k len) = mN M + 3 := rfl
theorem al3_U (M : Mem) (k len : Nat) : mU (al3 M k len) = mU M + 3 * len := by
  show mU M + len + len + len = _
  omega
theorem al3_C (M : Mem) (k len : Nat) {i : Nat} (h : i < mN M) : (al3 M k len).1.2.1 i = M.1.2.1 i := by
  unfold al3
  rw [al1_C, al1_N, al1_N, if_neg (by omega), al1_C, al1_N, if_neg (by omega), al1_C, if_neg (by omega)]
theorem al3_K (M : Mem) (k len : Nat) {i : Nat} (h : i < 3) : (al3 M k len).1.2.1 (mN M + i) = (100, len) := by
  unfold al3
  rw [al1_C, al1_N, al1_N]
  by_cases c : i = 2
  · rw [if_pos (by omega)]
  · rw [if_neg (by omega), al1_C, al1_N]
    by_cases c1 : i = 1
    · rw [if_pos (by omega)]
    · rw [if_neg (by omega), al1_C, if_pos (by omega)]
theorem al3_R (M : Mem) (k len : Nat) {x : Nat} (y : Nat) (h : x < mN M) : mR (al3 M k len) x y = if x = k + 1 ∧ y = 7 then mN M + 2 else if x = k + 1 ∧ y = 6 then mN M + 1 else if x = k + 1 ∧ y = 5 then mN M else mR M x y := by
  unfold al3
  rw [al1_R _ _ _ _ _ (by rw [al1_N, al1_N]; omega), al1_R _ _ _ _ _ (by rw [al1_N]; omega), al1_R _ _ _ _ _ (by omega)]
  rfl
theorem al3_I (M : Mem) (k len : Nat) {x : Nat} (y : Nat) (h : x < mN M) : mI (al3 M k len) x y = mI M x y := by
  unfold al3
  rw [al1_I _ _ _ _ _ (by rw [al1_N, al1_N]; omega), al1_I _ _ _ _ _ (by rw [al1_N]; omega), al1_I _ _ _ _ _ (by omega)]
theorem al3_L (M : Mem) (k len : Nat) {x : Nat} (y : Nat) (h : x < mN M) : mL (al3 M k len) x y = mL M x y := by
  unfold al3
  rw [al1_L _ _ _ _ _ (by rw [al1_N, al1_N]; omega), al1_L _ _ _ _ _ (by rw [al1_N]; omega), al1_L _ _ _ _ _ (by omega)]
theorem al3_io {M : Mem} {k len c o : Nat} (h : isO M c o) : isO (al3 M k len) c o := by
  refine ⟨by rw [al3_N]; have := h.1; omega, ?_⟩
  rw [mC, al3_C _ _ _ h.1]; exact h.2
theorem al3_CS {M : Mem} {h k len : Nat} (q : CS M h) (hk : h = k ∨ h + 49 ≤ k ∨ k + 49 ≤ h) : CS (al3 M k len) h := by
  obtain ⟨c1, c2, c3, c4, c5, c6, c7⟩ := q
  have hr : ∀ a b, a < mN M → ¬ (a = k + 1 ∧ 5 ≤ b ∧ b ≤ 7) → mR (al3 M k len) a b = mR M a b := fun a b ha n => by
    rw [al3_R _ _ _ _ ha, if_neg (by omega), if_neg (by omega), if_neg (by omega)]
  refine ⟨fun i hi hn => ?_, fun z hz => ?_, ?_, al3_io c4, c5, c6, by rw [al3_N]; omega⟩
  · rw [al3_C _ _ _ (by omega)]; exact c1 i hi hn
  · have hb : z.1 < 49 ∧ ¬ (z.1 = 1 ∧ 5 ≤ z.2.1) := by
      have : ∀ z, z ∈ tH → z.1 < 49 ∧ ¬ (z.1 = 1 ∧ 5 ≤ z.2.1) := by decide
      exact this z hz
    rw [hr _ _ (by omega) (by omega)]; exact c2 z hz
  · rw [hr _ _ (by omega) (by omega)]; exact c3
/-- new rows: what else the memory holds -/
theorem al3_FrH (M : Mem) (k len : Nat) (hk : k + 1 < mN M) : FrH M (al3 M k len) k := by
  refine ⟨by rw [al3_N]; omega, fun i hi => al3_C _ _ _ hi, fun a b ha n => ?_, fun o ho _ _ _ _ b => al3_I _ _ _ _ ho, fun o ho b => al3_L _ _ _ _ ho, fun j a b => ?_⟩
  · rw [al3_R _ _ _ _ ha, if_neg (by omega), if_neg (by omega), if_neg (by omega)]
  · right
    rw [al3_R _ _ _ _ hk]
    rcases (show j = 5 ∨ j = 6 ∨ j = 7 by omega) with rfl | rfl | rfl <;> simp
theorem al3_DS {M : Mem} {k len : Nat} (hN : 131 ≤ mN M) (hk : k + 49 ≤ 131) : DS (al3 M k len) k (mN M) (mN M + 1) (mN M + 2) len := by
  have hr : ∀ j, mR (al3 M k len) (k + 1) j = _ := fun j => al3_R _ _ _ j (by omega)
  have y0 := al3_K M k len (i := 0) (by decide)
  have y1 := al3_K M k len (i := 1) (by decide)
  have y2 := al3_K M k len (i := 2) (by decide)
  rw [Nat.add_zero] at y0
  refine ⟨⟨by rw [hr]; simp, by rw [hr]; simp, by rw [hr]; simp⟩, ⟨⟨by rw [al3_N]; omega, ?_⟩, ⟨by rw [al3_N]; omega, ?_⟩, ⟨by rw [al3_N]; omega, ?_⟩⟩, ⟨?_, ?_, ?_⟩, by omega⟩
  · rw [mC, y0]
  · rw [mC, y1]
  · rw [mC, y2]
  · rw [mLn, y0]
  · rw [mLn, y1]
  · rw [mLn, y2]
/-- the class's copy of letters, where the rows are too short: as if they had been made before -/
theorem f_cpg {M : Mem} {h k d5 d6 d7 len e5 e6 e7 len' us : Nat} (q : CS M h) (q' : CS M k) (hk : h + 49 ≤ k ∨ k + 49 ≤ h) (w : DS M h d5 d6 d7 len) (w' : DS M k e5 e6 e7 len') (hu : mI M (h + 1) 8 = nI us) (hlt : len' < us) (hul : us ≤ len) (hl : len ≤ 18000) (hN : mN M + 3 ≤ CAP) (hU : mU M + 3 * len ≤ CAPU) : f_X5_copyFrom (k + 1) (h + 1) M = f_X5_copyFrom (k + 1) (h + 1) (al3 M k len) := by
  have hq := q.2.2.2.2
  have hq' := q'.2.2.2.2
  obtain ⟨⟨a5, a6, a7⟩, ⟨b5, b6, b7⟩, ⟨l5, l6, l7⟩, _⟩ := w
  obtain ⟨⟨a5', a6', a7'⟩, ⟨b5', b6', b7'⟩, ⟨l5', l6', l7'⟩, _⟩ := w'
  have Q : CS (al3 M k len) h := al3_CS q (by omega)
  have Q' : CS (al3 M k len) k := al3_CS q' (Or.inl rfl)
  have W' := al3_DS (M := M) (k := k) (len := len) hq.2.2 hq'.1
  have cl : (nI len).toNatClampNeg = len := nI_clamp (by omega)
  have np : ¬ nI len < 0 := nI_nlt (b := 0) (Nat.zero_le _) (by omega)
  have R1 : ∀ b, mR (al1 M (k + 1) 5 len) (h + 1) b = mR M (h + 1) b := fun b => by rw [al1_R _ _ _ _ _ (by omega), if_neg (by omega)]
  have R2 : ∀ b, mR (al1 (al1 M (k + 1) 5 len) (k + 1) 6 len) (h + 1) b = mR M (h + 1) b := fun b => by rw [al1_R _ _ _ _ _ (by rw [al1_N]; omega), if_neg (by omega), R1]
  have i1 : ∀ {c o}, isO M c o → isO (al1 M (k + 1) 5 len) c o := fun {c o} z => ⟨by rw [al1_N]; have := z.1; omega, by rw [mC, al1_C, if_neg (by have := z.1; omega)]; exact z.2⟩
  have i2 : ∀ {c o}, isO M c o → isO (al1 (al1 M (k + 1) 5 len) (k + 1) 6 len) c o := fun {c o} z => ⟨by rw [al1_N, al1_N]; have := z.1; omega, by rw [mC, al1_C, al1_N, if_neg (by have := z.1; omega), al1_C, if_neg (by have := z.1; omega)]; exact z.2⟩
  have n1 : mLn (al1 M (k + 1) 5 len) d5 = len := by rw [mLn, al1_C, if_neg (by have := b5.1; omega)]; exact l5
  have n2 : mLn (al1 (al1 M (k + 1) 5 len) (k + 1) 6 len) d5 = len := by rw [mLn, al1_C, al1_N, if_neg (by have := b5.1; omega), al1_C, if_neg (by have := b5.1; omega)]; exact l5
  have e1 : f_X5_copyFrom (k + 1) (h + 1) (al3 M k len) = f_X5_copyFrom_45 (k + 1) (h + 1) (al3 M k len) := by
    rw [f_X5_copyFrom, cs_p Q', W'.1.1, bnd_e, chk_t W'.2.1.1, cs_p Q, al3_I _ _ _ _ (by omega), hu, W'.2.2.1.1, n32, if_pos (nI_le hul (by omega))]
  rw [e1, f_X5_copyFrom, cs_p q', a5', bnd_e, chk_t b5', cs_p q, hu, l5', n32, if_neg (nI_ge hlt (by omega)), a5, bnd_e, chk_t b5, l5, n32, chk_t np, cl, chk_t (by omega), bnd_e, bnd_e, show sR (nw M 100 len len) (k + 1) 5 (mN M) = al1 M (k + 1) 5 len from rfl, bnd_e, R1, a5, bnd_e, chk_t (i1 b5), n1, n32, chk_t np, cl, chk_t (by rw [al1_N, al1_U]; omega), bnd_e, bnd_e, show sR (nw (al1 M (k + 1) 5 len) 100 len len) (k + 1) 6 (mN (al1 M (k + 1) 5 len)) = al1 (al1 M (k + 1) 5 len) (k + 1) 6 len from rfl, bnd_e, R2, a5, bnd_e, chk_t (i2 b5), n2, n32, chk_t np, cl, chk_t (by rw [al1_N, al1_U, al1_N, al1_U]; omega), bnd_e, bnd_e]
  rfl
/-! ===== the class: one hall for another ===== -/
def TR (M : Mem) (k X Y : Nat) (pb pt : List Row4) : Prop := CS M k ∧ (∃ e5 e6 e7 len, DS M k e5 e6 e7 len ∧ 64 ≤ len ∧ len ≤ 18000) ∧ Rm M k X Y ∧ LG M (k + 11) 30 pb ∧ LG M (k + 13) 40 pt
theorem HV.toTR {M : Mem} {h X Y N : Nat} {t : Int32} {Q : Nat → Int32} {S : St} {pb pt : List Row4} (p : HV M h X Y t N Q S pb pt) : TR M h X Y (pb ++ xE S) (pt ++ xT S) := by
  obtain ⟨q, ⟨d5, d6, d7, len, K, fr, us, ow, w, _⟩, _, rm, ⟨lb, lt⟩, _⟩ := p
  exact ⟨q, ⟨d5, d6, d7, len, w.1, w.2.2.2.2.2.2.2.2.2.1.2.2.2.2, w.2.2.2.2.2.2.2.2.2.1.2.2.2.1⟩, rm, lb, lt⟩
def clr (S : St) : St := (S.1, S.2.1, S.2.2.1, [], [])
theorem clr_R (S : St) : xR (clr S) = xR S := rfl
theorem clr_W (S : St) : xW (clr S) = xW S := rfl
theorem clr_L (S : St) : xL (clr S) = xL S := rfl
theorem far4 {h k e i o : Nat} (he : e = k + i ∨ 131 ≤ e) (hi : i ≤ 9) (hk : h + 49 ≤ k ∨ k + 49 ≤ h) (hh : h + 49 ≤ 131) (h1 : h ≤ o) (h2 : o < h + 49) : o ≠ e := by omega
theorem far5 {k e i o : Nat} (he : e = k + i ∨ 131 ≤ e) (hi : i ≤ 9) (h1 : k + 10 ≤ o) (h2 : o < 131) : o ≠ e := by omega
theorem far6 {k e i : Nat} (he : e = k + i ∨ 131 ≤ e) (hi : 7 ≤ i ∧ i ≤ 9) (hk : k + 49 ≤ 131) : ¬ (e = k ∨ e = k + 15 ∨ (k + 17 + 2 * 0 ≤ e ∧ e < k + 49)) := by omega
theorem far7 {k e i : Nat} (he : e = k + i ∨ 131 ≤ e) (hk : 14 ≤ k) : 1 ≠ e := by omega
theorem far8 {h k o : Nat} (hk : h + 49 ≤ k ∨ k + 49 ≤ h) (h1 : h ≤ o) (h2 : o < h + 49) : ¬ (k ≤ o ∧ o < k + 49) := by omega
set_option maxHeartbeats 1000000 in
theorem HV.copyL {M : Mem} {h k X' Y' N n : Nat} {t : Int32} {Q : Nat → Int32} {S : St} {pb' pt' : List Row4} (q : CS M h) (p : PV M h t S) (hp : HP M h S) (hN : mI M 1 3 = nI N) (hQ : ∀ v, v < N → mI M (h + 15) v = Q v) (r : TR M k X' Y' pb' pt') (hk : h + 49 ≤ k ∨ k + 49 ≤ h) (h16 : N ≤ 16) (hz : ∃ u, u ≤ mLn M (mR M (k + 1) 5) ∧ mI M (h + 1) 8 = nI u) (hD : ∀ i j, 5 ≤ i → i ≤ 7 → 5 ≤ j → j ≤ 7 → mR M (k + 1) i ≠ mR M (h + 1) j) (hb : ∀ v, v < 16 → xR S 10 v = 0 ∨ xR S 10 v = 1) (hW : ∀ v, v < 16 → ∀ w, w ∈ xW S v → w.1 < 16) (hn : 17 ≤ n) : ∃ M', f_X2_copyFrom n k h M = some M' ∧ HV M' k X' Y' t N Q (clr S) pb' pt' ∧ FrH M M' k := by
  obtain ⟨d5, d6, d7, len, K, fr, us, ow, w, hK⟩ := p
  obtain ⟨q', ⟨e5, e6, e7, len', w', h64, h18⟩, rm', lb', lt'⟩ := r
  have hq := q.2.2.2.2
  have hq' := q'.2.2.2.2
  obtain ⟨u, hu64, hu⟩ := hz
  have u8 := w.2.2.2.2.2.2.2.2.2.1
  have us64 : us ≤ len' := by
    rw [w'.1.1, w'.2.2.1.1] at hu64
    have : us = u := (nI_eq (by omega) (by omega)).mp (u8.1.symm.trans hu)
    omega
  have dd : (e5 ≠ d5 ∧ e5 ≠ d6 ∧ e5 ≠ d7) ∧ (e6 ≠ d5 ∧ e6 ≠ d6 ∧ e6 ≠ d7) ∧ (e7 ≠ d5 ∧ e7 ≠ d6 ∧ e7 ≠ d7) := by
    obtain ⟨a5, a6, a7⟩ := w.1.1
    obtain ⟨b5, b6, b7⟩ := w'.1
    rw [← a5, ← a6, ← a7, ← b5, ← b6, ← b7]
    exact ⟨⟨hD 5 5 (by decide) (by decide) (by decide) (by decide), hD 5 6 (by decide) (by decide) (by decide) (by decide), hD 5 7 (by decide) (by decide) (by decide) (by decide)⟩, ⟨hD 6 5 (by decide) (by decide) (by decide) (by decide), hD 6 6 (by decide) (by decide) (by decide) (by decide), hD 6 7 (by decide) (by decide) (by decide) (by decide)⟩, ⟨hD 7 5 (by decide) (by decide) (by decide) (by decide), hD 7 6 (by decide) (by decide) (by decide) (by decide), hD 7 7 (by decide) (by decide) (by decide) (by decide)⟩⟩
  obtain ⟨M1, E1, w1, s1, L1, o1⟩ := PW.copy q q' hk w w' (by omega) h64 h18 dd
  obtain ⟨⟨wa5, wa6, wa7⟩, _, _, y1, y2, y3, y4, y5, y6⟩ := id w'
  obtain ⟨_, _, _, x1, x2, x3, _⟩ := id w.1
  have F5 : ∀ o, h ≤ o → o < h + 49 → o ≠ e5 := fun o a b => far4 y1 (by decide) hk hq.1 a b
  have F6 : ∀ o, h ≤ o → o < h + 49 → o ≠ e6 := fun o a b => far4 y2 (by decide) hk hq.1 a b
  have F7 : ∀ o, h ≤ o → o < h + 49 → o ≠ e7 := fun o a b => far4 y3 (by decide) hk hq.1 a b
  have G5 : ∀ o, k + 10 ≤ o → o < 131 → o ≠ e5 := fun o a b => far5 y1 (by decide) a b
  have G6 : ∀ o, k + 10 ≤ o → o < 131 → o ≠ e6 := fun o a b => far5 y2 (by decide) a b
  have G7 : ∀ o, k + 10 ≤ o → o < 131 → o ≠ e7 := fun o a b => far5 y3 (by decide) a b
  have H5 := far6 y1 (by decide) hq'.1
  have H6 := far6 y2 (by decide) hq'.1
  have H7 := far6 y3 (by decide) hq'.1
  have I5 := far7 y1 hq'.2.1
  have I6 := far7 y2 hq'.2.1
  have I7 := far7 y3 hq'.2.1
  have J : ∀ o, h ≤ o → o < h + 49 → ¬ (k ≤ o ∧ o < k + 49) := fun o a b => far8 hk a b
  have Jk : ∀ o, h ≤ o → o < h + 49 → ¬ (k + 1 ≤ o ∧ o ≤ k + 6) := fun o a b z => J o a b ⟨by omega, by omega⟩
  have us9 := u8.2.2.1
  clear y1 y2 y3 x1 x2 x3 dd hD
  have src1 : ∀ o, h ≤ o → o < h + 49 → ∀ j, mI M1 o j = mI M o j := fun o a b j => o1 o (Jk o a b) (F5 o a b) (F6 o a b) (F7 o a b) j
  obtain ⟨M2, E2, s2, f1, f2, f3, f4, f5⟩ := hcp_l hk 16 0 n M1 rfl hn (q.e s1) (q'.e s1) (fun v hv => by
    rw [src1 _ (by omega) (by omega), (hp.1 v hv).1 (8, 10) (by decide)]; exact hb v hv)
  clear hk
  have S2 : M2.1 = M.1 := s2.trans s1
  have o2 : ∀ o, ¬ (k ≤ o ∧ o < k + 49) → o ≠ e5 → o ≠ e6 → o ≠ e7 → ∀ b, mI M2 o b = mI M o b := fun o n n5 n6 n7 b => by
    rw [f3 o (by omega), o1 o (by omega) n5 n6 n7]
  have lo : ∀ o, (k + 10 ≤ o ∧ o < k + 15) → ∀ b, mI M2 o b = mI M o b := fun o n b => by
    rw [f3 o (by omega), o1 o (by omega) (G5 o n.1 (by omega)) (G6 o n.1 (by omega)) (G7 o n.1 (by omega))]
  refine ⟨M2, ?_, ⟨q'.e S2, ⟨e5, e6, e7, len', K, fr, us, ow, ?_, hK⟩, ⟨fun v hv => ?_, ?_⟩, ?_, ⟨?_, ?_⟩, ?_, fun v hv => ?_⟩, ?_⟩
  · rw [f_X2_copyFrom, cs_f q', cs_h1 q', bnd_e, cs_p q', cs_f q, cs_h1 q, bnd_e, cs_p q, E1, obd_s]
    exact E2
  · exact w1.cg (w'.e S2) (Nat.le_refl _) h18 (fun i a b c => f3 _ (by omega) _) (fun b _ => f3 _ H5 _) (fun b _ => f3 _ H6 _) (fun b _ => f3 _ H7 _)
  · obtain ⟨a1, a2, a3, a4, a5⟩ := hp.1 v hv
    obtain ⟨g1, g2, g3⟩ := f1 v (by omega) hv
    have gg : ∀ j, j < 16 → j ≠ 10 → mI M2 (k + 17 + 2 * v) j = mI M (h + 17 + 2 * v) j := fun j hj n => by
      rw [g1 j hj n, src1 _ (by omega) (by omega)]
    refine ⟨fun p hp => ?_, ?_, fun z => ?_, fun u hu => ?_, fun w hw => ?_⟩
    · have lim : ∀ p, p ∈ ft → p.1 < 16 ∧ p.1 ≠ 10 := by decide
      rw [gg _ (lim p hp).1 (lim p hp).2]; exact a1 p hp
    · rw [gg _ (by decide) (by decide)]; exact a2
    · rw [gg _ (by decide) (by decide)]; exact a3 z
    · rw [gg _ (by decide) (by decide)]; exact a4 u hu
    · rw [g2 _ (hW v hv w hw), src1 _ (by omega) (by omega)]; exact a5 w hw
  · obtain ⟨g7, g8, g9, g10, g11, g12, g13, g14, g15⟩ := hp.2
    have gg : ∀ j, 7 ≤ j → j ≤ 15 → mI M2 k j = mI M h j := fun j a b => by
      rw [f2 j a b, src1 _ (by omega) (by omega)]
    refine ⟨fun v hv => ?_, fun v hv => ?_, fun v hv => ?_, ?_, ?_, ?_, ?_, ?_, ?_⟩
    · rw [gg _ (by decide) (by decide)]; exact g7 v hv
    · rw [gg _ (by decide) (by decide)]; exact g8 v hv
    · rw [gg _ (by decide) (by decide)]; exact g9 v hv
    · rw [gg _ (by decide) (by decide)]; exact g10
    · rw [gg _ (by decide) (by decide)]; exact g11
    · rw [gg _ (by decide) (by decide)]; exact g12
    · rw [gg _ (by decide) (by decide)]; exact g13
    · rw [gg _ (by decide) (by decide)]; exact g14
    · rw [gg _ (by decide) (by decide)]; exact g15
  · unfold Rm mN mU mLn mR at rm' ⊢
    rw [S2]; exact rm'
  · show LG M2 (k + 11) 30 (pb' ++ [])
    rw [List.append_nil]
    exact lb'.cg (lo _ (by omega)) (lo _ (by omega))
  · show LG M2 (k + 13) 40 (pt' ++ [])
    rw [List.append_nil]
    exact lt'.cg (lo _ (by omega)) (lo _ (by omega))
  · rw [o2 1 (by omega) I5 I6 I7]; exact hN
  · rw [(f1 v (by omega) (by omega)).2.2, src1 _ (by omega) (by omega)]; exact hQ v hv
  · refine ⟨by unfold mN; rw [S2]; exact Nat.le_refl _, fun i _ => by rw [S2], fun a b _ _ => by unfold mR; rw [S2], fun o _ n n5 n6 n7 b => o2 o n (by rw [← wa5]; exact n5) (by rw [← wa6]; exact n6) (by rw [← wa7]; exact n7) b, fun o _ b => by rw [f5, L1], fun j _ _ => Or.inl (by unfold mR; rw [S2])⟩
set_option maxHeartbeats 1000000 in
theorem HV.copy {M : Mem} {h k X Y X' Y' N n : Nat} {t : Int32} {Q : Nat → Int32} {S : St} {pb pt pb' pt' : List Row4} (p : HV M h X Y t N Q S pb pt) (r : TR M k X' Y' pb' pt') (hk : h + 49 ≤ k ∨ k + 49 ≤ h) (h16 : N ≤ 16) (hD : ∀ i j, 5 ≤ i → i ≤ 7 → 5 ≤ j → j ≤ 7 → mR M (k + 1) i ≠ mR M (h + 1) j) (hb : ∀ v, v < 16 → xR S 10 v = 0 ∨ xR S 10 v = 1) (hW : ∀ v, v < 16 → ∀ w, w ∈ xW S v → w.1 < 16) (hn : 17 ≤ n) : ∃ M', f_X2_copyFrom n k h M = some M' ∧ HV M' k X' Y' t N Q (clr S) pb' pt' ∧ FrH M M' k := by
  obtain ⟨q, pv, hp, rm, _, hN, hQ⟩ := p
  obtain ⟨d5, d6, d7, len, K, fr, us, ow, w, hK⟩ := id pv
  obtain ⟨q', ⟨e5, e6, e7, len', w', h64, h18⟩, rm', lb', lt'⟩ := id r
  have hq := q.2.2.2.2
  have hq' := q'.2.2.2.2
  have u8 := w.2.2.2.2.2.2.2.2.2.1
  by_cases c : us ≤ len'
  · exact HV.copyL q pv hp hN hQ r hk h16 ⟨us, by rw [w'.1.1, w'.2.2.1.1]; exact c, u8.1⟩ hD hb hW hn
  · have r1 := rm'.1
    have r2 := rm'.2.1
    have r5 := rm'.2.2.2.2
    have s5 := rm.2.2.2.2
    have x1 := rm'.2.2.1
    have x2 := rm'.2.2.2.1
    rw [w'.1.1, w'.2.2.1.1] at r1 r2 r5
    rw [w.1.1.1, w.1.2.2.1.1] at s5
    obtain ⟨u81, u82, u83, u84, u85⟩ := u8
    have E := f_cpg q q' hk w.1 w' u81 (by omega) u82 u84 (by unfold CAP; omega) (by unfold CAPU; omega)
    have Q0 : CS (al3 M k len) h := al3_CS q (by omega)
    have Q1 : CS (al3 M k len) k := al3_CS q' (Or.inl rfl)
    have W1 := al3_DS (M := M) (k := k) (len := len) hq.2.2 hq'.1
    have lo : ∀ o, o < 131 → ∀ b, mI (al3 M k len) o b = mI M o b := fun o ho b => al3_I _ _ _ _ (by omega)
    have F0 := al3_FrH M k len (by omega)
    have B := w.1.2.1
    have rr : ∀ b, mR (al3 M k len) (h + 1) b = mR M (h + 1) b := fun b => F0.2.2.1 _ _ (by omega) (by omega)
    have W0 : DS (al3 M k len) h d5 d6 d7 len := by
      obtain ⟨⟨a5, a6, a7⟩, ⟨b5, b6, b7⟩, ⟨l5, l6, l7⟩, y⟩ := w.1
      refine ⟨⟨by rw [rr]; exact a5, by rw [rr]; exact a6, by rw [rr]; exact a7⟩, ⟨al3_io b5, al3_io b6, al3_io b7⟩, ⟨?_, ?_, ?_⟩, y⟩
      · rw [mLn, al3_C _ _ _ b5.1]; exact l5
      · rw [mLn, al3_C _ _ _ b6.1]; exact l6
      · rw [mLn, al3_C _ _ _ b7.1]; exact l7
    have P0 : PV (al3 M k len) h t S := ⟨d5, d6, d7, len, K, fr, us, ow, w.cg W0 (Nat.le_refl _) u84 (fun i _ _ b => lo _ (by omega) _) (fun b _ => al3_I _ _ _ _ B.1.1) (fun b _ => al3_I _ _ _ _ B.2.1.1) (fun b _ => al3_I _ _ _ _ B.2.2.1), hK⟩
    have H0 : HP (al3 M k len) h S := hp.cg (fun o ho b => lo o (by omega) b) (fun _ _ _ => rfl) rfl
    have len64 : 2 * len' ≤ len := pw_dbl r5 s5 (by omega)
    have R0 : TR (al3 M k len) k X' Y' pb' pt' := by
      refine ⟨Q1, ⟨_, _, _, len, W1, u85, u84⟩, ⟨?_, ?_, x1, x2, ?_⟩, lb'.cg (fun b => lo _ (by omega) b) (fun b => lo _ (by omega) b), lt'.cg (fun b => lo _ (by omega) b) (fun b => lo _ (by omega) b)⟩
      · rw [W1.1.1, W1.2.2.1.1, al3_N]; omega
      · rw [W1.1.1, W1.2.2.1.1, al3_U]; omega
      · rw [W1.1.1, W1.2.2.1.1]; exact s5
    have D0 : ∀ i j, 5 ≤ i → i ≤ 7 → 5 ≤ j → j ≤ 7 → mR (al3 M k len) (k + 1) i ≠ mR (al3 M k len) (h + 1) j := fun i j a b c' d => by
      rw [rr]
      have lt : mR M (h + 1) j < mN M := by
        rcases (show j = 5 ∨ j = 6 ∨ j = 7 by omega) with rfl | rfl | rfl
        · rw [w.1.1.1]; exact B.1.1
        · rw [w.1.1.2.1]; exact B.2.1.1
        · rw [w.1.1.2.2]; exact B.2.2.1
      have : mN M ≤ mR (al3 M k len) (k + 1) i := by
        rcases (show i = 5 ∨ i = 6 ∨ i = 7 by omega) with rfl | rfl | rfl
        · rw [W1.1.1]; exact Nat.le_refl _
        · rw [W1.1.2.1]; omega
        · rw [W1.1.2.2]; omega
      omega
    obtain ⟨M', e, p', f'⟩ := HV.copyL (n := n) (Q := Q) Q0 P0 H0 (by rw [lo 1 (by decide)]; exact hN) (fun v hv => by rw [lo _ (by omega)]; exact hQ v hv) R0 hk h16 ⟨us, by rw [W1.1.1, W1.2.2.1.1]; exact u82, by rw [lo _ (by omega)]; exact u81⟩ D0 hb hW hn
    refine ⟨M', ?_, p', F0.tr f'⟩
    rw [← e, f_X2_copyFrom, f_X2_copyFrom, cs_f q', cs_h1 q', bnd_e, cs_p q', cs_f q, cs_h1 q, bnd_e, cs_p q, E, cs_f Q1, cs_h1 Q1, bnd_e, cs_p Q1, cs_f Q0, cs_h1 Q0, bnd_e, cs_p Q0]
/-! ===== what a move leaves alone ===== -/
def Kp (S S' : St) : Prop := (∀ k i, k = 7 ∨ k = 17 ∨ k = 20 ∨ k = 12 → xR S' k i = xR S k i) ∧ ∀ u, xR S' 0 u = 0 → xR S 0 u = 0
theorem Kp.rf (S : St) : Kp S S := ⟨fun _ _ _ => rfl, fun _ h => h⟩
theorem Kp.tr {S S' S'' : St} (h : Kp S S') (h' : Kp S' S'') : Kp S S'' := ⟨fun k i z => (h'.1 k i z).trans (h.1 k i z), fun u z => h.2 u (h'.2 u z)⟩
theorem Kp.eq {S S' S'' : St} (h : Kp S S') (e : xR S'' = xR S') : Kp S S'' := ⟨fun k i z => by rw [e]; exact h.1 k i z, fun u z => h.2 u (by rw [← e]; exact z)⟩
theorem Kp.r (S : St) {k i : Nat} {x : Int32} (h : k ≠ 0 ∧ k ≠ 7 ∧ k ≠ 17 ∧ k ≠ 20 ∧ k ≠ 12) : Kp S (uR S k i x) := by
  refine ⟨fun k' i' z => ?_, fun u z => ?_⟩
  · rw [xR_uR, if_neg (by omega)]
  · rwa [xR_uR, if_neg (by omega)] at z
theorem Kp.tsn (S : St) (t : Int32) (k f g : Nat) (s : Int32) : Kp S (sn t k f g s S) := by
  refine ⟨fun k' i' z => ?_, fun u z => ?_⟩
  · rw [sn_R _ _ _ _ _ _ (by omega)]
  · rwa [sn_R _ _ _ _ _ _ (by omega)] at z
theorem Kp.tsAl (t : Int32) (k f : Nat) (set s : Int32) (ws : List Nat) (S : St) : Kp S (sAl t k f set s ws S) := by
  refine ⟨fun k' i' z => ?_, fun u z => ?_⟩
  · rw [sAl_R _ _ _ _ _ (by omega)]
  · rwa [sAl_R _ _ _ _ _ (by omega)] at z
theorem Kp.tnob (S : St) (a : Nat) : Kp S (nob a S) := by
  refine Kp.tr (Kp.tr (Kp.r S (k := 8) (i := a) (x := -1) (by decide)) (Kp.r _ (k := 9) (i := a) (x := 0) (by decide))) (Kp.r _ (k := 10) (i := a) (x := 0) (by decide))
theorem Kp.tgF (S : St) (t : Int32) (a : Nat) : Kp S (gF t a S) := by
  unfold gF
  split
  · exact Kp.tnob S a
  · refine Kp.tr ?_ (Kp.tsn _ _ _ _ _ _)
    refine Kp.eq (Kp.tr (Kp.tr (Kp.tnob S a) (Kp.r _ (k := 8) (i := a) (by decide))) (Kp.r _ (k := 9) (i := a) (by decide))) rfl
theorem Kp.trq3 (S : St) (t : Int32) (a : Nat) : Kp S (rq3 t a S) := by
  unfold rq3
  split
  · exact Kp.rf S
  · exact Kp.tr (Kp.r S (k := 10) (i := a) (x := 1) (by decide)) (Kp.tsn _ _ _ _ _ _)
theorem Kp.trq2 (S : St) (t : Int32) (a : Nat) (old : List Wtr) : Kp S (rq2 t a old S) := by
  cases old with
  | nil => exact Kp.rf S
  | cons w r =>
    show Kp S (if ahd w.2 (nI w.1) (xR S 9 a) (xR S 8 a) then _ else S)
    split
    · exact Kp.tsn _ _ _ _ _ _
    · exact Kp.rf S
theorem Kp.W (S : St) (a : Nat) (w : List Wtr) : Kp S (uW S a w) := Kp.eq (Kp.rf S) rfl
theorem Kp.trq (S : St) (t : Int32) (a v : Nat) (s : Int32) : Kp S (rq t a v s S) := by
  unfold rq
  split
  · exact (Kp.W S a _).tr (Kp.tgF _ _ _)
  · split
    · exact ((Kp.W S a _).tr (Kp.trq2 _ _ _ _)).tr (Kp.trq3 _ _ _)
    · exact (Kp.W S a _).tr (Kp.tsn _ _ _ _ _ _)
theorem Kp.tyl (S : St) (t : Int32) (a v : Nat) (s : Int32) : Kp S (yl t a v s S) := by
  unfold yl
  split
  · exact (Kp.W S a _).tr (Kp.tgF _ _ _)
  · exact Kp.rf S
theorem Kp.trl (S : St) (t : Int32) (a v : Nat) (s : Int32) : Kp S (rl t a v s S) := by
  unfold rl
  split
  · exact Kp.tgF _ _ _
  · exact Kp.W S a _
theorem Kp.tyT (S : St) (t : Int32) (v a : Nat) : Kp S (yT t v a S) := by
  unfold yT
  simp only []
  exact ((Kp.tsn S t 4 v a _).tr (Kp.r _ (k := 4) (i := v) (by decide))).tr (Kp.r _ (k := 6) (i := v) (by decide))
theorem Kp.tfdl (t : Int32) (v : Nat) (d : Int32) : ∀ (ws : List Nat) (S : St), Kp S (fdl t v d ws S) := by
  intro ws
  induction ws with
  | nil => intro S; exact Kp.rf S
  | cons w ws ih =>
    intro S
    have e : fdl t v d (w :: ws) S = fdl t v d ws (if bt d w then yT t v w S else S) := by
      unfold fdl
      rw [List.foldl_cons]
    rw [e]
    refine Kp.tr ?_ (ih _)
    split
    · exact Kp.tyT S t v w
    · exact Kp.rf S
theorem Kp.tfd (S : St) (t : Int32) (N v a : Nat) : Kp S (fd t N v a S) := by
  unfold fd
  exact ((Kp.r S (k := 6) (i := v) (by decide)).tr (Kp.tfdl _ _ _ _ _)).tr (Kp.r _ (k := 5) (i := v) (by decide))
theorem Kp.tiq (S : St) (t : Int32) (v a : Nat) : Kp S (iq t v a S) := by
  unfold iq
  split
  · split
    · exact Kp.r S (k := 5) (i := v) (by decide)
    · exact Kp.tyT S t v a
  · exact Kp.rf S
/-- also with an entry -/
def Kq (S S' : St) : Prop := (∀ k i, k = 7 ∨ k = 17 ∨ k = 20 → xR S' k i = xR S k i) ∧ (∀ u, xR S' 0 u = 0 → xR S 0 u = 0) ∧ ∀ u, xR S' 12 u = xR S 12 u ∨ xR S' 12 u = xR S 12 u + 1
theorem Kp.q {S S' : St} (h : Kp S S') : Kq S S' := ⟨fun k i z => h.1 k i (by omega), h.2, fun u => Or.inl (h.1 12 u (by omega))⟩
theorem Kq.tr {S S' S'' : St} (h : Kp S S') (h' : Kq S' S'') : Kq S S'' :=
  ⟨fun k i z => (h'.1 k i z).trans (h.1 k i (by omega)), fun u z => h.2 u (h'.2.1 u z), fun u => by rw [← h.1 12 u (by omega)]; exact h'.2.2 u⟩
theorem en_12 {t : Int32} {N v : Nat} {S : St} {k i : Nat} (hk : k ≠ 15 ∧ k ≠ 21) : xR (en t N v S) k i = if k = 0 ∧ i = v then 2 else if k = 5 ∧ i = v then 0 else if k = 12 ∧ i = v then xR S 12 v + 1 else xR S k i := by
  rw [enC_e]
  unfold enC
  simp only []
  rw [xR_uE, xR_uR, if_neg (by omega), xR_uR, if_neg (by omega), xR_uR, if_neg (by omega), xR_uR, if_neg (by omega), xR_uR, if_neg (by omega), xR_uR, xR_uR, xR_uR, xR_uR]
  by_cases c12 : k = 12 ∧ i = v
  · rw [if_pos c12, if_neg (show ¬ (k = 0 ∧ i = v) from fun z => by omega), if_neg (show ¬ (k = 5 ∧ i = v) from fun z => by omega), if_pos c12]
  · rw [if_neg c12, if_neg (show ¬ (k = 21 ∧ i = v) from fun z => by omega), if_neg c12]
theorem Kq.ten (S : St) (t : Int32) (N v : Nat) : Kq S (en t N v S) := by
  refine ⟨fun k i z => ?_, fun u z => ?_, fun u => ?_⟩
  · rw [en_12 (by omega), if_neg (by omega), if_neg (by omega), if_neg (by omega)]
  · rw [en_12 (by decide)] at z
    by_cases c : u = v
    · rw [if_pos ⟨rfl, c⟩] at z; exact absurd z (by decide)
    · rwa [if_neg (fun y => c y.2), if_neg (fun y => by have := y.1; omega), if_neg (fun y => by have := y.1; omega)] at z
  · rw [en_12 (by decide), if_neg (fun y => by have := y.1; omega), if_neg (fun y => by have := y.1; omega)]
    by_cases c : u = v
    · rw [if_pos ⟨rfl, c⟩, c]; exact Or.inr rfl
    · rw [if_neg (fun y => c y.2)]; exact Or.inl rfl
theorem Kq.tgr (S : St) (t : Int32) (N v a : Nat) : Kq S (gr t N v a S) := by
  unfold gr
  simp only []
  have h : Kp S (uR (uR (uR S 4 v (bon (xR S 4 v) a)) 5 v (bof (xR S 5 v) a)) 6 v (bof (xR S 6 v) a)) :=
    ((Kp.r S (k := 4) (i := v) (by decide)).tr (Kp.r _ (k := 5) (i := v) (by decide))).tr (Kp.r _ (k := 6) (i := v) (by decide))
  split
  · exact Kq.tr h (Kq.ten _ _ _ _)
  · exact h.q
theorem Kq.trd (S : St) (t : Int32) (N k f g : Nat) (s : Int32) : Kq S (rd t N k f g s S) := by
  unfold rd
  simp only []
  have h : Kp S (if s ≤ xR S 1 g then S else uR S 1 g s) := by
    split
    · exact Kp.rf S
    · exact Kp.r S (k := 1) (i := g) (by decide)
  generalize (if s ≤ xR S 1 g then S else uR S 1 g s) = S1 at h ⊢
  refine Kq.tr h ?_
  split
  · exact (Kp.trq _ _ _ _ _).q
  · split
    · exact (Kp.tyl _ _ _ _ _).q
    · split
      · exact (Kp.trl _ _ _ _ _).q
      · split
        · split
          · exact Kq.tgr _ _ _ _ _
          · split
            · exact (Kp.tfd _ _ _ _ _).q
            · exact (Kp.tiq _ _ _ _).q
        · exact (Kp.rf _).q
theorem Kp.twt (S : St) (N k f g : Nat) (s : Int32) : Kp S (wt N k f g s S) :=
  ⟨fun k' i z => wt_R (by omega) (by omega) (by omega) i, fun u z => by rwa [wt_R (by omega) (by omega) (by omega)] at z⟩
theorem Kq.tbr (S : St) (t : Int32) (N f g : Nat) : Kq S (br t N f g S) := by
  unfold br
  split
  · exact (Kp.rf S).q
  · exact Kq.tr ((Kp.eq (Kp.rf S) rfl).tr (Kp.twt (uL S (16 * f + g) _) N _ f g _)) (Kq.trd _ _ _ _ _ _ _)
theorem lv_R {t : Int32} {N v : Nat} {S : St} {k i : Nat} (hk : k ≠ 16) : xR (lv t N v S) k i = if i = v ∧ (k = 0 ∨ (3 ≤ k ∧ k ≤ 6)) then 0 else xR S k i := by
  unfold lv
  rw [sA_R hk, rst_R]
/-- of a move by a draw -/
theorem dm_K {N c v0 : Nat} {S : St} (t : Int32) (hc : c < 272) (hv : c < 256 ∨ c - 256 = v0) : (∀ k i, k = 7 ∨ k = 17 ∨ k = 20 → xR (dm t N c S) k i = xR S k i) ∧ (∀ u, u ≠ v0 ∨ c < 256 → xR (dm t N c S) 0 u = 0 → xR S 0 u = 0) ∧ ∀ u, xR (dm t N c S) 12 u = xR S 12 u ∨ xR (dm t N c S) 12 u = xR S 12 u + 1 := by
  unfold dm
  by_cases h : c < 256
  · rw [if_pos h]
    have := Kq.tbr S t N (c / 16) (c % 16)
    exact ⟨this.1, fun u _ => this.2.1 u, this.2.2⟩
  · rw [if_neg h, if_pos hc]
    refine ⟨fun k i z => ?_, fun u hu z => ?_, fun u => ?_⟩
    · rw [lv_R (by omega), if_neg (by omega)]
    · rwa [lv_R (by decide), if_neg (by omega)] at z
    · rw [lv_R (by decide), if_neg (by omega)]; exact Or.inl rfl
/-! ===== a crowd's turn, on the model ===== -/
def idl (S : St) : Nat → Nat
  | 0 => 0
  | n + 1 => idl S n + (if xR S 0 n = 0 then 1 else 0)
theorem idl_c {S S' : St} {v : Nat} : ∀ n, (∀ u, u < n → u ≠ v → xR S' 0 u = 0 → xR S 0 u = 0) → idl S' n ≤ idl S n + (if v < n then 1 else 0) := by
  intro n
  induction n with
  | zero => intro _; exact Nat.zero_le _
  | succ n ih =>
    intro h
    have i := ih (fun u hu => h u (by omega))
    have hn := h n (by omega)
    unfold idl
    by_cases c : n = v
    · subst c
      rw [if_neg (Nat.lt_irrefl _)] at i
      rw [if_pos (show n < n + 1 by omega)]
      split <;> split <;> omega
    · have e : (if v < n + 1 then 1 else 0) = (if v < n then 1 else 0) := by
        by_cases d : v < n
        · rw [if_pos d, if_pos (by omega)]
        · rw [if_neg d, if_neg (by omega)]
      rw [e]
      by_cases z : xR S' 0 n = 0
      · rw [if_pos z, if_pos (hn c z)]; omega
      · rw [if_neg z]; omega
theorem idl_a {S S' : St} (n : Nat) (h : ∀ u, u < n → xR S' 0 u = 0 → xR S 0 u = 0) : idl S' n ≤ idl S n := by
  have := idl_c (v := n) n (fun u hu _ => h u hu)
  rwa [if_neg (Nat.lt_irrefl _)] at this
theorem idl_b {S S' : St} {v : Nat} (h0 : xR S 0 v = 0) (h1 : ¬ xR S' 0 v = 0) : ∀ n, (∀ u, u < n → u ≠ v → xR S' 0 u = 0 → xR S 0 u = 0) → idl S' n + (if v < n then 1 else 0) ≤ idl S n := by
  intro n
  induction n with
  | zero => intro _; exact Nat.le_refl _
  | succ n ih =>
    intro h
    have i := ih (fun u hu => h u (by omega))
    have hn := h n (by omega)
    unfold idl
    by_cases c : n = v
    · subst c
      rw [if_neg (Nat.lt_irrefl _)] at i
      rw [if_pos (show n < n + 1 by omega), if_pos h0, if_neg h1]
      omega
    · have e : (if v < n + 1 then 1 else 0) = (if v < n then 1 else 0) := by
        by_cases d : v < n
        · rw [if_pos d, if_pos (by omega)]
        · rw [if_neg d, if_neg (by omega)]
      rw [e]
      by_cases z : xR S' 0 n = 0
      · rw [if_pos z, if_pos (hn c z)]; omega
      · rw [if_neg z]; omega
theorem idl_le (S : St) : ∀ n, idl S n ≤ n := by
  intro n
  induction n with
  | zero => exact Nat.le_refl _
  | succ n ih => unfold idl; split <;> omega
/-- letters on the way, and those that idle ones may yet send -/
def Psi (N : Nat) (S : St) : Nat := (fl S).length + N * idl S N
theorem Qk.tr {S S' S'' : St} (h : Qk S S') (h' : Qk S' S'') : Qk S S'' := fun k hk i => (h' k hk i).trans (h k hk i)
theorem Qk.rf (S : St) : Qk S S := fun _ _ _ => rfl
theorem ak_Psi {N v : Nat} {S : St} (h16 : N ≤ 16) (hv : v < N) (h0 : xR S 0 v = 0) (t : Int32) : Psi N (ak t N v S) ≤ Psi N S := by
  have a := ak_len (N := N) (v := v) (S := S) h16 (by omega) t
  have b := idl_b (S := S) (S' := ak t N v S) (v := v) h0 (by rw [ak_R (by decide), if_pos rfl, if_pos rfl]; decide) N (fun u _ n z => by rwa [ak_R (by decide), if_neg n] at z)
  rw [if_pos hv] at b
  have c : N * (idl (ak t N v S) N + 1) ≤ N * idl S N := Nat.mul_le_mul_left N b
  rw [Nat.mul_succ] at c
  unfold Psi
  omega
theorem ak_12 {t : Int32} {N v : Nat} {S : St} (u : Nat) : xR (ak t N v S) 12 u = xR S 12 u := by
  rw [ak_R (by decide)]
  by_cases c : u = v
  · rw [if_pos c]; rfl
  · rw [if_neg c]
theorem akl_J {N : Nat} (h16 : N ≤ 16) (t : Int32) : ∀ (d i B : Nat) (S : St), i + d ≤ N → Inv N B S → B + d < 1048576 → (∀ v, v < N → ∀ i, N ≤ i → i < 32 → bt (qm N S v) i = false) → Inv N (B + d) (akl t N (List.range' i d) S) ∧ Psi N (akl t N (List.range' i d) S) ≤ Psi N S ∧ Qk S (akl t N (List.range' i d) S) ∧ ∀ u, xR (akl t N (List.range' i d) S) 12 u = xR S 12 u := by
  intro d
  induction d with
  | zero => intro i B S _ hI _ _; exact ⟨hI, Nat.le_refl _, Qk.rf S, fun _ => rfl⟩
  | succ d ih =>
    intro i B S hi hI hB hQ
    have el : akl t N (List.range' i (d + 1)) S = akl t N (List.range' (i + 1) d) (if mayA N i S then ak t N i S else S) := by
      unfold akl
      rw [List.range'_succ, List.foldl_cons]
    rw [el]
    by_cases c : mayA N i S = true
    · rw [if_pos c]
      have c0 : xR S 0 i = 0 := by
        unfold mayA at c
        exact of_decide_eq_true (Bool.and_eq_true _ _ |>.mp c).1
      have hI1 := hI.tak h16 (v := i) (by omega) c0 (by omega) (hQ i (by omega)) t
      have k := Qk.ak t N i S
      obtain ⟨a1, a2, a3, a4⟩ := ih (i + 1) (B + 1) (ak t N i S) (by omega) hI1 (by omega) (fun v hv => by rw [k.m]; exact hQ v hv)
      rw [show B + (d + 1) = B + 1 + d by omega]
      exact ⟨a1, Nat.le_trans a2 (ak_Psi h16 (by omega) c0 t), k.tr a3, fun u => (a4 u).trans (ak_12 u)⟩
    · rw [if_neg c]
      obtain ⟨a1, a2, a3, a4⟩ := ih (i + 1) B S (by omega) hI (by omega) hQ
      exact ⟨a1.mo (by omega), a2, a3, a4⟩
/-- what holds of a crowd after r turns -/
def CJ (N A P : Nat) (S0 S : St) (r : Nat) : Prop := Inv N (A + N * r) S ∧ Psi N S ≤ P + 2 * N * r ∧ Qk S0 S ∧ ∀ u, ∃ m, m ≤ r ∧ xR S 12 u = xR S0 12 u + nI m
theorem CJ.aA {N A P r : Nat} {S0 S : St} (h : CJ N A P S0 S r) (h16 : N ≤ 16) (hA : A + N * (r + 1) < 1048576) (hQ : ∀ v, v < N → ∀ i, N ≤ i → i < 32 → bt (qm N S0 v) i = false) (t : Int32) : Inv N (A + N * (r + 1)) (akA t N S) ∧ Psi N (akA t N S) ≤ P + 2 * N * r ∧ Qk S0 (akA t N S) ∧ ∀ u, ∃ m, m ≤ r ∧ xR (akA t N S) 12 u = xR S0 12 u + nI m := by
  obtain ⟨h1, h2, h3, h4⟩ := h
  rw [Nat.mul_succ] at hA
  have e : akA t N S = akl t N (List.range' 0 N) S := by unfold akA; rw [List.range_eq_range']
  obtain ⟨a1, a2, a3, a4⟩ := akl_J h16 t N 0 (A + N * r) S (by omega) h1 (by omega) (fun v hv => by rw [h3.m]; exact hQ v hv)
  rw [e, Nat.mul_succ, ← Nat.add_assoc]
  exact ⟨a1, by omega, h3.tr a3, fun u => by rw [a4]; exact h4 u⟩
theorem mv0_in {N A : Nat} {S : St} (hI : Inv N A S) (h16 : N ≤ 16) {c : Nat} (h : c ∈ mv0 N S) : (c < 256 ∧ c / 16 < N ∧ c % 16 < N ∧ xL S c ≠ []) ∨ (256 ≤ c ∧ c < 272 ∧ c - 256 < N ∧ xR S 0 (c - 256) = 2) := by
  unfold mv0 at h
  rcases List.mem_append.mp h with h | h
  · have := lanes_in h
    by_cases q : c / 16 < N ∧ c % 16 < N
    · exact Or.inl ⟨this.1, q.1, q.2, this.2⟩
    · exact absurd ((hI.2.2.2.2.1 c this.1).2 q) this.2
  · obtain ⟨v, hv, rfl⟩ := List.mem_map.mp h
    have := inss_in hv
    exact Or.inr ⟨by omega, by omega, by omega, by rw [show 256 + v - 256 = v by omega]; exact this.2⟩
theorem dm_Inv {N A c : Nat} {S : St} (hI : Inv N A S) (h16 : N ≤ 16) (hA : A < 1048576) (h : c ∈ mv0 N S) (t : Int32) : Inv N A (dm t N c S) := by
  unfold dm
  rcases mv0_in hI h16 h with ⟨h1, h2, h3, _⟩ | ⟨h1, h2, h3, h4⟩
  · rw [if_pos h1]
    exact hI.tbr h16 hA h2 h3 t
  · rw [if_neg (by omega), if_pos h2]
    exact hI.tlv h16 h3 (by rw [h4]; decide) t
theorem dm_Psi {N A c : Nat} {S : St} (hI : Inv N A S) (h2N : 2 ≤ N) (h16 : N ≤ 16) (h : c ∈ mv0 N S) (t : Int32) : Psi N (dm t N c S) ≤ Psi N S + 2 * N := by
  unfold dm Psi
  rcases mv0_in hI h16 h with ⟨h1, h2, h3, _⟩ | ⟨h1, h2, h3, h4⟩
  · rw [if_pos h1]
    have a := br_len hI h2N h16 h2 h3 t
    have b := idl_a (S := S) (S' := br t N (c / 16) (c % 16) S) N (fun u _ => (Kq.tbr S t N (c / 16) (c % 16)).2.1 u)
    have := Nat.mul_le_mul_left N b
    omega
  · rw [if_neg (by omega), if_pos h2]
    have a := lv_len (N := N) (v := c - 256) (S := S) h16 (by omega) t
    have b := idl_c (S := S) (S' := lv t N (c - 256) S) (v := c - 256) N (fun u _ n z => by rwa [lv_R (by decide), if_neg (by omega)] at z)
    rw [if_pos h3] at b
    have := Nat.mul_le_mul_left N b
    rw [Nat.mul_succ] at this
    omega
theorem CJ.c1 {N A P r : Nat} {S0 S : St} (h : CJ N A P S0 S r) (h2N : 2 ≤ N) (h16 : N ≤ 16) (hA : A + N * (r + 1) < 1048576) (hQ : ∀ v, v < N → ∀ i, N ≤ i → i < 32 → bt (qm N S0 v) i = false) (t : Int32) (g : Int64) (b : Bool) : CJ N A P S0 (cr1 t N (S, g, b)).1 (r + 1) := by
  have ad : ∀ x, x ≤ P + 2 * N * r → x ≤ P + 2 * N * (r + 1) := fun x hx => by rw [Nat.mul_succ]; omega
  unfold cr1
  cases b with
  | false =>
    obtain ⟨h1, h2, h3, h4⟩ := h
    exact ⟨h1.mo (by rw [Nat.mul_succ]; omega), ad _ h2, h3, fun u => by obtain ⟨m, hm, e⟩ := h4 u; exact ⟨m, by omega, e⟩⟩
  | true =>
    obtain ⟨a1, a2, a3, a4⟩ := h.aA h16 hA hQ t
    have stay : CJ N A P S0 (akA t N S) (r + 1) := ⟨a1, ad _ a2, a3, fun u => by obtain ⟨m, hm, e⟩ := a4 u; exact ⟨m, by omega, e⟩⟩
    simp only [if_true]
    by_cases c : mv0 N (akA t N S) = []
    · rw [if_pos c]; exact stay
    · rw [if_neg c]
      cases hc : (mv0 N (akA t N S))[dk g (mv0 N (akA t N S)).length]? with
      | none => exact stay
      | some k =>
        simp only []
        have hk := List.mem_of_getElem? hc
        have k272 : k < 272 := by
          rcases mv0_in a1 h16 hk with z | z <;> omega
        have kk := dm_K (N := N) (c := k) (v0 := k - 256) (S := akA t N S) t k272 (Or.inr rfl)
        refine ⟨dm_Inv a1 h16 hA hk t, ?_, a3.tr (fun k' hk' i => kk.1 k' i hk'), fun u => ?_⟩
        · have := dm_Psi a1 h2N h16 hk t
          rw [Nat.mul_succ]
          omega
        · obtain ⟨m, hm, e⟩ := a4 u
          rcases kk.2.2 u with z | z
          · exact ⟨m, by omega, by rw [z, e]⟩
          · exact ⟨m + 1, by omega, by rw [z, e, Int32.add_assoc, nI_1]⟩
theorem Psi_fl {N : Nat} {S : St} : (fl S).length ≤ Psi N S := Nat.le_add_right _ _
/-! ===== the class: a crowd's turns ===== -/
def XT (M : Mem) : Prop := isO M 9 0 ∧ mR M 0 0 = 1 ∧ mR M 0 2 = 14 ∧ mR M 0 3 = 63 ∧ 131 ≤ mN M
theorem XT.fr {M M' : Mem} {h : Nat} (x : XT M) (f : FrH M M' h) : XT M' := by
  obtain ⟨⟨a1, a2⟩, b, c, d, e⟩ := x
  obtain ⟨f1, f2, f3, _⟩ := f
  refine ⟨⟨by omega, ?_⟩, ?_, ?_, ?_, by omega⟩
  · rw [mC, f2 0 a1]; exact a2
  · rw [f3 0 0 a1 (by omega)]; exact b
  · rw [f3 0 2 a1 (by omega)]; exact c
  · rw [f3 0 3 a1 (by omega)]; exact d
theorem XT.sL {M : Mem} (x : XT M) (o k : Nat) (y : Int64) : XT (sL M o k y) := x
theorem XT.frD {M M' : Mem} {h : Nat} (x : XT M) (f : FrD M M' h) : XT M' := by
  obtain ⟨y, f⟩ := f
  exact (x.sL h 16 y).fr f
theorem crn_f (t : Int32) (N : Nat) (S : St) (g : Int64) : ∀ n, crn t N n (S, g, false) = (S, g, false) := by
  intro n
  induction n with
  | zero => rfl
  | succ n ih => exact ih
theorem cr1_e {t : Int32} {N : Nat} {S : St} {g : Int64} (h : mv0 N (akA t N S) = []) : cr1 t N (S, g, true) = (akA t N S, g, false) := by
  unfold cr1
  simp only [if_true]
  rw [if_pos h]
theorem cr1_s {t : Int32} {N c : Nat} {S : St} {g : Int64} (h : mv0 N (akA t N S) ≠ []) (hc : (mv0 N (akA t N S))[dk g (mv0 N (akA t N S)).length]? = some c) : cr1 t N (S, g, true) = (dm t N c (akA t N S), drw g, true) := by
  unfold cr1
  simp only [if_true]
  rw [if_neg h, hc]
set_option maxHeartbeats 1000000 in
theorem HV.crl {N A P T X Y : Nat} {t w : Int32} {Q : Nat → Int32} {S0 : St} {pb pt : List Row4} (h2N : 2 ≤ N) (h16 : N ≤ 16) (hT : T ≤ 500) (hQ : ∀ v, v < N → qm N S0 v = Q v) (hQb : ∀ v, v < N → ∀ i, N ≤ i → i < 32 → bt (qm N S0 v) i = false) (hA : ∀ r, r ≤ T → A + N * (r + 1) < 1048576) (hP : ∀ r, r ≤ T → P + 2 * N * r + N * N + N ≤ 9000) : ∀ (d i n : Nat) (M : Mem) (S : St) (g : Int64) (b : Bool), i + d = T → HV M 63 X Y t N Q S pb pt → XT M → mL M 63 16 = g → Gk g → CJ N A P S0 S i → d + 60 ≤ n → ∃ M' n', f_X9_crowd_52 n 0 (nI T) w (if b then 1 else 0) (nI i) M = f_X9_crowd_85 n' 0 w M' ∧ 40 ≤ n' ∧ HV M' 63 X Y t N Q (crn t N d (S, g, b)).1 pb pt ∧ FrD M M' 63 ∧ CJ N A P S0 (crn t N d (S, g, b)).1 T := by
  intro d
  induction d with
  | zero =>
    intro i n M S g b hi p x hg hG J hn
    obtain ⟨n, rfl⟩ : ∃ m, n = m + 1 := ⟨n - 1, by omega⟩
    refine ⟨M, n, ?_, by omega, p, (FrH.rf _ _).D, by rw [show T = i by omega]; exact J⟩
    rw [f_X9_crowd_52, if_pos (nI_le (by omega) (by omega))]
  | succ d ih =>
    intro i n M S g b hi p x hg hG J hn
    obtain ⟨n, rfl⟩ : ∃ m, n = m + 1 := ⟨n - 1, by omega⟩
    have next := J.c1 h2N h16 (hA i (by omega)) hQb t g b
    cases b with
    | false =>
      have e : crn t N (d + 1) (S, g, false) = (S, g, false) := crn_f _ _ _ _ _
      rw [e]
      refine ⟨M, n, ?_, by omega, p, (FrH.rf _ _).D, ?_⟩
      · rw [f_X9_crowd_52, if_neg (nI_ge (by omega) (by omega)), if_neg (show ¬ false = true by decide), if_pos rfl]
      · have ad : ∀ d i, i + d = T → CJ N A P S0 S i → CJ N A P S0 S T := by
          intro d
          induction d with
          | zero => intro i hi J; rw [show T = i by omega]; exact J
          | succ d ih2 => intro i hi J; exact ih2 (i + 1) (by omega) (J.c1 h2N h16 (hA i (by omega)) hQb t g false)
        exact ad (d + 1) i hi J
    | true =>
      obtain ⟨a1, a2, a3, a4⟩ := J.aA h16 (hA i (by omega)) hQb t
      have hPi := hP i (by omega)
      have hps := J.2.1
      have hfl := Psi_fl (N := N) (S := S)
      have hfl1 := Psi_fl (N := N) (S := akA t N S)
      obtain ⟨M1, e1, p1, f1⟩ := p.takA h16 J.1.1 (fun v hv => by rw [J.2.2.1.m]; exact hQ v hv) (by omega) (n := n) (by omega)
      have x1 := x.fr f1
      have g1 : mL M1 63 16 = g := (f1.2.2.2.2.1 63 (by have := x.2.2.2.2; omega) 16).trans hg
      obtain ⟨s1, s2⟩ := p1.dr (n := n) a1 (hA i (by omega)) h2N h16 (by omega) (by have := x1.2.2.2.2; omega) g1 hG (by omega)
      have hd : ∀ y : Option (Int32 × Mem), (obd2 (f_X2_moveByDraw n 63 M1) fun r16 M17 => bnd (nI i + (1 : Int32)) fun x18 => f_X9_crowd_52 n 0 (nI T) w r16 x18 M17) = y → f_X9_crowd_52 (n + 1) 0 (nI T) w (if true = true then 1 else 0) (nI i) M = y := by
        intro y hy
        rw [f_X9_crowd_52, if_neg (nI_ge (by omega) (by omega)), if_pos rfl, if_neg ne10, chk_t x.1, x.2.2.2.1, bnd_e, cs_f p.1, e1, obd_s, chk_t x1.1, x1.2.2.2.1, bnd_e, cs_f p1.1]
        exact hy
      have ec : crn t N (d + 1) (S, g, true) = crn t N d (cr1 t N (S, g, true)) := rfl
      rw [ec]
      by_cases c : mv0 N (akA t N S) = []
      · have em := s1 c
        rw [cr1_e c] at next ⊢
        obtain ⟨M', n', e', hn', p', f', J'⟩ := ih (i + 1) n M1 _ g false (by omega) p1 x1 g1 hG next (by omega)
        refine ⟨M', n', hd _ ?_, hn', p', f1.D.tr f', J'⟩
        rw [em, obd2_s, nI_1, bnd_e]
        exact e'
      · obtain ⟨k, M2, hk, em, p2, g2, f2⟩ := s2 c
        rw [cr1_s c hk] at next ⊢
        obtain ⟨M', n', e', hn', p', f', J'⟩ := ih (i + 1) n M2 _ (drw g) true (by omega) p2 (x1.frD f2) g2 (Gk_drw hG) next (by omega)
        refine ⟨M', n', hd _ ?_, hn', p', (f1.D.tr f2).tr f', J'⟩
        rw [em, obd2_s, nI_1, bnd_e]
        exact e'
/-! ===== the reference: a crowd's turns ===== -/
theorem FrG.ofA {M M' : Mem} (f : Fr PA M M') : FrG M M' := (FrM.ofA f).G
set_option maxHeartbeats 1000000 in
theorem RV.crl {N A P T : Nat} {tw : Bool} {t w e1 e2 e3 : Int32} {S0 : St} {pb pt : List Row4} (h2N : 2 ≤ N) (h16 : N ≤ 16) (hT : T ≤ 500) (hN0 : xR S0 20 0 = nI N) (ht0 : xR S0 20 1 = 1 → N % 2 = 1) (hQb : ∀ v, v < N → ∀ i, N ≤ i → i < 32 → bt (qm N S0 v) i = false) (hA : ∀ r, r ≤ T → A + N * (r + 1) < 1048576) (hP : ∀ r, r ≤ T → P + 2 * N * r + N * N + N ≤ 9000) : ∀ (d i n : Nat) (M : Mem) (S : St) (g : Int64) (b : Bool), i + d = T → RV M tw t S pb pt → mI M 120 7 = 0 → mL M 120 8 = g → Gk g → CJ N A P S0 S i → d + 12000 ≤ n → ∃ M' n', f_X10_crowd_102 n 120 (nI T) w e1 e2 e3 (if b then 1 else 0) (nI i) M = f_X10_crowd_129 n' 120 w e1 e2 e3 M' ∧ 11000 ≤ n' ∧ RV M' tw t (crn t N d (S, g, b)).1 pb pt ∧ FrG M M' := by
  intro d
  induction d with
  | zero =>
    intro i n M S g b hi p hk hg hG J hn
    obtain ⟨n, rfl⟩ : ∃ m, n = m + 1 := ⟨n - 1, by omega⟩
    refine ⟨M, n, ?_, by omega, p, FrG.rf _⟩
    rw [f_X10_crowd_102, if_pos (nI_le (by omega) (by omega))]
  | succ d ih =>
    intro i n M S g b hi p hk hg hG J hn
    obtain ⟨n, rfl⟩ : ∃ m, n = m + 1 := ⟨n - 1, by omega⟩
    have next := J.c1 h2N h16 (hA i (by omega)) hQb t g b
    cases b with
    | false =>
      have e : crn t N (d + 1) (S, g, false) = (S, g, false) := crn_f _ _ _ _ _
      rw [e]
      refine ⟨M, n, ?_, by omega, p, FrG.rf _⟩
      rw [f_X10_crowd_102, if_neg (nI_ge (by omega) (by omega)), if_neg (show ¬ false = true by decide), if_pos rfl]
    | true =>
      obtain ⟨a1, a2, a3, a4⟩ := J.aA h16 (hA i (by omega)) hQb t
      have hPi := hP i (by omega)
      have hps := J.2.1
      have hfl := Psi_fl (N := N) (S := S)
      have hfl1 := Psi_fl (N := N) (S := akA t N S)
      have hk20 := J.2.2.1 20 (by omega)
      obtain ⟨M1, e1', p1, f1⟩ := p.takA (N := N) (by rw [hk20]; exact hN0) h16 (by rw [hk20]; exact ht0) (by omega) (n := n) (by omega)
      have k1 : mI M1 120 7 = 0 := (f1.2.1 120 (by unfold PA; omega) 7).trans hk
      have g1 : mL M1 120 8 = g := (f1.2.2 120 8).trans hg
      have ka := a3 20 (by omega)
      obtain ⟨M2, s1, s2, f2⟩ := p1.goO (n := n) a1 (by rw [ka]; exact hN0) h2N h16 (by rw [ka]; exact ht0) (hA i (by omega)) (by omega) k1 g1 hG (by omega)
      have hd : ∀ y : Option (Int32 × Mem), (obd2 (f_X10_goOnce n 120 M1) fun r10 M11 => bnd (nI i + (1 : Int32)) fun x12 => f_X10_crowd_102 n 120 (nI T) w e1 e2 e3 r10 x12 M11) = y → f_X10_crowd_102 (n + 1) 120 (nI T) w e1 e2 e3 (if true = true then 1 else 0) (nI i) M = y := by
        intro y hy
        rw [f_X10_crowd_102, if_neg (nI_ge (by omega) (by omega)), if_pos rfl, if_neg ne10, rs_f p.1, e1', obd_s, rs_f p1.1]
        exact hy
      have ec : crn t N (d + 1) (S, g, true) = crn t N d (cr1 t N (S, g, true)) := rfl
      rw [ec]
      have k2 : mI M2 120 7 = 0 := (f2.2.2.1 7 (by decide)).trans k1
      by_cases c : mv0 N (akA t N S) = []
      · obtain ⟨em, p2, g2⟩ := s1 c
        rw [cr1_e c] at next ⊢
        obtain ⟨M', n', e', hn', p', f'⟩ := ih (i + 1) n M2 _ g false (by omega) p2 k2 g2 hG next (by omega)
        refine ⟨M', n', hd _ ?_, hn', p', FrG.tr (FrG.ofA f1) (FrG.tr f2 f')⟩
        rw [em, obd2_s, nI_1, bnd_e]
        exact e'
      · obtain ⟨k, hk', em, p2, g2⟩ := s2 c
        rw [cr1_s c hk'] at next ⊢
        obtain ⟨M', n', e', hn', p', f'⟩ := ih (i + 1) n M2 _ (drw g) true (by omega) p2 k2 g2 (Gk_drw hG) next (by omega)
        refine ⟨M', n', hd _ ?_, hn', p', FrG.tr (FrG.ofA f1) (FrG.tr f2 f')⟩
        rw [em, obd2_s, nI_1, bnd_e]
        exact e'
/-! ===== what is told of a crowd ===== -/
def sa6 (S : St) : Int32 := (((((0 + xR S 16 0) + xR S 16 1) + xR S 16 2) + xR S 16 3) + xR S 16 4) + xR S 16 5
def nwE (S0 S : St) (v : Nat) : Int32 := xR S 12 v - xR S0 12 v
def fwl (S0 S : St) (ws : List Nat) (x : Int32) : Int32 := ws.foldl (fun x v => if xR S0 7 v = 0 then (if x = -1 then nwE S0 S v else if x ≤ nwE S0 S v then x else nwE S0 S v) else x) x
def mwl (S0 S : St) (ws : List Nat) (x : Int32) : Int32 := ws.foldl (fun x v => mxI x (nwE S0 S v)) x
def cT (N : Nat) (S0 S : St) (w : Nat) : Int32 :=
  if w = 0 then xR S 15 0 - xR S0 15 0 else if w = 1 then fwl S0 S (List.range N) (-1) else if w = 2 then mwl S0 S (List.range N) 0 else if w = 3 then xR S 15 2 - xR S0 15 2 else if w = 4 then sa6 S - sa6 S0 else xR S 15 4
theorem fwl_s (S0 S : St) (i d : Nat) (x : Int32) : fwl S0 S (List.range' i (d + 1)) x = fwl S0 S (List.range' (i + 1) d) (if xR S0 7 i = 0 then (if x = -1 then nwE S0 S i else if x ≤ nwE S0 S i then x else nwE S0 S i) else x) := by
  unfold fwl
  rw [List.range'_succ, List.foldl_cons]
theorem mwl_s (S0 S : St) (i d : Nat) (x : Int32) : mwl S0 S (List.range' i (d + 1)) x = mwl S0 S (List.range' (i + 1) d) (mxI x (nwE S0 S i)) := by
  unfold mwl
  rw [List.range'_succ, List.foldl_cons]
/-- what is looked at of the hall itself -/
def HH (M : Mem) (k : Nat) (S : St) : Prop := CS M k ∧ (∀ v, v < 16 → mI M (k + 17 + 2 * v) 11 = xR S 12 v) ∧ (∀ v, v < 16 → bt (mI M k 9) v = decide (xR S 7 v = 1)) ∧ mI M k 11 = xR S 15 0 ∧ mI M k 12 = xR S 15 2 ∧ ∀ j, j < 6 → mI M (k + 6) j = xR S 16 j
theorem HV.hh {M : Mem} {h X Y N : Nat} {t : Int32} {Q : Nat → Int32} {S : St} {pb pt : List Row4} (p : HV M h X Y t N Q S pb pt) : HH M h S := by
  obtain ⟨d5, d6, d7, len, K, fr, us, ow, w, _⟩ := p.2.1
  refine ⟨p.1, fun v hv => p.fs hv (a := 11) (k := 12) (by decide), fun v hv => ?_, p.gs (b := 11) (j := 0) (by decide), p.gs (b := 12) (j := 2) (by decide), w.2.2.2.2.2.2.2.1⟩
  rw [p.2.2.1.2.2.2.1 v (by omega)]
  simp [hv]
theorem HH.cg {M M' : Mem} {k : Nat} {S : St} (h : HH M k S) (q : CS M' k) (hI : ∀ o, k ≤ o → o < k + 49 → ¬ (k + 7 ≤ o ∧ o ≤ k + 9) → ∀ b, mI M' o b = mI M o b) : HH M' k S := by
  obtain ⟨_, a2, a3, a4, a5, a6⟩ := h
  exact ⟨q, fun v hv => by rw [hI _ (by omega) (by omega) (by omega)]; exact a2 v hv, fun v hv => by rw [hI k (by omega) (by omega) (by omega)]; exact a3 v hv, by rw [hI k (by omega) (by omega) (by omega)]; exact a4, by rw [hI k (by omega) (by omega) (by omega)]; exact a5, fun j hj => by rw [hI _ (by omega) (by omega) (by omega)]; exact a6 j hj⟩
theorem f_sent {M : Mem} {k n : Nat} {S : St} (q : CS M k) (h : ∀ j, j < 6 → mI M (k + 6) j = xR S 16 j) (hn : 7 ≤ n) : f_X5_sentInAll n (k + 1) M = some (sa6 S) := by
  obtain ⟨n, rfl⟩ : ∃ m, n = m + 7 := ⟨n - 7, by omega⟩
  have st : ∀ j m x, j < 6 → f_X5_sentInAll_4 M (m + 1) (k + 1) x (nI j) = f_X5_sentInAll_4 M m (k + 1) (x + xR S 16 j) (nI (j + 1)) := fun j m x hj => by
    rw [f_X5_sentInAll_4, if_neg (show ¬ (6 : Int32) ≤ nI j from nI_ge (a := j) (b := 6) hj (by decide)), cs_p q, cs_r6 q, bnd_e, cs_a6 q, cs_i6 q hj, mI_c (by omega), h j hj, bnd_e, nI_1, bnd_e]
  rw [f_X5_sentInAll, show (0 : Int32) = nI 0 from rfl, st 0 _ _ (by decide), st 1 _ _ (by decide), st 2 _ _ (by decide), st 3 _ _ (by decide), st 4 _ _ (by decide), st 5 _ _ (by decide), f_X5_sentInAll_4, if_pos (by decide)]
  rfl
theorem f_nw {M : Mem} {X Y N : Nat} {t : Int32} {Q : Nat → Int32} {S0 S : St} {pb pt : List Row4} (p : HV M 63 X Y t N Q S pb pt) (x : XT M) (o : HH M 14 S0) {v : Nat} (hv : v < 16) : f_X9_newEntries 0 (nI v) M = some (nwE S0 S v) := by
  have q := p.1
  have q0 := o.1
  rw [f_X9_newEntries, chk_t x.1, x.2.2.2.1, bnd_e, cs_f q, cs_h2 q, bnd_e, cs_a10 q, cs_i10 q hv, cs_rpc q hv, bnd_e, cs_po q hv, x.2.2.1, bnd_e, cs_f q0, cs_h2 q0, bnd_e, cs_a10 q0, cs_i10 q0 hv, cs_rpc q0 hv, bnd_e, cs_po q0 hv, p.fs hv (a := 11) (k := 12) (by decide), o.2.1 v hv]
  rfl
theorem few_l {M : Mem} {X Y N : Nat} {t : Int32} {Q : Nat → Int32} {S0 S : St} {pb pt : List Row4} (p : HV M 63 X Y t N Q S pb pt) (x : XT M) (o : HH M 14 S0) (h16 : N ≤ 16) (h7 : ∀ v, v < 16 → xR S0 7 v = 0 ∨ xR S0 7 v = 1) : ∀ (d i n : Nat) (y : Int32), i + d = N → d + 1 ≤ n → f_X9_fewestNewEntries_4 M n 0 y (nI i) = some (fwl S0 S (List.range' i d) y) := by
  intro d
  induction d with
  | zero =>
    intro i n y hi hn
    obtain ⟨n, rfl⟩ : ∃ m, n = m + 1 := ⟨n - 1, by omega⟩
    rw [f_X9_fewestNewEntries_4, chk_t x.1, x.2.1, bnd_e, cs_s p.1, p.2.2.2.2.2.1, if_pos (nI_le (by omega) (by omega))]
    rfl
  | succ d ih =>
    intro i n y hi hn
    obtain ⟨n, rfl⟩ : ∃ m, n = m + 1 := ⟨n - 1, by omega⟩
    have en := f_nw p x o (v := i) (by omega)
    rw [fwl_s, f_X9_fewestNewEntries_4, chk_t x.1, x.2.1, bnd_e, cs_s p.1, p.2.2.2.2.2.1, if_neg (nI_ge (by omega) (by omega)), x.2.2.1, bnd_e, cs_f o.1, f_has9 _ (by omega), obd_s, o.2.2.1 i (by omega)]
    have tk : f_X9_fewestNewEntries_43 (f_X9_fewestNewEntries_4 M n) M n 0 (nI i) = some (fwl S0 S (List.range' (i + 1) d) (nwE S0 S i)) := by
      rw [f_X9_fewestNewEntries_43, chk_t x.1, en, obd_s, nI_1, bnd_e, ih _ _ _ (by omega) (by omega)]
    by_cases c : xR S0 7 i = 0
    · rw [if_pos c, if_neg (show ¬ decide (xR S0 7 i = 1) = true from fun z => by rw [c] at z; exact absurd (of_decide_eq_true z) (by decide)), if_pos rfl]
      by_cases c1 : y = -1
      · rw [if_pos c1, if_pos c1, tk]
      · rw [if_neg c1, if_neg c1, en, obd_s]
        by_cases c2 : y ≤ nwE S0 S i
        · rw [if_pos c2, if_pos c2, nI_1, bnd_e, ih _ _ _ (by omega) (by omega)]
        · rw [if_neg c2, if_neg c2, tk]
    · have c1 := (h7 i (by omega)).resolve_left c
      rw [if_neg c, if_pos (decide_eq_true c1), if_neg ne10, nI_1, bnd_e, ih _ _ _ (by omega) (by omega)]
theorem most_l {M : Mem} {X Y N : Nat} {t : Int32} {Q : Nat → Int32} {S0 S : St} {pb pt : List Row4} (p : HV M 63 X Y t N Q S pb pt) (x : XT M) (o : HH M 14 S0) (h16 : N ≤ 16) : ∀ (d i n : Nat) (y : Int32), i + d = N → d + 1 ≤ n → f_X9_mostNewEntries_4 M n 0 y (nI i) = some (mwl S0 S (List.range' i d) y) := by
  intro d
  induction d with
  | zero =>
    intro i n y hi hn
    obtain ⟨n, rfl⟩ : ∃ m, n = m + 1 := ⟨n - 1, by omega⟩
    rw [f_X9_mostNewEntries_4, chk_t x.1, x.2.1, bnd_e, cs_s p.1, p.2.2.2.2.2.1, if_pos (nI_le (by omega) (by omega))]
    rfl
  | succ d ih =>
    intro i n y hi hn
    obtain ⟨n, rfl⟩ : ∃ m, n = m + 1 := ⟨n - 1, by omega⟩
    rw [mwl_s, f_X9_mostNewEntries_4, chk_t x.1, x.2.1, bnd_e, cs_s p.1, p.2.2.2.2.2.1, if_neg (nI_ge (by omega) (by omega)), f_nw p x o (v := i) (by omega), obd_s, bnd_e, nI_1, bnd_e, ih _ _ _ (by omega) (by omega)]
    rfl
theorem c85 {M : Mem} {X Y N n : Nat} {t : Int32} {Q : Nat → Int32} {S0 S : St} {pb pt : List Row4} (p : HV M 63 X Y t N Q S pb pt) (x : XT M) (o : HH M 14 S0) (h16 : N ≤ 16) (h7 : ∀ v, v < 16 → xR S0 7 v = 0 ∨ xR S0 7 v = 1) {w : Nat} (hw : w < 6) (hn : 17 ≤ n) : f_X9_crowd_85 n 0 (nI w) M = some (cT N S0 S w, M) := by
  have q := p.1
  have q0 := o.1
  obtain ⟨o1, o2, o3, o4, o5, o6⟩ := id o
  have er : List.range N = List.range' 0 N := List.range_eq_range'
  unfold cT
  rw [f_X9_crowd_85]
  rcases (show w = 0 ∨ w = 1 ∨ w = 2 ∨ w = 3 ∨ w = 4 ∨ w = 5 by omega) with rfl | rfl | rfl | rfl | rfl | rfl
  · rw [if_pos (show nI 0 = (0 : Int32) from rfl), if_pos rfl, chk_t x.1, x.2.2.2.1, bnd_e, cs_f q, x.2.2.1, bnd_e, cs_f q0, p.gs (b := 11) (j := 0) (by decide), o4]
  · rw [if_neg (show ¬ nI 1 = (0 : Int32) by decide), if_pos (show nI 1 = (1 : Int32) from rfl), if_neg (show ¬ (1 : Nat) = 0 by decide), if_pos rfl, chk_t x.1, f_X9_fewestNewEntries, er, show f_X9_fewestNewEntries_4 M n 0 (-1) 0 = _ from few_l p x o h16 h7 N 0 n (-1) (by omega) (by omega), obd_s]
  · rw [if_neg (show ¬ nI 2 = (0 : Int32) by decide), if_neg (show ¬ nI 2 = (1 : Int32) by decide), if_pos (show nI 2 = (2 : Int32) from rfl), if_neg (show ¬ (2 : Nat) = 0 by decide), if_neg (show ¬ (2 : Nat) = 1 by decide), if_pos rfl, chk_t x.1, f_X9_mostNewEntries, er, show f_X9_mostNewEntries_4 M n 0 0 0 = _ from most_l p x o h16 N 0 n 0 (by omega) (by omega), obd_s]
  · rw [if_neg (show ¬ nI 3 = (0 : Int32) by decide), if_neg (show ¬ nI 3 = (1 : Int32) by decide), if_neg (show ¬ nI 3 = (2 : Int32) by decide), if_pos (show nI 3 = (3 : Int32) from rfl), if_neg (show ¬ (3 : Nat) = 0 by decide), if_neg (show ¬ (3 : Nat) = 1 by decide), if_neg (show ¬ (3 : Nat) = 2 by decide), if_pos rfl, chk_t x.1, x.2.2.2.1, bnd_e, cs_f q, x.2.2.1, bnd_e, cs_f q0, p.gs (b := 12) (j := 2) (by decide), o5]
  · have s1 := f_sent (n := n) q p.hh.2.2.2.2.2 (by omega)
    have s2 := f_sent (n := n) q0 o6 (by omega)
    rw [if_neg (show ¬ nI 4 = (0 : Int32) by decide), if_neg (show ¬ nI 4 = (1 : Int32) by decide), if_neg (show ¬ nI 4 = (2 : Int32) by decide), if_neg (show ¬ nI 4 = (3 : Int32) by decide), if_pos (show nI 4 = (4 : Int32) from rfl), if_neg (show ¬ (4 : Nat) = 0 by decide), if_neg (show ¬ (4 : Nat) = 1 by decide), if_neg (show ¬ (4 : Nat) = 2 by decide), if_neg (show ¬ (4 : Nat) = 3 by decide), if_pos rfl, chk_t x.1, x.2.2.2.1, bnd_e, cs_f q, cs_h1 q, bnd_e, cs_p q, s1, obd_s, x.2.2.1, bnd_e, cs_f q0, cs_h1 q0, bnd_e, cs_p q0, s2, obd_s]
  · rw [if_neg (show ¬ nI 5 = (0 : Int32) by decide), if_neg (show ¬ nI 5 = (1 : Int32) by decide), if_neg (show ¬ nI 5 = (2 : Int32) by decide), if_neg (show ¬ nI 5 = (3 : Int32) by decide), if_neg (show ¬ nI 5 = (4 : Int32) by decide), if_neg (show ¬ (5 : Nat) = 0 by decide), if_neg (show ¬ (5 : Nat) = 1 by decide), if_neg (show ¬ (5 : Nat) = 2 by decide), if_neg (show ¬ (5 : Nat) = 3 by decide), if_neg (show ¬ (5 : Nat) = 4 by decide), chk_t x.1, x.2.2.2.1, bnd_e, cs_f q, p.gs (b := 15) (j := 4) (by decide)]
/-! ===== the reference: what is told of a crowd ===== -/
theorem rs_10 {M : Mem} (h : RS M) : mR M 120 10 = 127 := h.r (by decide)
theorem rs_f10 {α : Type} {M : Mem} (h : RS M) (x : Option α) : chk (isO M 100 127) x = x := chk_t (h.io (by decide) (by decide) (by decide))
theorem rs_c10 {α : Type} {M : Mem} (h : RS M) {k : Nat} (hk : k < 16) (x : Option α) : chk (inB (nI k) (mLn M 127)) x = x := by
  refine chk_t ?_
  rw [h.ln (c := 16) (by decide) (by decide) (by decide)]; exact inB_n hk (by decide)
theorem mx_nle (a b : Int32) : mxI a b = if b ≤ a then a else b := by
  unfold mxI
  by_cases c : a < b
  · rw [if_pos c, if_neg (Int32.not_le.mpr c)]
  · rw [if_neg c, if_pos (Int32.not_lt.mp c)]
/-- as cT, but of none 0 -/
def cR (N : Nat) (S0 S : St) (w : Nat) : Int32 :=
  if w = 0 then xR S 15 0 - xR S0 15 0 else if w = 1 then (if fwl S0 S (List.range N) (-1) = -1 then 0 else fwl S0 S (List.range N) (-1)) else if w = 2 then mwl S0 S (List.range N) 0 else if w = 3 then xR S 15 2 - xR S0 15 2 else if w = 4 then sa6 S - sa6 S0 else xR S 15 4
theorem RV.sent {M : Mem} {tw : Bool} {t : Int32} {S : St} {pb pt : List Row4} (p : RV M tw t S pb pt) {n : Nat} (hn : 7 ≤ n) : f_X10_sentAll n 120 M = some (sa6 S) := by
  obtain ⟨n, rfl⟩ : ∃ m, n = m + 7 := ⟨n - 7, by omega⟩
  have st : ∀ j m x, j < 6 → f_X10_sentAll_4 M (m + 1) 120 x (nI j) = f_X10_sentAll_4 M m 120 (x + xR S 16 j) (nI (j + 1)) := fun j m x hj => by
    have e := p.rg (k := 16) (i := j) (by unfold vk; omega)
    rw [show ad 16 j = 9859 + j from rfl] at e
    rw [f_X10_sentAll_4, if_neg (show ¬ (6 : Int32) ≤ nI j from nI_ge (a := j) (b := 6) hj (by decide)), rs_f p.1, rs_0 p.1, bnd_e, rs_fa p.1, show (9859 : Int32) + nI j = nI (9859 + j) by rw [show (9859 : Int32) = nI 9859 from rfl, nI_add], rs_c p.1 (by omega), cl_n (by omega), e, bnd_e, nI_1, bnd_e]
  rw [f_X10_sentAll, show (0 : Int32) = nI 0 from rfl, st 0 _ _ (by decide), st 1 _ _ (by decide), st 2 _ _ (by decide), st 3 _ _ (by decide), st 4 _ _ (by decide), st 5 _ _ (by decide), f_X10_sentAll_4, if_pos (by decide)]
  rfl
set_option maxHeartbeats 1000000 in
theorem tld_l {M : Mem} {tw : Bool} {t : Int32} {S0 S : St} {pb pt : List Row4} {N w : Nat} (p : RV M tw t S pb pt) (hN : xR S 20 0 = nI N) (h16 : N ≤ 16) (h7 : ∀ v, v < 16 → xR S 7 v = xR S0 7 v) (ht : ∀ v, v < N → mI M 127 v = xR S0 12 v) (hw : w < 6) : ∀ (d i n : Nat) (x y : Int32), i + d = N → d + 8 ≤ n → f_X10_crowdTold_9 M n 120 (nI w) (xR S0 15 0) (xR S0 15 2) (sa6 S0) x y (nI i) = some (if w = 0 then xR S 15 0 - xR S0 15 0 else if w = 1 then (if fwl S0 S (List.range' i d) x = -1 then 0 else fwl S0 S (List.range' i d) x) else if w = 2 then mwl S0 S (List.range' i d) y else if w = 3 then xR S 15 2 - xR S0 15 2 else if w = 4 then sa6 S - sa6 S0 else xR S 15 4) := by
  intro d
  induction d with
  | zero =>
    intro i n x y hi hn
    obtain ⟨n, rfl⟩ : ∃ m, n = m + 1 := ⟨n - 1, by omega⟩
    have g0 : mI M 121 9851 = xR S 15 0 := p.rg (k := 15) (i := 0) (by unfold vk; omega)
    have g2 : mI M 121 9853 = xR S 15 2 := p.rg (k := 15) (i := 2) (by unfold vk; omega)
    have g4 : mI M 121 9855 = xR S 15 4 := p.rg (k := 15) (i := 4) (by unfold vk; omega)
    rw [f_X10_crowdTold_9, rs_f p.1, rs_0 p.1, bnd_e, rs_fa p.1, rs_c0 p.1, cl0, p.N hN, if_pos (nI_le (by omega) (by omega))]
    rcases (show w = 0 ∨ w = 1 ∨ w = 2 ∨ w = 3 ∨ w = 4 ∨ w = 5 by omega) with rfl | rfl | rfl | rfl | rfl | rfl
    · rw [if_pos (show nI 0 = (0 : Int32) from rfl), if_pos rfl, bnd_e, rs_fa p.1, show (9851 : Int32) = nI 9851 from rfl, rs_c p.1 (by decide), cl_n (by decide), g0]
    · rw [if_neg (show ¬ nI 1 = (0 : Int32) by decide), if_pos (show nI 1 = (1 : Int32) from rfl), if_neg (show ¬ (1 : Nat) = 0 by decide), if_pos rfl]
      show (if x = -1 then some 0 else some x) = some (if x = -1 then 0 else x)
      by_cases c : x = -1
      · rw [if_pos c, if_pos c]
      · rw [if_neg c, if_neg c]
    · rw [if_neg (show ¬ nI 2 = (0 : Int32) by decide), if_neg (show ¬ nI 2 = (1 : Int32) by decide), if_pos (show nI 2 = (2 : Int32) from rfl), if_neg (show ¬ (2 : Nat) = 0 by decide), if_neg (show ¬ (2 : Nat) = 1 by decide), if_pos rfl]
      rfl
    · rw [if_neg (show ¬ nI 3 = (0 : Int32) by decide), if_neg (show ¬ nI 3 = (1 : Int32) by decide), if_neg (show ¬ nI 3 = (2 : Int32) by decide), if_pos (show nI 3 = (3 : Int32) from rfl), if_neg (show ¬ (3 : Nat) = 0 by decide), if_neg (show ¬ (3 : Nat) = 1 by decide), if_neg (show ¬ (3 : Nat) = 2 by decide), if_pos rfl, bnd_e, rs_fa p.1, show (9853 : Int32) = nI 9853 from rfl, rs_c p.1 (by decide), cl_n (by decide), g2]
    · have s1 := p.sent (n := n) (by omega)
      rw [if_neg (show ¬ nI 4 = (0 : Int32) by decide), if_neg (show ¬ nI 4 = (1 : Int32) by decide), if_neg (show ¬ nI 4 = (2 : Int32) by decide), if_neg (show ¬ nI 4 = (3 : Int32) by decide), if_pos (show nI 4 = (4 : Int32) from rfl), if_neg (show ¬ (4 : Nat) = 0 by decide), if_neg (show ¬ (4 : Nat) = 1 by decide), if_neg (show ¬ (4 : Nat) = 2 by decide), if_neg (show ¬ (4 : Nat) = 3 by decide), if_pos rfl, s1, obd_s]
    · rw [if_neg (show ¬ nI 5 = (0 : Int32) by decide), if_neg (show ¬ nI 5 = (1 : Int32) by decide), if_neg (show ¬ nI 5 = (2 : Int32) by decide), if_neg (show ¬ nI 5 = (3 : Int32) by decide), if_neg (show ¬ nI 5 = (4 : Int32) by decide), if_neg (show ¬ (5 : Nat) = 0 by decide), if_neg (show ¬ (5 : Nat) = 1 by decide), if_neg (show ¬ (5 : Nat) = 2 by decide), if_neg (show ¬ (5 : Nat) = 3 by decide), if_neg (show ¬ (5 : Nat) = 4 by decide), bnd_e, rs_fa p.1, show (9855 : Int32) = nI 9855 from rfl, rs_c p.1 (by decide), cl_n (by decide), g4]
  | succ d ih =>
    intro i n x y hi hn
    obtain ⟨n, rfl⟩ : ∃ m, n = m + 1 := ⟨n - 1, by omega⟩
    have i6 : i < 16 := by omega
    have ec : f_X10_countOf 120 (nI i) (0 : Int32) M = some (xR S 12 i) := p.cnt i6 (w := 0) (by decide)
    have k65 : ∀ x', f_X10_crowdTold_65 (f_X10_crowdTold_9 M n) M n 120 (nI w) (xR S0 15 0) (xR S0 15 2) (sa6 S0) x' y (nI i) (nwE S0 S i) = f_X10_crowdTold_9 M n 120 (nI w) (xR S0 15 0) (xR S0 15 2) (sa6 S0) x' (mxI y (nwE S0 S i)) (nI (i + 1)) := by
      intro x'
      rw [f_X10_crowdTold_65, mx_nle, nI_1]
      by_cases c : nwE S0 S i ≤ y
      · rw [if_pos c, if_pos c, bnd_e]
      · rw [if_neg c, if_neg c, bnd_e]
    rw [fwl_s, mwl_s, f_X10_crowdTold_9, rs_f p.1, rs_0 p.1, bnd_e, rs_fa p.1, rs_c0 p.1, cl0, p.N hN, if_neg (nI_ge (by omega) (by omega)), ec, obd_s, rs_10 p.1, bnd_e, rs_f10 p.1, rs_c10 p.1 i6, mI_c (by omega), ht i (by omega), show xR S 12 i - xR S0 12 i = nwE S0 S i from rfl, bnd_e, p.get7 i6, obd_s, h7 i i6]
    by_cases c : xR S0 7 i = 0
    · rw [if_pos c, if_pos c]
      by_cases c1 : x = -1
      · rw [if_pos c1, if_pos c1, k65, ih _ _ _ _ (by omega) (by omega)]
      · rw [if_neg c1, if_neg c1]
        by_cases c2 : x ≤ nwE S0 S i
        · rw [if_pos c2, if_pos c2, k65, ih _ _ _ _ (by omega) (by omega)]
        · rw [if_neg c2, if_neg c2, k65, ih _ _ _ _ (by omega) (by omega)]
    · rw [if_neg c, if_neg c, k65, ih _ _ _ _ (by omega) (by omega)]
theorem RV.told {M : Mem} {tw : Bool} {t : Int32} {S0 S : St} {pb pt : List Row4} {N w n : Nat} (p : RV M tw t S pb pt) (hN : xR S 20 0 = nI N) (h16 : N ≤ 16) (h7 : ∀ v, v < 16 → xR S 7 v = xR S0 7 v) (ht : ∀ v, v < N → mI M 127 v = xR S0 12 v) (hw : w < 6) (hn : 30 ≤ n) : f_X10_crowdTold n 120 (nI w) (xR S0 15 0) (xR S0 15 2) (sa6 S0) M = some (cR N S0 S w) := by
  have := tld_l p hN h16 h7 ht hw N 0 n (-1) 0 (by omega) (by omega)
  rw [f_X10_crowdTold]
  unfold cR
  rw [List.range_eq_range']
  exact this
/-! ===== a crowd: the two answers ===== -/
theorem f_isI {a b : Nat} (M : Mem) (h : a ≤ b) (hb : b < 2 ^ 31) : f_X10_isIn (nI a) (0 : Int32) (nI b) M = some 1 := by
  rw [f_X10_isIn, if_neg (show ¬ nI a < 0 from nI_nlt (b := 0) (by omega) (by omega)), if_neg (nI_nlt h hb)]
theorem c59_l {tw : Bool} {t a1 a2 a3 x19 x25 r28 : Int32} {S0 : St} {pb pt : List Row4} {N : Nat} (hN : xR S0 20 0 = nI N) (h16 : N ≤ 16) : ∀ (d i n : Nat) (M : Mem), i + d = N → RV M tw t S0 pb pt → (∀ v, v < i → mI M 127 v = xR S0 12 v) → d + 1 ≤ n → ∃ M' n', f_X10_crowd_59 n 120 a1 a2 a3 x19 x25 r28 (nI i) M = f_X10_crowd_102 n' 120 a2 a3 x19 x25 r28 (1 : Int32) (0 : Int32) (sL M' 120 8 (a1.toInt64)) ∧ n ≤ n' + d + 1 ∧ RV M' tw t S0 pb pt ∧ (∀ v, v < N → mI M' 127 v = xR S0 12 v) ∧ ∀ k, mI M' 120 k = mI M 120 k := by
  intro d
  induction d with
  | zero =>
    intro i n M hi p ht hn
    obtain ⟨n, rfl⟩ : ∃ m, n = m + 1 := ⟨n - 1, by omega⟩
    refine ⟨M, n, ?_, by omega, p, fun v hv => ht v (by omega), fun _ => rfl⟩
    rw [f_X10_crowd_59, rs_f p.1, rs_0 p.1, bnd_e, rs_fa p.1, rs_c0 p.1, cl0, p.N hN, if_pos (nI_le (by omega) (by omega)), bnd_e]
  | succ d ih =>
    intro i n M hi p ht hn
    obtain ⟨n, rfl⟩ : ∃ m, n = m + 1 := ⟨n - 1, by omega⟩
    have i6 : i < 16 := by omega
    have ec : f_X10_countOf 120 (nI i) (0 : Int32) M = some (xR S0 12 i) := p.cnt i6 (w := 0) (by decide)
    generalize hMa : sI M 127 i (xR S0 12 i) = Ma
    have pa : RV Ma tw t S0 pb pt := p.cg (by rw [← hMa]; rfl) (by rw [← hMa, mI_o _ _ _ _ _ (by decide)]) (fun b => by rw [← hMa, mI_o _ _ _ _ _ (by decide)]) (fun b => by rw [← hMa, mI_o _ _ _ _ _ (by decide)])
    obtain ⟨M', n', e', hn', p', t', k'⟩ := ih (i + 1) n Ma (by omega) pa (fun v hv => by
      rw [← hMa]
      by_cases c : v = i
      · rw [c, mI_s]
      · rw [mI_n _ _ _ _ c]; exact ht v (by omega)) (by omega)
    refine ⟨M', n', ?_, by omega, p', t', fun k => by rw [k', ← hMa, mI_o _ _ _ _ _ (by decide)]⟩
    rw [f_X10_crowd_59, rs_f p.1, rs_0 p.1, bnd_e, rs_fa p.1, rs_c0 p.1, cl0, p.N hN, if_neg (nI_ge (by omega) (by omega)), rs_10 p.1, bnd_e, rs_f10 p.1, ec, obd_s, rs_c10 p.1 i6, sI_d (by omega), hMa, bnd_e, nI_1, bnd_e]
    exact e'
/-- what a crowd rests on -/
def CK (N A P T : Nat) (S0 : St) : Prop := 2 ≤ N ∧ N ≤ 16 ∧ T ≤ 500 ∧ CJ N A P S0 S0 0 ∧ xR S0 20 0 = nI N ∧ (xR S0 20 1 = 1 → N % 2 = 1) ∧ (∀ v, v < N → ∀ i, N ≤ i → i < 32 → bt (qm N S0 v) i = false) ∧ (∀ r, r ≤ T → A + N * (r + 1) < 1048576) ∧ ∀ r, r ≤ T → P + 2 * N * r + N * N + N ≤ 9000
theorem CJ_n {N A P T : Nat} {S0 : St} (hk : CK N A P T S0) (t : Int32) : ∀ (d i : Nat) (q : St × Int64 × Bool), i + d ≤ T → CJ N A P S0 q.1 i → CJ N A P S0 (crn t N d q).1 (i + d) := by
  obtain ⟨h2N, h16, hT, _, _, _, hQb, hA, _⟩ := hk
  intro d
  induction d with
  | zero => intro i q _ J; exact J
  | succ d ih =>
    intro i q hi J
    obtain ⟨S, g, b⟩ := q
    have := ih (i + 1) (cr1 t N (S, g, b)) (by omega) (J.c1 h2N h16 (hA i (by omega)) hQb t g b)
    rw [show i + (d + 1) = i + 1 + d by omega]
    exact this
theorem lN_Gk {s : Nat} (h : s < 2 ^ 31) : Gk ((nI s).toInt64) := ⟨s, h, nI_l h⟩
set_option maxHeartbeats 1000000 in
theorem RV.crowd {M : Mem} {tw : Bool} {t : Int32} {S0 : St} {pb pt : List Row4} {N A P T s w n : Nat} (p : RV M tw t S0 pb pt) (hk : CK N A P T S0) (h7 : mI M 120 7 = 0) (hs : s < 2 ^ 31) (hw : w < 6) (hn : 13000 ≤ n) : ∃ M', f_X10_crowd n 120 (nI s) (nI T) (nI w) M = some (cR N S0 (crn t N T (S0, (nI s).toInt64, true)).1 w, M') := by
  obtain ⟨h2N, h16, hT, J, hN, ht, hQb, hA, hP⟩ := id hk
  have ea := f_aside p.1 (n := n) (by omega)
  generalize hMa : cpF M 121 126 0 = Ma at ea
  have pa : RV Ma tw t S0 pb pt := by
    have o : ∀ o, o ≠ 126 → ∀ b, mI Ma o b = mI M o b := fun o n b => by
      rw [← hMa]
      show (if o = 126 ∧ 0 ≤ b ∧ b < 10465 then M.2.1 121 b else M.2.1 o b) = M.2.1 o b
      rw [if_neg (fun z => n z.1)]
    exact p.cg (by rw [← hMa]; rfl) (o 120 (by decide) 3) (o 121 (by decide)) (o 123 (by decide))
  have ka : mI Ma 120 7 = 0 := by
    rw [← hMa]
    show (if 120 = 126 ∧ 0 ≤ 7 ∧ 7 < 10465 then M.2.1 121 7 else M.2.1 120 7) = 0
    rw [if_neg (by decide)]; exact h7
  have g0 : mI Ma 121 9851 = xR S0 15 0 := pa.rg (k := 15) (i := 0) (by unfold vk; omega)
  have g2 : mI Ma 121 9853 = xR S0 15 2 := pa.rg (k := 15) (i := 2) (by unfold vk; omega)
  have sn := pa.sent (n := n) (by omega)
  obtain ⟨M1, n1, e1, hn1, p1, t1, k1⟩ := c59_l (a1 := nI s) (a2 := nI T) (a3 := nI w) (x19 := xR S0 15 0) (x25 := xR S0 15 2) (r28 := sa6 S0) hN h16 N 0 n Ma (by omega) pa (fun v hv => by omega) (by omega)
  have p2 : RV (sL M1 120 8 ((nI s).toInt64)) tw t S0 pb pt := p1.tsL _ _ _
  obtain ⟨M3, n3, e3, hn3, p3, f3⟩ := RV.crl (w := nI w) (e1 := xR S0 15 0) (e2 := xR S0 15 2) (e3 := sa6 S0) h2N h16 hT hN ht hQb hA hP T 0 n1 (sL M1 120 8 ((nI s).toInt64)) S0 ((nI s).toInt64) true (by omega) p2 (by
    show mI M1 120 7 = 0
    rw [k1]; exact ka) (mL_s _ _ _ _) (lN_Gk hs) J (by omega)
  have J3 := CJ_n hk t T 0 (S0, (nI s).toInt64, true) (by omega) J
  have r20 := J3.2.2.1 20 (by omega) 0
  have tl := p3.told (S0 := S0) (n := n3) (w := w) (r20.trans hN) h16 (fun v _ => J3.2.2.1 7 (by omega) v) (fun v hv => by
    rw [f3.2.1 127 (by decide) v]; exact t1 v hv) hw (by omega)
  have eb := f_back p3.1 (n := n3) (by omega)
  refine ⟨cpF M3 126 121 0, ?_⟩
  rw [f_X10_crowd, if_neg (show ¬ nI s < 0 from nI_nlt (b := 0) (by omega) hs), show (500 : Int32) = nI 500 from rfl, f_isI M hT (by decide), obd_s, if_neg ne10, show (5 : Int32) = nI 5 from rfl, f_isI M (show w ≤ 5 by omega) (by decide), obd_s, if_neg ne10, rs_f p.1, ea, obd_s, rs_f pa.1, rs_0 pa.1, bnd_e, rs_fa pa.1, show (9851 : Int32) = nI 9851 from rfl, rs_c pa.1 (by decide), cl_n (by decide), g0, bnd_e, bnd_e, rs_fa pa.1, show (9853 : Int32) = nI 9853 from rfl, rs_c pa.1 (by decide), cl_n (by decide), g2, bnd_e, sn, obd_s, show (0 : Int32) = nI 0 from rfl, e1]
  have e3' : f_X10_crowd_102 n1 120 (nI T) (nI w) (xR S0 15 0) (xR S0 15 2) (sa6 S0) (1 : Int32) (0 : Int32) (sL M1 120 8 ((nI s).toInt64)) = f_X10_crowd_129 n3 120 (nI w) (xR S0 15 0) (xR S0 15 2) (sa6 S0) M3 := e3
  rw [e3', f_X10_crowd_129, rs_f p3.1, tl, obd_s, eb, obd_s]
theorem idl_clr (S : St) : ∀ n, idl (clr S) n = idl S n := by
  intro n
  induction n with
  | zero => rfl
  | succ n ih => unfold idl; rw [ih]; rfl
theorem CJ_clr {N A P : Nat} {S : St} (J : CJ N A P S S 0) : CJ N A P (clr S) (clr S) 0 := by
  obtain ⟨h1, h2, h3, h4⟩ := J
  refine ⟨h1, ?_, fun _ _ _ => rfl, fun u => h4 u⟩
  unfold Psi at h2 ⊢
  rw [idl_clr]
  exact h2
/-- the reference's objects stay -/
def FrO (M M' : Mem) : Prop := mN M ≤ mN M' ∧ ∀ o, 112 ≤ o → o < 131 → M'.1.2.1 o = M.1.2.1 o ∧ (∀ b, mR M' o b = mR M o b) ∧ (∀ b, mI M' o b = mI M o b) ∧ ∀ b, mL M' o b = mL M o b
theorem FrH.o {M M' : Mem} (f : FrH M M' 63) (hN : 131 ≤ mN M) (hR : ∀ i, 5 ≤ i → i ≤ 7 → mR M 64 i = 63 + 2 + i ∨ 131 ≤ mR M 64 i) : FrO M M' := by
  obtain ⟨f1, f2, f3, f4, f5, f6⟩ := f
  have r5 := hR 5 (by decide) (by decide)
  have r6 := hR 6 (by decide) (by decide)
  have r7 := hR 7 (by decide) (by decide)
  refine ⟨f1, fun o h1 h2 => ⟨f2 o (by omega), fun b => f3 o b (by omega) (by omega), fun b => f4 o (by omega) (by omega) (show o ≠ mR M 64 5 by omega) (show o ≠ mR M 64 6 by omega) (show o ≠ mR M 64 7 by omega) b, fun b => f5 o (by omega) b⟩⟩
theorem FrH.r57 {M M' : Mem} (f : FrH M M' 63) (hN : 131 ≤ mN M) (hR : ∀ i, 5 ≤ i → i ≤ 7 → mR M 64 i = 63 + 2 + i ∨ 131 ≤ mR M 64 i) : ∀ i, 5 ≤ i → i ≤ 7 → mR M' 64 i = 63 + 2 + i ∨ 131 ≤ mR M' 64 i := by
  intro i a b
  have z : mR M' 64 i = mR M 64 i ∨ mN M ≤ mR M' 64 i := f.2.2.2.2.2 i a b
  rcases z with z | z
  · rw [z]; exact hR i a b
  · exact Or.inr (by omega)
theorem FrO.tr {M M' M'' : Mem} (f : FrO M M') (f' : FrO M' M'') : FrO M M'' := by
  refine ⟨Nat.le_trans f.1 f'.1, fun o h1 h2 => ?_⟩
  obtain ⟨a1, a2, a3, a4⟩ := f.2 o h1 h2
  obtain ⟨b1, b2, b3, b4⟩ := f'.2 o h1 h2
  exact ⟨b1.trans a1, fun b => (b2 b).trans (a2 b), fun b => (b3 b).trans (a3 b), fun b => (b4 b).trans (a4 b)⟩
set_option maxHeartbeats 1000000 in
theorem HV.crowd {M : Mem} {X Y X' Y' N A P T s w n : Nat} {t : Int32} {Q : Nat → Int32} {S0 : St} {pb pt pb' pt' : List Row4} (p : HV M 14 X Y t N Q S0 pb pt) (r : TR M 63 X' Y' pb' pt') (x : XT M) (hz : ∃ u, u ≤ 64 ∧ mI M 15 8 = nI u) (hD : ∀ i j, 5 ≤ i → i ≤ 7 → 5 ≤ j → j ≤ 7 → mR M 64 i ≠ mR M 15 j) (hR : ∀ i, 5 ≤ i → i ≤ 7 → mR M 64 i = 63 + 2 + i) (hk : CK N A P T S0) (hQ : ∀ v, v < N → qm N S0 v = Q v) (hs : s < 2 ^ 31) (hw : w < 6) (hn : 1000 ≤ n) : ∃ M', f_X9_crowd n 0 (nI s) (nI T) (nI w) M = some (cT N S0 (crn t N T (clr S0, (nI s).toInt64, true)).1 w, M') ∧ FrO M M' := by
  obtain ⟨h2N, h16, hT, J, hN, ht, hQb, hA, hP⟩ := id hk
  have hI := J.1
  have hAA := hI.1
  have hFF := hI.2.2.2.2.2.1
  obtain ⟨M1, e1, p1, f1⟩ := p.copy (n := n) r (by omega) h16 hD (fun v hv => (hAA v hv).2.2.2) (fun v hv w hw => by have := ((hFF v hv).1.2.2 w hw).1; omega) (by omega)
  have x1 := x.fr f1
  generalize hM2 : sL M1 63 16 ((nI s).toInt64) = M2
  have p2 : HV M2 63 X' Y' t N Q (clr S0) pb' pt' := by rw [← hM2]; exact p1.tsL _ _ _
  have x2 : XT M2 := by rw [← hM2]; exact x1.sL _ _ _
  have g2 : mL M2 63 16 = (nI s).toInt64 := by rw [← hM2, mL_s]
  have J0 : CJ N A P (clr S0) (clr S0) 0 := CJ_clr J
  obtain ⟨M3, n3, e3, hn3, p3, f3, J3⟩ := HV.crl (w := nI w) (S0 := clr S0) h2N h16 hT hQ hQb hA hP T 0 n M2 (clr S0) ((nI s).toInt64) true (by omega) p2 x2 g2 (lN_Gk hs) J0 (by omega)
  have x3 := x2.frD f3
  obtain ⟨y, f3⟩ := f3
  have hN1 := x.2.2.2.2
  have o14 : HH M3 14 S0 := by
    have q1 : mN M ≤ mN M1 := f1.1
    have cs3 : CS M3 14 := by
      have c := p.1
      refine ⟨fun i hi hn => ?_, fun q hq => ?_, ?_, ?_, c.2.2.2.2.1, c.2.2.2.2.2.1, x3.2.2.2.2⟩
      · rw [f3.2.1 (14 + i) (by show 14 + i < mN M2; rw [← hM2]; show 14 + i < mN M1; omega), ← hM2]
        show M1.1.2.1 (14 + i) = _
        rw [f1.2.1 (14 + i) (by omega)]
        exact c.1 i hi hn
      · have hb : ∀ z, z ∈ tH → z.1 < 49 := by decide
        have hb' := hb q hq
        rw [f3.2.2.1 (14 + q.1) q.2.1 (by show 14 + q.1 < mN M2; rw [← hM2]; show 14 + q.1 < mN M1; omega) (by omega), ← hM2]
        show mR M1 (14 + q.1) q.2.1 = _
        rw [f1.2.2.1 (14 + q.1) q.2.1 (by omega) (by omega)]
        exact c.2.1 q hq
      · rw [f3.2.2.1 14 0 (by show 14 < mN M2; rw [← hM2]; show 14 < mN M1; omega) (by omega), ← hM2]
        show mR M1 14 0 = 1
        rw [f1.2.2.1 14 0 (by omega) (by omega)]
        exact c.2.2.1
      · have c1 := p3.1.2.2.2.1
        exact c1
    refine p.hh.cg cs3 (fun o h1 h2 h3 b => ?_)
    have m1 : mI M1 o b = mI M o b := f1.2.2.2.1 o (by omega) (by omega) (by rw [hR 5 (by decide) (by decide)]; omega) (by rw [hR 6 (by decide) (by decide)]; omega) (by rw [hR 7 (by decide) (by decide)]; omega) b
    have rr : ∀ j, 5 ≤ j → j ≤ 7 → o ≠ mR M1 64 j := fun j a b => by
      have z' : mR M1 64 j = mR M 64 j ∨ mN M ≤ mR M1 64 j := f1.2.2.2.2.2 j a b
      rcases z' with z | z
      · rw [z, hR j a b]; omega
      · omega
    have m3 : mI M3 o b = mI M1 o b := by
      have := f3.2.2.2.1 o (by show o < mN M2; rw [← hM2]; show o < mN M1; omega) (by omega) (by
        show o ≠ mR M2 64 5
        rw [← hM2]; exact rr 5 (by decide) (by decide)) (by
        show o ≠ mR M2 64 6
        rw [← hM2]; exact rr 6 (by decide) (by decide)) (by
        show o ≠ mR M2 64 7
        rw [← hM2]; exact rr 7 (by decide) (by decide)) b
      rw [this, ← hM2]; rfl
    rw [m3, m1]
  have c := c85 (n := n3) p3 x3 o14 h16 (fun v hv => (hAA v hv).2.2.1) hw (by omega)
  have hR' : ∀ i, 5 ≤ i → i ≤ 7 → mR M 64 i = 63 + 2 + i ∨ 131 ≤ mR M 64 i := fun i a b => Or.inl (hR i a b)
  have O1 := f1.o hN1 hR'
  have O2 : FrO M1 M2 := by
    rw [← hM2]
    refine ⟨Nat.le_refl _, fun o a b => ⟨rfl, fun _ => rfl, fun _ => rfl, fun b' => ?_⟩⟩
    rw [mL_sL, if_neg (by omega)]
  have hR2 : ∀ i, 5 ≤ i → i ≤ 7 → mR (sL M2 63 16 y) 64 i = 63 + 2 + i ∨ 131 ≤ mR (sL M2 63 16 y) 64 i := fun i a b => by
    rw [← hM2]; exact f1.r57 hN1 hR' i a b
  have O3 := f3.o (by show 131 ≤ mN M2; rw [← hM2]; exact Nat.le_trans hN1 O1.1) hR2
  have O3' : FrO M2 M3 := by
    refine FrO.tr (M' := sL M2 63 16 y) ⟨Nat.le_refl _, fun o a b => ⟨rfl, fun _ => rfl, fun _ => rfl, fun b' => ?_⟩⟩ O3
    rw [mL_sL, if_neg (by omega)]
  refine ⟨M3, ?_, (O1.tr O2).tr O3'⟩
  rw [f_X9_crowd, if_neg (show ¬ nI s < 0 from nI_nlt (b := 0) (by omega) hs), if_neg (show ¬ nI T < 0 from nI_nlt (b := 0) (by omega) (by omega)), if_neg (show ¬ (500 : Int32) < nI T from nI_nlt (a := 500) (by omega) (by decide)), if_neg (show ¬ nI w < 0 from nI_nlt (b := 0) (by omega) (by omega)), if_pos (show nI w ≤ (5 : Int32) from nI_le (b := 5) (by omega) (by decide)), chk_t x.1, x.2.2.2.1, bnd_e, chk_t (show isO M 2 63 from r.1.io (i := 0) (by decide) (by decide) (by decide)), x.2.2.1, bnd_e, cs_f p.1, e1, obd_s, chk_t x1.1, x1.2.2.2.1, bnd_e, cs_f p1.1, hM2, bnd_e]
  have e3' : f_X9_crowd_52 n 0 (nI T) (nI w) (1 : Int32) (0 : Int32) M2 = f_X9_crowd_85 n3 0 (nI w) M3 := e3
  rw [e3', c]
/-! ===== grids of the reference, in closed form ===== -/
theorem cross_M (M M' : Mem) (n : Nat) : ∀ a b c d e : Int32, f_X10_crossOf_5 M n a b c d e = f_X10_crossOf_5 M' n a b c d e := by
  induction n with
  | zero => intros; rfl
  | succ n ih =>
    intro a b c d e
    simp only [f_X10_crossOf_5, bnd_e, ih]
theorem cross_mono (M : Mem) (m n : Nat) : ∀ (a b c d e x : Int32), f_X10_crossOf_5 M n a b c d e = some x → f_X10_crossOf_5 M (n + m) a b c d e = some x := by
  induction n with
  | zero => intro a b c d e x h; exact (pk_none h).elim
  | succ n ih =>
    intro a b c d e x h
    rw [show n + 1 + m = (n + m) + 1 by omega, f_X10_crossOf_5]
    rw [f_X10_crossOf_5] at h
    have hs := pk_ite h
    by_cases h1 : a ≤ e
    · rw [if_pos h1]; exact hs.1 h1
    · rw [if_neg h1]
      have h2 := hs.2 h1
      obtain ⟨q1, h2⟩ := pk_chk h2
      obtain ⟨q2, h2⟩ := pk_chk h2
      obtain ⟨q3, h2⟩ := pk_chk h2
      obtain ⟨q4, h2⟩ := pk_chk h2
      rw [chk_t q1, chk_t q2, chk_t q1, chk_t q2, bnd_e, bnd_e]
      exact ih _ _ _ _ _ _ h2
def crv (k N v : Nat) : Int32 := (f_X10_crossOf_5 memE 12 (nI k) (nI v) (nI N) 0 0).getD 0
def kk (N : Nat) : Nat := if N ≤ 4 then 2 else if N ≤ 9 then 3 else 4
set_option maxRecDepth 1000000 in
theorem cross_k : (List.range 17).all (fun N => (List.range N).all fun v => decide (N < 2) || (f_X10_crossOf_5 memE 12 (nI (kk N)) (nI v) (nI N) 0 0).isSome) = true := by decide +kernel
theorem f_cross {N v n : Nat} {M : Mem} (h1 : 2 ≤ N) (h2 : N ≤ 16) (hv : v < N) (hn : 12 ≤ n) : f_X10_crossOf n (nI (kk N)) (nI v) (nI N) M = some (crv (kk N) N v) := by
  have h := List.all_eq_true.mp (List.all_eq_true.mp cross_k N (List.mem_range.mpr (by omega))) v (List.mem_range.mpr hv)
  have h3 : ¬ N < 2 := by omega
  simp only [h3, decide_false, Bool.false_or] at h
  obtain ⟨x, hx⟩ := Option.isSome_iff_exists.mp h
  have e : crv (kk N) N v = x := by rw [crv, hx]; rfl
  rw [f_X10_crossOf, cross_M M memE, e, show n = 12 + (n - 12) by omega]
  exact cross_mono _ _ _ _ _ _ _ _ _ hx
def pB (M : Mem) (A k N lo : Nat) : Mem := (M.1, (fun a b => if a = A ∧ 2 + lo ≤ b ∧ b < 2 + N then crv k N (b - 2) else M.2.1 a b), M.2.2)
theorem mf_l {r A N : Nat} (h1 : 2 ≤ N) (h2 : N ≤ 16) (d j : Nat) : ∀ (M : Mem), d ≤ N → RK M r A → f_X10_makeFilled_23 (d + j + 13) r (nI N) (nI (kk N)) (nI (N - d)) M = some (nI N, pB M A (kk N) N (N - d)) := by
  induction d with
  | zero =>
    intro M _ h
    have e : pB M A (kk N) N N = M := by
      have : (fun a b => if a = A ∧ 2 + N ≤ b ∧ b < 2 + N then crv (kk N) N (b - 2) else M.2.1 a b) = M.2.1 := by
        funext a b
        rw [if_neg (by omega)]
      simp only [pB, this]
    rw [show 0 + j + 13 = (j + 12) + 1 by omega, Nat.sub_zero, f_X10_makeFilled_23, if_pos (nI_le (Nat.le_refl _) (by omega)), e]
  | succ d ih =>
    intro M hd h
    have hk : N - (d + 1) < N := by omega
    have e1 : nI (N - (d + 1)) + 1 = nI (N - d) := by rw [nI_1]; congr 1; omega
    have e0 : (2 : Int32) + nI (N - (d + 1)) = nI (2 + (N - (d + 1))) := by rw [show (2 : Int32) = nI 2 from rfl, nI_add]
    rw [show d + 1 + j + 13 = (d + j + 13) + 1 by omega, f_X10_makeFilled_23, if_neg (nI_ge hk (by omega)), chk_t h.1, bnd_e, h.2.1, chk_t h.2.2.1, f_cross h1 h2 hk (by omega), obd_s, e0, chk_t (rk_in h (by omega)), bnd_e, bnd_e, e1, nI_clamp (by omega), ih _ (by omega) (h.s _ _ _)]
    refine congrArg (fun z => some (nI N, z)) (Prod.ext rfl (Prod.ext ?_ rfl))
    funext a b
    show (if a = A ∧ 2 + (N - d) ≤ b ∧ b < 2 + N then crv (kk N) N (b - 2) else up2 M.2.1 A (2 + (N - (d + 1))) (crv (kk N) N (N - (d + 1))) a b) = if a = A ∧ 2 + (N - (d + 1)) ≤ b ∧ b < 2 + N then crv (kk N) N (b - 2) else M.2.1 a b
    by_cases q1 : a = A ∧ 2 + (N - d) ≤ b ∧ b < 2 + N
    · rw [if_pos q1, if_pos (by omega)]
    · rw [if_neg q1]
      by_cases q2 : a = A ∧ b = 2 + (N - (d + 1))
      · rw [up2, if_pos q2, if_pos (by omega), q2.2]
        congr 1
        omega
      · rw [up2, if_neg q2, if_neg (by omega)]
/-- the row behind makeFilled -/
def mff (f : Nat → Int32) (N : Nat) (b : Nat) : Int32 := if 2 ≤ b ∧ b < 2 + N then crv (kk N) N (b - 2) else bgf f (nI N) 0 b
theorem f_filled {r A N n : Nat} {M : Mem} (h1 : 2 ≤ N) (h2 : N ≤ 16) (h : RK M r A) (hn : 11100 ≤ n) : f_X10_makeFilled n r (nI N) M = some (nI N, wA M A (mff (mI M A) N)) := by
  have sq : ∀ v : Nat, v ≤ 4 → nI v * nI v = nI (v * v) := fun v _ => pk_mul v v
  have stop : ∀ (n : Nat), 11050 ≤ n → f_X10_makeFilled_2 n r (nI N) (nI (kk N)) M = some (nI N, wA M A (mff (mI M A) N)) := by
    intro n hn
    have hle : nI N ≤ nI (kk N) * nI (kk N) := by
      unfold kk
      by_cases q1 : N ≤ 4
      · rw [if_pos q1, sq 2 (by decide)]; exact nI_le (by omega) (by decide)
      · rw [if_neg q1]
        by_cases q2 : N ≤ 9
        · rw [if_pos q2, sq 3 (by decide)]; exact nI_le (by omega) (by decide)
        · rw [if_neg q2, sq 4 (by decide)]; exact nI_le (by omega) (by decide)
    rw [show n = (n - 1) + 1 by omega, f_X10_makeFilled_2, if_pos hle, chk_t h.1, f_begin h (by omega), if_pos rfl, obd_s]
    have hw : RK (wA M A (bgf (mI M A) (nI N) 0)) r A := h
    have hl := mf_l h1 h2 N (n - 1 - N - 13) _ (Nat.le_refl _) hw
    rw [Nat.sub_self] at hl
    have en : n - 1 = N + (n - 1 - N - 13) + 13 := by omega
    rw [← en] at hl
    refine Eq.trans hl ?_
    refine congrArg (fun z => some (nI N, z)) (wA_e rfl rfl (fun a b hne => ?_) (fun b => ?_))
    · show (if a = A ∧ 2 + 0 ≤ b ∧ b < 2 + N then crv (kk N) N (b - 2) else if a = A then bgf (mI M A) (nI N) 0 b else M.2.1 a b) = M.2.1 a b
      rw [if_neg (fun q => hne q.1), if_neg hne]
    · show (if A = A ∧ 2 + 0 ≤ b ∧ b < 2 + N then crv (kk N) N (b - 2) else if A = A then bgf (mI M A) (nI N) 0 b else M.2.1 A b) = mff (mI M A) N b
      unfold mff
      by_cases q : 2 ≤ b ∧ b < 2 + N
      · rw [if_pos ⟨rfl, q⟩, if_pos q]
      · rw [if_neg (fun z => q z.2), if_neg q, if_pos rfl]
  have go : ∀ (v n : Nat), v < kk N → 1 ≤ v → f_X10_makeFilled_2 (n + 1) r (nI N) (nI v) M = f_X10_makeFilled_2 n r (nI N) (nI (v + 1)) M := by
    intro v n hv hv1
    have hlt : v * v < N := by
      unfold kk at hv
      by_cases q1 : N ≤ 4
      · rw [if_pos q1] at hv
        have : v = 1 := by omega
        subst this; omega
      · rw [if_neg q1] at hv
        by_cases q2 : N ≤ 9
        · rw [if_pos q2] at hv
          have : v = 1 ∨ v = 2 := by omega
          rcases this with rfl | rfl <;> omega
        · rw [if_neg q2] at hv
          have : v = 1 ∨ v = 2 ∨ v = 3 := by omega
          rcases this with rfl | rfl | rfl <;> omega
    have hv4 : v ≤ 4 := by unfold kk at hv; split at hv <;> (try split at hv) <;> omega
    rw [f_X10_makeFilled_2, sq v hv4, if_neg (nI_ge hlt (by omega)), bnd_e, nI_1]
  have hkk : kk N = 2 ∨ kk N = 3 ∨ kk N = 4 := by
    unfold kk
    split
    · exact Or.inl rfl
    · split
      · exact Or.inr (Or.inl rfl)
      · exact Or.inr (Or.inr rfl)
  rw [f_X10_makeFilled, show (1 : Int32) = nI 1 from rfl, show n = (n - 1) + 1 by omega, go 1 _ (by omega) (by decide)]
  rcases hkk with q | q | q
  · have := stop (n - 1) (by omega); rw [q] at this; exact this
  · rw [show n - 1 = (n - 2) + 1 by omega, go 2 _ (by omega) (by decide)]
    have := stop (n - 2) (by omega); rw [q] at this; exact this
  · rw [show n - 1 = (n - 2) + 1 by omega, go 2 _ (by omega) (by decide), show n - 2 = (n - 3) + 1 by omega, go 3 _ (by omega) (by decide)]
    have := stop (n - 3) (by omega); rw [q] at this; exact this
/-! ===== the law's way to the fresh objects; one call of it ===== -/
def Mf : Mem := wA MA0 121 (mff (mI MA0 121) 4)
theorem RK_w {M : Mem} {r A B : Nat} {f : Nat → Int32} (h : RK M r A) : RK (wA M B f) r A := h
theorem Mf_RK : RK Mf 120 121 := RK_w MA_RK
theorem lg_self (x : Int64) : lg_cmp x x = 0 := by simp [lg_cmp]
set_option maxRecDepth 100000 in
theorem init_ok : f_X10_init FU 120 (nw Mx 10 0 25) = some Mf := by
  have h := init_pre (n := FU) (M := nw Mx 10 0 25) (by show mN Mx + 1 = 121; rw [Mx_k.2.1]) (by show mU Mx + 25 = 7655; rw [Mx_k.2.2]) (io_nwn rfl (Mx_k.2.1).symm)
  rw [h, f_X10_makeGrid]
  have hf := f_filled (r := 120) (A := 121) (N := 4) (n := FU) (M := MA0) (by decide) (by decide) MA_RK (by decide)
  have e : f_X10_makeFilled FU 120 ((2 : Int32) * (2 : Int32)) (mA (nw Mx 10 0 25)) = some (nI 4, Mf) := hf
  rw [chk_t (show isO (mA (nw Mx 10 0 25)) 10 120 from MA_RK.1), e]
  rfl
set_option maxRecDepth 1000000 in
theorem Mf_9 : isO Mf 9 0 := by
  refine ⟨?_, ?_⟩
  · show 0 < mN MA0
    rw [MA_t.2.2.2]; decide
  · show (MA0.1.2.1 0).1 = 9
    rw [MA_c (by decide)]; decide
/-! ===== what the fresh memory holds; the two answers at one call as one check ===== -/
theorem wA_1 (M : Mem) (A : Nat) (f : Nat → Int32) : (wA M A f).1 = M.1 := rfl
theorem Mf_1 : Mf.1 = MA0.1 := by unfold Mf; exact wA_1 _ _ _
theorem mN_e {M M' : Mem} (h : M.1 = M'.1) : mN M = mN M' := by simp only [mN, h]
theorem mC_e {M M' : Mem} (h : M.1 = M'.1) (i : Nat) : mC M i = mC M' i := by simp only [mC, h]
theorem mLn_e {M M' : Mem} (h : M.1 = M'.1) (i : Nat) : mLn M i = mLn M' i := by simp only [mLn, h]
theorem mR_e {M M' : Mem} (h : M.1 = M'.1) (i k : Nat) : mR M i k = mR M' i k := by simp only [mR, h]
theorem io_f {i c : Nat} (h : i < 131) (hc : (tC.getD i (0, 0)).1 = c) : isO Mf c i := by
  refine ⟨?_, ?_⟩
  · rw [mN_e Mf_1, MA_t.2.2.2]; exact h
  · rw [mC_e Mf_1, mC, MA_c h]; exact hc
theorem ln_f {i l : Nat} (h : i < 131) (hc : (tC.getD i (0, 0)).2 = l) : mLn Mf i = l := by
  rw [mLn_e Mf_1, mLn, MA_c h]; exact hc
theorem R_f {q : Nat × Nat × Nat} (h : tF.contains q = true) : mR Mf q.1 q.2.1 = q.2.2 := by
  rw [mR_e Mf_1]
  exact of_decide_eq_true (List.all_eq_true.mp MA_t.2.1 q (List.contains_iff_mem.mp h))
theorem fR00 : mR Mf 0 0 = 1 := R_f (q := (0, 0, 1)) (by decide)
theorem fR01 : mR Mf 0 1 = 5 := R_f (q := (0, 1, 5)) (by decide)
theorem fR02 : mR Mf 0 2 = 14 := R_f (q := (0, 2, 14)) (by decide)
theorem fR03 : mR Mf 0 3 = 63 := R_f (q := (0, 3, 63)) (by decide)
theorem fR04 : mR Mf 0 4 = 112 := R_f (q := (0, 4, 112)) (by decide)
theorem fR05 : mR Mf 0 5 = 114 := R_f (q := (0, 5, 114)) (by decide)
theorem fR141 : mR Mf 14 1 = 15 := R_f (q := (14, 1, 15)) (by decide)
theorem fR142 : mR Mf 14 2 = 24 := R_f (q := (14, 2, 24)) (by decide)
theorem fR143 : mR Mf 14 3 = 25 := R_f (q := (14, 3, 25)) (by decide)
theorem fR144 : mR Mf 14 4 = 27 := R_f (q := (14, 4, 27)) (by decide)
theorem fR145 : mR Mf 14 5 = 29 := R_f (q := (14, 5, 29)) (by decide)
theorem fR154 : mR Mf 15 4 = 20 := R_f (q := (15, 4, 20)) (by decide)
theorem fRr : mR Mf 120 0 = 121 := Mf_RK.2.1
section
variable {α : Type} (x : Option α)
theorem fc0 : chk (isO Mf 9 0) x = x := chk_t (io_f (by decide) (by decide))
theorem fc1 : chk (isO Mf 7 1) x = x := chk_t (io_f (by decide) (by decide))
theorem fc5 : chk (isO Mf 8 5) x = x := chk_t (io_f (by decide) (by decide))
theorem fc14 : chk (isO Mf 2 14) x = x := chk_t (io_f (by decide) (by decide))
theorem fc15 : chk (isO Mf 5 15) x = x := chk_t (io_f (by decide) (by decide))
theorem fc24 : chk (isO Mf 102 24) x = x := chk_t (io_f (by decide) (by decide))
theorem fc25 : chk (isO Mf 3 25) x = x := chk_t (io_f (by decide) (by decide))
theorem fc27 : chk (isO Mf 3 27) x = x := chk_t (io_f (by decide) (by decide))
theorem fc63 : chk (isO Mf 2 63) x = x := chk_t (io_f (by decide) (by decide))
theorem fc112 : chk (isO Mf 0 112) x = x := chk_t (io_f (by decide) (by decide))
theorem fc114 : chk (isO Mf 6 114) x = x := chk_t (io_f (by decide) (by decide))
theorem fc120 : chk (isO Mf 10 120) x = x := chk_t (io_f (by decide) (by decide))
theorem fc121 : chk (isO Mf 100 121) x = x := chk_t (io_f (by decide) (by decide))
end
theorem fln121 : mLn Mf 121 = 10465 := Mf_RK.2.2.2
theorem wA_o (M : Mem) (A : Nat) (f : Nat → Int32) {i : Nat} (h : i ≠ A) (k : Nat) : mI (wA M A f) i k = mI M i k := by simp only [wA, mI, if_neg h]
theorem wA_s (M : Mem) (A : Nat) (f : Nat → Int32) (k : Nat) : mI (wA M A f) A k = f k := by simp only [wA, mI, if_pos]
theorem Mf_o {i : Nat} (h : i ≠ 121) (k : Nat) : mI Mf i k = mI MA0 i k := by unfold Mf; exact wA_o _ _ _ h k
theorem Mf_s (k : Nat) : mI Mf 121 k = mff (mI MA0 121) 4 k := by unfold Mf; exact wA_s _ _ _ k
set_option maxRecDepth 1000000 in
theorem MA_I13 : mI MA0 1 3 = 4 := by decide +kernel
theorem fI13 : mI Mf 1 3 = 4 := by
  rw [Mf_o (by decide)]
  exact MA_I13
theorem fIr0 : mI Mf 121 0 = 4 := by
  rw [Mf_s]
  rfl
def E (x : Option (Int32 × Mem)) (y : Mem → Option (Int32 × Mem)) : Bool := match x with
  | none => false
  | some p => decide (isO p.2 10 120) && (match y p.2 with
    | none => false
    | some q => decide (p.1 = q.1))
theorem E_ok {x : Option (Int32 × Mem)} {y : Mem → Option (Int32 × Mem)} (h : E x y = true) : ∃ rr M1 M2, x = some (rr, M1) ∧ isO M1 10 120 ∧ y M1 = some (rr, M2) := by
  cases hx : x with
  | none => rw [hx] at h; cases h
  | some p =>
    rw [hx] at h
    simp only [E, Bool.and_eq_true] at h
    obtain ⟨h1, h2⟩ := h
    cases hy : y p.2 with
    | none => rw [hy] at h2; cases h2
    | some q =>
      rw [hy] at h2
      have h3 : p.1 = q.1 := of_decide_eq_true h2
      exact ⟨p.1, p.2, q.2, rfl, of_decide_eq_true h1, by rw [hy, h3]⟩
def lf (x : Option Int32) (M : Mem) : Option (Int32 × Mem) := match x with
  | none => none
  | some a => some (a, M)
theorem lf_ok {x : Option Int32} {M M1 : Mem} {r : Int32} (h : lf x M = some (r, M1)) : x = some r ∧ M1 = M := by
  cases x with
  | none => cases h
  | some a => cases h; exact ⟨rfl, rfl⟩
theorem E_s (r : Int32) (M M2 : Mem) (y : Mem → Option (Int32 × Mem)) (h1 : isO M 10 120) (h2 : y M = some (r, M2)) : E (some (r, M)) y = true := by
  simp only [E, h2, decide_true, Bool.and_true]
  exact decide_eq_true h1
theorem fin4 (a : Int32) : a < 0 ∨ (0 ≤ a ∧ (4 : Int32) ≤ a) ∨ a = nI 0 ∨ a = nI 1 ∨ a = nI 2 ∨ a = nI 3 := by
  have e0 : (nI 0).toInt = 0 := by decide
  have e1 : (nI 1).toInt = 1 := by decide
  have e2 : (nI 2).toInt = 2 := by decide
  have e3 : (nI 3).toInt = 3 := by decide
  have e4 : (4 : Int32).toInt = 4 := by decide
  have ez : (0 : Int32).toInt = 0 := by decide
  simp only [Int32.lt_iff_toInt_lt, Int32.le_iff_toInt_le, ← Int32.toInt_inj, e0, e1, e2, e3, e4, ez]
  omega
theorem selN {N : Nat} (hN : N < 2147483648) (x : Int32) : x < 0 ∨ nI N ≤ x ∨ ∃ k, k < N ∧ x = nI k := by
  have ez : (0 : Int32).toInt = 0 := by decide
  have eN : ∀ k, k < 2147483648 → (nI k).toInt = (k : Int) := fun k hk => by
    show (Int32.ofNat k).toInt = _
    rw [Int32.toInt_ofNat_of_lt (by omega)]
  by_cases h1 : x < 0
  · exact Or.inl h1
  · by_cases h2 : nI N ≤ x
    · exact Or.inr (Or.inl h2)
    · refine Or.inr (Or.inr ⟨x.toInt.toNat, ?_, ?_⟩)
      · rw [Int32.lt_iff_toInt_lt, ez] at h1
        rw [Int32.le_iff_toInt_le, eN N hN] at h2
        omega
      · rw [Int32.lt_iff_toInt_lt, ez] at h1
        rw [Int32.le_iff_toInt_le, eN N hN] at h2
        rw [← Int32.toInt_inj, eN _ (by omega)]
        omega
/-- x lies outside 0 .. N - 1 -/
def Out (N : Nat) (x : Int32) : Prop := x < 0 ∨ nI N ≤ x
theorem out_in {N : Nat} (hN : N < 2147483648) (x : Int32) : Out N x ∨ ∃ k, k < N ∧ x = nI k := by
  rcases selN hN x with h | h | h
  · exact Or.inl (Or.inl h)
  · exact Or.inl (Or.inr h)
  · exact Or.inr h
theorem out_ne {N k : Nat} {x : Int32} (h : Out N x) (hd : ¬ nI k < 0 ∧ ¬ nI N ≤ nI k) : ¬ x = nI k := fun e => by
  rw [e] at h
  rcases h with h | h
  · exact hd.1 h
  · exact hd.2 h
theorem out_is {N : Nat} {x y : Int32} {M : Mem} (h : Out N x) (hy : ∀ z : Int32, nI N ≤ z → y < z) : f_X10_isIn x 0 y M = some 0 := by
  rw [f_X10_isIn]
  by_cases h1 : x < 0
  · rw [if_pos h1]
  · rw [if_neg h1, if_pos]
    exact hy x (h.resolve_left h1)
theorem lt_of {y : Int32} {N : Nat} (h : y.toInt < (nI N).toInt) (z : Int32) (hz : nI N ≤ z) : y < z := by
  rw [Int32.lt_iff_toInt_lt]; rw [Int32.le_iff_toInt_le] at hz; omega
theorem Mf_10 : isO Mf 10 120 := Mf_RK.1
theorem all_k {P : Nat → Bool} {N k : Nat} (h : (List.range N).all P = true) (hk : k < N) : P k = true := List.all_eq_true.mp h k (List.mem_range.mpr hk)
theorem n10 : ¬ (1 : Int32) = 0 := by decide
/-! ===== the fresh objects stand for the fresh state ===== -/
def Sf : St := (fun k i => if k < 21 then mI Mf 121 (ad k i) else 0, fun _ => [], fun _ => [], [], [])
theorem Sf_R {k i : Nat} (h : k < 21) : xR Sf k i = mI Mf 121 (ad k i) := if_pos h
theorem fr_0 {b : Nat} (h1 : 18 ≤ b) (h2 : b < 10209) (h3 : ¬ (146 ≤ b ∧ b < 850 ∧ (b - 146) % 44 = 0)) : mI Mf 121 b = 0 := by
  rw [Mf_s]
  unfold mff
  rw [if_neg (by omega)]
  unfold bgf
  rw [if_neg (by omega), if_neg (by omega), if_neg (by omega)]
  by_cases c1 : b < 146
  · rw [if_pos c1]
  · rw [if_neg c1]
    by_cases c2 : b < 850
    · rw [if_pos c2, if_neg (by omega)]
    · rw [if_neg c2, if_pos h2]
theorem fr_8 {a : Nat} (h : a < 16) : mI Mf 121 (146 + 44 * a) = -1 := by
  rw [Mf_s]
  unfold mff
  rw [if_neg (by omega)]
  unfold bgf
  rw [if_neg (by omega), if_neg (by omega), if_neg (by omega), if_neg (by omega), if_pos (by omega), if_pos (by omega)]
theorem fr_1 : mI Mf 121 1 = 0 := by
  rw [Mf_s]
  unfold mff
  rw [if_neg (by decide)]
  unfold bgf
  rw [if_neg (by decide), if_pos rfl]
theorem Sf_0 {k i : Nat} (h : vk k i) (h8 : k ≠ 8) (h17 : k ≠ 17) (h19 : k ≠ 19) (h20 : k ≠ 20) : xR Sf k i = 0 := by
  have a := ad_cases h
  rw [Sf_R (by unfold vk at h; omega)]
  refine fr_0 (by omega) (by omega) (by omega)
theorem Sf_8 {i : Nat} (h : i < 16) : xR Sf 8 i = -1 := by
  have a := ad_cases (k := 8) (i := i) (by unfold vk; omega)
  rw [Sf_R (by decide), show ad 8 i = 146 + 44 * i by omega]
  exact fr_8 h
theorem fl_0 {S : St} (h : ∀ l, xL S l = []) : fl S = [] := by
  unfold fl
  rw [List.flatMap_eq_nil_iff]
  intro l _
  rw [h l]
  rfl
theorem Sf_fl : fl Sf = [] := fl_0 (fun _ => rfl)
theorem Mf_RS : RS Mf := by
  refine ⟨fun i h1 h2 => ?_, fun q hq => ?_, ?_⟩
  · rw [Mf_1]; exact MA_c h2
  · rw [mR_e Mf_1]
    exact of_decide_eq_true (List.all_eq_true.mp MA_t.2.2.1 q hq)
  · rw [mN_e Mf_1, MA_t.2.2.2]; exact Nat.le_refl _
set_option maxRecDepth 1000000 in
theorem MA_120 : (List.range 9).all (fun k => decide (mI MA0 120 k = 0)) = true := by decide +kernel
theorem fI120 {k : Nat} (h : k < 9) : mI Mf 120 k = 0 := by
  rw [Mf_o (by decide)]
  exact of_decide_eq_true (List.all_eq_true.mp MA_120 k (List.mem_range.mpr h))
theorem Mf_RV (tw : Bool) : RV Mf tw 0 Sf [] [] := by
  refine ⟨Mf_RS, fI120 (by decide), fun k i h => ?_, fun a ha => ⟨?_, by show 0 ≤ 20; omega, fun i q h => ?_, fun i _ hi => ⟨?_, ?_⟩⟩, ⟨?_, ?_, ?_⟩, ⟨?_, ?_⟩, ⟨?_, ?_⟩⟩
  · rw [Sf_R (by unfold vk at h; omega)]
  · show mI Mf 121 (149 + 44 * a) = 0
    exact fr_0 (by omega) (by omega) (by omega)
  · have h' : (([] : List Wtr))[i]? = some q := h
    simp at h'
  · exact fr_0 (by omega) (by omega) (by omega)
  · exact fr_0 (by omega) (by omega) (by omega)
  · rw [Sf_fl]
    exact fr_0 (by decide) (by decide) (by decide)
  · rw [Sf_fl]; exact Nat.zero_le _
  · rw [Sf_fl]
    intro i q h
    simp at h
  · exact fr_0 (by decide) (by decide) (by decide)
  · intro i q h
    have h' : (([] : List Row4))[i]? = some q := h
    simp at h'
  · exact fr_0 (by decide) (by decide) (by decide)
  · intro i q h
    have h' : (([] : List Row4))[i]? = some q := h
    simp at h'
/-! the class's halls -/
set_option maxRecDepth 1000000 in
theorem tH_all : (tH.all fun q => decide (mR MA0 (14 + q.1) q.2.1 = 14 + q.2.2) && decide (mR MA0 (63 + q.1) q.2.1 = 63 + q.2.2)) = true := by decide +kernel
theorem tC_63 : ∀ i, i < 49 → ¬ (7 ≤ i ∧ i ≤ 9) → tC.getD (63 + i) (0, 0) = tC.getD (14 + i) (0, 0) := by decide +kernel
set_option maxRecDepth 1000000 in
theorem MA_R0 : mR MA0 14 0 = 1 ∧ mR MA0 63 0 = 1 ∧ (List.range 3).all (fun j => decide (mR MA0 15 (5 + j) = 21 + j) && decide (mR MA0 64 (5 + j) = 70 + j)) = true ∧ mU MA0 ≤ 6000000 := by decide +kernel
theorem Mf_CS14 : CS Mf 14 := by
  refine ⟨fun i hi _ => ?_, fun q hq => ?_, ?_, io_f (by decide) (by decide), by decide, by decide, by rw [mN_e Mf_1, MA_t.2.2.2]; exact Nat.le_refl _⟩
  · rw [Mf_1]; exact MA_c (by omega)
  · rw [mR_e Mf_1]
    have := List.all_eq_true.mp tH_all q hq
    exact of_decide_eq_true (Bool.and_eq_true _ _ |>.mp this).1
  · rw [mR_e Mf_1]; exact MA_R0.1
theorem Mf_CS63 : CS Mf 63 := by
  refine ⟨fun i hi hn => ?_, fun q hq => ?_, ?_, io_f (by decide) (by decide), by decide, by decide, by rw [mN_e Mf_1, MA_t.2.2.2]; exact Nat.le_refl _⟩
  · rw [Mf_1, MA_c (by omega)]; exact tC_63 i hi hn
  · rw [mR_e Mf_1]
    have := List.all_eq_true.mp tH_all q hq
    exact of_decide_eq_true (Bool.and_eq_true _ _ |>.mp this).2
  · rw [mR_e Mf_1]; exact MA_R0.2.1
theorem Mf_57 {j : Nat} (h : j < 3) : mR Mf 15 (5 + j) = 21 + j ∧ mR Mf 64 (5 + j) = 70 + j := by
  have := List.all_eq_true.mp MA_R0.2.2.1 j (List.mem_range.mpr h)
  have := Bool.and_eq_true _ _ |>.mp this
  rw [mR_e Mf_1, mR_e Mf_1]
  exact ⟨of_decide_eq_true this.1, of_decide_eq_true this.2⟩
theorem Mf_DS14 : DS Mf 14 21 22 23 64 := by
  refine ⟨⟨(Mf_57 (j := 0) (by decide)).1, (Mf_57 (j := 1) (by decide)).1, (Mf_57 (j := 2) (by decide)).1⟩, ⟨io_f (by decide) (by decide), io_f (by decide) (by decide), io_f (by decide) (by decide)⟩, ⟨ln_f (by decide) (by decide), ln_f (by decide) (by decide), ln_f (by decide) (by decide)⟩, Or.inl rfl, Or.inl rfl, Or.inl rfl, by decide, by decide, by decide⟩
theorem Mf_DS63 : DS Mf 63 70 71 72 64 := by
  refine ⟨⟨(Mf_57 (j := 0) (by decide)).2, (Mf_57 (j := 1) (by decide)).2, (Mf_57 (j := 2) (by decide)).2⟩, ⟨io_f (by decide) (by decide), io_f (by decide) (by decide), io_f (by decide) (by decide)⟩, ⟨ln_f (by decide) (by decide), ln_f (by decide) (by decide), ln_f (by decide) (by decide)⟩, Or.inl rfl, Or.inl rfl, Or.inl rfl, by decide, by decide, by decide⟩
set_option maxRecDepth 1000000 in
theorem MA_hall : ((List.range 256).all (fun l => decide (mI MA0 18 l = 0)) && (List.range 16).all (fun f => decide (mI MA0 19 f = 0)) && (List.range 6).all (fun k => decide (mI MA0 20 k = 0)) && decide (mI MA0 15 8 = 0) && decide (mI MA0 15 9 = -1) && decide (mI MA0 15 10 = 0) && decide (mI MA0 15 11 = 0) && (List.range 16).all (fun v => (List.range 16).all fun j => decide (mI MA0 (31 + 2 * v) j = if j = 6 ∨ j = 7 then -1 else 0)) && (List.range 16).all (fun j => decide (j < 7) || decide (mI MA0 14 j = 0))) = true := by decide +kernel
set_option maxRecDepth 1000000 in
theorem MA_logs2 : ((decide (mI MA0 25 0 = 30) && decide (mI MA0 25 2 = 0) && decide (mI MA0 25 3 = 0) && decide (mI MA0 27 0 = 40) && decide (mI MA0 27 2 = 0) && decide (mI MA0 27 3 = 0)) && (decide (mI MA0 74 0 = 30) && decide (mI MA0 74 2 = 0) && decide (mI MA0 74 3 = 0) && decide (mI MA0 76 0 = 40) && decide (mI MA0 76 2 = 0) && decide (mI MA0 76 3 = 0))) = true := by decide +kernel
theorem LG_0 {M : Mem} {l m : Nat} (h0 : mI M l 0 = nI m) (h2 : mI M l 2 = 0) (h3 : mI M l 3 = 0) : LG M l m [] := by
  refine ⟨h0, ?_, ?_, fun j q h => by simp at h⟩
  · rw [h2]; rfl
  · rw [h3]; simp only [List.length_nil, Nat.zero_mod]; rfl
theorem MA_lg : (LG Mf 25 30 [] ∧ LG Mf 27 40 []) ∧ (LG Mf 74 30 [] ∧ LG Mf 76 40 []) := by
  have h := MA_logs2
  simp only [Bool.and_eq_true, decide_eq_true_eq] at h
  obtain ⟨⟨⟨⟨⟨⟨a1, a2⟩, a3⟩, a4⟩, a5⟩, a6⟩, ⟨⟨⟨⟨b1, b2⟩, b3⟩, b4⟩, b5⟩, b6⟩ := h
  exact ⟨⟨LG_0 ((Mf_o (by decide) 0).trans a1) ((Mf_o (by decide) 2).trans a2) ((Mf_o (by decide) 3).trans a3), LG_0 ((Mf_o (by decide) 0).trans a4) ((Mf_o (by decide) 2).trans a5) ((Mf_o (by decide) 3).trans a6)⟩, LG_0 ((Mf_o (by decide) 0).trans b1) ((Mf_o (by decide) 2).trans b2) ((Mf_o (by decide) 3).trans b3), LG_0 ((Mf_o (by decide) 0).trans b4) ((Mf_o (by decide) 2).trans b5) ((Mf_o (by decide) 3).trans b6)⟩
theorem Mf_Rm (h : Nat) (hl : mLn Mf (mR Mf (h + 1) 5) = 64) : Rm Mf h 2000000 6000000 := by
  refine ⟨?_, ?_, Nat.le_refl _, Nat.le_refl _, 0, by rw [hl]⟩
  · rw [mN_e Mf_1, MA_t.2.2.2]; omega
  · have e : mU Mf = mU MA0 := by unfold mU; rw [Mf_1]
    rw [e]
    have := MA_R0.2.2.2
    omega
theorem Mf_TR : TR Mf 63 2000000 6000000 [] [] :=
  ⟨Mf_CS63, ⟨70, 71, 72, 64, Mf_DS63, by decide, by decide⟩, Mf_Rm 63 (by rw [(Mf_57 (j := 0) (by decide)).2]; exact ln_f (by decide) (by decide)), MA_lg.2.1, MA_lg.2.2⟩
theorem all_r {n : Nat} {f : Nat → Bool} (h : (List.range n).all f = true) {k : Nat} (hk : k < n) : f k = true := List.all_eq_true.mp h k (List.mem_range.mpr hk)
theorem Mf_HV : HV Mf 14 2000000 6000000 0 4 (fun v => mI Mf 29 v) Sf [] [] := by
  have h := MA_hall
  simp only [Bool.and_eq_true] at h
  obtain ⟨⟨⟨⟨⟨⟨⟨⟨m1, m2⟩, m3⟩, m4⟩, m5⟩, m6⟩, m7⟩, m8⟩, m9⟩ := h
  have z8 := of_decide_eq_true m4
  have z9 := of_decide_eq_true m5
  have z10 := of_decide_eq_true m6
  have z11 := of_decide_eq_true m7
  have pl : ∀ v, v < 16 → ∀ j, j < 16 → mI Mf (14 + 17 + 2 * v) j = if j = 6 ∨ j = 7 then -1 else 0 := fun v hv j hj => by
    rw [Mf_o (by omega), show 14 + 17 + 2 * v = 31 + 2 * v by omega]
    exact of_decide_eq_true (all_r (all_r m8 hv) hj)
  have hl : ∀ j, 7 ≤ j → j < 16 → mI Mf 14 j = 0 := fun j h7 hj => by
    rw [Mf_o (by decide)]
    rcases Bool.or_eq_true _ _ |>.mp (all_r m9 hj) with z | z
    · exact absurd (of_decide_eq_true z) (by omega)
    · exact of_decide_eq_true z
  have v0 : ∀ k v, v < 16 → k < 8 → xR Sf k v = 0 := fun k v hv hk => Sf_0 (by unfold vk; omega) (by omega) (by omega) (by omega) (by omega)
  have v15 : ∀ j, j < 6 → xR Sf 15 j = 0 := fun j hj => Sf_0 (by unfold vk; omega) (by decide) (by decide) (by decide) (by decide)
  refine ⟨Mf_CS14, ⟨21, 22, 23, 64, fun _ => [], [], 0, fun _ => 256, ⟨Mf_DS14, fun l _ q hq => by simp at hq, fun _ _ => List.nodup_nil, fun _ _ => trivial, fun l _ cs z hz => ?_, fun l hl => ?_, fun f hf g hg => ?_, fun k hk => ?_, ⟨List.nodup_nil, fun c hc => by simp at hc, ?_⟩, ⟨?_, by decide, by decide, by decide, by decide⟩, ?_, 0, ?_, rfl, ?_⟩, fun _ _ => rfl⟩, ⟨fun v hv => ⟨fun p hp => ?_, ?_, fun z => ?_, fun u hu => ?_, fun w hw => ?_⟩, ⟨fun v hv => ?_, fun v hv => ?_, fun v hv => ?_, ?_, ?_, ?_, ?_, ?_, ?_⟩⟩, Mf_Rm 14 (by rw [(Mf_57 (j := 0) (by decide)).1]; exact ln_f (by decide) (by decide)), ⟨MA_lg.1.1, MA_lg.1.2⟩, fI13, fun v _ => rfl⟩
  · have := congrArg List.length hz
    simp at this
  · show mI Mf 18 l = 0
    rw [Mf_o (by decide)]; exact of_decide_eq_true (all_r m1 hl)
  · show bt (mI Mf 19 f) g = _
    rw [Mf_o (by decide), of_decide_eq_true (all_r m2 hf), b_0]
    simp
  · show mI Mf 20 k = _
    rw [Mf_o (by decide), of_decide_eq_true (all_r m3 hk)]
    exact (Sf_0 (by unfold vk; omega) (by decide) (by decide) (by decide) (by decide)).symm
  · show mI Mf 15 9 = -1
    rw [Mf_o (by decide)]; exact z9
  · show mI Mf 15 8 = 0
    rw [Mf_o (by decide)]; exact z8
  · show mI Mf 15 11 = 0
    rw [Mf_o (by decide)]; exact z11
  · show mI Mf 15 10 = 0
    rw [Mf_o (by decide)]; exact z10
  · have e : flr (fun l => ((fun _ => []) l : List (Nat × Ltr)).map Prod.snd) 0 256 = fl Sf := by
      unfold flr fl
      rw [List.range_eq_range']
      rfl
    rw [e, Sf_fl]
    rfl
  · have lim : ∀ p, p ∈ ft → p.1 < 16 ∧ p.1 ≠ 7 ∧ (p.1 = 6 ↔ p.2 = 8) ∧ (p.2 = 21 ∨ (p.2 ≠ 17 ∧ p.2 ≠ 19 ∧ p.2 ≠ 20 ∧ (p.2 < 11 ∨ (12 ≤ p.2 ∧ p.2 < 15) ∨ p.2 = 18))) := by decide
    obtain ⟨l1, l2, l3, l4⟩ := lim p hp
    rw [pl v hv _ l1]
    by_cases c : p.2 = 8
    · rw [if_pos (Or.inl (l3.mpr c)), c, Sf_8 hv]
    · rw [if_neg (fun z => by rcases z with z | z
                              · exact c (l3.mp z)
                              · exact l2 z)]
      rcases l4 with z | ⟨z1, z2, z3, z4⟩
      · rw [z]; rfl
      · exact (Sf_0 (by unfold vk; omega) c z1 z2 z3).symm
  · rw [pl v hv 7 (by decide), if_pos (Or.inr rfl), Sf_8 hv, if_pos rfl]
  · rw [v0 0 v hv (by decide)] at z
    exact absurd z (by decide)
  · rw [pl v hv 9 (by decide), if_neg (by decide), b_0]
    show false = decide (u ∈ (([] : List Wtr)).map Prod.fst)
    simp
  · have hw' : w ∈ (([] : List Wtr)) := hw
    simp at hw'
  · rw [hl 7 (by decide) (by decide), b_0]
    by_cases c : v < 16
    · rw [v0 0 v c (by decide)]; simp
    · simp [c]
  · rw [hl 8 (by decide) (by decide), b_0]
    by_cases c : v < 16
    · rw [v0 0 v c (by decide)]; simp
    · simp [c]
  · rw [hl 9 (by decide) (by decide), b_0]
    by_cases c : v < 16
    · rw [v0 7 v c (by decide)]; simp
    · simp [c]
  · rw [hl 10 (by decide) (by decide), v15 1 (by decide)]
  · rw [hl 11 (by decide) (by decide), v15 0 (by decide)]
  · rw [hl 12 (by decide) (by decide), v15 2 (by decide)]
  · rw [hl 13 (by decide) (by decide), v15 5 (by decide)]
  · rw [hl 14 (by decide) (by decide), v15 3 (by decide)]
  · rw [hl 15 (by decide) (by decide), v15 4 (by decide)]
/-! ===== a crowd on the fresh objects ===== -/
theorem Sf_Inv : Inv 4 0 Sf := by
  have v0 : ∀ k v, v < 16 → k < 8 → xR Sf k v = 0 := fun k v hv hk => Sf_0 (by unfold vk; omega) (by omega) (by omega) (by omega) (by omega)
  have v9 : ∀ v, v < 16 → xR Sf 9 v = 0 := fun v hv => Sf_0 (by unfold vk; omega) (by decide) (by decide) (by decide) (by decide)
  have v10 : ∀ v, v < 16 → xR Sf 10 v = 0 := fun v hv => Sf_0 (by unfold vk; omega) (by decide) (by decide) (by decide) (by decide)
  have oe0 : ∀ v a, v < 4 → a < 4 → oe Sf 99 99 none v a = none := fun v a hv ha => by
    rw [oe_99 (by omega)]
    unfold eng
    rw [Sf_8 (by omega), if_neg (m1_ne (by omega))]
    rfl
  refine ⟨fun v hv => ⟨Or.inl (v0 0 v hv (by decide)), fun _ => v0 0 v hv (by decide), Or.inl (v0 7 v hv (by decide)), Or.inl (v10 v hv)⟩, fun v hv i _ _ => ?_, fun v hv z => ?_, fun v hv => ⟨0, 0, Nat.le_refl _, Nat.le_refl _, v0 1 v hv (by decide), v0 2 v hv (by decide)⟩, fun l _ => ⟨fun x hx => ?_, fun _ => rfl⟩, fun a ha => ⟨⟨List.Pairwise.nil, List.nodup_nil, fun w hw => ?_⟩, fun _ => rfl, Or.inl ⟨Sf_8 ha, v9 a ha, v10 a ha⟩⟩, fun v hv a ha => ?_, fun v hv a ha => ⟨fun s hs => ?_, fun x hx => ?_, fun x hx => ?_⟩⟩
  · rw [v0 3 v hv (by decide)]; exact b_0 _
  · rw [v0 0 v hv (by decide)] at z; exact absurd z (by decide)
  · have hx' : x ∈ (([] : List Ltr)) := hx
    simp at hx'
  · have hw' : w ∈ (([] : List Wtr)) := hw
    simp at hw'
  · rw [oe0 v a hv ha]
    unfold opn
    rw [if_neg (fun z => z.1 (v0 0 v (by omega) (by decide)))]
    rfl
  · rw [oe0 v a hv ha] at hs; cases hs
  · have hx' : x ∈ (([] : List Ltr)) := hx
    simp at hx'
  · have hx' : x ∈ (([] : List Ltr)) := hx
    simp at hx'
set_option maxRecDepth 1000000 in
theorem MA_q : ((List.range 4).all fun v => decide (crv (kk 4) 4 v = mI MA0 29 v) && (List.range 32).all fun i => decide (i < 4) || !(bt (crv (kk 4) 4 v) i)) = true := by decide +kernel
theorem Sf_17 {v : Nat} (h : v < 4) : xR Sf 17 v = crv (kk 4) 4 v := by
  rw [Sf_R (by decide), show ad 17 v = 2 + v from rfl, Mf_s]
  unfold mff
  rw [if_pos (by omega), show 2 + v - 2 = v by omega]
theorem Sf_bk : bkm 4 Sf = 0 := by
  have v7 : ∀ v, v < 4 → xR Sf 7 v = 0 := fun v hv => Sf_0 (by unfold vk; omega) (by decide) (by decide) (by decide) (by decide)
  unfold bkm bk
  rw [show List.range' 0 4 = [0, 1, 2, 3] from rfl]
  simp only [List.foldl_cons, List.foldl_nil, v7 0 (by decide), v7 1 (by decide), v7 2 (by decide), v7 3 (by decide)]
  decide
theorem Sf_qm {v : Nat} (h : v < 4) : qm 4 Sf v = crv (kk 4) 4 v := by
  unfold qm qby
  rw [Sf_bk, Int32.and_zero, if_pos rfl, Sf_17 h]
theorem Sf_qb : ∀ v, v < 4 → ∀ i, 4 ≤ i → i < 32 → bt (qm 4 Sf v) i = false := by
  intro v hv i h1 h2
  rw [Sf_qm hv]
  have := (Bool.and_eq_true _ _ |>.mp (all_r MA_q hv)).2
  rcases Bool.or_eq_true _ _ |>.mp (all_r this h2) with z | z
  · exact absurd (of_decide_eq_true z) (by omega)
  · simpa using z
theorem Sf_Q : ∀ v, v < 4 → qm 4 Sf v = mI Mf 29 v := by
  intro v hv
  rw [Sf_qm hv, Mf_o (by decide)]
  exact of_decide_eq_true (Bool.and_eq_true _ _ |>.mp (all_r MA_q hv)).1
theorem Sf_20 : xR Sf 20 0 = nI 4 ∧ xR Sf 20 1 = 0 := by
  rw [Sf_R (by decide), Sf_R (by decide)]
  exact ⟨fIr0, fr_1⟩
theorem Sf_CK {T : Nat} (hT : T ≤ 500) : CK 4 0 16 T Sf := by
  have hi := idl_le Sf 4
  refine ⟨by decide, by decide, hT, ⟨Sf_Inv, ?_, Qk.rf _, fun u => ⟨0, Nat.le_refl _, by rw [show nI 0 = (0 : Int32) from rfl, Int32.add_zero]⟩⟩, Sf_20.1, fun z => ?_, Sf_qb, fun r hr => by omega, fun r hr => by omega⟩
  · unfold Psi
    rw [Sf_fl, List.length_nil]
    omega
  · rw [Sf_20.2] at z; exact absurd z (by decide)
theorem fwl_ne {S0 S : St} (hne : ∀ v, nwE S0 S v ≠ -1) : ∀ (ws : List Nat) (x : Int32), (x ≠ -1 ∨ ∃ v, v ∈ ws ∧ xR S0 7 v = 0) → fwl S0 S ws x ≠ -1 := by
  intro ws
  induction ws with
  | nil =>
    intro x h
    rcases h with h | ⟨v, hv, _⟩
    · exact h
    · simp at hv
  | cons w ws ih =>
    intro x h
    have e : fwl S0 S (w :: ws) x = fwl S0 S ws (if xR S0 7 w = 0 then (if x = -1 then nwE S0 S w else if x ≤ nwE S0 S w then x else nwE S0 S w) else x) := rfl
    rw [e]
    apply ih
    by_cases c : xR S0 7 w = 0
    · rw [if_pos c]
      refine Or.inl ?_
      by_cases c1 : x = -1
      · rw [if_pos c1]; exact hne w
      · rw [if_neg c1]
        split
        · exact c1
        · exact hne w
    · rw [if_neg c]
      rcases h with h | ⟨v, hv, hz⟩
      · exact Or.inl h
      · rcases List.mem_cons.mp hv with q | q
        · exact absurd (q ▸ hz) c
        · exact Or.inr ⟨v, q, hz⟩
theorem cT_cR {N A P T w : Nat} {S0 S : St} (J : CJ N A P S0 S T) (hT : T ≤ 500) (h7 : ∃ v, v < N ∧ xR S0 7 v = 0) : cT N S0 S w = cR N S0 S w := by
  have hne : ∀ v, nwE S0 S v ≠ -1 := fun v => by
    obtain ⟨m, hm, e⟩ := J.2.2.2 v
    unfold nwE
    rw [e, Int32.add_comm, Int32.add_sub_cancel]
    intro z
    have : ¬ nI m < 0 := nI_nlt (b := 0) (by omega) (by omega)
    rw [z] at this
    exact this (by decide)
  have h := fwl_ne hne (List.range N) (-1) (Or.inr (by obtain ⟨v, hv, z⟩ := h7; exact ⟨v, List.mem_range.mpr hv, z⟩))
  unfold cT cR
  rw [if_neg h]
theorem RV.mv {M M' : Mem} {tw : Bool} {t : Int32} {S : St} {pb pt : List Row4} (h : RV M tw t S pb pt) (f : FrO M M') : RV M' tw t S pb pt := by
  obtain ⟨hS, ht, ha, hw, hl, hb1, hb2⟩ := h
  obtain ⟨f1, f2⟩ := f
  have e1 : ∀ b, mI M' 121 b = mI M 121 b := (f2 121 (by decide) (by decide)).2.2.1
  have e3 : ∀ b, mI M' 123 b = mI M 123 b := (f2 123 (by decide) (by decide)).2.2.1
  have hS' : RS M' := by
    refine ⟨fun i h1 h2 => ?_, fun q hq => ?_, Nat.le_trans hS.2.2 f1⟩
    · rw [(f2 i (by omega) h2).1]; exact hS.1 i h1 h2
    · have hb : ∀ q, q ∈ tG → q.1 = 120 := by decide
      have := hb q hq
      rw [(f2 q.1 (by omega) (by omega)).2.1]; exact hS.2.1 q hq
  refine ⟨hS', ?_, fun k i hv => ?_, hw.cg (fun b _ _ => e1 b) rfl, ⟨?_, hl.2.1, hl.2.2.cg fun i _ _ => ⟨e1 _, e3 _⟩⟩, hb1.cg (e1 _) (fun b _ _ => e1 b), hb2.cg (e1 _) (fun b _ _ => e1 b)⟩
  · rw [(f2 120 (by decide) (by decide)).2.2.1]; exact ht
  · rw [e1]; exact ha k i hv
  · rw [e1]; exact hl.1
theorem nn_e {a : Int32} (h : ¬ a < 0) : ∃ s, s < 2 ^ 31 ∧ a = nI s := by
  refine ⟨a.toBitVec.toNat, ?_, nI_tn a⟩
  have h1 : ¬ a.toInt < 0 := by
    have e0 : (0 : Int32).toInt = 0 := by decide
    rw [Int32.lt_iff_toInt_lt, e0] at h
    exact h
  have e : a.toInt = if 2 * a.toBitVec.toNat < 2 ^ 32 then (a.toBitVec.toNat : Int) else (a.toBitVec.toNat : Int) - (2 ^ 32 : Nat) := BitVec.toInt_eq_toNat_cond _
  have l := a.toBitVec.isLt
  by_cases c : 2 * a.toBitVec.toNat < 2 ^ 32
  · omega
  · rw [if_neg c] at e
    omega
theorem Mf_XT : XT Mf := ⟨io_f (by decide) (by decide), fR00, fR02, fR03, by rw [mN_e Mf_1, MA_t.2.2.2]; exact Nat.le_refl _⟩
theorem clr_Sf : clr Sf = Sf := rfl
theorem Mf_158 : mI Mf 15 8 = nI 0 := by
  have h := MA_hall
  simp only [Bool.and_eq_true] at h
  rw [Mf_o (by decide)]
  exact of_decide_eq_true h.1.1.1.1.1.2
theorem rng3 {L N : Nat} (hL : 0 < L ∧ L < 1000) (hN : N < 1000) (a : Int32) : (a < nI L ∨ nI (N + 1) ≤ a) ∨ ∃ k, L ≤ k ∧ k ≤ N ∧ a = nI k := by
  rcases out_in (N := N + 1) (by omega) a with h | ⟨k, hk, rfl⟩
  · rcases h with h | h
    · have : (0 : Int32) < nI L := nI_lt (a := 0) hL.1 (by omega)
      exact Or.inl (Or.inl (Int32.lt_trans h this))
    · exact Or.inl (Or.inr h)
  · by_cases h2 : L ≤ k
    · exact Or.inr ⟨k, h2, by omega, rfl⟩
    · exact Or.inl (Or.inl (nI_lt (by omega) (by omega)))
theorem gt3 {N : Nat} (hN : N < 1000) {a : Int32} (h : nI (N + 1) ≤ a) : nI N < a := by
  rw [Int32.lt_iff_toInt_lt]
  rw [Int32.le_iff_toInt_le] at h
  have e : ∀ k, k < 2000 → (nI k).toInt = k := fun k hk => by
    have := (nI_ltI (a := k) (b := k + 1) (by omega) (by omega))
    have e2 : (nI k).toInt = if 2 * (nI k).toBitVec.toNat < 2 ^ 32 then ((nI k).toBitVec.toNat : Int) else ((nI k).toBitVec.toNat : Int) - (2 ^ 32 : Nat) := BitVec.toInt_eq_toNat_cond _
    have e3 : (nI k).toBitVec.toNat = k := by
      show (BitVec.ofNat 32 k).toNat = k
      rw [BitVec.toNat_ofNat]; exact Nat.mod_eq_of_lt (by omega)
    rw [e2, e3, if_pos (by omega)]
  rw [e N (by omega)]
  rw [e (N + 1) (by omega)] at h
  omega
theorem is_out3 {L N : Nat} {M : Mem} (hN : N < 1000) {a : Int32} (h : a < nI L ∨ nI (N + 1) ≤ a) : f_X10_isIn a (nI L) (nI N) M = some 0 := by
  rw [f_X10_isIn]
  by_cases q : a < nI L
  · rw [if_pos q]
  · rw [if_neg q, if_pos (gt3 hN (h.resolve_left q))]
theorem is_in3 {L N k : Nat} {M : Mem} (hN : N < 1000) (h : L ≤ k) (h2 : k ≤ N) : f_X10_isIn (nI k) (nI L) (nI N) M = some 1 := by
  rw [f_X10_isIn, if_neg (nI_nlt h (by omega)), if_neg (nI_nlt h2 (by omega))]

theorem Mf_57r {i : Nat} (a : 5 ≤ i) (b : i ≤ 7) : mR Mf 15 i = i + 16 ∧ mR Mf 64 i = i + 65 := by
  have := Mf_57 (j := i - 5) (by omega)
  rw [show 5 + (i - 5) = i by omega] at this
  exact ⟨by rw [this.1]; omega, by rw [this.2]; omega⟩
theorem RV.mr {M M' : Mem} {tw : Bool} {t : Int32} {S : St} {pb pt : List Row4} (h : RV M tw t S pb pt) (f1 : mN M ≤ mN M') (f2 : ∀ o, 120 ≤ o → o < 131 → M'.1.2.1 o = M.1.2.1 o ∧ (∀ b, mR M' o b = mR M o b) ∧ ∀ b, mI M' o b = mI M o b) : RV M' tw t S pb pt := by
  obtain ⟨hS, ht, ha, hw, hl, hb1, hb2⟩ := h
  have e1 : ∀ b, mI M' 121 b = mI M 121 b := (f2 121 (by decide) (by decide)).2.2
  have e3 : ∀ b, mI M' 123 b = mI M 123 b := (f2 123 (by decide) (by decide)).2.2
  have hS' : RS M' := by
    refine ⟨fun i h1 h2 => ?_, fun q hq => ?_, Nat.le_trans hS.2.2 f1⟩
    · rw [(f2 i h1 h2).1]; exact hS.1 i h1 h2
    · have hb : ∀ q, q ∈ tG → q.1 = 120 := by decide
      have := hb q hq
      rw [(f2 q.1 (by omega) (by omega)).2.1]; exact hS.2.1 q hq
  refine ⟨hS', ?_, fun k i hv => ?_, hw.cg (fun b _ _ => e1 b) rfl, ⟨?_, hl.2.1, hl.2.2.cg fun i _ _ => ⟨e1 _, e3 _⟩⟩, hb1.cg (e1 _) (fun b _ _ => e1 b), hb2.cg (e1 _) (fun b _ _ => e1 b)⟩
  · rw [(f2 120 (by decide) (by decide)).2.2]; exact ht
  · rw [e1]; exact ha k i hv
  · rw [e1]; exact hl.1
theorem HV.tot {M : Mem} {h X Y N : Nat} {t : Int32} {Q : Nat → Int32} {S : St} {pb pt : List Row4} (p : HV M h X Y t N Q S pb pt) : mI M (h + 1) 10 = nI (fl S).length := by
  obtain ⟨d5, d6, d7, len, K, fr, us, ow, w, hK⟩ := p.2.1
  obtain ⟨tot, e1, _, e3⟩ := w.2.2.2.2.2.2.2.2.2.2.2
  rw [e1, e3]
  congr 2
  unfold flr fl
  rw [List.range_eq_range']
  refine fm_cg _ (fun l hl => ?_)
  have := List.mem_range'_1.mp hl
  show ((K l).map Prod.snd).map (fun x => (l, x)) = _
  rw [hK l (by omega)]
theorem HV.in0 {M : Mem} {h X Y N : Nat} {t : Int32} {Q : Nat → Int32} {S : St} {pb pt : List Row4} (p : HV M h X Y t N Q S pb pt) (h0 : ∀ v, v < 16 → xR S 0 v ≠ 2) : mI M h 7 = 0 := by
  rw [bt_z]
  intro i hi
  rw [p.2.2.1.2.1 i hi]
  by_cases c : i < 16
  · simp [h0 i c]
  · simp [c]
theorem rs_19 {M : Mem} (h : RS M) : mR M 120 19 = 130 := h.r (by decide)
theorem rs_f19 {α : Type} {M : Mem} (h : RS M) (x : Option α) : chk (isO M 100 130) x = x := chk_t (h.io (by decide) (by decide) (by decide))
theorem rs_c19 {α : Type} {M : Mem} (h : RS M) {k : Nat} (hk : k < 16) (x : Option α) : chk (inB (nI k) (mLn M 130)) x = x := by
  refine chk_t ?_
  rw [h.ln (c := 16) (by decide) (by decide) (by decide)]; exact inB_n hk (by decide)
/-- 130 and 120's fields behind 19 are set -/
def FrT (M M' : Mem) : Prop := M'.1 = M.1 ∧ (∀ o, o ≠ 120 → o ≠ 130 → ∀ b, mI M' o b = mI M o b) ∧ ∀ b, b < 20 → mI M' 120 b = mI M 120 b
theorem RV.ft {M M' : Mem} {tw : Bool} {t : Int32} {S : St} {pb pt : List Row4} (h : RV M tw t S pb pt) (f : FrT M M') : RV M' tw t S pb pt :=
  h.cg f.1 (f.2.2 3 (by decide)) (f.2.1 121 (by decide) (by decide)) (f.2.1 123 (by decide) (by decide))
theorem z16_l {tw : Bool} {t : Int32} {S : St} {pb pt : List Row4} (v1 v2 v3 : Int32) : ∀ (d i n : Nat) (M : Mem), i + d = 16 → RV M tw t S pb pt → d + 1 ≤ n → ∃ M' n', f_X10_goClock_42 n 120 v1 v2 v3 (nI i) M = f_X10_goClock_42 (n' + 1) 120 v1 v2 v3 (nI 16) M' ∧ n ≤ n' + 1 + d ∧ FrT M M' := by
  intro d
  induction d with
  | zero =>
    intro i n M hi p hn
    exact ⟨M, n - 1, by rw [show i = 16 by omega, show n - 1 + 1 = n by omega], by omega, rfl, fun _ _ _ _ => rfl, fun _ _ => rfl⟩
  | succ d ih =>
    intro i n M hi p hn
    obtain ⟨n, rfl⟩ : ∃ m, n = m + 1 := ⟨n - 1, by omega⟩
    have fa : FrT M (sI M 130 i 0) := ⟨rfl, fun o n1 n2 b => mI_o _ _ _ _ _ n2, fun b hb => mI_o _ _ _ _ _ (by decide)⟩
    obtain ⟨M', n', e, hn', f⟩ := ih (i + 1) n (sI M 130 i 0) (by omega) (p.ft fa) (by omega)
    refine ⟨M', n', ?_, by omega, f.1, fun o n1 n2 b => (f.2.1 o n1 n2 b).trans (fa.2.1 o n1 n2 b), fun b hb => (f.2.2 b hb).trans (fa.2.2 b hb)⟩
    rw [f_X10_goClock_42, if_neg (show ¬ (16 : Int32) ≤ nI i from nI_ge (a := i) (b := 16) (by omega) (by decide)), rs_f p.1, rs_19 p.1, bnd_e, rs_f19 p.1, rs_c19 p.1 (by omega), sI_d (by omega), bnd_e, nI_1, bnd_e]
    exact e
/-! ===== states that a search holds for one ===== -/
def lk (x : Ltr) : Int32 × Int32 := (x.1, x.2.1)
def SE (S S' : St) : Prop := (∀ k i, k < 11 ∨ k = 17 ∨ k = 20 → i < 16 → xR S k i = xR S' k i) ∧ (∀ a, a < 16 → xW S a = xW S' a) ∧ ∀ l, l < 256 → (xL S l).map lk = (xL S' l).map lk
theorem SE.rf (S : St) : SE S S := ⟨fun _ _ _ _ => rfl, fun _ _ => rfl, fun _ _ => rfl⟩
theorem SE.sy {S S' : St} (h : SE S S') : SE S' S := ⟨fun k i a b => (h.1 k i a b).symm, fun a b => (h.2.1 a b).symm, fun l b => (h.2.2 l b).symm⟩
theorem SE.tr {S S' S'' : St} (h : SE S S') (h' : SE S' S'') : SE S S'' := ⟨fun k i a b => (h.1 k i a b).trans (h'.1 k i a b), fun a b => (h.2.1 a b).trans (h'.2.1 a b), fun l b => (h.2.2 l b).trans (h'.2.2 l b)⟩
theorem SE.r {S S' : St} (h : SE S S') (k i : Nat) (x : Int32) : SE (uR S k i x) (uR S' k i x) :=
  ⟨fun k' i' a b => by rw [xR_uR, xR_uR, h.1 k' i' a b], h.2.1, h.2.2⟩
theorem SE.x {S S' : St} (h : SE S S') {k : Nat} (hk : 11 ≤ k ∧ k ≠ 17 ∧ k ≠ 20) (i : Nat) (x : Int32) : SE (uR S k i x) S' :=
  ⟨fun k' i' a b => by rw [xR_uR, if_neg (by omega)]; exact h.1 k' i' a b, h.2.1, h.2.2⟩
theorem SE.w {S S' : St} (h : SE S S') (a : Nat) (w : List Wtr) : SE (uW S a w) (uW S' a w) :=
  ⟨h.1, fun b hb => by rw [xW_uW, xW_uW, h.2.1 b hb], h.2.2⟩
theorem SE.l {S S' : St} (h : SE S S') (l : Nat) {x x' : List Ltr} (e : x.map lk = x'.map lk) : SE (uL S l x) (uL S' l x') :=
  ⟨h.1, h.2.1, fun m hm => by
    rw [xL_uL, xL_uL]
    by_cases c : m = l
    · rw [if_pos c, if_pos c]; exact e
    · rw [if_neg c, if_neg c]; exact h.2.2 m hm⟩
theorem SE.of {S S' T T' : St} (h : SE S S') (a : xR T = xR S) (b : xW T = xW S) (c : xL T = xL S) (a' : xR T' = xR S') (b' : xW T' = xW S') (c' : xL T' = xL S') : SE T T' := by
  refine ⟨fun k i z z' => ?_, fun i z => ?_, fun l z => ?_⟩
  · rw [a, a']; exact h.1 k i z z'
  · rw [b, b']; exact h.2.1 i z
  · rw [c, c']; exact h.2.2 l z
section
variable {S S' : St} {t t' : Int32}
theorem SE.tsn (h : SE S S') (k f g : Nat) (s : Int32) (hl : 16 * f + g < 256) : SE (sn t k f g s S) (sn t' k f g s S') := by
  unfold sn
  have h1 : SE (uR S 16 k (xR S 16 k + 1)) (uR S' 16 k (xR S' 16 k + 1)) := (((h.sy.x (k := 16) (by decide) k _).sy).x (k := 16) (by decide) k _)
  refine h1.l _ ?_
  rw [List.map_append, List.map_append]
  show (xL S (16 * f + g)).map lk ++ _ = (xL S' (16 * f + g)).map lk ++ _
  rw [h.2.2 _ hl]
  rfl
theorem SE.tnob (h : SE S S') (a : Nat) : SE (nob a S) (nob a S') := ((h.r _ _ _).r _ _ _).r _ _ _
theorem SE.tgF (h : SE S S') {a : Nat} (ha : a < 16) (hw : ∀ w, w ∈ xW S a → w.1 < 16) : SE (gF t a S) (gF t' a S') := by
  unfold gF
  rw [← h.2.1 a ha]
  cases e : xW S a with
  | nil => exact h.tnob a
  | cons w r =>
    have := hw w (by rw [e]; simp)
    exact SE.tsn ((((h.tnob a).r _ _ _).r _ _ _).w _ _) _ _ _ _ (by omega)
theorem SE.trq3 (h : SE S S') {a : Nat} (ha : a < 16) (hg : xR S 10 a = 1 ∨ gn S a < 16) : SE (rq3 t a S) (rq3 t' a S') := by
  unfold rq3
  have e8 : gn S' a = gn S a := by unfold gn; rw [h.1 8 a (by omega) ha]
  rw [← h.1 10 a (by omega) ha, ← h.1 9 a (by omega) ha, e8]
  by_cases c : xR S 10 a = 1
  · rw [if_pos c, if_pos c]; exact h
  · rw [if_neg c, if_neg c]
    have := hg.resolve_left c
    exact SE.tsn (h.r _ _ _) _ _ _ _ (by omega)
theorem SE.trq2 (h : SE S S') {a : Nat} (ha : a < 16) (old : List Wtr) (hw : ∀ w, w ∈ old → w.1 < 16) : SE (rq2 t a old S) (rq2 t' a old S') := by
  cases old with
  | nil => exact h
  | cons w r =>
    show SE (if ahd w.2 (nI w.1) (xR S 9 a) (xR S 8 a) then sn t 2 a w.1 w.2 S else S) (if ahd w.2 (nI w.1) (xR S' 9 a) (xR S' 8 a) then sn t' 2 a w.1 w.2 S' else S')
    have := hw w (by simp)
    rw [← h.1 9 a (by omega) ha, ← h.1 8 a (by omega) ha]
    split
    · exact h.tsn _ _ _ _ (by omega)
    · exact h
theorem SE.trq (h : SE S S') {a v : Nat} (ha : a < 16) (hv : v < 16) (s : Int32) (hw : ∀ w, w ∈ xW S a → w.1 < 16) (hG : Gok S a) : SE (rq t a v s S) (rq t' a v s S') := by
  unfold rq
  rw [← h.1 8 a (by omega) ha, ← h.1 9 a (by omega) ha, ← h.2.1 a ha]
  have hi : ∀ w, w ∈ ins v s (xW S a) → w.1 < 16 := fun w z => by
    rcases ins_perm.mp z with y | y
    · rw [y]; exact hv
    · exact hw w y
  by_cases c : xR S 8 a = -1
  · rw [if_pos c, if_pos c]
    refine (h.w a _).tgF ha (fun w z => hi w ?_)
    rw [xW_uW, if_pos rfl] at z; exact z
  · rw [if_neg c, if_neg c]
    split
    · refine SE.trq3 ((h.w a _).trq2 ha _ hw) ha (Or.inr ?_)
      obtain ⟨g, hg, e⟩ := hG.resolve_left c
      unfold gn
      rw [rq2_R (by decide)]
      show (xR S 8 a).toNatClampNeg < 16
      rw [e, nI_clamp (by omega)]; exact hg
    · exact (h.w a _).tsn _ _ _ _ (by omega)
theorem SE.tyl (h : SE S S') {a v : Nat} (ha : a < 16) (hv : v < 16) (s : Int32) (hw : ∀ w, w ∈ xW S a → w.1 < 16) : SE (yl t a v s S) (yl t' a v s S') := by
  unfold yl
  rw [← h.1 8 a (by omega) ha, ← h.1 9 a (by omega) ha, ← h.2.1 a ha]
  split
  · refine (h.w a _).tgF ha (fun w z => ?_)
    rw [xW_uW, if_pos rfl] at z
    rcases ins_perm.mp z with y | y
    · rw [y]; exact hv
    · exact hw w y
  · exact h
theorem SE.trl (h : SE S S') {a v : Nat} (ha : a < 16) (s : Int32) (hw : ∀ w, w ∈ xW S a → w.1 < 16) : SE (rl t a v s S) (rl t' a v s S') := by
  unfold rl
  rw [← h.1 8 a (by omega) ha, ← h.1 9 a (by omega) ha, ← h.2.1 a ha]
  split
  · exact h.tgF ha hw
  · exact h.w a _
theorem SE.tyT (h : SE S S') {v a : Nat} (hv : v < 16) (ha : a < 16) : SE (yT t v a S) (yT t' v a S') := by
  unfold yT
  simp only []
  rw [← h.1 2 v (by omega) hv, ← h.1 4 v (by omega) hv, ← h.1 6 v (by omega) hv]
  exact ((h.tsn 4 v a _ (by omega)).r _ _ _).r _ _ _
end
theorem SE.tfdl {t t' : Int32} {v : Nat} (hv : v < 16) (d : Int32) : ∀ (ws : List Nat) (S S' : St), SE S S' → (∀ w, w ∈ ws → w < 16) → SE (fdl t v d ws S) (fdl t' v d ws S') := by
  intro ws
  induction ws with
  | nil => intro S S' h _; exact h
  | cons w ws ih =>
    intro S S' h hw
    have e : ∀ (t : Int32) (S : St), fdl t v d (w :: ws) S = fdl t v d ws (if bt d w then yT t v w S else S) := fun t S => by
      unfold fdl
      rw [List.foldl_cons]
    rw [e, e]
    refine ih _ _ ?_ (fun u hu => hw u (List.mem_cons_of_mem _ hu))
    split
    · exact h.tyT hv (hw w (by simp))
    · exact h
section
variable {S S' : St} {t t' : Int32}
theorem SE.tfd (h : SE S S') {N v : Nat} (h16 : N ≤ 16) (hv : v < 16) (a : Nat) : SE (fd t N v a S) (fd t' N v a S') := by
  unfold fd
  rw [← h.1 5 v (by omega) hv, ← h.1 6 v (by omega) hv]
  exact (SE.tfdl hv _ _ _ _ (h.r _ _ _) (fun w hw => by have := List.mem_range.mp hw; omega)).r _ _ _
theorem SE.tiq (h : SE S S') {v a : Nat} (hv : v < 16) (ha : a < 16) : SE (iq t v a S) (iq t' v a S') := by
  unfold iq
  rw [← h.1 4 v (by omega) hv, ← h.1 6 v (by omega) hv, ← h.1 5 v (by omega) hv]
  split
  · split
    · exact h.r _ _ _
    · exact h.tyT hv ha
  · exact h
theorem SE.en1 (t : Int32) (N v : Nat) (S : St) : SE (en t N v S) (uR (uR S 5 v 0) 0 v 2) := by
  rw [enC_e]
  unfold enC
  simp only []
  refine SE.of (S := uR (uR (uR (uR (uR (uR (uR (uR (uR S 5 v 0) 0 v 2) 21 v t) 12 v (xR S 12 v + 1)) 15 0 (xR S 15 0 + 1)) 15 2 (xR S 15 2 + (if pcI N (uR (uR S 5 v 0) 0 v 2) ≤ 1 then 0 else 1))) 15 5 (xR S 15 5 + (if ovr N v (uR (uR S 5 v 0) 0 v 2) then 1 else 0))) 15 4 (mxI (xR S 15 4) (xR S 15 1 - xR S 13 v))) 15 3 (mxI (xR S 15 3) (xR S 14 v))) ?_ rfl rfl rfl rfl rfl rfl
  exact (((((((SE.rf _).x (k := 21) (by decide) _ _).x (k := 12) (by decide) _ _).x (k := 15) (by decide) _ _).x (k := 15) (by decide) _ _).x (k := 15) (by decide) _ _).x (k := 15) (by decide) _ _).x (k := 15) (by decide) _ _
theorem SE.ten (h : SE S S') (N v : Nat) : SE (en t N v S) (en t' N v S') :=
  ((SE.en1 t N v S).tr ((h.r _ _ _).r _ _ _)).tr (SE.en1 t' N v S').sy
theorem SE.tgr (h : SE S S') {N v : Nat} (hv : v < 16) (a : Nat) : SE (gr t N v a S) (gr t' N v a S') := by
  unfold gr
  simp only []
  rw [← h.1 3 v (by omega) hv, ← h.1 4 v (by omega) hv, ← h.1 5 v (by omega) hv, ← h.1 6 v (by omega) hv]
  have k := ((h.r 4 v (bon (xR S 4 v) a)).r 5 v (bof (xR S 5 v) a)).r 6 v (bof (xR S 6 v) a)
  split
  · exact k.ten N v
  · exact k
theorem SE.twt (N k f g : Nat) (s : Int32) (S : St) : SE (wt N k f g s S) S := by
  have wl := wt_WL N k f g s S
  exact ⟨fun k' i z _ => wt_R (by omega) (by omega) (by omega) i, fun a _ => by rw [wl.1], fun l _ => by rw [wl.2]⟩
theorem SE.tclk (h : SE S S') {g : Nat} (hg : g < 16) (s : Int32) : SE (if s ≤ xR S 1 g then S else uR S 1 g s) (if s ≤ xR S' 1 g then S' else uR S' 1 g s) := by
  rw [← h.1 1 g (by omega) hg]
  split
  · exact h
  · exact h.r _ _ _
theorem SE.trd (h : SE S S') {N k f g : Nat} (h16 : N ≤ 16) (hf : f < 16) (hg : g < 16) (s : Int32) (hH : Hok S f g s) : SE (rd t N k f g s S) (rd t' N k f g s S') := by
  unfold rd
  simp only []
  have h1 := h.tclk hg s
  have hw : ∀ w, w ∈ xW (if s ≤ xR S 1 g then S else uR S 1 g s) g → w.1 < 16 := fun w z => hH.1 w (by
    unfold xW at z ⊢
    rw [clk_2] at z; exact z)
  have hG : Gok (if s ≤ xR S 1 g then S else uR S 1 g s) g := by
    unfold Gok
    rw [clk_R (by decide)]
    exact hH.2.2.2
  generalize (if s ≤ xR S 1 g then S else uR S 1 g s) = S1 at h1 hw hG ⊢
  generalize (if s ≤ xR S' 1 g then S' else uR S' 1 g s) = S1' at h1 ⊢
  split
  · exact h1.trq hg hf s hw hG
  · split
    · exact h1.tyl hg hf s hw
    · split
      · exact h1.trl hg s hw
      · rw [← h1.1 0 g (by omega) hg, ← h1.1 2 g (by omega) hg]
        split
        · split
          · exact h1.tgr hg f
          · split
            · exact h1.tfd h16 hg f
            · exact h1.tiq hg hf
        · exact h1
theorem SE.tbr (h : SE S S') {N A f g : Nat} (hI : Inv N A S) (h16 : N ≤ 16) (hf : f < N) (hg : g < N) : SE (br t N f g S) (br t' N f g S') := by
  unfold br
  have el := h.2.2 (16 * f + g) (by omega)
  cases hx : xL S (16 * f + g) with
  | nil =>
    rw [hx] at el
    have : xL S' (16 * f + g) = [] := List.map_eq_nil_iff.mp el.symm
    rw [this]
    exact h
  | cons x r =>
    rw [hx] at el
    cases hx' : xL S' (16 * f + g) with
    | nil => rw [hx'] at el; cases el
    | cons x' r' =>
      rw [hx'] at el
      simp only [List.map_cons, List.cons.injEq] at el
      have ex : x.1 = x'.1 ∧ x.2.1 = x'.2.1 := by
        have := el.1
        unfold lk at this
        exact ⟨(Prod.mk.inj this).1, (Prod.mk.inj this).2⟩
      simp only []
      rw [← ex.1, ← ex.2]
      have k : SE (wt N x.1.toNatClampNeg f g x.2.1 (uL S (16 * f + g) r)) (wt N x.1.toNatClampNeg f g x.2.1 (uL S' (16 * f + g) r')) :=
        ((SE.twt _ _ _ _ _ _).tr (h.l _ el.2)).tr (SE.twt _ _ _ _ _ _).sy
      refine k.trd h16 (by omega) (by omega) _ ?_
      obtain ⟨h1, _⟩ := hI.pop h16 hf hg hx
      have sm := wt_S N x.1.toNatClampNeg f g x.2.1 (uL S (16 * f + g) r)
      have wl := wt_WL N x.1.toNatClampNeg f g x.2.1 (uL S (16 * f + g) r)
      exact Hok_of (h1.reg sm wl.2) h16 hg _
end
theorem SE.tsAl {t t' : Int32} {k f : Nat} (hf : f < 16) (set s : Int32) : ∀ (ws : List Nat) (S S' : St), SE S S' → (∀ w, w ∈ ws → w < 16) → SE (sAl t k f set s ws S) (sAl t' k f set s ws S') := by
  intro ws
  induction ws with
  | nil => intro S S' h _; exact h
  | cons w ws ih =>
    intro S S' h hw
    have e : ∀ (t : Int32) (S : St), sAl t k f set s (w :: ws) S = sAl t k f set s ws (if bt set w then sn t k f w s S else S) := fun t S => by
      unfold sAl
      rw [List.foldl_cons]
    rw [e, e]
    have := hw w (by simp)
    refine ih _ _ ?_ (fun u hu => hw u (List.mem_cons_of_mem _ hu))
    split
    · exact h.tsn _ _ _ _ (by omega)
    · exact h
section
variable {S S' : St} {t t' : Int32}
theorem SE.tsA (h : SE S S') {N k f : Nat} (h16 : N ≤ 16) (hf : f < 16) (set s : Int32) : SE (sA t N k f set s S) (sA t' N k f set s S') :=
  SE.tsAl hf set s _ _ _ h (fun w hw => by have := List.mem_range.mp hw; omega)
theorem SE.tlv (h : SE S S') {N v : Nat} (h16 : N ≤ 16) (hv : v < 16) : SE (lv t N v S) (lv t' N v S') := by
  unfold lv
  rw [← h.1 3 v (by omega) hv, ← h.1 2 v (by omega) hv]
  exact SE.tsA (((((h.r _ _ _).r _ _ _).r _ _ _).r _ _ _).r _ _ _) h16 hv _ _
theorem SE.tbk (h : SE S S') {N : Nat} (h16 : N ≤ 16) : bkm N S' = bkm N S := by
  have g : ∀ (ws : List Nat) (x : Int32), (∀ w, w ∈ ws → w < 16) → ws.foldl (fun x v => x ||| (xR S' 7 v <<< (nI v &&& 31))) x = ws.foldl (fun x v => x ||| (xR S 7 v <<< (nI v &&& 31))) x := by
    intro ws
    induction ws with
    | nil => intro x _; rfl
    | cons w ws ih =>
      intro x hw
      rw [List.foldl_cons, List.foldl_cons, h.1 7 w (by omega) (hw w (by simp))]
      exact ih _ (fun u hu => hw u (List.mem_cons_of_mem _ hu))
  unfold bkm bk
  exact g _ _ (fun w hw => by have := List.mem_range'_1.mp hw; omega)
theorem SE.tqm (h : SE S S') {N v : Nat} (h16 : N ≤ 16) (hv : v < 16) : qm N S' v = qm N S v := by
  unfold qm qby fub
  rw [h.tbk h16, h.1 17 v (by omega) hv, h.1 20 1 (by omega) (by decide)]
  have e : ∀ (ws : List Nat) (b : Int32), (∀ w, w ∈ ws → w < 16) → ws.find? (fun w => decide (xR S' 17 w &&& b = 0)) = ws.find? (fun w => decide (xR S 17 w &&& b = 0)) := by
    intro ws b
    induction ws with
    | nil => intro _; rfl
    | cons w ws ih =>
      intro hw
      rw [List.find?_cons, List.find?_cons, h.1 17 w (by omega) (hw w (by simp)), ih (fun u hu => hw u (List.mem_cons_of_mem _ hu))]
  have m : ∀ w, w ∈ List.range' 0 N → w < 16 := fun w hw => by have := List.mem_range'_1.mp hw; omega
  rw [e _ _ m]
  cases hf : (List.range' 0 N).find? (fun w => decide (xR S 17 w &&& bkm N S = 0)) with
  | none => rfl
  | some w =>
    simp only []
    rw [h.1 17 w (by omega) (m w (List.mem_of_find?_eq_some hf))]
theorem SE.tma (h : SE S S') {N v : Nat} (h16 : N ≤ 16) (hv : v < 16) : mayA N v S' = mayA N v S := by
  unfold mayA
  rw [h.tqm h16 hv, h.1 0 v (by omega) hv, h.1 7 v (by omega) hv]
theorem SE.tak (h : SE S S') {N v : Nat} (h16 : N ≤ 16) (hv : v < 16) : SE (ak t N v S) (ak t' N v S') := by
  unfold ak
  simp only []
  rw [← h.1 1 v (by omega) hv, h.tqm h16 hv]
  refine SE.tsA ?_ h16 hv _ _
  have k := ((((((h.r 1 v (xR S 1 v + 1)).r 2 v (xR S 1 v + 1)).r 3 v (qm N S v)).r 4 v 0).r 5 v 0).r 6 v 0).r 0 v 1
  exact ((((k.sy.x (k := 13) (by decide) v (xR S' 15 1)).x (k := 14) (by decide) v 0).sy).x (k := 13) (by decide) v (xR S 15 1)).x (k := 14) (by decide) v 0
theorem SE.tdm (h : SE S S') {N A c : Nat} (hI : Inv N A S) (h16 : N ≤ 16) (hc : (c < 256 ∧ c / 16 < N ∧ c % 16 < N) ∨ (256 ≤ c ∧ c < 272 ∧ c - 256 < N) ∨ (272 ≤ c ∧ c - 272 < N)) : SE (dm t N c S) (dm t' N c S') := by
  unfold dm
  rcases hc with ⟨h1, h2, h3⟩ | ⟨h1, h2, h3⟩ | ⟨h1, h2⟩
  · rw [if_pos h1, if_pos h1]; exact h.tbr hI h16 h2 h3
  · have n1 : ¬ c < 256 := by omega
    rw [if_neg n1, if_neg n1, if_pos h2, if_pos h2]; exact h.tlv h16 (by omega)
  · have n1 : ¬ c < 256 := by omega
    have n2 : ¬ c < 272 := by omega
    rw [if_neg n1, if_neg n1, if_neg n2, if_neg n2]; exact h.tak h16 (by omega)
theorem SE.tmv (h : SE S S') {N : Nat} (h16 : N ≤ 16) (ask : Int32) {sn sn' : Nat → Int32} (hs : ∀ v, v < N → sn v = sn' v) : mvl N S' ask sn' = mvl N S ask sn := by
  have e1 : lanes S' = lanes S := by
    unfold lanes
    apply List.filter_congr
    intro l hl
    have := h.2.2 l (List.mem_range.mp hl)
    cases a : xL S l with
    | nil =>
      rw [a] at this
      have : xL S' l = [] := List.map_eq_nil_iff.mp this.symm
      rw [this]
    | cons x r =>
      rw [a] at this
      cases b : xL S' l with
      | nil => rw [b] at this; cases this
      | cons y s => rfl
  have e2 : inss N S' = inss N S := by
    unfold inss
    apply List.filter_congr
    intro v hv
    rw [h.1 0 v (by omega) (by have := List.mem_range.mp hv; omega)]
  have e3 : asks' 0 N N S' ask sn' = asks' 0 N N S ask sn := by
    unfold asks'
    apply List.filter_congr
    intro v hv
    have := List.mem_range'_1.mp hv
    rw [h.tma h16 (by omega), h.1 2 v (by omega) (by omega), hs v (by omega)]
  unfold mvl
  rw [e1, e2, e3]
end
/-! ===== how many letters: what never grows, for each arbiter ===== -/
def smN (f : Nat → Nat) : Nat → Nat
  | 0 => 0
  | n + 1 => smN f n + f n
theorem smN_le {f g : Nat → Nat} : ∀ n, (∀ i, i < n → f i ≤ g i) → smN f n ≤ smN g n := by
  intro n
  induction n with
  | zero => intro _; exact Nat.le_refl _
  | succ n ih =>
    intro h
    have h1 := ih (fun i hi => h i (by omega))
    have h2 := h n (by omega)
    show smN f n + f n ≤ smN g n + g n
    omega
theorem smN_c {f g : Nat → Nat} (n : Nat) (h : ∀ i, i < n → f i = g i) : smN f n = smN g n :=
  Nat.le_antisymm (smN_le n (fun i hi => Nat.le_of_eq (h i hi))) (smN_le n (fun i hi => Nat.le_of_eq (h i hi).symm))
theorem smN_at {f g : Nat → Nat} {v : Nat} : ∀ n, v < n → (∀ i, i < n → i ≠ v → f i = g i) → smN f n + g v = smN g n + f v := by
  intro n
  induction n with
  | zero => intro h; omega
  | succ n ih =>
    intro hv h
    show smN f n + f n + g v = smN g n + g n + f v
    by_cases c : v = n
    · subst c
      have := smN_c v (fun i hi => h i (by omega) (by omega))
      omega
    · have := ih (by omega) (fun i hi hn => h i (by omega) hn)
      have := h n (by omega) (by omega)
      omega
theorem smN_add (f g : Nat → Nat) : ∀ n, smN (fun i => f i + g i) n = smN f n + smN g n := by
  intro n
  induction n with
  | zero => rfl
  | succ n ih =>
    show smN (fun i => f i + g i) n + (f n + g n) = (smN f n + f n) + (smN g n + g n)
    omega
theorem smN_k (c : Nat) : ∀ n, smN (fun _ => c) n = c * n := by
  intro n
  induction n with
  | zero => rfl
  | succ n ih =>
    show smN (fun _ => c) n + c = c * (n + 1)
    rw [ih, Nat.mul_succ]
theorem smN_sw (f : Nat → Nat → Nat) (m : Nat) : ∀ n, smN (fun i => smN (f i) m) n = smN (fun j => smN (fun i => f i j) n) m := by
  intro n
  induction n with
  | zero =>
    show 0 = smN (fun _ => 0) m
    rw [smN_k]; omega
  | succ n ih =>
    show smN (fun i => smN (f i) m) n + smN (f n) m = smN (fun j => smN (fun i => f i j) n + f n j) m
    rw [smN_add, ih]
theorem smN_one {v : Nat} : ∀ n, v < n → smN (fun i => if v = i then 1 else 0) n = 1 := by
  intro n
  induction n with
  | zero => intro h; omega
  | succ n ih =>
    intro h
    show smN (fun i => if v = i then 1 else 0) n + (if v = n then 1 else 0) = 1
    by_cases c : v = n
    · rw [if_pos c, smN_c (g := fun _ => 0) n (fun i hi => if_neg (by omega)), smN_k]; omega
    · rw [if_neg c, ih (by omega)]
/-- the arbiter of a letter -/
def larb (l : Nat) (k : Int32) : Nat := if k = nI 0 ∨ k = nI 4 ∨ k = nI 5 then l % 16 else l / 16
def lwa (a : Nat) (q : Nat × Ltr) : Nat := if larb q.1 q.2.1 = a then 1 else 0
def phL (a : Nat) (S : St) : Nat := ((fl S).map (lwa a)).sum
def phv (S : St) (a v : Nat) : Nat := (if bt (xR S 4 v) a = true ∧ bt (xR S 3 v) a = true then 1 else 0) + (if bt (xR S 5 v) a = true then 1 else 0)
def phB (a : Nat) (S : St) : Nat := smN (phv S a) 16
def Ph (a : Nat) (S : St) : Nat := phL a S + phB a S
theorem phL_c {a : Nat} {S S' : St} (h : xL S' = xL S) : phL a S' = phL a S := by
  unfold phL; rw [fl_L h]
theorem phv_c {a v : Nat} {S S' : St} (h : ∀ k, k = 3 ∨ k = 4 ∨ k = 5 → xR S' k v = xR S k v) : phv S' a v = phv S a v := by
  unfold phv; rw [h 3 (by omega), h 4 (by omega), h 5 (by omega)]
theorem phB_c {a : Nat} {S S' : St} (h : ∀ k v, k = 3 ∨ k = 4 ∨ k = 5 → xR S' k v = xR S k v) : phB a S' = phB a S :=
  smN_c _ (fun v _ => phv_c (fun k hk => h k v hk))
theorem phB_at {a v : Nat} {S S' : St} (hv : v < 16) (h : ∀ k u, u ≠ v → k = 3 ∨ k = 4 ∨ k = 5 → xR S' k u = xR S k u) : phB a S' + phv S a v = phB a S + phv S' a v :=
  smN_at 16 hv (fun u _ hu => phv_c (fun k hk => h k u hu hk))
theorem phL_sn {a : Nat} {t : Int32} {k f g : Nat} {s : Int32} {S : St} (hf : f < 16) (hg : g < 16) (hk : k < 6) : phL a (sn t k f g s S) = phL a S + (if (if k = 0 ∨ k = 4 ∨ k = 5 then g else f) = a then 1 else 0) := by
  have h : 16 * f + g < 256 := by omega
  have e : larb (16 * f + g) (nI k) = (if k = 0 ∨ k = 4 ∨ k = 5 then g else f) := by
    unfold larb
    have n : ∀ j, j < 6 → (nI k = nI j ↔ k = j) := fun j hj => nI_eq (by omega) (by omega)
    rw [show (16 * f + g) % 16 = g by omega, show (16 * f + g) / 16 = f by omega]
    simp only [n 0 (by decide), n 4 (by decide), n 5 (by decide)]
  unfold phL
  rw [fl_sn h, fl_split S h]
  simp only [List.map_append, List.sum_append, List.map_cons, List.map_nil, List.sum_cons, List.sum_nil]
  have e2 : lwa a (16 * f + g, (nI k, s, t)) = if (if k = 0 ∨ k = 4 ∨ k = 5 then g else f) = a then 1 else 0 := by
    unfold lwa
    rw [show ((16 * f + g, (nI k, s, t)) : Nat × Ltr).1 = 16 * f + g from rfl, show ((16 * f + g, (nI k, s, t)) : Nat × Ltr).2.1 = nI k from rfl, e]
  rw [e2]
  omega
theorem phL_pop {a : Nat} {S : St} {l : Nat} (hl : l < 256) {x : Ltr} {r : List Ltr} (hx : xL S l = x :: r) : phL a S = phL a (uL S l r) + lwa a (l, x) := by
  unfold phL
  rw [fl_split S hl, fl_uL S hl, hx]
  simp only [List.map_append, List.sum_append, List.map_cons, List.sum_cons]
  omega
theorem phL_sAl {a : Nat} {t : Int32} {k f : Nat} (hf : f < 16) (hk : k = 0 ∨ k = 4 ∨ k = 5) (set s : Int32) : ∀ (d i : Nat) (S : St), i + d ≤ 16 → phL a (sAl t k f set s (List.range' i d) S) = phL a S + (if (i ≤ a ∧ a < i + d) ∧ bt set a = true then 1 else 0) := by
  intro d
  induction d with
  | zero =>
    intro i S hi
    rw [if_neg (by omega)]; rfl
  | succ d ih =>
    intro i S hi
    unfold sAl
    rw [List.range'_succ, List.foldl_cons]
    have h := ih (i + 1) (if bt set i then sn t k f i s S else S) (by omega)
    unfold sAl at h
    rw [h]
    have e : phL a (if bt set i then sn t k f i s S else S) = phL a S + (if i = a ∧ bt set i = true then 1 else 0) := by
      by_cases c : bt set i = true
      · rw [if_pos c, phL_sn hf (by omega) (by omega), if_pos hk]
        by_cases c2 : i = a
        · rw [if_pos c2, if_pos ⟨c2, c⟩]
        · rw [if_neg c2, if_neg (fun z => c2 z.1)]
      · rw [if_neg c, if_neg (fun z => c z.2)]; rfl
    rw [e]
    by_cases c : i = a
    · subst c
      rw [if_neg (show ¬ ((i + 1 ≤ i ∧ i < i + 1 + d) ∧ bt set i = true) by omega)]
      by_cases c2 : bt set i = true
      · rw [if_pos ⟨rfl, c2⟩, if_pos ⟨by omega, c2⟩]
      · rw [if_neg (fun z => c2 z.2), if_neg (fun z => c2 z.2)]
    · rw [if_neg (show ¬ (i = a ∧ bt set i = true) from fun z => c z.1)]
      by_cases c2 : (i + 1 ≤ a ∧ a < i + 1 + d) ∧ bt set a = true
      · rw [if_pos c2, if_pos ⟨by omega, c2.2⟩]
      · rw [if_neg c2, if_neg (fun z => c2 ⟨by omega, z.2⟩)]
theorem phL_sA {a : Nat} {t : Int32} {N k f : Nat} (h16 : N ≤ 16) (hf : f < 16) (hk : k = 0 ∨ k = 4 ∨ k = 5) (set s : Int32) (S : St) : phL a (sA t N k f set s S) = phL a S + (if a < N ∧ bt set a = true then 1 else 0) := by
  unfold sA
  rw [List.range_eq_range', phL_sAl hf hk set s N 0 S (by omega)]
  by_cases c : a < N ∧ bt set a = true
  · rw [if_pos c, if_pos ⟨by omega, c.2⟩]
  · rw [if_neg c, if_neg (fun z => c ⟨by omega, z.2⟩)]
/-- all letters by their arbiters -/
theorem sum_arb : ∀ (q : List (Nat × Ltr)), (∀ x, x ∈ q → x.1 < 256) → q.length = smN (fun a => (q.map (lwa a)).sum) 16 := by
  intro q
  induction q with
  | nil => intro _; show 0 = smN (fun _ => 0) 16; rw [smN_k]
  | cons x q ih =>
    intro h
    have h1 := ih (fun y hy => h y (by simp [hy]))
    have hx := h x (by simp)
    have e : smN (fun a => ((x :: q).map (lwa a)).sum) 16 = smN (fun a => lwa a x + (q.map (lwa a)).sum) 16 := smN_c _ (fun a _ => by simp)
    have hb : larb x.1 x.2.1 < 16 := by unfold larb; split <;> omega
    rw [e, smN_add, ← h1, List.length_cons]
    have : smN (fun a => lwa a x) 16 = 1 := smN_one 16 hb
    omega
theorem fl_Ph (S : St) : (fl S).length ≤ smN (fun a => Ph a S) 16 := by
  rw [sum_arb (fl S) (fun x hx => (fl_mem hx).1)]
  exact smN_le _ (fun a _ => Nat.le_add_right _ _)
/-! ===== the steps: what they send is paid for ===== -/
theorem ite_le {A B : Prop} [Decidable A] [Decidable B] (h : A → B) : (if A then 1 else 0 : Nat) ≤ if B then 1 else 0 := by
  by_cases a : A
  · rw [if_pos a, if_pos (h a)]; exact Nat.le_refl _
  · rw [if_neg a]; exact Nat.zero_le _
theorem ite_or {A B e : Prop} [Decidable A] [Decidable B] [Decidable e] (h : A → B ∨ e) : (if A then 1 else 0 : Nat) ≤ (if B then 1 else 0) + if e then 1 else 0 := by
  by_cases a : A
  · rcases h a with b | b
    · rw [if_pos a, if_pos b]; exact Nat.le_add_right _ _
    · rw [if_pos a, if_pos b]; exact Nat.le_add_left _ _
  · rw [if_neg a]; exact Nat.zero_le _
theorem phv_le {S S' : St} {a v : Nat} {e : Prop} [Decidable e] (h1 : bt (xR S' 4 v) a = true ∧ bt (xR S' 3 v) a = true → (bt (xR S 4 v) a = true ∧ bt (xR S 3 v) a = true) ∨ e) (h2 : bt (xR S' 5 v) a = true → bt (xR S 5 v) a = true) : phv S' a v ≤ phv S a v + if e then 1 else 0 := by
  unfold phv
  have p1 := ite_or h1
  have p2 := ite_le h2
  omega
theorem Ph_at {a v : Nat} {S S' : St} (hv : v < 16) (h : ∀ k u, u ≠ v → k = 3 ∨ k = 4 ∨ k = 5 → xR S' k u = xR S k u) {d e : Nat} (hL : phL a S' ≤ phL a S + d) (hB : phv S' a v + d ≤ phv S a v + e) : Ph a S' ≤ Ph a S + e := by
  have := phB_at (a := a) hv h
  unfold Ph
  omega
theorem gr_WL {t : Int32} {N v a : Nat} {S : St} : xW (gr t N v a S) = xW S ∧ xL (gr t N v a S) = xL S := by
  unfold gr
  simp only []
  split
  · exact ⟨en_WL.1, en_WL.2⟩
  · exact ⟨rfl, rfl⟩
theorem gr_R {t : Int32} {N v a : Nat} {S : St} {k u : Nat} (hk : k < 11) (h : u ≠ v ∨ k = 1 ∨ k = 2 ∨ k = 3 ∨ 7 ≤ k) : xR (gr t N v a S) k u = xR S k u := by
  unfold gr
  simp only []
  split
  · rw [en_R hk, if_neg (by omega), if_neg (by omega), xR_uR, if_neg (by omega), xR_uR, if_neg (by omega), xR_uR, if_neg (by omega)]
  · rw [xR_uR, if_neg (by omega), xR_uR, if_neg (by omega), xR_uR, if_neg (by omega)]
theorem gr_4 {t : Int32} {N v a : Nat} {S : St} : xR (gr t N v a S) 4 v = bon (xR S 4 v) a := by
  unfold gr
  simp only []
  split
  · rw [en_R (by decide), if_neg (by omega), if_neg (by omega)]; simp [xR_uR]
  · simp [xR_uR]
theorem gr_5 {t : Int32} {N v a : Nat} {S : St} : xR (gr t N v a S) 5 v = 0 ∨ xR (gr t N v a S) 5 v = bof (xR S 5 v) a := by
  unfold gr
  simp only []
  split
  · left; rw [en_R (by decide), if_neg (by omega), if_pos ⟨rfl, rfl⟩]
  · right; simp [xR_uR]
theorem gr_Ph {t : Int32} {N v f a : Nat} {S : St} (hv : v < 16) (hf : f < 16) (ha : a < 16) : Ph a (gr t N v f S) ≤ Ph a S + if a = f then 1 else 0 := by
  refine Ph_at hv (fun k u hu hk => gr_R (by omega) (Or.inl hu)) (d := 0) (Nat.le_of_eq (phL_c gr_WL.2)) (phv_le ?_ ?_)
  · rw [gr_4, gr_R (by decide) (by omega), bt_on _ (by omega) (by omega)]
    rintro ⟨z1, z2⟩
    rcases Bool.or_eq_true _ _ |>.mp z1 with z1 | z1
    · exact Or.inl ⟨z1, z2⟩
    · exact Or.inr (of_decide_eq_true z1)
  · rcases gr_5 (t := t) (N := N) (v := v) (a := f) (S := S) with z | z
    · rw [z, b_0]; intro q; cases q
    · rw [z, bt_off _ (by omega) (by omega)]
      exact fun q => (Bool.and_eq_true _ _ |>.mp q).1
theorem fd_e (t : Int32) (N v f : Nat) (S : St) : fd t N v f S = uR (uR (uR (sA t N 4 v (xR S 5 v) (xR S 2 v) (uR S 6 v (bon (xR S 6 v) f))) 4 v (bfl (xR S 5 v) (List.range N) (xR S 4 v))) 6 v (bnl (xR S 5 v) (List.range N) (bon (xR S 6 v) f))) 5 v 0 := by
  unfold fd sA
  rw [fdl_e, xR_uR, if_neg (by omega), xR_uR, if_neg (by omega), xR_uR, if_pos ⟨rfl, rfl⟩]
theorem fd_R {t : Int32} {N v f : Nat} {S : St} {k u : Nat} (hk : k ≠ 16) (h : u ≠ v ∨ (k ≠ 4 ∧ k ≠ 5 ∧ k ≠ 6)) : xR (fd t N v f S) k u = xR S k u := by
  rw [fd_e, xR_uR, if_neg (by omega), xR_uR, if_neg (by omega), xR_uR, if_neg (by omega), sA_R hk, xR_uR, if_neg (by omega)]
theorem fd_4 {t : Int32} {N v f : Nat} {S : St} : xR (fd t N v f S) 4 v = bfl (xR S 5 v) (List.range N) (xR S 4 v) := by
  rw [fd_e, xR_uR, if_neg (by omega), xR_uR, if_neg (by omega), xR_uR, if_pos ⟨rfl, rfl⟩]
theorem fd_5 {t : Int32} {N v f : Nat} {S : St} : xR (fd t N v f S) 5 v = 0 := by
  rw [fd_e, xR_uR, if_pos ⟨rfl, rfl⟩]
theorem fd_W {t : Int32} {N v f : Nat} {S : St} : xW (fd t N v f S) = xW S := by
  rw [fd_e, xW_uR, xW_uR, xW_uR, sA_W]; rfl
theorem fd_L {t : Int32} {N v f : Nat} {S : St} : xL (fd t N v f S) = xL (sA t N 4 v (xR S 5 v) (xR S 2 v) (uR S 6 v (bon (xR S 6 v) f))) := by
  rw [fd_e]; rfl
theorem fd_Ph {t : Int32} {N v f a : Nat} {S : St} (h16 : N ≤ 16) (hv : v < 16) (ha : a < 16) : Ph a (fd t N v f S) ≤ Ph a S := by
  refine Ph_at (e := 0) hv (fun k u hu hk => fd_R (by omega) (Or.inl hu)) (d := if a < N ∧ bt (xR S 5 v) a = true then 1 else 0) (Nat.le_of_eq ?_) ?_
  · rw [phL_c fd_L, phL_sA h16 hv (by omega), phL_c (S' := uR S 6 v (bon (xR S 6 v) f)) (S := S) rfl]
  · unfold phv
    rw [fd_4, fd_5, b_0, fd_R (by decide) (by omega), if_neg (show ¬ false = true by decide)]
    have p1 : (if bt (bfl (xR S 5 v) (List.range N) (xR S 4 v)) a = true ∧ bt (xR S 3 v) a = true then 1 else 0 : Nat) ≤ if bt (xR S 4 v) a = true ∧ bt (xR S 3 v) a = true then 1 else 0 := ite_le (fun z => ⟨by
      have := z.1
      rw [bfl_b _ _ _ (fun w hw => by have := List.mem_range.mp hw; omega) a (by omega)] at this
      exact (Bool.and_eq_true _ _ |>.mp this).1, z.2⟩)
    have p2 : (if a < N ∧ bt (xR S 5 v) a = true then 1 else 0 : Nat) ≤ if bt (xR S 5 v) a = true then 1 else 0 := ite_le (fun z => z.2)
    omega
theorem yT_R {t : Int32} {v f : Nat} {S : St} {k u : Nat} (hk : k ≠ 16) (h : u ≠ v ∨ (k ≠ 4 ∧ k ≠ 6)) : xR (yT t v f S) k u = xR S k u := by
  unfold yT
  simp only []
  rw [xR_uR, if_neg (by omega), xR_uR, if_neg (by omega), sn_R _ _ _ _ _ _ hk]
theorem yT_4 {t : Int32} {v f : Nat} {S : St} : xR (yT t v f S) 4 v = bof (xR S 4 v) f := by
  unfold yT
  simp only []
  rw [xR_uR, if_neg (by omega), xR_uR, if_pos ⟨rfl, rfl⟩]
theorem yT_WL {t : Int32} {v f : Nat} {S : St} : xW (yT t v f S) = xW S ∧ xL (yT t v f S) = xL (sn t 4 v f (xR S 2 v) S) := ⟨rfl, rfl⟩
theorem iq_Ph {t : Int32} {v f a : Nat} {S : St} (hv : v < 16) (hf : f < 16) (ha : a < 16) : Ph a (iq t v f S) ≤ Ph a S + if a = f then 1 else 0 := by
  unfold iq
  by_cases c : bt (xR S 4 v) f = true
  · rw [if_pos c]
    by_cases c6 : xR S 6 v = 0
    · rw [if_pos c6]
      refine Ph_at hv (fun k u hu hk => by rw [xR_uR, if_neg (by omega)]) (d := 0) (Nat.le_of_eq (phL_c rfl)) ?_
      have e4 : xR (uR S 5 v (bon (xR S 5 v) f)) 4 v = xR S 4 v := by rw [xR_uR, if_neg (by omega)]
      have e3 : xR (uR S 5 v (bon (xR S 5 v) f)) 3 v = xR S 3 v := by rw [xR_uR, if_neg (by omega)]
      have e5 : xR (uR S 5 v (bon (xR S 5 v) f)) 5 v = bon (xR S 5 v) f := by rw [xR_uR, if_pos ⟨rfl, rfl⟩]
      unfold phv
      rw [e4, e3, e5, bt_on _ (by omega) (by omega)]
      have p : (if (bt (xR S 5 v) a || decide (a = f)) = true then 1 else 0 : Nat) ≤ (if bt (xR S 5 v) a = true then 1 else 0) + if a = f then 1 else 0 := ite_or (fun z => by
        rcases Bool.or_eq_true _ _ |>.mp z with z | z
        · exact Or.inl z
        · exact Or.inr (of_decide_eq_true z))
      omega
    · rw [if_neg c6]
      refine Ph_at hv (fun k u hu hk => yT_R (by omega) (Or.inl hu)) (d := if a = f then 1 else 0) (Nat.le_of_eq ?_) ?_
      · rw [phL_c yT_WL.2, phL_sn hv hf (by decide), if_pos (show (4 : Nat) = 0 ∨ (4 : Nat) = 4 ∨ (4 : Nat) = 5 by decide)]
        by_cases d : a = f
        · rw [if_pos d, if_pos d.symm]
        · rw [if_neg d, if_neg (fun z => d z.symm)]
      · have := phv_le (S := S) (S' := yT t v f S) (a := a) (v := v) (e := False) (by
          rw [yT_4, yT_R (by decide) (by omega), bt_off _ (by omega) (by omega)]
          exact fun z => Or.inl ⟨(Bool.and_eq_true _ _ |>.mp z.1).1, z.2⟩) (by rw [yT_R (by decide) (by omega)]; exact id)
        rw [if_neg (fun z => z)] at this
        omega
  · rw [if_neg c]; exact Nat.le_add_right _ _
theorem Ph_R {a : Nat} {S S' : St} {e : Nat} (h : ∀ k v, k = 3 ∨ k = 4 ∨ k = 5 → xR S' k v = xR S k v) (hL : phL a S' ≤ phL a S + e) : Ph a S' ≤ Ph a S + e := by
  have := phB_c (a := a) h
  unfold Ph
  omega
theorem gF_R {t : Int32} {a : Nat} {S : St} {k i : Nat} (h : i ≠ a ∨ k < 8 ∨ 10 < k) (hk : k ≠ 16) : xR (gF t a S) k i = xR S k i := by
  unfold gF
  cases hw : xW S a with
  | nil => simp only []; exact nob_R h
  | cons w r =>
    simp only []
    rw [sn_R _ _ _ _ _ _ hk, xR_uW, xR_uR, if_neg (by omega), xR_uR, if_neg (by omega), nob_R h]
theorem phL_snA {a : Nat} {t : Int32} {k f g : Nat} {s : Int32} {S : St} (hf : f < 16) (hg : g < 16) (hk : 1 ≤ k ∧ k ≤ 3) : phL a (sn t k f g s S) = phL a S + (if f = a then 1 else 0) := by
  rw [phL_sn hf hg (by omega), if_neg (show ¬ (k = 0 ∨ k = 4 ∨ k = 5) by omega)]
theorem gF_phL {t : Int32} {a b : Nat} {S : St} (ha : a < 16) (hW : ∀ w, w ∈ xW S a → w.1 < 16) : phL b (gF t a S) ≤ phL b S + if b = a then 1 else 0 := by
  unfold gF
  cases hw : xW S a with
  | nil => simp only []; rw [phL_c (S' := nob a S) (S := S) rfl]; exact Nat.le_add_right _ _
  | cons w r =>
    simp only []
    rw [phL_snA ha (hW w (by rw [hw]; simp)) (by decide), phL_c (S' := uW (uR (uR (nob a S) 8 a (nI w.1)) 9 a w.2) a r) (S := S) rfl]
    exact Nat.add_le_add_left (ite_le (fun z => z.symm)) _
theorem gF_Ph {t : Int32} {a b : Nat} {S : St} (ha : a < 16) (hW : ∀ w, w ∈ xW S a → w.1 < 16) : Ph b (gF t a S) ≤ Ph b S + if b = a then 1 else 0 :=
  Ph_R (fun k v hk => gF_R (by omega) (by omega)) (gF_phL ha hW)
theorem Ph_uW {b a : Nat} {S : St} (w : List Wtr) : Ph b (uW S a w) = Ph b S := rfl
theorem Ph_sn {b : Nat} {t : Int32} {k f g : Nat} {s : Int32} {S : St} (hf : f < 16) (hg : g < 16) (hk : k < 6) : Ph b (sn t k f g s S) = Ph b S + (if (if k = 0 ∨ k = 4 ∨ k = 5 then g else f) = b then 1 else 0) := by
  unfold Ph
  rw [phL_sn hf hg hk, phB_c (S' := sn t k f g s S) (S := S) (fun k' v hk' => sn_R _ _ _ _ _ _ (by omega))]
  omega
theorem Ph_snA {b : Nat} {t : Int32} {k f g : Nat} {s : Int32} {S : St} (hf : f < 16) (hg : g < 16) (hk : 1 ≤ k ∧ k ≤ 3) : Ph b (sn t k f g s S) = Ph b S + (if f = b then 1 else 0) := by
  rw [Ph_sn hf hg (by omega), if_neg (show ¬ (k = 0 ∨ k = 4 ∨ k = 5) by omega)]
theorem Ph_uR {b : Nat} {S : St} {k i : Nat} {x : Int32} (h : k ≠ 3 ∧ k ≠ 4 ∧ k ≠ 5) : Ph b (uR S k i x) = Ph b S := by
  unfold Ph
  rw [phB_c (S' := uR S k i x) (S := S) (fun k' v hk' => by rw [xR_uR, if_neg (by omega)]), phL_c (S' := uR S k i x) (S := S) rfl]
/-- a's inquiry: out where one that waits is ahead of the granted -/
def IQa (S : St) (a : Nat) : Prop := ∀ w, w ∈ xW S a → ¬ xR S 8 a = -1 → ahd w.2 (nI w.1) (xR S 9 a) (xR S 8 a) = true → xR S 10 a = 1
theorem IQa.cg {S S' : St} {a : Nat} (h : IQa S a) (hW : xW S' a = xW S a) (h8 : xR S' 8 a = xR S 8 a) (h9 : xR S' 9 a = xR S 9 a) (h10 : xR S' 10 a = xR S 10 a) : IQa S' a := by
  unfold IQa; rw [hW, h8, h9, h10]; exact h
theorem gF_IQ {t : Int32} {a : Nat} {S : St} (hp : (xW S a).Pairwise aw) : IQa (gF t a S) a := by
  unfold gF
  cases hw : xW S a with
  | nil =>
    simp only []
    intro w _ h8
    exact absurd (nob_8 a S).1 h8
  | cons w r =>
    simp only []
    rw [hw] at hp
    have hp1 := (List.pairwise_cons.mp hp).1
    intro y hy _ hh
    rw [sn_W, xW_uW, if_pos rfl] at hy
    rw [sn_R _ _ _ _ _ _ (by decide), sn_R _ _ _ _ _ _ (by decide), xR_uW, xR_uR, if_pos ⟨rfl, rfl⟩, xR_uR, if_neg (by omega), xR_uR, if_pos ⟨rfl, rfl⟩] at hh
    have := ahd_as (hp1 y hy)
    rw [this] at hh
    cases hh
/-! ===== a letter read: it keeps what never grows ===== -/
theorem rq_Ph {t : Int32} {N A a v s b : Nat} {S : St} (h16 : N ≤ 16) (ha : a < N) (hv : v < N) (hW : Wok N A (xW S a)) (hG : Gok S a) (hI : IQa S a) : Ph b (rq t a v (nI s) S) ≤ Ph b S + if b = a then 1 else 0 := by
  have hw16 : ∀ w, w ∈ xW S a → w.1 < 16 := fun w hw => by have := (hW.2.2 w hw).1; omega
  have sw : ∀ {P Q : Prop} [Decidable P] [Decidable Q], (P ↔ Q) → (if P then 1 else 0 : Nat) ≤ if Q then 1 else 0 := fun h => ite_le h.mp
  unfold rq
  by_cases c8 : xR S 8 a = -1
  · rw [if_pos c8]
    exact gF_Ph (S := uW S a (ins v (nI s) (xW S a))) (by omega) (fun w hw => by
      rw [xW_uW, if_pos rfl] at hw
      rcases ins_mem hw with rfl | hw
      · show v < 16; omega
      · exact hw16 w hw)
  · rw [if_neg c8]
    have hg : ∃ g, g < 16 ∧ xR S 8 a = nI g := hG.resolve_left c8
    obtain ⟨g, hg16, hge⟩ := hg
    by_cases c : (ins v (nI s) (xW S a)).head? = some (v, nI s) ∧ ahd (nI s) (nI v) (xR S 9 a) (xR S 8 a) = true
    · rw [if_pos c]
      by_cases i1 : xR S 10 a = 1
      · have e : rq3 t a (rq2 t a (xW S a) (uW S a (ins v (nI s) (xW S a)))) = rq2 t a (xW S a) (uW S a (ins v (nI s) (xW S a))) := by
          unfold rq3
          rw [rq2_R (by decide), xR_uW, if_pos i1]
        rw [e]
        cases hw : xW S a with
        | nil => rw [rq2_n rfl]; exact Nat.le_add_right _ _
        | cons y ys =>
          rw [rq2_c rfl]
          split
          · rw [Ph_snA (by omega) (hw16 y (by rw [hw]; simp)) (by decide)]
            exact Nat.add_le_add_left (sw ⟨fun z => z.symm, fun z => z.symm⟩) _
          · exact Nat.le_add_right _ _
      · have r2 : rq2 t a (xW S a) (uW S a (ins v (nI s) (xW S a))) = uW S a (ins v (nI s) (xW S a)) := by
          cases hw : xW S a with
          | nil => exact rq2_n rfl
          | cons y ys =>
            rw [rq2_c rfl, if_neg]
            intro z
            exact i1 (hI y (by rw [hw]; simp) c8 z)
        rw [r2]
        unfold rq3
        rw [xR_uW, if_neg i1, Ph_snA (by omega) (by rw [show gn (uW S a (ins v (nI s) (xW S a))) a = gn S a from rfl, gn_e hge hg16]; exact hg16) (by decide), Ph_uR (by decide), Ph_uW]
        exact Nat.add_le_add_left (sw ⟨fun z => z.symm, fun z => z.symm⟩) _
    · rw [if_neg c, Ph_snA (by omega) (by omega) (by decide), Ph_uW]
      exact Nat.add_le_add_left (sw ⟨fun z => z.symm, fun z => z.symm⟩) _
theorem rq3_R {t : Int32} {a : Nat} {S : St} {k i : Nat} (hk : k ≠ 16) (h : i ≠ a ∨ k ≠ 10) : xR (rq3 t a S) k i = xR S k i := by
  unfold rq3
  split
  · rfl
  · rw [sn_R _ _ _ _ _ _ hk, xR_uR, if_neg (by omega)]
theorem rq3_10 {t : Int32} {a : Nat} {S : St} : xR (rq3 t a S) 10 a = 1 := by
  unfold rq3
  split
  · assumption
  · rw [sn_R _ _ _ _ _ _ (by decide), xR_uR, if_pos ⟨rfl, rfl⟩]
theorem rq3_W {t : Int32} {a : Nat} {S : St} : xW (rq3 t a S) = xW S := by
  unfold rq3
  split <;> rfl
theorem gF_Wo {t : Int32} {a b : Nat} {S : St} (h : b ≠ a) : xW (gF t a S) b = xW S b := by
  unfold gF
  cases hw : xW S a with
  | nil => rfl
  | cons w r => simp only []; rw [sn_W, xW_uW, if_neg h]; rfl
theorem rq_R {t : Int32} {a v : Nat} {s : Int32} {S : St} {k i : Nat} (h : i ≠ a ∨ k < 8 ∨ 10 < k) (hk : k ≠ 16) : xR (rq t a v s S) k i = xR S k i := by
  unfold rq
  split
  · rw [gF_R h hk]; rfl
  · split
    · rw [rq3_R hk (by omega), rq2_R hk]; rfl
    · rw [sn_R _ _ _ _ _ _ hk]; rfl
theorem rq_Wo {t : Int32} {a v b : Nat} {s : Int32} {S : St} (h : b ≠ a) : xW (rq t a v s S) b = xW S b := by
  unfold rq
  split
  · rw [gF_Wo h, xW_uW, if_neg h]
  · split
    · rw [rq3_W, rq2_W, xW_uW, if_neg h]
    · rw [sn_W, xW_uW, if_neg h]
theorem rq_IQ {t : Int32} {N A a v s : Nat} {S : St} (h16 : N ≤ 16) (hv : v < N) (hs : s ≤ A) (hW : Wok N A (xW S a)) (hn : v ∉ (xW S a).map Prod.fst) (hI : IQa S a) : IQa (rq t a v (nI s) S) a := by
  have hw := ins_Wok hW hv h16 hs hn
  unfold rq
  split
  · exact gF_IQ (by rw [xW_uW, if_pos rfl]; exact hw.1)
  · rename_i c8
    split
    · intro w _ _ _
      exact rq3_10
    · rename_i c
      intro w hw1 h8 hh
      rw [sn_W, xW_uW, if_pos rfl] at hw1
      rw [sn_R _ _ _ _ _ _ (by decide), sn_R _ _ _ _ _ _ (by decide), xR_uW] at hh
      rw [sn_R _ _ _ _ _ _ (by decide), xR_uW]
      rcases ins_mem hw1 with rfl | hw1
      · obtain ⟨y, ys, e⟩ := ins_hd (v := v) (s := nI s) (l := xW S a)
        have hy : ¬ y = (v, nI s) := fun z => c ⟨by rw [e, z]; rfl, hh⟩
        have hy1 : y ∈ xW S a := (ins_mem (v := v) (s := nI s) (by rw [e]; simp)).resolve_left hy
        have hp := hw.1
        rw [e] at hp hw1
        rcases List.mem_cons.mp hw1 with z | z
        · exact absurd z.symm hy
        · have := (List.pairwise_cons.mp hp).1 _ z
          exact hI y hy1 c8 (ahd_t this hh)
      · exact hI w hw1 c8 hh
theorem yl_Ph {t : Int32} {N A a v s b : Nat} {S : St} (h16 : N ≤ 16) (ha : a < N) (hv : v < N) (hW : Wok N A (xW S a)) : Ph b (yl t a v (nI s) S) ≤ Ph b S + if b = a then 1 else 0 := by
  unfold yl
  split
  · exact gF_Ph (S := uW S a (ins v (nI s) (xW S a))) (by omega) (fun w hw => by
      rw [xW_uW, if_pos rfl] at hw
      rcases ins_mem hw with rfl | hw
      · show v < 16; omega
      · have := (hW.2.2 w hw).1; omega)
  · exact Nat.le_add_right _ _
theorem yl_R {t : Int32} {a v : Nat} {s : Int32} {S : St} {k i : Nat} (h : i ≠ a ∨ k < 8 ∨ 10 < k) (hk : k ≠ 16) : xR (yl t a v s S) k i = xR S k i := by
  unfold yl
  split
  · rw [gF_R h hk]; rfl
  · rfl
theorem yl_Wo {t : Int32} {a v b : Nat} {s : Int32} {S : St} (h : b ≠ a) : xW (yl t a v s S) b = xW S b := by
  unfold yl
  split
  · rw [gF_Wo h, xW_uW, if_neg h]
  · rfl
theorem yl_IQ {t : Int32} {N A a v s : Nat} {S : St} (h16 : N ≤ 16) (hv : v < N) (hs : s ≤ A) (hW : Wok N A (xW S a)) (hg : xR S 8 a = nI v → v ∉ (xW S a).map Prod.fst) (hI : IQa S a) : IQa (yl t a v (nI s) S) a := by
  unfold yl
  split
  · rename_i c
    exact gF_IQ (by rw [xW_uW, if_pos rfl]; exact (ins_Wok hW hv h16 hs (hg c.1)).1)
  · exact hI
theorem rl_Ph {t : Int32} {N A a v b : Nat} {s : Int32} {S : St} (h16 : N ≤ 16) (ha : a < N) (hW : Wok N A (xW S a)) : Ph b (rl t a v s S) ≤ Ph b S + if b = a then 1 else 0 := by
  unfold rl
  split
  · exact gF_Ph (by omega) (fun w hw => by have := (hW.2.2 w hw).1; omega)
  · exact Nat.le_add_right _ _
theorem rl_R {t : Int32} {a v : Nat} {s : Int32} {S : St} {k i : Nat} (h : i ≠ a ∨ k < 8 ∨ 10 < k) (hk : k ≠ 16) : xR (rl t a v s S) k i = xR S k i := by
  unfold rl
  split
  · rw [gF_R h hk]
  · rfl
theorem rl_Wo {t : Int32} {a v b : Nat} {s : Int32} {S : St} (h : b ≠ a) : xW (rl t a v s S) b = xW S b := by
  unfold rl
  split
  · rw [gF_Wo h]
  · rw [xW_uW, if_neg h]
theorem rl_IQ {t : Int32} {N A a v : Nat} {s : Int32} {S : St} (hW : Wok N A (xW S a)) (hI : IQa S a) : IQa (rl t a v s S) a := by
  unfold rl
  split
  · exact gF_IQ hW.1
  · intro w hw h8 hh
    rw [xW_uW, if_pos rfl] at hw
    exact hI w (gone_sub.subset hw) h8 hh
/-- who is inside has all votes of its set -/
def IV (N : Nat) (S : St) : Prop := ∀ v, v < N → xR S 0 v = 2 → ∀ i, i < N → bt (xR S 3 v) i = true → bt (xR S 4 v) i = true
theorem IV.cg {N : Nat} {S S' : St} (h : IV N S) (e : ∀ k v, k = 0 ∨ k = 3 ∨ k = 4 → xR S' k v = xR S k v) : IV N S' := by
  intro v hv
  rw [e 0 v (by omega), e 3 v (by omega), e 4 v (by omega)]
  exact h v hv
theorem IV.tgr {N v f : Nat} {S : St} (h : IV N S) (h16 : N ≤ 16) (h1 : xR S 0 v = 1) (t : Int32) : IV N (gr t N v f S) := by
  intro u hu h2 i hi hb
  by_cases c : u = v
  · subst c
    rw [gr_R (by decide) (by omega)] at hb
    rw [gr_4]
    unfold gr at h2
    simp only [] at h2
    split at h2
    · rename_i z
      have := bt_z.mp z i (by omega)
      rw [bt_minus _ _ (by omega), hb] at this
      simpa using this
    · rw [xR_uR, if_neg (by omega), xR_uR, if_neg (by omega), xR_uR, if_neg (by omega), h1] at h2
      exact absurd h2 (by decide)
  · rw [gr_R (by decide) (Or.inl c)] at h2 hb ⊢
    exact h u hu h2 i hi hb
/-- nothing is to a broken node, nothing from it -/
def IK (N : Nat) (S : St) : Prop := ∀ x, x < N → xR S 7 x = 1 → xR S 0 x = 0 ∧ (∀ u, u < N → bt (xR S 3 u) x = false) ∧ ∀ u, u < 16 → xL S (16 * x + u) = [] ∧ xL S (16 * u + x) = []
def Ub (S : St) (x : Nat) : Prop := ¬ xR S 7 x = 1
/-- a lane that is empty, one end broken, stays empty -/
def LK (S S' : St) : Prop := ∀ f g, f < 16 → g < 16 → (xR S 7 f = 1 ∨ xR S 7 g = 1) → xL S (16 * f + g) = [] → xL S' (16 * f + g) = []
theorem LK.rf (S : St) : LK S S := fun _ _ _ _ _ h => h
theorem LK.eq {S S' : St} (h : xL S' = xL S) : LK S S' := fun _ _ _ _ _ q => by rw [h]; exact q
theorem LK.tr {S S' S'' : St} (h : LK S S') (h7 : ∀ x, xR S' 7 x = xR S 7 x) (h' : LK S' S'') : LK S S'' := fun f g hf hg q e => h' f g hf hg (by rw [h7, h7]; exact q) (h f g hf hg q e)
theorem LK.sn {S : St} {t : Int32} {k f g : Nat} {s : Int32} (hf : f < 16) (hg : g < 16) (uf : Ub S f) (ug : Ub S g) : LK S (sn t k f g s S) := by
  intro f' g' hf' hg' q e
  rw [sn_L]
  by_cases c : 16 * f' + g' = 16 * f + g
  · have e1 : f' = f := by omega
    have e2 : g' = g := by omega
    subst e1; subst e2
    exact absurd q (fun z => z.elim uf ug)
  · rw [if_neg c]; exact e
theorem LK.tsA {S : St} {t : Int32} {N k f : Nat} {set s : Int32} (h16 : N ≤ 16) (hf : f < 16) (uf : Ub S f) (us : ∀ i, i < N → bt set i = true → Ub S i) : LK S (sA t N k f set s S) := by
  intro f' g' hf' hg' q e
  rw [sA_L h16 hf _ _ _ (by omega), if_neg]
  · exact e
  · rintro ⟨z1, z2, z3⟩
    have e1 : f' = f := by omega
    have e2 : (16 * f' + g') % 16 = g' := by omega
    rw [e2] at z2 z3
    subst e1
    exact q.elim uf (us g' z2 z3)
theorem LK.pop {S : St} {f g : Nat} {x : Ltr} {r : List Ltr} (hx : xL S (16 * f + g) = x :: r) : LK S (uL S (16 * f + g) r) := by
  intro f' g' hf' hg' q e
  rw [xL_uL]
  by_cases c : 16 * f' + g' = 16 * f + g
  · rw [c, hx] at e; cases e
  · rw [if_neg c]; exact e
theorem LK.tgF {S : St} {t : Int32} {a : Nat} (ha : a < 16) (hW : ∀ w, w ∈ xW S a → w.1 < 16 ∧ Ub S w.1) (ua : Ub S a) : LK S (gF t a S) := by
  unfold gF
  cases hw : xW S a with
  | nil => exact LK.eq rfl
  | cons w r =>
    simp only []
    have := hW w (by rw [hw]; simp)
    refine LK.tr (S' := uW (uR (uR (nob a S) 8 a (nI w.1)) 9 a w.2) a r) (LK.eq rfl) (fun x => by rw [xR_uW, xR_uR, if_neg (by omega), xR_uR, if_neg (by omega), nob_R (by omega)]) ?_
    refine LK.sn ha this.1 ?_ ?_
    · unfold Ub; rw [xR_uW, xR_uR, if_neg (by omega), xR_uR, if_neg (by omega), nob_R (by omega)]; exact ua
    · unfold Ub; rw [xR_uW, xR_uR, if_neg (by omega), xR_uR, if_neg (by omega), nob_R (by omega)]; exact this.2
theorem LK.trq {S : St} {t : Int32} {a v : Nat} {s : Int32} (ha : a < 16) (hv : v < 16) (hW : ∀ w, w ∈ xW S a → w.1 < 16 ∧ Ub S w.1) (ua : Ub S a) (uv : Ub S v) (hG : xR S 8 a = -1 ∨ ∃ g, g < 16 ∧ xR S 8 a = nI g ∧ Ub S g) : LK S (rq t a v s S) := by
  have h1 : LK S (uW S a (ins v s (xW S a))) := LK.eq rfl
  unfold rq
  split
  · refine h1.tr (fun _ => rfl) (LK.tgF ha (fun w hw => ?_) ua)
    rw [xW_uW, if_pos rfl] at hw
    rcases ins_mem hw with rfl | hw
    · exact ⟨hv, uv⟩
    · exact hW w hw
  · rename_i c8
    obtain ⟨g, hg, hge, ug⟩ := hG.resolve_left c8
    split
    · have h2 : LK S (rq2 t a (xW S a) (uW S a (ins v s (xW S a)))) := by
        cases hw : xW S a with
        | nil => rw [rq2_n rfl]; exact LK.eq rfl
        | cons y ys =>
          rw [rq2_c rfl]
          have := hW y (by rw [hw]; simp)
          split
          · exact (LK.eq rfl : LK S (uW S a (ins v s (y :: ys)))).tr (fun _ => rfl) (LK.sn ha this.1 ua this.2)
          · exact LK.eq rfl
      refine h2.tr (fun x => by rw [rq2_R (by decide)]; rfl) ?_
      unfold rq3
      split
      · exact LK.rf _
      · have eg : gn (rq2 t a (xW S a) (uW S a (ins v s (xW S a)))) a = g := gn_e (by rw [rq2_R (by decide)]; exact hge) hg
        rw [eg]
        refine LK.tr (S' := uR (rq2 t a (xW S a) (uW S a (ins v s (xW S a)))) 10 a 1) (LK.eq rfl) (fun x => by rw [xR_uR, if_neg (by omega)]) (LK.sn ha hg ?_ ?_)
        · unfold Ub; rw [xR_uR, if_neg (by omega), rq2_R (by decide)]; exact ua
        · unfold Ub; rw [xR_uR, if_neg (by omega), rq2_R (by decide)]; exact ug
    · exact h1.tr (fun _ => rfl) (LK.sn ha hv ua uv)
/-! ===== IX: what is held besides Inv; a bringing keeps it, and pays ===== -/
theorem LK.tyl {S : St} {t : Int32} {a v : Nat} {s : Int32} (ha : a < 16) (hv : v < 16) (hW : ∀ w, w ∈ xW S a → w.1 < 16 ∧ Ub S w.1) (ua : Ub S a) (uv : Ub S v) : LK S (yl t a v s S) := by
  unfold yl
  split
  · refine LK.tr (S' := uW S a (ins v s (xW S a))) (LK.eq rfl) (fun _ => rfl) (LK.tgF ha (fun w hw => ?_) ua)
    rw [xW_uW, if_pos rfl] at hw
    rcases ins_mem hw with rfl | hw
    · exact ⟨hv, uv⟩
    · exact hW w hw
  · exact LK.rf _
theorem LK.trl {S : St} {t : Int32} {a v : Nat} {s : Int32} (ha : a < 16) (hW : ∀ w, w ∈ xW S a → w.1 < 16 ∧ Ub S w.1) (ua : Ub S a) : LK S (rl t a v s S) := by
  unfold rl
  split
  · exact LK.tgF ha hW ua
  · exact LK.eq rfl
theorem LK.tfd {S : St} {t : Int32} {N v f : Nat} (h16 : N ≤ 16) (hv : v < 16) (uv : Ub S v) (ud : ∀ i, i < N → bt (xR S 5 v) i = true → Ub S i) : LK S (fd t N v f S) := by
  have q : LK S (sA t N 4 v (xR S 5 v) (xR S 2 v) (uR S 6 v (bon (xR S 6 v) f))) :=
    LK.tr (S' := uR S 6 v (bon (xR S 6 v) f)) (LK.eq rfl) (fun x => by rw [xR_uR, if_neg (by omega)]) (LK.tsA h16 hv (by unfold Ub; rw [xR_uR, if_neg (by omega)]; exact uv) (fun i hi hb => by unfold Ub; rw [xR_uR, if_neg (by omega)]; exact ud i hi hb))
  intro f' g' hf' hg' z e
  rw [fd_L]
  exact q f' g' hf' hg' z e
theorem LK.tiq {S : St} {t : Int32} {v f : Nat} (hv : v < 16) (hf : f < 16) (uv : Ub S v) (uf : Ub S f) : LK S (iq t v f S) := by
  unfold iq
  split
  · split
    · exact LK.eq rfl
    · intro f' g' hf' hg' z e
      rw [yT_WL.2]
      exact LK.sn hv hf uv uf f' g' hf' hg' z e
  · exact LK.rf _
theorem IK.st {N : Nat} {S S' : St} (h : IK N S) (h16 : N ≤ 16) (h7 : ∀ x, xR S' 7 x = xR S 7 x) (h0 : ∀ x, x < N → xR S 7 x = 1 → xR S 0 x = 0 → xR S' 0 x = 0) (h3 : ∀ u x, u < N → x < N → xR S 7 x = 1 → bt (xR S 3 u) x = false → bt (xR S' 3 u) x = false) (hL : LK S S') : IK N S' := by
  intro x hx q
  rw [h7] at q
  obtain ⟨a, b, c⟩ := h x hx q
  exact ⟨h0 x hx q a, fun u hu => h3 u x hu hx q (b u hu), fun u hu => ⟨hL x u (by omega) hu (Or.inl q) (c u hu).1, hL u x hu (by omega) (Or.inr q) (c u hu).2⟩⟩
theorem IK.lane {N A : Nat} {S : St} (h : IK N S) (hI : Inv N A S) {f g : Nat} (hf : f < N) (hg : g < N) (h16 : N ≤ 16) (hx : xL S (16 * f + g) ≠ []) : Ub S f ∧ Ub S g :=
  ⟨fun q => hx ((h f hf q).2.2 g (by omega)).1, fun q => hx ((h g hg q).2.2 f (by omega)).2⟩
theorem IK.engd {N A : Nat} {S : St} (h : IK N S) (hI : Inv N A S) (h16 : N ≤ 16) {u a : Nat} (hu : u < N) (ha : a < N) {s : Int32} (he : eng S a u = some s) : Ub S u ∧ Ub S a := by
  have j := hI.2.2.2.2.2.2.1 u hu a ha
  rw [oe_99 (by omega), he] at j
  have key : xL S (16 * u + a) = [] → opn S u a = none → False := by
    intro e1 e2
    rw [e1, e2] at j
    cases j
  refine ⟨fun q => key ((h u hu q).2.2 a (by omega)).1 ?_, fun q => key ((h a ha q).2.2 u (by omega)).2 ?_⟩
  · unfold opn; rw [if_neg (fun z => z.1 (h u hu q).1)]
  · unfold opn; rw [if_neg]
    rintro ⟨_, z⟩
    rw [(h a ha q).2.1 u hu] at z
    cases z
theorem IK.wtr {N A : Nat} {S : St} (h : IK N S) (hI : Inv N A S) (h16 : N ≤ 16) {a : Nat} (ha : a < N) {w : Wtr} (hw : w ∈ xW S a) : Ub S w.1 ∧ Ub S a := by
  have hF := hI.2.2.2.2.2.1 a (by omega)
  have hw1 := (hF.1.2.2 w hw).1
  by_cases c : xR S 8 a = nI w.1
  · exact h.engd hI h16 hw1 ha (s := xR S 9 a) (by unfold eng; rw [if_pos c])
  · exact h.engd hI h16 hw1 ha (s := w.2) (by unfold eng; rw [if_neg c]; exact (engW_some hF.1.2.1).mpr hw)
theorem IK.grd {N A : Nat} {S : St} (h : IK N S) (hI : Inv N A S) (h16 : N ≤ 16) {a g : Nat} (ha : a < N) (hg : g < N) (he : xR S 8 a = nI g) : Ub S g ∧ Ub S a :=
  h.engd hI h16 hg ha (s := xR S 9 a) (by unfold eng; rw [if_pos he])
theorem IK.use {N : Nat} {S : St} (h : IK N S) {u i : Nat} (hu : u < N) (hi : i < N) (hb : bt (xR S 3 u) i = true) : Ub S i := fun q => by
  rw [(h i hi q).2.1 u hu] at hb
  cases hb
def IQ (N : Nat) (S : St) : Prop := ∀ a, a < N → IQa S a
def IX (N : Nat) (S : St) : Prop := IQ N S ∧ IV N S ∧ IK N S
theorem IQ.at {N a : Nat} {S S' : St} (h : IQ N S) (ha : IQa S' a) (hW : ∀ b, b ≠ a → xW S' b = xW S b) (hR : ∀ k b, b ≠ a → k = 8 ∨ k = 9 ∨ k = 10 → xR S' k b = xR S k b) : IQ N S' := by
  intro b hb
  by_cases c : b = a
  · rw [c]; exact ha
  · exact (h b hb).cg (hW b c) (hR 8 b c (by omega)) (hR 9 b c (by omega)) (hR 10 b c (by omega))
theorem IQ.cg {N : Nat} {S S' : St} (h : IQ N S) (hW : xW S' = xW S) (hR : ∀ k b, k = 8 ∨ k = 9 ∨ k = 10 → xR S' k b = xR S k b) : IQ N S' :=
  fun b hb => (h b hb).cg (by rw [hW]) (hR 8 b (by omega)) (hR 9 b (by omega)) (hR 10 b (by omega))
theorem iq_R {t : Int32} {v f : Nat} {S : St} {k u : Nat} (hk : k ≠ 16) (h : u ≠ v ∨ (k ≠ 4 ∧ k ≠ 5 ∧ k ≠ 6)) : xR (iq t v f S) k u = xR S k u := by
  unfold iq
  split
  · split
    · rw [xR_uR, if_neg (by omega)]
    · exact yT_R hk (by omega)
  · rfl
theorem iq_W {t : Int32} {v f : Nat} {S : St} : xW (iq t v f S) = xW S := by
  unfold iq
  split
  · split <;> rfl
  · rfl
theorem lwa_e {a l : Nat} {x : Ltr} {k : Nat} (hk : k < 6) (e : x.1 = nI k) : lwa a (l, x) = if (if k = 0 ∨ k = 4 ∨ k = 5 then l % 16 else l / 16) = a then 1 else 0 := by
  unfold lwa larb
  have n : ∀ j, j < 6 → (nI k = nI j ↔ k = j) := fun j hj => nI_eq (by omega) (by omega)
  rw [show ((l, x) : Nat × Ltr).2.1 = x.1 from rfl, e]
  simp only [n 0 (by decide), n 4 (by decide), n 5 (by decide)]
set_option maxHeartbeats 1000000 in
theorem br_X {N A : Nat} {S : St} (h : Inv N A S) (h16 : N ≤ 16) (hA : A < 1048576) (hX : IX N S) {f g : Nat} (hf : f < N) (hg : g < N) (t : Int32) : IX N (br t N f g S) ∧ ∀ a, a < 16 → Ph a (br t N f g S) ≤ Ph a S := by
  unfold br
  cases hx : xL S (16 * f + g) with
  | nil => exact ⟨hX, fun a _ => Nat.le_refl _⟩
  | cons x r =>
    simp only []
    obtain ⟨hQ, hV, hK⟩ := hX
    obtain ⟨uf, ug⟩ := hK.lane h hf hg h16 (by rw [hx]; simp)
    obtain ⟨⟨k, hk, ek⟩, n, hn, en⟩ := (h.2.2.2.2.1 _ (show 16 * f + g < 256 by omega)).1 x (by rw [hx]; simp)
    have kk : x.1.toNatClampNeg = k := by rw [ek, nI_clamp (by omega)]
    rw [kk, en]
    obtain ⟨h1, p0, p5, pz⟩ := h.pop h16 hf hg hx
    have wl := wt_WL N k f g (nI n) (uL S (16 * f + g) r)
    have sm := wt_S N k f g (nI n) (uL S (16 * f + g) r)
    have w7 : ∀ b, xR (wt N k f g (nI n) (uL S (16 * f + g) r)) 7 b = xR S 7 b := fun b => wt_R (by decide) (by decide) (by decide) b
    have h2 := h1.reg sm wl.2
    have h3 := h2.clk h16 hA (g := g) (s := n) (by omega) hn
    have pay : ∀ a, phL a S = phL a (uL S (16 * f + g) r) + (if (if k = 0 ∨ k = 4 ∨ k = 5 then g else f) = a then 1 else 0) := fun a => by
      rw [phL_pop (show 16 * f + g < 256 by omega) hx, lwa_e hk ek, show (16 * f + g) % 16 = g by omega, show (16 * f + g) / 16 = f by omega]
    generalize hS2 : wt N k f g (nI n) (uL S (16 * f + g) r) = S2 at h2 h3 wl sm w7
    unfold rd
    simp only []
    have e2 : ∀ b u, eng S2 b u = eng S b u := fun b u => by
      unfold eng
      rw [sm.2 8 (by decide) (by decide), sm.2 9 (by decide) (by decide), sm.1]
      rfl
    have q2 : ∀ k, k < 11 → k ≠ 6 → ∀ i, xR S2 k i = xR S k i := fun k hk hk6 i => sm.2 k hk hk6 i
    generalize hS3 : (if nI n ≤ xR S2 1 g then S2 else uR S2 1 g (nI n)) = S3 at h3
    have r3 : ∀ k, k ≠ 1 → ∀ i, xR S3 k i = xR S2 k i := fun k hk i => by rw [← hS3]; exact clk_R hk
    have w3 : xW S3 = xW S2 := by rw [← hS3]; unfold xW; rw [clk_2]
    have l3 : xL S3 = xL S2 := by rw [← hS3]; unfold xL; rw [clk_2]
    have e3 : ∀ b u, eng S3 b u = eng S b u := fun b u => by
      rw [← e2]
      unfold eng
      rw [r3 8 (by decide), r3 9 (by decide), w3]
    have wS : xW S3 = xW S := by rw [w3, sm.1]; rfl
    have rS : ∀ k, k < 11 → k ≠ 6 → k ≠ 1 → ∀ i, xR S3 k i = xR S k i := fun k hk h6 h1 i => (r3 k h1 i).trans (q2 k hk h6 i)
    have lS : xL S3 = xL (uL S (16 * f + g) r) := l3.trans wl.2
    have r7 : ∀ i, xR S3 7 i = xR S 7 i := rS 7 (by decide) (by decide) (by decide)
    have L3 : LK S S3 := fun f' g' hf' hg' z e => by rw [lS]; exact LK.pop hx f' g' hf' hg' z e
    have U3 : ∀ {u}, Ub S u → Ub S3 u := fun z => by unfold Ub; rw [r7]; exact z
    have Q3 : IQ N S3 := hQ.cg wS (fun k b hk => rS k (by omega) (by omega) (by omega) b)
    have V3 : IV N S3 := hV.cg (fun k v hk => rS k (by omega) (by omega) (by omega) v)
    have P3 : ∀ a, Ph a S = Ph a S3 + (if (if k = 0 ∨ k = 4 ∨ k = 5 then g else f) = a then 1 else 0) := fun a => by
      have e1 : phB a S3 = phB a S := phB_c (fun k v hk => rS k (by omega) (by omega) (by omega) v)
      have e2 : phL a S3 = phL a (uL S (16 * f + g) r) := phL_c lS
      have := pay a
      unfold Ph
      omega
    have hW3 : ∀ w, w ∈ xW S3 g → w.1 < 16 ∧ Ub S3 w.1 := fun w hw => by
      rw [wS] at hw
      have := ((h.2.2.2.2.2.1 g (by omega)).1.2.2 w hw).1
      exact ⟨by omega, U3 (hK.wtr h h16 hg hw).1⟩
    have hF3 := h3.2.2.2.2.2.1 g (by omega)
    have G3 : xR S3 8 g = -1 ∨ ∃ y, y < 16 ∧ xR S3 8 g = nI y ∧ Ub S3 y := by
      rcases hF3.2.2 with z | ⟨y, z1, z2, _⟩
      · exact Or.inl z.1
      · exact Or.inr ⟨y, by omega, z2, U3 (hK.grd h h16 hg z1 (by rw [← rS 8 (by decide) (by decide) (by decide)]; exact z2)).1⟩
    have fin : ∀ {S4 : St}, IQ N S4 → IV N S4 → LK S3 S4 → (∀ i, xR S4 7 i = xR S3 7 i) → (∀ i, i < N → xR S3 7 i = 1 → xR S3 0 i = 0 → xR S4 0 i = 0) → (∀ i, xR S4 3 i = xR S3 3 i) → (∀ a, a < 16 → Ph a S4 ≤ Ph a S3 + (if (if k = 0 ∨ k = 4 ∨ k = 5 then g else f) = a then 1 else 0)) → IX N S4 ∧ ∀ a, a < 16 → Ph a S4 ≤ Ph a S := by
      intro S4 a1 a2 a3 a4 a5 a6 a7
      refine ⟨⟨a1, a2, hK.st h16 (fun i => (a4 i).trans (r7 i)) (fun i hi z1 z2 => a5 i hi (by rw [r7]; exact z1) (by rw [rS 0 (by decide) (by decide) (by decide)]; exact z2)) (fun u i hu hi _ z => by rw [a6, rS 3 (by decide) (by decide) (by decide)]; exact z) (L3.tr r7 a3)⟩, fun a ha => ?_⟩
      have := a7 a ha
      have := P3 a
      omega
    by_cases k0 : k = 0
    · rw [if_pos k0]
      subst k0
      have hn2 : f ∉ (xW S3 g).map Prod.fst := by
        have := p0 ek
        rw [← e3] at this
        unfold eng at this
        split at this
        · cases this
        · exact engW_none.mp this
      refine fin (Q3.at (rq_IQ h16 hf hn hF3.1 hn2 (Q3 g hg)) (fun b hb => rq_Wo hb) (fun k b hb hk => rq_R (Or.inl hb) (by omega))) (V3.cg (fun k v hk => rq_R (by omega) (by omega))) (LK.trq (by omega) (by omega) hW3 (U3 ug) (U3 uf) G3) (fun i => rq_R (by omega) (by decide)) (fun i _ _ z => by rw [rq_R (by omega) (by decide)]; exact z) (fun i => rq_R (by omega) (by decide)) (fun a _ => ?_)
      rw [if_pos (show (0 : Nat) = 0 ∨ (0 : Nat) = 4 ∨ (0 : Nat) = 5 by decide)]
      exact Nat.le_trans (rq_Ph h16 hg hf hF3.1 (by rcases G3 with z | ⟨y, z1, z2, _⟩; exact Or.inl z; exact Or.inr ⟨y, z1, z2⟩) (Q3 g hg)) (Nat.add_le_add_left (ite_le (fun z => z.symm)) _)
    · rw [if_neg k0]
      by_cases k4 : k = 4
      · rw [if_pos k4]
        subst k4
        refine fin (Q3.at (yl_IQ h16 hf hn hF3.1 (fun z => ?_) (Q3 g hg)) (fun b hb => yl_Wo hb) (fun k b hb hk => yl_R (Or.inl hb) (by omega))) (V3.cg (fun k v hk => yl_R (by omega) (by omega))) (LK.tyl (by omega) (by omega) hW3 (U3 ug) (U3 uf)) (fun i => yl_R (by omega) (by decide)) (fun i _ _ z => by rw [yl_R (by omega) (by decide)]; exact z) (fun i => yl_R (by omega) (by decide)) (fun a _ => ?_)
        · rcases hF3.2.2 with y | ⟨y, z1, z2, z3, _⟩
          · rw [y.1] at z; exact absurd z (m1_ne (by omega))
          · have : y = f := (nI_eq (by omega) (by omega)).mp (z2.symm.trans z)
            rw [← this]; exact z3
        · rw [if_pos (show (4 : Nat) = 0 ∨ (4 : Nat) = 4 ∨ (4 : Nat) = 5 by decide)]
          exact Nat.le_trans (yl_Ph h16 hg hf hF3.1) (Nat.add_le_add_left (ite_le (fun z => z.symm)) _)
      · rw [if_neg k4]
        by_cases k5 : k = 5
        · rw [if_pos k5]
          subst k5
          refine fin (Q3.at (rl_IQ hF3.1 (Q3 g hg)) (fun b hb => rl_Wo hb) (fun k b hb hk => rl_R (Or.inl hb) (by omega))) (V3.cg (fun k v hk => rl_R (by omega) (by omega))) (LK.trl (by omega) hW3 (U3 ug)) (fun i => rl_R (by omega) (by decide)) (fun i _ _ z => by rw [rl_R (by omega) (by decide)]; exact z) (fun i => rl_R (by omega) (by decide)) (fun a _ => ?_)
          rw [if_pos (show (5 : Nat) = 0 ∨ (5 : Nat) = 4 ∨ (5 : Nat) = 5 by decide)]
          exact Nat.le_trans (rl_Ph h16 hg hF3.1) (Nat.add_le_add_left (ite_le (fun z => z.symm)) _)
        · rw [if_neg k5]
          have ka : ∀ a, (if (if k = 0 ∨ k = 4 ∨ k = 5 then g else f) = a then 1 else 0 : Nat) = if a = f then 1 else 0 := fun a => by
            rw [if_neg (show ¬ (k = 0 ∨ k = 4 ∨ k = 5) by omega)]
            by_cases c : f = a
            · rw [if_pos c, if_pos c.symm]
            · rw [if_neg c, if_neg (fun z => c z.symm)]
          split
          · rename_i c
            have c0 : xR S 0 g = 1 := by rw [← rS 0 (by decide) (by decide) (by decide)]; exact c.1
            have ud : ∀ i, i < N → bt (xR S3 5 g) i = true → Ub S3 i := fun i hi hb => by
              rw [rS 5 (by decide) (by decide) (by decide)] at hb
              exact U3 (hK.use hg hi ((h.2.2.1 g (by omega) c0 i (by omega)).2 hb))
            have z0 : ∀ i, i < N → xR S3 7 i = 1 → xR S3 0 i = 0 → i ≠ g := fun i _ _ z e => by
              rw [e, c.1] at z; exact absurd z (by decide)
            split
            · refine fin (Q3.cg gr_WL.1 (fun k b hk => gr_R (by omega) (by omega))) (V3.tgr h16 c.1 t) (LK.eq gr_WL.2) (fun i => gr_R (by decide) (by omega)) (fun i hi q z => by rw [gr_R (by decide) (Or.inl (z0 i hi q z))]; exact z) (fun i => gr_R (by decide) (by omega)) (fun a ha => ?_)
              rw [ka]; exact gr_Ph (by omega) (by omega) ha
            · split
              · refine fin (Q3.cg fd_W (fun k b hk => fd_R (by omega) (by omega))) ?_ (LK.tfd h16 (by omega) (U3 ug) ud) (fun i => fd_R (by decide) (by omega)) (fun i _ _ z => by rw [fd_R (by decide) (by omega)]; exact z) (fun i => fd_R (by decide) (by omega)) (fun a ha => ?_)
                · intro u hu z2 i hi hb
                  by_cases cu : u = g
                  · subst cu
                    rw [fd_R (by decide) (by omega), c.1] at z2
                    exact absurd z2 (by decide)
                  · rw [fd_R (by decide) (by omega)] at z2 hb ⊢
                    exact V3 u hu z2 i hi hb
                    
                · exact Nat.le_trans (fd_Ph h16 (by omega) ha) (Nat.le_add_right _ _)
              · refine fin (Q3.cg iq_W (fun k b hk => iq_R (by omega) (by omega))) ?_ (LK.tiq (by omega) (by omega) (U3 ug) (U3 uf)) (fun i => iq_R (by decide) (by omega)) (fun i _ _ z => by rw [iq_R (by decide) (by omega)]; exact z) (fun i => iq_R (by decide) (by omega)) (fun a ha => ?_)
                · intro u hu z2 i hi hb
                  by_cases cu : u = g
                  · subst cu
                    rw [iq_R (by decide) (by omega), c.1] at z2
                    exact absurd z2 (by decide)
                  · rw [iq_R (by decide) (by omega)] at z2 hb ⊢
                    exact V3 u hu z2 i hi hb
                · rw [ka]; exact iq_Ph (by omega) (by omega) ha
          · exact fin Q3 V3 (LK.rf _) (fun _ => rfl) (fun _ _ _ z => z) (fun _ => rfl) (fun a _ => Nat.le_add_right _ _)
/-! ===== of which nodes a quorum is: none broken, none behind the last ===== -/
theorem bk_b {S : St} (h7 : ∀ v, v < 16 → xR S 7 v = 0 ∨ xR S 7 v = 1) : ∀ (d i : Nat) (x : Int32) (u : Nat), i + d ≤ 16 → u < 32 → bt (bk i d S x) u = (bt x u || decide (i ≤ u ∧ u < i + d ∧ xR S 7 u = 1)) := by
  intro d
  induction d with
  | zero =>
    intro i x u hi hu
    rw [show decide (i ≤ u ∧ u < i + 0 ∧ xR S 7 u = 1) = false from decide_eq_false (by omega), Bool.or_false]; rfl
  | succ d ih =>
    intro i x u hi hu
    unfold bk
    rw [List.range'_succ, List.foldl_cons]
    have := ih (i + 1) (x ||| (xR S 7 i <<< (nI i &&& 31))) u (by omega) hu
    unfold bk at this
    rw [this, b_or, b_shl i (by omega) _ hu, Bool.or_assoc]
    congr 1
    rcases h7 i (by omega) with z | z
    · rw [z, b_0, Bool.and_false, Bool.false_or]
      apply decide_eq_decide.mpr
      constructor
      · rintro ⟨a, b, c⟩; exact ⟨by omega, by omega, c⟩
      · rintro ⟨a, b, c⟩
        by_cases e : i = u
        · rw [← e, z] at c; exact absurd c (by decide)
        · exact ⟨by omega, by omega, c⟩
    · rw [z]
      by_cases e : i = u
      · subst e
        rw [Nat.sub_self, b_1 0 (by decide)]
        simp [z]
      · have e1 : (decide (i ≤ u) && bt 1 (u - i)) = false := by
          by_cases c : i ≤ u
          · rw [b_1 (u - i) (by omega)]
            simp; omega
          · simp [c]
        rw [e1, Bool.false_or]
        apply decide_eq_decide.mpr
        constructor
        · rintro ⟨a, b, c⟩; exact ⟨by omega, by omega, c⟩
        · rintro ⟨a, b, c⟩; exact ⟨by omega, by omega, c⟩
theorem bkm_b {N : Nat} {S : St} (h16 : N ≤ 16) (h7 : ∀ v, v < 16 → xR S 7 v = 0 ∨ xR S 7 v = 1) {u : Nat} (hu : u < 32) : bt (bkm N S) u = decide (u < N ∧ xR S 7 u = 1) := by
  unfold bkm
  rw [bk_b h7 N 0 0 u (by omega) hu, b_0, Bool.false_or]
  apply decide_eq_decide.mpr
  constructor
  · rintro ⟨a, b, c⟩; exact ⟨by omega, c⟩
  · rintro ⟨b, c⟩; exact ⟨by omega, by omega, c⟩
/-- all bits below N, none of b's -/
def Of (N : Nat) (b x : Int32) : Prop := ∀ i, i < 32 → bt x i = true → i < N ∧ bt b i = false
theorem Of.z (N : Nat) (b : Int32) : Of N b 0 := fun i _ h => by rw [b_0] at h; cases h
theorem Of.one {N : Nat} {b : Int32} {v : Nat} (hv : v < N) (h16 : N ≤ 16) (hb : bt b v = false) : Of N b ((1 : Int32) <<< (nI v &&& 31)) := fun i hi h => by
  rw [b_one (by omega) hi] at h
  have := of_decide_eq_true h
  subst this
  exact ⟨hv, hb⟩
theorem Of.or {N : Nat} {b x y : Int32} (h : Of N b x) (h' : Of N b y) : Of N b (x ||| y) := fun i hi q => by
  rw [b_or] at q
  rcases Bool.or_eq_true _ _ |>.mp q with q | q
  · exact h i hi q
  · exact h' i hi q
theorem wh_of {N : Nat} (h16 : N ≤ 16) (hN : N % 2 = 1) (b : Int32) : ∀ (d v : Nat), v + d = N → v < N → Of N b (wh N b v) := by
  intro d
  induction d using Nat.strongRecOn with
  | ind d ih =>
    intro v hv hvN
    have hb : bt b v = true ∨ bt b v = false := by cases bt b v <;> simp
    rw [wh_e b hvN hN]
    by_cases c : 2 * v + 1 < N
    · have hl : Of N b (wh N b (2 * v + 1)) := ih (N - (2 * v + 1)) (by omega) (2 * v + 1) (by omega) c
      have hr : Of N b (wh N b (2 * v + 2)) := ih (N - (2 * v + 2)) (by omega) (2 * v + 2) (by omega) (by omega)
      simp only [c, if_true]
      split
      · split
        · exact Of.z N b
        · split
          · exact Of.z N b
          · exact hl.or hr
      · rename_i q
        have qf : bt b v = false := hb.resolve_left q
        split
        · split
          · exact Of.z N b
          · exact hr.or (Of.one hvN h16 qf)
        · exact hl.or (Of.one hvN h16 qf)
    · simp only [c, if_false]
      split
      · simp; exact Of.z N b
      · rename_i q
        exact Of.one hvN h16 (hb.resolve_left q)
def BI (N : Nat) (S : St) : Prop := ∀ v, v < N → ∀ i, N ≤ i → i < 32 → bt (xR S 17 v) i = false
theorem base_of {N : Nat} {S : St} (hB : BI N S) {v : Nat} (hv : v < N) {b : Int32} (h : xR S 17 v &&& b = 0) : Of N b (xR S 17 v) := fun i hi q => by
  have q1 := bt_z.mp h i hi
  rw [b_and, q, Bool.true_and] at q1
  refine ⟨?_, q1⟩
  apply Decidable.byContradiction
  intro c
  rw [hB v hv i (by omega) hi] at q
  cases q
theorem fub_of {N : Nat} {S : St} (hB : BI N S) (b : Int32) : Of N b (fub 0 N S b) := by
  unfold fub
  cases h : (List.range' 0 N).find? (fun w => decide (xR S 17 w &&& b = 0)) with
  | none => exact Of.z N b
  | some w =>
    have h1 := List.find?_some h
    have h2 := List.mem_of_find?_eq_some h
    have : w < N := by
      rw [List.mem_range'_1] at h2; omega
    exact base_of hB this (of_decide_eq_true h1)
theorem qby_of {N : Nat} {S : St} (hB : BI N S) (h16 : N ≤ 16) (h0 : 0 < N) (ht : xR S 20 1 = 1 → N % 2 = 1) {v : Nat} (hv : v < N) (b : Int32) : Of N b (qby N S v b) := by
  unfold qby
  split
  · rename_i h
    exact base_of hB hv h
  · split
    · rename_i h
      exact wh_of h16 (ht h) b N 0 (by omega) h0
    · exact fub_of hB b
theorem qm_hi {N : Nat} {S : St} (hB : BI N S) (h16 : N ≤ 16) (ht : xR S 20 1 = 1 → N % 2 = 1) : ∀ v, v < N → ∀ i, N ≤ i → i < 32 → bt (qm N S v) i = false := by
  intro v hv i hi hi2
  cases h : bt (qm N S v) i with
  | false => rfl
  | true =>
    have := (qby_of hB h16 (by omega) ht hv (bkm N S) i hi2 h).1
    omega
theorem qm_ub {N : Nat} {S : St} (hB : BI N S) (h16 : N ≤ 16) (ht : xR S 20 1 = 1 → N % 2 = 1) (h7 : ∀ v, v < 16 → xR S 7 v = 0 ∨ xR S 7 v = 1) {v : Nat} (hv : v < N) : ∀ i, i < N → bt (qm N S v) i = true → Ub S i := by
  intro i hi h q
  have := (qby_of hB h16 (by omega) ht hv (bkm N S) i (by omega) h).2
  rw [bkm_b h16 h7 (by omega), decide_eq_false_iff_not] at this
  exact this ⟨hi, q⟩
/-! ===== leaving, asking: what they cost ===== -/
theorem lv_phv {t : Int32} {N v a : Nat} {S : St} : phv (lv t N v S) a v = 0 := by
  unfold phv
  have e : ∀ k, 3 ≤ k → k ≤ 6 → xR (lv t N v S) k v = 0 := fun k h1 h2 => by rw [lv_R (by omega), if_pos ⟨rfl, Or.inr ⟨h1, h2⟩⟩]
  rw [e 4 (by decide) (by decide), e 3 (by decide) (by decide), e 5 (by decide) (by decide), b_0]
  simp
theorem lv_phL {t : Int32} {N v a : Nat} {S : St} (h16 : N ≤ 16) (hv : v < 16) : phL a (lv t N v S) = phL a S + (if a < N ∧ bt (xR S 3 v) a = true then 1 else 0) := by
  unfold lv
  rw [phL_sA h16 hv (by omega), phL_c (S' := rst v S) (S := S) rfl]
theorem lv_W {t : Int32} {N v : Nat} {S : St} : xW (lv t N v S) = xW S := by unfold lv; rw [sA_W]; rfl
theorem lv_X {N A : Nat} {S : St} (hI : Inv N A S) (h16 : N ≤ 16) (hX : IX N S) {v : Nat} (hv : v < N) (h0 : xR S 0 v ≠ 0) (t : Int32) : IX N (lv t N v S) ∧ ∀ a, a < 16 → Ph a (lv t N v S) ≤ Ph a S + (if xR S 0 v = 2 then 0 else 1) := by
  obtain ⟨hQ, hV, hK⟩ := hX
  refine ⟨⟨hQ.cg lv_W (fun k b hk => by rw [lv_R (by omega), if_neg (by omega)]), ?_, ?_⟩, fun a ha => ?_⟩
  · intro u hu h2 i hi hb
    by_cases c : u = v
    · subst c
      rw [lv_R (by decide), if_pos ⟨rfl, by omega⟩] at h2
      exact absurd h2 (by decide)
    · rw [lv_R (by decide), if_neg (by omega)] at h2 hb ⊢
      exact hV u hu h2 i hi hb
  · refine hK.st h16 (fun x => by rw [lv_R (by decide), if_neg (by omega)]) (fun x hx _ z => ?_) (fun u x hu hx _ z => ?_) ?_
    · rw [lv_R (by decide)]; split
      · rfl
      · exact z
    · rw [lv_R (by decide)]; split
      · exact b_0 _
      · exact z
    · have uv : Ub S v := fun q => h0 (hK v hv q).1
      have r7 : ∀ x, xR (rst v S) 7 x = xR S 7 x := fun x => by rw [rst_R, if_neg (by omega)]
      refine LK.tr (S' := rst v S) (LK.eq rfl) r7 ?_
      exact LK.tsA h16 (by omega) (by unfold Ub; rw [r7]; exact uv) (fun i hi hb => by unfold Ub; rw [r7]; exact hK.use hv hi hb)
  · refine Ph_at (v := v) (by omega) (fun k u hu hk => by rw [lv_R (by omega), if_neg (by omega)]) (d := if a < N ∧ bt (xR S 3 v) a = true then 1 else 0) (Nat.le_of_eq (lv_phL h16 (by omega))) ?_
    rw [lv_phv]
    by_cases c : xR S 0 v = 2
    · rw [if_pos c]
      unfold phv
      have : (if a < N ∧ bt (xR S 3 v) a = true then 1 else 0 : Nat) ≤ if bt (xR S 4 v) a = true ∧ bt (xR S 3 v) a = true then 1 else 0 := ite_le (fun z => ⟨hV v hv c a z.1 z.2, z.2⟩)
      omega
    · rw [if_neg c]
      have : (if a < N ∧ bt (xR S 3 v) a = true then 1 else 0 : Nat) ≤ 1 := by split <;> omega
      omega
theorem ak_phv {t : Int32} {N v a : Nat} {S : St} : phv (ak t N v S) a v = 0 := by
  unfold phv
  have e4 : xR (ak t N v S) 4 v = 0 := by rw [ak_R (by decide), if_pos rfl]; rfl
  have e5 : xR (ak t N v S) 5 v = 0 := by rw [ak_R (by decide), if_pos rfl]; rfl
  rw [e4, e5, b_0]
  simp
theorem ak_phL {t : Int32} {N v a : Nat} {S : St} (h16 : N ≤ 16) (hv : v < 16) : phL a (ak t N v S) = phL a S + (if a < N ∧ bt (qm N S v) a = true then 1 else 0) := by
  unfold ak
  simp only []
  rw [phL_sA h16 hv (by omega)]
  rfl
theorem ak_Ro {t : Int32} {N v : Nat} {S : St} {k u : Nat} (hk : k ≠ 16) (hu : u ≠ v) : xR (ak t N v S) k u = xR S k u := by rw [ak_R hk, if_neg hu]
theorem ak_Rk {t : Int32} {N v : Nat} {S : St} {k u : Nat} (hk : 7 ≤ k ∧ k ≠ 13 ∧ k ≠ 14 ∧ k ≠ 16) : xR (ak t N v S) k u = xR S k u := by
  rw [ak_R (by omega)]
  by_cases c : u = v
  · rw [if_pos c, if_neg (by omega), if_neg (by omega), if_neg (by omega), if_neg (by omega), if_neg (by omega), if_neg (by omega), if_neg (by omega), if_neg (by omega), if_neg (by omega)]
  · rw [if_neg c]
theorem ak_X {N : Nat} {S : St} (h16 : N ≤ 16) (hX : IX N S) {v : Nat} (hv : v < N) (h7 : Ub S v) (hU : ∀ i, i < N → bt (qm N S v) i = true → Ub S i) (t : Int32) : IX N (ak t N v S) ∧ ∀ a, a < 16 → Ph a (ak t N v S) ≤ Ph a S + (if a < N ∧ bt (qm N S v) a = true then 1 else 0) := by
  obtain ⟨hQ, hV, hK⟩ := hX
  refine ⟨⟨hQ.cg ak_W (fun k b hk => ak_Rk (by omega)), ?_, ?_⟩, fun a ha => ?_⟩
  · intro u hu h2 i hi hb
    by_cases c : u = v
    · subst c
      have : xR (ak t N u S) 0 u = 1 := by rw [ak_R (by decide), if_pos rfl]; rfl
      rw [this] at h2
      exact absurd h2 (by decide)
    · rw [ak_Ro (by decide) c] at h2 hb ⊢
      exact hV u hu h2 i hi hb
  · refine hK.st h16 (fun x => ak_Rk (by omega)) (fun x hx q z => ?_) (fun u x hu hx q z => ?_) ?_
    · by_cases c : x = v
      · subst c; exact absurd q h7
      · rw [ak_Ro (by decide) c]; exact z
    · by_cases c : u = v
      · subst c
        have : xR (ak t N u S) 3 u = qm N S u := by rw [ak_R (by decide), if_pos rfl]; rfl
        rw [this]
        cases hb : bt (qm N S u) x with
        | false => rfl
        | true => exact absurd q (hU x hx hb)
      · rw [ak_Ro (by decide) c]; exact z
    · intro f g hf hg q e
      rw [ak_L h16 (by omega) (by omega), if_neg]
      · exact e
      · rintro ⟨z1, z2, z3⟩
        have e1 : f = v := by omega
        have e2 : (16 * f + g) % 16 = g := by omega
        rw [e2] at z2 z3
        subst e1
        exact q.elim h7 (hU g z2 z3)
  · refine Ph_at (v := v) (by omega) (fun k u hu hk => ak_Ro (by omega) hu) (d := if a < N ∧ bt (qm N S v) a = true then 1 else 0) (Nat.le_of_eq (ak_phL h16 (by omega))) ?_
    rw [ak_phv]
    omega
/-! ===== alike states pay alike ===== -/
theorem SE.tphv {S S' : St} (h : SE S S') (a : Nat) {v : Nat} (hv : v < 16) : phv S a v = phv S' a v := by
  unfold phv
  rw [h.1 3 v (by omega) hv, h.1 4 v (by omega) hv, h.1 5 v (by omega) hv]
def lqa (a : Nat) (q : Nat × (Int32 × Int32)) : Nat := if larb q.1 q.2.1 = a then 1 else 0
theorem lq_e (S : St) : (fl S).map (fun q => ((q.1, lk q.2) : Nat × (Int32 × Int32))) = (List.range 256).flatMap fun l => ((xL S l).map lk).map fun x => (l, x) := by
  unfold fl
  rw [List.map_flatMap]
  apply fm_cg
  intro l _
  rw [List.map_map, List.map_map]
  rfl
theorem SE.tphL {S S' : St} (h : SE S S') (a : Nat) : phL a S = phL a S' := by
  have e : ∀ T : St, phL a T = (((fl T).map (fun q => ((q.1, lk q.2) : Nat × (Int32 × Int32)))).map (lqa a)).sum := fun T => by
    unfold phL
    rw [List.map_map]
    rfl
  rw [e, e, lq_e, lq_e]
  congr 2
  apply fm_cg
  intro l hl
  rw [h.2.2 l (List.mem_range.mp hl)]
theorem SE.tPh {S S' : St} (h : SE S S') (a : Nat) : Ph a S = Ph a S' := by
  unfold Ph phB
  rw [h.tphL a, smN_c 16 (fun v hv => h.tphv a hv)]
def PhS (S : St) : Nat := smN (fun a => Ph a S) 16
theorem SE.tPhS {S S' : St} (h : SE S S') : PhS S = PhS S' := smN_c 16 (fun a _ => h.tPh a)
theorem fl_PhS (S : St) : (fl S).length ≤ PhS S := fl_Ph S
theorem SE.tnil {S S' : St} (h : SE S S') {l : Nat} (hl : l < 256) (e : xL S l = []) : xL S' l = [] := by
  have := h.2.2 l hl
  rw [e] at this
  cases q : xL S' l with
  | nil => rfl
  | cons x r => rw [q] at this; cases this
theorem SE.tix {S S' : St} (h : SE S S') {N : Nat} (h16 : N ≤ 16) (hX : IX N S) : IX N S' := by
  obtain ⟨hQ, hV, hK⟩ := hX
  refine ⟨fun a ha => (hQ a ha).cg (h.2.1 a (by omega)).symm (h.1 8 a (by omega) (by omega)).symm (h.1 9 a (by omega) (by omega)).symm (h.1 10 a (by omega) (by omega)).symm, fun v hv => ?_, fun x hx => ?_⟩
  · rw [← h.1 0 v (by omega) (by omega), ← h.1 3 v (by omega) (by omega), ← h.1 4 v (by omega) (by omega)]
    exact hV v hv
  · rw [← h.1 7 x (by omega) (by omega), ← h.1 0 x (by omega) (by omega)]
    intro q
    obtain ⟨a, b, c⟩ := hK x hx q
    exact ⟨a, fun u hu => by rw [← h.1 3 u (by omega) (by omega)]; exact b u hu, fun u hu => ⟨h.tnil (by omega) (c u hu).1, h.tnil (by omega) (c u hu).2⟩⟩
/-- the quorums are of unbroken nodes -/
def QU (N : Nat) (S : St) : Prop := ∀ v, v < N → ∀ i, i < N → bt (qm N S v) i = true → Ub S i
theorem QU.k {N : Nat} {S S' : St} (h : QU N S) (q : Qk S S') : QU N S' := fun v hv i hi hb => by
  unfold Ub
  rw [q 7 (by omega)]
  exact h v hv i hi (by rw [← q.m N v]; exact hb)
theorem smN_lt {f : Nat → Nat} (N : Nat) (b : Nat → Bool) : ∀ n, smN (fun a => if a < N ∧ b a = true then 1 else 0) n ≤ min n N := by
  intro n
  induction n with
  | zero => exact Nat.zero_le _
  | succ n ih =>
    show smN _ n + (if n < N ∧ b n = true then 1 else 0) ≤ _
    by_cases c : n < N ∧ b n = true
    · rw [if_pos c]; omega
    · rw [if_neg c]; omega
/-- one move more, alike at each arbiter -/
theorem PhS_le {S S' : St} {e : Nat → Nat} (h : ∀ a, a < 16 → Ph a S' ≤ Ph a S + e a) : PhS S' ≤ PhS S + smN e 16 := by
  unfold PhS
  rw [← smN_add]
  exact smN_le 16 h
/-! ===== of the nodes that there are not, nothing moves ===== -/
def Kn (N : Nat) (S S' : St) : Prop := ∀ k, k < 11 → ∀ i, N ≤ i → xR S' k i = xR S k i
theorem Kn.rf (N : Nat) (S : St) : Kn N S S := fun _ _ _ _ => rfl
theorem Kn.tr {N : Nat} {S S' S'' : St} (h : Kn N S S') (h' : Kn N S' S'') : Kn N S S'' := fun k hk i hi => (h' k hk i hi).trans (h k hk i hi)
theorem Kn.eq {N : Nat} {S S' S'' : St} (h : Kn N S S') (e : xR S'' = xR S') : Kn N S S'' := fun k hk i hi => by rw [e]; exact h k hk i hi
theorem Kn.r {N : Nat} (S : St) {k i : Nat} (x : Int32) (h : i < N ∨ 11 ≤ k) : Kn N S (uR S k i x) := fun k' hk' i' hi' => by rw [xR_uR, if_neg (by omega)]
theorem Kn.tsn {N : Nat} (S : St) (t : Int32) (k f g : Nat) (s : Int32) : Kn N S (sn t k f g s S) := fun k' hk' i' _ => sn_R _ _ _ _ _ _ (by omega)
theorem Kn.tsAl {N : Nat} (t : Int32) (k f : Nat) (set s : Int32) (ws : List Nat) (S : St) : Kn N S (sAl t k f set s ws S) := fun k' hk' i' _ => sAl_R _ _ _ _ _ (by omega) _ _
theorem Kn.tW {N : Nat} (S : St) (a : Nat) (w : List Wtr) : Kn N S (uW S a w) := fun _ _ _ _ => rfl
section
variable {N : Nat}
theorem Kn.tnob (S : St) {a : Nat} (h : a < N) : Kn N S (nob a S) := ((Kn.r S (k := 8) _ (Or.inl h)).tr (Kn.r _ (k := 9) _ (Or.inl h))).tr (Kn.r _ (k := 10) _ (Or.inl h))
theorem Kn.tgF (S : St) (t : Int32) {a : Nat} (h : a < N) : Kn N S (gF t a S) := by
  unfold gF
  split
  · exact Kn.tnob S h
  · exact ((((Kn.tnob S h).tr (Kn.r _ (k := 8) _ (Or.inl h))).tr (Kn.r _ (k := 9) _ (Or.inl h))).tr (Kn.tW _ _ _)).tr (Kn.tsn _ _ _ _ _ _)
theorem Kn.trq3 (S : St) (t : Int32) {a : Nat} (h : a < N) : Kn N S (rq3 t a S) := by
  unfold rq3
  split
  · exact Kn.rf N S
  · exact (Kn.r S (k := 10) _ (Or.inl h)).tr (Kn.tsn _ _ _ _ _ _)
theorem Kn.trq2 (S : St) (t : Int32) (a : Nat) (old : List Wtr) : Kn N S (rq2 t a old S) := by
  cases old with
  | nil => exact Kn.rf N S
  | cons w r =>
    show Kn N S (if ahd w.2 (nI w.1) (xR S 9 a) (xR S 8 a) then _ else S)
    split
    · exact Kn.tsn _ _ _ _ _ _
    · exact Kn.rf N S
theorem Kn.trq (S : St) (t : Int32) {a : Nat} (v : Nat) (s : Int32) (h : a < N) : Kn N S (rq t a v s S) := by
  unfold rq
  split
  · exact (Kn.tW S a _).tr (Kn.tgF _ _ h)
  · split
    · exact ((Kn.tW S a _).tr (Kn.trq2 _ _ _ _)).tr (Kn.trq3 _ _ h)
    · exact (Kn.tW S a _).tr (Kn.tsn _ _ _ _ _ _)
theorem Kn.tyl (S : St) (t : Int32) {a : Nat} (v : Nat) (s : Int32) (h : a < N) : Kn N S (yl t a v s S) := by
  unfold yl
  split
  · exact (Kn.tW S a _).tr (Kn.tgF _ _ h)
  · exact Kn.rf N S
theorem Kn.trl (S : St) (t : Int32) {a : Nat} (v : Nat) (s : Int32) (h : a < N) : Kn N S (rl t a v s S) := by
  unfold rl
  split
  · exact Kn.tgF _ _ h
  · exact Kn.tW S a _
theorem Kn.tyT (S : St) (t : Int32) {v : Nat} (a : Nat) (h : v < N) : Kn N S (yT t v a S) := by
  unfold yT
  simp only []
  exact ((Kn.tsn S t 4 v a _).tr (Kn.r _ (k := 4) _ (Or.inl h))).tr (Kn.r _ (k := 6) _ (Or.inl h))
theorem Kn.tfdl (t : Int32) {v : Nat} (d : Int32) (h : v < N) : ∀ (ws : List Nat) (S : St), Kn N S (fdl t v d ws S) := by
  intro ws
  induction ws with
  | nil => intro S; exact Kn.rf N S
  | cons w ws ih =>
    intro S
    have e : fdl t v d (w :: ws) S = fdl t v d ws (if bt d w then yT t v w S else S) := by
      unfold fdl
      rw [List.foldl_cons]
    rw [e]
    refine Kn.tr ?_ (ih _)
    split
    · exact Kn.tyT S t w h
    · exact Kn.rf N S
theorem Kn.tfd (S : St) (t : Int32) {v : Nat} (a : Nat) (h : v < N) : Kn N S (fd t N v a S) := by
  unfold fd
  exact ((Kn.r S (k := 6) _ (Or.inl h)).tr (Kn.tfdl _ _ h _ _)).tr (Kn.r _ (k := 5) _ (Or.inl h))
theorem Kn.tiq (S : St) (t : Int32) {v : Nat} (a : Nat) (h : v < N) : Kn N S (iq t v a S) := by
  unfold iq
  split
  · split
    · exact Kn.r S (k := 5) _ (Or.inl h)
    · exact Kn.tyT S t a h
  · exact Kn.rf N S
theorem Kn.ten (S : St) (t : Int32) {v : Nat} (h : v < N) : Kn N S (en t N v S) := fun k hk i hi => by
  rw [en_R hk, if_neg (by omega), if_neg (by omega)]
theorem Kn.tgr (S : St) (t : Int32) {v : Nat} (a : Nat) (h : v < N) : Kn N S (gr t N v a S) := by
  unfold gr
  simp only []
  have k : Kn N S (uR (uR (uR S 4 v (bon (xR S 4 v) a)) 5 v (bof (xR S 5 v) a)) 6 v (bof (xR S 6 v) a)) :=
    ((Kn.r S (k := 4) _ (Or.inl h)).tr (Kn.r _ (k := 5) _ (Or.inl h))).tr (Kn.r _ (k := 6) _ (Or.inl h))
  split
  · exact k.tr (Kn.ten _ _ h)
  · exact k
theorem Kn.trd (S : St) (t : Int32) (k f : Nat) {g : Nat} (s : Int32) (h : g < N) : Kn N S (rd t N k f g s S) := by
  unfold rd
  simp only []
  have h1 : Kn N S (if s ≤ xR S 1 g then S else uR S 1 g s) := by
    split
    · exact Kn.rf N S
    · exact Kn.r S (k := 1) _ (Or.inl h)
  generalize (if s ≤ xR S 1 g then S else uR S 1 g s) = S1 at h1 ⊢
  refine Kn.tr h1 ?_
  split
  · exact Kn.trq _ _ _ _ h
  · split
    · exact Kn.tyl _ _ _ _ h
    · split
      · exact Kn.trl _ _ _ _ h
      · split
        · split
          · exact Kn.tgr _ _ _ h
          · split
            · exact Kn.tfd _ _ _ h
            · exact Kn.tiq _ _ _ h
        · exact Kn.rf N _
theorem Kn.tbr (S : St) (t : Int32) (f : Nat) {g : Nat} (h : g < N) : Kn N S (br t N f g S) := by
  unfold br
  split
  · exact Kn.rf N S
  · have w : ∀ r k s, Kn N S (wt N k f g s (uL S (16 * f + g) r)) := fun r k s k' hk' i hi => wt_R (by omega) (by omega) (by omega) i
    exact (w _ _ _).tr (Kn.trd _ _ _ _ _ h)
theorem Kn.tlv (S : St) (t : Int32) {v : Nat} (h : v < N) : Kn N S (lv t N v S) := fun k hk i hi => by
  rw [lv_R (by omega), if_neg (by omega)]
theorem Kn.tak (S : St) (t : Int32) {v : Nat} (h : v < N) : Kn N S (ak t N v S) := fun k hk i hi => by
  rw [ak_R (by omega), if_neg (by omega)]
end
/-- a move of a search -/
def Mok (N c : Nat) (S : St) : Prop := (c < 256 ∧ c / 16 < N ∧ c % 16 < N) ∨ (256 ≤ c ∧ c < 272 ∧ c - 256 < N ∧ xR S 0 (c - 256) = 2) ∨ (272 ≤ c ∧ c - 272 < N ∧ xR S 0 (c - 272) = 0 ∧ xR S 7 (c - 272) = 0)
theorem mvl_ok {N A : Nat} {S : St} (hI : Inv N A S) (h16 : N ≤ 16) {ask : Int32} {sn : Nat → Int32} {c : Nat} (h : c ∈ mvl N S ask sn) : Mok N c S := by
  unfold mvl at h
  rcases List.mem_append.mp h with h | h
  · have : c ∈ mv0 N S := h
    rcases mv0_in hI h16 this with ⟨a, b, d, _⟩ | z
    · exact Or.inl ⟨a, b, d⟩
    · exact Or.inr (Or.inl z)
  · obtain ⟨v, hv, rfl⟩ := List.mem_map.mp h
    obtain ⟨z1, _, z3, _⟩ := asks_in hv
    refine Or.inr (Or.inr ⟨by omega, by omega, ?_⟩)
    rw [show 272 + v - 272 = v by omega]
    unfold mayA at z3
    exact ⟨of_decide_eq_true (Bool.and_eq_true _ _ |>.mp z3).1, of_decide_eq_true (Bool.and_eq_true _ _ |>.mp (Bool.and_eq_true _ _ |>.mp z3).2).1⟩
/-- what holds of a state d moves from S0 -/
def GS (N A P : Nat) (S0 S : St) (d : Nat) : Prop := Inv N (A + d) S ∧ (IX N S ∧ QU N S ∧ PhS S ≤ P + N * d) ∧ Qk S0 S ∧ Kn N S0 S
theorem dm_1 {t : Int32} {N c : Nat} {S : St} (h : c < 256) : dm t N c S = br t N (c / 16) (c % 16) S := by unfold dm; rw [if_pos h]
theorem dm_2 {t : Int32} {N c : Nat} {S : St} (h : 256 ≤ c) (h2 : c < 272) : dm t N c S = lv t N (c - 256) S := by unfold dm; rw [if_neg (by omega), if_pos h2]
theorem dm_3 {t : Int32} {N c : Nat} {S : St} (h : 272 ≤ c) : dm t N c S = ak t N (c - 272) S := by unfold dm; rw [if_neg (by omega), if_neg (by omega)]
theorem GS.mv {N A P d c : Nat} {S0 S : St} (h : GS N A P S0 S d) (h2 : 2 ≤ N) (h16 : N ≤ 16) (hA : A + d + 1 < 1048576) (hQ : ∀ v, v < N → ∀ i, N ≤ i → i < 32 → bt (qm N S0 v) i = false) (hc : Mok N c S) (t : Int32) : GS N A P S0 (dm t N c S) (d + 1) := by
  obtain ⟨hI, ⟨hX, hU, hP⟩, hq, hk⟩ := h
  have ad : ∀ x, x ≤ P + N * d + N → x ≤ P + N * (d + 1) := fun x hx => by rw [Nat.mul_succ]; omega
  rcases hc with ⟨h1, h2', h3⟩ | ⟨h1, h2', h3, h4⟩ | ⟨h1, h2', h3, h5⟩
  · rw [dm_1 h1]
    obtain ⟨x1, x2⟩ := br_X hI h16 (by omega) hX h2' h3 t
    have x3 := PhS_le (e := fun _ => 0) (fun a ha => x2 a ha)
    rw [smN_k] at x3
    have kk : Qk S (br t N (c / 16) (c % 16) S) := fun k z i => (Kq.tbr S t N (c / 16) (c % 16)).1 k i z
    exact ⟨(hI.tbr h16 (by omega) h2' h3 t).mo (by omega), ⟨x1, hU.k kk, ad _ (by omega)⟩, hq.tr kk, hk.tr (Kn.tbr S t _ h3)⟩
  · rw [dm_2 h1 h2']
    obtain ⟨x1, x2⟩ := lv_X hI h16 hX h3 (by rw [h4]; decide) t
    rw [if_pos h4] at x2
    have x3 := PhS_le (e := fun _ => 0) (fun a ha => x2 a ha)
    rw [smN_k] at x3
    have kk : Qk S (lv t N (c - 256) S) := fun k z i => by rw [lv_R (by omega), if_neg (by omega)]
    exact ⟨(hI.tlv h16 h3 (by rw [h4]; decide) t).mo (by omega), ⟨x1, hU.k kk, ad _ (by omega)⟩, hq.tr kk, hk.tr (Kn.tlv S t h3)⟩
  · rw [dm_3 h1]
    obtain ⟨x1, x2⟩ := ak_X h16 hX h2' (fun q => by rw [h5] at q; exact absurd q (by decide)) (hU _ h2') t
    have x3 := PhS_le x2
    have x4 := smN_lt (f := fun a => a) N (fun a => bt (qm N S (c - 272)) a) 16
    exact ⟨hI.tak h16 h2' h3 hA (fun i a b => by rw [hq.m]; exact hQ _ h2' i a b) t, ⟨x1, hU.k (Qk.ak t N _ S), ad _ (by omega)⟩, hq.tr (Qk.ak t N _ S), hk.tr (Kn.tak S t h2')⟩
/-! the search -/
abbrev Bq : Type := List (St × Nat) × Bool
noncomputable def knw (l : List (St × Nat)) (S : St) : Bool := @decide (∃ q, q ∈ l ∧ SE q.1 S) (Classical.propDecidable _)
theorem knw_t {l : List (St × Nat)} {S : St} : knw l S = true ↔ ∃ q, q ∈ l ∧ SE q.1 S := by
  unfold knw
  exact @decide_eq_true_iff _ (Classical.propDecidable _)
noncomputable def met1 (most : Nat) (q : Bq) (S : St) (d : Nat) : Bq := if knw q.1 S then q else if q.1.length < most then (q.1 ++ [(S, d)], q.2) else (q.1, true)
noncomputable def exl (N most : Nat) (S : St) (d : Nat) (cs : List Nat) (q : Bq) : Bq := cs.foldl (fun q c => met1 most q (dm 0 N c S) (d + 1)) q
noncomputable def bfs (N most : Nat) (ask : Int32) (sn : Nat → Int32) : Nat → Nat → Bq → Bq
  | 0, _, q => q
  | n + 1, i, q => match q.1[i]? with
    | none => q
    | some p => bfs N most ask sn n (i + 1) (exl N most p.1 p.2 (mvl N p.1 ask sn) q)
theorem knw_c {l : List (St × Nat)} {S S' : St} (h : SE S S') : knw l S = knw l S' := by
  have : (∃ q, q ∈ l ∧ SE q.1 S) ↔ (∃ q, q ∈ l ∧ SE q.1 S') := ⟨fun ⟨q, a, b⟩ => ⟨q, a, b.tr h⟩, fun ⟨q, a, b⟩ => ⟨q, a, b.tr h.sy⟩⟩
  rw [Bool.eq_iff_iff, knw_t, knw_t]
  exact this
/-- what holds of the states met -/
def GQ (N A P most : Nat) (S0 : St) (q : Bq) : Prop := q.1.length ≤ most ∧ (q.2 = true → q.1.length = most) ∧ ∀ (i : Nat) (p : St × Nat), q.1[i]? = some p → p.2 ≤ i ∧ GS N A P S0 p.1 p.2
theorem GQ.m {N A P most d i : Nat} {S0 S : St} {q : Bq} (h : GQ N A P most S0 q) (hi : i < q.1.length) (hd : d ≤ i + 1) (hS : GS N A P S0 S d) : GQ N A P most S0 (met1 most q S d) := by
  obtain ⟨h1, h2, h3⟩ := h
  unfold met1
  split
  · exact ⟨h1, h2, h3⟩
  · split
    · rename_i c
      refine ⟨by rw [List.length_append, List.length_singleton]; exact c, fun z => ?_, fun j p hj => ?_⟩
      · have := h2 z; omega
      · by_cases k : j < q.1.length
        · rw [List.getElem?_append_left k] at hj; exact h3 j p hj
        · rw [List.getElem?_append_right (by omega)] at hj
          have e0 : j - q.1.length = 0 := by
            cases e : j - q.1.length with
            | zero => rfl
            | succ n => rw [e] at hj; simp at hj
          rw [e0] at hj
          have : p = (S, d) := by simpa using hj.symm
          rw [this]
          exact ⟨by show d ≤ j; omega, hS⟩
    · rename_i c
      exact ⟨h1, fun _ => by show q.1.length = most; omega, h3⟩
theorem met1_le (most : Nat) (q : Bq) (S : St) (d : Nat) : q.1.length ≤ (met1 most q S d).1.length := by
  unfold met1
  split
  · exact Nat.le_refl _
  · split
    · rw [List.length_append]; exact Nat.le_add_right _ _
    · exact Nat.le_refl _
theorem met1_full {most : Nat} {q : Bq} (h : q.2 = true) (hl : q.1.length = most) (S : St) (d : Nat) : met1 most q S d = q := by
  unfold met1
  split
  · rfl
  · rw [if_neg (by omega)]
    exact Prod.ext rfl h.symm
theorem exl_full {N most : Nat} {q : Bq} (h : q.2 = true) (hl : q.1.length = most) (S : St) (d : Nat) : ∀ cs, exl N most S d cs q = q := by
  intro cs
  induction cs with
  | nil => rfl
  | cons c cs ih =>
    have e : exl N most S d (c :: cs) q = exl N most S d cs (met1 most q (dm 0 N c S) (d + 1)) := rfl
    rw [e, met1_full h hl]
    exact ih
theorem bfs_full {N most : Nat} {ask : Int32} {sn : Nat → Int32} {q : Bq} (h : q.2 = true) (hl : q.1.length = most) : ∀ n i, bfs N most ask sn n i q = q := by
  intro n
  induction n with
  | zero => intro i; rfl
  | succ n ih =>
    intro i
    unfold bfs
    split
    · rfl
    · rw [exl_full h hl]; exact ih _
/-- a meeting changes nothing of the states met before -/
theorem met1_pre {most : Nat} {q : Bq} {S : St} {d i : Nat} {p : St × Nat} (h : q.1[i]? = some p) : (met1 most q S d).1[i]? = some p := by
  have hi : i < q.1.length := by
    rcases Nat.lt_or_ge i q.1.length with z | z
    · exact z
    · rw [List.getElem?_eq_none z] at h; cases h
  unfold met1
  split
  · exact h
  · split
    · show (q.1 ++ [(S, d)])[i]? = some p
      rw [List.getElem?_append_left hi]; exact h
    · exact h
/-! ===== alike states have like rows ===== -/
def lq (q : Nat × Ltr) : Nat × (Int32 × Int32) := (q.1, lk q.2)
theorem fl_fm (L : Nat → List Ltr) (m : Nat) : ∀ n, ((List.range n).flatMap fun l => (L l).map fun x => (l, x)).filterMap (fun q => if q.1 = m then some (lk q.2) else none) = if m < n then (L m).map lk else [] := by
  have one : ∀ (n : Nat) (l : List Ltr), (l.map fun x => (n, x)).filterMap (fun q => if q.1 = m then some (lk q.2) else none) = if n = m then l.map lk else [] := by
    intro n l
    induction l with
    | nil => split <;> rfl
    | cons x r ih =>
      rw [List.map_cons, List.filterMap_cons]
      by_cases c : n = m
      · rw [if_pos c] at ih ⊢
        simp only [c, if_true]
        rw [List.map_cons, ← ih, c]
      · rw [if_neg c] at ih ⊢
        simp only [c, if_false]
        exact ih
  intro n
  induction n with
  | zero => rfl
  | succ n ih =>
    rw [List.range_succ, List.flatMap_append, List.filterMap_append, ih, List.flatMap_cons, List.flatMap_nil, List.append_nil, one]
    by_cases c : n = m
    · subst c
      rw [if_neg (Nat.lt_irrefl _), if_pos rfl, if_pos (by omega)]
      rfl
    · rw [if_neg c, List.append_nil]
      by_cases d : m < n
      · rw [if_pos d, if_pos (by omega)]
      · rw [if_neg d, if_neg (by omega)]
theorem fl_lk {S S' : St} : (∀ l, l < 256 → (xL S l).map lk = (xL S' l).map lk) ↔ (fl S).map lq = (fl S').map lq := by
  constructor
  · intro h
    unfold fl
    rw [List.map_flatMap, List.map_flatMap]
    refine fm_cg _ (fun l hl => ?_)
    have := h l (List.mem_range.mp hl)
    rw [List.map_map, List.map_map]
    have e : ∀ L : List Ltr, L.map (lq ∘ fun x => (l, x)) = (L.map lk).map (fun y => (l, y)) := fun L => by rw [List.map_map]; rfl
    rw [e, e, this]
  · intro h l hl
    have g : ∀ S : St, (xL S l).map lk = ((fl S).map lq).filterMap (fun q => if q.1 = l then some q.2 else none) := fun S => by
      rw [List.filterMap_map]
      have := fl_fm (xL S) l 256
      rw [if_pos hl] at this
      rw [← this]
      rfl
    rw [g S, g S', h]
theorem fl_mm {S : St} {q : Nat × Ltr} (h : q ∈ fl S) : q.1 < 256 ∧ q.2 ∈ xL S q.1 := by
  unfold fl at h
  obtain ⟨l, hl, hq⟩ := List.mem_flatMap.mp h
  obtain ⟨x, hx, rfl⟩ := List.mem_map.mp hq
  exact ⟨List.mem_range.mp hl, hx⟩
theorem enc_inj {q q' : Nat × Ltr} (h : q.1 < 256) (h' : q'.1 < 256) (l : Lok q.2) (l' : Lok q'.2) (e : enc q = enc q') : lq q = lq q' := by
  obtain ⟨⟨k, hk, ek⟩, s, hs, es⟩ := l
  obtain ⟨⟨k', hk', ek'⟩, s', hs', es'⟩ := l'
  have a := enc_pair h
  have a' := enc_pair h'
  have b := enc_kind h (show k < 8 by omega) ek
  have b' := enc_kind h' (show k' < 8 by omega) ek'
  have c := enc_stamp h (show k < 8 by omega) ek hs es
  have c' := enc_stamp h' (show k' < 8 by omega) ek' hs' es'
  rw [e] at a b c
  have e1 := (nI_eq (by omega) (by omega)).mp (a.symm.trans a')
  have e2 := b.symm.trans b'
  have e3 := c.symm.trans c'
  unfold lq lk
  rw [e1, ek, ek', e2, es, es', e3]
theorem enc_c {q q' : Nat × Ltr} (e : lq q = lq q') : enc q = enc q' := by
  unfold lq lk at e
  obtain ⟨e1, e2⟩ := Prod.mk.inj e
  obtain ⟨e3, e4⟩ := Prod.mk.inj e2
  unfold enc
  rw [e1, e3, e4]
theorem len_lq {S S' : St} (h : (fl S).map lq = (fl S').map lq) : (fl S).length = (fl S').length := by
  have := congrArg List.length h
  rwa [List.length_map, List.length_map] at this
section
variable {M M' : Mem} {tw tw' : Bool} {t t' : Int32} {S S' : St} {pb pt pb' pt' : List Row4}
theorem SE_of_cells {N A A' : Nat} (h16 : N ≤ 16) (p : RV M tw t S pb pt) (p' : RV M' tw' t' S' pb' pt') (hI : Inv N A S) (hI' : Inv N A' S') (hA : A < 1048576) (hA' : A' < 1048576) (hq : Qk S S') (h : ∀ k, k < 833 + (fl S').length → mI M 121 (18 + k) = mI M' 121 (18 + k)) : SE S S' := by
  have l1 := p.2.2.2.2.1
  have l2 := p'.2.2.2.2.1
  have hL : (fl S).length = (fl S').length := by
    have := h 832 (by omega)
    exact (nI_eq (by have := l1.2.1; omega) (by have := l2.2.1; omega)).mp (l1.1.symm.trans (this.trans l2.1))
  refine ⟨fun k i hk hi => ?_, fun a ha => ?_, fl_lk.mpr ?_⟩
  · by_cases c : k < 11
    · have hv : vk k i := by unfold vk; omega
      have a := ad_cases hv
      have e1 := p.rg hv
      have e2 := p'.rg hv
      rw [← e1, ← e2]
      have := h (ad k i - 18) (by omega)
      rwa [show 18 + (ad k i - 18) = ad k i by omega] at this
    · exact (hq k (by omega) i).symm
  · obtain ⟨a1, a2, a3, _⟩ := p.2.2.2.1 a ha
    obtain ⟨b1, b2, b3, _⟩ := p'.2.2.2.1 a ha
    have el : (xW S a).length = (xW S' a).length := by
      have := h (131 + 44 * a) (by omega)
      rw [show 18 + (131 + 44 * a) = 149 + 44 * a by omega, a1, b1] at this
      exact (nI_eq (by omega) (by omega)).mp this
    apply List.ext_getElem?
    intro i
    cases e1 : (xW S a)[i]? with
    | none =>
      have : (xW S' a)[i]? = none := by
        rw [List.getElem?_eq_none_iff] at e1 ⊢
        omega
      rw [this]
    | some q =>
      cases e2 : (xW S' a)[i]? with
      | none =>
        rw [List.getElem?_eq_none_iff] at e2
        have : (xW S a)[i]? = none := by rw [List.getElem?_eq_none_iff]; omega
        rw [this] at e1; cases e1
      | some q' =>
        have hi : i < (xW S a).length := by
          rcases Nat.lt_or_ge i (xW S a).length with z | z
          · exact z
          · rw [List.getElem?_eq_none z] at e1; cases e1
        have w1 := (hI.2.2.2.2.2.1 a ha).1.2.2 q (List.mem_of_getElem? e1)
        have w2 := (hI'.2.2.2.2.2.1 a ha).1.2.2 q' (List.mem_of_getElem? e2)
        obtain ⟨c1, c2⟩ := a3 i q e1
        obtain ⟨d1, d2⟩ := b3 i q' e2
        have f1 := h (132 + 44 * a + 2 * i) (by omega)
        have f2 := h (133 + 44 * a + 2 * i) (by omega)
        rw [show 18 + (132 + 44 * a + 2 * i) = 150 + 44 * a + 2 * i by omega, c1, d1] at f1
        rw [show 18 + (133 + 44 * a + 2 * i) = 151 + 44 * a + 2 * i by omega, c2, d2] at f2
        have := (nI_eq (by have := w1.1; omega) (by have := w2.1; omega)).mp f1
        rw [Prod.ext this f2]
  · apply List.ext_getElem?
    intro i
    rw [List.getElem?_map, List.getElem?_map]
    cases e1 : (fl S)[i]? with
    | none =>
      have : (fl S')[i]? = none := by
        rw [List.getElem?_eq_none_iff] at e1 ⊢
        omega
      rw [this]
    | some q =>
      cases e2 : (fl S')[i]? with
      | none =>
        rw [List.getElem?_eq_none_iff] at e2
        have : (fl S)[i]? = none := by rw [List.getElem?_eq_none_iff]; omega
        rw [this] at e1; cases e1
      | some q' =>
        have hi : i < (fl S').length := by
          rcases Nat.lt_or_ge i (fl S').length with z | z
          · exact z
          · rw [List.getElem?_eq_none z] at e2; cases e2
        have c1 := (l1.2.2 i q e1).1
        have c2 := (l2.2.2 i q' e2).1
        have f1 := h (833 + i) (by omega)
        rw [show 18 + (833 + i) = 851 + (0 + i) by omega, c1, c2] at f1
        have m1 := fl_mm (List.mem_of_getElem? e1)
        have m2 := fl_mm (List.mem_of_getElem? e2)
        show some (lq q) = some (lq q')
        rw [enc_inj m1.1 m2.1 (Lok_of hI hA m1.1 m1.2) (Lok_of hI' hA' m2.1 m2.2) f1]
theorem cells_of_SE (p : RV M tw t S pb pt) (p' : RV M' tw' t' S' pb' pt') (h : SE S S') : ∀ k, k < 833 + (fl S').length → mI M 121 (18 + k) = mI M' 121 (18 + k) := by
  intro k hk
  have hm := fl_lk.mp h.2.2
  have hL := len_lq hm
  have l1 := p.2.2.2.2.1
  have l2 := p'.2.2.2.2.1
  have reg : ∀ k' i, k' < 11 → i < 16 → mI M 121 (ad k' i) = mI M' 121 (ad k' i) := fun k' i a b => by
    have hv : vk k' i := by unfold vk; omega
    rw [p.rg hv, p'.rg hv, h.1 k' i (Or.inl a) b]
  by_cases c1 : k < 128
  · have e : 18 + k = ad (k % 8) (k / 8) := by
      have a := ad_cases (k := k % 8) (i := k / 8) (by unfold vk; omega)
      omega
    rw [e]
    exact reg _ _ (by omega) (by omega)
  · by_cases c2 : k < 832
    · generalize ha : (k - 128) / 44 = a
      generalize hr : (k - 128) % 44 = r
      have a16 : a < 16 := by omega
      have ek : 18 + k = 146 + 44 * a + r := by omega
      rw [ek]
      obtain ⟨a1, a2, a3, a4⟩ := p.2.2.2.1 a a16
      obtain ⟨b1, b2, b3, b4⟩ := p'.2.2.2.1 a a16
      have eW := h.2.1 a a16
      by_cases d1 : r < 3
      · have e : 146 + 44 * a + r = ad (8 + r) a := by
          have z := ad_cases (k := 8 + r) (i := a) (by unfold vk; omega)
          omega
        rw [e]
        exact reg _ _ (by omega) a16
      · by_cases d2 : r = 3
        · rw [d2, show 146 + 44 * a + 3 = 149 + 44 * a by omega, a1, b1, eW]
        · generalize hm' : (r - 4) / 2 = m
          have r44 : r < 44 := by omega
          have m20 : m < 20 := by omega
          have both : mI M 121 (150 + 44 * a + 2 * m) = mI M' 121 (150 + 44 * a + 2 * m) ∧ mI M 121 (151 + 44 * a + 2 * m) = mI M' 121 (151 + 44 * a + 2 * m) := by
            cases e1 : (xW S a)[m]? with
            | none =>
              have z := List.getElem?_eq_none_iff.mp e1
              have z' : (xW S' a).length ≤ m := by rw [← eW]; exact z
              rw [(a4 m z m20).1, (a4 m z m20).2, (b4 m z' m20).1, (b4 m z' m20).2]
              exact ⟨rfl, rfl⟩
            | some q =>
              have e2 : (xW S' a)[m]? = some q := by rw [← eW]; exact e1
              rw [(a3 m q e1).1, (a3 m q e1).2, (b3 m q e2).1, (b3 m q e2).2]
              exact ⟨rfl, rfl⟩
          by_cases d3 : (r - 4) % 2 = 0
          · rw [show 146 + 44 * a + r = 150 + 44 * a + 2 * m by omega]; exact both.1
          · rw [show 146 + 44 * a + r = 151 + 44 * a + 2 * m by omega]; exact both.2
    · by_cases c3 : k = 832
      · rw [c3]
        exact l1.1.trans ((congrArg nI hL).trans l2.1.symm)
      · have hi : k - 833 < (fl S').length := by omega
        obtain ⟨q', e2⟩ : ∃ q', (fl S')[k - 833]? = some q' := ⟨_, List.getElem?_eq_getElem hi⟩
        obtain ⟨q, e1⟩ : ∃ q, (fl S)[k - 833]? = some q := ⟨_, List.getElem?_eq_getElem (by omega)⟩
        have f : some (lq q) = some (lq q') := by
          have := congrArg (fun l => l[k - 833]?) hm
          simp only [List.getElem?_map] at this
          rw [e1, e2] at this
          exact this
        have c1' := (l1.2.2 _ q e1).1
        have c2' := (l2.2.2 _ q' e2).1
        rw [show 18 + k = 851 + (0 + (k - 833)) by omega, c1', c2', enc_c (Option.some.inj f)]
end
/-! ===== the reference keeps a state, lays it, looks whether it is it ===== -/
theorem rs_11 {M : Mem} (h : RS M) : mR M 120 11 = 128 := h.r (by decide)
theorem rs_f11 {α : Type} {M : Mem} (h : RS M) (x : Option α) : chk (isO M 100 128) x = x := chk_t (h.io (by decide) (by decide) (by decide))
theorem rs_c11 {α : Type} {M : Mem} (h : RS M) {k : Nat} (hk : k < 393320) (x : Option α) : chk (inB (nI k) (mLn M 128)) x = x := by
  refine chk_t ?_
  rw [h.ln (c := 393320) (by decide) (by decide) (by decide)]; exact inB_n hk (by decide)
theorem c9833 (i k : Nat) : ((9833 : Int32) * nI i) + nI k = nI (9833 * i + k) := by
  rw [show (9833 : Int32) = nI 9833 from rfl, pk_mul, nI_add]
theorem c18 (k : Nat) : (18 : Int32) + nI k = nI (18 + k) := by rw [show (18 : Int32) = nI 18 from rfl, nI_add]
def KS (M : Mem) (i : Nat) (S : St) : Prop := ∃ Mx t pb pt, RV Mx false t S pb pt ∧ ∀ k, k < 833 + (fl S).length → mI M 128 (9833 * i + k) = mI Mx 121 (18 + k)
theorem KS.cg {M M' : Mem} {i : Nat} {S : St} (h : KS M i S) (e : ∀ b, 9833 * i ≤ b → b < 9833 * (i + 1) → mI M' 128 b = mI M 128 b) : KS M' i S := by
  obtain ⟨Mx, t, pb, pt, p, q⟩ := h
  have := p.2.2.2.2.1.2.1
  exact ⟨Mx, t, pb, pt, p, fun k hk => by rw [e _ (by omega) (by omega)]; exact q k hk⟩
section
variable {M : Mem} {t : Int32} {S : St} {pb pt : List Row4}
theorem RV.size (p : RV M false t S pb pt) : f_X10_sizeNow 120 M = some (nI (833 + (fl S).length)) := by
  rw [f_X10_sizeNow, rs_f p.1, rs_0 p.1, bnd_e, rs_fa p.1, show (850 : Int32) = nI 850 from rfl, rs_c p.1 (by decide), cl_n (by decide), p.2.2.2.2.1.1, show (833 : Int32) = nI 833 from rfl, nI_add]
end
theorem kp_l {i sz : Nat} (hi : i < 40) (hs : sz ≤ 9833) : ∀ (d k n : Nat) (M : Mem), k + d = sz → RS M → d + 1 ≤ n → ∃ M', f_X10_keepState_7 n 120 (nI i) (nI sz) (nI k) M = some M' ∧ M'.1 = M.1 ∧ (∀ o, o ≠ 128 → ∀ b, mI M' o b = mI M o b) ∧ (∀ b, mI M' 128 b = if 9833 * i + k ≤ b ∧ b < 9833 * i + sz then mI M 121 (18 + (b - 9833 * i)) else mI M 128 b) ∧ ∀ o b, mL M' o b = mL M o b := by
  intro d
  induction d with
  | zero =>
    intro k n M hk hS hn
    obtain ⟨n, rfl⟩ : ∃ m, n = m + 1 := ⟨n - 1, by omega⟩
    refine ⟨M, ?_, rfl, fun _ _ _ => rfl, fun b => by rw [if_neg (by omega)], fun _ _ => rfl⟩
    rw [f_X10_keepState_7, if_pos (nI_le (by omega) (by omega))]
  | succ d ih =>
    intro k n M hk hS hn
    obtain ⟨n, rfl⟩ : ∃ m, n = m + 1 := ⟨n - 1, by omega⟩
    obtain ⟨M', e, s, o1, o2, o3⟩ := ih (k + 1) n (sI M 128 (9833 * i + k) (mI M 121 (18 + k))) (by omega) (hS.e rfl) (by omega)
    refine ⟨M', ?_, s, fun o n b => by rw [o1 o n, mI_o _ _ _ _ _ n], fun b => ?_, fun o b => o3 o b⟩
    · rw [f_X10_keepState_7, if_neg (nI_ge (by omega) (by omega)), rs_f hS, rs_11 hS, bnd_e, rs_f11 hS, rs_0 hS, bnd_e, rs_fa hS, c18, c9833, rs_c hS (by omega), rs_c11 hS (by omega), nI_clamp (by omega), nI_clamp (by omega), bnd_e, nI_1, bnd_e, e]
    · rw [o2]
      by_cases c : 9833 * i + (k + 1) ≤ b ∧ b < 9833 * i + sz
      · rw [if_pos c, if_pos (by omega), mI_o _ _ _ _ _ (by decide)]
      · rw [if_neg c]
        by_cases c2 : b = 9833 * i + k
        · rw [c2, mI_s, if_pos (by omega), show 9833 * i + k - 9833 * i = k by omega]
        · rw [mI_n _ _ _ _ c2, if_neg (by omega)]
theorem is_l {i sz : Nat} {M : Mem} (hi : i < 40) (hs : sz ≤ 9833) (hS : RS M) : ∀ (d k n : Nat), k + d = sz → d + 1 ≤ n → ∃ b : Bool, f_X10_isState_7 M n 120 (nI i) (nI sz) (nI k) = some (if b then 1 else 0) ∧ (b = true ↔ ∀ j, k ≤ j → j < sz → mI M 128 (9833 * i + j) = mI M 121 (18 + j)) := by
  intro d
  induction d with
  | zero =>
    intro k n hk hn
    obtain ⟨n, rfl⟩ : ∃ m, n = m + 1 := ⟨n - 1, by omega⟩
    refine ⟨true, ?_, ⟨fun _ j a b => by omega, fun _ => rfl⟩⟩
    rw [f_X10_isState_7, if_pos (nI_le (by omega) (by omega)), if_pos rfl]
  | succ d ih =>
    intro k n hk hn
    obtain ⟨n, rfl⟩ : ∃ m, n = m + 1 := ⟨n - 1, by omega⟩
    obtain ⟨b, e, hb⟩ := ih (k + 1) n (by omega) (by omega)
    have hd : ∀ y : Option Int32, (if mI M 128 (9833 * i + k) = mI M 121 (18 + k) then f_X10_isState_7 M n 120 (nI i) (nI sz) (nI (k + 1)) else some 0) = y → f_X10_isState_7 M (n + 1) 120 (nI i) (nI sz) (nI k) = y := by
      intro y hy
      rw [f_X10_isState_7, if_neg (nI_ge (by omega) (by omega)), rs_f hS, rs_11 hS, bnd_e, rs_f11 hS, c9833, rs_c11 hS (by omega), rs_0 hS, bnd_e, rs_fa hS, c18, rs_c hS (by omega), nI_clamp (by omega), nI_clamp (by omega), nI_1, bnd_e]
      exact hy
    by_cases c : mI M 128 (9833 * i + k) = mI M 121 (18 + k)
    · refine ⟨b, hd _ (by rw [if_pos c, e]), ?_⟩
      rw [hb]
      constructor
      · intro h j a a'
        by_cases z : j = k
        · rw [z]; exact c
        · exact h j (by omega) a'
      · intro h j a a'
        exact h j (by omega) a'
    · refine ⟨false, hd _ (by rw [if_neg c]; rfl), ⟨fun z => absurd z (by decide), fun h => absurd (h k (Nat.le_refl _) (by omega)) c⟩⟩
theorem la_l {i sz : Nat} (hi : i < 40) (hs : sz ≤ 9833) : ∀ (d k n : Nat) (M : Mem), k + d = sz → RS M → d + 1 ≤ n → ∃ M', f_X10_laysState_24 n 120 (nI i) (nI sz) (nI k) M = some M' ∧ M'.1 = M.1 ∧ (∀ o, o ≠ 121 → ∀ b, mI M' o b = mI M o b) ∧ (∀ b, mI M' 121 b = if 18 + k ≤ b ∧ b < 18 + sz then mI M 128 (9833 * i + (b - 18)) else mI M 121 b) ∧ ∀ o b, mL M' o b = mL M o b := by
  intro d
  induction d with
  | zero =>
    intro k n M hk hS hn
    obtain ⟨n, rfl⟩ : ∃ m, n = m + 1 := ⟨n - 1, by omega⟩
    refine ⟨M, ?_, rfl, fun _ _ _ => rfl, fun b => by rw [if_neg (by omega)], fun _ _ => rfl⟩
    rw [f_X10_laysState_24, if_pos (nI_le (by omega) (by omega))]
  | succ d ih =>
    intro k n M hk hS hn
    obtain ⟨n, rfl⟩ : ∃ m, n = m + 1 := ⟨n - 1, by omega⟩
    obtain ⟨M', e, s, o1, o2, o3⟩ := ih (k + 1) n (sI M 121 (18 + k) (mI M 128 (9833 * i + k))) (by omega) (hS.e rfl) (by omega)
    refine ⟨M', ?_, s, fun o n b => by rw [o1 o n, mI_o _ _ _ _ _ n], fun b => ?_, fun o b => o3 o b⟩
    · rw [f_X10_laysState_24, if_neg (nI_ge (by omega) (by omega)), rs_f hS, rs_0 hS, bnd_e, rs_fa hS, rs_11 hS, bnd_e, rs_f11 hS, c18, c9833, rs_c11 hS (by omega), rs_c hS (by omega), nI_clamp (by omega), nI_clamp (by omega), bnd_e, nI_1, bnd_e, e]
    · rw [o2]
      by_cases c : 18 + (k + 1) ≤ b ∧ b < 18 + sz
      · rw [if_pos c, if_pos (by omega), mI_o _ _ _ _ _ (by decide)]
      · rw [if_neg c]
        by_cases c2 : b = 18 + k
        · rw [c2, mI_s, if_pos (by omega), show 18 + k - 18 = k by omega]
        · rw [mI_n _ _ _ _ c2, if_neg (by omega)]
/-- a state laid over another -/
def mix (Si S : St) : St := (fun k i => if k < 11 then xR Si k i else xR S k i, Si.2.1, Si.2.2.1, S.2.2.2)
theorem mix_SE {Si S : St} (h : Qk Si S) : SE (mix Si S) Si := by
  refine ⟨fun k i hk _ => ?_, fun _ _ => rfl, fun _ _ => rfl⟩
  show (if k < 11 then xR Si k i else xR S k i) = xR Si k i
  by_cases c : k < 11
  · rw [if_pos c]
  · rw [if_neg c]; exact h k (by omega) i
theorem mix_R {Si S : St} {k i : Nat} : xR (mix Si S) k i = if k < 11 then xR Si k i else xR S k i := rfl
theorem fl_mix {Si S : St} : fl (mix Si S) = fl Si := rfl
section
variable {M : Mem} {t : Int32} {S Si : St} {pb pt : List Row4}
theorem RV.kept (p : RV M false t S pb pt) {i n : Nat} (hi : i < 40) (hn : 9900 ≤ n) : ∃ M', f_X10_keepState n 120 (nI i) M = some M' ∧ RV M' false t S pb pt ∧ KS M' i S ∧ M'.1 = M.1 ∧ (∀ o, o ≠ 128 → ∀ b, mI M' o b = mI M o b) ∧ (∀ j, j ≠ i → ∀ b, 9833 * j ≤ b → b < 9833 * (j + 1) → mI M' 128 b = mI M 128 b) ∧ ∀ o b, mL M' o b = mL M o b := by
  have l9 := p.2.2.2.2.1.2.1
  obtain ⟨M', e, s, o1, o2, o3⟩ := kp_l (sz := 833 + (fl S).length) hi (by omega) (833 + (fl S).length) 0 n M (by omega) p.1 (by omega)
  refine ⟨M', ?_, p.cg s (o1 120 (by decide) 3) (o1 121 (by decide)) (o1 123 (by decide)), ⟨M, t, pb, pt, p, fun k hk => ?_⟩, s, o1, fun j hj b h1 h2 => ?_, o3⟩
  · rw [f_X10_keepState, rs_f p.1, p.size, obd_s]; exact e
  · rw [o2, if_pos (by omega), show 9833 * i + k - 9833 * i = k by omega]
  · rw [o2, if_neg (by
      rcases Nat.lt_or_gt_of_ne hj with z | z
      · have : 9833 * (j + 1) ≤ 9833 * i := Nat.mul_le_mul_left _ z
        omega
      · have : 9833 * (i + 1) ≤ 9833 * j := Nat.mul_le_mul_left _ z
        omega)]
theorem RV.isS (p : RV M false t S pb pt) {N A A' : Nat} (h16 : N ≤ 16) (hI : Inv N A S) (hI' : Inv N A' Si) (hA : A < 1048576) (hA' : A' < 1048576) (hq : Qk Si S) {i n : Nat} (hk : KS M i Si) (hi : i < 40) (hn : 9900 ≤ n) : ∃ b : Bool, f_X10_isState n 120 (nI i) M = some (if b then 1 else 0) ∧ (b = true ↔ SE Si S) := by
  have l9 := p.2.2.2.2.1.2.1
  obtain ⟨b, e, hb⟩ := is_l (M := M) (sz := 833 + (fl S).length) hi (by omega) p.1 (833 + (fl S).length) 0 n (by omega) (by omega)
  refine ⟨b, by rw [f_X10_isState, rs_f p.1, p.size, obd_s]; exact e, ?_⟩
  rw [hb]
  obtain ⟨Mx, tx, px, qx, r, hr⟩ := hk
  constructor
  · intro h
    have hL : (fl Si).length = (fl S).length := by
      have z := h 832 (by omega) (by omega)
      rw [hr 832 (by omega)] at z
      have l1 := r.2.2.2.2.1
      exact (nI_eq (by have := l1.2.1; omega) (by omega)).mp (l1.1.symm.trans (z.trans p.2.2.2.2.1.1))
    exact SE_of_cells h16 r p hI' hI hA' hA hq (fun k hk => by rw [← hr k (by omega)]; exact h k (by omega) hk)
  · intro h j _ hj
    have hL := len_lq (fl_lk.mp h.2.2)
    rw [hr j (by omega)]
    exact cells_of_SE r p h j hj
theorem RV.lays (p : RV M false t S pb pt) {i n : Nat} (hk : KS M i Si) (hi : i < 40) (hn : 9900 ≤ n) : ∃ M', f_X10_laysState n 120 (nI i) M = some M' ∧ RV M' false t (mix Si S) pb pt ∧ M'.1 = M.1 ∧ (∀ o, o ≠ 121 → ∀ b, mI M' o b = mI M o b) ∧ ∀ o b, mL M' o b = mL M o b := by
  obtain ⟨Mx, tx, px, qx, r, hr⟩ := hk
  have lx := r.2.2.2.2.1
  have e832 : mI M 128 (9833 * i + 832) = nI (fl Si).length := by
    rw [hr 832 (by omega)]; exact lx.1
  obtain ⟨M', e, s, o1, o2, o3⟩ := la_l (sz := 833 + (fl Si).length) hi (by have := lx.2.1; omega) (833 + (fl Si).length) 0 n M (by omega) p.1 (by have := lx.2.1; omega)
  have cell : ∀ b, 18 ≤ b → b < 851 + (fl Si).length → mI M' 121 b = mI Mx 121 b := fun b h1 h2 => by
    rw [o2, if_pos (by omega), hr _ (by omega), show 18 + (b - 18) = b by omega]
  have far : ∀ b, b < 18 ∨ 9851 ≤ b → mI M' 121 b = mI M 121 b := fun b h => by
    rw [o2, if_neg (by have := lx.2.1; omega)]
  refine ⟨M', ?_, ⟨p.1.e s, by rw [o1 120 (by decide)]; exact p.2.1, fun k j hv => ?_, ?_, ⟨?_, lx.2.1, fun j q hj => ⟨?_, fun z => by cases z⟩⟩, ?_, ?_⟩, s, o1, o3⟩
  · have c : (((9833 : Int32) * nI i) + (850 : Int32)) - (18 : Int32) = nI (9833 * i + 832) := by
      rw [show (9833 : Int32) = nI 9833 from rfl, pk_mul, show (850 : Int32) = nI 850 from rfl, nI_add, show (18 : Int32) = nI 18 from rfl, nI_sb (by omega)]
      congr 1
    rw [f_X10_laysState, rs_f p.1, rs_11 p.1, bnd_e, rs_f11 p.1, c, rs_c11 p.1 (by omega), nI_clamp (by omega), e832, show (833 : Int32) = nI 833 from rfl, nI_add, bnd_e]
    exact e
  · have a := ad_cases hv
    rw [mix_R]
    by_cases c : k < 11
    · rw [if_pos c, cell _ (by omega) (by omega)]
      exact r.rg hv
    · rw [if_neg c, far _ (by omega)]
      exact p.rg hv
  · exact (r.2.2.2.1).cg (fun b h1 h2 => cell b (by omega) (by omega)) rfl
  · rw [cell 850 (by decide) (by omega)]
    exact lx.1
  · have hj' : j < (fl Si).length := by
      have hj2 : (fl Si)[j]? = some q := hj
      rcases Nat.lt_or_ge j (fl Si).length with z | z
      · exact z
      · rw [List.getElem?_eq_none z] at hj2; cases hj2
    rw [cell _ (by omega) (by omega)]
    exact (lx.2.2 j q hj).1
  · exact p.2.2.2.2.2.1.cg (far _ (by omega)) (fun b h1 h2 => far b (by omega))
  · exact p.2.2.2.2.2.2.cg (far _ (by omega)) (fun b h1 h2 => far b (by omega))
end
