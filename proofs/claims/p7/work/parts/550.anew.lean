/-! ===== the class starts anew ===== -/
/-- written into one row alone -/
def Wr (P : Nat) (f : Nat → Int32) (M M' : Mem) : Prop := M'.1 = M.1 ∧ (∀ j, mI M' P j = f j) ∧ (∀ o, o ≠ P → ∀ b, mI M' o b = mI M o b) ∧ ∀ o b, mL M' o b = mL M o b
theorem Wr.r (P : Nat) (M : Mem) : Wr P (mI M P) M M := ⟨rfl, fun _ => rfl, fun _ _ _ => rfl, fun _ _ => rfl⟩
theorem Wr.s {P : Nat} {f : Nat → Int32} {M M' : Mem} (w : Wr P f M M') (k : Nat) (x : Int32) : Wr P (fun j => if j = k then x else f j) M (sI M' P k x) := by
  obtain ⟨a, b, c, d⟩ := w
  refine ⟨a, fun j => ?_, fun o n b => by rw [mI_o _ _ _ _ _ n]; exact c o n b, d⟩
  by_cases e : j = k
  · rw [e, mI_s]; exact (if_pos rfl).symm
  · rw [mI_n _ _ _ _ e]; exact (b j).trans (if_neg e).symm
theorem pl_clear {M : Mem} {h v : Nat} (q : CS M h) (hv : v < 16) : ∃ M', f_X4_clear (h + 17 + 2 * v) M = some M' ∧ M'.1 = M.1 ∧ (∀ j, j < 16 → j ≠ 10 → mI M' (h + 17 + 2 * v) j = if j = 6 ∨ j = 7 then -1 else 0) ∧ (∀ o, o ≠ h + 17 + 2 * v → ∀ b, mI M' o b = mI M o b) ∧ ∀ o b, mL M' o b = mL M o b := by
  generalize hP : h + 17 + 2 * v = P
  have c : ∀ {α : Type} {M' : Mem} {f : Nat → Int32} (w : Wr P f M M') (x : Option α), chk (isO M' 4 P) x = x := fun w x => by
    rw [← hP]; exact cs_po (q.e w.1) hv x
  have w0 := Wr.r P M
  have w2 := (w0.s 0 0).s 1 0
  generalize hA : sI (sI M P 0 0) P 1 0 = A at w2
  have w6 := (((w2.s 2 0).s 3 0).s 4 0).s 5 0
  generalize hB : sI (sI (sI (sI A P 2 0) P 3 0) P 4 0) P 5 0 = B at w6
  have w8 := (w6.s 6 (-1)).s 7 (-1)
  generalize hC : sI (sI B P 6 (-1)) P 7 (-1) = C at w8
  have w9 := w8.s 8 0
  generalize hD : sI C P 8 0 = D at w9
  have wa := w9.s 9 0
  generalize hE : sI D P 9 0 = E at wa
  have wb := ((((wa.s 11 0).s 12 0).s 13 0).s 14 0).s 15 0
  generalize hF : sI (sI (sI (sI (sI E P 11 0) P 12 0) P 13 0) P 14 0) P 15 0 = F at wb
  have er : f_X4_rest P A = some B := by
    rw [f_X4_rest, c w2, bnd_e, bnd_e, bnd_e, bnd_e, hB]
  have eg : f_X4_forgetGranted P B = some D := by
    rw [f_X4_forgetGranted, c w6, bnd_e, bnd_e, chk_t (Or.inl rfl), hC, bnd_e, hD]
  have ea : f_X4_forgetAll P B = some E := by
    rw [f_X4_forgetAll, c w6, eg, obd_s, c w9, bnd_e, hE]
  refine ⟨F, ?_, wb.1, fun j hj n => ?_, wb.2.2.1, wb.2.2.2⟩
  · rw [f_X4_clear, c w0, bnd_e, bnd_e, hA, er, obd_s, c w6, ea, obd_s, c wa, bnd_e, bnd_e, bnd_e, bnd_e, bnd_e, hF]
  · rw [wb.2.1 j]
    rcases (show j = 0 ∨ j = 1 ∨ j = 2 ∨ j = 3 ∨ j = 4 ∨ j = 5 ∨ j = 6 ∨ j = 7 ∨ j = 8 ∨ j = 9 ∨ j = 11 ∨ j = 12 ∨ j = 13 ∨ j = 14 ∨ j = 15 by omega) with rfl | rfl | rfl | rfl | rfl | rfl | rfl | rfl | rfl | rfl | rfl | rfl | rfl | rfl | rfl <;> rfl
theorem pl_l {h : Nat} : ∀ (d i n : Nat) (M : Mem), i + d = 16 → CS M h → d + 1 ≤ n → ∃ M' n', f_X2_clear_9 n h (nI i) M = f_X2_clear_9 (n' + 1) h (nI 16) M' ∧ M'.1 = M.1 ∧ (∀ v, i ≤ v → v < 16 → ∀ j, j < 16 → j ≠ 10 → mI M' (h + 17 + 2 * v) j = if j = 6 ∨ j = 7 then -1 else 0) ∧ (∀ o, ¬ (h + 17 + 2 * i ≤ o ∧ o < h + 49) → ∀ b, mI M' o b = mI M o b) ∧ ∀ o b, mL M' o b = mL M o b := by
  intro d
  induction d with
  | zero =>
    intro i n M hi q hn
    obtain ⟨n, rfl⟩ : ∃ m, n = m + 1 := ⟨n - 1, by omega⟩
    have : i = 16 := by omega
    subst this
    exact ⟨M, n, rfl, rfl, fun v a b => by omega, fun _ _ _ => rfl, fun _ _ => rfl⟩
  | succ d ih =>
    intro i n M hi q hn
    obtain ⟨n, rfl⟩ : ∃ m, n = m + 1 := ⟨n - 1, by omega⟩
    have i6 : i < 16 := by omega
    obtain ⟨M1, e1, s1, a1, b1, c1⟩ := pl_clear q i6
    obtain ⟨M', n', e', s', a', b', c'⟩ := ih (i + 1) n M1 (by omega) (q.e s1) (by omega)
    refine ⟨M', n', ?_, s'.trans s1, fun v z1 z2 j hj n => ?_, fun o n b => ?_, fun o b => (c' o b).trans (c1 o b)⟩
    · rw [f_X2_clear_9, if_neg (show ¬ (16 : Int32) ≤ nI i from nI_ge (a := i) (b := 16) (by omega) (by decide)), cs_f q, cs_h2 q, bnd_e, cs_a10 q, cs_i10 q i6, cs_rpc q i6, bnd_e, cs_po q i6, e1, obd_s, bnd_e, nI_1, e']
    · by_cases c : v = i
      · subst c
        rw [b' _ (by omega)]; exact a1 j hj n
      · exact a' v (by omega) z2 j hj n
    · rw [b' o (by omega), b1 o (by omega)]
/-- the model started anew: N nodes, sets B, a tree or not -/
def fS0 (N : Nat) (B : Nat → Int32) (tr : Int32) : St := ((fun k i => if k = 8 then -1 else if k = 17 then B i else if k = 19 then 1 else if k = 20 then (if i = 0 then nI N else if i = 1 then tr else 0) else 0), fun _ => [], fun _ => [], [], [])
theorem fS0_R (N : Nat) (B : Nat → Int32) (tr : Int32) (k i : Nat) : xR (fS0 N B tr) k i = if k = 8 then -1 else if k = 17 then B i else if k = 19 then 1 else if k = 20 then (if i = 0 then nI N else if i = 1 then tr else 0) else 0 := rfl
theorem fS0_0 {N : Nat} {B : Nat → Int32} {tr : Int32} {k i : Nat} (h : k ≠ 8 ∧ k ≠ 17 ∧ k ≠ 19 ∧ k ≠ 20) : xR (fS0 N B tr) k i = 0 := by
  rw [fS0_R, if_neg (by omega), if_neg (by omega), if_neg (by omega), if_neg (by omega)]
theorem fS0_fl (N : Nat) (B : Nat → Int32) (tr : Int32) : fl (fS0 N B tr) = [] := fl_0 (fun _ => rfl)
set_option maxHeartbeats 2000000 in
theorem hl_clear {M : Mem} {d5 d6 d7 len N n : Nat} {B : Nat → Int32} {tr : Int32} (h16 : N ≤ 16) (q : CS M 14) (ds : DS M 14 d5 d6 d7 len) (h64 : 64 ≤ len) (h18 : len ≤ 18000) (l30 : mI M 25 0 = nI 30) (l40 : mI M 27 0 = nI 40) (sb : SB M N (fS0 N B tr)) (hn : 400 ≤ n) : ∃ M', f_X2_clear n 14 M = some M' ∧ M'.1 = M.1 ∧ (∀ X Y, Rm M 14 X Y → HV M' 14 X Y 0 N B (fS0 N B tr) [] []) ∧ (∀ o, ¬ (14 ≤ o ∧ o < 63) → ∀ b, mI M' o b = mI M o b) ∧ ∀ o b, mL M' o b = mL M o b := by
  have hq := q.2.2.2.2
  obtain ⟨M1, e1, s1, f1, g1, h1⟩ := f_fill (x := 0) (o := 14 + 4) (len := 256) (n := n) (M := M) (by decide) (q.io (i := 4) (by decide) (by decide) (by decide)) (q.ln (i := 4) (by decide) (by decide) (by decide)) (by omega)
  have q1 := q.e s1
  obtain ⟨M2, e2, s2, f2, g2, h2⟩ := f_fill (x := 0) (o := 14 + 5) (len := 16) (n := n) (M := M1) (by decide) (q1.io (i := 5) (by decide) (by decide) (by decide)) (q1.ln (i := 5) (by decide) (by decide) (by decide)) (by omega)
  have q2 := q1.e s2
  generalize hM3 : sI (sI (sI M2 (14 + 1) 8 0) (14 + 1) 9 (-1)) (14 + 1) 10 0 = M3
  have s3 : M3.1 = M.1 := by rw [← hM3]; exact s2.trans s1
  have q3 := q.e s3
  have L3 : ∀ o b, mL M3 o b = mL M o b := fun o b => by rw [← hM3]; exact (h2 o b).trans (h1 o b)
  obtain ⟨M4, e4, s4, f4, g4, h4⟩ := f_fill (x := 0) (o := 14 + 6) (len := 6) (n := n) (M := M3) (by decide) (q3.io (i := 6) (by decide) (by decide) (by decide)) (q3.ln (i := 6) (by decide) (by decide) (by decide)) (by omega)
  have q4 := q3.e s4
  generalize hM5 : sI M4 (14 + 1) 11 0 = M5
  have s5 : M5.1 = M.1 := by rw [← hM5]; exact s4.trans s3
  have q5 := q.e s5
  obtain ⟨M6, n6, e6, s6, a6, b6, c6⟩ := pl_l 16 0 n M5 rfl q5 (by omega)
  have S6 : M6.1 = M.1 := s6.trans s5
  have q6 := q.e S6
  -- what has been written so far
  have p15 : ∀ b, mI M6 15 b = if b = 8 then 0 else if b = 9 then -1 else if b = 10 then 0 else if b = 11 then 0 else mI M 15 b := fun b => by
    rw [b6 15 (by omega), ← hM5]
    by_cases z11 : b = 11
    · subst z11; rw [mI_s]; rfl
    · rw [mI_n _ _ _ _ z11, g4 15 (by decide), ← hM3]
      by_cases z10 : b = 10
      · subst z10; rw [mI_s]; rfl
      · rw [mI_n _ _ _ _ z10]
        by_cases z9 : b = 9
        · subst z9; rw [mI_s]; rfl
        · rw [mI_n _ _ _ _ z9]
          by_cases z8 : b = 8
          · subst z8; rw [mI_s]; rfl
          · rw [mI_n _ _ _ _ z8, g2 15 (by decide), g1 15 (by decide), if_neg z8, if_neg z9, if_neg z10, if_neg z11]
  have p18 : ∀ b, b < 256 → mI M6 18 b = 0 := fun b hb => by
    rw [b6 18 (by omega), ← hM5, mI_o _ _ _ _ _ (by decide), g4 18 (by decide), ← hM3, mI_o _ _ _ _ _ (by decide), mI_o _ _ _ _ _ (by decide), mI_o _ _ _ _ _ (by decide), g2 18 (by decide)]; exact f1 b hb
  have p19 : ∀ b, b < 16 → mI M6 19 b = 0 := fun b hb => by
    rw [b6 19 (by omega), ← hM5, mI_o _ _ _ _ _ (by decide), g4 19 (by decide), ← hM3, mI_o _ _ _ _ _ (by decide), mI_o _ _ _ _ _ (by decide), mI_o _ _ _ _ _ (by decide)]; exact f2 b hb
  have p20 : ∀ b, b < 6 → mI M6 20 b = 0 := fun b hb => by
    rw [b6 20 (by omega), ← hM5, mI_o _ _ _ _ _ (by decide)]; exact f4 b hb
  have po : ∀ o, o ≠ 15 → o ≠ 18 → o ≠ 19 → o ≠ 20 → ¬ (31 ≤ o ∧ o < 63) → ∀ b, mI M6 o b = mI M o b := fun o n1 n2 n3 n4 n5 b => by
    rw [b6 o (by omega), ← hM5, mI_o _ _ _ _ _ n1, g4 o n4, ← hM3, mI_o _ _ _ _ _ n1, mI_o _ _ _ _ _ n1, mI_o _ _ _ _ _ n1, g2 o n3, g1 o n2]
  have pL : ∀ o b, mL M6 o b = mL M o b := fun o b => by rw [c6, ← hM5]; exact (h4 o b).trans (L3 o b)
  clear b6 c6 f1 f2 f4 g1 g2 g4 h1 h2 h4
  generalize hMa : sI (sI M6 25 2 0) 25 3 0 = Ma
  generalize hMb : sI (sI Ma 27 2 0) 27 3 0 = Mb
  generalize hMc : sI (sI (sI (sI (sI (sI (sI (sI (sI Mb 14 7 0) 14 8 0) 14 9 0) 14 10 0) 14 11 0) 14 12 0) 14 13 0) 14 14 0) 14 15 0 = Mc
  generalize hMd : cpI Mc 2 0 29 0 16 = Md
  have Sa : Ma.1 = M.1 := by rw [← hMa]; exact S6
  have Sb : Mb.1 = M.1 := by rw [← hMb]; exact Sa
  have Sc : Mc.1 = M.1 := by rw [← hMc]; exact Sb
  have Sd : Md.1 = M.1 := by rw [← hMd]; exact Sc
  have sbc : SB Mc N (fS0 N B tr) := sb.e Sc (fun b => by
    rw [← hMc, ← hMb, ← hMa]
    simp only [mI_o _ _ _ _ _ (show (1 : Nat) ≠ 14 by decide), mI_o _ _ _ _ _ (show (1 : Nat) ≠ 27 by decide), mI_o _ _ _ _ _ (show (1 : Nat) ≠ 25 by decide)]
    exact po 1 (by decide) (by decide) (by decide) (by decide) (by omega) b) (fun b => by
    rw [← hMc, ← hMb, ← hMa]
    simp only [mI_o _ _ _ _ _ (show (2 : Nat) ≠ 14 by decide), mI_o _ _ _ _ _ (show (2 : Nat) ≠ 27 by decide), mI_o _ _ _ _ _ (show (2 : Nat) ≠ 25 by decide)]
    exact po 2 (by decide) (by decide) (by decide) (by decide) (by omega) b)
  have oc : ∀ o, o ≠ 14 → o ≠ 25 → o ≠ 27 → o ≠ 29 → ∀ b, mI Md o b = mI M6 o b := fun o n1 n2 n3 n4 b => by
    rw [← hMd, cp_I, if_neg (fun z => n4 z.1), ← hMc, ← hMb, ← hMa]
    simp only [mI_o _ _ _ _ _ n1, mI_o _ _ _ _ _ n2, mI_o _ _ _ _ _ n3]
  have d29 : ∀ v, v < N → mI Md 29 v = B v := fun v hv => by
    rw [← hMd, cp_I, if_pos ⟨rfl, by omega⟩, sbc.b hv]
    rw [fS0_R, if_neg (by decide), if_pos rfl]
  have d25 : mI Md 25 0 = nI 30 ∧ mI Md 25 2 = 0 ∧ mI Md 25 3 = 0 := by
    have g : ∀ b, mI Md 25 b = mI Ma 25 b := fun b => by
      rw [← hMd, cp_I, if_neg (by omega), ← hMc, ← hMb]
      simp only [mI_o _ _ _ _ _ (show (25 : Nat) ≠ 14 by decide), mI_o _ _ _ _ _ (show (25 : Nat) ≠ 27 by decide)]
    refine ⟨?_, ?_, ?_⟩
    · rw [g, ← hMa, mI_n _ _ _ _ (by decide), mI_n _ _ _ _ (by decide), po 25 (by decide) (by decide) (by decide) (by decide) (by omega)]; exact l30
    · rw [g, ← hMa, mI_n _ _ _ _ (by decide), mI_s]
    · rw [g, ← hMa, mI_s]
  have d27 : mI Md 27 0 = nI 40 ∧ mI Md 27 2 = 0 ∧ mI Md 27 3 = 0 := by
    have g : ∀ b, mI Md 27 b = mI Mb 27 b := fun b => by
      rw [← hMd, cp_I, if_neg (by omega), ← hMc]
      simp only [mI_o _ _ _ _ _ (show (27 : Nat) ≠ 14 by decide)]
    refine ⟨?_, ?_, ?_⟩
    · rw [g, ← hMb, mI_n _ _ _ _ (by decide), mI_n _ _ _ _ (by decide), ← hMa, mI_o _ _ _ _ _ (by decide), mI_o _ _ _ _ _ (by decide), po 27 (by decide) (by decide) (by decide) (by decide) (by omega)]; exact l40
    · rw [g, ← hMb, mI_n _ _ _ _ (by decide), mI_s]
    · rw [g, ← hMb, mI_s]
  have d14 : ∀ b, 7 ≤ b → b ≤ 15 → mI Md 14 b = 0 := fun b h1 h2 => by
    rw [← hMd, cp_I, if_neg (by omega), ← hMc]
    simp only [mI_sI, true_and]
    rcases (show b = 7 ∨ b = 8 ∨ b = 9 ∨ b = 10 ∨ b = 11 ∨ b = 12 ∨ b = 13 ∨ b = 14 ∨ b = 15 by omega) with rfl | rfl | rfl | rfl | rfl | rfl | rfl | rfl | rfl <;> rfl
  have dpl : ∀ v, v < 16 → ∀ j, j < 16 → j ≠ 10 → mI Md (14 + 17 + 2 * v) j = if j = 6 ∨ j = 7 then -1 else 0 := fun v hv j hj n => by
    rw [oc _ (by omega) (by omega) (by omega) (by omega)]
    exact a6 v (Nat.zero_le _) hv j hj n
  have dn : ∀ o, ¬ (14 ≤ o ∧ o < 63) → ∀ b, mI Md o b = mI M o b := fun o n b => by
    rw [oc o (by omega) (by omega) (by omega) (by omega), po o (by omega) (by omega) (by omega) (by omega) (by omega)]
  refine ⟨Md, ?_, Sd, fun X Y rm => ⟨q.e Sd, ?_, ⟨fun v hv => ?_, ?_⟩, ?_, ⟨?_, ?_⟩, ?_, fun v hv => ?_⟩, dn, fun o b => by rw [← hMd, ← hMc, ← hMb, ← hMa]; exact pL o b⟩
  · have ea : ∀ (M' : Mem), M'.1 = M.1 → f_X3_empty 25 M' = some (sI (sI M' 25 2 0) 25 3 0) := fun M' e => by
      rw [f_X3_empty, chk_t ((q.e e).io (i := 11) (c := 3) (by decide) (by decide) (by decide)), bnd_e, bnd_e]
    have eb : ∀ (M' : Mem), M'.1 = M.1 → f_X3_empty 27 M' = some (sI (sI M' 27 2 0) 27 3 0) := fun M' e => by
      rw [f_X3_empty, chk_t ((q.e e).io (i := 13) (c := 3) (by decide) (by decide) (by decide)), bnd_e, bnd_e]
    have ec : f_X5_clear n 15 M = some M5 := by
      have e0 : f_X5_clearLanes n (14 + 1) M = some M3 := by
        rw [f_X5_clearLanes, cs_p q, cs_r4 q, bnd_e, cs_a4 q, e1, obd_s, cs_p q1, cs_r5 q1, bnd_e, cs_a5 q1, e2, obd_s, cs_p q2, bnd_e, bnd_e, bnd_e]
        exact congrArg some hM3
      show f_X5_clear n (14 + 1) M = some M5
      rw [f_X5_clear, cs_p q, e0, obd_s, cs_p q3, cs_r6 q3, bnd_e, cs_a6 q3, e4, obd_s, cs_p q4, bnd_e]
      exact congrArg some hM5
    have qa := q.e Sa
    have qb := q.e Sb
    have qc := q.e Sc
    rw [f_X2_clear, cs_f q, cs_h1 q, bnd_e, cs_p q, ec, obd_s, show (0 : Int32) = nI 0 from rfl, e6, f_X2_clear_9, if_pos (show (16 : Int32) ≤ nI 16 by decide), cs_f q6, cs_h3 q6, bnd_e, chk_t (q6.io (i := 11) (c := 3) (by decide) (by decide) (by decide)), show f_X3_empty (14 + 11) M6 = some Ma by rw [← hMa]; exact ea M6 S6, obd_s, cs_f qa, cs_h4 qa, bnd_e, chk_t (qa.io (i := 13) (c := 3) (by decide) (by decide) (by decide)), show f_X3_empty (14 + 13) Ma = some Mb by rw [← hMb]; exact eb Ma Sa, obd_s, cs_f qb, bnd_e, bnd_e, bnd_e, bnd_e, bnd_e, bnd_e, bnd_e, bnd_e, hMc, bnd_e, cs_h0 qc, bnd_e, sbc.f, sbc.r2, bnd_e, sbc.a2, cs_h5 qc, bnd_e, cs_a15 qc, show (16 : Int32) = nI 16 from rfl, cp_st (la := mLn Mc 2) (lb := mLn Mc (14 + 15)) _ (by rw [sbc.2.2.1.1]; exact Nat.le_refl _) (by rw [qc.ln (i := 15) (c := 16) (by decide) (by decide) (by decide)]; exact Nat.le_refl _) (by decide)]
    exact congrArg some hMd
  · refine ⟨d5, d6, d7, len, fun _ => [], [], 0, fun _ => 256, ⟨ds.e Sd, ?_, ?_, ?_, ?_, ?_, ?_, ?_, ?_, ?_, ?_, ?_⟩, fun _ _ => rfl⟩
    · intro l _ z hz; cases hz
    · intro l _; exact List.nodup_nil
    · intro l _; exact trivial
    · intro l _ cs z h
      cases cs <;> cases h
    · intro l hl'
      show mI Md 18 l = nI 0
      rw [oc 18 (by decide) (by decide) (by decide) (by decide), p18 l hl']; rfl
    · intro f hf g hg
      show bt (mI Md 19 f) g = _
      rw [oc 19 (by decide) (by decide) (by decide) (by decide), p19 f hf, b_0]
      simp
    · intro k hk
      show mI Md 20 k = _
      rw [oc 20 (by decide) (by decide) (by decide) (by decide), p20 k hk, fS0_0 (by omega)]
    · refine ⟨List.nodup_nil, fun c hc => absurd hc (by simp), ?_⟩
      show mI Md 15 9 = -1
      rw [oc 15 (by decide) (by decide) (by decide) (by decide), p15]; rfl
    · refine ⟨?_, Nat.zero_le _, Nat.zero_le _, h18, h64⟩
      show mI Md 15 8 = nI 0
      rw [oc 15 (by decide) (by decide) (by decide) (by decide), p15]; rfl
    · show mI Md 15 11 = 0
      rw [oc 15 (by decide) (by decide) (by decide) (by decide), p15]; rfl
    · refine ⟨0, ?_, rfl, ?_⟩
      · show mI Md 15 10 = nI 0
        rw [oc 15 (by decide) (by decide) (by decide) (by decide), p15]; rfl
      · unfold flr
        rw [eq_comm, List.length_eq_zero_iff, List.flatMap_eq_nil_iff]
        intro l _
        rfl
  · have lim : ∀ p, p ∈ ft → p.1 < 16 ∧ p.1 ≠ 10 ∧ p.1 ≠ 7 ∧ (p.1 = 6 ∧ p.2 = 8 ∨ p.1 ≠ 6 ∧ p.2 ≠ 8 ∧ p.2 ≠ 17 ∧ p.2 ≠ 19 ∧ p.2 ≠ 20) := by decide
    refine ⟨fun p hp => ?_, ?_, fun z => ?_, fun u hu => ?_, fun w hw => by cases hw⟩
    · obtain ⟨l1, l2, l3, l4⟩ := lim p hp
      rw [dpl v hv _ l1 l2]
      rcases l4 with ⟨z1, z2⟩ | ⟨z1, z2, z3, z4, z5⟩
      · rw [if_pos (Or.inl z1), z2]; rfl
      · rw [if_neg (by omega), fS0_0 ⟨z2, z3, z4, z5⟩]
    · rw [dpl v hv 7 (by decide) (by decide)]; rfl
    · rw [fS0_0 (by omega)] at z; exact absurd z (by decide)
    · rw [dpl v hv 9 (by decide) (by decide), if_neg (by decide), b_0]; rfl
  · refine ⟨fun v hv => ?_, fun v hv => ?_, fun v hv => ?_, ?_, ?_, ?_, ?_, ?_, ?_⟩
    · rw [d14 7 (by decide) (by decide), b_0]
      symm
      apply decide_eq_false
      rintro ⟨_, z⟩
      rw [fS0_0 (by omega)] at z; exact absurd z (by decide)
    · rw [d14 8 (by decide) (by decide), b_0]
      symm
      apply decide_eq_false
      rintro ⟨_, z⟩
      rw [fS0_0 (by omega)] at z; exact absurd z (by decide)
    · rw [d14 9 (by decide) (by decide), b_0]
      symm
      apply decide_eq_false
      rintro ⟨_, z⟩
      rw [fS0_0 (by omega)] at z; exact absurd z (by decide)
    · rw [d14 10 (by decide) (by decide), fS0_0 (by omega)]
    · rw [d14 11 (by decide) (by decide), fS0_0 (by omega)]
    · rw [d14 12 (by decide) (by decide), fS0_0 (by omega)]
    · rw [d14 13 (by decide) (by decide), fS0_0 (by omega)]
    · rw [d14 14 (by decide) (by decide), fS0_0 (by omega)]
    · rw [d14 15 (by decide) (by decide), fS0_0 (by omega)]
  · unfold Rm mN mU mLn mR at rm ⊢
    rw [Sd]; exact rm
  · exact LG_0 d25.1 d25.2.1 d25.2.2
  · exact LG_0 d27.1 d27.2.1 d27.2.2
  · rw [dn 1 (by omega)]; exact sb.n
  · exact d29 v hv
