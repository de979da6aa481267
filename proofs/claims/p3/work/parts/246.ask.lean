theorem cs_h5 {M : Mem} {h : Nat} (q : CS M h) : mR M h 5 = h + 15 := q.r (a := 0) (b := 5) (c := 15) (by decide)
theorem cs_a15 {α : Type} {M : Mem} {h : Nat} (q : CS M h) (x : Option α) : chk (isO M 100 (h + 15)) x = x := chk_t (q.io (i := 15) (by decide) (by decide) (by decide))
theorem cs_i15 {α : Type} {M : Mem} {h : Nat} (q : CS M h) {k : Nat} (hk : k < 16) (x : Option α) : chk (inB (nI k) (mLn M (h + 15))) x = x := by
  refine chk_t ?_
  rw [q.ln (i := 15) (c := 16) (by decide) (by decide) (by decide)]; exact inB_n hk (by decide)
theorem HP.s14 {M : Mem} {h : Nat} {S : St} (p : HP M h S) {v : Nat} {x : Int32} (hv : v < 16) : HP (sI M (h + 17 + 2 * v) 14 x) h (uR S 14 v x) := by
  obtain ⟨a1, a2, a3, a4, a5⟩ := p.1 v hv
  have lim : ∀ p, p ∈ ft → p.1 ≠ 14 ∧ p.2 ≠ 14 := by decide
  have r : ∀ k' i, k' ≠ 14 → xR (uR S 14 v x) k' i = xR S k' i := fun k' i n => by rw [xR_uR, if_neg (fun z => n z.1)]
  refine p.at ⟨fun p hp => ?_, ?_, fun z => ?_, fun u hu => ?_, fun w hw => ?_⟩ (fun o _ n _ b => by rw [mI_o _ _ _ _ _ n]) (fun k' i n _ _ _ => by rw [xR_uR, if_neg (fun z => n z.2)]) (r 0 v (by decide)) (r 7 v (by decide)) (by funext i; exact r 15 i (by decide)) (fun _ _ => rfl)
  · rw [mI_n _ _ _ _ (lim p hp).1, r _ _ (lim p hp).2]; exact a1 p hp
  · rw [mI_n _ _ _ _ (by decide), r _ _ (by decide), r _ _ (by decide)]; exact a2
  · rw [mI_s, xR_uR, if_pos ⟨rfl, rfl⟩]
  · rw [mI_n _ _ _ _ (by decide)]; exact a4 u hu
  · rw [mI_o _ _ _ _ _ (by omega)]; exact a5 w hw
theorem HV.s14 {M : Mem} {h X Y N : Nat} {t : Int32} {Q : Nat → Int32} {S : St} {pb pt : List Row4} (p : HV M h X Y t N Q S pb pt) {v : Nat} {x : Int32} (hv : v < 16) : HV (sI M (h + 17 + 2 * v) 14 x) h X Y t N Q (uR S 14 v x) pb pt ∧ FrH M (sI M (h + 17 + 2 * v) 14 x) h :=
  ⟨p.at rfl (fun o n b => mI_o _ _ _ _ _ (by omega)) (p.2.2.1.s14 hv) rfl (by funext i; rw [xR_uR, if_neg (fun z => by have := z.1; omega)]) rfl rfl, FrH.sI (by omega)⟩
set_option maxHeartbeats 2000000 in
theorem HV.tak {M : Mem} {h X Y N n : Nat} {t : Int32} {Q : Nat → Int32} {S : St} {pb pt : List Row4} (p : HV M h X Y t N Q S pb pt) (h16 : N ≤ 16) {v : Nat} (hv : v < N) (h0 : xR S 0 v ≠ 2) (hQ : qm N S v = Q v) (hl : (fl S).length + N ≤ 9000) (hn : 17 ≤ n) : ∃ M', f_X2_startAsking n h (nI v) M = some M' ∧ HV M' h X Y t N Q (ak t N v S) pb pt ∧ FrH M M' h := by
  have hv6 : v < 16 := by omega
  have q := p.1
  generalize hc : xR S 1 v + 1 = c
  obtain ⟨p1, f1⟩ := p.fld (a := 0) (k := 1) (x := c) hv6 (by decide) (by decide)
  generalize hMa : sI M (h + 17 + 2 * v) 0 c = Ma at p1 f1
  obtain ⟨p2, f2⟩ := p1.fld (a := 1) (k := 2) (x := c) hv6 (by decide) (by decide)
  generalize hMb : sI Ma (h + 17 + 2 * v) 1 c = Mb at p2 f2
  obtain ⟨Mc, e3, p3, f3, s3⟩ := p2.rest hv6
  obtain ⟨p4, f4⟩ := p3.fld (a := 2) (k := 3) (x := Q v) hv6 (by decide) (by decide)
  generalize hMd : sI Mc (h + 17 + 2 * v) 2 (Q v) = Md at p4 f4
  have b10 : mI Md h 10 = xR S 15 1 := by
    have := p4.2.2.1.2.2.2.2.1
    rw [this]
    simp [xR_uR]
  obtain ⟨p5, f5⟩ := p4.fld (a := 13) (k := 13) (x := xR S 15 1) hv6 (by decide) (by decide)
  generalize hMe : sI Md (h + 17 + 2 * v) 13 (xR S 15 1) = Me at p5 f5
  obtain ⟨p6, f6⟩ := p5.s14 (x := 0) hv6
  generalize hMf : sI Me (h + 17 + 2 * v) 14 0 = Mf at p6 f6
  generalize hS6 : uR (uR (uR (uR (uR (uR (uR (uR (uR S 1 v c) 2 v c) 3 v 0) 4 v 0) 5 v 0) 6 v 0) 3 v (Q v)) 13 v (xR S 15 1)) 14 v 0 = S6 at p6
  have r0 : ∀ u, xR S6 0 u = xR S 0 u := fun u => by rw [← hS6]; simp [xR_uR]
  generalize hMg : sI Mf h 8 (bon (mI Mf h 8) v) = Mg
  have sg : Mg.1 = Mf.1 := by rw [← hMg]; rfl
  have og : ∀ o, o ≠ h → ∀ b, mI Mg o b = mI Mf o b := fun o n b => by rw [← hMg, mI_o _ _ _ _ _ n]
  obtain ⟨_, g7, g8, _⟩ := id p6.2.2.1
  have hpg : HP Mg h (uR S6 0 v 1) := by
    refine p6.2.2.1.stt (fun u hu => ?_) (fun u hu => ?_) og (fun b _ n8 => by rw [← hMg, mI_n _ _ _ _ n8]) (fun _ => ?_)
    · rw [← hMg, mI_n _ _ _ _ (by decide), g7 u hu]
      by_cases d : u = v
      · rw [if_pos d, d, r0]; simp [h0]
      · rw [if_neg d]
    · rw [← hMg, mI_s, bt_on _ (by omega) hu, g8 u hu]
      by_cases d : u = v
      · rw [if_pos d]; simp [d, hv6]
      · rw [if_neg d]; simp [d]
    · rw [← hMf, mI_s, ← hS6, xR_uR, if_pos ⟨rfl, rfl⟩]
  have p7 : HV Mg h X Y t N Q (uR S6 0 v 1) pb pt := p6.at sg (fun o n b => og o (fun z => n (Or.inl z)) b) hpg rfl (by funext i; rw [xR_uR, if_neg (fun z => by have := z.1; omega)]) rfl rfl
  have f7 : FrH Mf Mg h := FrH.of sg (fun o n b => og o (fun z => n (by omega)) b) (fun o b => by rw [← hMg]; rfl)
  have r2 : xR (uR S6 0 v 1) 2 v = c := by rw [← hS6]; simp [xR_uR]
  have r3 : mI Mg (h + 17 + 2 * v) 2 = Q v := by rw [p7.fs hv6 (a := 2) (k := 3) (by decide), ← hS6]; simp [xR_uR]
  have l6 : xL (uR S6 0 v 1) = xL S := by rw [← hS6]; rfl
  obtain ⟨M', e', p', f'⟩ := p7.tsA h16 (k := 0) (f := v) (by decide) hv6 (Q v) (by unfold fl at hl ⊢; rw [l6]; exact hl) hn
  refine ⟨M', ?_, ?_, ((((((f1.tr f2).tr f3).tr f4).tr f5).tr f6).tr f7).tr f'⟩
  · have qc := p3.1
    have ea : mI Ma (h + 17 + 2 * v) 0 = c := by rw [← hMa, mI_s]
    rw [f_X2_startAsking, cs_f q, cs_h2 q, bnd_e, cs_a10 q, cs_i10 q hv6, cs_rpc q hv6, bnd_e, cs_po q hv6, p.fs hv6 (a := 0) (k := 1) (by decide), hc, hMa, bnd_e, ea, hMb, bnd_e, e3, obd_s, cs_f qc, cs_h5 qc, bnd_e, cs_a15 qc, cs_i15 qc hv6, cs_po qc hv6, mI_c (by omega), p3.2.2.2.2.2.2 v hv, hMd, bnd_e, b10, hMe, bnd_e, hMf, bnd_e, show (mI Mf h 8 ||| ((1 : Int32) <<< (nI v &&& 31))) = bon (mI Mf h 8) v from rfl, hMg, bnd_e, r3]
    rw [show f_X2_sendToAll n h 0 (nI v) (Q v) Mg = some M' from e', obd_s]
  · rw [r2] at p'
    have : uR S6 0 v 1 = uR (uR (uR (uR (uR (uR (uR (uR (uR S 1 v c) 2 v c) 3 v (Q v)) 4 v 0) 5 v 0) 6 v 0) 0 v 1) 13 v (xR S 15 1)) 14 v 0 := by
      rw [← hS6, uR_co (k := 14) (k' := 0) _ (by decide), uR_co (k := 13) (k' := 0) _ (by decide), uR_co (k := 6) (k' := 3) _ (by decide), uR_co (k := 5) (k' := 3) _ (by decide), uR_co (k := 4) (k' := 3) _ (by decide), uR_uR]
    rw [this] at p'
    unfold ak
    rw [hQ, hc]
    exact p'
