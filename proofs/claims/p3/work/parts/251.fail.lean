set_option maxHeartbeats 1000000 in
theorem HV.tfd {M : Mem} {h X Y N n : Nat} {t : Int32} {Q : Nat → Int32} {S : St} {pb pt : List Row4} (p : HV M h X Y t N Q S pb pt) (h16 : N ≤ 16) {a v : Nat} {s : Int32} (hv : v < 16) (hd0 : xR S 0 v = 1 → ∀ i, N ≤ i → i < 32 → bt (xR S 5 v) i = false) (hl : (fl S).length + N ≤ 9000) (hn : 17 ≤ n) : ∃ M', f_X2_hearFail n h (nI a) (nI v) s M = some M' ∧ HV M' h X Y t N Q (if xR S 0 v = 1 ∧ xR S 2 v = s then fd t N v a S else S) pb pt ∧ FrH M M' h := by
  have q := p.1
  rw [f_X2_hearFail, cs_f q, cs_h2 q, bnd_e, cs_a10 q, cs_i10 q hv, cs_rpc q hv, bnd_e, cs_po q hv, p.ia hv, obd_s]
  by_cases c : xR S 0 v = 1 ∧ xR S 2 v = s
  · have hd := hd0 c.1
    rw [if_pos c, if_pos c, if_neg (by decide), p.fs hv (a := 5) (k := 6) (by decide)]
    obtain ⟨p1, f1⟩ := p.fld (a := 5) (k := 6) (x := bon (xR S 6 v) a) hv (by decide) (by decide)
    generalize hMa : sI M (h + 17 + 2 * v) 5 (bon (xR S 6 v) a) = Ma at p1 f1
    generalize hS6 : uR S 6 v (bon (xR S 6 v) a) = S6 at p1
    have q2 : xR S6 2 v = xR S 2 v := by rw [← hS6, xR_uR, if_neg (by omega)]
    have q4 : xR S6 4 v = xR S 4 v := by rw [← hS6, xR_uR, if_neg (by omega)]
    have q5 : xR S6 5 v = xR S 5 v := by rw [← hS6, xR_uR, if_neg (by omega)]
    have q6 : xR S6 6 v = bon (xR S 6 v) a := by rw [← hS6, xR_uR, if_pos ⟨rfl, rfl⟩]
    have m4 := p1.fs hv (a := 4) (k := 5) (by decide)
    rw [q5] at m4
    generalize hdd : xR S 5 v = d at *
    obtain ⟨M2, e2, p2, f2⟩ := p1.tsA h16 (k := 4) (f := v) (by decide) hv d (by rw [← hS6]; exact hl) hn
    have sR : ∀ k, k ≠ 16 → xR (sA t N 4 v d (xR S6 2 v) S6) k v = xR S6 k v := fun k hk => by unfold sA; exact sAl_R _ _ _ _ _ hk _ _
    generalize hT : sA t N 4 v d (xR S6 2 v) S6 = T at p2 sR
    have n3 := p2.fs hv (a := 3) (k := 4) (by decide)
    have n4 := p2.fs hv (a := 4) (k := 5) (by decide)
    have n5 := p2.fs hv (a := 5) (k := 6) (by decide)
    rw [sR _ (by decide), q4] at n3
    rw [sR _ (by decide), q5] at n4
    rw [sR _ (by decide), q6] at n5
    have mw : ∀ w, w ∈ List.range N → w < 32 := fun w hw => by have := List.mem_range.mp hw; omega
    have b4 : xR S 4 v &&& (d ^^^ (-1 : Int32)) = bfl d (List.range N) (xR S 4 v) := by
      apply b_ext
      intro i hi
      rw [b_and, b_not _ hi, bfl_b _ _ _ mw i hi]
      by_cases z : i < N
      · simp [z]
      · simp [z, hd i (by omega) hi]
    have b6 : bon (xR S 6 v) a ||| d = bnl d (List.range N) (bon (xR S 6 v) a) := by
      apply b_ext
      intro i hi
      rw [b_or, bnl_b _ _ _ mw i hi]
      by_cases z : i < N
      · simp [z]
      · simp [z, hd i (by omega) hi]
    obtain ⟨p3, f3⟩ := p2.fld (a := 3) (k := 4) (x := bfl d (List.range N) (xR S 4 v)) hv (by decide) (by decide)
    obtain ⟨p4, f4⟩ := p3.fld (a := 5) (k := 6) (x := bnl d (List.range N) (bon (xR S 6 v) a)) hv (by decide) (by decide)
    obtain ⟨p5, f5⟩ := p4.fld (a := 4) (k := 5) (x := 0) hv (by decide) (by decide)
    refine ⟨_, ?_, ?_, (((f1.tr f2).tr f3).tr f4).tr f5⟩
    · rw [show (xR S 6 v ||| ((1 : Int32) <<< (nI a &&& 31))) = bon (xR S 6 v) a from rfl, hMa, bnd_e, m4, show f_X2_sendToAll n h 4 (nI v) d Ma = some M2 from e2, obd_s, cs_po p2.1 hv, n3, n4, b4, bnd_e, mI_n _ _ _ _ (by decide), mI_n _ _ _ _ (by decide), n5, n4, b6, bnd_e, bnd_e]
    · have ef : fd t N v a S = uR (uR (uR T 4 v (bfl d (List.range N) (xR S 4 v))) 6 v (bnl d (List.range N) (bon (xR S 6 v) a))) 5 v 0 := by
        unfold fd
        rw [hdd, hS6, fdl_e, q4, q6]
        rw [show sAl t 4 v d (xR S6 2 v) (List.range N) S6 = T from hT]
      rw [ef]
      exact p5
  · rw [if_neg c, if_neg c, if_pos rfl]
    exact ⟨M, rfl, p, FrH.rf _ _⟩
