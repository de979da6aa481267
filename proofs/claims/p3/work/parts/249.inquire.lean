/-! ===== the class hears an inquiry ===== -/
theorem HV.ia {M : Mem} {h X Y N : Nat} {t : Int32} {Q : Nat → Int32} {S : St} {pb pt : List Row4} (p : HV M h X Y t N Q S pb pt) {v : Nat} {s : Int32} (hv : v < 16) : f_X2_isAskingBy h (nI v) s M = some (if xR S 0 v = 1 ∧ xR S 2 v = s then 1 else 0) := by
  obtain ⟨_, _, g8, _⟩ := p.2.2.1
  have q := p.1
  rw [f_X2_isAskingBy, cs_f q, f_has9 _ (by omega), obd_s, g8 v (by omega)]
  by_cases c : xR S 0 v = 1
  · rw [decide_eq_true ⟨hv, c⟩, if_pos rfl, if_neg (by decide), cs_h2 q, bnd_e, cs_a10 q, cs_i10 q hv, cs_rpc q hv, bnd_e, cs_po q hv, p.fs hv (a := 1) (k := 2) (by decide)]
    by_cases d : xR S 2 v = s
    · rw [if_pos d, if_pos ⟨c, d⟩]
    · rw [if_neg d, if_neg (fun z => d z.2)]
  · rw [decide_eq_false (fun z => c z.2), if_pos (by decide), if_neg (fun z => c z.1)]
set_option maxHeartbeats 1000000 in
theorem HV.tiq {M : Mem} {h X Y N : Nat} {t : Int32} {Q : Nat → Int32} {S : St} {pb pt : List Row4} (p : HV M h X Y t N Q S pb pt) {a v : Nat} {s : Int32} (ha : a < 16) (hv : v < 16) (hl : (fl S).length < 9000) : ∃ M', f_X2_hearInquire h (nI a) (nI v) s M = some M' ∧ HV M' h X Y t N Q (if xR S 0 v = 1 ∧ xR S 2 v = s then iq t v a S else S) pb pt ∧ FrH M M' h := by
  have q := p.1
  rw [f_X2_hearInquire, cs_f q, cs_h2 q, bnd_e, cs_a10 q, cs_i10 q hv, cs_rpc q hv, bnd_e, cs_po q hv, p.ia hv, obd_s]
  by_cases c : xR S 0 v = 1 ∧ xR S 2 v = s
  · rw [if_pos c, if_pos c, if_neg (by decide), p.fs hv (a := 3) (k := 4) (by decide), f_has9 _ (by omega), obd_s]
    unfold iq
    by_cases d : bt (xR S 4 v) a = true
    · rw [if_pos d, if_pos d, if_neg (by decide), p.fs hv (a := 5) (k := 6) (by decide)]
      by_cases e : xR S 6 v = 0
      · rw [if_pos e, if_pos e, p.fs hv (a := 4) (k := 5) (by decide)]
        obtain ⟨p1, f1⟩ := p.fld (a := 4) (k := 5) (x := bon (xR S 5 v) a) hv (by decide) (by decide)
        exact ⟨_, rfl, p1, f1⟩
      · rw [if_neg e, if_neg e, cs_h1 q, bnd_e, cs_p q]
        obtain ⟨M1, e1, p1, f1⟩ := p.put (k := 4) (f := v) (g := a) (s := s) hl (by decide) hv ha
        obtain ⟨p2, f2⟩ := p1.fld (a := 3) (k := 4) (x := bof (xR S 4 v) a) hv (by decide) (by decide)
        have r4 := p1.fs hv (a := 3) (k := 4) (by decide)
        rw [sn_R _ _ _ _ _ _ (by decide)] at r4
        generalize hMa : sI M1 (h + 17 + 2 * v) 3 (bof (xR S 4 v) a) = Ma at p2 f2
        have r6 := p2.fs hv (a := 5) (k := 6) (by decide)
        rw [xR_uR, if_neg (by omega), sn_R _ _ _ _ _ _ (by decide)] at r6
        obtain ⟨p3, f3⟩ := p2.fld (a := 5) (k := 6) (x := bon (xR S 6 v) a) hv (by decide) (by decide)
        refine ⟨sI Ma (h + 17 + 2 * v) 5 (bon (xR S 6 v) a), ?_, ?_, (f1.tr f2).tr f3⟩
        · rw [show f_X5_put (h + 1) 4 (nI v) (nI a) s M = some M1 from e1, obd_s, cs_po p1.1 hv, r4, show (xR S 4 v &&& (((1 : Int32) <<< (nI a &&& 31)) ^^^ (-1 : Int32))) = bof (xR S 4 v) a from rfl, hMa, bnd_e, r6, show (xR S 6 v ||| ((1 : Int32) <<< (nI a &&& 31))) = bon (xR S 6 v) a from rfl, bnd_e]
        · unfold yT
          rw [c.2]
          exact p3
    · rw [if_neg d, if_neg d, if_pos rfl]
      exact ⟨M, rfl, p, FrH.rf _ _⟩
  · rw [if_neg c, if_neg c, if_pos rfl]
    exact ⟨M, rfl, p, FrH.rf _ _⟩
