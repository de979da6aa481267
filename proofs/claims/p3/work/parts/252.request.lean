/-! ===== the class hears a request ===== -/
theorem HV.s7 {M : Mem} {h X Y N : Nat} {t : Int32} {Q : Nat → Int32} {S : St} {pb pt : List Row4} (p : HV M h X Y t N Q S pb pt) {a g : Nat} (ha : a < 16) (hg : g < 16) (h8 : xR S 8 a = nI g) : mI M (h + 17 + 2 * a) 7 = xR S 9 a := by
  obtain ⟨_, a2, _⟩ := p.2.2.1.1 a ha
  rw [a2, if_neg (show ¬ xR S 8 a = -1 by rw [h8]; exact nI_m1 hg)]
theorem HV.iag {M : Mem} {h X Y N : Nat} {t : Int32} {Q : Nat → Int32} {S : St} {pb pt : List Row4} (p : HV M h X Y t N Q S pb pt) {a g : Nat} {w : Wtr} (ha : a < 16) (hg : g < 16) (h8 : xR S 8 a = nI g) (hw : w ∈ xW S a) (hw6 : w.1 < 16) : f_X4_isAheadOfGranted (h + 17 + 2 * a) (nI w.1) M = some (if ahd w.2 (nI w.1) (xR S 9 a) (xR S 8 a) then 1 else 0) := by
  obtain ⟨_, _, _, _, a5⟩ := p.2.2.1.1 a ha
  have q := p.1
  rw [f_X4_isAheadOfGranted, cs_po q ha, cs_pr q ha, bnd_e, cs_pa q ha, cs_pi q ha hw6, mI_c (by omega), a5 w hw, p.s7 ha hg h8, p.fs ha (a := 6) (k := 8) (by decide), f_ah9, obd_s, chk_t]
  by_cases c : ahd w.2 (nI w.1) (xR S 9 a) (xR S 8 a) = true
  · rw [if_pos c]; exact Or.inr rfl
  · rw [if_neg c]; exact Or.inl rfl
theorem HV.r102 {M : Mem} {h X Y N n : Nat} {t : Int32} {Q : Nat → Int32} {S : St} {pb pt : List Row4} (p : HV M h X Y t N Q S pb pt) {a g : Nat} (ha : a < 16) (hg : g < 16) (h8 : xR S 8 a = nI g) (h10 : xR S 10 a = 0 ∨ xR S 10 a = 1) (hl : (fl S).length < 9000) : ∃ M', f_X2_hearRequest_102 n h (nI a) (h + 17 + 2 * a) M = some M' ∧ HV M' h X Y t N Q (rq3 t a S) pb pt ∧ FrH M M' h := by
  have q := p.1
  rw [f_X2_hearRequest_102, cs_po q ha, p.fs ha (a := 8) (k := 10) (by decide)]
  unfold rq3
  by_cases c : xR S 10 a = 1
  · rw [if_pos c, if_neg (by rw [c]; decide)]
    exact ⟨M, rfl, p, FrH.rf _ _⟩
  · have c0 : xR S 10 a = 0 := h10.resolve_right c
    rw [if_neg c, if_pos c0]
    obtain ⟨p1, f1⟩ := p.fld (a := 8) (k := 10) (x := 1) ha (by decide) (by decide)
    generalize hMa : sI M (h + 17 + 2 * a) 8 1 = Ma at p1 f1
    have k8 : xR (uR S 10 a 1) 8 a = nI g := by rw [xR_uR, if_neg (by omega)]; exact h8
    have k9 : xR (uR S 10 a 1) 9 a = xR S 9 a := by rw [xR_uR, if_neg (by omega)]
    have m6 := p1.fs ha (a := 6) (k := 8) (by decide)
    have m7 := p1.s7 ha hg k8
    rw [k8] at m6
    rw [k9] at m7
    obtain ⟨M2, e2, p2, f2⟩ := p1.put (k := 3) (f := a) (g := g) (s := xR S 9 a) hl (by decide) ha hg
    refine ⟨M2, ?_, ?_, f1.tr f2⟩
    · rw [chk_t (Or.inr rfl), bnd_e, cs_f p1.1, cs_h1 p1.1, bnd_e, cs_p p1.1, m6, m7, show f_X5_put (h + 1) 3 (nI a) (nI g) (xR S 9 a) Ma = some M2 from e2, obd_s]
    · rw [gn_e h8 hg]; exact p2
