/-! ===== the class: what is written down of a bringing ===== -/
def bmp (v : Nat) (S : St) : St := if xR S 0 v = 1 then uR S 14 v (xR S 14 v + 1) else S
theorem bmp_R (v : Nat) (S : St) (k i : Nat) : xR (bmp v S) k i = if k = 14 ∧ i = v ∧ xR S 0 v = 1 then xR S 14 v + 1 else xR S k i := by
  unfold bmp
  by_cases c : xR S 0 v = 1
  · rw [if_pos c, xR_uR]
    by_cases d : k = 14 ∧ i = v
    · rw [if_pos d, if_pos ⟨d.1, d.2, c⟩]
    · rw [if_neg d, if_neg (fun z => d ⟨z.1, z.2.1⟩)]
  · rw [if_neg c, if_neg (fun z => c z.2.2)]
theorem bmp_2 (v : Nat) (S : St) : (bmp v S).2 = S.2 := by
  unfold bmp
  split <;> rfl
theorem wtl_R (f g : Nat) (k i : Nat) : ∀ (ws : List Nat) (S : St), ws.Nodup → xR (wtl f g ws S) k i = if k = 14 ∧ i ∈ ws ∧ xR S 0 i = 1 ∧ (i = f ∨ i = g) then xR S 14 i + 1 else xR S k i := by
  intro ws
  induction ws with
  | nil => intro S _; rw [if_neg (fun z => by simp at z)]; rfl
  | cons w ws ih =>
    intro S hd
    have hd2 := List.nodup_cons.mp hd
    have e : wtl f g (w :: ws) S = wtl f g ws (if xR S 0 w = 1 ∧ (w = f ∨ w = g) then uR S 14 w (xR S 14 w + 1) else S) := by
      unfold wtl; rw [List.foldl_cons]
    rw [e, ih _ hd2.2]
    by_cases c : xR S 0 w = 1 ∧ (w = f ∨ w = g)
    · rw [if_pos c]
      have e0 : xR (uR S 14 w (xR S 14 w + 1)) 0 i = xR S 0 i := by rw [xR_uR, if_neg (by omega)]
      rw [e0]
      by_cases d : k = 14 ∧ i ∈ ws ∧ xR S 0 i = 1 ∧ (i = f ∨ i = g)
      · have n : i ≠ w := fun z => hd2.1 (z ▸ d.2.1)
        rw [if_pos d, if_pos ⟨d.1, List.mem_cons_of_mem _ d.2.1, d.2.2⟩, xR_uR, if_neg (fun z => n z.2)]
      · rw [if_neg d, xR_uR]
        by_cases b : k = 14 ∧ i = w
        · rw [if_pos b, if_pos ⟨b.1, by rw [b.2]; simp, by rw [b.2]; exact c⟩, b.2]
        · rw [if_neg b, if_neg]
          rintro ⟨z1, z2, z3⟩
          rcases List.mem_cons.mp z2 with z | z
          · exact b ⟨z1, z⟩
          · exact d ⟨z1, z, z3⟩
    · rw [if_neg c]
      by_cases d : k = 14 ∧ i ∈ ws ∧ xR S 0 i = 1 ∧ (i = f ∨ i = g)
      · rw [if_pos d, if_pos ⟨d.1, List.mem_cons_of_mem _ d.2.1, d.2.2⟩]
      · rw [if_neg d, if_neg]
        rintro ⟨z1, z2, z3⟩
        rcases List.mem_cons.mp z2 with z | z
        · exact c (z ▸ z3)
        · exact d ⟨z1, z, z3⟩
theorem wtl_e {N f g : Nat} (hf : f < N) (hg : g < N) (S : St) : wtl f g (List.range N) S = if f = g then bmp g S else bmp f (bmp g S) := by
  have h2 : (wtl f g (List.range N) S).2 = S.2 := wtl_W f g _ S
  have hR : ∀ k i, xR (wtl f g (List.range N) S) k i = xR (if f = g then bmp g S else bmp f (bmp g S)) k i := fun k i => by
    rw [wtl_R f g k i _ S List.nodup_range]
    have m : i ∈ List.range N ↔ i < N := List.mem_range
    by_cases c : f = g
    · subst c
      rw [if_pos rfl, bmp_R]
      by_cases d : k = 14 ∧ i = f ∧ xR S 0 f = 1
      · rw [if_pos d, if_pos ⟨d.1, m.mpr (by omega), by rw [d.2.1]; exact d.2.2, Or.inl d.2.1⟩, d.2.1]
      · rw [if_neg d, if_neg]
        rintro ⟨z1, _, z3, z4⟩
        rcases z4 with z4 | z4
        · exact d ⟨z1, z4, z4 ▸ z3⟩
        · exact d ⟨z1, z4, z4 ▸ z3⟩
    · rw [if_neg c, bmp_R, bmp_R, bmp_R, bmp_R, if_neg (show ¬ ((0 : Nat) = 14 ∧ f = g ∧ xR S 0 g = 1) from fun z => by omega), if_neg (show ¬ ((14 : Nat) = 14 ∧ f = g ∧ xR S 0 g = 1) from fun z => c z.2.1)]
      by_cases d : k = 14 ∧ i = f ∧ xR S 0 f = 1
      · rw [if_pos d, if_pos ⟨d.1, m.mpr (by omega), by rw [d.2.1]; exact d.2.2, Or.inl d.2.1⟩, d.2.1]
      · rw [if_neg d]
        by_cases b : k = 14 ∧ i = g ∧ xR S 0 g = 1
        · rw [if_pos b, if_pos ⟨b.1, m.mpr (by omega), by rw [b.2.1]; exact b.2.2, Or.inr b.2.1⟩, b.2.1]
        · rw [if_neg b, if_neg]
          rintro ⟨z1, _, z3, z4⟩
          rcases z4 with z4 | z4
          · exact d ⟨z1, z4, z4 ▸ z3⟩
          · exact b ⟨z1, z4, z4 ▸ z3⟩
  have hZ : (if f = g then bmp g S else bmp f (bmp g S)).2 = S.2 := by
    split
    · exact bmp_2 _ _
    · rw [bmp_2, bmp_2]
  have h3 := h2.trans hZ.symm
  refine St.ext hR ?_ ?_ ?_ ?_
  · unfold xW; rw [h3]
  · unfold xL; rw [h3]
  · unfold xE; rw [h3]
  · unfold xT; rw [h3]
theorem HV.b14 {M : Mem} {h X Y N : Nat} {t : Int32} {Q : Nat → Int32} {S : St} {pb pt : List Row4} (p : HV M h X Y t N Q S pb pt) {v : Nat} (hv : v < 16) : HV (sI M (h + 17 + 2 * v) 14 ((mI M (h + 17 + 2 * v) 14) + (1 : Int32))) h X Y t N Q (bmp v S) pb pt ∧ FrH M (sI M (h + 17 + 2 * v) 14 ((mI M (h + 17 + 2 * v) 14) + (1 : Int32))) h := by
  obtain ⟨a1, a2, a3, a4, a5⟩ := p.2.2.1.1 v hv
  unfold bmp
  by_cases c : xR S 0 v = 1
  · rw [if_pos c, a3 c]
    exact p.s14 hv
  · rw [if_neg c]
    refine ⟨p.at rfl (fun o n b => mI_o _ _ _ _ _ (by omega)) (p.2.2.1.at ⟨fun p hp => ?_, ?_, fun z => absurd z c, fun u hu => ?_, fun w hw => ?_⟩ (fun o _ n _ b => mI_o _ _ _ _ _ n) (fun _ _ _ _ _ _ => rfl) rfl rfl rfl (fun _ _ => rfl)) rfl rfl rfl rfl, FrH.sI (by omega)⟩
    · have lim : ∀ p, p ∈ ft → p.1 ≠ 14 := by decide
      rw [mI_n _ _ _ _ (lim p hp)]; exact a1 p hp
    · rw [mI_n _ _ _ _ (by decide)]; exact a2
    · rw [mI_n _ _ _ _ (by decide)]; exact a4 u hu
    · rw [mI_o _ _ _ _ _ (by omega)]; exact a5 w hw
set_option maxHeartbeats 1000000 in
theorem HV.twt {M : Mem} {h X Y N : Nat} {t : Int32} {Q : Nat → Int32} {S : St} {pb pt : List Row4} (p : HV M h X Y t N Q S pb pt) (h16 : N ≤ 16) {k f g : Nat} (hf : f < N) (hg : g < N) (s : Int32) : ∃ M', f_X2_noteBringing h (nI k) (nI f) (nI g) s M = some M' ∧ HV M' h X Y t N Q (wt N k f g s S) pb pt ∧ FrH M M' h := by
  have q := p.1
  have f6 : f < 16 := by omega
  have g6 : g < 16 := by omega
  have g10 := p.gs (b := 10) (j := 1) (by decide)
  obtain ⟨p1, f1⟩ := p.gw (b := 10) (j := 1) (by decide) (xR S 15 1 + 1)
  generalize hMa : sI M h 10 (xR S 15 1 + 1) = Ma at p1 f1
  obtain ⟨Mb, e2, p2, f2⟩ := p1.lgT (nI k) (nI f) (nI g) s
  have b12 := p2.fs g6 (a := 12) (k := 18) (by decide)
  rw [xR_uT, xR_uR, if_neg (by omega)] at b12
  obtain ⟨p3, f3⟩ := p2.fld (a := 12) (k := 18) (x := xR S 18 g + 1) g6 (by decide) (by decide)
  generalize hMc : sI Mb (h + 17 + 2 * g) 12 (xR S 18 g + 1) = Mc at p3 f3
  obtain ⟨p4, f4⟩ := p3.b14 g6
  generalize hMd : sI Mc (h + 17 + 2 * g) 14 ((mI Mc (h + 17 + 2 * g) 14) + (1 : Int32)) = Md at p4 f4
  have q1 := p1.1
  have q2 := p2.1
  have q3 := p3.1
  have q4 := p4.1
  have ew : wt N k f g s S = if f = g then bmp g (uR (uT (uR S 15 1 (xR S 15 1 + 1)) (nI k, nI f, nI g, s)) 18 g (xR S 18 g + 1)) else bmp f (bmp g (uR (uT (uR S 15 1 (xR S 15 1 + 1)) (nI k, nI f, nI g, s)) 18 g (xR S 18 g + 1))) := by
    unfold wt
    rw [wtl_e hf hg]
    rfl
  rw [ew, f_X2_noteBringing, cs_f q, g10, hMa, bnd_e, cs_h4 q1, bnd_e, chk_t (cs_e13 q1).1, e2, obd_s, cs_f q2, cs_h2 q2, bnd_e, cs_a10 q2, cs_i10 q2 g6, cs_rpc q2 g6, bnd_e, cs_po q2 g6, b12, hMc, bnd_e, cs_h2 q3, bnd_e, cs_a10 q3, cs_i10 q3 g6, cs_rpc q3 g6, bnd_e, cs_po q3 g6, hMd, bnd_e]
  by_cases c : f = g
  · rw [if_pos (show nI f = nI g by rw [c]), if_pos c]
    exact ⟨Md, rfl, p4, ((f1.tr f2).tr f3).tr f4⟩
  · rw [if_neg (nI_ne (by omega) (by omega) c), if_neg c]
    obtain ⟨p5, f5⟩ := p4.b14 f6
    generalize hMe : sI Md (h + 17 + 2 * f) 14 ((mI Md (h + 17 + 2 * f) 14) + (1 : Int32)) = Me at p5 f5
    exact ⟨Me, by rw [cs_h2 q4, bnd_e, cs_a10 q4, cs_i10 q4 f6, cs_rpc q4 f6, bnd_e, cs_po q4 f6, hMe, bnd_e], p5, (((f1.tr f2).tr f3).tr f4).tr f5⟩
