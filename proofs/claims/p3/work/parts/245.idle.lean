/-! ===== the class: asking, leaving ===== -/
theorem uR_co (S : St) {k i k' i' : Nat} {x x' : Int32} (h : k ≠ k') : uR (uR S k i x) k' i' x' = uR (uR S k' i' x') k i x := by
  unfold uR
  refine Prod.ext ?_ rfl
  funext a b
  show (if a = k' ∧ b = i' then x' else if a = k ∧ b = i then x else S.1 a b) = (if a = k ∧ b = i then x else if a = k' ∧ b = i' then x' else S.1 a b)
  by_cases c : a = k ∧ b = i
  · rw [if_pos c, if_pos c, if_neg (fun z => h (c.1.symm.trans z.1))]
  · rw [if_neg c, if_neg c]
theorem sn_uR {t : Int32} {k f g : Nat} {s : Int32} {S : St} {k' i : Nat} {x : Int32} (h : k' ≠ 16) : sn t k f g s (uR S k' i x) = uR (sn t k f g s S) k' i x := by
  have e : xR (uR S k' i x) 16 k = xR S 16 k := by rw [xR_uR, if_neg (fun z => h z.1.symm)]
  unfold sn
  rw [e, uR_co S h]
  rfl
theorem sAl_uR {t : Int32} {k f : Nat} {set s : Int32} {k' i : Nat} {x : Int32} (h : k' ≠ 16) : ∀ (ws : List Nat) (S : St), sAl t k f set s ws (uR S k' i x) = uR (sAl t k f set s ws S) k' i x := by
  intro ws
  induction ws with
  | nil => intro S; rfl
  | cons w ws ih =>
    intro S
    have e : ∀ S', sAl t k f set s (w :: ws) S' = sAl t k f set s ws (if bt set w then sn t k f w s S' else S') := fun S' => by unfold sAl; rw [List.foldl_cons]
    rw [e, e, ← ih]
    by_cases c : bt set w = true
    · rw [if_pos c, if_pos c, sn_uR h]
    · rw [if_neg c, if_neg c]
theorem HP.stt {M M' : Mem} {h : Nat} {S : St} (p : HP M h S) {v : Nat} {y : Int32} (h7 : ∀ u, u < 32 → bt (mI M' h 7) u = decide (u < 16 ∧ (if u = v then y else xR S 0 u) = 2)) (h8 : ∀ u, u < 32 → bt (mI M' h 8) u = decide (u < 16 ∧ (if u = v then y else xR S 0 u) = 1)) (ho : ∀ o, o ≠ h → ∀ b, mI M' o b = mI M o b) (hh : ∀ b, b ≠ 7 → b ≠ 8 → mI M' h b = mI M h b) (h14 : y = 1 → mI M (h + 17 + 2 * v) 14 = xR S 14 v) : HP M' h (uR S 0 v y) := by
  obtain ⟨p1, g7, g8, g9, g10⟩ := p
  have r0 : ∀ u, xR (uR S 0 v y) 0 u = if u = v then y else xR S 0 u := fun u => by
    rw [xR_uR]
    by_cases c : u = v
    · rw [if_pos ⟨rfl, c⟩, if_pos c]
    · rw [if_neg (fun z => c z.2), if_neg c]
  have r : ∀ k u, k ≠ 0 → xR (uR S 0 v y) k u = xR S k u := fun k u n => by rw [xR_uR, if_neg (fun z => n z.1)]
  have lim : ∀ p, p ∈ ft → p.2 ≠ 0 := by decide
  refine ⟨fun u hu => ?_, fun u hu => ?_, fun u hu => ?_, fun u hu => ?_, ?_⟩
  · obtain ⟨a1, a2, a3, a4, a5⟩ := p1 u hu
    have o1 := ho (h + 17 + 2 * u) (by omega)
    have o2 := ho (h + 18 + 2 * u) (by omega)
    refine ⟨fun p hp => ?_, ?_, fun z => ?_, fun w hw => ?_, fun w hw => ?_⟩
    · rw [o1, r _ _ (lim p hp)]; exact a1 p hp
    · rw [o1, r _ _ (by decide), r _ _ (by decide)]; exact a2
    · rw [o1, r _ _ (by decide)]
      rw [r0] at z
      by_cases c : u = v
      · rw [if_pos c] at z
        rw [c]; exact h14 z
      · rw [if_neg c] at z
        exact a3 z
    · rw [o1]; exact a4 w hw
    · rw [o2]; exact a5 w hw
  · rw [r0]; exact h7 u hu
  · rw [r0]; exact h8 u hu
  · rw [hh _ (by decide) (by decide), r _ _ (by decide)]; exact g9 u hu
  · rw [hh _ (by decide) (by decide), hh _ (by decide) (by decide), hh _ (by decide) (by decide), hh _ (by decide) (by decide), hh _ (by decide) (by decide), hh _ (by decide) (by decide), r _ _ (by decide), r _ _ (by decide), r _ _ (by decide), r _ _ (by decide), r _ _ (by decide), r _ _ (by decide)]
    exact g10
set_option maxHeartbeats 1000000 in
theorem HV.rest {M : Mem} {h X Y N : Nat} {t : Int32} {Q : Nat → Int32} {S : St} {pb pt : List Row4} (p : HV M h X Y t N Q S pb pt) {v : Nat} (hv : v < 16) : ∃ M', f_X4_rest (h + 17 + 2 * v) M = some M' ∧ HV M' h X Y t N Q (uR (uR (uR (uR S 3 v 0) 4 v 0) 5 v 0) 6 v 0) pb pt ∧ FrH M M' h ∧ M'.1 = M.1 := by
  obtain ⟨p1, f1⟩ := p.fld (a := 2) (k := 3) (x := 0) hv (by decide) (by decide)
  obtain ⟨p2, f2⟩ := p1.fld (a := 3) (k := 4) (x := 0) hv (by decide) (by decide)
  obtain ⟨p3, f3⟩ := p2.fld (a := 4) (k := 5) (x := 0) hv (by decide) (by decide)
  obtain ⟨p4, f4⟩ := p3.fld (a := 5) (k := 6) (x := 0) hv (by decide) (by decide)
  exact ⟨_, by rw [f_X4_rest, cs_po p.1 hv, bnd_e, bnd_e, bnd_e, bnd_e], p4, ((f1.tr f2).tr f3).tr f4, rfl⟩
set_option maxHeartbeats 1000000 in
theorem HV.idle {M : Mem} {h X Y N : Nat} {t : Int32} {Q : Nat → Int32} {S : St} {pb pt : List Row4} (p : HV M h X Y t N Q S pb pt) {v : Nat} (hv : v < 16) : ∃ M', f_X2_beIdle h (nI v) M = some M' ∧ HV M' h X Y t N Q (rst v S) pb pt ∧ FrH M M' h := by
  generalize hMa : sI M h 7 (bof (mI M h 7) v) = Ma
  generalize hMb : sI Ma h 8 (bof (mI M h 8) v) = Mb
  have sa : Ma.1 = M.1 := by rw [← hMa]; rfl
  have sb : Mb.1 = M.1 := by rw [← hMb]; exact sa
  have ob : ∀ o, o ≠ h → ∀ b, mI Mb o b = mI M o b := fun o n b => by rw [← hMb, mI_o _ _ _ _ _ n, ← hMa, mI_o _ _ _ _ _ n]
  obtain ⟨_, g7, g8, _⟩ := p.2.2.1
  have hpb : HP Mb h (uR S 0 v 0) := by
    refine p.2.2.1.stt (fun u hu => ?_) (fun u hu => ?_) ob (fun b n7 n8 => by rw [← hMb, mI_n _ _ _ _ n8, ← hMa, mI_n _ _ _ _ n7]) (fun z => absurd z (by decide))
    · rw [← hMb, mI_n _ _ _ _ (by decide), ← hMa, mI_s, bt_off _ (by omega) hu, g7 u hu]
      by_cases c : u = v
      · rw [if_pos c]; simp [c]
      · rw [if_neg c]; simp [c]
    · rw [← hMb, mI_s, bt_off _ (by omega) hu, g8 u hu]
      by_cases c : u = v
      · rw [if_pos c]; simp [c]
      · rw [if_neg c]; simp [c]
  have vb : HV Mb h X Y t N Q (uR S 0 v 0) pb pt := p.at sb (fun o n b => ob o (fun z => n (Or.inl z)) b) hpb rfl (by funext i; rw [xR_uR, if_neg (fun z => by have := z.1; omega)]) rfl rfl
  have fb : FrH M Mb h := FrH.of sb (fun o n b => ob o (fun z => n (by omega)) b) (fun o b => by rw [← hMb, ← hMa]; rfl)
  obtain ⟨M', e', p', f', _⟩ := vb.rest hv
  refine ⟨M', ?_, ?_, fb.tr f'⟩
  · have q := p.1
    have qb := q.e sb
    have e8 : mI Ma h 8 = mI M h 8 := by rw [← hMa, mI_n _ _ _ _ (by decide)]
    rw [f_X2_beIdle, cs_f q, show (mI M h 7 &&& (((1 : Int32) <<< (nI v &&& 31)) ^^^ (-1 : Int32))) = bof (mI M h 7) v from rfl, hMa, bnd_e, e8, show (mI M h 8 &&& (((1 : Int32) <<< (nI v &&& 31)) ^^^ (-1 : Int32))) = bof (mI M h 8) v from rfl, hMb, bnd_e, cs_h2 qb, bnd_e, cs_a10 qb, cs_i10 qb hv, cs_rpc qb hv, bnd_e, cs_po qb hv, e', obd_s]
  · unfold rst
    rw [uR_co (uR (uR (uR S 3 v 0) 4 v 0) 5 v 0) (k := 6) (k' := 0) (by decide), uR_co (uR (uR S 3 v 0) 4 v 0) (k := 5) (k' := 0) (by decide), uR_co (uR S 3 v 0) (k := 4) (k' := 0) (by decide), uR_co S (k := 3) (k' := 0) (by decide)]
    exact p'
theorem HV.tlv {M : Mem} {h X Y N n : Nat} {t : Int32} {Q : Nat → Int32} {S : St} {pb pt : List Row4} (p : HV M h X Y t N Q S pb pt) (h16 : N ≤ 16) {v : Nat} (hv : v < 16) (hl : (fl S).length + N ≤ 9000) (hn : 17 ≤ n) : ∃ M', f_X2_finish n h (nI v) M = some M' ∧ HV M' h X Y t N Q (lv t N v S) pb pt ∧ FrH M M' h := by
  obtain ⟨M1, e1, p1, f1⟩ := p.tsA h16 (k := 5) (by decide) hv (xR S 3 v) hl hn
  obtain ⟨M2, e2, p2, f2⟩ := p1.idle hv
  have q := p.1
  refine ⟨M2, ?_, ?_, f1.tr f2⟩
  · rw [f_X2_finish, cs_f q, cs_h2 q, bnd_e, cs_a10 q, cs_i10 q hv, cs_rpc q hv, bnd_e, cs_po q hv, p.fs hv (a := 2) (k := 3) (by decide), show (5 : Int32) = nI 5 from rfl, e1, obd_s, cs_f p1.1, e2, obd_s]
  · have : lv t N v S = rst v (sA t N 5 v (xR S 3 v) (xR S 2 v) S) := by
      unfold lv sA rst
      rw [sAl_uR (by decide), sAl_uR (by decide), sAl_uR (by decide), sAl_uR (by decide), sAl_uR (by decide)]
    rw [this]; exact p2
