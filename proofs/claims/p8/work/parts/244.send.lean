/-! ===== the class: letters to all of a set; one number of a place ===== -/
theorem HV.fs {M : Mem} {h X Y N : Nat} {t : Int32} {Q : Nat → Int32} {S : St} {pb pt : List Row4} (p : HV M h X Y t N Q S pb pt) {v a k : Nat} (hv : v < 16) (hf : (a, k) ∈ ft) : mI M (h + 17 + 2 * v) a = xR S k v := (p.2.2.1.1 v hv).1 (a, k) hf
theorem HV.fld {M : Mem} {h X Y N : Nat} {t : Int32} {Q : Nat → Int32} {S : St} {pb pt : List Row4} (p : HV M h X Y t N Q S pb pt) {v a k : Nat} {x : Int32} (hv : v < 16) (hf : (a, k) ∈ ft) (h8 : k ≠ 8) : HV (sI M (h + 17 + 2 * v) a x) h X Y t N Q (uR S k v x) pb pt ∧ FrH M (sI M (h + 17 + 2 * v) a x) h := by
  have k16 : ∀ p, p ∈ ft → p.2 ≠ 16 := by decide
  refine ⟨p.at rfl (fun o n b => mI_o _ _ _ _ _ (by omega)) (p.2.2.1.fld hv hf h8) rfl ?_ rfl rfl, FrH.sI (by omega)⟩
  funext i
  rw [xR_uR, if_neg (fun z => k16 _ hf z.1.symm)]
set_option maxHeartbeats 1000000 in
theorem HV.sal {h X Y N : Nat} {t : Int32} {Q : Nat → Int32} {pb pt : List Row4} (h16 : N ≤ 16) {k f : Nat} (hk : k < 6) (hf : f < 16) (set s : Int32) : ∀ (d i n : Nat) (M : Mem) (S : St), HV M h X Y t N Q S pb pt → xR S 2 f = s → i + d = N → (fl S).length + d ≤ 9000 → d + 1 ≤ n → ∃ M', f_X2_sendToAll_3 n h (nI k) (nI f) set (nI i) M = some M' ∧ HV M' h X Y t N Q (sAl t k f set s (List.range' i d) S) pb pt ∧ FrH M M' h := by
  intro d
  induction d with
  | zero =>
    intro i n M S p hs hi hl hn
    obtain ⟨n, rfl⟩ : ∃ m, n = m + 1 := ⟨n - 1, by omega⟩
    refine ⟨M, ?_, p, FrH.rf _ _⟩
    have q := p.1
    rw [f_X2_sendToAll_3, cs_f q, cs_h0 q, bnd_e, cs_s q, p.2.2.2.2.2.1, if_pos (nI_le (by omega) (by omega))]
  | succ d ih =>
    intro i n M S p hs hi hl hn
    obtain ⟨n, rfl⟩ : ∃ m, n = m + 1 := ⟨n - 1, by omega⟩
    have q := p.1
    have el : sAl t k f set s (List.range' i (d + 1)) S = sAl t k f set s (List.range' (i + 1) d) (if bt set i then sn t k f i s S else S) := by
      unfold sAl
      rw [List.range'_succ, List.foldl_cons]
    rw [el, f_X2_sendToAll_3, cs_f q, cs_h0 q, bnd_e, cs_s q, p.2.2.2.2.2.1, if_neg (nI_ge (by omega) (by omega)), f_has9 _ (by omega), obd_s]
    by_cases c : bt set i = true
    · obtain ⟨M1, e1, p1, f1⟩ := p.put (k := k) (f := f) (g := i) (s := s) (by omega) hk hf (by omega)
      obtain ⟨M2, e2, p2, f2⟩ := ih (i + 1) n M1 _ p1 (by rw [sn_R _ _ _ _ _ _ (by decide)]; exact hs) (by omega) (by rw [fl_sn_len (by omega)]; omega) (by omega)
      refine ⟨M2, ?_, ?_, f1.tr f2⟩
      · rw [if_pos c, if_neg (by decide), cs_h1 q, bnd_e, cs_p q, cs_h2 q, bnd_e, cs_a10 q, cs_i10 q hf, cs_rpc q hf, bnd_e, cs_po q hf, p.fs hf (a := 1) (k := 2) (by decide), hs, e1, obd_s, nI_1, bnd_e, e2]
      · rw [if_pos c]; exact p2
    · obtain ⟨M2, e2, p2, f2⟩ := ih (i + 1) n M S p hs (by omega) (by omega) (by omega)
      refine ⟨M2, ?_, ?_, f2⟩
      · rw [if_neg c, if_pos rfl, nI_1, bnd_e, e2]
      · rw [if_neg c]; exact p2
theorem HV.tsA {M : Mem} {h X Y N n : Nat} {t : Int32} {Q : Nat → Int32} {S : St} {pb pt : List Row4} (p : HV M h X Y t N Q S pb pt) (h16 : N ≤ 16) {k f : Nat} (hk : k < 6) (hf : f < 16) (set : Int32) (hl : (fl S).length + N ≤ 9000) (hn : 17 ≤ n) : ∃ M', f_X2_sendToAll n h (nI k) (nI f) set M = some M' ∧ HV M' h X Y t N Q (sA t N k f set (xR S 2 f) S) pb pt ∧ FrH M M' h := by
  obtain ⟨M', e, p', f'⟩ := HV.sal (h := h) (X := X) (Y := Y) (Q := Q) (t := t) (pb := pb) (pt := pt) h16 hk hf set (xR S 2 f) N 0 n M S p rfl (by omega) hl (by omega)
  refine ⟨M', by rw [f_X2_sendToAll, show (0 : Int32) = nI 0 from rfl, e], ?_, f'⟩
  unfold sA
  rw [List.range_eq_range']
  exact p'
/-! ===== the class: asking, leaving ===== -/
theorem uR_co (S : St) {k i k' i' : Nat} {x x' : Int32} (h : k ≠ k') : uR (uR S k i x) k' i' x' = uR (uR S k' i' x') k i x := by
  unfold uR
  refine Prod.ext ?_ rfl
  funext a b
  show (if a = k' ∧ b = i' then x' else if a = k ∧ b = i then x else S.1 a b) = (if a = k ∧ b = i then x else if a = k' ∧ b = i' then x' else S.1 a b)
  by_cases c : a = k ∧ b = i
  · rw [if_pos c, if_pos c, if_neg (fun z => h (c.1.symm.trans z.1))]
  · rw [if_neg c, if_neg c]
theorem sn_uR {t : Int32} {k f g : Nat} {s : Int32} {S : St} {k' i : Nat} {x : Int32} (h : k' ≠ 16) : sn t k f g s (uR S k' i x) = uR (sn t k f g s S) k' i x := by
  have e : xR (uR S k' i x) 16 k = xR S 16 k := by rw [xR_uR, if_neg (fun z => h z.1.symm)]
  unfold sn
  rw [e, uR_co S h]
  rfl
theorem sAl_uR {t : Int32} {k f : Nat} {set s : Int32} {k' i : Nat} {x : Int32} (h : k' ≠ 16) : ∀ (ws : List Nat) (S : St), sAl t k f set s ws (uR S k' i x) = uR (sAl t k f set s ws S) k' i x := by
  intro ws
  induction ws with
  | nil => intro S; rfl
  | cons w ws ih =>
    intro S
    have e : ∀ S', sAl t k f set s (w :: ws) S' = sAl t k f set s ws (if bt set w then sn t k f w s S' else S') := fun S' => by unfold sAl; rw [List.foldl_cons]
    rw [e, e, ← ih]
    by_cases c : bt set w = true
    · rw [if_pos c, if_pos c, sn_uR h]
    · rw [if_neg c, if_neg c]
theorem HP.stt {M M' : Mem} {h : Nat} {S : St} (p : HP M h S) {v : Nat} {y : Int32} (h7 : ∀ u, u < 32 → bt (mI M' h 7) u = decide (u < 16 ∧ (if u = v then y else xR S 0 u) = 2)) (h8 : ∀ u, u < 32 → bt (mI M' h 8) u = decide (u < 16 ∧ (if u = v then y else xR S 0 u) = 1)) (ho : ∀ o, o ≠ h → ∀ b, mI M' o b = mI M o b) (hh : ∀ b, b ≠ 7 → b ≠ 8 → mI M' h b = mI M h b) (h14 : y = 1 → mI M (h + 17 + 2 * v) 14 = xR S 14 v) : HP M' h (uR S 0 v y) := by
  obtain ⟨p1, g7, g8, g9, g10⟩ := p
  have r0 : ∀ u, xR (uR S 0 v y) 0 u = if u = v then y else xR S 0 u := fun u => by
    rw [xR_uR]
    by_cases c : u = v
    · rw [if_pos ⟨rfl, c⟩, if_pos c]
    · rw [if_neg (fun z => c z.2), if_neg c]
  have r : ∀ k u, k ≠ 0 → xR (uR S 0 v y) k u = xR S k u := fun k u n => by rw [xR_uR, if_neg (fun z => n z.1)]
  have lim : ∀ p, p ∈ ft → p.2 ≠ 0 := by decide
  refine ⟨fun u hu => ?_, fun u hu => ?_, fun u hu => ?_, fun u hu => ?_, ?_⟩
  · obtain ⟨a1, a2, a3, a4, a5⟩ := p1 u hu
    have o1 := ho (h + 17 + 2 * u) (by omega)
    have o2 := ho (h + 18 + 2 * u) (by omega)
    refine ⟨fun p hp => ?_, ?_, fun z => ?_, fun w hw => ?_, fun w hw => ?_⟩
    · rw [o1, r _ _ (lim p hp)]; exact a1 p hp
    · rw [o1, r _ _ (by decide), r _ _ (by decide)]; exact a2
    · rw [o1, r _ _ (by decide)]
      rw [r0] at z
      by_cases c : u = v
      · rw [if_pos c] at z
        rw [c]; exact h14 z
      · rw [if_neg c] at z
        exact a3 z
    · rw [o1]; exact a4 w hw
    · rw [o2]; exact a5 w hw
  · rw [r0]; exact h7 u hu
  · rw [r0]; exact h8 u hu
  · rw [hh _ (by decide) (by decide), r _ _ (by decide)]; exact g9 u hu
  · rw [hh _ (by decide) (by decide), hh _ (by decide) (by decide), hh _ (by decide) (by decide), hh _ (by decide) (by decide), hh _ (by decide) (by decide), hh _ (by decide) (by decide), r _ _ (by decide), r _ _ (by decide), r _ _ (by decide), r _ _ (by decide), r _ _ (by decide), r _ _ (by decide)]
    exact g10
set_option maxHeartbeats 1000000 in
theorem HV.rest {M : Mem} {h X Y N : Nat} {t : Int32} {Q : Nat → Int32} {S : St} {pb pt : List Row4} (p : HV M h X Y t N Q S pb pt) {v : Nat} (hv : v < 16) : ∃ M', f_X4_rest (h + 17 + 2 * v) M = some M' ∧ HV M' h X Y t N Q (uR (uR (uR (uR S 3 v 0) 4 v 0) 5 v 0) 6 v 0) pb pt ∧ FrH M M' h ∧ M'.1 = M.1 := by
  obtain ⟨p1, f1⟩ := p.fld (a := 2) (k := 3) (x := 0) hv (by decide) (by decide)
  obtain ⟨p2, f2⟩ := p1.fld (a := 3) (k := 4) (x := 0) hv (by decide) (by decide)
  obtain ⟨p3, f3⟩ := p2.fld (a := 4) (k := 5) (x := 0) hv (by decide) (by decide)
  obtain ⟨p4, f4⟩ := p3.fld (a := 5) (k := 6) (x := 0) hv (by decide) (by decide)
  exact ⟨_, by rw [f_X4_rest, cs_po p.1 hv, bnd_e, bnd_e, bnd_e, bnd_e], p4, ((f1.tr f2).tr f3).tr f4, rfl⟩
set_option maxHeartbeats 1000000 in
theorem HV.idle {M : Mem} {h X Y N : Nat} {t : Int32} {Q : Nat → Int32} {S : St} {pb pt : List Row4} (p : HV M h X Y t N Q S pb pt) {v : Nat} (hv : v < 16) : ∃ M', f_X2_beIdle h (nI v) M = some M' ∧ HV M' h X Y t N Q (rst v S) pb pt ∧ FrH M M' h := by
  generalize hMa : sI M h 7 (bof (mI M h 7) v) = Ma
  generalize hMb : sI Ma h 8 (bof (mI M h 8) v) = Mb
  have sa : Ma.1 = M.1 := by rw [← hMa]; rfl
  have sb : Mb.1 = M.1 := by rw [← hMb]; exact sa
  have ob : ∀ o, o ≠ h → ∀ b, mI Mb o b = mI M o b := fun o n b => by rw [← hMb, mI_o _ _ _ _ _ n, ← hMa, mI_o _ _ _ _ _ n]
  obtain ⟨_, g7, g8, _⟩ := p.2.2.1
  have hpb : HP Mb h (uR S 0 v 0) := by
    refine p.2.2.1.stt (fun u hu => ?_) (fun u hu => ?_) ob (fun b n7 n8 => by rw [← hMb, mI_n _ _ _ _ n8, ← hMa, mI_n _ _ _ _ n7]) (fun z => absurd z (by decide))
    · rw [← hMb, mI_n _ _ _ _ (by decide), ← hMa, mI_s, bt_off _ (by omega) hu, g7 u hu]
      by_cases c : u = v
      · rw [if_pos c]; simp [c]
      · rw [if_neg c]; simp [c]
    · rw [← hMb, mI_s, bt_off _ (by omega) hu, g8 u hu]
      by_cases c : u = v
      · rw [if_pos c]; simp [c]
      · rw [if_neg c]; simp [c]
  have vb : HV Mb h X Y t N Q (uR S 0 v 0) pb pt := p.at sb (fun o n b => ob o (fun z => n (Or.inl z)) b) hpb rfl (by funext i; rw [xR_uR, if_neg (fun z => by have := z.1; omega)]) rfl rfl
  have fb : FrH M Mb h := FrH.of sb (fun o n b => ob o (fun z => n (by omega)) b) (fun o b => by rw [← hMb, ← hMa]; rfl)
  obtain ⟨M', e', p', f', _⟩ := vb.rest hv
  refine ⟨M', ?_, ?_, fb.tr f'⟩
  · have q := p.1
    have qb := q.e sb
    have e8 : mI Ma h 8 = mI M h 8 := by rw [← hMa, mI_n _ _ _ _ (by decide)]
    rw [f_X2_beIdle, cs_f q, show (mI M h 7 &&& (((1 : Int32) <<< (nI v &&& 31)) ^^^ (-1 : Int32))) = bof (mI M h 7) v from rfl, hMa, bnd_e, e8, show (mI M h 8 &&& (((1 : Int32) <<< (nI v &&& 31)) ^^^ (-1 : Int32))) = bof (mI M h 8) v from rfl, hMb, bnd_e, cs_h2 qb, bnd_e, cs_a10 qb, cs_i10 qb hv, cs_rpc qb hv, bnd_e, cs_po qb hv, e', obd_s]
  · unfold rst
    rw [uR_co (uR (uR (uR S 3 v 0) 4 v 0) 5 v 0) (k := 6) (k' := 0) (by decide), uR_co (uR (uR S 3 v 0) 4 v 0) (k := 5) (k' := 0) (by decide), uR_co (uR S 3 v 0) (k := 4) (k' := 0) (by decide), uR_co S (k := 3) (k' := 0) (by decide)]
    exact p'
theorem HV.tlv {M : Mem} {h X Y N n : Nat} {t : Int32} {Q : Nat → Int32} {S : St} {pb pt : List Row4} (p : HV M h X Y t N Q S pb pt) (h16 : N ≤ 16) {v : Nat} (hv : v < 16) (hl : (fl S).length + N ≤ 9000) (hn : 17 ≤ n) : ∃ M', f_X2_finish n h (nI v) M = some M' ∧ HV M' h X Y t N Q (lv t N v S) pb pt ∧ FrH M M' h := by
  obtain ⟨M1, e1, p1, f1⟩ := p.tsA h16 (k := 5) (by decide) hv (xR S 3 v) hl hn
  obtain ⟨M2, e2, p2, f2⟩ := p1.idle hv
  have q := p.1
  refine ⟨M2, ?_, ?_, f1.tr f2⟩
  · rw [f_X2_finish, cs_f q, cs_h2 q, bnd_e, cs_a10 q, cs_i10 q hv, cs_rpc q hv, bnd_e, cs_po q hv, p.fs hv (a := 2) (k := 3) (by decide), show (5 : Int32) = nI 5 from rfl, e1, obd_s, cs_f p1.1, e2, obd_s]
  · have : lv t N v S = rst v (sA t N 5 v (xR S 3 v) (xR S 2 v) S) := by
      unfold lv sA rst
      rw [sAl_uR (by decide), sAl_uR (by decide), sAl_uR (by decide), sAl_uR (by decide), sAl_uR (by decide)]
    rw [this]; exact p2
theorem cs_h5 {M : Mem} {h : Nat} (q : CS M h) : mR M h 5 = h + 15 := q.r (a := 0) (b := 5) (c := 15) (by decide)
theorem cs_a15 {α : Type} {M : Mem} {h : Nat} (q : CS M h) (x : Option α) : chk (isO M 100 (h + 15)) x = x := chk_t (q.io (i := 15) (by decide) (by decide) (by decide))
theorem cs_i15 {α : Type} {M : Mem} {h : Nat} (q : CS M h) {k : Nat} (hk : k < 16) (x : Option α) : chk (inB (nI k) (mLn M (h + 15))) x = x := by
  refine chk_t ?_
  rw [q.ln (i := 15) (c := 16) (by decide) (by decide) (by decide)]; exact inB_n hk (by decide)
theorem HP.s14 {M : Mem} {h : Nat} {S : St} (p : HP M h S) {v : Nat} {x : Int32} (hv : v < 16) : HP (sI M (h + 17 + 2 * v) 14 x) h (uR S 14 v x) := by
  obtain ⟨a1, a2, a3, a4, a5⟩ := p.1 v hv
  have lim : ∀ p, p ∈ ft → p.1 ≠ 14 ∧ p.2 ≠ 14 := by decide
  have r : ∀ k' i, k' ≠ 14 → xR (uR S 14 v x) k' i = xR S k' i := fun k' i n => by rw [xR_uR, if_neg (fun z => n z.1)]
  refine p.at ⟨fun p hp => ?_, ?_, fun z => ?_, fun u hu => ?_, fun w hw => ?_⟩ (fun o _ n _ b => by rw [mI_o _ _ _ _ _ n]) (fun k' i n _ _ _ => by rw [xR_uR, if_neg (fun z => n z.2)]) (r 0 v (by decide)) (r 7 v (by decide)) (by funext i; exact r 15 i (by decide)) (fun _ _ => rfl)
  · rw [mI_n _ _ _ _ (lim p hp).1, r _ _ (lim p hp).2]; exact a1 p hp
  · rw [mI_n _ _ _ _ (by decide), r _ _ (by decide), r _ _ (by decide)]; exact a2
  · rw [mI_s, xR_uR, if_pos ⟨rfl, rfl⟩]
  · rw [mI_n _ _ _ _ (by decide)]; exact a4 u hu
  · rw [mI_o _ _ _ _ _ (by omega)]; exact a5 w hw
theorem HV.s14 {M : Mem} {h X Y N : Nat} {t : Int32} {Q : Nat → Int32} {S : St} {pb pt : List Row4} (p : HV M h X Y t N Q S pb pt) {v : Nat} {x : Int32} (hv : v < 16) : HV (sI M (h + 17 + 2 * v) 14 x) h X Y t N Q (uR S 14 v x) pb pt ∧ FrH M (sI M (h + 17 + 2 * v) 14 x) h :=
  ⟨p.at rfl (fun o n b => mI_o _ _ _ _ _ (by omega)) (p.2.2.1.s14 hv) rfl (by funext i; rw [xR_uR, if_neg (fun z => by have := z.1; omega)]) rfl rfl, FrH.sI (by omega)⟩
set_option maxHeartbeats 2000000 in
theorem HV.tak {M : Mem} {h X Y N n : Nat} {t : Int32} {Q : Nat → Int32} {S : St} {pb pt : List Row4} (p : HV M h X Y t N Q S pb pt) (h16 : N ≤ 16) {v : Nat} (hv : v < N) (h0 : xR S 0 v ≠ 2) (hQ : qm N S v = Q v) (hl : (fl S).length + N ≤ 9000) (hn : 17 ≤ n) : ∃ M', f_X2_startAsking n h (nI v) M = some M' ∧ HV M' h X Y t N Q (ak t N v S) pb pt ∧ FrH M M' h := by
  have hv6 : v < 16 := by omega
  have q := p.1
  generalize hc : xR S 1 v + 1 = c
  obtain ⟨p1, f1⟩ := p.fld (a := 0) (k := 1) (x := c) hv6 (by decide) (by decide)
  generalize hMa : sI M (h + 17 + 2 * v) 0 c = Ma at p1 f1
  obtain ⟨p2, f2⟩ := p1.fld (a := 1) (k := 2) (x := c) hv6 (by decide) (by decide)
  generalize hMb : sI Ma (h + 17 + 2 * v) 1 c = Mb at p2 f2
  obtain ⟨Mc, e3, p3, f3, s3⟩ := p2.rest hv6
  obtain ⟨p4, f4⟩ := p3.fld (a := 2) (k := 3) (x := Q v) hv6 (by decide) (by decide)
  generalize hMd : sI Mc (h + 17 + 2 * v) 2 (Q v) = Md at p4 f4
  have b10 : mI Md h 10 = xR S 15 1 := by
    have := p4.2.2.1.2.2.2.2.1
    rw [this]
    simp [xR_uR]
  obtain ⟨p5, f5⟩ := p4.fld (a := 13) (k := 13) (x := xR S 15 1) hv6 (by decide) (by decide)
  generalize hMe : sI Md (h + 17 + 2 * v) 13 (xR S 15 1) = Me at p5 f5
  obtain ⟨p6, f6⟩ := p5.s14 (x := 0) hv6
  generalize hMf : sI Me (h + 17 + 2 * v) 14 0 = Mf at p6 f6
  generalize hS6 : uR (uR (uR (uR (uR (uR (uR (uR (uR S 1 v c) 2 v c) 3 v 0) 4 v 0) 5 v 0) 6 v 0) 3 v (Q v)) 13 v (xR S 15 1)) 14 v 0 = S6 at p6
  have r0 : ∀ u, xR S6 0 u = xR S 0 u := fun u => by rw [← hS6]; simp [xR_uR]
  generalize hMg : sI Mf h 8 (bon (mI Mf h 8) v) = Mg
  have sg : Mg.1 = Mf.1 := by rw [← hMg]; rfl
  have og : ∀ o, o ≠ h → ∀ b, mI Mg o b = mI Mf o b := fun o n b => by rw [← hMg, mI_o _ _ _ _ _ n]
  obtain ⟨_, g7, g8, _⟩ := id p6.2.2.1
  have hpg : HP Mg h (uR S6 0 v 1) := by
    refine p6.2.2.1.stt (fun u hu => ?_) (fun u hu => ?_) og (fun b _ n8 => by rw [← hMg, mI_n _ _ _ _ n8]) (fun _ => ?_)
    · rw [← hMg, mI_n _ _ _ _ (by decide), g7 u hu]
      by_cases d : u = v
      · rw [if_pos d, d, r0]; simp [h0]
      · rw [if_neg d]
    · rw [← hMg, mI_s, bt_on _ (by omega) hu, g8 u hu]
      by_cases d : u = v
      · rw [if_pos d]; simp [d, hv6]
      · rw [if_neg d]; simp [d]
    · rw [← hMf, mI_s, ← hS6, xR_uR, if_pos ⟨rfl, rfl⟩]
  have p7 : HV Mg h X Y t N Q (uR S6 0 v 1) pb pt := p6.at sg (fun o n b => og o (fun z => n (Or.inl z)) b) hpg rfl (by funext i; rw [xR_uR, if_neg (fun z => by have := z.1; omega)]) rfl rfl
  have f7 : FrH Mf Mg h := FrH.of sg (fun o n b => og o (fun z => n (by omega)) b) (fun o b => by rw [← hMg]; rfl)
  have r2 : xR (uR S6 0 v 1) 2 v = c := by rw [← hS6]; simp [xR_uR]
  have r3 : mI Mg (h + 17 + 2 * v) 2 = Q v := by rw [p7.fs hv6 (a := 2) (k := 3) (by decide), ← hS6]; simp [xR_uR]
  have l6 : xL (uR S6 0 v 1) = xL S := by rw [← hS6]; rfl
  obtain ⟨M', e', p', f'⟩ := p7.tsA h16 (k := 0) (f := v) (by decide) hv6 (Q v) (by unfold fl at hl ⊢; rw [l6]; exact hl) hn
  refine ⟨M', ?_, ?_, ((((((f1.tr f2).tr f3).tr f4).tr f5).tr f6).tr f7).tr f'⟩
  · have qc := p3.1
    have ea : mI Ma (h + 17 + 2 * v) 0 = c := by rw [← hMa, mI_s]
    rw [f_X2_startAsking, cs_f q, cs_h2 q, bnd_e, cs_a10 q, cs_i10 q hv6, cs_rpc q hv6, bnd_e, cs_po q hv6, p.fs hv6 (a := 0) (k := 1) (by decide), hc, hMa, bnd_e, ea, hMb, bnd_e, e3, obd_s, cs_f qc, cs_h5 qc, bnd_e, cs_a15 qc, cs_i15 qc hv6, cs_po qc hv6, mI_c (by omega), p3.2.2.2.2.2.2 v hv, hMd, bnd_e, b10, hMe, bnd_e, hMf, bnd_e, show (mI Mf h 8 ||| ((1 : Int32) <<< (nI v &&& 31))) = bon (mI Mf h 8) v from rfl, hMg, bnd_e, r3]
    rw [show f_X2_sendToAll n h 0 (nI v) (Q v) Mg = some M' from e', obd_s]
  · rw [r2] at p'
    have : uR S6 0 v 1 = uR (uR (uR (uR (uR (uR (uR (uR (uR S 1 v c) 2 v c) 3 v (Q v)) 4 v 0) 5 v 0) 6 v 0) 0 v 1) 13 v (xR S 15 1)) 14 v 0 := by
      rw [← hS6, uR_co (k := 14) (k' := 0) _ (by decide), uR_co (k := 13) (k' := 0) _ (by decide), uR_co (k := 6) (k' := 3) _ (by decide), uR_co (k := 5) (k' := 3) _ (by decide), uR_co (k := 4) (k' := 3) _ (by decide), uR_uR]
    rw [this] at p'
    unfold ak
    rw [hQ, hc]
    exact p'
/-! ===== the class hears a yield, a release ===== -/
theorem HV.tW {M M' : Mem} {h X Y N : Nat} {t : Int32} {Q : Nat → Int32} {S : St} {pb pt : List Row4} (p : HV M h X Y t N Q S pb pt) {a : Nat} (ha : a < 16) {l : List Wtr} (e : M'.1 = M.1) (hL : ∀ o b, mL M' o b = mL M o b) (ho : ∀ o, o ≠ h + 17 + 2 * a → o ≠ h + 18 + 2 * a → ∀ b, mI M' o b = mI M o b) (hP : ∀ b, b ≠ 9 → mI M' (h + 17 + 2 * a) b = mI M (h + 17 + 2 * a) b) (h9 : ∀ u, u < 32 → bt (mI M' (h + 17 + 2 * a) 9) u = decide (u ∈ l.map Prod.fst)) (hr : ∀ w, w ∈ l → mI M' (h + 18 + 2 * a) w.1 = w.2) : HV M' h X Y t N Q (uW S a l) pb pt ∧ FrH M M' h := by
  obtain ⟨a1, a2, a3, a4, a5⟩ := p.2.2.1.1 a ha
  have lim : ∀ p, p ∈ ft → p.1 ≠ 9 := by decide
  have w0 : xW (uW S a l) a = l := by rw [xW_uW, if_pos rfl]
  have hp : HP M' h (uW S a l) := by
    refine p.2.2.1.at (v := a) ⟨fun p hp => ?_, ?_, fun z => ?_, fun u hu => ?_, fun w hw => ?_⟩ (fun o _ n1 n2 b => ho o n1 n2 b) (fun k i _ _ _ _ => rfl) rfl rfl rfl (fun b n => by rw [xW_uW, if_neg n])
    · rw [hP _ (lim p hp)]; exact a1 p hp
    · rw [hP _ (by decide)]; exact a2
    · rw [hP _ (by decide)]; exact a3 z
    · rw [w0]; exact h9 u hu
    · rw [w0] at hw; exact hr w hw
  exact ⟨p.at e (fun o n b => ho o (by omega) (by omega) b) hp rfl rfl rfl rfl, FrH.of e (fun o n b => ho o (by omega) (by omega) b) hL⟩
theorem HV.lw {M : Mem} {h X Y N : Nat} {t : Int32} {Q : Nat → Int32} {S : St} {pb pt : List Row4} (p : HV M h X Y t N Q S pb pt) {a v : Nat} {s : Int32} (ha : a < 16) (hv : v < 16) (hn : v ∉ (xW S a).map Prod.fst) : ∃ M', f_X4_letWait (h + 17 + 2 * a) (nI v) s M = some M' ∧ HV M' h X Y t N Q (uW S a (ins v s (xW S a))) pb pt ∧ FrH M M' h := by
  obtain ⟨_, _, _, a4, a5⟩ := p.2.2.1.1 a ha
  have q := p.1
  generalize hMa : sI M (h + 17 + 2 * a) 9 (bon (mI M (h + 17 + 2 * a) 9) v) = Ma
  generalize hMb : sI Ma (h + 18 + 2 * a) v s = Mb
  have sa : Ma.1 = M.1 := by rw [← hMa]; rfl
  have sb : Mb.1 = M.1 := by rw [← hMb]; exact sa
  have qa := q.e sa
  obtain ⟨p', f'⟩ := p.tW (M' := Mb) (l := ins v s (xW S a)) ha sb (fun o b => by rw [← hMb, ← hMa]; rfl) (fun o n1 n2 b => by rw [← hMb, mI_o _ _ _ _ _ n2, ← hMa, mI_o _ _ _ _ _ n1]) (fun b n => by rw [← hMb, mI_o _ _ _ _ _ (by omega), ← hMa, mI_n _ _ _ _ n]) (fun u hu => by
    rw [← hMb, mI_o _ _ _ _ _ (by omega), ← hMa, mI_s, bt_on _ (by omega) hu, a4 u hu]
    have e : u ∈ (ins v s (xW S a)).map Prod.fst ↔ u ∈ (xW S a).map Prod.fst ∨ u = v := by
      simp only [List.mem_map, ins_perm]
      constructor
      · rintro ⟨w, hw | hw, e⟩
        · right; rw [← e, hw]
        · left; exact ⟨w, hw, e⟩
      · rintro (⟨w, hw, e⟩ | e)
        · exact ⟨w, Or.inr hw, e⟩
        · exact ⟨(v, s), Or.inl rfl, e.symm⟩
    by_cases c1 : u ∈ (xW S a).map Prod.fst
    · rw [decide_eq_true c1, decide_eq_true (e.mpr (Or.inl c1))]; rfl
    · rw [decide_eq_false c1]
      by_cases c2 : u = v
      · rw [decide_eq_true c2, decide_eq_true (e.mpr (Or.inr c2))]; rfl
      · rw [decide_eq_false c2, decide_eq_false (fun z => (e.mp z).elim c1 c2)]; rfl) (fun w hw => by
    rcases ins_perm.mp hw with e | hw2
    · rw [e, ← hMb, mI_s]
    · have n : w.1 ≠ v := fun z => hn (List.mem_map.mpr ⟨w, hw2, z⟩)
      rw [← hMb, mI_n _ _ _ _ n, ← hMa, mI_o _ _ _ _ _ (by omega)]
      exact a5 w hw2)
  refine ⟨Mb, ?_, p', f'⟩
  rw [f_X4_letWait, cs_po q ha, show (mI M (h + 17 + 2 * a) 9 ||| ((1 : Int32) <<< (nI v &&& 31))) = bon (mI M (h + 17 + 2 * a) 9) v from rfl, hMa, bnd_e, cs_pr qa ha, bnd_e, cs_pa qa ha, cs_pi qa ha hv, sI_c (by omega), hMb, bnd_e]
theorem HV.ig {M : Mem} {h X Y N : Nat} {t : Int32} {Q : Nat → Int32} {S : St} {pb pt : List Row4} (p : HV M h X Y t N Q S pb pt) {a v : Nat} {s : Int32} (ha : a < 16) (hv : v < 16) : f_X4_isGrantedBy (h + 17 + 2 * a) (nI v) s M = some (if xR S 8 a = nI v ∧ xR S 9 a = s then 1 else 0) := by
  obtain ⟨_, a2, _, _, _⟩ := p.2.2.1.1 a ha
  rw [f_X4_isGrantedBy, cs_po p.1 ha, p.fs ha (a := 6) (k := 8) (by decide), a2]
  by_cases c : xR S 8 a = nI v
  · rw [if_pos c, if_neg (show ¬ xR S 8 a = -1 by rw [c]; exact nI_m1 hv)]
    by_cases d : xR S 9 a = s
    · rw [if_pos d, if_pos ⟨c, d⟩]
    · rw [if_neg d, if_neg (fun z => d z.2)]
  · rw [if_neg c, if_neg (fun z => c z.1)]
theorem HV.tyl {M : Mem} {h X Y N A n : Nat} {t : Int32} {Q : Nat → Int32} {S : St} {pb pt : List Row4} (p : HV M h X Y t N Q S pb pt) (h16 : N ≤ 16) {a v s : Nat} (ha : a < 16) (hv : v < N) (hs : s ≤ A) (hW : Wok N A (xW S a)) (hg : xR S 8 a = nI v → v ∉ (xW S a).map Prod.fst) (hl : (fl S).length < 9000) (hn : 17 ≤ n) : ∃ M', f_X2_hearYield n h (nI v) (nI a) (nI s) M = some M' ∧ HV M' h X Y t N Q (yl t a v (nI s) S) pb pt ∧ FrH M M' h := by
  have q := p.1
  have start : f_X2_hearYield n h (nI v) (nI a) (nI s) M = (if (if xR S 8 a = nI v ∧ xR S 9 a = nI s then (1 : Int32) else 0) = 0 then some M else obd (f_X4_letWait (h + 17 + 2 * a) (nI v) (nI s) M) fun M14 => chk (isO M14 2 h) <| obd (f_X2_grantFirst n h (nI a) M14) fun M17 => some M17) := by
    rw [f_X2_hearYield, cs_f q, cs_h2 q, bnd_e, cs_a10 q, cs_i10 q ha, cs_rpc q ha, bnd_e, cs_po q ha, p.ig ha (by omega), obd_s]
  rw [start]
  unfold yl
  by_cases c : xR S 8 a = nI v ∧ xR S 9 a = nI s
  · rw [if_pos c, if_pos c, if_neg (by decide)]
    obtain ⟨M1, e1, p1, f1⟩ := p.lw (s := nI s) ha (by omega) (hg c.1)
    have w1 : xW (uW S a (ins v (nI s) (xW S a))) a = ins v (nI s) (xW S a) := by rw [xW_uW, if_pos rfl]
    have hW1 := ins_Wok hW hv h16 hs (hg c.1)
    obtain ⟨w, r, hx⟩ : ∃ w r, ins v (nI s) (xW S a) = w :: r := by
      cases z : ins v (nI s) (xW S a) with
      | nil => have := ins_len v (nI s) (xW S a); rw [z] at this; simp at this
      | cons w r => exact ⟨w, r, rfl⟩
    obtain ⟨M2, e2, p2, f2⟩ := p1.grant (A := A) hl ha (by rw [w1]; exact hW1) h16 hn (by rw [w1]; exact hx)
    exact ⟨M2, by rw [e1, obd_s, cs_f p1.1, e2, obd_s], p2, f1.tr f2⟩
  · rw [if_neg c, if_neg c, if_pos rfl]
    exact ⟨M, rfl, p, FrH.rf _ _⟩
theorem nob_nob (a : Nat) (S : St) : nob a (nob a S) = nob a S := by
  refine Prod.ext ?_ rfl
  funext k i
  show xR (nob a (nob a S)) k i = xR (nob a S) k i
  unfold nob
  simp only [xR_uR]
  by_cases c10 : k = 10 ∧ i = a
  · rw [if_pos c10, if_pos c10]
  · rw [if_neg c10, if_neg c10]
    by_cases c9 : k = 9 ∧ i = a
    · rw [if_pos c9, if_pos c9]
    · rw [if_neg c9, if_neg c9]
      by_cases c8 : k = 8 ∧ i = a
      · rw [if_pos c8, if_pos c8]
      · rw [if_neg c8, if_neg c8]
theorem gF_nob (t : Int32) (a : Nat) (S : St) : gF t a (nob a S) = gF t a S := by
  rw [gF_e, gF_e, nob_nob]
theorem gone_fst {v : Nat} {s : Int32} : ∀ {l : List Wtr}, (l.map Prod.fst).Nodup → (v, s) ∈ l → ∀ u, u ∈ (gone v s l).map Prod.fst ↔ u ∈ l.map Prod.fst ∧ u ≠ v := by
  intro l
  induction l with
  | nil => intro _ h; simp at h
  | cons w r ih =>
    intro hd hm u
    rw [List.map_cons] at hd
    obtain ⟨d1, d2⟩ := List.nodup_cons.mp hd
    unfold gone
    by_cases c : w = (v, s)
    · rw [if_pos c, List.map_cons, List.mem_cons]
      have ew : w.1 = v := by rw [c]
      rw [ew] at d1 ⊢
      constructor
      · intro h
        exact ⟨Or.inr h, fun z => d1 (z ▸ h)⟩
      · rintro ⟨h | h, n⟩
        · exact absurd h n
        · exact h
    · rw [if_neg c, List.map_cons, List.map_cons, List.mem_cons, List.mem_cons]
      have hm2 : (v, s) ∈ r := by
        rcases List.mem_cons.mp hm with e | e
        · exact absurd e.symm c
        · exact e
      rw [ih d2 hm2 u]
      have nv : w.1 ≠ v := fun z => d1 (List.mem_map.mpr ⟨(v, s), hm2, z.symm⟩)
      constructor
      · rintro (h | ⟨h, n⟩)
        · exact ⟨Or.inl h, fun z => nv (h ▸ z)⟩
        · exact ⟨Or.inr h, n⟩
      · rintro ⟨h | h, n⟩
        · exact Or.inl h
        · exact Or.inr ⟨h, n⟩
set_option maxHeartbeats 1000000 in
theorem HV.forget {M : Mem} {h X Y N : Nat} {t : Int32} {Q : Nat → Int32} {S : St} {pb pt : List Row4} (p : HV M h X Y t N Q S pb pt) {a : Nat} (ha : a < 16) : ∃ M', f_X4_forgetGranted (h + 17 + 2 * a) M = some M' ∧ HV M' h X Y t N Q (nob a S) pb pt ∧ FrH M M' h := by
  obtain ⟨a1, a2, a3, a4, a5⟩ := p.2.2.1.1 a ha
  obtain ⟨r8, r9, r10⟩ := nob_8 a S
  generalize hS : nob a S = S1 at r8 r9 r10 ⊢
  have rr : ∀ k i, (i ≠ a ∨ k < 8 ∨ 10 < k) → xR S1 k i = xR S k i := fun k i z => by rw [← hS]; exact nob_R z
  have lim : ∀ p, p ∈ ft → p.1 ≠ 7 ∧ ((p.1 = 6 ∧ p.2 = 8) ∨ (p.1 = 8 ∧ p.2 = 10) ∨ (p.1 ≠ 6 ∧ p.1 ≠ 8 ∧ (p.2 < 8 ∨ 10 < p.2))) := by decide
  have hp : HP (sI (sI (sI M (h + 17 + 2 * a) 6 (-1)) (h + 17 + 2 * a) 7 (-1)) (h + 17 + 2 * a) 8 0) h S1 := by
    refine p.2.2.1.at (v := a) ⟨fun p hp => ?_, ?_, fun z => ?_, fun u hu => ?_, fun w hw => ?_⟩ (fun o _ n _ b => by rw [mI_o _ _ _ _ _ n, mI_o _ _ _ _ _ n, mI_o _ _ _ _ _ n]) (fun k i n _ _ _ => rr k i (Or.inl n)) (rr 0 a (by omega)) (rr 7 a (by omega)) (by funext i; exact rr 15 i (by omega)) (fun b n => by rw [← hS]; rfl)
    · obtain ⟨l7, ⟨l1, l2⟩ | ⟨l1, l2⟩ | ⟨l1, l2, l3⟩⟩ := lim p hp
      · rw [l1, l2, mI_n _ _ _ _ (by decide), mI_n _ _ _ _ (by decide), mI_s, r8]
      · rw [l1, l2, mI_s, r10]
      · rw [mI_n _ _ _ _ l2, mI_n _ _ _ _ l7, mI_n _ _ _ _ l1, rr _ _ (Or.inr l3)]
        exact a1 p hp
    · rw [mI_n _ _ _ _ (by decide), mI_s, r8, if_pos rfl]
    · rw [mI_n _ _ _ _ (by decide), mI_n _ _ _ _ (by decide), mI_n _ _ _ _ (by decide), rr _ _ (by omega)]
      exact a3 (by rw [rr _ _ (by omega)] at z; exact z)
    · rw [mI_n _ _ _ _ (by decide), mI_n _ _ _ _ (by decide), mI_n _ _ _ _ (by decide), ← hS]
      exact a4 u hu
    · rw [mI_o _ _ _ _ _ (by omega), mI_o _ _ _ _ _ (by omega), mI_o _ _ _ _ _ (by omega)]
      exact a5 w (by rw [← hS] at hw; exact hw)
  refine ⟨sI (sI (sI M (h + 17 + 2 * a) 6 (-1)) (h + 17 + 2 * a) 7 (-1)) (h + 17 + 2 * a) 8 0, by rw [f_X4_forgetGranted, cs_po p.1 ha, bnd_e, bnd_e, chk_t (Or.inl rfl), bnd_e], p.at rfl (fun o n b => by rw [mI_o _ _ _ _ _ (by omega), mI_o _ _ _ _ _ (by omega), mI_o _ _ _ _ _ (by omega)]) hp ?_ ?_ ?_ ?_, FrH.of rfl (fun o n b => by rw [mI_o _ _ _ _ _ (by omega), mI_o _ _ _ _ _ (by omega), mI_o _ _ _ _ _ (by omega)]) (fun _ _ => rfl)⟩
  · rw [← hS]; rfl
  · funext i; exact rr 16 i (by omega)
  · rw [← hS]; rfl
  · rw [← hS]; rfl
theorem HV.iw {M : Mem} {h X Y N A : Nat} {t : Int32} {Q : Nat → Int32} {S : St} {pb pt : List Row4} (p : HV M h X Y t N Q S pb pt) {a v : Nat} {s : Int32} (ha : a < 16) (hv : v < 16) (hW : Wok N A (xW S a)) : f_X4_isWaitingBy (h + 17 + 2 * a) (nI v) s M = some (if (v, s) ∈ xW S a then 1 else 0) := by
  obtain ⟨_, _, _, a4, a5⟩ := p.2.2.1.1 a ha
  have q := p.1
  rw [f_X4_isWaitingBy, cs_po q ha, f_has9 _ (by omega), obd_s, a4 v (by omega)]
  by_cases c : v ∈ (xW S a).map Prod.fst
  · obtain ⟨w, hw, e⟩ := List.mem_map.mp c
    have hr := a5 w hw
    rw [e] at hr
    rw [decide_eq_true c, if_pos rfl, if_neg (by decide), cs_pr q ha, bnd_e, cs_pa q ha, cs_pi q ha hv, mI_c (by omega), hr]
    by_cases d : w.2 = s
    · rw [if_pos d, if_pos (by rw [← e, ← d]; exact hw)]
    · rw [if_neg d, if_neg (fun z => d (by rw [nd_eq hW.2.1 hw z e]))]
  · rw [decide_eq_false c, if_pos (by decide), if_neg (fun z => c (List.mem_map.mpr ⟨_, z, rfl⟩))]
theorem HV.trl {M : Mem} {h X Y N A n : Nat} {t : Int32} {Q : Nat → Int32} {S : St} {pb pt : List Row4} (p : HV M h X Y t N Q S pb pt) (h16 : N ≤ 16) {a v : Nat} {s : Int32} (ha : a < 16) (hv : v < 16) (hW : Wok N A (xW S a)) (hl : (fl S).length < 9000) (hn : 17 ≤ n) : ∃ M', f_X2_hearRelease n h (nI v) (nI a) s M = some M' ∧ HV M' h X Y t N Q (rl t a v s S) pb pt ∧ FrH M M' h := by
  have q := p.1
  obtain ⟨_, _, _, a4, a5⟩ := p.2.2.1.1 a ha
  rw [f_X2_hearRelease, cs_f q, cs_h2 q, bnd_e, cs_a10 q, cs_i10 q ha, cs_rpc q ha, bnd_e, cs_po q ha, p.ig ha hv, obd_s]
  unfold rl
  by_cases c : xR S 8 a = nI v ∧ xR S 9 a = s
  · rw [if_pos c, if_pos c, if_neg (by decide)]
    obtain ⟨M1, e1, p1, f1⟩ := p.forget ha
    cases hx : xW S a with
    | nil =>
      have fw := p1.2.2.1.fw p1.1 ha (N := N) (A := A) (n := n) (by show Wok N A (xW S a); exact hW) h16 hn
      have hh : xW (nob a S) a = [] := hx
      rw [hh] at fw
      have q1 := p1.1
      refine ⟨M1, ?_, ?_, f1⟩
      · rw [e1, obd_s, cs_f q1, f_X2_grantFirst, cs_f q1, cs_h2 q1, bnd_e, cs_a10 q1, cs_i10 q1 ha, cs_rpc q1 ha, bnd_e, cs_po q1 ha, fw, obd_s, if_pos (show hdW [] = (-1 : Int32) from rfl), obd_s]
      · unfold gF
        rw [hx]
        exact p1
    | cons w r =>
      obtain ⟨M2, e2, p2, f2⟩ := p1.grant (A := A) hl ha hW h16 hn (w := w) (r := r) hx
      rw [gF_nob] at p2
      exact ⟨M2, by rw [e1, obd_s, cs_f p1.1, e2, obd_s], p2, f1.tr f2⟩
  · rw [if_neg c, if_neg c, if_pos rfl, p.iw ha hv hW, obd_s]
    by_cases d : (v, s) ∈ xW S a
    · rw [if_pos d, if_neg (by decide)]
      have gf := gone_fst hW.2.1 d
      obtain ⟨p', f'⟩ := p.tW (M' := sI M (h + 17 + 2 * a) 9 (bof (mI M (h + 17 + 2 * a) 9) v)) (l := gone v s (xW S a)) ha rfl (fun _ _ => rfl) (fun o n1 _ b => by rw [mI_o _ _ _ _ _ n1]) (fun b n => by rw [mI_n _ _ _ _ n]) (fun u hu => by
        rw [mI_s, bt_off _ (by omega) hu, a4 u hu]
        by_cases c1 : u ∈ (xW S a).map Prod.fst
        · by_cases c2 : u = v
          · rw [decide_eq_true c1, decide_eq_true c2, decide_eq_false (fun z => ((gf u).mp z).2 c2)]; rfl
          · rw [decide_eq_true c1, decide_eq_false c2, decide_eq_true ((gf u).mpr ⟨c1, c2⟩)]; rfl
        · rw [decide_eq_false c1, decide_eq_false (fun z => c1 ((gf u).mp z).1)]; rfl) (fun w hw => by
        rw [mI_o _ _ _ _ _ (by omega)]
        exact a5 w (gone_sub.subset hw))
      exact ⟨_, rfl, p', f'⟩
    · rw [if_neg d, if_pos rfl, gone_id d, uW_id]
      exact ⟨M, rfl, p, FrH.rf _ _⟩
/-! ===== the class hears an inquiry ===== -/
theorem HV.ia {M : Mem} {h X Y N : Nat} {t : Int32} {Q : Nat → Int32} {S : St} {pb pt : List Row4} (p : HV M h X Y t N Q S pb pt) {v : Nat} {s : Int32} (hv : v < 16) : f_X2_isAskingBy h (nI v) s M = some (if xR S 0 v = 1 ∧ xR S 2 v = s then 1 else 0) := by
  obtain ⟨_, _, g8, _⟩ := p.2.2.1
  have q := p.1
  rw [f_X2_isAskingBy, cs_f q, f_has9 _ (by omega), obd_s, g8 v (by omega)]
  by_cases c : xR S 0 v = 1
  · rw [decide_eq_true ⟨hv, c⟩, if_pos rfl, if_neg (by decide), cs_h2 q, bnd_e, cs_a10 q, cs_i10 q hv, cs_rpc q hv, bnd_e, cs_po q hv, p.fs hv (a := 1) (k := 2) (by decide)]
    by_cases d : xR S 2 v = s
    · rw [if_pos d, if_pos ⟨c, d⟩]
    · rw [if_neg d, if_neg (fun z => d z.2)]
  · rw [decide_eq_false (fun z => c z.2), if_pos (by decide), if_neg (fun z => c z.1)]
set_option maxHeartbeats 1000000 in
theorem HV.tiq {M : Mem} {h X Y N : Nat} {t : Int32} {Q : Nat → Int32} {S : St} {pb pt : List Row4} (p : HV M h X Y t N Q S pb pt) {a v : Nat} {s : Int32} (ha : a < 16) (hv : v < 16) (hl : (fl S).length < 9000) : ∃ M', f_X2_hearInquire h (nI a) (nI v) s M = some M' ∧ HV M' h X Y t N Q (if xR S 0 v = 1 ∧ xR S 2 v = s then iq t v a S else S) pb pt ∧ FrH M M' h := by
  have q := p.1
  rw [f_X2_hearInquire, cs_f q, cs_h2 q, bnd_e, cs_a10 q, cs_i10 q hv, cs_rpc q hv, bnd_e, cs_po q hv, p.ia hv, obd_s]
  by_cases c : xR S 0 v = 1 ∧ xR S 2 v = s
  · rw [if_pos c, if_pos c, if_neg (by decide), p.fs hv (a := 3) (k := 4) (by decide), f_has9 _ (by omega), obd_s]
    unfold iq
    by_cases d : bt (xR S 4 v) a = true
    · rw [if_pos d, if_pos d, if_neg (by decide), p.fs hv (a := 5) (k := 6) (by decide)]
      by_cases e : xR S 6 v = 0
      · rw [if_pos e, if_pos e, p.fs hv (a := 4) (k := 5) (by decide)]
        obtain ⟨p1, f1⟩ := p.fld (a := 4) (k := 5) (x := bon (xR S 5 v) a) hv (by decide) (by decide)
        exact ⟨_, rfl, p1, f1⟩
      · rw [if_neg e, if_neg e, cs_h1 q, bnd_e, cs_p q]
        obtain ⟨M1, e1, p1, f1⟩ := p.put (k := 4) (f := v) (g := a) (s := s) hl (by decide) hv ha
        obtain ⟨p2, f2⟩ := p1.fld (a := 3) (k := 4) (x := bof (xR S 4 v) a) hv (by decide) (by decide)
        have r4 := p1.fs hv (a := 3) (k := 4) (by decide)
        rw [sn_R _ _ _ _ _ _ (by decide)] at r4
        generalize hMa : sI M1 (h + 17 + 2 * v) 3 (bof (xR S 4 v) a) = Ma at p2 f2
        have r6 := p2.fs hv (a := 5) (k := 6) (by decide)
        rw [xR_uR, if_neg (by omega), sn_R _ _ _ _ _ _ (by decide)] at r6
        obtain ⟨p3, f3⟩ := p2.fld (a := 5) (k := 6) (x := bon (xR S 6 v) a) hv (by decide) (by decide)
        refine ⟨sI Ma (h + 17 + 2 * v) 5 (bon (xR S 6 v) a), ?_, ?_, (f1.tr f2).tr f3⟩
        · rw [show f_X5_put (h + 1) 4 (nI v) (nI a) s M = some M1 from e1, obd_s, cs_po p1.1 hv, r4, show (xR S 4 v &&& (((1 : Int32) <<< (nI a &&& 31)) ^^^ (-1 : Int32))) = bof (xR S 4 v) a from rfl, hMa, bnd_e, r6, show (xR S 6 v ||| ((1 : Int32) <<< (nI a &&& 31))) = bon (xR S 6 v) a from rfl, bnd_e]
        · unfold yT
          rw [c.2]
          exact p3
    · rw [if_neg d, if_neg d, if_pos rfl]
      exact ⟨M, rfl, p, FrH.rf _ _⟩
  · rw [if_neg c, if_neg c, if_pos rfl]
    exact ⟨M, rfl, p, FrH.rf _ _⟩
/-! ===== all yields at once ===== -/
def bfl (d : Int32) (ws : List Nat) (x : Int32) : Int32 := ws.foldl (fun x w => if bt d w then bof x w else x) x
def bnl (d : Int32) (ws : List Nat) (x : Int32) : Int32 := ws.foldl (fun x w => if bt d w then bon x w else x) x
theorem uR_id (S : St) (k i : Nat) : uR S k i (xR S k i) = S := by
  refine Prod.ext ?_ rfl
  funext a b
  show (if a = k ∧ b = i then xR S k i else S.1 a b) = S.1 a b
  by_cases c : a = k ∧ b = i
  · rw [if_pos c, c.1, c.2]; rfl
  · rw [if_neg c]
theorem fdl_e {t : Int32} {v : Nat} {d : Int32} : ∀ (ws : List Nat) (S : St), fdl t v d ws S = uR (uR (sAl t 4 v d (xR S 2 v) ws S) 4 v (bfl d ws (xR S 4 v))) 6 v (bnl d ws (xR S 6 v)) := by
  intro ws
  induction ws with
  | nil =>
    intro S
    show S = uR (uR S 4 v (xR S 4 v)) 6 v (xR S 6 v)
    rw [uR_id, uR_id]
  | cons w ws ih =>
    intro S
    have e1 : fdl t v d (w :: ws) S = fdl t v d ws (if bt d w then yT t v w S else S) := by unfold fdl; rw [List.foldl_cons]
    have e2 : sAl t 4 v d (xR S 2 v) (w :: ws) S = sAl t 4 v d (xR S 2 v) ws (if bt d w then sn t 4 v w (xR S 2 v) S else S) := by unfold sAl; rw [List.foldl_cons]
    have e3 : bfl d (w :: ws) (xR S 4 v) = bfl d ws (if bt d w then bof (xR S 4 v) w else xR S 4 v) := by unfold bfl; rw [List.foldl_cons]
    have e4 : bnl d (w :: ws) (xR S 6 v) = bnl d ws (if bt d w then bon (xR S 6 v) w else xR S 6 v) := by unfold bnl; rw [List.foldl_cons]
    rw [e1, e2, e3, e4, ih]
    by_cases c : bt d w = true
    · rw [if_pos c, if_pos c, if_pos c, if_pos c]
      have r2 : xR (yT t v w S) 2 v = xR S 2 v := by
        unfold yT
        simp only []
        rw [xR_uR, if_neg (by omega), xR_uR, if_neg (by omega), sn_R _ _ _ _ _ _ (by decide)]
      have r4 : xR (yT t v w S) 4 v = bof (xR S 4 v) w := by
        unfold yT
        simp only []
        rw [xR_uR, if_neg (by omega), xR_uR, if_pos ⟨rfl, rfl⟩]
      have r6 : xR (yT t v w S) 6 v = bon (xR S 6 v) w := by
        unfold yT
        simp only []
        rw [xR_uR, if_pos ⟨rfl, rfl⟩]
      rw [r2, r4, r6]
      unfold yT
      simp only []
      rw [sAl_uR (by decide), sAl_uR (by decide), uR_co (k := 6) (k' := 4) _ (by decide), uR_uR, uR_uR]
    · rw [if_neg c, if_neg c, if_neg c, if_neg c]
theorem bfl_b (d : Int32) : ∀ (ws : List Nat) (x : Int32), (∀ w, w ∈ ws → w < 32) → ∀ i, i < 32 → bt (bfl d ws x) i = (bt x i && !decide (i ∈ ws ∧ bt d i = true)) := by
  intro ws
  induction ws with
  | nil => intro x _ i _; simp [bfl]
  | cons w ws ih =>
    intro x hw i hi
    have e : bfl d (w :: ws) x = bfl d ws (if bt d w then bof x w else x) := by unfold bfl; rw [List.foldl_cons]
    rw [e, ih _ (fun w' h => hw w' (by simp [h])) i hi]
    have h32 := hw w (by simp)
    by_cases c : bt d w = true
    · rw [if_pos c, bt_off _ h32 hi]
      by_cases c2 : i = w
      · simp [c2, c]
      · simp [c2]
    · rw [if_neg c]
      by_cases c2 : i = w
      · simp [c2, c]
      · simp [c2]
theorem bnl_b (d : Int32) : ∀ (ws : List Nat) (x : Int32), (∀ w, w ∈ ws → w < 32) → ∀ i, i < 32 → bt (bnl d ws x) i = (bt x i || decide (i ∈ ws ∧ bt d i = true)) := by
  intro ws
  induction ws with
  | nil => intro x _ i _; simp [bnl]
  | cons w ws ih =>
    intro x hw i hi
    have e : bnl d (w :: ws) x = bnl d ws (if bt d w then bon x w else x) := by unfold bnl; rw [List.foldl_cons]
    rw [e, ih _ (fun w' h => hw w' (by simp [h])) i hi]
    have h32 := hw w (by simp)
    by_cases c : bt d w = true
    · rw [if_pos c, bt_on _ h32 hi]
      by_cases c2 : i = w
      · simp [c2, c]
      · simp [c2]
    · rw [if_neg c]
      by_cases c2 : i = w
      · simp [c2, c]
      · simp [c2]
set_option maxHeartbeats 1000000 in
theorem HV.tfd {M : Mem} {h X Y N n : Nat} {t : Int32} {Q : Nat → Int32} {S : St} {pb pt : List Row4} (p : HV M h X Y t N Q S pb pt) (h16 : N ≤ 16) {a v : Nat} {s : Int32} (hv : v < 16) (hd0 : xR S 0 v = 1 → ∀ i, N ≤ i → i < 32 → bt (xR S 5 v) i = false) (hl : (fl S).length + N ≤ 9000) (hn : 17 ≤ n) : ∃ M', f_X2_hearFail n h (nI a) (nI v) s M = some M' ∧ HV M' h X Y t N Q (if xR S 0 v = 1 ∧ xR S 2 v = s then fd t N v a S else S) pb pt ∧ FrH M M' h := by
  have q := p.1
  rw [f_X2_hearFail, cs_f q, cs_h2 q, bnd_e, cs_a10 q, cs_i10 q hv, cs_rpc q hv, bnd_e, cs_po q hv, p.ia hv, obd_s]
  by_cases c : xR S 0 v = 1 ∧ xR S 2 v = s
  · have hd := hd0 c.1
    rw [if_pos c, if_pos c, if_neg (by decide), p.fs hv (a := 5) (k := 6) (by decide)]
    obtain ⟨p1, f1⟩ := p.fld (a := 5) (k := 6) (x := bon (xR S 6 v) a) hv (by decide) (by decide)
    generalize hMa : sI M (h + 17 + 2 * v) 5 (bon (xR S 6 v) a) = Ma at p1 f1
    generalize hS6 : uR S 6 v (bon (xR S 6 v) a) = S6 at p1
    have q2 : xR S6 2 v = xR S 2 v := by rw [← hS6, xR_uR, if_neg (by omega)]
    have q4 : xR S6 4 v = xR S 4 v := by rw [← hS6, xR_uR, if_neg (by omega)]
    have q5 : xR S6 5 v = xR S 5 v := by rw [← hS6, xR_uR, if_neg (by omega)]
    have q6 : xR S6 6 v = bon (xR S 6 v) a := by rw [← hS6, xR_uR, if_pos ⟨rfl, rfl⟩]
    have m4 := p1.fs hv (a := 4) (k := 5) (by decide)
    rw [q5] at m4
    generalize hdd : xR S 5 v = d at *
    obtain ⟨M2, e2, p2, f2⟩ := p1.tsA h16 (k := 4) (f := v) (by decide) hv d (by rw [← hS6]; exact hl) hn
    have sR : ∀ k, k ≠ 16 → xR (sA t N 4 v d (xR S6 2 v) S6) k v = xR S6 k v := fun k hk => by unfold sA; exact sAl_R _ _ _ _ _ hk _ _
    generalize hT : sA t N 4 v d (xR S6 2 v) S6 = T at p2 sR
    have n3 := p2.fs hv (a := 3) (k := 4) (by decide)
    have n4 := p2.fs hv (a := 4) (k := 5) (by decide)
    have n5 := p2.fs hv (a := 5) (k := 6) (by decide)
    rw [sR _ (by decide), q4] at n3
    rw [sR _ (by decide), q5] at n4
    rw [sR _ (by decide), q6] at n5
    have mw : ∀ w, w ∈ List.range N → w < 32 := fun w hw => by have := List.mem_range.mp hw; omega
    have b4 : xR S 4 v &&& (d ^^^ (-1 : Int32)) = bfl d (List.range N) (xR S 4 v) := by
      apply b_ext
      intro i hi
      rw [b_and, b_not _ hi, bfl_b _ _ _ mw i hi]
      by_cases z : i < N
      · simp [z]
      · simp [z, hd i (by omega) hi]
    have b6 : bon (xR S 6 v) a ||| d = bnl d (List.range N) (bon (xR S 6 v) a) := by
      apply b_ext
      intro i hi
      rw [b_or, bnl_b _ _ _ mw i hi]
      by_cases z : i < N
      · simp [z]
      · simp [z, hd i (by omega) hi]
    obtain ⟨p3, f3⟩ := p2.fld (a := 3) (k := 4) (x := bfl d (List.range N) (xR S 4 v)) hv (by decide) (by decide)
    obtain ⟨p4, f4⟩ := p3.fld (a := 5) (k := 6) (x := bnl d (List.range N) (bon (xR S 6 v) a)) hv (by decide) (by decide)
    obtain ⟨p5, f5⟩ := p4.fld (a := 4) (k := 5) (x := 0) hv (by decide) (by decide)
    refine ⟨_, ?_, ?_, (((f1.tr f2).tr f3).tr f4).tr f5⟩
    · rw [show (xR S 6 v ||| ((1 : Int32) <<< (nI a &&& 31))) = bon (xR S 6 v) a from rfl, hMa, bnd_e, m4, show f_X2_sendToAll n h 4 (nI v) d Ma = some M2 from e2, obd_s, cs_po p2.1 hv, n3, n4, b4, bnd_e, mI_n _ _ _ _ (by decide), mI_n _ _ _ _ (by decide), n5, n4, b6, bnd_e, bnd_e]
    · have ef : fd t N v a S = uR (uR (uR T 4 v (bfl d (List.range N) (xR S 4 v))) 6 v (bnl d (List.range N) (bon (xR S 6 v) a))) 5 v 0 := by
        unfold fd
        rw [hdd, hS6, fdl_e, q4, q6]
        rw [show sAl t 4 v d (xR S6 2 v) (List.range N) S6 = T from hT]
      rw [ef]
      exact p5
  · rw [if_neg c, if_neg c, if_pos rfl]
    exact ⟨M, rfl, p, FrH.rf _ _⟩
/-! ===== the class hears a request ===== -/
theorem HV.s7 {M : Mem} {h X Y N : Nat} {t : Int32} {Q : Nat → Int32} {S : St} {pb pt : List Row4} (p : HV M h X Y t N Q S pb pt) {a g : Nat} (ha : a < 16) (hg : g < 16) (h8 : xR S 8 a = nI g) : mI M (h + 17 + 2 * a) 7 = xR S 9 a := by
  obtain ⟨_, a2, _⟩ := p.2.2.1.1 a ha
  rw [a2, if_neg (show ¬ xR S 8 a = -1 by rw [h8]; exact nI_m1 hg)]
theorem HV.iag {M : Mem} {h X Y N : Nat} {t : Int32} {Q : Nat → Int32} {S : St} {pb pt : List Row4} (p : HV M h X Y t N Q S pb pt) {a g : Nat} {w : Wtr} (ha : a < 16) (hg : g < 16) (h8 : xR S 8 a = nI g) (hw : w ∈ xW S a) (hw6 : w.1 < 16) : f_X4_isAheadOfGranted (h + 17 + 2 * a) (nI w.1) M = some (if ahd w.2 (nI w.1) (xR S 9 a) (xR S 8 a) then 1 else 0) := by
  obtain ⟨_, _, _, _, a5⟩ := p.2.2.1.1 a ha
  have q := p.1
  rw [f_X4_isAheadOfGranted, cs_po q ha, cs_pr q ha, bnd_e, cs_pa q ha, cs_pi q ha hw6, mI_c (by omega), a5 w hw, p.s7 ha hg h8, p.fs ha (a := 6) (k := 8) (by decide), f_ah9, obd_s, chk_t]
  by_cases c : ahd w.2 (nI w.1) (xR S 9 a) (xR S 8 a) = true
  · rw [if_pos c]; exact Or.inr rfl
  · rw [if_neg c]; exact Or.inl rfl
theorem HV.r102 {M : Mem} {h X Y N n : Nat} {t : Int32} {Q : Nat → Int32} {S : St} {pb pt : List Row4} (p : HV M h X Y t N Q S pb pt) {a g : Nat} (ha : a < 16) (hg : g < 16) (h8 : xR S 8 a = nI g) (h10 : xR S 10 a = 0 ∨ xR S 10 a = 1) (hl : (fl S).length < 9000) : ∃ M', f_X2_hearRequest_102 n h (nI a) (h + 17 + 2 * a) M = some M' ∧ HV M' h X Y t N Q (rq3 t a S) pb pt ∧ FrH M M' h := by
  have q := p.1
  rw [f_X2_hearRequest_102, cs_po q ha, p.fs ha (a := 8) (k := 10) (by decide)]
  unfold rq3
  by_cases c : xR S 10 a = 1
  · rw [if_pos c, if_neg (by rw [c]; decide)]
    exact ⟨M, rfl, p, FrH.rf _ _⟩
  · have c0 : xR S 10 a = 0 := h10.resolve_right c
    rw [if_neg c, if_pos c0]
    obtain ⟨p1, f1⟩ := p.fld (a := 8) (k := 10) (x := 1) ha (by decide) (by decide)
    generalize hMa : sI M (h + 17 + 2 * a) 8 1 = Ma at p1 f1
    have k8 : xR (uR S 10 a 1) 8 a = nI g := by rw [xR_uR, if_neg (by omega)]; exact h8
    have k9 : xR (uR S 10 a 1) 9 a = xR S 9 a := by rw [xR_uR, if_neg (by omega)]
    have m6 := p1.fs ha (a := 6) (k := 8) (by decide)
    have m7 := p1.s7 ha hg k8
    rw [k8] at m6
    rw [k9] at m7
    obtain ⟨M2, e2, p2, f2⟩ := p1.put (k := 3) (f := a) (g := g) (s := xR S 9 a) hl (by decide) ha hg
    refine ⟨M2, ?_, ?_, f1.tr f2⟩
    · rw [chk_t (Or.inr rfl), bnd_e, cs_f p1.1, cs_h1 p1.1, bnd_e, cs_p p1.1, m6, m7, show f_X5_put (h + 1) 3 (nI a) (nI g) (xR S 9 a) Ma = some M2 from e2, obd_s]
    · rw [gn_e h8 hg]; exact p2
set_option maxHeartbeats 1000000 in
theorem HV.trq {M : Mem} {h X Y N A n : Nat} {t : Int32} {Q : Nat → Int32} {S : St} {pb pt : List Row4} (p : HV M h X Y t N Q S pb pt) (h16 : N ≤ 16) {a v s : Nat} (ha : a < 16) (hv : v < N) (hs : s ≤ A) (hW : Wok N A (xW S a)) (hnv : v ∉ (xW S a).map Prod.fst) (hG : Gok S a) (h10 : xR S 10 a = 0 ∨ xR S 10 a = 1) (hl : (fl S).length + 2 ≤ 9000) (hn : 17 ≤ n) : ∃ M', f_X2_hearRequest n h (nI v) (nI a) (nI s) M = some M' ∧ HV M' h X Y t N Q (rq t a v (nI s) S) pb pt ∧ FrH M M' h := by
  have q := p.1
  have v6 : v < 16 := by omega
  obtain ⟨M1, e1, p1, f1⟩ := p.lw (s := nI s) ha v6 hnv
  have hW1 := ins_Wok hW hv h16 hs hnv
  have fw0 := p.2.2.1.fw q ha hW h16 hn
  have w1 : xW (uW S a (ins v (nI s) (xW S a))) a = ins v (nI s) (xW S a) := by rw [xW_uW, if_pos rfl]
  have fw1 := p1.2.2.1.fw p1.1 ha (N := N) (A := A) (by rw [w1]; exact hW1) h16 hn
  rw [w1] at fw1
  generalize hl1 : ins v (nI s) (xW S a) = l1 at *
  have hvl : (v, nI s) ∈ l1 := by rw [← hl1]; exact ins_perm.mpr (Or.inl rfl)
  have hml : ∀ w, w ∈ l1 → w = (v, nI s) ∨ w ∈ xW S a := fun w hw => ins_perm.mp (by rw [hl1]; exact hw)
  have hms : ∀ w, w ∈ xW S a → w ∈ l1 := fun w hw => by rw [← hl1]; exact ins_perm.mpr (Or.inr hw)
  have q1 := p1.1
  rw [f_X2_hearRequest, cs_f q, cs_h2 q, bnd_e, cs_a10 q, cs_i10 q ha, cs_rpc q ha, bnd_e, cs_po q ha, fw0, obd_s, e1, obd_s, cs_po q1 ha, p1.fs ha (a := 6) (k := 8) (by decide)]
  generalize hS1 : uW S a l1 = S1 at *
  have r8 : xR S1 8 a = xR S 8 a := by rw [← hS1]; rfl
  have r9 : xR S1 9 a = xR S 9 a := by rw [← hS1]; rfl
  have r10 : xR S1 10 a = xR S 10 a := by rw [← hS1]; rfl
  have l0 : (fl S1).length = (fl S).length := by rw [← hS1]; rfl
  obtain ⟨w, r, hx⟩ : ∃ w r, l1 = w :: r := by
    cases z : l1 with
    | nil => rw [z] at hvl; simp at hvl
    | cons w r => exact ⟨w, r, rfl⟩
  unfold rq
  rw [hl1, hS1, r8]
  by_cases c : xR S 8 a = -1
  · rw [if_pos c, if_pos c]
    obtain ⟨M2, e2, p2, f2⟩ := p1.grant (A := A) (by omega) ha (by rw [w1]; exact hW1) h16 hn (by rw [w1]; exact hx)
    exact ⟨M2, by rw [cs_f q1, e2, obd_s], p2, f1.tr f2⟩
  · rw [if_neg c, if_neg c, fw1, obd_s]
    obtain ⟨g, hg, hg8⟩ : ∃ g, g < 16 ∧ xR S 8 a = nI g := hG.resolve_left c
    have k8 : xR S1 8 a = nI g := r8.trans hg8
    have iv := p1.iag ha hg k8 (w := (v, nI s)) (by rw [w1]; exact hvl) v6
    rw [r8, r9] at iv
    simp only at iv
    have hhd : hdW l1 = nI v ↔ l1.head? = some (v, nI s) := by
      rw [hx]
      show nI w.1 = nI v ↔ some w = some (v, nI s)
      constructor
      · intro z
        have hwl : w ∈ l1 := by rw [hx]; simp
        have w6 := (hW1.2.2 w hwl).1
        have e := (nI_eq (by omega) (by omega)).mp z
        rcases hml w hwl with h1 | h1
        · rw [h1]
        · exact absurd (List.mem_map.mpr ⟨w, h1, e⟩) hnv
      · intro z
        injection z with z
        rw [z]
    have fail : ∃ M', f_X2_hearRequest_55 n h (nI v) (nI a) (nI s) M1 = some M' ∧ HV M' h X Y t N Q (sn t 2 a v (nI s) S1) pb pt ∧ FrH M1 M' h := by
      obtain ⟨M2, e2, p2, f2⟩ := p1.put (k := 2) (f := a) (g := v) (s := nI s) (by omega) (by decide) ha v6
      exact ⟨M2, by rw [f_X2_hearRequest_55, cs_f q1, cs_h1 q1, bnd_e, cs_p q1, show f_X5_put (h + 1) 2 (nI a) (nI v) (nI s) M1 = some M2 from e2, obd_s], p2, f2⟩
    obtain ⟨Mf, ef, pf, ff⟩ := fail
    by_cases d : l1.head? = some (v, nI s)
    · rw [if_pos (hhd.mpr d), iv, obd_s]
      by_cases e : ahd (nI s) (nI v) (xR S 9 a) (xR S 8 a) = true
      · rw [if_pos e, if_neg (show ¬ (1 : Int32) = 0 by decide), if_pos (show l1.head? = some (v, nI s) ∧ ahd (nI s) (nI v) (xR S 9 a) (xR S 8 a) = true from ⟨d, e⟩)]
        have plain : ∃ M', f_X2_hearRequest_102 n h (nI a) (h + 17 + 2 * a) M1 = some M' ∧ HV M' h X Y t N Q (rq3 t a S1) pb pt ∧ FrH M1 M' h := p1.r102 ha hg k8 (by rw [r10]; exact h10) (by omega)
        obtain ⟨Mp, ep, pp, fp⟩ := plain
        cases hold : xW S a with
        | nil =>
          rw [if_pos (show hdW [] = (-1 : Int32) from rfl)]
          exact ⟨Mp, ep, pp, f1.tr fp⟩
        | cons u us =>
          have hu : u ∈ xW S a := by rw [hold]; simp
          have u6 := (hW.2.2 u hu).1
          have iu := p1.iag ha hg k8 (w := u) (by rw [w1]; exact hms u hu) (by omega)
          rw [r8, r9] at iu
          rw [if_neg (show ¬ hdW (u :: us) = (-1 : Int32) from nI_m1 (by omega)), show hdW (u :: us) = nI u.1 from rfl, iu, obd_s]
          unfold rq2
          simp only []
          rw [r8, r9]
          by_cases k : ahd u.2 (nI u.1) (xR S 9 a) (xR S 8 a) = true
          · obtain ⟨M2, e2, p2, f2⟩ := p1.put (k := 2) (f := a) (g := u.1) (s := u.2) (by omega) (by decide) ha (by omega)
            obtain ⟨M3, e3, p3, f3⟩ := p2.r102 (n := n) ha hg (by rw [sn_R _ _ _ _ _ _ (by decide)]; exact k8) (by rw [sn_R _ _ _ _ _ _ (by decide), r10]; exact h10) (by rw [fl_sn_len (by omega)]; omega)
            obtain ⟨_, _, _, _, a5⟩ := p1.2.2.1.1 a ha
            rw [if_pos k, if_neg (by decide), if_pos k]
            refine ⟨M3, ?_, p3, (f1.tr f2).tr f3⟩
            rw [cs_f q1, cs_h1 q1, bnd_e, cs_p q1, cs_pr q1 ha, bnd_e, cs_pa q1 ha, cs_pi q1 ha (by omega), mI_c (by omega), a5 u (by rw [w1]; exact hms u hu), show f_X5_put (h + 1) 2 (nI a) (nI u.1) u.2 M1 = some M2 from e2, obd_s, e3]
          · rw [if_neg k, if_pos rfl, if_neg k]
            exact ⟨Mp, ep, pp, f1.tr fp⟩
      · rw [if_neg e, if_pos rfl, if_neg (fun z => e z.2)]
        exact ⟨Mf, ef, pf, f1.tr ff⟩
    · rw [if_neg (fun z => d (hhd.mp z)), if_neg (fun z => d z.1)]
      exact ⟨Mf, ef, pf, f1.tr ff⟩
/-! ===== Integer.bitCount, as far as it is asked whether it is less than two ===== -/
def bcn (m : Nat) : Nat :=
  (fun x1 => (fun x3 => (fun x5 => (fun x7 => (x7 + (x7 >>> 16)) &&& 63) (x5 + (x5 >>> 8))) ((x3 + (x3 >>> 4)) &&& 252645135)) ((x1 &&& 858993459) + ((x1 >>> 2) &&& 858993459))) (m - ((m >>> 1) &&& 1431655765))
def pq (m : Nat) : Nat := m % 2 + (m / 2 % 2 + (m / 4 % 2 + (m / 8 % 2 + (m / 16 % 2 + (m / 32 % 2 + (m / 64 % 2 + (m / 128 % 2 + (m / 256 % 2 + (m / 512 % 2 + (m / 1024 % 2 + (m / 2048 % 2 + (m / 4096 % 2 + (m / 8192 % 2 + (m / 16384 % 2 + m / 32768 % 2))))))))))))))
theorem by_l1 {a b k c : Nat} (ha : a < 256) (hk : k ≤ 8) (hc : c < 2 ^ (8 - k)) : ((2 ^ 8 * b + a) >>> k) &&& (2 ^ 8 * c + c) = 2 ^ 8 * ((b >>> k) &&& c) + ((a >>> k) &&& c) := by
  have hc8 : c < 2 ^ 8 := Nat.lt_of_lt_of_le hc (Nat.pow_le_pow_right (by decide) (by omega))
  have hr : (a >>> k) &&& c < 2 ^ 8 := Nat.lt_of_le_of_lt Nat.and_le_right hc8
  apply Nat.eq_of_testBit_eq
  intro j
  rw [Nat.testBit_and, Nat.testBit_shiftRight, Nat.testBit_two_pow_mul_add _ ha, Nat.testBit_two_pow_mul_add _ hc8, Nat.testBit_two_pow_mul_add _ hr]
  by_cases h : j < 8
  · rw [if_pos h, if_pos h, Nat.testBit_and, Nat.testBit_shiftRight]
    by_cases h2 : k + j < 8
    · rw [if_pos h2]
    · have z : c.testBit j = false := Nat.testBit_lt_two_pow (Nat.lt_of_lt_of_le hc (Nat.pow_le_pow_right (by decide) (by omega)))
      rw [z, Bool.and_false, Bool.and_false]
  · rw [if_neg h, if_neg h, if_neg (by omega), Nat.testBit_and, Nat.testBit_shiftRight, show k + j - 8 = k + (j - 8) by omega]
theorem and_lo {x C : Nat} (hx : x < 65536) : x &&& C = x &&& (C % 65536) := by
  have h : (x &&& C) % 2 ^ 16 = (x % 2 ^ 16) &&& (C % 2 ^ 16) := Nat.and_mod_two_pow
  rw [Nat.mod_eq_of_lt (Nat.lt_of_le_of_lt Nat.and_le_left hx), Nat.mod_eq_of_lt hx] at h
  exact h
def b1 (a : Nat) : Nat := a - ((a >>> 1) &&& 85)
def b2 (p : Nat) : Nat := (p &&& 51) + ((p >>> 2) &&& 51)
def b3 (p : Nat) : Nat := (p + p / 16) % 16
theorem by_all : ∀ a, a < 256 → ((a >>> 1) &&& 85 ≤ a ∧ b1 a < 256) ∧ (b2 (b1 a) ≤ 68 ∧ b2 (b1 a) % 16 ≤ 4) ∧ b3 (b2 (b1 a)) = pq a ∧ pq a ≤ 8 := by decide +kernel
theorem pq_by {a b : Nat} (ha : a < 256) (hb : b < 256) : pq (256 * b + a) = pq a + pq b := by
  have e1 : (256 * b + a) % 2 = a % 2 := by omega
  have e2 : (256 * b + a) / 2 % 2 = a / 2 % 2 := by omega
  have e3 : (256 * b + a) / 4 % 2 = a / 4 % 2 := by omega
  have e4 : (256 * b + a) / 8 % 2 = a / 8 % 2 := by omega
  have e5 : (256 * b + a) / 16 % 2 = a / 16 % 2 := by omega
  have e6 : (256 * b + a) / 32 % 2 = a / 32 % 2 := by omega
  have e7 : (256 * b + a) / 64 % 2 = a / 64 % 2 := by omega
  have e8 : (256 * b + a) / 128 % 2 = a / 128 % 2 := by omega
  have f1 : (256 * b + a) / 256 % 2 = b % 2 := by omega
  have f2 : (256 * b + a) / 512 % 2 = b / 2 % 2 := by omega
  have f3 : (256 * b + a) / 1024 % 2 = b / 4 % 2 := by omega
  have f4 : (256 * b + a) / 2048 % 2 = b / 8 % 2 := by omega
  have f5 : (256 * b + a) / 4096 % 2 = b / 16 % 2 := by omega
  have f6 : (256 * b + a) / 8192 % 2 = b / 32 % 2 := by omega
  have f7 : (256 * b + a) / 16384 % 2 = b / 64 % 2 := by omega
  have f8 : (256 * b + a) / 32768 % 2 = b / 128 % 2 := by omega
  have z : ∀ x, x < 256 → x / 256 % 2 = 0 ∧ x / 512 % 2 = 0 ∧ x / 1024 % 2 = 0 ∧ x / 2048 % 2 = 0 ∧ x / 4096 % 2 = 0 ∧ x / 8192 % 2 = 0 ∧ x / 16384 % 2 = 0 ∧ x / 32768 % 2 = 0 := fun x hx => ⟨by omega, by omega, by omega, by omega, by omega, by omega, by omega, by omega⟩
  obtain ⟨a1, a2, a3, a4, a5, a6, a7, a8⟩ := z a ha
  obtain ⟨c1, c2, c3, c4, c5, c6, c7, c8⟩ := z b hb
  unfold pq
  rw [e1, e2, e3, e4, e5, e6, e7, e8, f1, f2, f3, f4, f5, f6, f7, f8, a1, a2, a3, a4, a5, a6, a7, a8, c1, c2, c3, c4, c5, c6, c7, c8]
  omega
theorem bcn_e {m : Nat} (hm : m < 65536) : bcn m = pq m := by
  obtain ⟨a, b, ha, hb, rfl⟩ : ∃ a b, a < 256 ∧ b < 256 ∧ m = 256 * b + a := ⟨m % 256, m / 256, Nat.mod_lt _ (by decide), by omega, by omega⟩
  obtain ⟨⟨a1, a2⟩, ⟨a3, a6⟩, a4, a5⟩ := by_all a ha
  obtain ⟨⟨c1, c2⟩, ⟨c3, c6⟩, c4, c5⟩ := by_all b hb
  have s1 : ((256 * b + a) >>> 1) &&& 1431655765 = 256 * ((b >>> 1) &&& 85) + ((a >>> 1) &&& 85) := by
    have := Nat.shiftRight_le (256 * b + a) 1
    rw [and_lo (by omega)]
    exact by_l1 (b := b) (c := 85) ha (by decide) (by decide)
  have x1 : 256 * b + a - (256 * ((b >>> 1) &&& 85) + ((a >>> 1) &&& 85)) = 256 * b1 b + b1 a := by
    unfold b1; omega
  have s2 : (256 * b1 b + b1 a) &&& 858993459 = 256 * (b1 b &&& 51) + (b1 a &&& 51) := by
    rw [and_lo (by omega)]
    exact by_l1 (b := b1 b) (a := b1 a) (k := 0) (c := 51) a2 (by decide) (by decide)
  have s3 : ((256 * b1 b + b1 a) >>> 2) &&& 858993459 = 256 * ((b1 b >>> 2) &&& 51) + ((b1 a >>> 2) &&& 51) := by
    have := Nat.shiftRight_le (256 * b1 b + b1 a) 2
    rw [and_lo (by omega)]
    exact by_l1 (b := b1 b) (a := b1 a) (k := 2) (c := 51) a2 (by decide) (by decide)
  have x3 : 256 * (b1 b &&& 51) + (b1 a &&& 51) + (256 * ((b1 b >>> 2) &&& 51) + ((b1 a >>> 2) &&& 51)) = 256 * b2 (b1 b) + b2 (b1 a) := by
    unfold b2; omega
  generalize hP : b2 (b1 a) = P at *
  generalize hQ : b2 (b1 b) = Q at *
  have x4 : 256 * Q + P + ((256 * Q + P) >>> 4) = 256 * (Q + Q / 16) + (P + P / 16 + 16 * (Q % 16)) := by
    rw [Nat.shiftRight_eq_div_pow]; omega
  have m15 : ∀ x, x &&& 15 = x % 16 := fun x => Nat.and_two_pow_sub_one_eq_mod x 4
  have s5 : (256 * (Q + Q / 16) + (P + P / 16 + 16 * (Q % 16))) &&& 252645135 = 256 * pq b + pq a := by
    rw [and_lo (by omega)]
    have := by_l1 (b := Q + Q / 16) (a := P + P / 16 + 16 * (Q % 16)) (k := 0) (c := 15) (by omega) (by decide) (by decide)
    rw [Nat.shiftRight_zero, Nat.shiftRight_zero, Nat.shiftRight_zero, m15, m15] at this
    have e : (252645135 : Nat) % 65536 = 2 ^ 8 * 15 + 15 := by decide
    rw [e, show (256 : Nat) = 2 ^ 8 from rfl, this, ← a4, ← c4]
    unfold b3
    omega
  have x7 : 256 * pq b + pq a + ((256 * pq b + pq a) >>> 8) = 256 * pq b + (pq a + pq b) := by
    rw [Nat.shiftRight_eq_div_pow]; omega
  have x9 : (256 * pq b + (pq a + pq b) + ((256 * pq b + (pq a + pq b)) >>> 16)) &&& 63 = pq a + pq b := by
    have m63 : ∀ x, x &&& 63 = x % 64 := fun x => Nat.and_two_pow_sub_one_eq_mod x 6
    have z : ∀ p, p < 9 → ∀ q, q < 9 → (256 * q + (p + q) + (256 * q + (p + q)) / 2 ^ 16) % 64 = p + q := by decide +kernel
    rw [m63, Nat.shiftRight_eq_div_pow]; exact z _ (by omega) _ (by omega)
  have e : bcn (256 * b + a) = pq a + pq b := by
    unfold bcn
    simp only []
    rw [s1, x1, s2, s3, x3, x4, s5, x7, x9]
  rw [e, pq_by ha hb]
theorem ush (m k : Nat) (hm : m < 2 ^ 32) (hk : k < 32) : ((nI m).toUInt32 >>> ((nI k).toUInt32 &&& Int32.toUInt32 31)).toInt32 = nI (m >>> k) := by
  apply Int32.toBitVec_inj.mp
  apply BitVec.eq_of_toNat_eq
  show (UInt32.toBitVec ((nI m).toUInt32 >>> ((nI k).toUInt32 &&& Int32.toUInt32 31))).toNat = (BitVec.ofNat 32 (m >>> k)).toNat
  have e1 : (UInt32.toBitVec ((nI m).toUInt32 >>> ((nI k).toUInt32 &&& Int32.toUInt32 31))).toNat = ((nI m).toUInt32.toNat) >>> (((nI k).toUInt32 &&& Int32.toUInt32 31).toNat % 32) := UInt32.toNat_shiftRight _ _
  have e2 : (nI m).toUInt32.toNat = m := by
    show (BitVec.ofNat 32 m).toNat = m
    rw [BitVec.toNat_ofNat]; exact Nat.mod_eq_of_lt hm
  have e3 : ((nI k).toUInt32 &&& Int32.toUInt32 31).toNat = k := by
    have : ∀ k, k < 32 → ((nI k).toUInt32 &&& Int32.toUInt32 31).toNat = k := by decide +kernel
    exact this k hk
  have hs : m >>> k < 2 ^ 32 := Nat.lt_of_le_of_lt (Nat.shiftRight_le m k) hm
  rw [e1, e2, e3, Nat.mod_eq_of_lt hk, BitVec.toNat_ofNat, Nat.mod_eq_of_lt hs]
theorem nI_sb {a b : Nat} (h : b ≤ a) : nI a - nI b = nI (a - b) := by
  have e : nI a = nI (a - b) + nI b := by rw [nI_add]; congr 1; omega
  rw [e, Int32.add_sub_cancel]
theorem f_bc {m : Nat} (hm : m < 65536) (M : Mem) : f_J6_bitCount_0f7a4 (nI m) M = some (nI (bcn m)) := by
  have h1 : (m >>> 1) &&& 1431655765 ≤ m := Nat.le_trans Nat.and_le_left (Nat.shiftRight_le m 1)
  generalize hx1 : m - ((m >>> 1) &&& 1431655765) = x1
  generalize hx3 : (x1 &&& 858993459) + ((x1 >>> 2) &&& 858993459) = x3
  generalize hx5 : (x3 + (x3 >>> 4)) &&& 252645135 = x5
  generalize hx7 : x5 + (x5 >>> 8) = x7
  have eb : bcn m = (x7 + (x7 >>> 16)) &&& 63 := by
    unfold bcn
    rw [hx1]
    show (fun x3 => (fun x5 => (fun x7 => (x7 + (x7 >>> 16)) &&& 63) (x5 + (x5 >>> 8))) ((x3 + (x3 >>> 4)) &&& 252645135)) ((x1 &&& 858993459) + ((x1 >>> 2) &&& 858993459)) = _
    rw [hx3]
    show (fun x5 => (fun x7 => (x7 + (x7 >>> 16)) &&& 63) (x5 + (x5 >>> 8))) ((x3 + (x3 >>> 4)) &&& 252645135) = _
    rw [hx5]
    show (fun x7 => (x7 + (x7 >>> 16)) &&& 63) (x5 + (x5 >>> 8)) = _
    rw [hx7]
  have l1 : x1 ≤ m := by omega
  have l3 : x3 ≤ 2 * x1 := by
    have a1 : x1 &&& 858993459 ≤ x1 := Nat.and_le_left
    have a2 : (x1 >>> 2) &&& 858993459 ≤ x1 >>> 2 := Nat.and_le_left
    have a3 := Nat.shiftRight_le x1 2
    omega
  have l5 : x5 ≤ 2 * x3 := by
    have a1 : (x3 + (x3 >>> 4)) &&& 252645135 ≤ x3 + (x3 >>> 4) := Nat.and_le_left
    have a3 := Nat.shiftRight_le x3 4
    omega
  have l7 : x7 ≤ 2 * x5 := by
    have a3 := Nat.shiftRight_le x5 8
    omega
  have k1 := ush m 1 (by omega) (by decide)
  have k2 := ush x1 2 (by omega) (by decide)
  have k4 := ush x3 4 (by omega) (by decide)
  have k8 := ush x5 8 (by omega) (by decide)
  have k16 := ush x7 16 (by omega) (by decide)
  rw [f_J6_bitCount_0f7a4, show ((1 : Int32)).toUInt32 = (nI 1).toUInt32 from rfl, k1, show (1431655765 : Int32) = nI 1431655765 from rfl, nx_and, nI_sb h1, hx1, bnd_e, show ((2 : Int32)).toUInt32 = (nI 2).toUInt32 from rfl, k2, show (858993459 : Int32) = nI 858993459 from rfl, nx_and, nx_and, nI_add, hx3, bnd_e, show ((4 : Int32)).toUInt32 = (nI 4).toUInt32 from rfl, k4, nI_add, show (252645135 : Int32) = nI 252645135 from rfl, nx_and, hx5, bnd_e, show ((8 : Int32)).toUInt32 = (nI 8).toUInt32 from rfl, k8, nI_add, hx7, bnd_e, show ((16 : Int32)).toUInt32 = (nI 16).toUInt32 from rfl, k16, nI_add, bnd_e, show (63 : Int32) = nI 63 from rfl, nx_and, eb]
theorem pcN_pq {m : Nat} (hm : m < 65536) : pcN m = pq m := by
  have st : ∀ k, k < 65536 → pcN k = k % 2 + pcN (k / 2) := fun k hk => pcN_half (by omega)
  have z : m / 32768 / 2 = 0 := by omega
  rw [st m hm, st (m / 2) (by omega), Nat.div_div_eq_div_mul, st (m / (2 * 2)) (by omega), Nat.div_div_eq_div_mul, st (m / (2 * 2 * 2)) (by omega), Nat.div_div_eq_div_mul, st (m / (2 * 2 * 2 * 2)) (by omega), Nat.div_div_eq_div_mul, st (m / (2 * 2 * 2 * 2 * 2)) (by omega), Nat.div_div_eq_div_mul, st (m / (2 * 2 * 2 * 2 * 2 * 2)) (by omega), Nat.div_div_eq_div_mul, st (m / (2 * 2 * 2 * 2 * 2 * 2 * 2)) (by omega), Nat.div_div_eq_div_mul, st (m / (2 * 2 * 2 * 2 * 2 * 2 * 2 * 2)) (by omega), Nat.div_div_eq_div_mul, st (m / (2 * 2 * 2 * 2 * 2 * 2 * 2 * 2 * 2)) (by omega), Nat.div_div_eq_div_mul, st (m / (2 * 2 * 2 * 2 * 2 * 2 * 2 * 2 * 2 * 2)) (by omega), Nat.div_div_eq_div_mul, st (m / (2 * 2 * 2 * 2 * 2 * 2 * 2 * 2 * 2 * 2 * 2)) (by omega), Nat.div_div_eq_div_mul, st (m / (2 * 2 * 2 * 2 * 2 * 2 * 2 * 2 * 2 * 2 * 2 * 2)) (by omega), Nat.div_div_eq_div_mul, st (m / (2 * 2 * 2 * 2 * 2 * 2 * 2 * 2 * 2 * 2 * 2 * 2 * 2)) (by omega), Nat.div_div_eq_div_mul, st (m / (2 * 2 * 2 * 2 * 2 * 2 * 2 * 2 * 2 * 2 * 2 * 2 * 2 * 2)) (by omega), Nat.div_div_eq_div_mul, st (m / (2 * 2 * 2 * 2 * 2 * 2 * 2 * 2 * 2 * 2 * 2 * 2 * 2 * 2 * 2)) (by omega), show m / (2 * 2 * 2 * 2 * 2 * 2 * 2 * 2 * 2 * 2 * 2 * 2 * 2 * 2 * 2) / 2 = 0 from z, pcN_0]
  rfl
theorem f_bcx {x : Int32} (h : ∀ i, 16 ≤ i → i < 32 → bt x i = false) (M : Mem) : f_J6_bitCount_0f7a4 x M = some (nI (pc x)) := by
  have hx := bt_hi (k := 16) (by decide) h
  have e := f_bc (m := x.toBitVec.toNat) (by omega) M
  rw [bcn_e (by omega), ← pcN_pq (by omega), ← pc_N, ← nI_tn x] at e
  exact e
/-! ===== the class: who is ahead; the hall's counts ===== -/
theorem St.ext {S S' : St} (hR : ∀ k i, xR S k i = xR S' k i) (hW : xW S = xW S') (hL : xL S = xL S') (hE : xE S = xE S') (hT : xT S = xT S') : S = S' := by
  obtain ⟨a, b, c, d, e⟩ := S
  obtain ⟨a', b', c', d', e'⟩ := S'
  have h1 : a = a' := by funext k i; exact hR k i
  have h2 : b = b' := hW
  have h3 : c = c' := hL
  have h4 : d = d' := hE
  have h5 : e = e' := hT
  rw [h1, h2, h3, h4, h5]
def gt : List (Nat × Nat) := [(10, 1), (11, 0), (12, 2), (13, 5), (14, 3), (15, 4)]
theorem HP.gs {M : Mem} {h : Nat} {S : St} (p : HP M h S) {b j : Nat} (hb : (b, j) ∈ gt) : mI M h b = xR S 15 j := by
  obtain ⟨_, _, _, _, g10, g11, g12, g13, g14, g15⟩ := p
  have : (b = 10 ∧ j = 1) ∨ (b = 11 ∧ j = 0) ∨ (b = 12 ∧ j = 2) ∨ (b = 13 ∧ j = 5) ∨ (b = 14 ∧ j = 3) ∨ (b = 15 ∧ j = 4) := by
    simpa [gt] using hb
  rcases this with ⟨rfl, rfl⟩ | ⟨rfl, rfl⟩ | ⟨rfl, rfl⟩ | ⟨rfl, rfl⟩ | ⟨rfl, rfl⟩ | ⟨rfl, rfl⟩
  · exact g10
  · exact g11
  · exact g12
  · exact g13
  · exact g14
  · exact g15
theorem HP.gw {M : Mem} {h : Nat} {S : St} (p : HP M h S) {b j : Nat} (hb : (b, j) ∈ gt) (x : Int32) : HP (sI M h b x) h (uR S 15 j x) := by
  have gs := fun b' j' (hb' : (b', j') ∈ gt) => p.gs hb'
  obtain ⟨p1, g7, g8, g9, _⟩ := p
  have hf : ∀ p, p ∈ ft → p.2 ≠ 15 := by decide
  have r : ∀ k i, k ≠ 15 → xR (uR S 15 j x) k i = xR S k i := fun k i n => by rw [xR_uR, if_neg (fun z => n z.1)]
  have lim : ∀ p, p ∈ gt → p.1 ≠ 7 ∧ p.1 ≠ 8 ∧ p.1 ≠ 9 := by decide
  have inj : ∀ p, p ∈ gt → ∀ p', p' ∈ gt → (p.1 = p'.1 ↔ p.2 = p'.2) := by decide
  obtain ⟨l7, l8, l9⟩ := lim _ hb
  have all : ∀ b' j', (b', j') ∈ gt → mI (sI M h b x) h b' = xR (uR S 15 j x) 15 j' := fun b' j' hb' => by
    have ij := inj _ hb' _ hb
    by_cases c : b' = b
    · rw [c, mI_s, xR_uR, if_pos ⟨rfl, ij.mp c⟩]
    · rw [mI_n _ _ _ _ c, xR_uR, if_neg (fun z => c (ij.mpr z.2))]; exact gs b' j' hb'
  refine ⟨fun v hv => ?_, fun v hv => ?_, fun v hv => ?_, fun v hv => ?_, all 10 1 (by decide), all 11 0 (by decide), all 12 2 (by decide), all 13 5 (by decide), all 14 3 (by decide), all 15 4 (by decide)⟩
  · obtain ⟨a1, a2, a3, a4, a5⟩ := p1 v hv
    have o1 : ∀ k, mI (sI M h b x) (h + 17 + 2 * v) k = mI M (h + 17 + 2 * v) k := fun k => mI_o _ _ _ _ _ (by omega)
    have o2 : ∀ k, mI (sI M h b x) (h + 18 + 2 * v) k = mI M (h + 18 + 2 * v) k := fun k => mI_o _ _ _ _ _ (by omega)
    refine ⟨fun p hp => ?_, ?_, fun z => ?_, fun w hw => ?_, fun w hw => ?_⟩
    · rw [o1, r _ _ (hf p hp)]; exact a1 p hp
    · rw [o1, r 8 _ (by decide), r 9 _ (by decide)]; exact a2
    · rw [o1, r 14 _ (by decide)]; exact a3 (by rw [← r 0 v (by decide)]; exact z)
    · rw [o1]; exact a4 w hw
    · rw [o2]; exact a5 w hw
  · rw [mI_n _ _ _ _ (Ne.symm l7), r 0 _ (by decide)]; exact g7 v hv
  · rw [mI_n _ _ _ _ (Ne.symm l8), r 0 _ (by decide)]; exact g8 v hv
  · rw [mI_n _ _ _ _ (Ne.symm l9), r 7 _ (by decide)]; exact g9 v hv
theorem HV.gs {M : Mem} {h X Y N : Nat} {t : Int32} {Q : Nat → Int32} {S : St} {pb pt : List Row4} (p : HV M h X Y t N Q S pb pt) {b j : Nat} (hb : (b, j) ∈ gt) : mI M h b = xR S 15 j := p.2.2.1.gs hb
theorem HV.gw {M : Mem} {h X Y N : Nat} {t : Int32} {Q : Nat → Int32} {S : St} {pb pt : List Row4} (p : HV M h X Y t N Q S pb pt) {b j : Nat} (hb : (b, j) ∈ gt) (x : Int32) : HV (sI M h b x) h X Y t N Q (uR S 15 j x) pb pt ∧ FrH M (sI M h b x) h :=
  ⟨p.at rfl (fun o n b => mI_o _ _ _ _ _ (by omega)) (p.2.2.1.gw hb x) rfl (by funext i; rw [xR_uR, if_neg (fun z => by have := z.1; omega)]) rfl rfl, FrH.sI (by omega)⟩
theorem HV.t11 {M : Mem} {h X Y N : Nat} {t : Int32} {Q : Nat → Int32} {S : St} {pb pt : List Row4} (p : HV M h X Y t N Q S pb pt) : mI M (h + 1) 11 = t := by
  obtain ⟨d5, d6, d7, len, K, fr, us, ow, w, _⟩ := p.2.1
  exact w.2.2.2.2.2.2.2.2.2.2.1
/-- a register of no place's and no hall's number that the class's hall holds -/
theorem HV.ahl {h X Y N : Nat} {t : Int32} {Q : Nat → Int32} {S : St} {pb pt : List Row4} {M : Mem} (p : HV M h X Y t N Q S pb pt) (h16 : N ≤ 16) {v : Nat} (hv : v < 16) : ∀ (d i n : Nat), i + d = N → d + 1 ≤ n → f_X2_isSomeoneAheadOf_2 M n h (nI v) (nI i) = some (if ovr' i d v S then 1 else 0) := by
  intro d
  induction d with
  | zero =>
    intro i n hi hn
    obtain ⟨n, rfl⟩ : ∃ m, n = m + 1 := ⟨n - 1, by omega⟩
    have q := p.1
    rw [f_X2_isSomeoneAheadOf_2, cs_f q, cs_h0 q, bnd_e, cs_s q, p.2.2.2.2.2.1, if_pos (nI_le (by omega) (by omega))]
    rfl
  | succ d ih =>
    intro i n hi hn
    obtain ⟨n, rfl⟩ : ∃ m, n = m + 1 := ⟨n - 1, by omega⟩
    have q := p.1
    have g8 := p.2.2.1.2.2.1 i (by omega)
    have eo : ovr' i (d + 1) v S = ((decide (xR S 0 i = 1) && ahd (xR S 2 i) (nI i) (xR S 2 v) (nI v)) || ovr' (i + 1) d v S) := by
      unfold ovr'
      rw [List.range'_succ, List.any_cons]
    rw [eo, f_X2_isSomeoneAheadOf_2, cs_f q, cs_h0 q, bnd_e, cs_s q, p.2.2.2.2.2.1, if_neg (nI_ge (by omega) (by omega)), f_has9 _ (by omega), obd_s, g8]
    have next := ih (i + 1) n (by omega) (by omega)
    by_cases c : xR S 0 i = 1
    · rw [if_pos (show decide (i < 16 ∧ xR S 0 i = 1) = true from decide_eq_true ⟨by omega, c⟩), if_neg ne10, cs_h2 q, bnd_e, cs_a10 q, cs_i10 q (by omega), cs_rpc q (by omega), bnd_e, cs_po q (by omega), bnd_e, cs_a10 q, cs_i10 q hv, cs_rpc q hv, bnd_e, cs_po q hv, p.fs (v := i) (by omega) (a := 1) (k := 2) (by decide), p.fs hv (a := 1) (k := 2) (by decide), f_ah9, obd_s, decide_eq_true c, Bool.true_and]
      cases ha : ahd (xR S 2 i) (nI i) (xR S 2 v) (nI v)
      · rw [if_neg (show ¬ false = true by decide), if_pos rfl, nI_1, bnd_e, next, Bool.false_or]
      · rw [if_pos rfl, if_neg ne10, Bool.true_or, if_pos rfl]
    · rw [if_neg (show ¬ decide (i < 16 ∧ xR S 0 i = 1) = true from fun z => c (of_decide_eq_true z).2), if_pos rfl, nI_1, bnd_e, next, decide_eq_false c, Bool.false_and, Bool.false_or]
theorem HV.ahead {h X Y N : Nat} {t : Int32} {Q : Nat → Int32} {S : St} {pb pt : List Row4} {M : Mem} (p : HV M h X Y t N Q S pb pt) (h16 : N ≤ 16) {v : Nat} (hv : v < 16) {n : Nat} (hn : 17 ≤ n) : f_X2_isSomeoneAheadOf n h (nI v) M = some (if ovr N v S then 1 else 0) := by
  have := p.ahl h16 hv N 0 n (by omega) (by omega)
  have eo : ovr' 0 N v S = ovr N v S := by
    unfold ovr' ovr
    rw [List.range_eq_range']
  rw [eo] at this
  exact this
/-! ===== the class: entering ===== -/
/-- a row of the book or the trace is told to the class's log -/
theorem cs_h3 {M : Mem} {h : Nat} (q : CS M h) : mR M h 3 = h + 11 := q.r (a := 0) (b := 3) (c := 11) (by decide)
theorem cs_h4 {M : Mem} {h : Nat} (q : CS M h) : mR M h 4 = h + 13 := q.r (a := 0) (b := 4) (c := 13) (by decide)
theorem cs_e11 {M : Mem} {h : Nat} (q : CS M h) : isO M 3 (h + 11) ∧ mR M (h + 11) 1 = h + 11 + 1 ∧ isO M 100 (h + 11 + 1) ∧ mLn M (h + 11 + 1) = 4 * 30 :=
  ⟨q.io (by decide) (by decide) (by decide), q.r (a := 11) (b := 1) (c := 12) (by decide), q.io (i := 12) (by decide) (by decide) (by decide), q.ln (i := 12) (by decide) (by decide) (by decide)⟩
theorem cs_e13 {M : Mem} {h : Nat} (q : CS M h) : isO M 3 (h + 13) ∧ mR M (h + 13) 1 = h + 13 + 1 ∧ isO M 100 (h + 13 + 1) ∧ mLn M (h + 13 + 1) = 4 * 40 :=
  ⟨q.io (by decide) (by decide) (by decide), q.r (a := 13) (b := 1) (c := 14) (by decide), q.io (i := 14) (by decide) (by decide) (by decide), q.ln (i := 14) (by decide) (by decide) (by decide)⟩
theorem HV.lgE {M : Mem} {h X Y N : Nat} {t : Int32} {Q : Nat → Int32} {S : St} {pb pt : List Row4} (p : HV M h X Y t N Q S pb pt) (a b c d : Int32) : ∃ M', f_X3_add (h + 11) a b c d M = some M' ∧ HV M' h X Y t N Q (uE S (a, b, c, d)) pb pt ∧ FrH M M' h := by
  obtain ⟨q, pv, hp, rm, ⟨lb, lt⟩, hN, hQ⟩ := p
  obtain ⟨i1, r1, i2, n2⟩ := cs_e11 q
  obtain ⟨M', e, l', s, sL, o⟩ := f_add (Or.inl rfl) i1 r1 i2 n2 lb a b c d
  have hI : ∀ o', o' ≠ h + 11 → o' ≠ h + 12 → ∀ b, mI M' o' b = mI M o' b := fun o' n1 n2 b => o o' n1 n2 b
  refine ⟨M', e, ⟨q.e s, pv.fr q s (fun o' n b => hI o' (by omega) (by omega) b) rfl rfl, hp.cg (fun o' n b => hI o' (by omega) (by omega) b) (fun _ _ _ => rfl) rfl, ?_, ⟨?_, ?_⟩, ?_, fun v hv => ?_⟩, FrH.of s (fun o' n b => hI o' (by omega) (by omega) b) sL⟩
  · unfold Rm mN mU mLn mR at rm ⊢
    rw [s]; exact rm
  · show LG M' (h + 11) 30 (pb ++ (xE S ++ [(a, b, c, d)]))
    rw [← List.append_assoc]; exact l'
  · exact lt.cg (hI _ (by omega) (by omega)) (hI _ (by omega) (by omega))
  · have := q.2.2.2.2
    rw [hI 1 (by omega) (by omega)]; exact hN
  · rw [hI _ (by omega) (by omega)]; exact hQ v hv
theorem HV.lgT {M : Mem} {h X Y N : Nat} {t : Int32} {Q : Nat → Int32} {S : St} {pb pt : List Row4} (p : HV M h X Y t N Q S pb pt) (a b c d : Int32) : ∃ M', f_X3_add (h + 13) a b c d M = some M' ∧ HV M' h X Y t N Q (uT S (a, b, c, d)) pb pt ∧ FrH M M' h := by
  obtain ⟨q, pv, hp, rm, ⟨lb, lt⟩, hN, hQ⟩ := p
  obtain ⟨i1, r1, i2, n2⟩ := cs_e13 q
  obtain ⟨M', e, l', s, sL, o⟩ := f_add (Or.inr rfl) i1 r1 i2 n2 lt a b c d
  have hI : ∀ o', o' ≠ h + 13 → o' ≠ h + 14 → ∀ b, mI M' o' b = mI M o' b := fun o' n1 n2 b => o o' n1 n2 b
  refine ⟨M', e, ⟨q.e s, pv.fr q s (fun o' n b => hI o' (by omega) (by omega) b) rfl rfl, hp.cg (fun o' n b => hI o' (by omega) (by omega) b) (fun _ _ _ => rfl) rfl, ?_, ⟨?_, ?_⟩, ?_, fun v hv => ?_⟩, FrH.of s (fun o' n b => hI o' (by omega) (by omega) b) sL⟩
  · unfold Rm mN mU mLn mR at rm ⊢
    rw [s]; exact rm
  · exact lb.cg (hI _ (by omega) (by omega)) (hI _ (by omega) (by omega))
  · show LG M' (h + 13) 40 (pt ++ (xT S ++ [(a, b, c, d)]))
    rw [← List.append_assoc]; exact l'
  · have := q.2.2.2.2
    rw [hI 1 (by omega) (by omega)]; exact hN
  · rw [hI _ (by omega) (by omega)]; exact hQ v hv
theorem ovr_c {N v : Nat} {S S' : St} (h0 : ∀ w, xR S' 0 w = xR S 0 w) (h2 : ∀ w, xR S' 2 w = xR S 2 w) : ovr N v S' = ovr N v S := by
  unfold ovr
  simp only [h0, h2]
theorem pcI_c {N : Nat} {S S' : St} (h0 : ∀ w, xR S' 0 w = xR S 0 w) : pcI N S' = pcI N S := by
  unfold pcI
  simp only [h0]
def mxI (a b : Int32) : Int32 := if a < b then b else a
theorem mx_le (S : St) (k i : Nat) (x : Int32) : (if x ≤ xR S k i then S else uR S k i x) = uR S k i (mxI (xR S k i) x) := by
  unfold mxI
  by_cases c : xR S k i < x
  · rw [if_pos c, if_neg (Int32.not_le.mpr c)]
  · rw [if_neg c, if_pos (Int32.not_lt.mp c), uR_id]
theorem uR_uE (S : St) (k i : Nat) (x : Int32) (r : Row4) : uR (uE S r) k i x = uE (uR S k i x) r := rfl
/-- the model's entering, in the order in which the class writes it -/
def enC (t : Int32) (N v : Nat) (S : St) : St :=
  let S1 := uR (uR S 5 v 0) 0 v 2
  let S2 := uR (uR (uR S1 21 v t) 12 v (xR S 12 v + 1)) 15 0 (xR S 15 0 + 1)
  let S3 := uR S2 15 2 (xR S 15 2 + (if pcI N S1 ≤ 1 then 0 else 1))
  let S4 := uR S3 15 5 (xR S 15 5 + (if ovr N v S1 then 1 else 0))
  let x := xR S 15 1 - xR S 13 v
  let S5 := uR (uR S4 15 4 (mxI (xR S 15 4) x)) 15 3 (mxI (xR S 15 3) (xR S 14 v))
  uE S5 (nI v, xR S 2 v, x, xR S 14 v)
theorem en_ch (S : St) (v : Nat) (m0 m12 m2 m3 m4 m5 t : Int32) : uR (uR (uR (uR (uR (uR (uR (uR (uR S 0 v 2) 5 v 0) 15 0 m0) 12 v m12) 15 4 m4) 15 3 m3) 15 2 m2) 15 5 m5) 21 v t = uR (uR (uR (uR (uR (uR (uR (uR (uR S 5 v 0) 0 v 2) 21 v t) 12 v m12) 15 0 m0) 15 2 m2) 15 5 m5) 15 4 m4) 15 3 m3 := by
  have c : ∀ (S : St) {k i k' i' : Nat} (x y : Int32), ¬ (k = k' ∧ i = i') → uR (uR S k i x) k' i' y = uR (uR S k' i' y) k i x := fun S _ _ _ _ x y h => uR_cm S x y h
  rw [c _ (k := 15) (i := 5) (k' := 21) (i' := v) m5 t (by omega), c _ (k := 15) (i := 2) (k' := 21) (i' := v) m2 t (by omega), c _ (k := 15) (i := 3) (k' := 21) (i' := v) m3 t (by omega), c _ (k := 15) (i := 4) (k' := 21) (i' := v) m4 t (by omega), c _ (k := 12) (i := v) (k' := 21) (i' := v) m12 t (by omega), c _ (k := 15) (i := 0) (k' := 21) (i' := v) m0 t (by omega), c _ (k := 0) (i := v) (k' := 5) (i' := v) 2 0 (by omega), c _ (k := 15) (i := 0) (k' := 12) (i' := v) m0 m12 (by omega), c _ (k := 15) (i := 3) (k' := 15) (i' := 2) m3 m2 (by omega), c _ (k := 15) (i := 4) (k' := 15) (i' := 2) m4 m2 (by omega), c _ (k := 15) (i := 3) (k' := 15) (i' := 5) m3 m5 (by omega), c _ (k := 15) (i := 4) (k' := 15) (i' := 5) m4 m5 (by omega)]
def st2 (N : Nat) (S : St) : St := if pcI N S ≤ 1 then S else uR S 15 2 (xR S 15 2 + 1)
def st5 (N v : Nat) (S : St) : St := uR S 15 5 (xR S 15 5 + (if ovr N v S then 1 else 0))
theorem st2_e {N k : Nat} {S : St} (h : pcI N S = k) : st2 N S = uR S 15 2 (xR S 15 2 + (if k ≤ 1 then 0 else 1)) := by
  unfold st2
  rw [h]
  by_cases c : k ≤ 1
  · rw [if_pos c, if_pos c, Int32.add_zero, uR_id]
  · rw [if_neg c, if_neg c]
theorem st5_e {N v : Nat} {b : Bool} {S : St} (h : ovr N v S = b) : st5 N v S = uR S 15 5 (xR S 15 5 + (if b then 1 else 0)) := by
  unfold st5
  rw [h]
def enG (t : Int32) (N v : Nat) (x y : Int32) (S : St) : St := uR (uE (st5 N v (st2 N S)) (nI v, xR (st5 N v (st2 N S)) 2 v, x, y)) 21 v t
def enA (v : Nat) (S : St) : St := uR (uR (uR (uR S 0 v 2) 5 v 0) 15 0 (xR S 15 0 + 1)) 12 v (xR S 12 v + 1)
def enM (v : Nat) (x y : Int32) (S : St) : St := if y ≤ xR S 15 3 then (if x ≤ xR S 15 4 then enA v S else uR (enA v S) 15 4 x) else uR (if x ≤ xR S 15 4 then enA v S else uR (enA v S) 15 4 x) 15 3 y
theorem en_f (t : Int32) (N v : Nat) (S : St) : en t N v S = enG t N v (xR S 15 1 - xR S 13 v) (xR S 14 v) (enM v (xR S 15 1 - xR S 13 v) (xR S 14 v) S) := rfl
theorem enM_e (v : Nat) (x y : Int32) (S : St) : enM v x y S = uR (uR (enA v S) 15 4 (mxI (xR S 15 4) x)) 15 3 (mxI (xR S 15 3) y) := by
  have a154 : xR (enA v S) 15 4 = xR S 15 4 := by unfold enA; simp [xR_uR]
  have a153 : ∀ z, xR (uR (enA v S) 15 4 z) 15 3 = xR S 15 3 := fun z => by unfold enA; simp [xR_uR]
  have e1 : (if x ≤ xR S 15 4 then enA v S else uR (enA v S) 15 4 x) = uR (enA v S) 15 4 (mxI (xR S 15 4) x) := by
    have := mx_le (enA v S) 15 4 x
    rwa [a154] at this
  unfold enM
  rw [e1]
  have := mx_le (uR (enA v S) 15 4 (mxI (xR S 15 4) x)) 15 3 y
  rwa [a153] at this
theorem enC_e (t : Int32) (N v : Nat) (S : St) : en t N v S = enC t N v S := by
  rw [en_f, enM_e]
  unfold enC
  simp only []
  generalize hS1 : uR (uR S 5 v 0) 0 v 2 = S1
  generalize hx : xR S 15 1 - xR S 13 v = x
  generalize hy : xR S 14 v = y
  generalize mxI (xR S 15 4) x = m4
  generalize mxI (xR S 15 3) y = m3
  have k0 : ∀ w, xR S1 0 w = if w = v then 2 else xR S 0 w := fun w => by
    rw [← hS1, xR_uR, xR_uR]
    by_cases c : w = v
    · rw [if_pos ⟨rfl, c⟩, if_pos c]
    · rw [if_neg (fun z => c z.2), if_neg (fun z => by have := z.1; omega), if_neg c]
  have k2 : ∀ w, xR S1 2 w = xR S 2 w := fun w => by
    rw [← hS1, xR_uR, if_neg (fun z => by have := z.1; omega), xR_uR, if_neg (fun z => by have := z.1; omega)]
  generalize hB : uR (uR (enA v S) 15 4 m4) 15 3 m3 = B
  have b0 : ∀ w, xR B 0 w = xR S1 0 w := fun w => by
    rw [k0, ← hB, xR_uR, if_neg (fun z => by have := z.1; omega), xR_uR, if_neg (fun z => by have := z.1; omega)]
    unfold enA
    rw [xR_uR, if_neg (fun z => by have := z.1; omega), xR_uR, if_neg (fun z => by have := z.1; omega), xR_uR, if_neg (fun z => by have := z.1; omega), xR_uR]
    by_cases c : w = v
    · rw [if_pos ⟨rfl, c⟩, if_pos c]
    · rw [if_neg (fun z => c z.2), if_neg c]
  have b2 : ∀ w, xR B 2 w = xR S1 2 w := fun w => by
    rw [k2, ← hB, xR_uR, if_neg (fun z => by have := z.1; omega), xR_uR, if_neg (fun z => by have := z.1; omega)]
    unfold enA
    rw [xR_uR, if_neg (fun z => by have := z.1; omega), xR_uR, if_neg (fun z => by have := z.1; omega), xR_uR, if_neg (fun z => by have := z.1; omega), xR_uR, if_neg (fun z => by have := z.1; omega)]
  have b15 : ∀ j, j ≠ 3 → j ≠ 4 → j ≠ 0 → xR B 15 j = xR S 15 j := fun j n3 n4 n0 => by
    rw [← hB, xR_uR, if_neg (fun z => n3 z.2), xR_uR, if_neg (fun z => n4 z.2)]
    unfold enA
    rw [xR_uR, if_neg (fun z => by have := z.1; omega), xR_uR, if_neg (fun z => n0 z.2), xR_uR, if_neg (fun z => by have := z.1; omega), xR_uR, if_neg (fun z => by have := z.1; omega)]
  have hp : pcI N B = pcI N S1 := pcI_c b0
  generalize pcI N S1 = pk at hp
  have f2 := st2_e hp
  rw [b15 2 (by decide) (by decide) (by decide)] at f2
  generalize xR S 15 2 + (if pk ≤ 1 then 0 else 1) = m2 at f2
  have c0 : ∀ w, xR (uR B 15 2 m2) 0 w = xR S1 0 w := fun w => by
    rw [xR_uR, if_neg (fun z => by have := z.1; omega), b0]
  have c2 : ∀ w, xR (uR B 15 2 m2) 2 w = xR S1 2 w := fun w => by
    rw [xR_uR, if_neg (fun z => by have := z.1; omega), b2]
  have ho : ovr N v (uR B 15 2 m2) = ovr N v S1 := ovr_c c0 c2
  generalize ovr N v S1 = ob at ho
  have f5 := st5_e ho
  rw [xR_uR, if_neg (fun z => by have := z.2; omega), b15 5 (by decide) (by decide) (by decide)] at f5
  generalize xR S 15 5 + (if ob = true then 1 else 0) = m5 at f5
  unfold enG
  rw [f2, f5, uR_uE, xR_uR, if_neg (fun z => by have := z.1; omega), c2, k2]
  have e4 : ∀ Z Z' r, Z = Z' → uE Z r = uE Z' r := fun Z Z' r z => by rw [z]
  refine e4 _ _ _ ?_
  rw [← hB, ← hS1]
  exact en_ch S v _ _ m2 m3 m4 m5 t
set_option maxHeartbeats 2000000 in
theorem HV.en {M : Mem} {h X Y N n : Nat} {t : Int32} {Q : Nat → Int32} {S : St} {pb pt : List Row4} (p : HV M h X Y t N Q S pb pt) (h16 : N ≤ 16) {v : Nat} (hv : v < 16) (h1 : xR S 0 v = 1) (hI : ∀ w, N ≤ w → w < 16 → xR S 0 w ≠ 2) (hvN : v < N) (hn : 17 ≤ n) : ∃ M', f_X2_enter n h (nI v) M = some M' ∧ HV M' h X Y t N Q (en t N v S) pb pt ∧ FrH M M' h := by
  have q := p.1
  rw [enC_e]
  obtain ⟨p1, f1⟩ := p.fld (a := 4) (k := 5) (x := 0) hv (by decide) (by decide)
  generalize hMa : sI M (h + 17 + 2 * v) 4 0 = Ma at p1 f1
  generalize hMb : sI Ma h 8 (bof (mI Ma h 8) v) = Mb
  generalize hMc : sI Mb h 7 (bon (mI Mb h 7) v) = Mc
  have sb : Mb.1 = Ma.1 := by rw [← hMb]; rfl
  have sc : Mc.1 = Ma.1 := by rw [← hMc]; exact sb
  have oc : ∀ o, o ≠ h → ∀ b, mI Mc o b = mI Ma o b := fun o n b => by rw [← hMc, mI_o _ _ _ _ _ n, ← hMb, mI_o _ _ _ _ _ n]
  obtain ⟨_, g7, g8, _⟩ := id p1.2.2.1
  have hpc : HP Mc h (uR (uR S 5 v 0) 0 v 2) := by
    refine p1.2.2.1.stt (fun u hu => ?_) (fun u hu => ?_) oc (fun b n7 n8 => by rw [← hMc, mI_n _ _ _ _ n7, ← hMb, mI_n _ _ _ _ n8]) (fun z => absurd z (by decide))
    · rw [← hMc, mI_s, bt_on _ (by omega) hu, ← hMb, mI_n _ _ _ _ (by decide), g7 u hu]
      by_cases c : u = v
      · rw [if_pos c]; simp [c, hv]
      · rw [if_neg c]; simp [c]
    · rw [← hMc, mI_n _ _ _ _ (by decide), ← hMb, mI_s, bt_off _ (by omega) hu, g8 u hu]
      by_cases c : u = v
      · rw [if_pos c]; simp [c]
      · rw [if_neg c]; simp [c]
  have p2 : HV Mc h X Y t N Q (uR (uR S 5 v 0) 0 v 2) pb pt := p1.at sc (fun o n b => oc o (fun z => n (Or.inl z)) b) hpc rfl (by funext i; rw [xR_uR, if_neg (fun z => by have := z.1; omega)]) rfl rfl
  have f2 : FrH Ma Mc h := FrH.of sc (fun o n b => oc o (fun z => n (by omega)) b) (fun o b => by rw [← hMc, ← hMb]; rfl)
  generalize hS1 : uR (uR S 5 v 0) 0 v 2 = S1 at p2
  have k0 : ∀ w, xR S1 0 w = if w = v then 2 else xR S 0 w := fun w => by
    rw [← hS1, xR_uR, xR_uR]
    by_cases c : w = v
    · rw [if_pos ⟨rfl, c⟩, if_pos c]
    · rw [if_neg (fun z => c z.2), if_neg (fun z => by have := z.1; omega), if_neg c]
  have kk : ∀ k i, k ≠ 0 → k ≠ 5 → xR S1 k i = xR S k i := fun k i n0 n5 => by
    rw [← hS1, xR_uR, if_neg (fun z => n0 z.1), xR_uR, if_neg (fun z => n5 z.1)]
  obtain ⟨p3, f3⟩ := p2.fld (a := 15) (k := 21) (x := t) hv (by decide) (by decide)
  generalize hMd : sI Mc (h + 17 + 2 * v) 15 t = Md at p3 f3
  have d11 := p3.fs hv (a := 11) (k := 12) (by decide)
  rw [xR_uR, if_neg (by omega), kk 12 _ (by decide) (by decide)] at d11
  obtain ⟨p4, f4⟩ := p3.fld (a := 11) (k := 12) (x := xR S 12 v + 1) hv (by decide) (by decide)
  generalize hMe : sI Md (h + 17 + 2 * v) 11 (xR S 12 v + 1) = Me at p4 f4
  have e11 := p4.gs (b := 11) (j := 0) (by decide)
  rw [xR_uR, if_neg (by omega), xR_uR, if_neg (by omega), kk 15 _ (by decide) (by decide)] at e11
  obtain ⟨p5, f5⟩ := p4.gw (b := 11) (j := 0) (by decide) (xR S 15 0 + 1)
  generalize hMf : sI Me h 11 (xR S 15 0 + 1) = Mf at p5 f5
  generalize hS2 : uR (uR (uR S1 21 v t) 12 v (xR S 12 v + 1)) 15 0 (xR S 15 0 + 1) = S2 at p5
  have m0 : ∀ w, xR S2 0 w = xR S1 0 w := fun w => by
    rw [← hS2, xR_uR, if_neg (by omega), xR_uR, if_neg (by omega), xR_uR, if_neg (by omega)]
  have m2 : ∀ w, xR S2 2 w = xR S1 2 w := fun w => by
    rw [← hS2, xR_uR, if_neg (by omega), xR_uR, if_neg (by omega), xR_uR, if_neg (by omega)]
  have m15 : ∀ j, j ≠ 0 → xR S2 15 j = xR S 15 j := fun j nj => by
    rw [← hS2, xR_uR, if_neg (by omega), xR_uR, if_neg (by omega), xR_uR, if_neg (by omega), kk _ _ (by decide) (by decide)]
  have m13 : xR S2 13 v = xR S 13 v := by
    rw [← hS2, xR_uR, if_neg (by omega), xR_uR, if_neg (by omega), xR_uR, if_neg (by omega), kk _ _ (by decide) (by decide)]
  have b7 := p5.2.2.1.2.1
  have er := f_bcx (x := mI Mf h 7) (fun i hi1 hi2 => by rw [b7 i hi2]; simp; omega) Mf
  have hpc2 : pc (mI Mf h 7) = pcI N S1 := by
    rw [pc_mask (N := N) (S := S2) (fun w hw => ?_), pcI_c m0]
    rw [b7 w hw]
    by_cases c : w < N
    · have : w < 16 := by omega
      simp [c, this]
    · by_cases c2 : w < 16
      · have nv : w ≠ v := by omega
        have := hI w (by omega) c2
        rw [m0, k0, if_neg nv]
        simp [c, this]
      · simp [c, c2]
  rw [hpc2] at er
  have p32 : pcI N S1 ≤ 32 := by rw [← hpc2]; exact pc_le _
  have hr : nI (pcI N S1) < (2 : Int32) ↔ pcI N S1 ≤ 1 := by
    rw [show (2 : Int32) = nI 2 from rfl, nI_ltI (by omega) (by decide)]
    omega
  -- the hall's twice
  have g12 := p5.gs (b := 12) (j := 2) (by decide)
  rw [m15 2 (by decide)] at g12
  have P6 : ∃ Mg, (if nI (pcI N S1) < (2 : Int32) then f_X2_enter_90 n h (nI v) (h + 17 + 2 * v) Mf else bnd (sI Mf h 12 ((mI Mf h 12) + (1 : Int32))) fun M49 => f_X2_enter_90 n h (nI v) (h + 17 + 2 * v) M49) = f_X2_enter_90 n h (nI v) (h + 17 + 2 * v) Mg ∧ HV Mg h X Y t N Q (uR S2 15 2 (xR S 15 2 + (if pcI N S1 ≤ 1 then 0 else 1))) pb pt ∧ FrH Mf Mg h ∧ (∀ o, o ≠ h → ∀ b, mI Mg o b = mI Mf o b) := by
    by_cases c : pcI N S1 ≤ 1
    · rw [if_pos (hr.mpr c), if_pos c, Int32.add_zero, ← m15 2 (by decide), uR_id]
      exact ⟨Mf, rfl, p5, FrH.rf _ _, fun _ _ _ => rfl⟩
    · rw [if_neg (fun z => c (hr.mp z)), if_neg c]
      obtain ⟨p6, f6⟩ := p5.gw (b := 12) (j := 2) (by decide) (xR S 15 2 + 1)
      exact ⟨_, by rw [g12, bnd_e], p6, f6, fun o n b => mI_o _ _ _ _ _ n⟩
  obtain ⟨Mg, e6, p6, f6, og⟩ := P6
  generalize hS3 : uR S2 15 2 (xR S 15 2 + (if pcI N S1 ≤ 1 then 0 else 1)) = S3 at p6
  have n0 : ∀ w, xR S3 0 w = xR S1 0 w := fun w => by rw [← hS3, xR_uR, if_neg (by omega), m0]
  have n2 : ∀ w, xR S3 2 w = xR S1 2 w := fun w => by rw [← hS3, xR_uR, if_neg (by omega), m2]
  have n15 : ∀ j, j ≠ 0 → j ≠ 2 → xR S3 15 j = xR S 15 j := fun j n1 n2 => by rw [← hS3, xR_uR, if_neg (by omega), m15 j n1]
  have n13 : xR S3 13 v = xR S 13 v := by rw [← hS3, xR_uR, if_neg (by omega), m13]
  have ah := p6.ahead h16 hv hn
  rw [ovr_c n0 n2] at ah
  have g13 := p6.gs (b := 13) (j := 5) (by decide)
  rw [n15 5 (by decide) (by decide)] at g13
  have P7 : ∃ Mh, f_X2_enter_90 n h (nI v) (h + 17 + 2 * v) Mg = f_X2_enter_108 n h (nI v) (h + 17 + 2 * v) Mh ∧ HV Mh h X Y t N Q (uR S3 15 5 (xR S 15 5 + (if ovr N v S1 then 1 else 0))) pb pt ∧ FrH Mg Mh h ∧ (∀ o, o ≠ h → ∀ b, mI Mh o b = mI Mg o b) := by
    rw [f_X2_enter_90, cs_f p6.1, ah, obd_s]
    by_cases c : ovr N v S1 = true
    · rw [if_pos c, if_neg ne10]
      obtain ⟨p7, f7⟩ := p6.gw (b := 13) (j := 5) (by decide) (xR S 15 5 + 1)
      exact ⟨_, by rw [g13, bnd_e], p7, f7, fun o n b => mI_o _ _ _ _ _ n⟩
    · rw [if_neg c, if_pos rfl, Int32.add_zero, ← n15 5 (by decide) (by decide), uR_id]
      exact ⟨Mg, rfl, p6, FrH.rf _ _, fun _ _ _ => rfl⟩
  obtain ⟨Mh, e7, p7, f7, oh⟩ := P7
  generalize hS4 : uR S3 15 5 (xR S 15 5 + (if ovr N v S1 then 1 else 0)) = S4 at p7
  have o15 : ∀ j, j ≠ 0 → j ≠ 2 → j ≠ 5 → xR S4 15 j = xR S 15 j := fun j n1 n2 n3 => by rw [← hS4, xR_uR, if_neg (by omega), n15 j n1 n2]
  have o13 : xR S4 13 v = xR S 13 v := by rw [← hS4, xR_uR, if_neg (by omega), n13]
  have o2 : xR S4 2 v = xR S 2 v := by rw [← hS4, xR_uR, if_neg (by omega), n2, kk _ _ (by decide) (by decide)]
  -- the waited, the letters, the log
  generalize hx : xR S 15 1 - xR S 13 v = x
  generalize hy : xR S 14 v = y
  have i10 := p7.gs (b := 10) (j := 1) (by decide)
  rw [o15 1 (by decide) (by decide) (by decide)] at i10
  have i13 := p7.fs hv (a := 13) (k := 13) (by decide)
  rw [o13] at i13
  have i15 := p7.gs (b := 15) (j := 4) (by decide)
  rw [o15 4 (by decide) (by decide) (by decide)] at i15
  obtain ⟨p8, f8⟩ := p7.gw (b := 15) (j := 4) (by decide) (mxI (xR S 15 4) x)
  generalize hMi : sI Mh h 15 (mxI (xR S 15 4) x) = Mi at p8 f8
  have j14 := p8.gs (b := 14) (j := 3) (by decide)
  rw [xR_uR, if_neg (by omega), o15 3 (by decide) (by decide) (by decide)] at j14
  have l14 : mI M (h + 17 + 2 * v) 14 = y := by
    rw [← hy]
    exact (p.2.2.1.1 v hv).2.2.1 h1
  have pl : h + 17 + 2 * v ≠ h := by omega
  have l14h : mI Mh (h + 17 + 2 * v) 14 = y := by
    rw [oh _ pl, og _ pl, ← hMf, mI_o _ _ _ _ _ pl, ← hMe, mI_n _ _ _ _ (by decide), ← hMd, mI_n _ _ _ _ (by decide), oc _ pl, ← hMa, mI_n _ _ _ _ (by decide)]
    exact l14
  have l14i : mI Mi (h + 17 + 2 * v) 14 = y := by rw [← hMi, mI_o _ _ _ _ _ pl]; exact l14h
  obtain ⟨p9, f9⟩ := p8.gw (b := 14) (j := 3) (by decide) (mxI (xR S 15 3) y)
  generalize hMj : sI Mi h 14 (mxI (xR S 15 3) y) = Mj at p9 f9
  have l14j : mI Mj (h + 17 + 2 * v) 14 = y := by rw [← hMj, mI_o _ _ _ _ _ pl]; exact l14i
  have j1 := p9.fs hv (a := 1) (k := 2) (by decide)
  rw [xR_uR, if_neg (by omega), xR_uR, if_neg (by omega), o2] at j1
  obtain ⟨M', e', p', f'⟩ := p9.lgE (nI v) (xR S 2 v) x y
  have end108 : f_X2_enter_108 n h (nI v) (h + 17 + 2 * v) Mh = some M' := by
    rw [f_X2_enter_108, cs_f p7.1, cs_po p7.1 hv, i10, i13, hx, bnd_e, i15, show (if xR S 15 4 < x then x else xR S 15 4) = mxI (xR S 15 4) x from rfl, hMi, bnd_e, j14, l14i, show (if xR S 15 3 < y then y else xR S 15 3) = mxI (xR S 15 3) y from rfl, hMj, bnd_e, cs_h3 p9.1, bnd_e, chk_t (cs_e11 p9.1).1, j1, l14j, e', obd_s]
  refine ⟨M', ?_, ?_, ((((((((f1.tr f2).tr f3).tr f4).tr f5).tr f6).tr f7).tr f8).tr f9).tr f'⟩
  · have q2 := p2.1
    have c8 : mI Mb h 7 = mI Ma h 7 := by rw [← hMb, mI_n _ _ _ _ (by decide)]
    rw [f_X2_enter, cs_f q, cs_h2 q, bnd_e, cs_a10 q, cs_i10 q hv, cs_rpc q hv, bnd_e, cs_po q hv, hMa, bnd_e, show (mI Ma h 8 &&& (((1 : Int32) <<< (nI v &&& 31)) ^^^ (-1 : Int32))) = bof (mI Ma h 8) v from rfl, hMb, bnd_e, show (mI Mb h 7 ||| ((1 : Int32) <<< (nI v &&& 31))) = bon (mI Mb h 7) v from rfl, hMc, bnd_e, cs_h1 q2, bnd_e, cs_p q2, p2.t11, hMd, bnd_e, d11, hMe, bnd_e, e11, hMf, bnd_e, er, obd_s]
    exact e6.trans (e7.trans end108)
  · unfold enC
    simp only []
    rw [hS1, hS2, hS3, hS4, hx, hy]
    exact p'
/-! ===== the class hears a grant ===== -/
set_option maxHeartbeats 1000000 in
theorem HV.tgr {M : Mem} {h X Y N n : Nat} {t : Int32} {Q : Nat → Int32} {S : St} {pb pt : List Row4} (p : HV M h X Y t N Q S pb pt) (h16 : N ≤ 16) {a v : Nat} {s : Int32} (ha : a < 32) (hv : v < N) (hI : ∀ w, N ≤ w → w < 16 → xR S 0 w ≠ 2) (hV : xR S 0 v = 1 → xR S 2 v = s → bt (xR S 3 v) a = true ∧ ∀ i, i < 32 → bt (xR S 4 v) i = true → bt (xR S 3 v) i = true) (hn : 17 ≤ n) : ∃ M', f_X2_hearGrant n h (nI a) (nI v) s M = some M' ∧ HV M' h X Y t N Q (if xR S 0 v = 1 ∧ xR S 2 v = s then gr t N v a S else S) pb pt ∧ FrH M M' h := by
  have q := p.1
  have v6 : v < 16 := by omega
  rw [f_X2_hearGrant, cs_f q, cs_h2 q, bnd_e, cs_a10 q, cs_i10 q v6, cs_rpc q v6, bnd_e, cs_po q v6, p.ia v6, obd_s]
  by_cases c : xR S 0 v = 1 ∧ xR S 2 v = s
  · rw [if_pos c, if_pos c, if_neg (by decide)]
    obtain ⟨k3, kv⟩ := hV c.1 c.2
    have b3 := p.fs v6 (a := 3) (k := 4) (by decide)
    obtain ⟨p1, f1⟩ := p.fld (a := 3) (k := 4) (x := bon (xR S 4 v) a) v6 (by decide) (by decide)
    generalize hMa : sI M (h + 17 + 2 * v) 3 (bon (xR S 4 v) a) = Ma at p1 f1
    have b4 := p1.fs v6 (a := 4) (k := 5) (by decide)
    rw [xR_uR, if_neg (by omega)] at b4
    obtain ⟨p2, f2⟩ := p1.fld (a := 4) (k := 5) (x := bof (xR S 5 v) a) v6 (by decide) (by decide)
    generalize hMb : sI Ma (h + 17 + 2 * v) 4 (bof (xR S 5 v) a) = Mb at p2 f2
    have b5 := p2.fs v6 (a := 5) (k := 6) (by decide)
    rw [xR_uR, if_neg (by omega), xR_uR, if_neg (by omega)] at b5
    obtain ⟨p3, f3⟩ := p2.fld (a := 5) (k := 6) (x := bof (xR S 6 v) a) v6 (by decide) (by decide)
    generalize hMc : sI Mb (h + 17 + 2 * v) 5 (bof (xR S 6 v) a) = Mc at p3 f3
    generalize hS3 : uR (uR (uR S 4 v (bon (xR S 4 v) a)) 5 v (bof (xR S 5 v) a)) 6 v (bof (xR S 6 v) a) = S3 at p3
    have c3 := p3.fs v6 (a := 3) (k := 4) (by decide)
    have c2 := p3.fs v6 (a := 2) (k := 3) (by decide)
    have r4 : xR S3 4 v = bon (xR S 4 v) a := by
      rw [← hS3, xR_uR, if_neg (by omega), xR_uR, if_neg (by omega), xR_uR, if_pos ⟨rfl, rfl⟩]
    have r3 : xR S3 3 v = xR S 3 v := by
      rw [← hS3, xR_uR, if_neg (by omega), xR_uR, if_neg (by omega), xR_uR, if_neg (by omega)]
    have r0 : ∀ w, xR S3 0 w = xR S 0 w := fun w => by
      rw [← hS3, xR_uR, if_neg (by omega), xR_uR, if_neg (by omega), xR_uR, if_neg (by omega)]
    rw [r4] at c3
    rw [r3] at c2
    have hz : bon (xR S 4 v) a = xR S 3 v ↔ xR S 3 v &&& ((bon (xR S 4 v) a) ^^^ (-1 : Int32)) = 0 := by
      rw [bt_z]
      constructor
      · intro z i hi
        rw [bt_minus _ _ hi, z]
        cases bt (xR S 3 v) i <;> rfl
      · intro z
        apply b_ext
        intro i hi
        have zi := z i hi
        rw [bt_minus _ _ hi] at zi
        cases d : bt (xR S 3 v) i with
        | true =>
          rw [d] at zi
          simpa using zi
        | false =>
          rw [bt_on _ ha hi]
          have n4 : bt (xR S 4 v) i = false := by
            cases e : bt (xR S 4 v) i with
            | false => rfl
            | true => rw [kv i hi e] at d; exact absurd d (by decide)
          have na : i ≠ a := fun z => by rw [z, k3] at d; exact absurd d (by decide)
          simp [n4, na]
    have fr := (f1.tr f2).tr f3
    have head : ∀ y : Option Mem, (if bon (xR S 4 v) a = xR S 3 v then obd (f_X2_enter n h (nI v) Mc) fun M31 => some M31 else some Mc) = y → (bnd (sI M (h + 17 + 2 * v) 3 ((mI M (h + 17 + 2 * v) 3) ||| ((1 : Int32) <<< (nI a &&& 31)))) fun M13 => bnd (sI M13 (h + 17 + 2 * v) 4 ((mI M13 (h + 17 + 2 * v) 4) &&& (((1 : Int32) <<< (nI a &&& 31)) ^^^ (-1 : Int32)))) fun M18 => bnd (sI M18 (h + 17 + 2 * v) 5 ((mI M18 (h + 17 + 2 * v) 5) &&& (((1 : Int32) <<< (nI a &&& 31)) ^^^ (-1 : Int32)))) fun M23 => if (mI M23 (h + 17 + 2 * v) 3) = (mI M23 (h + 17 + 2 * v) 2) then (obd (f_X2_enter n h (nI v) M23) fun M31 => some M31) else some M23) = y := by
      intro y hy
      rw [b3, show (xR S 4 v ||| ((1 : Int32) <<< (nI a &&& 31))) = bon (xR S 4 v) a from rfl, hMa, bnd_e, b4, show (xR S 5 v &&& (((1 : Int32) <<< (nI a &&& 31)) ^^^ (-1 : Int32))) = bof (xR S 5 v) a from rfl, hMb, bnd_e, b5, show (xR S 6 v &&& (((1 : Int32) <<< (nI a &&& 31)) ^^^ (-1 : Int32))) = bof (xR S 6 v) a from rfl, hMc, bnd_e, c3, c2]
      exact hy
    unfold gr
    simp only []
    rw [hS3]
    by_cases d : bon (xR S 4 v) a = xR S 3 v
    · obtain ⟨M', e', p', f'⟩ := p3.en h16 v6 (by rw [r0]; exact c.1) (fun w h1 h2 => by rw [r0]; exact hI w h1 h2) hv hn
      rw [if_pos (hz.mp d)]
      exact ⟨M', head _ (by rw [if_pos d, e', obd_s]), p', fr.tr f'⟩
    · rw [if_neg (fun z => d (hz.mpr z))]
      exact ⟨Mc, head _ (by rw [if_neg d]), p3, fr⟩
  · rw [if_neg c, if_neg c, if_pos rfl]
    exact ⟨M, rfl, p, FrH.rf _ _⟩
