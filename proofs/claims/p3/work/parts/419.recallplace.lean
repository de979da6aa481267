/-! ===== the class takes up a place ===== -/
/-- the hall, the rows of its letters and how far was read alone have changed -/
def FrUp (M M' : Mem) : Prop := mN M ≤ mN M' ∧ (∀ i, i < mN M → M'.1.2.1 i = M.1.2.1 i) ∧ (∀ a b, a < mN M → ¬ (a = 64 ∧ 5 ≤ b ∧ b ≤ 7) → mR M' a b = mR M a b) ∧ (∀ o, o < mN M → ¬ (63 ≤ o ∧ o < 112) → o ≠ 114 → o ≠ mR M 64 5 → o ≠ mR M 64 6 → o ≠ mR M 64 7 → ∀ b, mI M' o b = mI M o b) ∧ (∀ b, b ≠ 7 → mI M' 114 b = mI M 114 b) ∧ (∀ o, o < mN M → ∀ b, mL M' o b = mL M o b) ∧ (∀ j, 5 ≤ j → j ≤ 7 → mR M' 64 j = mR M 64 j ∨ mN M ≤ mR M' 64 j)
theorem FrUp.rf (M : Mem) : FrUp M M := ⟨Nat.le_refl _, fun _ _ => rfl, fun _ _ _ _ => rfl, fun _ _ _ _ _ _ _ _ => rfl, fun _ _ => rfl, fun _ _ _ => rfl, fun _ _ _ => Or.inl rfl⟩
theorem FrUp.tr {M M' M'' : Mem} (p : FrUp M M') (p' : FrUp M' M'') : FrUp M M'' := by
  obtain ⟨a1, a2, a3, a4, a7, a5, a6⟩ := p
  obtain ⟨b1, b2, b3, b4, b7, b5, b6⟩ := p'
  refine ⟨Nat.le_trans a1 b1, fun i hi => (b2 i (by omega)).trans (a2 i hi), fun a b ha hn => (b3 a b (by omega) hn).trans (a3 a b ha hn), fun o ho h1 h2 h5 h6 h7 b => ?_, fun b n => (b7 b n).trans (a7 b n), fun o ho b => (b5 o (by omega) b).trans (a5 o ho b), fun j h5 h7 => ?_⟩
  · have n5 : o ≠ mR M' 64 5 := by rcases a6 5 (by decide) (by decide) with e | e <;> omega
    have n6 : o ≠ mR M' 64 6 := by rcases a6 6 (by decide) (by decide) with e | e <;> omega
    have n7 : o ≠ mR M' 64 7 := by rcases a6 7 (by decide) (by decide) with e | e <;> omega
    exact (b4 o (by omega) h1 h2 n5 n6 n7 b).trans (a4 o ho h1 h2 h5 h6 h7 b)
  · rcases b6 j h5 h7 with e | e
    · rcases a6 j h5 h7 with e2 | e2
      · exact Or.inl (e.trans e2)
      · exact Or.inr (by omega)
    · exact Or.inr (by omega)
theorem FrUp.of {M M' : Mem} (e : M'.1 = M.1) (hI : ∀ o, ¬ (63 ≤ o ∧ o < 112) → o ≠ 114 → ∀ b, mI M' o b = mI M o b) (h4 : ∀ b, b ≠ 7 → mI M' 114 b = mI M 114 b) (hL : ∀ o b, mL M' o b = mL M o b) : FrUp M M' :=
  ⟨by unfold mN; rw [e]; exact Nat.le_refl _, fun i _ => by rw [e], fun a b _ _ => by unfold mR; rw [e], fun o _ n1 n2 _ _ _ b => hI o n1 n2 b, h4, fun o _ b => hL o b, fun j _ _ => Or.inl (by unfold mR; rw [e])⟩
theorem FrH.up {M M' : Mem} (f : FrH M M' 63) (hN : 131 ≤ mN M) (hR : ∀ i, 5 ≤ i → i ≤ 7 → mR M 64 i = 63 + 2 + i ∨ 131 ≤ mR M 64 i) : FrUp M M' := by
  obtain ⟨f1, f2, f3, f4, f5, f6⟩ := f
  have r5 := hR 5 (by decide) (by decide)
  have r6 := hR 6 (by decide) (by decide)
  have r7 := hR 7 (by decide) (by decide)
  refine ⟨f1, f2, f3, fun o ho n1 _ n5 n6 n7 b => f4 o ho (by omega) n5 n6 n7 b, fun b _ => f4 114 (by omega) (by omega) ?_ ?_ ?_ b, f5, f6⟩
  · show 114 ≠ mR M 64 5; omega
  · show 114 ≠ mR M 64 6; omega
  · show 114 ≠ mR M 64 7; omega
theorem SX.up {M M' : Mem} (x : SX M) (f : FrUp M M') : SX M' := by
  obtain ⟨⟨i1, i2⟩, ⟨r0, r1, r2, r3, r4⟩, ⟨j1, j2, j3, j4⟩, ⟨l1, l2, l3, l4⟩, hN⟩ := x
  obtain ⟨f1, f2, f3, _⟩ := f
  have io : ∀ c o, isO M c o → isO M' c o := fun c o z => ⟨by have := z.1; omega, by rw [mC, f2 o z.1]; exact z.2⟩
  have ln : ∀ o, o < 131 → mLn M' o = mLn M o := fun o ho => by rw [mLn, f2 o (by omega)]; rfl
  refine ⟨io _ _ ⟨i1, i2⟩, ⟨?_, ?_, ?_, ?_, ?_⟩, ⟨io _ _ j1, io _ _ j2, io _ _ j3, io _ _ j4⟩, ⟨?_, ?_, ?_, ?_⟩, by omega⟩
  · rw [f3 114 0 i1 (by decide)]; exact r0
  · rw [f3 114 1 i1 (by decide)]; exact r1
  · rw [f3 114 2 i1 (by decide)]; exact r2
  · rw [f3 114 3 i1 (by decide)]; exact r3
  · rw [f3 114 4 i1 (by decide)]; exact r4
  · rw [ln 115 (by decide)]; exact l1
  · rw [ln 116 (by decide)]; exact l2
  · rw [ln 117 (by decide)]; exact l3
  · rw [ln 118 (by decide)]; exact l4
theorem CL.up {M M' : Mem} {dC L e : Nat} (c : CL M dC L e) (hN : 131 ≤ mN M) (f : FrUp M M') : CL M' dC L e ∧ ∀ b, mI M' dC b = mI M dC b := by
  obtain ⟨c1, c2, c3, c4, c5, c6, c7, c8, c9, c10, c11⟩ := c
  obtain ⟨f1, f2, f3, f4, f5, f6, f7⟩ := f
  have hlt := c2.1
  have g5 := f7 5 (by decide) (by decide)
  have g6 := f7 6 (by decide) (by decide)
  have g7 := f7 7 (by decide) (by decide)
  refine ⟨⟨?_, ⟨by omega, by rw [mC, f2 dC hlt]; exact c2.2⟩, by rw [mLn, f2 dC hlt]; exact c3, c4, by rw [f5 6 (by decide)]; exact c5, c6, c7, c8, ?_, ?_, ?_⟩, f4 dC hlt (by omega) (by omega) c9 c10 c11⟩
  · rw [f3 114 5 (by omega) (by omega)]; exact c1
  · clear g6 g7 c4; rcases g5 with z | z <;> omega
  · clear g5 g7 c4; rcases g6 with z | z <;> omega
  · clear g5 g6 c4; rcases g7 with z | z <;> omega
theorem PV.fr4 {M M' : Mem} {t : Int32} {S S' : St} (p : PV M 63 t S) (e : M'.1 = M.1) (hI : ∀ o, o ≠ 114 → ¬ (o = 63 ∨ (80 ≤ o ∧ o < 112)) → ∀ b, mI M' o b = mI M o b) (hL : xL S' = xL S) (h16 : xR S' 16 = xR S 16) : PV M' 63 t S' := by
  obtain ⟨d5, d6, d7, len, K, fr, us, ow, w, hK⟩ := p
  obtain ⟨_, _, _, y5, y6, y7, _⟩ := id w.1
  have hl := w.2.2.2.2.2.2.2.2.2.1
  refine ⟨d5, d6, d7, len, K, fr, us, ow, ?_, fun l hl => by rw [hL]; exact hK l hl⟩
  rw [h16]
  exact w.cg (w.1.e e) (Nat.le_refl _) hl.2.2.2.1 (fun i a b k => hI _ (by omega) (by omega) k) (fun k _ => hI d5 (by omega) (by omega) k) (fun k _ => hI d6 (by omega) (by omega) k) (fun k _ => hI d7 (by omega) (by omega) k)
theorem HV.at4 {M M' : Mem} {X Y N : Nat} {t : Int32} {Q : Nat → Int32} {S S' : St} {pb pt : List Row4} (p : HV M 63 X Y t N Q S pb pt) (e : M'.1 = M.1) (hI : ∀ o, o ≠ 114 → ¬ (o = 63 ∨ (80 ≤ o ∧ o < 112)) → ∀ b, mI M' o b = mI M o b) (hp : HP M' 63 S') (hL : xL S' = xL S) (h16 : xR S' 16 = xR S 16) (hE : xE S' = xE S) (hT : xT S' = xT S) : HV M' 63 X Y t N Q S' pb pt := by
  obtain ⟨q, p, _, rm, ⟨lb, lt⟩, hN, hQ⟩ := p
  have hq := q.2.2.2.2
  refine ⟨q.e e, p.fr4 e hI hL h16, hp, ?_, ⟨?_, ?_⟩, ?_, fun v hv => ?_⟩
  · unfold Rm mN mU mLn mR at rm ⊢
    rw [e]; exact rm
  · rw [hE]; exact lb.cg (hI _ (by omega) (by omega)) (hI _ (by omega) (by omega))
  · rw [hT]; exact lt.cg (hI _ (by omega) (by omega)) (hI _ (by omega) (by omega))
  · rw [hI 1 (by omega) (by omega)]; exact hN
  · rw [hI _ (by omega) (by omega)]; exact hQ v hv
def upP (S T : St) (v : Nat) : St := (fun k i => if i = v ∧ (1 ≤ k ∧ k ≤ 6 ∨ 8 ≤ k ∧ k ≤ 10) then xR T k i else xR S k i, up1 (xW S) v (xW T v), S.2.2)
theorem upP_R (S T : St) (v k i : Nat) : xR (upP S T v) k i = if i = v ∧ (1 ≤ k ∧ k ≤ 6 ∨ 8 ≤ k ∧ k ≤ 10) then xR T k i else xR S k i := rfl
theorem upP_W (S T : St) (v a : Nat) : xW (upP S T v) a = if a = v then xW T v else xW S a := rfl
theorem nd_fst : ∀ {l : List Wtr}, (l.map Prod.fst).Nodup → ∀ w w', w ∈ l → w' ∈ l → w.1 = w'.1 → w = w' := by
  intro l
  induction l with
  | nil => intro _ w w' h; cases h
  | cons x l ih =>
    intro h w w' hw hw' e
    rw [List.map_cons, List.nodup_cons] at h
    rcases List.mem_cons.mp hw with a | a
    · rcases List.mem_cons.mp hw' with b | b
      · rw [a, b]
      · exact absurd (List.mem_map.mpr ⟨w', b, by rw [← e, a]⟩) h.1
    · rcases List.mem_cons.mp hw' with b | b
      · exact absurd (List.mem_map.mpr ⟨w, a, by rw [e, b]⟩) h.1
      · exact ih h.2 w w' a b e
section
variable {X0 Y0 N : Nat} {t : Int32} {Q : Nat → Int32} {S T : St} {pb pt : List Row4} {M : Mem} {e dC : Nat}
set_option maxHeartbeats 2000000 in
theorem SV.rplace (h : SV X0 Y0 t N Q pb pt S M e dC) {r v n : Nat} (h7 : mI M 114 7 = nI r) (hv : v < 16) (hc : ∀ i x, (serP T v)[i]? = some x → mI M dC (r + i) = x) (he : r + (serP T v).length ≤ e) (hw : ∀ w, w ∈ xW T v → w.1 < 16) (hnd : ((xW T v).map Prod.fst).Nodup) (h10 : xR T 10 v = 0 ∨ xR T 10 v = 1) (hn : 20 ≤ n) : ∃ M', f_X6_recallPlace n 114 (63 + 17 + 2 * v) M = some M' ∧ SV X0 Y0 t N Q pb pt (upP S T v) M' e dC ∧ mI M' 114 7 = nI (r + (serP T v).length) ∧ FrUp M M' := by
  obtain ⟨L, sx, c, p⟩ := h
  have q := p.1
  have n2 : 63 + 17 + 2 * v ≠ dC := by have := c.2.2.2.1; omega
  have n4 : 63 + 18 + 2 * v ≠ dC := by have := c.2.2.2.1; omega
  have hlen : (serP T v).length = 10 + ((List.range' 0 16).filter fun u => bt (wms T v) u).length := by
    unfold serP ms
    rw [List.length_append, List.length_map, List.range_eq_range']
    rfl
  rw [hlen] at he
  have iP : isO M 4 (63 + 17 + 2 * v) := by
    have : ∀ v, v < 16 → (tC.getD (14 + (17 + 2 * v)) (0, 0)).1 = 4 := by decide
    have z := q.io (i := 17 + 2 * v) (by omega) (by omega) (this v hv)
    rwa [← Nat.add_assoc] at z
  have iA : isO M 100 (63 + 18 + 2 * v) := by
    have : ∀ v, v < 16 → (tC.getD (14 + (18 + 2 * v)) (0, 0)).1 = 100 := by decide
    have z := q.io (i := 18 + 2 * v) (by omega) (by omega) (this v hv)
    rwa [← Nat.add_assoc] at z
  have lA : mLn M (63 + 18 + 2 * v) = 16 := by
    have : ∀ v, v < 16 → (tC.getD (14 + (18 + 2 * v)) (0, 0)).2 = 16 := by decide
    have z := q.ln (i := 18 + 2 * v) (by omega) (by omega) (this v hv)
    rwa [← Nat.add_assoc] at z
  have y0 : Rdy M M dC r := ⟨rfl, rfl, fun _ => rfl, h7⟩
  have io : ∀ {M' : Mem}, M'.1 = M.1 → ∀ (x : Nat) (z : Int32), isO (sI M' 114 x z) 4 (63 + 17 + 2 * v) := fun {M'} s x z => by
    have : isO M' 4 (63 + 17 + 2 * v) := by
      unfold isO mN mC at *
      rw [s]; exact iP
    exact this
  have ix : ∀ {M' : Mem}, M'.1 = M.1 → isO M' 6 114 := fun s => (sx.e s).1
  have x0 : mI M dC (r + 0) = xR T 1 v := hc 0 _ rfl
  obtain ⟨M1, y1, e1, w1, a1, b1, c1, d1, l1⟩ := y0.pw (P := 63 + 17 + 2 * v) (k := 0) sx c (by omega) (by omega) n2 x0
  have x1 : mI M dC (r + 1) = xR T 2 v := hc 1 _ rfl
  obtain ⟨M2, y2, e2, w2, a2, b2, c2, d2, l2⟩ := y1.pw (P := 63 + 17 + 2 * v) (k := 1) sx c (by omega) (by omega) n2 x1
  have x2 : mI M dC (r + 2) = xR T 3 v := hc 2 _ rfl
  obtain ⟨M3, y3, e3, w3, a3, b3, c3, d3, l3⟩ := y2.pw (P := 63 + 17 + 2 * v) (k := 2) sx c (by omega) (by omega) n2 x2
  have x3 : mI M dC (r + 3) = xR T 4 v := hc 3 _ rfl
  obtain ⟨M4, y4, e4, w4, a4, b4, c4, d4, l4⟩ := y3.pw (P := 63 + 17 + 2 * v) (k := 3) sx c (by omega) (by omega) n2 x3
  have x4 : mI M dC (r + 4) = xR T 5 v := hc 4 _ rfl
  obtain ⟨M5, y5, e5, w5, a5, b5, c5, d5, l5⟩ := y4.pw (P := 63 + 17 + 2 * v) (k := 4) sx c (by omega) (by omega) n2 x4
  have x5 : mI M dC (r + 5) = xR T 6 v := hc 5 _ rfl
  obtain ⟨M6, y6, e6, w6, a6, b6, c6, d6, l6⟩ := y5.pw (P := 63 + 17 + 2 * v) (k := 5) sx c (by omega) (by omega) n2 x5
  have x6 : mI M dC (r + 6) = xR T 8 v := hc 6 _ rfl
  obtain ⟨M7, y7, e7, w7, a7, b7, c7, d7, l7⟩ := y6.pw (P := 63 + 17 + 2 * v) (k := 6) sx c (by omega) (by omega) n2 x6
  have x7 : mI M dC (r + 7) = (if xR T 8 v = -1 then -1 else xR T 9 v) := hc 7 _ rfl
  obtain ⟨M8, y8, e8, w8, a8, b8, c8, d8, l8⟩ := y7.pw (P := 63 + 17 + 2 * v) (k := 7) sx c (by omega) (by omega) n2 x7
  have x8 : mI M dC (r + 8) = xR T 10 v := hc 8 _ rfl
  obtain ⟨M9, y9, e9, w9, a9, b9, c9, d9, l9⟩ := y8.pw (P := 63 + 17 + 2 * v) (k := 8) sx c (by omega) (by omega) n2 x8
  have x9 : mI M dC (r + 9) = wms T v := hc 9 _ rfl
  obtain ⟨M10, y10, e10, w10, a10, b10, c10, d10, l10⟩ := y9.pw (P := 63 + 17 + 2 * v) (k := 9) sx c (by omega) (by omega) n2 x9
  have z9 : mI M10 (63 + 17 + 2 * v) 9 = wms T v := a10
  obtain ⟨M', e11, y11, a11, b11, c11, d11, l11⟩ := rp_l (M0 := M) (g := wst T v) (w := wms T v) sx c iP (cs_pr q hv) iA lA (by omega) (by omega) (by omega) n4 16 0 n M10 (r + 10) rfl y10 z9 (fun i x hi => by
    have := hc (10 + i) x (by
      unfold serP ms
      rw [List.range_eq_range', List.getElem?_append_right (by show 10 ≤ 10 + i; omega)]
      show (List.map _ _)[10 + i - 10]? = _
      rw [show 10 + i - 10 = i by omega]; exact hi)
    rw [Nat.add_assoc]; exact this) (by omega) (by omega)
  have kP : ∀ b, mI M' (63 + 17 + 2 * v) b = mI M10 (63 + 17 + 2 * v) b := fun b => c11 _ (by omega) (by omega) b
  have V0 : mI M' (63 + 17 + 2 * v) 0 = xR T 1 v := by rw [kP, b10 _ (by decide), b9 _ (by decide), b8 _ (by decide), b7 _ (by decide), b6 _ (by decide), b5 _ (by decide), b4 _ (by decide), b3 _ (by decide), b2 _ (by decide)]; exact a1
  have V1 : mI M' (63 + 17 + 2 * v) 1 = xR T 2 v := by rw [kP, b10 _ (by decide), b9 _ (by decide), b8 _ (by decide), b7 _ (by decide), b6 _ (by decide), b5 _ (by decide), b4 _ (by decide), b3 _ (by decide)]; exact a2
  have V2 : mI M' (63 + 17 + 2 * v) 2 = xR T 3 v := by rw [kP, b10 _ (by decide), b9 _ (by decide), b8 _ (by decide), b7 _ (by decide), b6 _ (by decide), b5 _ (by decide), b4 _ (by decide)]; exact a3
  have V3 : mI M' (63 + 17 + 2 * v) 3 = xR T 4 v := by rw [kP, b10 _ (by decide), b9 _ (by decide), b8 _ (by decide), b7 _ (by decide), b6 _ (by decide), b5 _ (by decide)]; exact a4
  have V4' : mI M' (63 + 17 + 2 * v) 4 = xR T 5 v := by rw [kP, b10 _ (by decide), b9 _ (by decide), b8 _ (by decide), b7 _ (by decide), b6 _ (by decide)]; exact a5
  have V5 : mI M' (63 + 17 + 2 * v) 5 = xR T 6 v := by rw [kP, b10 _ (by decide), b9 _ (by decide), b8 _ (by decide), b7 _ (by decide)]; exact a6
  have V6 : mI M' (63 + 17 + 2 * v) 6 = xR T 8 v := by rw [kP, b10 _ (by decide), b9 _ (by decide), b8 _ (by decide)]; exact a7
  have V7 : mI M' (63 + 17 + 2 * v) 7 = (if xR T 8 v = -1 then -1 else xR T 9 v) := by rw [kP, b10 _ (by decide), b9 _ (by decide)]; exact a8
  have V8 : mI M' (63 + 17 + 2 * v) 8 = xR T 10 v := by rw [kP, b10 _ (by decide)]; exact a9
  have V9 : mI M' (63 + 17 + 2 * v) 9 = wms T v := by rw [kP]; exact a10
  have Vh : ∀ b, 10 ≤ b → mI M' (63 + 17 + 2 * v) b = mI M (63 + 17 + 2 * v) b := fun b hb => by rw [kP, b10 _ (by omega), b9 _ (by omega), b8 _ (by omega), b7 _ (by omega), b6 _ (by omega), b5 _ (by omega), b4 _ (by omega), b3 _ (by omega), b2 _ (by omega), b1 _ (by omega)]
  have Vo : ∀ o, o ≠ 114 → o ≠ 63 + 17 + 2 * v → o ≠ 63 + 18 + 2 * v → ∀ b, mI M' o b = mI M o b := fun o n1 nP nA b => by rw [c11 o n1 nA, c10 _ n1 nP, c9 _ n1 nP, c8 _ n1 nP, c7 _ n1 nP, c6 _ n1 nP, c5 _ n1 nP, c4 _ n1 nP, c3 _ n1 nP, c2 _ n1 nP, c1 _ n1 nP]
  have V4 : ∀ b, b ≠ 7 → mI M' 114 b = mI M 114 b := fun b n => by rw [d11 b n, d10 _ n, d9 _ n, d8 _ n, d7 _ n, d6 _ n, d5 _ n, d4 _ n, d3 _ n, d2 _ n, d1 _ n]
  have VL : ∀ o b, mL M' o b = mL M o b := fun o b => by rw [l11, l10, l9, l8, l7, l6, l5, l4, l3, l2, l1]
  have hf : FrUp M M' := FrUp.of y11.1 (fun o n1 n2 b => Vo o n2 (by omega) (by omega) b) V4 VL
  have hp : HP M' 63 (upP S T v) := by
    obtain ⟨g1, g2, g3, g4, g5⟩ := p.2.2.1.1 v hv
    have rS : ∀ k, ¬ (1 ≤ k ∧ k ≤ 6 ∨ 8 ≤ k ∧ k ≤ 10) → xR (upP S T v) k v = xR S k v := fun k n => by rw [upP_R, if_neg (fun z => n z.2)]
    have rT : ∀ k, (1 ≤ k ∧ k ≤ 6 ∨ 8 ≤ k ∧ k ≤ 10) → xR (upP S T v) k v = xR T k v := fun k n => by rw [upP_R, if_pos ⟨rfl, n⟩]
    have wE : xW (upP S T v) v = xW T v := by rw [upP_W, if_pos rfl]
    refine p.2.2.1.at (v := v) ⟨fun z hz => ?_, ?_, fun z => ?_, fun u hu => ?_, fun w hw' => ?_⟩ (fun o ho nP nA b => Vo o (by omega) nP nA b) (fun k i n _ _ _ => by rw [upP_R, if_neg (fun z => n z.1)]) (rS 0 (by decide)) (rS 7 (by decide)) (by funext i; rw [upP_R, if_neg (fun z => absurd z.2 (by decide))]) (fun a n => by rw [upP_W, if_neg n])
    · have cs : ∀ z, z ∈ ft → z = (0, 1) ∨ z = (1, 2) ∨ z = (2, 3) ∨ z = (3, 4) ∨ z = (4, 5) ∨ z = (5, 6) ∨ z = (6, 8) ∨ z = (8, 10) ∨ (10 ≤ z.1 ∧ 12 ≤ z.2) := by decide
      have gz := g1 z hz
      rcases cs z hz with y | y | y | y | y | y | y | y | y
      · rw [y]; exact V0.trans (rT 1 (by decide)).symm
      · rw [y]; exact V1.trans (rT 2 (by decide)).symm
      · rw [y]; exact V2.trans (rT 3 (by decide)).symm
      · rw [y]; exact V3.trans (rT 4 (by decide)).symm
      · rw [y]; exact V4'.trans (rT 5 (by decide)).symm
      · rw [y]; exact V5.trans (rT 6 (by decide)).symm
      · rw [y]; exact V6.trans (rT 8 (by decide)).symm
      · rw [y]; exact V8.trans (rT 10 (by decide)).symm
      · rw [Vh _ y.1, rS _ (by omega)]; exact gz
    · rw [V7, rT 8 (by decide), rT 9 (by decide)]
    · rw [Vh _ (by decide), rS 14 (by decide)]
      exact g3 (by rw [← rS 0 (by decide)]; exact z)
    · rw [V9, wE, wms_b hu hw]
    · rw [wE] at hw'
      have h16 := hw w hw'
      have hm : bt (wms T v) w.1 = true := by
        rw [wms_b (by omega) hw]
        exact decide_eq_true (List.mem_map.mpr ⟨w, hw', rfl⟩)
      rw [a11 w.1 (Nat.zero_le _) h16 hm]
      obtain ⟨w', m1, m2, m3⟩ := wst_e (List.mem_map.mpr ⟨w, hw', rfl⟩)
      rw [m3, nd_fst hnd w' w m1 hw' m2]
  refine ⟨M', ?_, ⟨L, sx.e y11.1, c.e y11.1 y11.2.1, p.at4 y11.1 (fun o n1 n b => Vo o n1 (by omega) (by omega) b) hp rfl ?_ rfl rfl⟩, by rw [hlen, ← Nat.add_assoc]; exact y11.2.2.2, hf⟩
  · have f77 : ∀ u, u = xR T 10 v → bz u → f_X6_recallPlace_77 n 114 (63 + 17 + 2 * v) u (63 + 17 + 2 * v) (sI M8 114 7 (nI (r + 8 + 1))) = some M' := by
      intro u hu hb
      rw [f_X6_recallPlace_77, chk_t (io y8.1 _ _), chk_t hb, hu, w9, bnd_e, chk_t (ix y9.1), e10, obd2_s, chk_t (io y9.1 _ _), w10, bnd_e]
      exact e11
    rw [f_X6_recallPlace, chk_t (ix rfl), e1, obd2_s, chk_t (io rfl _ _), w1, bnd_e, chk_t (ix y1.1), e2, obd2_s, chk_t (io y1.1 _ _), w2, bnd_e, chk_t (ix y2.1), e3, obd2_s, chk_t (io y2.1 _ _), w3, bnd_e, chk_t (ix y3.1), e4, obd2_s, chk_t (io y3.1 _ _), w4, bnd_e, chk_t (ix y4.1), e5, obd2_s, chk_t (io y4.1 _ _), w5, bnd_e, chk_t (ix y5.1), e6, obd2_s, chk_t (io y5.1 _ _), w6, bnd_e, chk_t (ix y6.1), e7, obd2_s, chk_t (io y6.1 _ _), w7, bnd_e, chk_t (ix y7.1), e8, obd2_s, chk_t (io y7.1 _ _), w8, bnd_e, chk_t (ix y8.1), e9, obd2_s]
    rcases h10 with z | z
    · rw [if_pos z]; exact f77 0 z.symm (by decide)
    · rw [if_neg (by rw [z]; decide)]; exact f77 1 z.symm (by decide)
  · funext i
    rw [upP_R, if_neg (fun z => absurd z.2 (by decide))]
end
