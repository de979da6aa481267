/-! ===== taken up, a state is alike the one kept, and as sound ===== -/
theorem run_wn (t : Int32) : ∀ (l : List Ltr) (e : Option Int32), run e (l.map (wn t)) = run e l := by
  intro l
  induction l with
  | nil => intro e; rfl
  | cons x l ih =>
    intro e
    rw [List.map_cons]
    show (if x.1 = nI 0 then (if e = none then run (some x.2.1) (l.map (wn t)) else none) else if x.1 = nI 5 then (if e = some x.2.1 then run none (l.map (wn t)) else none) else run e (l.map (wn t))) = _
    rw [ih, ih, ih]
    rfl
theorem Inv.wn {N A : Nat} {t : Int32} {S T : St} (h : Inv N A T) (h16 : N ≤ 16) (q : Sam T S) (hL : ∀ l, l < 256 → xL S l = (xL T l).map (wn t)) : Inv N A S := by
  refine q.inv h ?_ ?_ ?_
  · intro l hl
    obtain ⟨a, b⟩ := h.2.2.2.2.1 l hl
    rw [hL l hl]
    refine ⟨fun x hx => ?_, fun z => by rw [b z]; rfl⟩
    obtain ⟨y, hy, rfl⟩ := List.mem_map.mp hx
    exact a y hy
  · intro v hv a ha
    rw [q.toe, q.topn, hL _ (by omega), run_wn]
    exact h.2.2.2.2.2.2.1 v hv a ha
  · intro v hv a ha
    rw [hL _ (by omega), hL _ (by omega)]
    obtain ⟨j1, j2, j3⟩ := h.2.2.2.2.2.2.2 v hv a ha
    refine ⟨fun s z => q.z (j1 s (by rw [← q.toe]; exact z)), fun x q1 q2 => ?_, fun x q1 q2 => ?_⟩
    · obtain ⟨y, hy, rfl⟩ := List.mem_map.mp q1
      exact q.z (j2 y hy q2)
    · obtain ⟨y, hy, rfl⟩ := List.mem_map.mp q1
      exact q.z (j3 y hy q2)
theorem HV.ex {M : Mem} {X Y N : Nat} {t : Int32} {Q : Nat → Int32} {S S' : St} {pb pt : List Row4} (p : HV M 63 X Y t N Q S pb pt) (hR : xR S' = xR S) (hW : ∀ a, a < 16 → xW S' a = xW S a) (hL : ∀ l, l < 256 → xL S' l = xL S l) (hE : xE S' = xE S) (hT : xT S' = xT S) : HV M 63 X Y t N Q S' pb pt := by
  obtain ⟨q, ⟨d5, d6, d7, len, K, fr, us, ow, w, hK⟩, ⟨p1, p2⟩, rm, lg, r⟩ := p
  refine ⟨q, ⟨d5, d6, d7, len, K, fr, us, ow, by rw [hR]; exact w, fun l hl => by rw [hL l hl]; exact hK l hl⟩, ⟨fun v hv => ?_, ?_⟩, rm, by rw [hE, hT]; exact lg, r⟩
  · have := p1 v hv
    unfold HPv at this ⊢
    rw [hR, hW v hv]; exact this
  · unfold HG at p2 ⊢
    rw [hR]; exact p2
def upM (S T : St) (w : Nat → Int32) : St := (fun k i => if k = 0 then xR T 0 i else if k = 14 then w i else xR S k i, S.2)
theorem upM_R (S T : St) (w : Nat → Int32) (k i : Nat) : xR (upM S T w) k i = if k = 0 then xR T 0 i else if k = 14 then w i else xR S k i := rfl
/-- what is taken up, of T, over S' -/
def fS (t : Int32) (T S' : St) : St := (xR S', xW T, fun l => (xL T l).map (wn t), xE S', xT S')
section
variable {X0 Y0 N : Nat} {t : Int32} {Q : Nat → Int32} {S T : St} {pb pt : List Row4} {M : Mem} {e dC : Nat}
set_option maxHeartbeats 1000000 in
theorem SV.masks (h : SV X0 Y0 t N Q pb pt S M e dC) {r : Nat} (h7 : mI M 114 7 = nI r) (x0 : mI M dC r = mkS T 2) (x1 : mI M dC (r + 1) = mkS T 1) (he : r + 2 ≤ e) : ∃ M1 M2 w, f_X6_pull 114 M = some (mkS T 2, sI M 114 7 (nI (r + 1))) ∧ sI (sI M 114 7 (nI (r + 1))) 63 7 (mkS T 2) = M1 ∧ M1.1 = M.1 ∧ f_X6_pull 114 M1 = some (mkS T 1, sI M1 114 7 (nI (r + 1 + 1))) ∧ sI (sI M1 114 7 (nI (r + 1 + 1))) 63 8 (mkS T 1) = M2 ∧ RR X0 Y0 t N Q pb pt e dC M M2 (upM S T w) (r + 2) := by
  obtain ⟨L, sx, c, p⟩ := h
  have n2 : 63 ≠ dC := by have := c.2.2.2.1; omega
  have y0 : Rdy M M dC r := ⟨rfl, rfl, fun _ => rfl, h7⟩
  obtain ⟨M1, y1, e1, w1, a1, b1, c1, d1, l1⟩ := y0.pw (P := 63) (k := 7) sx c (by omega) (by decide) n2 x0
  obtain ⟨M2, y2, e2, w2, a2, b2, c2, d2, l2⟩ := y1.pw (P := 63) (k := 8) sx c (by omega) (by decide) n2 x1
  have V7 : mI M2 63 7 = mkS T 2 := by rw [b2 7 (by decide), a1]
  have V8 : mI M2 63 8 = mkS T 1 := a2
  have Vh : ∀ b, b ≠ 7 → b ≠ 8 → mI M2 63 b = mI M 63 b := fun b n n' => by rw [b2 b n', b1 b n]
  have Vo : ∀ o, o ≠ 114 → o ≠ 63 → ∀ b, mI M2 o b = mI M o b := fun o n n' b => by rw [c2 o n n', c1 o n n']
  refine ⟨M1, M2, fun i => mI M (63 + 17 + 2 * i) 14, e1, w1, y1.1, e2, w2, ⟨L, sx.e y2.1, c.e y2.1 y2.2.1, p.at4 y2.1 (fun o n n' b => Vo o n (by omega) b) ?_ rfl ?_ rfl rfl⟩, y2.2.2.2, FrUp.of y2.1 (fun o n n' b => Vo o n' (by omega) b) (fun b n => by rw [d2 b n, d1 b n]) (fun o b => by rw [l2, l1]), y2.2.2.1⟩
  · obtain ⟨p1, g7, g8, g9, g10, g11, g12, g13, g14, g15⟩ := p.2.2.1
    have r : ∀ k i, k ≠ 0 → k ≠ 14 → xR (upM S T fun i => mI M (63 + 17 + 2 * i) 14) k i = xR S k i := fun k i n n' => by rw [upM_R, if_neg n, if_neg n']
    have lim : ∀ z, z ∈ ft → z.2 ≠ 0 ∧ z.2 ≠ 14 := by decide
    refine ⟨fun v hv => ?_, fun v hv => ?_, fun v hv => ?_, fun v hv => ?_, ?_, ?_, ?_, ?_, ?_, ?_⟩
    · obtain ⟨a1, a2, a3, a4, a5⟩ := p1 v hv
      have o1 := Vo (63 + 17 + 2 * v) (by omega) (by omega)
      have o2 := Vo (63 + 18 + 2 * v) (by omega) (by omega)
      refine ⟨fun z hz => ?_, ?_, fun z => ?_, fun u hu => ?_, fun w hw => ?_⟩
      · rw [o1, r _ _ (lim z hz).1 (lim z hz).2]; exact a1 z hz
      · rw [o1, r _ _ (by decide) (by decide), r _ _ (by decide) (by decide)]; exact a2
      · rw [o1, upM_R, if_neg (by decide), if_pos rfl]
      · rw [o1]; exact a4 u hu
      · rw [o2]; exact a5 w hw
    · rw [V7, mkS_b hv, upM_R, if_pos rfl]
    · rw [V8, mkS_b hv, upM_R, if_pos rfl]
    · rw [Vh _ (by decide) (by decide), r _ _ (by decide) (by decide)]; exact g9 v hv
    · rw [Vh _ (by decide) (by decide), r _ _ (by decide) (by decide)]; exact g10
    · rw [Vh _ (by decide) (by decide), r _ _ (by decide) (by decide)]; exact g11
    · rw [Vh _ (by decide) (by decide), r _ _ (by decide) (by decide)]; exact g12
    · rw [Vh _ (by decide) (by decide), r _ _ (by decide) (by decide)]; exact g13
    · rw [Vh _ (by decide) (by decide), r _ _ (by decide) (by decide)]; exact g14
    · rw [Vh _ (by decide) (by decide), r _ _ (by decide) (by decide)]; exact g15
  · funext i
    rw [upM_R, if_neg (by decide), if_neg (by decide)]
set_option maxHeartbeats 1000000 in
theorem SV.recall (h : SV X0 Y0 t N Q pb pt S M e dC) {A P d d' i r n : Nat} {S0 : St} (g : GS N A P S0 T d) (g' : GS N A P S0 S d') (hA : A + d < 1048576) (ok : Tok N T) (hi : i < 41) (hs : mI M 115 i = nI r) (hc : ∀ j x, (ser N T)[j]? = some x → mI M dC (r + j) = x) (he : r + (ser N T).length ≤ e) (hn : 9400 ≤ n) : ∃ M' S', f_X6_recall n 114 (nI i) M = some M' ∧ SV X0 Y0 t N Q pb pt S' M' e dC ∧ FrUp M M' ∧ (∀ b, mI M' dC b = mI M dC b) ∧ SE S' T ∧ GS N A P S0 S' d ∧ xE S' = xE S ∧ xT S' = xT S := by
  have h16 := ok.1
  have el : (ser N T).length = 1 + (1 + (((List.range' 0 N).flatMap (serP T)).length + ((List.range' 0 N).flatMap (serF N T)).length)) := by
    unfold ser
    rw [List.length_cons, List.length_cons, List.length_append]; omega
  rw [el] at he
  obtain ⟨L, sx, c, p⟩ := id h
  generalize hMa : sI M 114 7 (nI r) = Ma
  have fa : FrUp M Ma := by rw [← hMa]; exact FrUp.s7 _ _
  have va : SV X0 Y0 t N Q pb pt S Ma e dC := by
    rw [← hMa]
    exact ⟨L, sx.e rfl, c.e rfl (mI_n _ _ _ _ (by decide)), p.rd7 _⟩
  have ka : mI Ma 114 7 = nI r := by rw [← hMa, mI_s]
  have ca : ∀ b, mI Ma dC b = mI M dC b := (c.up sx.2.2.2.2 fa).2
  obtain ⟨La, sxa, cca, pa⟩ := id va
  obtain ⟨M1, M2, w, e1, w1, s1, e2, w2, rr⟩ := va.masks (T := T) ka (by rw [ca]; exact hc 0 _ rfl) (by rw [ca]; exact hc 1 _ rfl) (by omega)
  obtain ⟨M3, S3, r3, e3, rr3, pm, lm⟩ := rc_34 (t := t) (X0 := X0) (Y0 := Y0) (Q := Q) (pb := pb) (pt := pt) (e := e) (dC := dC) (T := T) ok (S0 := upM S T w) N 0 n M2 (upM S T w) (r + 2) (by omega) rr.1 rr.2.1 (fun j x hj => by
    rw [rr.2.2.2, ca, Nat.add_assoc]
    exact hc (2 + j) x (by
      unfold ser
      rw [show 2 + j = j + 1 + 1 by omega, List.getElem?_cons_succ, List.getElem?_cons_succ]
      exact hj)) (by omega) ⟨fun k i _ => by rw [if_neg (fun z => by have := z.1; omega)], fun a => by rw [if_neg (by omega)], rfl, rfl⟩ (by omega)
  have hz := ok.2.2.1
  obtain ⟨pR, pW, pE, pT⟩ := pm
  have gI := g.1.2.2.2.2.2.1
  have gI' := g'.1.2.2.2.2.2.1
  have R7 : ∀ k, k = 7 ∨ k = 17 ∨ k = 20 → ∀ i, xR S3 k i = xR T k i := fun k hk i => by
    rw [pR k i (by omega), if_neg (by omega), upM_R, if_neg (by omega), if_neg (by omega)]
    exact (g'.2.2.1.ss g.2.2.1 k hk i).symm
  have RA : ∀ k, k < 11 → ∀ i, xR S3 k i = xR T k i := fun k hk i => by
    by_cases z7 : k = 7
    · exact R7 k (Or.inl z7) i
    · rw [pR k i (by omega)]
      by_cases z : i < N ∧ (1 ≤ k ∧ k ≤ 6 ∨ 8 ≤ k ∧ k ≤ 10)
      · rw [if_pos z]
      · rw [if_neg z, upM_R]
        by_cases z0 : k = 0
        · rw [if_pos z0, z0]
        · rw [if_neg z0, if_neg (by omega), g'.2.2.2 k hk i (by omega), g.2.2.2 k hk i (by omega)]
  have lE : ∀ l, l < 256 → xL S3 l = (xL T l).map (wn t) := fun l hl => by
    rw [lm l hl]
    by_cases z : l < 16 * N
    · rw [if_pos z]
    · rw [if_neg z, hz l hl (by omega)]; rfl
  have wE : ∀ a, a < 16 → xW S3 a = xW T a := fun a ha => by
    rw [pW]
    by_cases z : a < N
    · rw [if_pos z]
    · rw [if_neg z]
      show xW S a = _
      rw [(gI' a ha).2.1 (by omega), (gI a ha).2.1 (by omega)]
  have fR : xR (fS t T S3) = xR S3 := rfl
  obtain ⟨L3, sx3, c3, p3⟩ := rr3.1
  have se : SE (fS t T S3) T := by
    refine ⟨fun k i hk _ => ?_, fun a _ => rfl, fun l hl => ?_⟩
    · rw [fR]
      rcases hk with z | z | z
      · exact RA k z i
      · exact R7 k (by omega) i
      · exact R7 k (by omega) i
    · show ((xL T l).map (wn t)).map lk = _
      rw [List.map_map]; rfl
  refine ⟨M3, fS t T S3, ?_, ⟨L3, sx3, c3, p3.ex rfl (fun a ha => (wE a ha).symm) (fun l hl => (lE l hl).symm) rfl rfl⟩, fa.tr (rr.2.2.1.tr rr3.2.2.1), fun b => by rw [rr3.2.2.2, rr.2.2.2, ca], se, ⟨?_, ?_, ?_, ?_⟩, pE, pT⟩
  · have q1 := p.1
    have qa := pa.1
    have qm : ∀ x, CS (sI Ma 114 7 x) 63 := fun x => qa.e rfl
    have q1m : ∀ x, CS (sI M1 114 7 x) 63 := fun x => qa.e s1
    have sxb := sxa.e s1
    rw [f_X6_recall, chk_t sx.1, sx.2.1.2.1, bnd_e, sx1 sx, sx1i sx hi, mI_c (by omega), hs, hMa, bnd_e, sxa.2.1.1, bnd_e, cs_f qa, e1, obd2_s, cs_f (qm _), w1, bnd_e, chk_t sxb.1, sxb.2.1.1, bnd_e, cs_f (qa.e s1), e2, obd2_s, cs_f (q1m _), w2, bnd_e]
    exact e3
  · exact g.1.wn h16 ⟨rfl, fun k hk _ i => RA k hk i⟩ (fun l _ => rfl)
  · exact ⟨se.sy.tix h16 g.2.1.1, g.2.1.2.1.k R7, by rw [se.tPhS]; exact g.2.1.2.2⟩
  · exact fun k hk i => (R7 k hk i).trans (g.2.2.1 k hk i)
  · exact fun k hk i hi => (RA k hk i).trans (g.2.2.2 k hk i hi)
end
