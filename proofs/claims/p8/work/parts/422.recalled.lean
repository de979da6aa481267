/-! ===== taken up, a state is alike the one kept, and as sound ===== -/
theorem run_wn (t : Int32) : ∀ (l : List Ltr) (e : Option Int32), run e (l.map (wn t)) = run e l := by
  intro l
  induction l with
  | nil => intro e; rfl
  | cons x l ih =>
    intro e
    rw [List.map_cons]
    show (if x.1 = nI 0 then (if e = none then run (some x.2.1) (l.map (wn t)) else none) else if x.1 = nI 5 then (if e = some x.2.1 then run none (l.map (wn t)) else none) else run e (l.map (wn t))) = _
    rw [ih, ih, ih]
    rfl
theorem Inv.wn {N A : Nat} {t : Int32} {S T : St} (h : Inv N A T) (h16 : N ≤ 16) (q : Sam T S) (hL : ∀ l, l < 256 → xL S l = (xL T l).map (wn t)) : Inv N A S := by
  refine q.inv h ?_ ?_ ?_
  · intro l hl
    obtain ⟨a, b⟩ := h.2.2.2.2.1 l hl
    rw [hL l hl]
    refine ⟨fun x hx => ?_, fun z => by rw [b z]; rfl⟩
    obtain ⟨y, hy, rfl⟩ := List.mem_map.mp hx
    exact a y hy
  · intro v hv a ha
    rw [q.toe, q.topn, hL _ (by omega), run_wn]
    exact h.2.2.2.2.2.2.1 v hv a ha
  · intro v hv a ha
    rw [hL _ (by omega), hL _ (by omega)]
    obtain ⟨j1, j2, j3⟩ := h.2.2.2.2.2.2.2 v hv a ha
    refine ⟨fun s z => q.z (j1 s (by rw [← q.toe]; exact z)), fun x q1 q2 => ?_, fun x q1 q2 => ?_⟩
    · obtain ⟨y, hy, rfl⟩ := List.mem_map.mp q1
      exact q.z (j2 y hy q2)
    · obtain ⟨y, hy, rfl⟩ := List.mem_map.mp q1
      exact q.z (j3 y hy q2)
theorem HV.ex {M : Mem} {X Y N : Nat} {t : Int32} {Q : Nat → Int32} {S S' : St} {pb pt : List Row4} (p : HV M 63 X Y t N Q S pb pt) (hR : xR S' = xR S) (hW : ∀ a, a < 16 → xW S' a = xW S a) (hL : ∀ l, l < 256 → xL S' l = xL S l) (hE : xE S' = xE S) (hT : xT S' = xT S) : HV M 63 X Y t N Q S' pb pt := by
  obtain ⟨q, ⟨d5, d6, d7, len, K, fr, us, ow, w, hK⟩, ⟨p1, p2⟩, rm, lg, r⟩ := p
  refine ⟨q, ⟨d5, d6, d7, len, K, fr, us, ow, by rw [hR]; exact w, fun l hl => by rw [hL l hl]; exact hK l hl⟩, ⟨fun v hv => ?_, ?_⟩, rm, by rw [hE, hT]; exact lg, r⟩
  · have := p1 v hv
    unfold HPv at this ⊢
    rw [hR, hW v hv]; exact this
  · unfold HG at p2 ⊢
    rw [hR]; exact p2
def upM (S T : St) (w : Nat → Int32) : St := (fun k i => if k = 0 then xR T 0 i else if k = 14 then w i else xR S k i, S.2)
theorem upM_R (S T : St) (w : Nat → Int32) (k i : Nat) : xR (upM S T w) k i = if k = 0 then xR T 0 i else if k = 14 then w i else xR S k i := rfl
/-- what is taken up, of T, over S' -/
def fS (t : Int32) (T S' : St) : St := (xR S', xW T, fun l => (xL T l).map (wn t), xE S', xT S')
section
variable {X0 Y0 N : Nat} {t : Int32} {Q : Nat → Int32} {S T : St} {pb pt : List Row4} {M : Mem} {e dC : Nat}
set_option maxHeartbeats 1000000 in
theorem SV.masks (h : SV X0 Y0 t N Q pb pt S M e dC) {r : Nat} (h7 : mI M 114 7 = nI r) (x0 : mI M dC r = mkS T 2) (x1 : mI M dC (r + 1) = mkS T 1) (he : r + 2 ≤ e) : ∃ M1 M2 w, f_X6_pull 114 M = some (mkS T 2, sI M 114 7 (nI (r + 1))) ∧ sI (sI M 114 7 (nI (r + 1))) 63 7 (mkS T 2) = M1 ∧ M1.1 = M.1 ∧ f_X6_pull 114 M1 = some (mkS T 1, sI M1 114 7 (nI (r + 1 + 1))) ∧ sI (sI M1 114 7 (nI (r + 1 + 1))) 63 8 (mkS T 1) = M2 ∧ RR X0 Y0 t N Q pb pt e dC M M2 (upM S T w) (r + 2) := by
  obtain ⟨L, sx, c, p⟩ := h
  have n2 : 63 ≠ dC := by have := c.2.2.2.1; omega
  have y0 : Rdy M M dC r := ⟨rfl, rfl, fun _ => rfl, h7⟩
  obtain ⟨M1, y1, e1, w1, a1, b1, c1, d1, l1⟩ := y0.pw (P := 63) (k := 7) sx c (by omega) (by decide) n2 x0
  obtain ⟨M2, y2, e2, w2, a2, b2, c2, d2, l2⟩ := y1.pw (P := 63) (k := 8) sx c (by omega) (by decide) n2 x1
  have V7 : mI M2 63 7 = mkS T 2 := by rw [b2 7 (by decide), a1]
  have V8 : mI M2 63 8 = mkS T 1 := a2
  have Vh : ∀ b, b ≠ 7 → b ≠ 8 → mI M2 63 b = mI M 63 b := fun b n n' => by rw [b2 b n', b1 b n]
  have Vo : ∀ o, o ≠ 114 → o ≠ 63 → ∀ b, mI M2 o b = mI M o b := fun o n n' b => by rw [c2 o n n', c1 o n n']
  refine ⟨M1, M2, fun i => mI M (63 + 17 + 2 * i) 14, e1, w1, y1.1, e2, w2, ⟨L, sx.e y2.1, c.e y2.1 y2.2.1, p.at4 y2.1 (fun o n n' b => Vo o n (by omega) b) ?_ rfl ?_ rfl rfl⟩, y2.2.2.2, FrUp.of y2.1 (fun o n n' b => Vo o n' (by omega) b) (fun b n => by rw [d2 b n, d1 b n]) (fun o b => by rw [l2, l1]), y2.2.2.1⟩
  · obtain ⟨p1, g7, g8, g9, g10, g11, g12, g13, g14, g15⟩ := p.2.2.1
    have r : ∀ k i, k ≠ 0 → k ≠ 14 → xR (upM S T fun i => mI M (63 + 17 + 2 * i) 14) k i = xR S k i := fun k i n n' => by rw [upM_R, if_neg n, if_neg n']
    have lim : ∀ z, z ∈ ft → z.2 ≠ 0 ∧ z.2 ≠ 14 := by decide
    refine ⟨fun v hv => ?_, fun v hv => ?_, fun v hv => ?_, fun v hv => ?_, ?_, ?_, ?_, ?_, ?_, ?_⟩
    · obtain ⟨a1, a2, a3, a4, a5⟩ := p1 v hv
      have o1 := Vo (63 + 17 + 2 * v) (by omega) (by omega)
      have o2 := Vo (63 + 18 + 2 * v) (by omega) (by omega)
      refine ⟨fun z hz => ?_, ?_, fun z => ?_, fun u hu => ?_, fun w hw => ?_⟩
      · rw [o1, r _ _ (lim z hz).1 (lim z hz).2]; exact a1 z hz
      · rw [o1, r _ _ (by decide) (by decide), r _ _ (by decide) (by decide)]; exact a2
      · rw [o1, upM_R, if_neg (by decide), if_pos rfl]
      · rw [o1]; exact a4 u hu
      · rw [o2]; exact a5 w hw
    · rw [V7, mkS_b hv, upM_R, if_pos rfl]
    · rw [V8, mkS_b hv, upM_R, if_pos rfl]
    · rw [Vh _ (by decide) (by decide), r _ _ (by decide) (by decide)]; exact g9 v hv
    · rw [Vh _ (by decide) (by decide), r _ _ (by decide) (by decide)]; exact g10
    · rw [Vh _ (by decide) (by decide), r _ _ (by decide) (by decide)]; exact g11
    · rw [Vh _ (by decide) (by decide), r _ _ (by decide) (by decide)]; exact g12
    · rw [Vh _ (by decide) (by decide), r _ _ (by decide) (by decide)]; exact g13
    · rw [Vh _ (by decide) (by decide), r _ _ (by decide) (by decide)]; exact g14
    · rw [Vh _ (by decide) (by decide), r _ _ (by decide) (by decide)]; exact g15
  · funext i
    rw [upM_R, if_neg (by decide), if_neg (by decide)]
set_option maxHeartbeats 1000000 in
theorem SV.recall (h : SV X0 Y0 t N Q pb pt S M e dC) {A P d d' i r n : Nat} {S0 : St} (g : GS N A P S0 T d) (g' : GS N A P S0 S d') (hA : A + d < 1048576) (ok : Tok N T) (hi : i < 41) (hs : mI M 115 i = nI r) (hc : ∀ j x, (ser N T)[j]? = some x → mI M dC (r + j) = x) (he : r + (ser N T).length ≤ e) (hn : 9400 ≤ n) : ∃ M' S', f_X6_recall n 114 (nI i) M = some M' ∧ SV X0 Y0 t N Q pb pt S' M' e dC ∧ FrUp M M' ∧ (∀ b, mI M' dC b = mI M dC b) ∧ SE S' T ∧ GS N A P S0 S' d ∧ xE S' = xE S ∧ xT S' = xT S := by
  have h16 := ok.1
  have el : (ser N T).length = 1 + (1 + (((List.range' 0 N).flatMap (serP T)).length + ((List.range' 0 N).flatMap (serF N T)).length)) := by
    unfold ser
    rw [List.length_cons, List.length_cons, List.length_append]; omega
  rw [el] at he
  obtain ⟨L, sx, c, p⟩ := id h
  generalize hMa : sI M 114 7 (nI r) = Ma
  have fa : FrUp M Ma := by rw [← hMa]; exact FrUp.s7 _ _
  have va : SV X0 Y0 t N Q pb pt S Ma e dC := by
    rw [← hMa]
    exact ⟨L, sx.e rfl, c.e rfl (mI_n _ _ _ _ (by decide)), p.rd7 _⟩
  have ka : mI Ma 114 7 = nI r := by rw [← hMa, mI_s]
  have ca : ∀ b, mI Ma dC b = mI M dC b := (c.up sx.2.2.2.2 fa).2
  obtain ⟨La, sxa, cca, pa⟩ := id va
  obtain ⟨M1, M2, w, e1, w1, s1, e2, w2, rr⟩ := va.masks (T := T) ka (by rw [ca]; exact hc 0 _ rfl) (by rw [ca]; exact hc 1 _ rfl) (by omega)
  obtain ⟨M3, S3, r3, e3, rr3, pm, lm⟩ := rc_34 (t := t) (X0 := X0) (Y0 := Y0) (Q := Q) (pb := pb) (pt := pt) (e := e) (dC := dC) (T := T) ok (S0 := upM S T w) N 0 n M2 (upM S T w) (r + 2) (by omega) rr.1 rr.2.1 (fun j x hj => by
    rw [rr.2.2.2, ca, Nat.add_assoc]
    exact hc (2 + j) x (by
      unfold ser
      rw [show 2 + j = j + 1 + 1 by omega, List.getElem?_cons_succ, List.getElem?_cons_succ]
      exact hj)) (by omega) ⟨fun k i _ => by rw [if_neg (fun z => by have := z.1; omega)], fun a => by rw [if_neg (by omega)], rfl, rfl⟩ (by omega)
  have hz := ok.2.2.1
  obtain ⟨pR, pW, pE, pT⟩ := pm
  have gI := g.1.2.2.2.2.2.1
  have gI' := g'.1.2.2.2.2.2.1
  have R7 : ∀ k, k = 7 ∨ k = 17 ∨ k = 20 → ∀ i, xR S3 k i = xR T k i := fun k hk i => by
    rw [pR k i (by omega), if_neg (by omega), upM_R, if_neg (by omega), if_neg (by omega)]
    exact (g'.2.2.1.ss g.2.2.1 k hk i).symm
  have RA : ∀ k, k < 11 → ∀ i, xR S3 k i = xR T k i := fun k hk i => by
    by_cases z7 : k = 7
    · exact R7 k (Or.inl z7) i
    · rw [pR k i (by omega)]
      by_cases z : i < N ∧ (1 ≤ k ∧ k ≤ 6 ∨ 8 ≤ k ∧ k ≤ 10)
      · rw [if_pos z]
      · rw [if_neg z, upM_R]
        by_cases z0 : k = 0
        · rw [if_pos z0, z0]
        · rw [if_neg z0, if_neg (by omega), g'.2.2.2 k hk i (by omega), g.2.2.2 k hk i (by omega)]
  have lE : ∀ l, l < 256 → xL S3 l = (xL T l).map (wn t) := fun l hl => by
    rw [lm l hl]
    by_cases z : l < 16 * N
    · rw [if_pos z]
    · rw [if_neg z, hz l hl (by omega)]; rfl
  have wE : ∀ a, a < 16 → xW S3 a = xW T a := fun a ha => by
    rw [pW]
    by_cases z : a < N
    · rw [if_pos z]
    · rw [if_neg z]
      show xW S a = _
      rw [(gI' a ha).2.1 (by omega), (gI a ha).2.1 (by omega)]
  have fR : xR (fS t T S3) = xR S3 := rfl
  obtain ⟨L3, sx3, c3, p3⟩ := rr3.1
  have se : SE (fS t T S3) T := by
    refine ⟨fun k i hk _ => ?_, fun a _ => rfl, fun l hl => ?_⟩
    · rw [fR]
      rcases hk with z | z | z
      · exact RA k z i
      · exact R7 k (by omega) i
      · exact R7 k (by omega) i
    · show ((xL T l).map (wn t)).map lk = _
      rw [List.map_map]; rfl
  refine ⟨M3, fS t T S3, ?_, ⟨L3, sx3, c3, p3.ex rfl (fun a ha => (wE a ha).symm) (fun l hl => (lE l hl).symm) rfl rfl⟩, fa.tr (rr.2.2.1.tr rr3.2.2.1), fun b => by rw [rr3.2.2.2, rr.2.2.2, ca], se, ⟨?_, ?_, ?_, ?_⟩, pE, pT⟩
  · have q1 := p.1
    have qa := pa.1
    have qm : ∀ x, CS (sI Ma 114 7 x) 63 := fun x => qa.e rfl
    have q1m : ∀ x, CS (sI M1 114 7 x) 63 := fun x => qa.e s1
    have sxb := sxa.e s1
    rw [f_X6_recall, chk_t sx.1, sx.2.1.2.1, bnd_e, sx1 sx, sx1i sx hi, mI_c (by omega), hs, hMa, bnd_e, sxa.2.1.1, bnd_e, cs_f qa, e1, obd2_s, cs_f (qm _), w1, bnd_e, chk_t sxb.1, sxb.2.1.1, bnd_e, cs_f (qa.e s1), e2, obd2_s, cs_f (q1m _), w2, bnd_e]
    exact e3
  · exact g.1.wn h16 ⟨rfl, fun k hk _ i => RA k hk i⟩ (fun l _ => rfl)
  · exact ⟨se.sy.tix h16 g.2.1.1, g.2.1.2.1.k R7, by rw [se.tPhS]; exact g.2.1.2.2⟩
  · exact fun k hk i => (R7 k hk i).trans (g.2.2.1 k hk i)
  · exact fun k hk i hi => (RA k hk i).trans (g.2.2.2 k hk i hi)
end
/-! ===== the class: who may ask anew; the search's own rows ===== -/
theorem HV.at5 {M M' : Mem} {X Y N : Nat} {t : Int32} {Q : Nat → Int32} {S : St} {pb pt : List Row4} (p : HV M 63 X Y t N Q S pb pt) (e : M'.1 = M.1) (hI : ∀ o, ¬ (114 ≤ o ∧ o ≤ 118) → ∀ b, mI M' o b = mI M o b) : HV M' 63 X Y t N Q S pb pt := by
  obtain ⟨q, ⟨d5, d6, d7, len, K, fr, us, ow, w, hK⟩, hp, rm, ⟨lb, lt⟩, hN, hQ⟩ := p
  obtain ⟨_, _, _, y5, y6, y7, _⟩ := id w.1
  have hl := w.2.2.2.2.2.2.2.2.2.1
  refine ⟨q.e e, ⟨d5, d6, d7, len, K, fr, us, ow, ?_, hK⟩, hp.cg (fun o ho b => hI o (by omega) b) (fun _ _ _ => rfl) rfl, ?_, ⟨?_, ?_⟩, ?_, fun v hv => ?_⟩
  · exact w.cg (w.1.e e) (Nat.le_refl _) hl.2.2.2.1 (fun i a b k => hI _ (by omega) k) (fun k _ => hI d5 (by omega) k) (fun k _ => hI d6 (by omega) k) (fun k _ => hI d7 (by omega) k)
  · unfold Rm mN mU mLn mR at rm ⊢
    rw [e]; exact rm
  · exact lb.cg (hI _ (by omega)) (hI _ (by omega))
  · exact lt.cg (hI _ (by omega)) (hI _ (by omega))
  · rw [hI 1 (by omega)]; exact hN
  · rw [hI _ (by omega)]; exact hQ v hv
section
variable {X0 Y0 N : Nat} {t : Int32} {Q : Nat → Int32} {S : St} {pb pt : List Row4} {M : Mem} {e dC : Nat}
theorem SV.at5 {M' : Mem} (h : SV X0 Y0 t N Q pb pt S M e dC) (s : M'.1 = M.1) (hI : ∀ o, ¬ (114 ≤ o ∧ o ≤ 118) → ∀ b, mI M' o b = mI M o b) (h6 : mI M' 114 6 = mI M 114 6) : SV X0 Y0 t N Q pb pt S M' e dC := by
  obtain ⟨L, sx, c, p⟩ := h
  exact ⟨L, sx.e s, c.e s h6, p.at5 s hI⟩
def anC (ask : Int32) (N : Nat) (sn : Nat → Int32) (S : St) (v : Nat) : Bool := bt ask v && (mayA N v S && decide (xR S 2 v = sn v))
theorem an_l (h : SV X0 Y0 t N Q pb pt S M e dC) {ask : Int32} {sn : Nat → Int32} (hI : IA N S) (h16 : N ≤ 16) (hQ : ∀ v, v < N → qm N S v = Q v) (ha : mI M 114 9 = ask) (hs : ∀ v, v < N → mI M 118 v = sn v) : ∀ (d v n : Nat) (acc : Int32), v + d = N → d + 1 ≤ n → f_X6_asksNow_4 M n 114 acc (nI v) = some ((asks' v d N S ask sn).foldl (fun m g => bon m g) acc) := by
  obtain ⟨L, sx, c, p⟩ := h
  have q := p.1
  intro d
  induction d with
  | zero =>
    intro v n acc hv hn
    obtain ⟨n, rfl⟩ : ∃ m, n = m + 1 := ⟨n - 1, by omega⟩
    rw [f_X6_asksNow_4, chk_t sx.1, sx.2.1.1, bnd_e, cs_f q, cs_h0 q, bnd_e, cs_s q, p.2.2.2.2.2.1, if_pos (nI_le (by omega) (by omega))]
    rfl
  | succ d ih =>
    intro v n acc hv hn
    obtain ⟨n, rfl⟩ : ∃ m, n = m + 1 := ⟨n - 1, by omega⟩
    have v16 : v < 16 := by omega
    have i18 : ∀ x : Option Int32, chk (inB (nI v) (mLn M 118)) x = x := fun x => by
      refine chk_t ?_
      rw [sx.2.2.2.1.2.2.2]; exact inB_n v16 (by decide)
    have p1 : mI M (63 + 17 + 2 * v) 1 = xR S 2 v := (p.2.2.1.1 v v16).1 (1, 2) (by decide)
    have el : asks' v (d + 1) N S ask sn = if anC ask N sn S v = true then v :: asks' (v + 1) d N S ask sn else asks' (v + 1) d N S ask sn := by
      unfold asks' anC
      rw [List.range'_succ, List.filter_cons]
    have k44 : ∀ u : Int32, (u = if xR S 2 v = sn v then 1 else 0) → f_X6_asksNow_44 (f_X6_asksNow_4 M n) M n 114 acc (nI v) u = some ((asks' v (d + 1) N S ask sn).foldl (fun m g => bon m g) acc) := by
      intro u hu
      rw [f_X6_asksNow_44, chk_t sx.1, ha, f_has9 _ (by omega), obd_s, nI_1, el]
      unfold anC
      by_cases z1 : bt ask v = true
      · rw [if_pos z1, if_neg ne10, hu]
        by_cases z2 : xR S 2 v = sn v
        · rw [if_pos z2, if_neg ne10, sx.2.1.1, bnd_e, cs_f q, p.may hI h16 (by omega) (hQ v (by omega)), obd_s]
          by_cases z3 : mayA N v S = true
          · rw [if_pos z3, if_neg ne10, if_pos (by rw [z1, z3, decide_eq_true z2]; rfl), List.foldl_cons, bnd_e, bnd_e]
            exact ih (v + 1) n (bon acc v) (by omega) (by omega)
          · rw [if_neg z3, if_pos rfl, if_neg (by rw [Bool.not_eq_true] at z3; rw [z3, Bool.false_and, Bool.and_false]; decide), bnd_e]
            exact ih (v + 1) n acc (by omega) (by omega)
        · rw [if_neg z2, if_pos rfl, if_neg (by rw [decide_eq_false z2, Bool.and_false, Bool.and_false]; decide), bnd_e]
          exact ih (v + 1) n acc (by omega) (by omega)
      · rw [if_neg z1, if_pos rfl, if_neg (by rw [Bool.not_eq_true] at z1; rw [z1, Bool.false_and]; decide), bnd_e]
        exact ih (v + 1) n acc (by omega) (by omega)
    rw [f_X6_asksNow_4, chk_t sx.1, sx.2.1.1, bnd_e, cs_f q, cs_h0 q, bnd_e, cs_s q, p.2.2.2.2.2.1, if_neg (nI_ge (by omega) (by omega)), bnd_e, cs_f q, cs_h2 q, bnd_e, cs_a10 q, cs_i10 q v16, cs_rpc q v16, bnd_e, cs_po q v16, sx.2.1.2.2.2.2, bnd_e, chk_t sx.2.2.1.2.2.2, i18, mI_c (by omega), p1, hs v (by omega)]
    by_cases z : xR S 2 v = sn v
    · rw [if_pos z]; exact k44 1 (by rw [if_pos z])
    · rw [if_neg z]; exact k44 0 (by rw [if_neg z])
theorem SV.asks (h : SV X0 Y0 t N Q pb pt S M e dC) {ask : Int32} {sn : Nat → Int32} {n : Nat} (hI : IA N S) (h16 : N ≤ 16) (hQ : ∀ v, v < N → qm N S v = Q v) (ha : mI M 114 9 = ask) (hs : ∀ v, v < N → mI M 118 v = sn v) (hn : 17 ≤ n) : f_X6_asksNow n 114 M = some ((asks' 0 N N S ask sn).foldl (fun m g => bon m g) 0) :=
  an_l h hI h16 hQ ha hs N 0 n 0 (by omega) (by omega)
theorem asks_m {ask : Int32} {sn : Nat → Int32} {i d : Nat} (h : i + d ≤ 16) {v : Nat} (hv : v ∈ asks' i d N S ask sn) : v < 16 := by
  have := (List.mem_filter.mp hv).1
  have := List.mem_range'_1.mp this
  omega
theorem fb0 {l : List Nat} (h : ∀ v, v ∈ l → v < 16) : l.foldl (fun m g => bon m g) 0 = (0 : Int32) ↔ l = [] := by
  constructor
  · intro e
    cases l with
    | nil => rfl
    | cons x l =>
      have := fn_b (x :: l) 0 x (by have := h x (by simp); omega) (fun w hw => by have := h w hw; omega)
      rw [e, b_0, decide_eq_true (show x ∈ x :: l by simp)] at this
      cases this
  · rintro rfl; rfl
end
/-! ===== the class meets a state: what it counts ===== -/
theorem nI_ltx {a b : Nat} (h : a < b) (hb : b < 2 ^ 31) : nI a < nI b := Int32.not_le.mp (nI_ge h hb)
theorem nI_nl {a b : Nat} (h : b ≤ a) (ha : a < 2 ^ 31) : ¬ nI a < nI b := fun z => Int32.not_le.mpr z (nI_le h ha)
theorem nI_max {a b : Nat} (ha : a < 2 ^ 31) (hb : b < 2 ^ 31) : (if nI a < nI b then nI b else nI a) = nI (max a b) := by
  by_cases c : a < b
  · rw [if_pos (nI_ltx c hb), Nat.max_eq_right (by omega)]
  · rw [if_neg (nI_nl (by omega) ha), Nat.max_eq_left (by omega)]
theorem nI_z {a : Nat} (ha : a < 2 ^ 31) : nI a = 0 ↔ a = 0 := nI_eq (b := 0) ha (by decide)
theorem mkS_z {S : St} {q : Int32} : mkS S q = 0 ↔ ∀ v, v < 16 → xR S 0 v ≠ q := by
  unfold mkS
  rw [fb0 (fun v hv => List.mem_range.mp (List.mem_filter.mp hv).1), List.filter_eq_nil_iff]
  constructor
  · intro h v hv e
    exact h v (List.mem_range.mpr hv) (decide_eq_true e)
  · intro h v hv e
    exact h v (List.mem_range.mp hv) (of_decide_eq_true e)
theorem m163 {M : Mem} {n m e : Nat} {u0 u1 : Int32} (sx : SX M) (hm : mI M 114 10 = nI m) (hm40 : m + 1 < 41) (h6 : mI M 114 6 = nI e) : f_X6_meet_163 n 114 u0 u1 114 M = some (sI (sI (sI M 114 12 (u1 + u0)) 114 10 (nI (m + 1))) 115 (m + 1) (nI e)) := by
  have e10 : mI (sI M 114 12 (u1 + u0)) 114 10 = nI m := by rw [mI_n _ _ _ _ (by decide)]; exact hm
  have sx1 : SX (sI M 114 12 (u1 + u0)) := sx.e rfl
  rw [f_X6_meet_163, chk_t sx.1, bnd_e, chk_t sx1.1, e10, nI_1]
  generalize hM2 : sI (sI M 114 12 (u1 + u0)) 114 10 (nI (m + 1)) = M2
  have s2 : M2.1 = M.1 := by rw [← hM2]; rfl
  have sx2 := sx.e s2
  have f10 : mI M2 114 10 = nI (m + 1) := by rw [← hM2, mI_s]
  have f6 : mI M2 114 6 = nI e := by rw [← hM2, mI_n _ _ _ _ (by decide), mI_n _ _ _ _ (by decide)]; exact h6
  rw [bnd_e, sx2.2.1.2.1, bnd_e, chk_t sx2.2.2.1.1, f10, show mLn M2 115 = 41 from sx2.2.2.2.1.1, chk_t (inB_n hm40 (by decide)), sI_c (by omega), f6, bnd_e]
section
variable {X0 Y0 N : Nat} {t : Int32} {Q : Nat → Int32} {S : St} {pb pt : List Row4} {M : Mem} {e dC : Nat}
set_option maxHeartbeats 1000000 in
theorem m112 (h : SV X0 Y0 t N Q pb pt S M e dC) {A n m k : Nat} {ask u0 u1 : Int32} {sn : Nat → Int32} (hI : Inv N A S) (h16 : N ≤ 16) (hQ : ∀ v, v < N → qm N S v = Q v) (ha : mI M 114 9 = ask) (hs : ∀ v, v < N → mI M 118 v = sn v) (hm : mI M 114 10 = nI m) (hm40 : m + 1 < 41) (c12 : mI M 114 12 = nI k) (hn : 20 ≤ n) : f_X6_meet_112 n 114 u0 u1 114 M = some (sI (sI (sI (sI M 114 11 (u1 + u0)) 114 12 (nI (k + if sStk N ask sn S then 1 else 0))) 114 10 (nI (m + 1))) 115 (m + 1) (nI e)) := by
  obtain ⟨L0, sx0, _, _⟩ := id h
  generalize hM2 : sI M 114 11 (u1 + u0) = M2
  have o2 : ∀ o, o ≠ 114 → ∀ b, mI M2 o b = mI M o b := fun o n b => by rw [← hM2, mI_o _ _ _ _ _ n]
  have d2 : ∀ b, b ≠ 11 → mI M2 114 b = mI M 114 b := fun b n => by rw [← hM2, mI_n _ _ _ _ n]
  have h2 : SV X0 Y0 t N Q pb pt S M2 e dC := h.at5 (by rw [← hM2]; rfl) (fun o n b => o2 o (by omega) b) (d2 6 (by decide))
  have an := h2.asks (n := n) hI.1 h16 hQ (ask := ask) (sn := sn) (by rw [d2 9 (by decide)]; exact ha) (fun v hv => by rw [o2 118 (by decide)]; exact hs v hv) (by omega)
  obtain ⟨L, sx, c, p⟩ := h2
  have q := p.1
  have h8 : mI M2 63 8 = mkS S 1 := b_ext (fun i hi => by rw [p.2.2.1.2.2.1 i hi, mkS_b hi])
  have cm := p.cm (n := n) hI h16 (by omega)
  have c6 : mI M2 114 6 = nI e := c.2.2.2.2.1
  have c10 : mI M2 114 10 = nI m := by rw [d2 10 (by decide)]; exact hm
  have c12' : mI M2 114 12 = nI k := by rw [d2 12 (by decide)]; exact c12
  have y148 : ∀ z : Bool, f_X6_meet_148 n 114 (if z then 1 else 0) M2 = some (sI (sI (sI M2 114 12 (nI (k + if z then 1 else 0))) 114 10 (nI (m + 1))) 115 (m + 1) (nI e)) := by
    intro z
    cases z with
    | true =>
      rw [f_X6_meet_148, chk_t sx.1, if_pos rfl, if_neg ne10, m163 sx c10 hm40 c6, c12', nI_1]; rfl
    | false =>
      rw [f_X6_meet_148, chk_t sx.1, show (if (false = true) then (1 : Int32) else 0) = 0 from rfl, if_pos rfl, m163 sx c10 hm40 c6, c12', Int32.add_zero]; rfl
  have hd : ∀ y : Option Mem, (if mkS S 1 = 0 then f_X6_meet_148 n 114 0 M2 else (if nI (mv0 N S).length = 0 then (if ((asks' 0 N N S ask sn).foldl (fun m g => bon m g) (0 : Int32)) = 0 then f_X6_meet_148 n 114 1 M2 else f_X6_meet_148 n 114 0 M2) else f_X6_meet_148 n 114 0 M2)) = y → f_X6_meet_112 n 114 u0 u1 114 M = y := by
    intro y hy
    rw [f_X6_meet_112, chk_t sx0.1, hM2, bnd_e, chk_t sx.1, sx.2.1.1, bnd_e, cs_f q, h8, bnd_e, cs_f q, cm, obd_s, an, obd_s]
    exact hy
  have lm : (mv0 N S).length < 2 ^ 31 := by
    unfold mv0
    rw [List.length_append, List.length_map]
    have a := List.length_filter_le (fun l => !(xL S l).isEmpty) (List.range 256)
    have b : (lanes S).length ≤ 256 := by
      unfold lanes
      refine Nat.le_trans (List.length_filter_le _ _) ?_
      rw [List.length_range]; exact Nat.le_refl _
    have c : (inss N S).length ≤ 16 := by
      unfold inss
      refine Nat.le_trans (List.length_filter_le _ _) ?_
      first
        | (rw [List.length_range]; omega)
        | (rw [List.length_range']; omega)
    omega
  have emv : mvl N S ask sn = mv0 N S ++ (asks' 0 N N S ask sn).map (fun v => 272 + v) := rfl
  have ha0 : (List.range N).any (fun v => decide (xR S 0 v = 1)) = true ↔ ¬ mkS S 1 = 0 := by
    rw [mkS_z, List.any_eq_true]
    constructor
    · rintro ⟨v, hv, z⟩ y
      have := List.mem_range.mp hv
      exact y v (by omega) (of_decide_eq_true z)
    · intro y
      refine Classical.byContradiction fun z => y fun v hv e => z ⟨v, List.mem_range.mpr ?_, decide_eq_true e⟩
      rcases Nat.lt_or_ge v N with w | w
      · exact w
      · have := (hI.1 v hv).2.1 w
        rw [this] at e; cases e
  have hz : sStk N ask sn S = true ↔ (mv0 N S = [] ∧ asks' 0 N N S ask sn = []) ∧ ¬ mkS S 1 = 0 := by
    unfold sStk
    rw [Bool.and_eq_true, ha0, List.isEmpty_iff, emv, List.append_eq_nil_iff, List.map_eq_nil_iff]
  refine hd _ ?_
  by_cases z1 : mkS S 1 = 0
  · rw [if_pos z1]
    have : sStk N ask sn S = false := by
      rw [← Bool.not_eq_true, hz]; exact fun w => w.2 z1
    rw [this]
    exact y148 false
  · rw [if_neg z1]
    by_cases z2 : (mv0 N S).length = 0
    · rw [if_pos ((nI_z lm).mpr z2)]
      by_cases z3 : asks' 0 N N S ask sn = []
      · rw [if_pos ((fb0 (fun v hv => asks_m (by omega) hv)).mpr z3)]
        have : sStk N ask sn S = true := hz.mpr ⟨⟨List.length_eq_zero_iff.mp z2, z3⟩, z1⟩
        rw [this]
        exact y148 true
      · rw [if_neg (fun w => z3 ((fb0 (fun v hv => asks_m (by omega) hv)).mp w))]
        have : sStk N ask sn S = false := by
          rw [← Bool.not_eq_true, hz]; exact fun w => z3 w.1.2
        rw [this]
        exact y148 false
    · rw [if_neg (fun w => z2 ((nI_z lm).mp w))]
      have : sStk N ask sn S = false := by
        rw [← Bool.not_eq_true, hz]; exact fun w => z2 (List.length_eq_zero_iff.mpr w.1.1)
      rw [this]
      exact y148 false
end
/-! ===== the class meets a state ===== -/
theorem offs_mono {N : Nat} {l : List (St × Nat)} : ∀ (d i : Nat), offs N l i ≤ offs N l (i + d) := by
  intro d
  induction d with
  | zero => intro i; exact Nat.le_refl _
  | succ d ih =>
    intro i
    refine Nat.le_trans (ih i) ?_
    rw [show i + (d + 1) = i + d + 1 by omega]
    cases e : l[i + d]? with
    | none =>
      have z := List.getElem?_eq_none_iff.mp e
      unfold offs
      rw [List.take_of_length_le z, List.take_of_length_le (by omega)]
      exact Nat.le_refl _
    | some p => rw [offs_s e]; omega
theorem offs_ap {N : Nat} {l : List (St × Nat)} {p : St × Nat} {i : Nat} (h : i ≤ l.length) : offs N (l ++ [p]) i = offs N l i := by
  unfold offs
  rw [List.take_append_of_le_length h]
def cDp (l : List (St × Nat)) : Nat := l.foldl (fun m p => max m p.2) 0
theorem cDp_s (l : List (St × Nat)) (p : St × Nat) : cDp (l ++ [p]) = max (cDp l) p.2 := by
  unfold cDp
  rw [List.foldl_append]
  rfl
theorem cMx_le {l : List (St × Nat)} {m : Nat} (h : ∀ p, p ∈ l → (fl p.1).length ≤ m) : cMx l ≤ m := by
  unfold cMx
  have : ∀ (l : List (St × Nat)) (a : Nat), a ≤ m → (∀ p, p ∈ l → (fl p.1).length ≤ m) → l.foldl (fun m p => max m (fl p.1).length) a ≤ m := by
    intro l
    induction l with
    | nil => intro a ha _; exact ha
    | cons x l ih =>
      intro a ha hl
      rw [List.foldl_cons]
      exact ih _ (Nat.max_le.mpr ⟨ha, hl x (by simp)⟩) (fun p hp => hl p (List.mem_cons_of_mem _ hp))
  exact this l 0 (Nat.zero_le _) h
theorem cDp_le {l : List (St × Nat)} {m : Nat} (h : ∀ p, p ∈ l → p.2 ≤ m) : cDp l ≤ m := by
  unfold cDp
  have : ∀ (l : List (St × Nat)) (a : Nat), a ≤ m → (∀ p, p ∈ l → p.2 ≤ m) → l.foldl (fun m p => max m p.2) a ≤ m := by
    intro l
    induction l with
    | nil => intro a ha _; exact ha
    | cons x l ih =>
      intro a ha hl
      rw [List.foldl_cons]
      exact ih _ (Nat.max_le.mpr ⟨ha, hl x (by simp)⟩) (fun p hp => hl p (List.mem_cons_of_mem _ hp))
  exact this l 0 (Nat.zero_le _) h
/-- the states met and what is counted of them, as the class holds them -/
def SQ (N : Nat) (ask : Int32) (sn : Nat → Int32) (most : Nat) (M : Mem) (e dC : Nat) (q : Bq) : Prop := XQ N M dC q.1 ∧ offs N q.1 q.1.length ≤ e ∧ mI M 114 10 = nI q.1.length ∧ mI M 114 8 = nI most ∧ mI M 114 9 = ask ∧ (∀ v, v < N → mI M 118 v = sn v) ∧ mI M 114 11 = nI (cTwo N q.1) ∧ mI M 114 12 = nI (cStk N ask sn q.1) ∧ mI M 114 13 = nI (cMx q.1) ∧ mI M 114 14 = nI (cDp q.1) ∧ mI M 114 15 = (if q.2 then 1 else 0) ∧ ∀ (i : Nat) (p : St × Nat), q.1[i]? = some p → mI M 117 i = mkS p.1 2
/-- the search alone has changed -/
def FrQ (M M' : Mem) (dC dC' : Nat) : Prop := mN M ≤ mN M' ∧ (∀ o, o < mN M → M'.1.2.1 o = M.1.2.1 o) ∧ (∀ o b, o < mN M → ¬ (o = 114 ∧ b = 5) → mR M' o b = mR M o b) ∧ (∀ o, o < mN M → ¬ (114 ≤ o ∧ o ≤ 118) → o ≠ dC → ∀ b, mI M' o b = mI M o b) ∧ (∀ o, o < mN M → ∀ b, mL M' o b = mL M o b) ∧ (dC' = dC ∨ mN M ≤ dC')
theorem FrC.q {M M' : Mem} {a b : Nat} (f : FrC M M' a b) : FrQ M M' a b := by
  obtain ⟨f1, f2, f3, f4, f5, f6, f7⟩ := f
  exact ⟨f1, f2, f3, fun o ho n1 n2 => f4 o ho (by omega) n2, f6, f7⟩
theorem FrQ.tr {M M' M'' : Mem} {a b c : Nat} (h : FrQ M M' a b) (h' : FrQ M' M'' b c) : FrQ M M'' a c := by
  obtain ⟨a1, a2, a3, a4, a6, a7⟩ := h
  obtain ⟨b1, b2, b3, b4, b6, b7⟩ := h'
  refine ⟨Nat.le_trans a1 b1, fun o ho => (b2 o (by omega)).trans (a2 o ho), fun o k ho n => (b3 o k (by omega) n).trans (a3 o k ho n), fun o ho n1 n2 k => (b4 o (by omega) n1 (by omega) k).trans (a4 o ho n1 n2 k), fun o ho k => (b6 o (by omega) k).trans (a6 o ho k), by omega⟩
theorem FrQ.of {M M' : Mem} {dC : Nat} (s : M'.1 = M.1) (hI : ∀ o, ¬ (114 ≤ o ∧ o ≤ 118) → ∀ b, mI M' o b = mI M o b) (hL : ∀ o b, mL M' o b = mL M o b) : FrQ M M' dC dC :=
  ⟨by unfold mN; rw [s]; exact Nat.le_refl _, fun o _ => by rw [s], fun o b _ _ => by unfold mR; rw [s], fun o _ n _ b => hI o n b, fun o _ b => hL o b, Or.inl rfl⟩
theorem knw_ser {N A P most : Nat} {S0 S Sm : St} {q : Bq} (h16 : N ≤ 16) (hA : A + 50 < 1048576) (h40 : most ≤ 40) (hP : P + 40 * N < 9000) {dd : Nat} (hdd : dd ≤ 40) (gq : GQ N A P most S0 q) (g : GS N A P S0 S dd) (hm : SE S Sm) : knw q.1 Sm = true ↔ ∃ j p, 0 ≤ j ∧ q.1[j]? = some p ∧ ser N p.1 = ser N S := by
  have hfl : ∀ {T : St} {d : Nat}, GS N A P S0 T d → d ≤ 40 → (fl T).length < 9000 := fun {T d} gT hd => by
    have := gT.2.1.2.2
    have : N * d ≤ N * 40 := Nat.mul_le_mul_left _ hd
    have := fl_PhS T
    omega
  rw [knw_t]
  constructor
  · rintro ⟨p, hp, se⟩
    obtain ⟨j, hj, ej⟩ := List.mem_iff_getElem.mp hp
    exact ⟨j, p, Nat.zero_le _, by rw [List.getElem?_eq_getElem hj, ej], ser_c (se.tr hm.sy) h16⟩
  · rintro ⟨j, p, _, hj, es⟩
    refine ⟨p, List.mem_of_getElem? hj, ?_⟩
    obtain ⟨g1, g2⟩ := gq.2.2 j p hj
    have hl := gl_lt hj
    have := gq.1
    have l1 := hfl g2 (by omega)
    have l2 := hfl g hdd
    exact (ser_i es h16 g2.1 g.1 (by omega) (by omega) (g2.2.2.1.ss g.2.2.1) (fun k hk i hi => (g.2.2.2 k hk i hi).trans (g2.2.2.2 k hk i hi).symm) (fun l c => by
      have a := ln_l (S := p.1) c (by omega)
      have b := ln_l (S := S) c (by omega)
      exact ⟨by omega, by omega⟩)).tr hm
/-! ===== the class meets a state, whole ===== -/
section
variable {X0 Y0 N : Nat} {t : Int32} {Q : Nat → Int32} {S : St} {pb pt : List Row4} {M : Mem} {e dC : Nat}
theorem XQ.cg {M' : Mem} {dC' : Nat} {l : List (St × Nat)} (h : XQ N M dC l) (h5 : ∀ b, mI M' 115 b = mI M 115 b) (h6 : ∀ b, mI M' 116 b = mI M 116 b) (hC : ∀ j, j < offs N l l.length → mI M' dC' j = mI M dC j) : XQ N M' dC' l := by
  refine ⟨fun i hi => by rw [h5]; exact h.1 i hi, fun i p hp => ⟨fun j x hx => ?_, by rw [h6]; exact (h.2 i p hp).2⟩⟩
  have a := offs_s (N := N) hp
  have b := gl_lt hx
  have c := gl_lt hp
  have d := offs_mono (N := N) (l := l) (l.length - (i + 1)) (i + 1)
  rw [show i + 1 + (l.length - (i + 1)) = l.length by omega] at d
  rw [hC _ (by omega)]
  exact (h.2 i p hp).1 j x hx
set_option maxHeartbeats 4000000 in
theorem SV.meet (h : SV X0 Y0 t N Q pb pt S M e dC) (hX : X0 ≤ 100000) (hY : Y0 ≤ 1000000) (h16 : N ≤ 16) {A P most dd n : Nat} {S0 Sm : St} {q : Bq} {ask : Int32} {sn : Nat → Int32} (hA : A + 50 < 1048576) (h40 : most ≤ 40) (hP : P + 40 * N < 9000) (hQ : ∀ v, v < N → qm N S v = Q v) (gq : GQ N A P most S0 q) (g : GS N A P S0 S dd) (hdd : dd ≤ 40) (hm : SE S Sm) (sq : SQ N ask sn most M e dC q) (hn : 20000 ≤ n) : ∃ M' e' dC', f_X6_meet n 114 (nI dd) M = some M' ∧ SV X0 Y0 t N Q pb pt S M' e' dC' ∧ SQ N ask sn most M' e' dC' (met1 most q Sm dd) ∧ FrQ M M' dC dC' := by
  have hI := g.1
  have so : Sok N S := ⟨h16, fun v hv w hw => by have := ((hI.2.2.2.2.2.1 v hv).1.2.2 w hw).1; omega, fun v hv => (hI.1 v hv).2.2.2⟩
  have hfl : ∀ {T : St} {d : Nat}, GS N A P S0 T d → d ≤ 40 → (fl T).length < 9000 := fun {T d} gT hd => by
    have := gT.2.1.2.2
    have : N * d ≤ N * 40 := Nat.mul_le_mul_left _ hd
    have := fl_PhS T
    omega
  have hle : ∀ p, p ∈ q.1 → (ser N p.1).length ≤ 18434 ∧ (fl p.1).length < 9000 ∧ p.2 ≤ 40 := fun p hp => by
    obtain ⟨j, hj, ej⟩ := List.mem_iff_getElem.mp hp
    obtain ⟨g1, g2⟩ := gq.2.2 j p (by rw [List.getElem?_eq_getElem hj, ej])
    have := gq.1
    have l1 := hfl g2 (by omega)
    have := ser_len (S := p.1) h16
    exact ⟨by omega, l1, by omega⟩
  have flS := hfl g hdd
  have hsl : (ser N S).length ≤ 18434 := by have := ser_len (S := S) h16; omega
  have ho := offs_le (N := N) (l := q.1) (fun p hp => (hle p hp).1)
  have hq40 : q.1.length ≤ 40 := Nat.le_trans gq.1 h40
  have ho40 : offs N q.1 q.1.length ≤ 737360 := by
    have := ho q.1.length
    have : 18434 * q.1.length ≤ 18434 * 40 := Nat.mul_le_mul_left _ hq40
    omega
  obtain ⟨sx, s2, s3, s4, s5, s6, s7, s8, s9, s10, s11, s12⟩ := sq
  obtain ⟨L, xx, c, p⟩ := id h
  have hC := c.2.2.2.1
  have hN := xx.2.2.2.2
  obtain ⟨M1, d1, e1, V1, k1, w1, f1⟩ := h.save hX hY so s3 hq40 (sx.1 q.1.length (Nat.le_refl _)) s2 (by omega) (n := n) (by omega)
  have F1 := f1.q
  have o1 : ∀ o, 115 ≤ o → o ≤ 118 → ∀ b, mI M1 o b = mI M o b := fun o a b => f1.2.2.2.1 o (by omega) (by omega) (by omega)
  have g1 := f1.2.2.2.2.1
  have sx1 : XQ N M1 d1 q.1 := sx.cg (o1 115 (by decide) (by decide)) (o1 116 (by decide) (by decide)) k1
  have sq1 : ∀ b : Bool, (mI M1 114 15 = if b then 1 else 0) → SQ N ask sn most M1 (offs N q.1 q.1.length + (ser N S).length) d1 (q.1, b) := fun b hb => ⟨sx1, by show offs N q.1 q.1.length ≤ _; omega, by rw [g1 10 (by decide)]; exact s3, by rw [g1 8 (by decide)]; exact s4, by rw [g1 9 (by decide)]; exact s5, fun v hv => by rw [o1 118 (by decide) (by decide)]; exact s6 v hv, by rw [g1 11 (by decide)]; exact s7, by rw [g1 12 (by decide)]; exact s8, by rw [g1 13 (by decide)]; exact s9, by rw [g1 14 (by decide)]; exact s10, hb, fun i p hp => by rw [o1 117 (by decide) (by decide)]; exact s12 i p hp⟩
  obtain ⟨L1, x1, c1, p1⟩ := id V1
  obtain ⟨r, er, hr⟩ := known_l (S := S) x1 c1 sx1 (by rw [g1 10 (by decide)]; exact s3) hq40 w1 ho hsl (fun p hp => (hle p hp).1) q.1.length 0 n (by omega) (by omega)
  have hd1 := c1.2.2.2.1
  have dn4 : d1 ≠ 114 := by omega
  have dF : ¬ (114 ≤ d1 ∧ d1 ≤ 118) := by omega
  have hk := knw_ser h16 hA h40 hP hdd gq g hm
  have head : ∀ y : Option Mem, (if (if r then (1 : Int32) else 0) = 0 then (if nI q.1.length < nI most then (bnd (sI M1 116 q.1.length (nI dd)) fun M15 => bnd (mR M15 114 3) fun o19 => chk (isO M15 100 o19) <| bnd (mR M15 114 0) fun o22 => chk (isO M15 2 o22) <| chk (inB (mI M15 114 10) (mLn M15 o19)) <| bnd (sI M15 o19 ((mI M15 114 10)).toNatClampNeg (mI M15 o22 7)) fun M26 => bnd (sI M26 114 14 (if (mI M26 114 14) < nI dd then nI dd else (mI M26 114 14))) fun M32 => bnd (mR M32 114 0) fun o38 => chk (isO M32 2 o38) <| bnd (mR M32 o38 1) fun o41 => chk (isO M32 5 o41) <| bnd (sI M32 114 13 (if (mI M32 114 13) < (mI M32 o41 10) then (mI M32 o41 10) else (mI M32 114 13))) fun M44 => bnd (mR M44 114 0) fun o52 => chk (isO M44 2 o52) <| obd (f_J6_bitCount_0f7a4 (mI M44 o52 7) M44) fun r56 => if r56 < (2 : Int32) then f_X6_meet_112 n 114 (0 : Int32) (mI M44 114 11) 114 M44 else f_X6_meet_112 n 114 (1 : Int32) (mI M44 114 11) 114 M44) else some (sI M1 114 15 1)) else some M1) = y → f_X6_meet n 114 (nI dd) M = y := by
    intro y hy
    have i16 : ∀ x : Option Mem, q.1.length < most → chk (inB (nI q.1.length) (mLn M1 116)) x = x := fun x hx => by
      refine chk_t ?_
      rw [x1.2.2.2.1.2.1]; exact inB_n (by omega) (by decide)
    rw [f_X6_meet, chk_t xx.1, e1, obd_s, chk_t x1.1, f_X6_isKnown, show f_X6_isKnown_2 M1 n 114 0 = _ from er, obd_s, g1 10 (by decide), s3, g1 8 (by decide), s4]
    rw [← hy]
    by_cases z : q.1.length < most
    · rw [if_pos (nI_ltx z (by omega)), if_pos (nI_ltx z (by omega)), x1.2.1.2.2.1, bnd_e, chk_t x1.2.2.1.2.1, i16 _ z, sI_c (by omega)]
    · rw [if_neg (nI_nl (by omega) (by omega)), if_neg (nI_nl (by omega) (by omega)), chk_t (show bz (1 : Int32) by decide), bnd_e]
  cases r with
  | true =>
    have kt := hk.mpr (hr.mp rfl)
    refine ⟨M1, _, d1, head _ (by rw [if_neg (by decide)]), V1, ?_, F1⟩
    unfold met1
    rw [if_pos kt]
    exact sq1 q.2 (by rw [g1 15 (by decide)]; exact s11)
  | false =>
    have kf : ¬ knw q.1 Sm = true := fun z => absurd (hr.mpr (hk.mp z)) (by decide)
    by_cases z : q.1.length < most
    · have x1N := x1.2.2.2.2
      have q1 := p1.1
      have r7 : mI M1 63 7 = mkS S 2 := b_ext (fun i hi => by rw [p1.2.2.1.2.1 i hi, mkS_b hi])
      have fS : (fl Sm).length = (fl S).length := (len_lq (fl_lk.mp hm.2.2)).symm
      have cm9 : cMx q.1 ≤ 9000 := cMx_le (fun p hp => by have := (hle p hp).2.1; omega)
      have cd9 : cDp q.1 ≤ 40 := cDp_le (fun p hp => (hle p hp).2.2)
      generalize hMa : sI M1 116 q.1.length (nI dd) = Ma
      generalize hMb : sI Ma 117 q.1.length (mkS S 2) = Mb
      generalize hMc : sI Mb 114 14 (nI (max (cDp q.1) dd)) = Mc
      generalize hMd : sI Mc 114 13 (nI (max (cMx q.1) (fl S).length)) = Md
      have sa : Ma.1 = M1.1 := by rw [← hMa]; rfl
      have sb : Mb.1 = M1.1 := by rw [← hMb]; exact sa
      have sc : Mc.1 = M1.1 := by rw [← hMc]; exact sb
      have sd : Md.1 = M1.1 := by rw [← hMd]; exact sc
      have oa : ∀ o, o ≠ 116 → ∀ b, mI Ma o b = mI M1 o b := fun o n b => by rw [← hMa, mI_o _ _ _ _ _ n]
      have ob : ∀ o, o ≠ 116 → o ≠ 117 → ∀ b, mI Mb o b = mI M1 o b := fun o n n' b => by rw [← hMb, mI_o _ _ _ _ _ n', oa o n]
      have oc : ∀ o, o ≠ 116 → o ≠ 117 → o ≠ 114 → ∀ b, mI Mc o b = mI M1 o b := fun o n n' m b => by rw [← hMc, mI_o _ _ _ _ _ m, ob o n n']
      have od : ∀ o, o ≠ 116 → o ≠ 117 → o ≠ 114 → ∀ b, mI Md o b = mI M1 o b := fun o n n' m b => by rw [← hMd, mI_o _ _ _ _ _ m, oc o n n' m]
      have c4 : ∀ b, b ≠ 14 → mI Mc 114 b = mI M1 114 b := fun b n => by rw [← hMc, mI_n _ _ _ _ n, ob 114 (by decide) (by decide)]
      have d4 : ∀ b, b ≠ 13 → b ≠ 14 → mI Md 114 b = mI M1 114 b := fun b n n' => by rw [← hMd, mI_n _ _ _ _ n, c4 b n']
      have Vd : SV X0 Y0 t N Q pb pt S Md (offs N q.1 q.1.length + (ser N S).length) d1 := V1.at5 sd (fun o n b => od o (by omega) (by omega) (by omega) b) (d4 6 (by decide) (by decide))
      have c12 : mI Md 114 12 = nI (cStk N ask sn q.1) := by rw [d4 12 (by decide) (by decide), g1 12 (by decide)]; exact s8
      have c11 : mI Md 114 11 = nI (cTwo N q.1) := by rw [d4 11 (by decide) (by decide), g1 11 (by decide)]; exact s7
      have c10 : mI Md 114 10 = nI q.1.length := by rw [d4 10 (by decide) (by decide), g1 10 (by decide)]; exact s3
      have tail : ∀ u0 : Int32, f_X6_meet_112 n 114 u0 (mI Md 114 11) 114 Md = _ := fun u0 => m112 Vd (n := n) (m := q.1.length) (ask := ask) (sn := sn) (u0 := u0) (u1 := mI Md 114 11) hI h16 hQ (by rw [d4 9 (by decide) (by decide), g1 9 (by decide)]; exact s5) (fun v hv => by rw [od 118 (by decide) (by decide) (by decide), o1 118 (by decide) (by decide)]; exact s6 v hv) c10 (by omega) c12 (by omega)
      have bits : ∀ w, w < 32 → bt (mkS S 2) w = decide (w < N ∧ xR S 0 w = 2) := fun w hw => by
        rw [mkS_b hw]
        refine decide_eq_decide.mpr ⟨fun x => ⟨?_, x.2⟩, fun x => ⟨by omega, x.2⟩⟩
        rcases Nat.lt_or_ge w N with y | y
        · exact y
        · have := (hI.1 w x.1).2.1 y
          rw [this] at x
          exact absurd x.2 (by decide)
      have bc := f_bcx (x := mkS S 2) (fun i a b => by rw [mkS_b b]; exact decide_eq_false (fun x => by omega)) Md
      rw [pc_mask bits] at bc
      have m63 : mI Md 63 7 = mkS S 2 := by rw [od 63 (by decide) (by decide) (by decide)]; exact r7
      have lhs : f_X6_meet n 114 (nI dd) M = some (sI (sI (sI (sI Md 114 11 (nI (cTwo N q.1 + if sTwo N S then 1 else 0))) 114 12 (nI (cStk N ask sn q.1 + if sStk N ask sn S then 1 else 0))) 114 10 (nI (q.1.length + 1))) 115 (q.1.length + 1) (nI (offs N q.1 q.1.length + (ser N S).length))) := by
        refine head _ ?_
        have xa := x1.e sa
        have xb := x1.e sb
        have xc := x1.e sc
        have xd := x1.e sd
        have qa := q1.e sa
        have qc := q1.e sc
        have qd := q1.e sd
        have l17 : mLn Ma 117 = 40 := xa.2.2.2.1.2.2.1
        have a10 : mI Ma 114 10 = nI q.1.length := by rw [oa 114 (by decide), g1 10 (by decide)]; exact s3
        have b14 : mI Mb 114 14 = nI (cDp q.1) := by rw [ob 114 (by decide) (by decide), g1 14 (by decide)]; exact s10
        have c13 : mI Mc 114 13 = nI (cMx q.1) := by rw [c4 13 (by decide), g1 13 (by decide)]; exact s9
        have c64 : mI Mc (63 + 1) 10 = nI (fl S).length := by rw [oc _ (by decide) (by decide) (by decide)]; exact p1.tot
        rw [if_pos (by decide), if_pos (nI_ltx z (by omega)), hMa, bnd_e, xa.2.1.2.2.2.1, bnd_e, chk_t xa.2.2.1.2.2.1, xa.2.1.1, bnd_e, cs_f qa, a10, l17, chk_t (inB_n (by omega) (by decide)), sI_c (by omega), oa 63 (by decide), r7, hMb, bnd_e, b14, nI_max (by omega) (by omega), hMc, bnd_e, xc.2.1.1, bnd_e, cs_f qc, cs_h1 qc, bnd_e, cs_p qc, c13, c64, nI_max (by omega) (by omega), hMd, bnd_e, xd.2.1.1, bnd_e, cs_f qd, m63, bc, obd_s]
        by_cases w : pcI N S ≤ 1
        · rw [if_pos (show nI (pcI N S) < (2 : Int32) from nI_ltx (b := 2) (by omega) (by decide)), tail, c11]
          have : sTwo N S = false := by unfold sTwo; rw [decide_eq_true w]; rfl
          rw [this, Int32.add_zero]; rfl
        · have l32 : pcI N S < 2 ^ 31 := by
            unfold pcI
            refine Nat.lt_of_le_of_lt (List.length_filter_le _ _) ?_
            rw [List.length_range]; decide
          rw [if_neg (show ¬ nI (pcI N S) < (2 : Int32) from nI_nl (b := 2) (by omega) l32), tail, c11]
          have : sTwo N S = true := by unfold sTwo; rw [decide_eq_false w]; rfl
          rw [this, nI_1]; rfl
      generalize hMe : sI (sI (sI (sI Md 114 11 (nI (cTwo N q.1 + if sTwo N S then 1 else 0))) 114 12 (nI (cStk N ask sn q.1 + if sStk N ask sn S then 1 else 0))) 114 10 (nI (q.1.length + 1))) 115 (q.1.length + 1) (nI (offs N q.1 q.1.length + (ser N S).length)) = Me at lhs
      have se : Me.1 = M1.1 := by rw [← hMe]; exact sd
      have oe : ∀ o, o ≠ 114 → o ≠ 115 → ∀ b, mI Me o b = mI Md o b := fun o n n' b => by rw [← hMe, mI_o _ _ _ _ _ n', mI_o _ _ _ _ _ n, mI_o _ _ _ _ _ n, mI_o _ _ _ _ _ n]
      have e4 : ∀ b, b ≠ 10 → b ≠ 11 → b ≠ 12 → mI Me 114 b = mI Md 114 b := fun b n n' n'' => by rw [← hMe, mI_o _ _ _ _ _ (by decide), mI_n _ _ _ _ n, mI_n _ _ _ _ n'', mI_n _ _ _ _ n']
      have e15 : ∀ b, b ≠ q.1.length + 1 → mI Me 115 b = mI M1 115 b := fun b n => by rw [← hMe, mI_n _ _ _ _ n, mI_o _ _ _ _ _ (by decide), mI_o _ _ _ _ _ (by decide), mI_o _ _ _ _ _ (by decide), od 115 (by decide) (by decide) (by decide)]
      have e16 : ∀ b, mI Me 116 b = if b = q.1.length then nI dd else mI M1 116 b := fun b => by
        rw [oe 116 (by decide) (by decide), ← hMd, mI_o _ _ _ _ _ (by decide), ← hMc, mI_o _ _ _ _ _ (by decide), ← hMb, mI_o _ _ _ _ _ (by decide), ← hMa, mI_sI]
        by_cases y : b = q.1.length
        · rw [if_pos ⟨rfl, y⟩, if_pos y]
        · rw [if_neg (fun x => y x.2), if_neg y]
      have e17 : ∀ b, mI Me 117 b = if b = q.1.length then mkS S 2 else mI M1 117 b := fun b => by
        rw [oe 117 (by decide) (by decide), ← hMd, mI_o _ _ _ _ _ (by decide), ← hMc, mI_o _ _ _ _ _ (by decide), ← hMb, mI_sI, oa 117 (by decide)]
        by_cases y : b = q.1.length
        · rw [if_pos ⟨rfl, y⟩, if_pos y]
        · rw [if_neg (fun x => y x.2), if_neg y]
      have eo : ∀ o, ¬ (114 ≤ o ∧ o ≤ 118) → ∀ b, mI Me o b = mI M1 o b := fun o n b => by rw [oe o (by omega) (by omega), od o (by omega) (by omega) (by omega)]
      have mkc : mkS Sm 2 = mkS S 2 := b_ext (fun i hi => by
        rw [mkS_b hi, mkS_b hi]
        by_cases y : i < 16
        · rw [hm.1 0 i (by omega) y]
        · rw [decide_eq_false (fun x => y x.1), decide_eq_false (fun x => y x.1)])
      have lp : (q.1 ++ [(Sm, dd)])[q.1.length]? = some (Sm, dd) := by
        rw [List.getElem?_append_right (Nat.le_refl _), Nat.sub_self]; rfl
      have esr : ser N Sm = ser N S := (ser_c hm h16).symm
      have of1 : offs N (q.1 ++ [(Sm, dd)]) (q.1.length + 1) = offs N q.1 q.1.length + (ser N S).length := by
        rw [offs_s lp, offs_ap (Nat.le_refl _)]
        show _ + (ser N Sm).length = _
        rw [esr]
      have ll : (q.1 ++ [(Sm, dd)]).length = q.1.length + 1 := by rw [List.length_append]; rfl
      have cse : ∀ {i : Nat} {p : St × Nat}, (q.1 ++ [(Sm, dd)])[i]? = some p → (i < q.1.length ∧ q.1[i]? = some p) ∨ (i = q.1.length ∧ p = (Sm, dd)) := fun {i p} hp => by
        by_cases y : i < q.1.length
        · rw [List.getElem?_append_left y] at hp; exact Or.inl ⟨y, hp⟩
        · have y2 := gl_lt hp
          rw [ll] at y2
          have y3 : i = q.1.length := by omega
          rw [y3, lp] at hp
          exact Or.inr ⟨y3, (Option.some.inj hp).symm⟩
      have esk : sStk N ask sn S = sStk N ask sn Sm := by
        unfold sStk
        rw [hm.ask0 h16, (hm.sy.tmv h16 ask (fun _ _ => rfl) : mvl N S ask sn = mvl N Sm ask sn)]
      refine ⟨Me, _, d1, lhs, Vd.at5 (se.trans sd.symm) (fun o n b => oe o (by omega) (by omega) b) (e4 6 (by decide) (by decide) (by decide)), ?_, F1.tr (FrQ.of se eo (fun o b => by rw [← hMe, ← hMd, ← hMc, ← hMb, ← hMa]; rfl))⟩
      unfold met1
      rw [if_neg kf, if_pos z]
      refine ⟨⟨fun i hi => ?_, fun i p hp => ⟨fun j x hx => ?_, ?_⟩⟩, ?_, ?_, ?_, ?_, fun v hv => ?_, ?_, ?_, ?_, ?_, ?_, fun i p hp => ?_⟩
      · show mI Me 115 i = _
        by_cases y : i = q.1.length + 1
        · rw [y, of1, ← hMe, mI_s]
        · have hi' : i ≤ q.1.length + 1 := by rw [← ll]; exact hi
          rw [e15 i y, offs_ap (by omega)]
          exact sx1.1 i (by omega)
      · rcases cse hp with ⟨y, hp'⟩ | ⟨y, hp'⟩
        · rw [offs_ap (by omega), eo d1 dF]
          exact (sx1.2 i p hp').1 j x hx
        · rw [y, offs_ap (Nat.le_refl _), eo d1 dF]
          rw [hp'] at hx
          exact w1 j x (by rw [← esr]; exact hx)
      · rw [e16]
        rcases cse hp with ⟨y, hp'⟩ | ⟨y, hp'⟩
        · rw [if_neg (by omega)]; exact (sx1.2 i p hp').2
        · rw [if_pos y, hp']
      · show offs N (q.1 ++ [(Sm, dd)]) (q.1 ++ [(Sm, dd)]).length ≤ _
        rw [ll, of1]; exact Nat.le_refl _
      · show mI Me 114 10 = nI (q.1 ++ [(Sm, dd)]).length
        rw [ll, ← hMe, mI_o _ _ _ _ _ (by decide), mI_s]
      · rw [e4 8 (by decide) (by decide) (by decide), d4 8 (by decide) (by decide), g1 8 (by decide)]; exact s4
      · rw [e4 9 (by decide) (by decide) (by decide), d4 9 (by decide) (by decide), g1 9 (by decide)]; exact s5
      · rw [oe 118 (by decide) (by decide), od 118 (by decide) (by decide) (by decide), o1 118 (by decide) (by decide)]; exact s6 v hv
      · show mI Me 114 11 = nI (cTwo N (q.1 ++ [(Sm, dd)]))
        rw [← hMe, mI_o _ _ _ _ _ (by decide), mI_n _ _ _ _ (by decide), mI_n _ _ _ _ (by decide), mI_s]
        unfold cTwo
        rw [ct_s, hm.two h16]
      · show mI Me 114 12 = nI (cStk N ask sn (q.1 ++ [(Sm, dd)]))
        rw [← hMe, mI_o _ _ _ _ _ (by decide), mI_n _ _ _ _ (by decide), mI_s]
        unfold cStk
        rw [ct_s, esk]
      · show mI Me 114 13 = nI (cMx (q.1 ++ [(Sm, dd)]))
        rw [e4 13 (by decide) (by decide) (by decide), ← hMd, mI_s, cMx_s]
        show _ = nI (max (cMx q.1) (fl Sm).length)
        rw [fS]
      · show mI Me 114 14 = nI (cDp (q.1 ++ [(Sm, dd)]))
        rw [e4 14 (by decide) (by decide) (by decide), ← hMd, mI_n _ _ _ _ (by decide), ← hMc, mI_s, cDp_s]
      · rw [e4 15 (by decide) (by decide) (by decide), d4 15 (by decide) (by decide), g1 15 (by decide)]; exact s11
      · rw [e17]
        rcases cse hp with ⟨y, hp'⟩ | ⟨y, hp'⟩
        · rw [if_neg (by omega), o1 117 (by decide) (by decide)]; exact s12 i p hp'
        · rw [if_pos y, hp']; exact mkc.symm
    · have hs : SQ N ask sn most (sI M1 114 15 1) (offs N q.1 q.1.length + (ser N S).length) d1 (q.1, true) := by
        obtain ⟨a1, a2, a3, a4, a5, a6, a7, a8, a9, a10, a11, a12⟩ := sq1 q.2 (by rw [g1 15 (by decide)]; exact s11)
        have n4 : ∀ b, b ≠ 15 → mI (sI M1 114 15 1) 114 b = mI M1 114 b := fun b n => mI_n _ _ _ _ n
        have n5 : ∀ o, o ≠ 114 → ∀ b, mI (sI M1 114 15 1) o b = mI M1 o b := fun o n b => mI_o _ _ _ _ _ n
        exact ⟨a1.cg (n5 115 (by decide)) (n5 116 (by decide)) (fun j _ => n5 d1 dn4 j), a2, (n4 10 (by decide)).trans a3, (n4 8 (by decide)).trans a4, (n4 9 (by decide)).trans a5, fun v hv => (n5 118 (by decide) v).trans (a6 v hv), (n4 11 (by decide)).trans a7, (n4 12 (by decide)).trans a8, (n4 13 (by decide)).trans a9, (n4 14 (by decide)).trans a10, mI_s _ _ _ _, fun i p hp => (n5 117 (by decide) i).trans (a12 i p hp)⟩
      refine ⟨sI M1 114 15 1, _, d1, head _ (by rw [if_pos (by decide), if_neg (nI_nl (by omega) (by omega))]), V1.at5 rfl (fun o n b => mI_o _ _ _ _ _ (by omega)) (mI_n _ _ _ _ (by decide)), ?_, F1.tr (FrQ.of rfl (fun o n b => mI_o _ _ _ _ _ (by omega)) (fun _ _ => rfl))⟩
      unfold met1
      rw [if_neg kf, if_neg z]
      exact hs
end
/-! ===== the class's search: from a state on ===== -/
/-- the hall searched in and the search alone have changed -/
def FrS (D : Nat → Prop) (M M' : Mem) : Prop := mN M ≤ mN M' ∧ (∀ o, o < mN M → M'.1.2.1 o = M.1.2.1 o) ∧ (∀ o b, o < mN M → ¬ (o = 64 ∧ 5 ≤ b ∧ b ≤ 7) → ¬ (o = 114 ∧ b = 5) → mR M' o b = mR M o b) ∧ (∀ o, (o < 131 ∧ ¬ (63 ≤ o ∧ o < 112) ∧ ¬ (114 ≤ o ∧ o ≤ 119)) ∨ D o → ∀ b, mI M' o b = mI M o b) ∧ ∀ o, o < mN M → ∀ b, mL M' o b = mL M o b
theorem FrS.rf (D : Nat → Prop) (M : Mem) : FrS D M M := ⟨Nat.le_refl _, fun _ _ => rfl, fun _ _ _ _ _ => rfl, fun _ _ _ => rfl, fun _ _ _ => rfl⟩
theorem FrS.tr {D : Nat → Prop} {M M' M'' : Mem} (p : FrS D M M') (p' : FrS D M' M'') : FrS D M M'' := by
  obtain ⟨a1, a2, a3, a4, a5⟩ := p
  obtain ⟨b1, b2, b3, b4, b5⟩ := p'
  exact ⟨Nat.le_trans a1 b1, fun o h => (b2 o (by omega)).trans (a2 o h), fun o b h n n' => (b3 o b (by omega) n n').trans (a3 o b h n n'), fun o h b => (b4 o h b).trans (a4 o h b), fun o h b => (b5 o (by omega) b).trans (a5 o h b)⟩
/-- what is to stay lies apart from the hall searched in and the search -/
def Sep (D : Nat → Prop) (M : Mem) (d : Nat) : Prop := ∀ o, D o → o < mN M ∧ ¬ (63 ≤ o ∧ o < 112) ∧ ¬ (114 ≤ o ∧ o ≤ 118) ∧ o ≠ d ∧ ∀ i, 5 ≤ i → i ≤ 7 → o ≠ mR M 64 i
theorem FrQ.s {D : Nat → Prop} {M M' : Mem} {a b : Nat} (f : FrQ M M' a b) (hN : 131 ≤ mN M) (ha : a = 119 ∨ 131 ≤ a) (hs : Sep D M a) : FrS D M M' ∧ Sep D M' b := by
  obtain ⟨f1, f2, f3, f4, f5, f6⟩ := f
  refine ⟨⟨f1, f2, fun o b h _ n => f3 o b h n, fun o h b => ?_, f5⟩, fun o ho => ?_⟩
  · rcases h with h | h
    · exact f4 o (by omega) (by omega) (by omega) b
    · obtain ⟨s1, s2, s3, s4, s5⟩ := hs o h
      exact f4 o s1 s3 s4 b
  · obtain ⟨s1, s2, s3, s4, s5⟩ := hs o ho
    refine ⟨by omega, s2, s3, ?_, fun i h5 h7 => ?_⟩
    · rcases f6 with z | z
      · rw [z]; exact s4
      · omega
    · rw [f3 64 i (by omega) (by omega)]; exact s5 i h5 h7
theorem FrUp.s {D : Nat → Prop} {M M' : Mem} {d : Nat} (f : FrUp M M') (hN : 131 ≤ mN M) (hR : ∀ i, 5 ≤ i → i ≤ 7 → mR M 64 i = 63 + 2 + i ∨ 131 ≤ mR M 64 i) (hs : Sep D M d) : FrS D M M' ∧ Sep D M' d := by
  obtain ⟨f1, f2, f3, f4, f5, f6, f7⟩ := f
  have r5 := hR 5 (by decide) (by decide)
  have r6 := hR 6 (by decide) (by decide)
  have r7 := hR 7 (by decide) (by decide)
  refine ⟨⟨f1, f2, fun o b h n _ => f3 o b h n, fun o h b => ?_, f6⟩, fun o ho => ?_⟩
  · rcases h with h | h
    · exact f4 o (by omega) h.2.1 (by omega) (by omega) (by omega) (by omega) b
    · obtain ⟨s1, s2, s3, s4, s5⟩ := hs o h
      exact f4 o s1 s2 (by omega) (s5 5 (by decide) (by decide)) (s5 6 (by decide) (by decide)) (s5 7 (by decide) (by decide)) b
  · obtain ⟨s1, s2, s3, s4, s5⟩ := hs o ho
    refine ⟨by omega, s2, s3, s4, fun i h5 h7 => ?_⟩
    rcases f7 i h5 h7 with z | z
    · rw [z]; exact s5 i h5 h7
    · omega
section
variable {X0 Y0 N : Nat} {t : Int32} {Q : Nat → Int32} {S : St} {pb pt : List Row4} {M : Mem} {e dC : Nat}
theorem SV.go (h : SV X0 Y0 t N Q pb pt S M e dC) {F : Mem → Option Mem} {S' : St} (hf : ∀ X Y, HV M 63 X Y t N Q S pb pt → ∃ M', F M = some M' ∧ HV M' 63 X Y t N Q S' pb pt ∧ FrH M M' 63) : ∃ M', F M = some M' ∧ SV X0 Y0 t N Q pb pt S' M' e dC ∧ FrUp M M' ∧ ∀ b, mI M' dC b = mI M dC b := by
  obtain ⟨L, sx, c, p⟩ := h
  obtain ⟨M', e1, p', f⟩ := hf _ _ p
  have f' := f.up sx.2.2.2.2 p.r57
  obtain ⟨c', cc⟩ := c.up sx.2.2.2.2 f'
  exact ⟨M', e1, ⟨L, sx.up f', c', p'⟩, f', cc⟩
theorem SV.frs {D : Nat → Prop} (h : SV X0 Y0 t N Q pb pt S M e dC) {M' : Mem} (f : FrUp M M') (hs : Sep D M dC) : FrS D M M' ∧ Sep D M' dC := by
  obtain ⟨L, sx, c, p⟩ := h
  exact f.s sx.2.2.2.2 p.r57 hs
theorem SV.frq {D : Nat → Prop} (h : SV X0 Y0 t N Q pb pt S M e dC) {M' : Mem} {d : Nat} (f : FrQ M M' dC d) (hs : Sep D M dC) : FrS D M M' ∧ Sep D M' d := by
  obtain ⟨L, sx, c, p⟩ := h
  exact f.s sx.2.2.2.2 c.2.2.2.1 hs
theorem SQ.up {ask : Int32} {sn : Nat → Int32} {most : Nat} {q : Bq} (s : SQ N ask sn most M e dC q) (h : SV X0 Y0 t N Q pb pt S M e dC) {M' : Mem} (f : FrUp M M') (hc : ∀ b, mI M' dC b = mI M dC b) : SQ N ask sn most M' e dC q := by
  obtain ⟨L, sx, c, p⟩ := h
  have hN := sx.2.2.2.2
  have r5 := p.r57 5 (by decide) (by decide)
  have r6 := p.r57 6 (by decide) (by decide)
  have r7 := p.r57 7 (by decide) (by decide)
  obtain ⟨f1, f2, f3, f4, f5, f6, f7⟩ := f
  have o : ∀ o, 115 ≤ o → o ≤ 118 → ∀ b, mI M' o b = mI M o b := fun o a z b => f4 o (by omega) (by omega) (by omega) (by omega) (by omega) (by omega) b
  obtain ⟨a1, a2, a3, a4, a5, a6, a7, a8, a9, a10, a11, a12⟩ := s
  exact ⟨a1.cg (o 115 (by decide) (by decide)) (o 116 (by decide) (by decide)) (fun j _ => hc j), a2, (f5 10 (by decide)).trans a3, (f5 8 (by decide)).trans a4, (f5 9 (by decide)).trans a5, fun v hv => (o 118 (by decide) (by decide) v).trans (a6 v hv), (f5 11 (by decide)).trans a7, (f5 12 (by decide)).trans a8, (f5 13 (by decide)).trans a9, (f5 14 (by decide)).trans a10, (f5 15 (by decide)).trans a11, fun i p hp => (o 117 (by decide) (by decide) i).trans (a12 i p hp)⟩
theorem ms_asks {ask : Int32} {sn : Nat → Int32} (h16 : N ≤ 16) : ms ((asks' 0 N N S ask sn).foldl (fun m g => bon m g) 0) = asks' 0 N N S ask sn := by
  have hb : ∀ u, u < 16 → bt ((asks' 0 N N S ask sn).foldl (fun m g => bon m g) 0) u = decide (u ∈ asks' 0 N N S ask sn) := fun u hu => by
    rw [fn_b _ _ _ (by omega) (fun w hw => by have := asks_m (i := 0) (d := N) (by omega) hw; omega), b_0, Bool.false_or]
  have hm : ∀ u, u ∈ asks' 0 N N S ask sn → u < N := fun u hu => by
    have := List.mem_range'_1.mp (List.mem_filter.mp hu).1
    omega
  unfold ms
  have e16 : List.range 16 = List.range' 0 N ++ List.range' N (16 - N) := by
    have a := List.range'_append_1 (s := 0) (m := N) (n := 16 - N)
    rw [Nat.zero_add, show N + (16 - N) = 16 by omega] at a
    rw [List.range_eq_range', ← a]
  rw [e16, List.filter_append]
  have z2 : (List.range' N (16 - N)).filter (fun i => bt ((asks' 0 N N S ask sn).foldl (fun m g => bon m g) 0) i) = [] := by
    rw [List.filter_eq_nil_iff]
    intro u hu
    have hu' := List.mem_range'_1.mp hu
    rw [hb u (by omega), decide_eq_true_eq]
    intro w
    have := hm u w
    omega
  rw [z2, List.append_nil]
  have z1 : (List.range' 0 N).filter (fun i => bt ((asks' 0 N N S ask sn).foldl (fun m g => bon m g) 0) i) = (List.range' 0 N).filter fun v => bt ask v && (mayA N v S && decide (xR S 2 v = sn v)) := by
    apply List.filter_congr
    intro u hu
    have hu' := List.mem_range'_1.mp hu
    rw [hb u (by omega)]
    unfold asks'
    rw [Bool.eq_iff_iff, decide_eq_true_eq, List.mem_filter]
    exact ⟨fun x => x.2, fun x => ⟨hu, x⟩⟩
  rw [z1]
  rfl
theorem Tok_of {A P d : Nat} {S0 T : St} (g : GS N A P S0 T d) (h16 : N ≤ 16) (hA : A + d < 1048576) (hfl : (fl T).length < 9000) : Tok N T := by
  have hI := g.1
  refine ⟨h16, hfl, fun l hl => (hI.2.2.2.2.1 l hl).2, fun l hl x hx => ?_, fun v hv => ⟨fun w hw => ?_, ?_, (hI.1 v hv).2.2.2⟩⟩
  · obtain ⟨a, s, hs, es⟩ := (hI.2.2.2.2.1 l hl).1 x hx
    exact ⟨a, s, by omega, es⟩
  · have := ((hI.2.2.2.2.2.1 v hv).1.2.2 w hw).1
    omega
  · exact (hI.2.2.2.2.2.1 v hv).1.2.1
end
/-! ===== the class's search: all moves of a state ===== -/
theorem asks_c {S S' : St} (h : SE S S') {N : Nat} (h16 : N ≤ 16) (ask : Int32) (sn : Nat → Int32) : asks' 0 N N S ask sn = asks' 0 N N S' ask sn := by
  unfold asks'
  apply List.filter_congr
  intro v hv
  have := List.mem_range'_1.mp hv
  rw [h.tma h16 (by omega), h.1 2 v (by omega) (by omega)]
theorem mv0_c {S S' : St} (h : SE S S') {N : Nat} (h16 : N ≤ 16) : mv0 N S = mv0 N S' := by
  have := h.sy.tmv h16 0 (sn := fun _ => 0) (sn' := fun _ => 0) (fun _ _ => rfl)
  rwa [mvl_0, mvl_0] at this
def CM (D : Nat → Prop) (X0 Y0 : Nat) (t : Int32) (N : Nat) (Q : Nat → Int32) (pb pt : List Row4) (A P most : Nat) (S0 : St) (ask : Int32) (sn : Nat → Int32) (M : Mem) (q : Bq) : Prop := ∃ S e dC d, SV X0 Y0 t N Q pb pt S M e dC ∧ GS N A P S0 S d ∧ SQ N ask sn most M e dC q ∧ Sep D M dC
section
variable {D : Nat → Prop} {X0 Y0 N : Nat} {t : Int32} {Q : Nat → Int32} {pb pt : List Row4} {A P most : Nat} {S0 : St} {ask : Int32} {sn : Nat → Int32}
/-- a state met, taken up -/
theorem CM.rc {M : Mem} {q : Bq} {i n : Nat} {p : St × Nat} (k : SK N A P most S0) (gq : GQ N A P most S0 q) (h : CM D X0 Y0 t N Q pb pt A P most S0 ask sn M q) (hp : q.1[i]? = some p) (hn : 9400 ≤ n) : ∃ M' S e dC, f_X6_recall n 114 (nI i) M = some M' ∧ SV X0 Y0 t N Q pb pt S M' e dC ∧ GS N A P S0 S p.2 ∧ SE S p.1 ∧ SQ N ask sn most M' e dC q ∧ Sep D M' dC ∧ FrS D M M' ∧ mI M' 114 15 = mI M 114 15 := by
  obtain ⟨h2, h16, h40, hA, hP, hN0, ht0, hQ⟩ := id k
  obtain ⟨S, e, dC, d, v, g, s, hs⟩ := h
  obtain ⟨dp, gp⟩ := gq.2.2 i p hp
  have hi := gl_lt hp
  have hl := gq.1
  have o1 := offs_s (N := N) hp
  have o2 := offs_mono (N := N) (l := q.1) (q.1.length - (i + 1)) (i + 1)
  rw [show i + 1 + (q.1.length - (i + 1)) = q.1.length by omega] at o2
  obtain ⟨M', S', e1, v', f, cc, se, g', _, _⟩ := v.recall (n := n) gp g (by omega) (Tok_of gp h16 (by omega) (by have := gp.fl k (by omega); omega)) (i := i) (by omega) (s.1.1 i (by omega)) (fun j x hx => (s.1.2 i p hp).1 j x hx) (by have := s.2.1; omega) hn
  exact ⟨M', S', e, dC, e1, v', g', se, s.up v f cc, (v.frs f hs).2, (v.frs f hs).1, f.2.2.2.2.1 15 (by decide)⟩
set_option maxHeartbeats 2000000 in
theorem ru_65 (k : SK N A P most S0) (hX : X0 ≤ 100000) (hY : Y0 ≤ 1000000) (hQc : ∀ v, v < N → qm N S0 v = Q v) (K : Nat → Int32 → Mem → Option Mem) {i : Nat} {p : St × Nat} (hi : i < most) : ∀ (d j n : Nat) (M : Mem) (q : Bq), j + d = (mvl N p.1 ask sn).length → q.1[i]? = some p → GQ N A P most S0 q → CM D X0 Y0 t N Q pb pt A P most S0 ask sn M q → d + 21000 ≤ n → ∃ M', f_X6_run_65 K n 114 (nI i) (nI (mv0 N p.1).length) ((asks' 0 N N p.1 ask sn).foldl (fun m g => bon m g) 0) (nI (mvl N p.1 ask sn).length) (nI j) M = K 114 (nI (i + 1)) M' ∧ GQ N A P most S0 (exl N most p.1 p.2 ((mvl N p.1 ask sn).drop j) q) ∧ CM D X0 Y0 t N Q pb pt A P most S0 ask sn M' (exl N most p.1 p.2 ((mvl N p.1 ask sn).drop j) q) ∧ FrS D M M' := by
  obtain ⟨h2, h16, h40, hA, hP, hN0, ht0, hQ⟩ := id k
  intro d
  induction d with
  | zero =>
    intro j n M q hj hp gq hM hn
    obtain ⟨n, rfl⟩ : ∃ m, n = m + 1 := ⟨n - 1, by omega⟩
    have hml := mvl_len (N := N) p.1 ask sn
    rw [List.drop_of_length_le (by omega)]
    refine ⟨M, ?_, gq, hM, FrS.rf D M⟩
    rw [f_X6_run_65, if_pos (nI_le (by omega) (by omega)), nI_1, bnd_e]
  | succ d ih =>
    intro j n M q hj hp gq hM hn
    obtain ⟨n, rfl⟩ : ∃ m, n = m + 1 := ⟨n - 1, by omega⟩
    have hml := mvl_len (N := N) p.1 ask sn
    have hjl : j < (mvl N p.1 ask sn).length := by omega
    obtain ⟨Sx, ex, dx, ddx, vx, gx, sx', _⟩ := id hM
    have i114 : isO M 6 114 := by obtain ⟨L, sx, _⟩ := vx; exact sx.1
    have h15 := sx'.2.2.2.2.2.2.2.2.2.2.1
    by_cases hb : q.2 = true
    · have hl := gq.2.1 hb
      rw [exl_full hb hl]
      refine ⟨M, ?_, gq, hM, FrS.rf D M⟩
      rw [f_X6_run_65, if_neg (nI_ge (by omega) (by omega)), chk_t i114, h15, if_pos hb, if_neg ne10, nI_1, bnd_e]
    · rw [if_neg hb] at h15
      obtain ⟨M1, S, e, dC, e1, v1, g1, se, s1, hs1, f1, _⟩ := hM.rc k gq hp (n := n) (by omega)
      obtain ⟨dp, gp⟩ := gq.2.2 i p hp
      have hil := gl_lt hp
      have hl40 := gq.1
      have hmv : mvl N S ask sn = mvl N p.1 ask sn := se.sy.tmv h16 ask (fun _ _ => rfl)
      generalize hcc : (mvl N p.1 ask sn)[j] = c
      have hcj : (mvl N S ask sn)[j]? = some c := by rw [hmv, ← hcc]; exact List.getElem?_eq_getElem hjl
      have hcm : c ∈ mvl N p.1 ask sn := by rw [← hcc]; exact List.getElem_mem hjl
      have ok := mvl_ok gp.1 h16 hcm
      have ok2 := mvl_ok g1.1 h16 (by rw [hmv]; exact hcm : c ∈ mvl N S ask sn)
      have g3 := g1.mv h2 h16 (by omega) hQ ok2 t
      have gm := gp.mv h2 h16 (by omega) hQ ok 0
      have sm : SE (dm t N c S) (dm 0 N c p.1) := se.tdm g1.1 h16 (by
        rcases ok2 with z | z | z
        · exact Or.inl z
        · exact Or.inr (Or.inl ⟨z.1, z.2.1, z.2.2.1⟩)
        · exact Or.inr (Or.inr ⟨z.1, z.2.1⟩))
      have hfl := g1.fl k (by omega)
      have qS : ∀ v, v < N → qm N S v = Q v := fun v hv => by rw [g1.2.2.1.m]; exact hQc v hv
      have e0 : mv0 N S = mv0 N p.1 := mv0_c se h16
      have ea : asks' 0 N N S ask sn = asks' 0 N N p.1 ask sn := asks_c se h16 ask sn
      have emv : mvl N S ask sn = mv0 N S ++ (asks' 0 N N S ask sn).map (fun v => 272 + v) := rfl
      have hl0 : (mv0 N p.1).length ≤ (mvl N p.1 ask sn).length := by
        rw [show mvl N p.1 ask sn = mv0 N p.1 ++ (asks' 0 N N p.1 ask sn).map (fun v => 272 + v) from rfl, List.length_append]
        omega
      obtain ⟨L1, x1, c1, p1⟩ := id v1
      have q1 := p1.1
      have mvd : ∃ M2, f_X6_run_65 K (n + 1) 114 (nI i) (nI (mv0 N p.1).length) ((asks' 0 N N p.1 ask sn).foldl (fun m g => bon m g) 0) (nI (mvl N p.1 ask sn).length) (nI j) M = f_X6_run_121 K (f_X6_run_65 K n) n 114 (nI i) (nI (mv0 N p.1).length) ((asks' 0 N N p.1 ask sn).foldl (fun m g => bon m g) 0) (nI (mvl N p.1 ask sn).length) (nI j) M2 ∧ SV X0 Y0 t N Q pb pt (dm t N c S) M2 e dC ∧ FrUp M1 M2 ∧ ∀ b, mI M2 dC b = mI M1 dC b := by
        by_cases w : j < (mv0 N p.1).length
        · rw [emv, List.getElem?_append_left (by rw [e0]; exact w)] at hcj
          obtain ⟨M2, e2, v2, f2, c2⟩ := v1.go (F := f_X2_makeMove n 63 (nI j)) (S' := dm t N c S) (fun X Y p => p.mk g1.1 (by omega) h2 h16 hfl (by omega) hcj (by omega))
          refine ⟨M2, ?_, v2, f2, c2⟩
          rw [f_X6_run_65, if_neg (nI_ge (by omega) (by omega)), chk_t i114, h15, if_pos rfl, e1, obd_s, if_neg (nI_ge w (by omega)), chk_t x1.1, x1.2.1.1, bnd_e, cs_f q1, e2, obd_s]
        · rw [emv, List.getElem?_append_right (by rw [e0]; omega), List.getElem?_map, e0, ea] at hcj
          cases hv : (asks' 0 N N p.1 ask sn)[j - (mv0 N p.1).length]? with
          | none => rw [hv] at hcj; cases hcj
          | some v =>
            rw [hv] at hcj
            have hc : c = 272 + v := (Option.some.inj hcj).symm
            obtain ⟨v0, vz⟩ : v < N ∧ xR S 0 v = 0 := by
              rcases ok2 with z | z | z
              · omega
              · omega
              · have := z.2.2
                rw [hc, Nat.add_sub_cancel_left] at this
                exact ⟨by have := z.2.1; omega, this.1⟩
            have ed : dm t N c S = ak t N v S := by
              unfold dm
              rw [hc, if_neg (by omega), if_neg (by omega), Nat.add_sub_cancel_left]
            obtain ⟨M2, e2, v2, f2, c2⟩ := v1.go (F := f_X2_startAsking n 63 (nI v)) (S' := ak t N v S) (fun X Y p => p.tak h16 v0 (by rw [vz]; decide) (qS v v0) hfl (by omega))
            refine ⟨M2, ?_, by rw [ed]; exact v2, f2, c2⟩
            have em := f_member (x := (asks' 0 N N p.1 ask sn).foldl (fun m g => bon m g) 0) (i := j - (mv0 N p.1).length) (v := v) (n := n) M1 (by omega) (by rw [ms_asks h16]; exact hv)
            rw [f_X6_run_65, if_neg (nI_ge (by omega) (by omega)), chk_t i114, h15, if_pos rfl, e1, obd_s, if_pos (nI_le (by omega) (by omega)), chk_t x1.1, x1.2.1.1, bnd_e, cs_f q1, nI_sb (by omega), em, obd_s, e2, obd_s]
      obtain ⟨M2, E2, v2, f2, c2⟩ := mvd
      have s2 := s1.up v1 f2 c2
      obtain ⟨M3, e3', d3, e3, v3, s3, f3⟩ := v2.meet hX hY h16 (A := A) (P := P) (most := most) (dd := p.2 + 1) (S0 := S0) (Sm := dm 0 N c p.1) (q := q) (n := n) (by omega) h40 (by omega) (fun v hv => by rw [g3.2.2.1.m]; exact hQc v hv) gq g3 (by omega) sm s2 (by omega)
      have h2' := v1.frs f2 hs1
      have h3' := v2.frq f3 h2'.2
      obtain ⟨M', e', gq', hM', f'⟩ := ih (j + 1) n M3 (met1 most q (dm 0 N c p.1) (p.2 + 1)) (by omega) (met1_pre hp) (gq.m hil (by omega) gm) ⟨_, _, _, _, v3, g3, s3, h3'.2⟩ (by omega)
      have ed : (mvl N p.1 ask sn).drop j = c :: (mvl N p.1 ask sn).drop (j + 1) := by rw [List.drop_eq_getElem_cons hjl, hcc]
      rw [ed, exl_c]
      obtain ⟨L2, x2, _, _⟩ := id v2
      refine ⟨M', ?_, gq', hM', f1.tr (h2'.1.tr (h3'.1.tr f'))⟩
      have l16 : mLn M2 116 = 40 := x2.2.2.2.1.2.1
      rw [E2, f_X6_run_121, chk_t x2.1, x2.2.1.2.2.1, bnd_e, chk_t x2.2.2.1.2.1, l16, chk_t (inB_n (show i < 40 by omega) (by decide)), mI_c (by omega), (s2.1.2 i p hp).2, nI_1, e3, obd_s, nI_1, bnd_e]
      exact e'
end
/-! ===== the class's search: all states ===== -/
theorem pcx_ms {x : Int32} (h : ∀ i, 16 ≤ i → i < 32 → bt x i = false) : pc x = (ms x).length := by
  unfold pc ms
  have e : List.range 32 = List.range 16 ++ List.range' 16 16 := by decide
  rw [e, List.filter_append]
  have z : (List.range' 16 16).filter (fun i => bt x i) = [] := by
    rw [List.filter_eq_nil_iff]
    intro i hi
    have := List.mem_range'_1.mp hi
    rw [h i (by omega) (by omega)]
    decide
  rw [z, List.append_nil]
theorem exl_ge (N most : Nat) (S : St) (d : Nat) : ∀ (cs : List Nat) (q : Bq), q.1.length ≤ (exl N most S d cs q).1.length := by
  intro cs
  induction cs with
  | nil => intro q; exact Nat.le_refl _
  | cons c cs ih =>
    intro q
    rw [exl_c]
    exact Nat.le_trans (met1_le _ _ _ _) (ih _)
section
variable {D : Nat → Prop} {X0 Y0 N : Nat} {t : Int32} {Q : Nat → Int32} {pb pt : List Row4} {A P most : Nat} {S0 : St} {ask : Int32} {sn : Nat → Int32}
set_option maxHeartbeats 1000000 in
theorem ru_15 (k : SK N A P most S0) (hX : X0 ≤ 100000) (hY : Y0 ≤ 1000000) (hQc : ∀ v, v < N → qm N S0 v = Q v) : ∀ (d i m n : Nat) (M : Mem) (q : Bq), i + d = most → d + 1 ≤ m → i ≤ q.1.length → GQ N A P most S0 q → CM D X0 Y0 t N Q pb pt A P most S0 ask sn M q → d + 21400 ≤ n → ∃ M', f_X6_run_15 n 114 (nI i) M = some M' ∧ GQ N A P most S0 (bfs N most ask sn m i q) ∧ CM D X0 Y0 t N Q pb pt A P most S0 ask sn M' (bfs N most ask sn m i q) ∧ FrS D M M' := by
  obtain ⟨h2, h16, h40, hA, hP, hN0, ht0, hQ⟩ := id k
  have stop : ∀ (i m n : Nat) (M : Mem) (q : Bq), i = q.1.length → GQ N A P most S0 q → CM D X0 Y0 t N Q pb pt A P most S0 ask sn M q → 1 ≤ m → 1 ≤ n → ∃ M', f_X6_run_15 n 114 (nI i) M = some M' ∧ GQ N A P most S0 (bfs N most ask sn m i q) ∧ CM D X0 Y0 t N Q pb pt A P most S0 ask sn M' (bfs N most ask sn m i q) ∧ FrS D M M' := by
    intro i m n M q hi gq hM hm hn
    obtain ⟨n, rfl⟩ : ∃ j, n = j + 1 := ⟨n - 1, by omega⟩
    obtain ⟨m, rfl⟩ : ∃ j, m = j + 1 := ⟨m - 1, by omega⟩
    have eb : bfs N most ask sn (m + 1) i q = q := by
      unfold bfs
      rw [List.getElem?_eq_none (by omega)]
    rw [eb]
    obtain ⟨Sx, ex, dx, ddx, vx, gx, s, _⟩ := id hM
    have i114 : isO M 6 114 := by obtain ⟨L, sx, _⟩ := vx; exact sx.1
    refine ⟨M, ?_, gq, hM, FrS.rf D M⟩
    rw [f_X6_run_15, chk_t i114, s.2.2.1, if_pos (by rw [hi]; exact Int32.le_refl _)]
  intro d
  induction d with
  | zero =>
    intro i m n M q hi hm hil gq hM hn
    exact stop i m n M q (by have := gq.1; omega) gq hM (by omega) (by omega)
  | succ d ih =>
    intro i m n M q hi hm hil gq hM hn
    by_cases c : i = q.1.length
    · exact stop i m n M q c gq hM (by omega) (by omega)
    · obtain ⟨n, rfl⟩ : ∃ j, n = j + 1 := ⟨n - 1, by omega⟩
      obtain ⟨m, rfl⟩ : ∃ j, m = j + 1 := ⟨m - 1, by omega⟩
      have hlt : i < q.1.length := by omega
      have hl := gq.1
      obtain ⟨p, hp⟩ : ∃ p, q.1[i]? = some p := ⟨_, List.getElem?_eq_getElem hlt⟩
      obtain ⟨Sx, ex, dx, ddx, vx, gx, s, _⟩ := id hM
      have i114 : isO M 6 114 := by obtain ⟨L, sx, _⟩ := vx; exact sx.1
      have h15 := s.2.2.2.2.2.2.2.2.2.2.1
      have h10 := s.2.2.1
      by_cases hb : q.2 = true
      · have hl2 := gq.2.1 hb
        rw [bfs_full hb hl2]
        refine ⟨M, ?_, gq, hM, FrS.rf D M⟩
        rw [f_X6_run_15, chk_t i114, h10, if_neg (nI_ge hlt (by omega)), h15, if_pos hb, if_neg ne10]
      · rw [if_neg hb] at h15
        obtain ⟨M1, S, e, dC, e1, v1, g1, se, s1, hs1, f1, _⟩ := hM.rc k gq hp (n := n) (by omega)
        have qS : ∀ v, v < N → qm N S v = Q v := fun v hv => by rw [g1.2.2.1.m]; exact hQc v hv
        have e0 : mv0 N S = mv0 N p.1 := mv0_c se h16
        have ea : asks' 0 N N S ask sn = asks' 0 N N p.1 ask sn := asks_c se h16 ask sn
        have an := v1.asks (n := n) (ask := ask) (sn := sn) g1.1.1 h16 qS s1.2.2.2.2.1 s1.2.2.2.2.2.1 (by omega)
        obtain ⟨L1, x1, c1, p1⟩ := id v1
        have q1 := p1.1
        have cm := p1.cm (n := n) g1.1 h16 (by omega)
        have b16 : ∀ i, 16 ≤ i → i < 32 → bt ((asks' 0 N N p.1 ask sn).foldl (fun m g => bon m g) 0) i = false := fun i a b => by
          rw [fn_b _ _ _ b (fun w hw => by have := asks_m (i := 0) (d := N) (by omega) hw; omega), b_0, Bool.false_or]
          exact decide_eq_false (fun z => by have := asks_m (i := 0) (d := N) (by omega) z; omega)
        have bc := f_bcx b16 M1
        rw [pcx_ms b16, ms_asks h16] at bc
        have el : (mv0 N p.1).length + (asks' 0 N N p.1 ask sn).length = (mvl N p.1 ask sn).length := by
          rw [show mvl N p.1 ask sn = mv0 N p.1 ++ (asks' 0 N N p.1 ask sn).map (fun v => 272 + v) from rfl, List.length_append, List.length_map]
        have hml := mvl_len (N := N) p.1 ask sn
        obtain ⟨M2, e2, gq2, hM2, f2⟩ := ru_65 k hX hY hQc (f_X6_run_15 n) (i := i) (p := p) (by omega) (mvl N p.1 ask sn).length 0 n M1 q (by omega) hp gq ⟨_, _, _, _, v1, g1, s1, hs1⟩ (by omega)
        rw [List.drop_zero] at gq2 hM2
        have hle : q.1.length ≤ (exl N most p.1 p.2 (mvl N p.1 ask sn) q).1.length := exl_ge _ _ _ _ _ _
        obtain ⟨M3, e3, gq3, hM3, f3⟩ := ih (i + 1) m n M2 _ (by omega) (by omega) (by omega) gq2 hM2 (by omega)
        have eb : bfs N most ask sn (m + 1) i q = bfs N most ask sn m (i + 1) (exl N most p.1 p.2 (mvl N p.1 ask sn) q) := by
          rw [bfs, hp]
        rw [eb]
        refine ⟨M3, ?_, gq3, hM3, f1.tr (f2.tr f3)⟩
        rw [f_X6_run_15, chk_t i114, h10, if_neg (nI_ge hlt (by omega)), h15, if_pos rfl, e1, obd_s, chk_t x1.1, x1.2.1.1, bnd_e, cs_f q1, cm, obd_s, an, obd_s, ea, bc, obd_s, e0, nI_add, bnd_e, el]
        exact e2.trans e3
end
/-! ===== the class's search, from its start on ===== -/
theorem bg_l {v2 v3 : Int32} : ∀ (d v n : Nat) (M : Mem), v + d = 16 → SX M → CS M 14 → d + 1 ≤ n → ∃ M', f_X6_begin_11 n 114 14 v2 v3 (nI v) M = some M' ∧ M'.1 = M.1 ∧ (∀ j, v ≤ j → j < 16 → mI M' 118 j = mI M (14 + 17 + 2 * j) 1) ∧ (∀ j, j < v → mI M' 118 j = mI M 118 j) ∧ (∀ o, o ≠ 118 → o ≠ 114 → ∀ b, mI M' o b = mI M o b) ∧ (∀ b, b < 8 → mI M' 114 b = mI M 114 b) ∧ mI M' 114 9 = v2 ∧ mI M' 114 8 = (if (40 : Int32) < v3 then (40 : Int32) else v3) ∧ (∀ b, 10 ≤ b → b ≤ 15 → mI M' 114 b = 0) ∧ ∀ o b, mL M' o b = mL M o b := by
  intro d
  induction d with
  | zero =>
    intro v n M hv sx q hn
    obtain ⟨n, rfl⟩ : ∃ m, n = m + 1 := ⟨n - 1, by omega⟩
    refine ⟨sI (sI (sI (sI (sI (sI (sI (sI M 114 9 v2) 114 8 (if (40 : Int32) < v3 then (40 : Int32) else v3)) 114 10 0) 114 11 0) 114 12 0) 114 13 0) 114 14 0) 114 15 0, ?_, rfl, fun j a b => by omega, fun j hj => ?_, fun o n1 n2 b => ?_, fun b hb => ?_, ?_, ?_, fun b b1 b2 => ?_, fun _ _ => rfl⟩
    · rw [f_X6_begin_11, if_pos (show (16 : Int32) ≤ nI v from nI_le (a := 16) (by omega) (by omega)), chk_t sx.1, bnd_e, bnd_e, bnd_e, bnd_e, bnd_e, bnd_e, bnd_e, chk_t (show bz (0 : Int32) by decide), bnd_e]
    · rw [mI_o _ _ _ _ _ (by decide), mI_o _ _ _ _ _ (by decide), mI_o _ _ _ _ _ (by decide), mI_o _ _ _ _ _ (by decide), mI_o _ _ _ _ _ (by decide), mI_o _ _ _ _ _ (by decide), mI_o _ _ _ _ _ (by decide), mI_o _ _ _ _ _ (by decide)]
    · rw [mI_o _ _ _ _ _ n2, mI_o _ _ _ _ _ n2, mI_o _ _ _ _ _ n2, mI_o _ _ _ _ _ n2, mI_o _ _ _ _ _ n2, mI_o _ _ _ _ _ n2, mI_o _ _ _ _ _ n2, mI_o _ _ _ _ _ n2]
    · rw [mI_n _ _ _ _ (by omega), mI_n _ _ _ _ (by omega), mI_n _ _ _ _ (by omega), mI_n _ _ _ _ (by omega), mI_n _ _ _ _ (by omega), mI_n _ _ _ _ (by omega), mI_n _ _ _ _ (by omega), mI_n _ _ _ _ (by omega)]
    · rw [mI_n _ _ _ _ (by decide), mI_n _ _ _ _ (by decide), mI_n _ _ _ _ (by decide), mI_n _ _ _ _ (by decide), mI_n _ _ _ _ (by decide), mI_n _ _ _ _ (by decide), mI_n _ _ _ _ (by decide), mI_s]
    · rw [mI_n _ _ _ _ (by decide), mI_n _ _ _ _ (by decide), mI_n _ _ _ _ (by decide), mI_n _ _ _ _ (by decide), mI_n _ _ _ _ (by decide), mI_n _ _ _ _ (by decide), mI_s]
    · rcases (show b = 10 ∨ b = 11 ∨ b = 12 ∨ b = 13 ∨ b = 14 ∨ b = 15 by omega) with rfl | rfl | rfl | rfl | rfl | rfl
      · rw [mI_n _ _ _ _ (by decide), mI_n _ _ _ _ (by decide), mI_n _ _ _ _ (by decide), mI_n _ _ _ _ (by decide), mI_n _ _ _ _ (by decide), mI_s]
      · rw [mI_n _ _ _ _ (by decide), mI_n _ _ _ _ (by decide), mI_n _ _ _ _ (by decide), mI_n _ _ _ _ (by decide), mI_s]
      · rw [mI_n _ _ _ _ (by decide), mI_n _ _ _ _ (by decide), mI_n _ _ _ _ (by decide), mI_s]
      · rw [mI_n _ _ _ _ (by decide), mI_n _ _ _ _ (by decide), mI_s]
      · rw [mI_n _ _ _ _ (by decide), mI_s]
      · rw [mI_s]
  | succ d ih =>
    intro v n M hv sx q hn
    obtain ⟨n, rfl⟩ : ∃ m, n = m + 1 := ⟨n - 1, by omega⟩
    have v16 : v < 16 := by omega
    have i18 : ∀ x : Option Mem, chk (inB (nI v) (mLn M 118)) x = x := fun x => by
      refine chk_t ?_
      rw [sx.2.2.2.1.2.2.2]; exact inB_n v16 (by decide)
    obtain ⟨M', e, s, a1, a2, a3, a4, a5, a6, a7, a8⟩ := ih (v + 1) n (sI M 118 v (mI M (14 + 17 + 2 * v) 1)) (by omega) (sx.e rfl) (q.e rfl) (by omega)
    refine ⟨M', ?_, s, fun j h1 h2 => ?_, fun j hj => ?_, fun o n1 n2 b => ?_, fun b hb => ?_, a5, a6, a7, fun o b => a8 o b⟩
    · rw [f_X6_begin_11, if_neg (show ¬ (16 : Int32) ≤ nI v from nI_ge (a := v) (b := 16) (by omega) (by decide)), chk_t sx.1, sx.2.1.2.2.2.2, bnd_e, chk_t sx.2.2.1.2.2.2, cs_f q, cs_h2 q, bnd_e, cs_a10 q, cs_i10 q v16, cs_rpc q v16, bnd_e, cs_po q v16, i18, sI_c (by omega), bnd_e, nI_1, bnd_e]
      exact e
    · by_cases z : j = v
      · rw [a2 j (by omega), z, mI_s]
      · rw [a1 j (by omega) h2, mI_o _ _ _ _ _ (by omega)]
    · rw [a2 j (by omega), mI_n _ _ _ _ (by omega)]
    · rw [a3 o n1 n2, mI_o _ _ _ _ _ n1]
    · rw [a4 b hb, mI_o _ _ _ _ _ (by decide)]
/-- the search, as it lies before it begins -/
def SR (M : Mem) (X0 Y0 : Nat) (pb pt : List Row4) : Prop := ∃ L e dC, SX M ∧ CL M dC L e ∧ TR M 63 (X0 + L / 16) (Y0 + 2 * L) pb pt ∧ mI M 115 0 = 0
section
variable {D : Nat → Prop} {X0 Y0 N : Nat} {t : Int32} {Q : Nat → Int32} {pb pt pb' pt' : List Row4} {A P most : Nat} {S0 : St} {ask : Int32}
set_option maxHeartbeats 2000000 in
theorem run_w {M : Mem} {X Y n : Nat} (p : HV M 14 X Y t N Q S0 pb' pt') (r : SR M X0 Y0 pb pt) (k : SK N A P most S0) (h1 : 1 ≤ most) (g : GS N A P S0 S0 0) (hX : X0 ≤ 100000) (hY : Y0 ≤ 1000000) (hQc : ∀ v, v < N → qm N S0 v = Q v) (hD : ∀ i j, 5 ≤ i → i ≤ 7 → 5 ≤ j → j ≤ 7 → mR M 64 i ≠ mR M 15 j) (hs : Sep D M (mR M 114 5)) (hn : 30000 ≤ n) : ∃ M', f_X6_run n 114 14 ask (nI most) M = some M' ∧ GQ N A P most S0 (bfq N most ask S0) ∧ CM D X0 Y0 t N Q pb pt A P most S0 ask (fun v => xR S0 2 v) M' (bfq N most ask S0) ∧ FrS D M M' := by
  obtain ⟨h2, h16, h40, hA, hP, hN0, ht0, hQ⟩ := id k
  obtain ⟨L, e, dC, sx, c, tr, z0⟩ := r
  have hN := sx.2.2.2.2
  have hI := g.1
  have r57 : ∀ i, 5 ≤ i → i ≤ 7 → mR M 64 i = 63 + 2 + i ∨ 131 ≤ mR M 64 i := by
    obtain ⟨_, ⟨e5, e6, e7, len, ds, _⟩, _⟩ := tr
    obtain ⟨⟨y5, y6, y7⟩, _, _, x5, x6, x7, _⟩ := ds
    have y5' : mR M 64 5 = e5 := y5
    have y6' : mR M 64 6 = e6 := y6
    have y7' : mR M 64 7 = e7 := y7
    intro i a b
    rcases (show i = 5 ∨ i = 6 ∨ i = 7 by omega) with rfl | rfl | rfl
    · rw [y5']; exact x5
    · rw [y6']; exact x6
    · rw [y7']; exact x7
  obtain ⟨M1, e1, p1, fh⟩ := p.copy tr (by omega) h16 hD (fun v hv => (hI.1 v hv).2.2.2) (fun v hv w hw => by have := ((hI.2.2.2.2.2.1 v hv).1.2.2 w hw).1; omega) (n := n) (by omega)
  have f1 := fh.up hN r57
  have sx1 := sx.up f1
  obtain ⟨c1, _⟩ := c.up hN f1
  have hs0 : Sep D M dC := by rw [← c.1]; exact hs
  obtain ⟨s1, hs1⟩ := f1.s hN r57 hs0
  have q := p.1
  have q14 : CS M1 14 := by
    refine ⟨fun i hi hn => ?_, fun z hz => ?_, ?_, ⟨by have := s1.1; omega, ?_⟩, q.2.2.2.2.1, q.2.2.2.2.2.1, by have := s1.1; omega⟩
    · rw [s1.2.1 (14 + i) (by omega)]; exact q.1 i hi hn
    · have hb : ∀ z, z ∈ tH → z.1 < 49 := by decide
      have := hb z hz
      rw [s1.2.2.1 (14 + z.1) z.2.1 (by omega) (by omega) (by omega)]; exact q.2.1 z hz
    · rw [s1.2.2.1 14 0 (by omega) (by decide) (by decide)]; exact q.2.2.1
    · rw [mC, s1.2.1 1 (by omega)]; exact q.2.2.2.1.2
  have r5 := r57 5 (by decide) (by decide)
  have r6 := r57 6 (by decide) (by decide)
  have r7 := r57 7 (by decide) (by decide)
  obtain ⟨M2, e2, s2, a1, a2, a3, a4, a5, a6, a7, a8⟩ := bg_l (v2 := ask) (v3 := nI most) 16 0 n M1 rfl sx1 q14 (by omega)
  have v2 : SV X0 Y0 t N Q pb pt (clr S0) M2 e dC := (show SV X0 Y0 t N Q pb pt (clr S0) M1 e dC from ⟨L, sx1, c1, p1⟩).at5 s2 (fun o n b => a3 o (by omega) (by omega) b) (a4 6 (by decide))
  have s12 : FrS D M1 M2 := by
    refine ⟨by unfold mN; rw [s2]; exact Nat.le_refl _, fun o _ => by rw [s2], fun o b _ _ _ => by unfold mR; rw [s2], fun o h b => ?_, fun o _ b => a8 o b⟩
    have : ¬ (114 ≤ o ∧ o ≤ 118) := h.elim (fun z => by omega) (fun z => (hs1 o z).2.2.1)
    exact a3 o (by omega) (by omega) b
  have hs2 : Sep D M2 dC := by
    have e1 : mN M2 = mN M1 := by unfold mN; rw [s2]
    have e2 : ∀ i, mR M2 64 i = mR M1 64 i := fun i => by unfold mR; rw [s2]
    intro o ho
    obtain ⟨y1, y2, y3, y4, y5⟩ := hs1 o ho
    exact ⟨by omega, y2, y3, y4, fun i a b => by rw [e2]; exact y5 i a b⟩
  have kz : Qk S0 (clr S0) := fun _ _ _ => rfl
  have gz : GS N A P S0 (clr S0) 0 := by
    have sey : SE S0 (clr S0) := ⟨fun _ _ _ _ => rfl, fun _ _ => rfl, fun _ _ => rfl⟩
    exact ⟨g.1.reg ⟨rfl, fun _ _ _ _ => rfl⟩ rfl, ⟨sey.tix h16 g.2.1.1, g.2.1.2.1.k kz, by rw [← sey.tPhS]; exact g.2.1.2.2⟩, kz, fun _ _ _ _ => rfl⟩
  have sez : SE (clr S0) S0 := ⟨fun _ _ _ _ => rfl, fun _ _ => rfl, fun _ _ => rfl⟩
  have sq : SQ N ask (fun v => xR S0 2 v) most M2 e dC (([], false) : Bq) := by
    refine ⟨⟨fun i hi => ?_, fun i p hp => by cases i <;> cases hp⟩, Nat.zero_le _, a7 10 (by decide) (by decide), ?_, a5, fun v hv => ?_, a7 11 (by decide) (by decide), a7 12 (by decide) (by decide), a7 13 (by decide) (by decide), a7 14 (by decide) (by decide), a7 15 (by decide) (by decide), fun i p hp => by cases i <;> cases hp⟩
    · have hi0 : i = 0 := Nat.le_zero.mp hi
      rw [hi0, a3 115 (by decide) (by decide), f1.2.2.2.1 115 (by omega) (by decide) (by decide) (by omega) (by omega) (by omega) 0, z0]
      rfl
    · rw [a6, if_neg (show ¬ (40 : Int32) < nI most from nI_nl (a := 40) h40 (by decide))]
    · rw [a1 v (Nat.zero_le _) (by omega), s1.2.2.2.1 _ (Or.inl ⟨by omega, by omega, by omega⟩)]
      exact (p.2.2.1.1 v (by omega)).1 (1, 2) (by decide)
  obtain ⟨M3, e3', d3, e3, v3, s3, f3⟩ := v2.meet hX hY h16 (A := A) (P := P) (most := most) (dd := 0) (S0 := S0) (Sm := S0) (q := (([], false) : Bq)) (n := n) (by omega) h40 (by omega) (fun v hv => by rw [kz.m]; exact hQc v hv) ⟨Nat.zero_le _, fun z => absurd z (by decide), fun i p hp => by cases i <;> cases hp⟩ gz (by decide) sez sq (by omega)
  have f3' := v2.frq f3 hs2
  have em : met1 most (([], false) : Bq) S0 0 = ([(S0, 0)], false) := by
    unfold met1
    rw [if_neg (by rw [knw_t]; rintro ⟨q, hq, _⟩; cases hq), if_pos (show ([] : List (St × Nat)).length < most from h1)]
    rfl
  rw [em] at s3
  have gq : GQ N A P most S0 (([(S0, 0)], false) : Bq) := by
    refine ⟨h1, fun z => Bool.noConfusion (show false = true from z), fun i p hp => ?_⟩
    cases i with
    | zero =>
      have : p = (S0, 0) := (Option.some.inj hp).symm
      rw [this]
      exact ⟨Nat.le_refl _, g⟩
    | succ i => cases i <;> cases hp
  obtain ⟨M4, e4, g4, c4, f4⟩ := ru_15 k hX hY hQc most 0 (most + 1) n M3 (([(S0, 0)], false) : Bq) (by omega) (by omega) (Nat.zero_le _) gq ⟨_, _, _, _, v3, gz, s3, f3'.2⟩ (by omega)
  obtain ⟨L2, x2, _, _⟩ := id v2
  refine ⟨M4, ?_, g4, c4, s1.tr (s12.tr (f3'.1.tr f4))⟩
  have eb : f_X6_begin n 114 14 ask (nI most) M = some M2 := by
    rw [f_X6_begin, chk_t sx.1, sx.2.1.1, bnd_e, cs_f tr.1, e1, obd_s]
    exact e2
  rw [f_X6_run, chk_t sx.1, eb, obd_s, chk_t x2.1, show f_X6_meet n 114 0 M2 = some M3 from e3, obd_s]
  exact e4
end
/-! ===== what the class's search tells ===== -/
def Dn (l : List (St × Nat)) : Prop := l.Pairwise fun p r => p.2 ≤ r.2
theorem met1_dn {most d : Nat} {q : Bq} {S : St} (h : Dn q.1) (hd : ∀ r, r ∈ q.1 → r.2 ≤ d) : Dn (met1 most q S d).1 ∧ ∀ r, r ∈ (met1 most q S d).1 → r.2 ≤ d := by
  unfold met1
  by_cases c : knw q.1 S = true
  · rw [if_pos c]; exact ⟨h, hd⟩
  · rw [if_neg c]
    by_cases z : q.1.length < most
    · rw [if_pos z]
      refine ⟨?_, fun r hr => ?_⟩
      · show (q.1 ++ [(S, d)]).Pairwise _
        rw [List.pairwise_append]
        refine ⟨h, by simp, fun a ha b hb => ?_⟩
        rw [List.mem_singleton] at hb
        rw [hb]; exact hd a ha
      · rcases List.mem_append.mp hr with x | x
        · exact hd r x
        · rw [List.mem_singleton] at x
          rw [x]; exact Nat.le_refl _
    · rw [if_neg z]; exact ⟨h, hd⟩
theorem exl_dn {N most d : Nat} {S : St} : ∀ (cs : List Nat) (q : Bq), Dn q.1 → (∀ r, r ∈ q.1 → r.2 ≤ d + 1) → Dn (exl N most S d cs q).1 ∧ ∀ r, r ∈ (exl N most S d cs q).1 → r.2 ≤ d + 1 := by
  intro cs
  induction cs with
  | nil => intro q h hd; exact ⟨h, hd⟩
  | cons c cs ih =>
    intro q h hd
    rw [exl_c]
    obtain ⟨a, b⟩ := met1_dn (most := most) (S := dm 0 N c S) h hd
    exact ih _ a b
theorem Dn.ge {l : List (St × Nat)} (h : Dn l) {i j : Nat} {p r : St × Nat} (hij : i < j) (hp : l[i]? = some p) (hr : l[j]? = some r) : p.2 ≤ r.2 := by
  have hi := gl_lt hp
  have hj := gl_lt hr
  rw [List.getElem?_eq_getElem hi] at hp
  rw [List.getElem?_eq_getElem hj] at hr
  have := List.pairwise_iff_getElem.mp h i j hi hj hij
  rw [Option.some.inj hp, Option.some.inj hr] at this
  exact this
theorem bfs_dn {N most : Nat} {ask : Int32} {sn : Nat → Int32} : ∀ (n i : Nat) (q : Bq), Dn q.1 → (∀ p, q.1[i]? = some p → ∀ r, r ∈ q.1 → r.2 ≤ p.2 + 1) → Dn (bfs N most ask sn n i q).1 := by
  intro n
  induction n with
  | zero => intro i q h _; exact h
  | succ n ih =>
    intro i q h hd
    unfold bfs
    cases e : q.1[i]? with
    | none => exact h
    | some p =>
      obtain ⟨a, b⟩ := exl_dn (N := N) (most := most) (S := p.1) (d := p.2) (mvl N p.1 ask sn) q h (hd p e)
      refine ih (i + 1) _ a (fun r hr s hs => ?_)
      have := b s hs
      have := a.ge (show i < i + 1 by omega) (exl_pre (N := N) (most := most) (S := p.1) (d := p.2) (mvl N p.1 ask sn) q e).1 hr
      omega
theorem bfq_dn (N most : Nat) (ask : Int32) (S0 : St) : Dn (bfq N most ask S0).1 := by
  unfold bfq
  refine bfs_dn _ _ _ (by unfold Dn; simp) (fun p hp r hr => ?_)
  have : r = (S0, 0) := by simpa using hr
  rw [this]; exact Nat.zero_le _
theorem cDp_last {l : List (St × Nat)} (h : Dn l) : nI (cDp l) = (match l[l.length - 1]? with
    | none => 0
    | some p => nI p.2) := by
  rcases List.eq_nil_or_concat l with e | ⟨l', p, e⟩
  · rw [e]; rfl
  · rw [List.concat_eq_append] at e
    subst e
    have h' := List.pairwise_append.mp h
    have a : (l' ++ [p])[(l' ++ [p]).length - 1]? = some p := by
      rw [List.length_append, show l'.length + [p].length - 1 = l'.length from rfl, List.getElem?_append_right (Nat.le_refl _), Nat.sub_self]
      rfl
    rw [a, cDp_s, Nat.max_eq_right (cDp_le (fun r hr => h'.2.2 r hr p (by simp)))]
theorem cSon_k (v : Nat) : ∀ (l : List (St × Nat)) (x : Int32), x ≠ -1 → l.foldl (fun x p => if x = -1 then (if xR p.1 0 v = 2 then nI p.2 else -1) else x) x = x := by
  intro l
  induction l with
  | nil => intro x _; rfl
  | cons p l ih => intro x hx; rw [List.foldl_cons, if_neg hx]; exact ih x hx
theorem cSon_c (v : Nat) (l : List (St × Nat)) (p : St × Nat) (h : p.2 < 256) : cSon v (p :: l) = if xR p.1 0 v = 2 then nI p.2 else cSon v l := by
  unfold cSon
  rw [List.foldl_cons, if_pos rfl]
  by_cases c : xR p.1 0 v = 2
  · rw [if_pos c, if_pos c]
    exact cSon_k v l _ (fun z => m1_ne' _ h z.symm)
  · rw [if_neg c, if_neg c]
section
variable {D : Nat → Prop} {X0 Y0 N : Nat} {t : Int32} {Q : Nat → Int32} {pb pt : List Row4} {A P most : Nat} {S0 : St} {ask : Int32} {sn : Nat → Int32} {M : Mem}
theorem f_tellE {q : Bq} (hM : CM D X0 Y0 t N Q pb pt A P most S0 ask sn M q) (h : Dn q.1) {w : Nat} (hw : w < 6) : f_X6_tell 114 (nI w) M = some (cSe N ask sn q w) := by
  obtain ⟨S, e, dC, d, v, g, s, _⟩ := hM
  have i114 : isO M 6 114 := by obtain ⟨L, sx, _⟩ := v; exact sx.1
  obtain ⟨s1, s2, s3, s4, s5, s6, s7, s8, s9, s10, s11, s12⟩ := s
  have n4 : ∀ b : Bool, (if (if b then (1 : Int32) else 0) = 0 then some (1 : Int32) else some 0) = some (if b then 0 else 1) := fun b => by cases b <;> rfl
  rcases (show w = 0 ∨ w = 1 ∨ w = 2 ∨ w = 3 ∨ w = 4 ∨ w = 5 by omega) with rfl | rfl | rfl | rfl | rfl | rfl
  · rw [f_X6_tell, if_pos (show nI 0 = (0 : Int32) from rfl), chk_t i114, s3]
    rfl
  · rw [f_X6_tell, if_neg (show ¬ nI 1 = (0 : Int32) by decide), if_pos (show nI 1 = (1 : Int32) from rfl), chk_t i114, s7]
    rfl
  · rw [f_X6_tell, if_neg (show ¬ nI 2 = (0 : Int32) by decide), if_neg (show ¬ nI 2 = (1 : Int32) by decide), if_pos (show nI 2 = (2 : Int32) from rfl), chk_t i114, s8]
    rfl
  · rw [f_X6_tell, if_neg (show ¬ nI 3 = (0 : Int32) by decide), if_neg (show ¬ nI 3 = (1 : Int32) by decide), if_neg (show ¬ nI 3 = (2 : Int32) by decide), if_pos (show nI 3 = (3 : Int32) from rfl), chk_t i114, s9]
    rfl
  · rw [f_X6_tell, if_neg (show ¬ nI 4 = (0 : Int32) by decide), if_neg (show ¬ nI 4 = (1 : Int32) by decide), if_neg (show ¬ nI 4 = (2 : Int32) by decide), if_neg (show ¬ nI 4 = (3 : Int32) by decide), if_pos (show nI 4 = (4 : Int32) from rfl), chk_t i114, s11, n4]
    rfl
  · rw [f_X6_tell, if_neg (show ¬ nI 5 = (0 : Int32) by decide), if_neg (show ¬ nI 5 = (1 : Int32) by decide), if_neg (show ¬ nI 5 = (2 : Int32) by decide), if_neg (show ¬ nI 5 = (3 : Int32) by decide), if_neg (show ¬ nI 5 = (4 : Int32) by decide), if_pos (show nI 5 = (5 : Int32) from rfl), chk_t i114, s10, cDp_last h]
    rfl
theorem si_l {q : Bq} (hM : CM D X0 Y0 t N Q pb pt A P most S0 ask sn M q) (gq : GQ N A P most S0 q) (h40 : most ≤ 40) {v : Nat} (hv : v < 16) : ∀ (d i n : Nat), i + d = q.1.length → d + 1 ≤ n → f_X6_soonestInside_2 M n 114 (nI v) (nI i) = some (cSon v (q.1.drop i)) := by
  obtain ⟨S, e, dC, dd, vv, g, s, _⟩ := hM
  obtain ⟨L, sx, _⟩ := vv
  obtain ⟨s1, s2, s3, s4, s5, s6, s7, s8, s9, s10, s11, s12⟩ := s
  have hl := gq.1
  intro d
  induction d with
  | zero =>
    intro i n hi hn
    obtain ⟨n, rfl⟩ : ∃ m, n = m + 1 := ⟨n - 1, by omega⟩
    rw [f_X6_soonestInside_2, chk_t sx.1, s3, if_pos (nI_le (by omega) (by omega)), List.drop_of_length_le (by omega)]
    rfl
  | succ d ih =>
    intro i n hi hn
    obtain ⟨n, rfl⟩ : ∃ m, n = m + 1 := ⟨n - 1, by omega⟩
    have hlt : i < q.1.length := by omega
    obtain ⟨p, hp⟩ : ∃ p, q.1[i]? = some p := ⟨_, List.getElem?_eq_getElem hlt⟩
    have hd := (gq.2.2 i p hp).1
    have ed : q.1.drop i = p :: q.1.drop (i + 1) := by
      rw [List.drop_eq_getElem_cons hlt]
      rw [List.getElem?_eq_getElem hlt] at hp
      rw [Option.some.inj hp]
    have l17 : mLn M 117 = 40 := sx.2.2.2.1.2.2.1
    have l16 : mLn M 116 = 40 := sx.2.2.2.1.2.1
    rw [ed, cSon_c v _ p (by omega)]
    rw [f_X6_soonestInside_2, chk_t sx.1, s3, if_neg (nI_ge hlt (by omega)), sx.2.1.2.2.2.1, bnd_e, chk_t sx.2.2.1.2.2.1, l17, chk_t (inB_n (show i < 40 by omega) (by decide)), mI_c (by omega), s12 i p hp, f_has9 _ (by omega), obd_s, mkS_b (by omega)]
    by_cases c : xR p.1 0 v = 2
    · rw [if_pos c, decide_eq_true (⟨hv, c⟩ : v < 16 ∧ xR p.1 0 v = 2), if_pos rfl, if_neg ne10, sx.2.1.2.2.1, bnd_e, chk_t sx.2.2.1.2.1, l16, chk_t (inB_n (show i < 40 by omega) (by decide)), mI_c (by omega), (s1.2 i p hp).2]
    · rw [if_neg c, decide_eq_false (fun z => c z.2), if_pos (show (if false = true then (1 : Int32) else 0) = 0 from rfl), nI_1, bnd_e]
      exact ih (i + 1) n (by omega) (by omega)
theorem f_sonE {q : Bq} (hM : CM D X0 Y0 t N Q pb pt A P most S0 ask sn M q) (gq : GQ N A P most S0 q) (h40 : most ≤ 40) {v n : Nat} (hv : v < 16) (hn : 60 ≤ n) : f_X6_soonestInside n 114 (nI v) M = some (cSon v q.1) := by
  have hl := gq.1
  have := si_l hM gq h40 hv q.1.length 0 n (by omega) (by omega)
  rw [List.drop_zero] at this
  exact this
end
/-! ===== the search on the fresh objects ===== -/
set_option maxRecDepth 1000000 in
theorem MA_U : mU MA0 ≤ 900000 ∧ mI MA0 114 6 = 0 ∧ mI MA0 115 0 = 0 := by decide +kernel
theorem Mf_SX : SX Mf := by
  refine ⟨io_f (by decide) (by decide), ⟨R_f (q := (114, 0, 63)) (by decide), R_f (q := (114, 1, 115)) (by decide), R_f (q := (114, 2, 116)) (by decide), R_f (q := (114, 3, 117)) (by decide), R_f (q := (114, 4, 118)) (by decide)⟩, ⟨io_f (by decide) (by decide), io_f (by decide) (by decide), io_f (by decide) (by decide), io_f (by decide) (by decide)⟩, ⟨ln_f (by decide) (by decide), ln_f (by decide) (by decide), ln_f (by decide) (by decide), ln_f (by decide) (by decide)⟩, ?_⟩
  rw [mN_e Mf_1, MA_t.2.2.2]; exact Nat.le_refl _
theorem Mf_SR : SR Mf 8384 1000000 [] [] := by
  have r57 := fun (i : Nat) a b => (Mf_57r (i := i) a b).2
  refine ⟨1024, 0, 119, Mf_SX, ⟨R_f (q := (114, 5, 119)) (by decide), io_f (by decide) (by decide), ln_f (by decide) (by decide), Or.inl rfl, ?_, Nat.zero_le _, Nat.le_refl _, by decide, ?_, ?_, ?_⟩, ⟨Mf_CS63, ⟨70, 71, 72, 64, Mf_DS63, by decide, by decide⟩, ⟨?_, ?_, by decide, by decide, 0, by rw [(Mf_57 (j := 0) (by decide)).2, ln_f (l := 64) (by decide) (by decide)]⟩, MA_lg.2.1, MA_lg.2.2⟩, ?_⟩
  · rw [Mf_o (by decide), MA_U.2.1]; rfl
  · rw [r57 5 (by decide) (by decide)]; decide
  · rw [r57 6 (by decide) (by decide)]; decide
  · rw [r57 7 (by decide) (by decide)]; decide
  · rw [mN_e Mf_1, MA_t.2.2.2]; omega
  · have e : mU Mf = mU MA0 := by unfold mU; rw [Mf_1]
    rw [e]
    have := MA_U.1
    omega
  · rw [Mf_o (by decide), MA_U.2.2]
