/-! ===== the class's clock ===== -/
def FrE (M M' : Mem) : Prop := mN M ≤ mN M' ∧ (∀ i, i < mN M → M'.1.2.1 i = M.1.2.1 i) ∧ (∀ a b, a < mN M → ¬ (a = 64 ∧ 5 ≤ b ∧ b ≤ 7) → mR M' a b = mR M a b) ∧ (∀ o, o < mN M → ¬ (63 ≤ o ∧ o < 113) → o ≠ mR M 64 5 → o ≠ mR M 64 6 → o ≠ mR M 64 7 → ∀ b, mI M' o b = mI M o b) ∧ (∀ o, o < mN M → ∀ b, mL M' o b = mL M o b) ∧ (∀ j, 5 ≤ j → j ≤ 7 → mR M' 64 j = mR M 64 j ∨ mN M ≤ mR M' 64 j)
theorem FrE.rf (M : Mem) : FrE M M := ⟨Nat.le_refl _, fun _ _ => rfl, fun _ _ _ _ => rfl, fun _ _ _ _ _ _ _ => rfl, fun _ _ _ => rfl, fun _ _ _ => Or.inl rfl⟩
theorem FrE.tr {M M' M'' : Mem} (p : FrE M M') (p' : FrE M' M'') : FrE M M'' := by
  obtain ⟨a1, a2, a3, a4, a5, a6⟩ := p
  obtain ⟨b1, b2, b3, b4, b5, b6⟩ := p'
  refine ⟨Nat.le_trans a1 b1, fun i hi => (b2 i (by omega)).trans (a2 i hi), fun a b ha hn => (b3 a b (by omega) hn).trans (a3 a b ha hn), fun o ho h1 h5 h6 h7 b => ?_, fun o ho b => (b5 o (by omega) b).trans (a5 o ho b), fun j h5 h7 => ?_⟩
  · have n5 : o ≠ mR M' 64 5 := by rcases a6 5 (by decide) (by decide) with e | e <;> omega
    have n6 : o ≠ mR M' 64 6 := by rcases a6 6 (by decide) (by decide) with e | e <;> omega
    have n7 : o ≠ mR M' 64 7 := by rcases a6 7 (by decide) (by decide) with e | e <;> omega
    exact (b4 o (by omega) h1 n5 n6 n7 b).trans (a4 o ho h1 h5 h6 h7 b)
  · rcases b6 j h5 h7 with e | e
    · rcases a6 j h5 h7 with e2 | e2
      · exact Or.inl (e.trans e2)
      · exact Or.inr (by omega)
    · exact Or.inr (by omega)
theorem FrH.E {M M' : Mem} (f : FrH M M' 63) : FrE M M' := by
  obtain ⟨a1, a2, a3, a4, a5, a6⟩ := f
  exact ⟨a1, a2, a3, fun o ho h1 h5 h6 h7 b => a4 o ho (by omega) h5 h6 h7 b, a5, a6⟩
theorem FrE.sI {M : Mem} {o k : Nat} {x : Int32} (h : 63 ≤ o ∧ o < 113) : FrE M (sI M o k x) :=
  ⟨Nat.le_refl _, fun _ _ => rfl, fun _ _ _ _ => rfl, fun a _ n _ _ _ b => mI_o _ _ _ _ _ (by omega), fun _ _ _ => rfl, fun _ _ _ => Or.inl rfl⟩
/-- the clock's own -/
def XK (M : Mem) : Prop := isO M 0 112 ∧ mR M 112 0 = 113 ∧ isO M 100 113 ∧ mLn M 113 = 256
theorem XK.fe {M M' : Mem} (x : XK M) (f : FrE M M') : XK M' := by
  obtain ⟨a, b, c, d⟩ := x
  obtain ⟨f1, f2, f3, _⟩ := f
  have io : ∀ {c o}, isO M c o → isO M' c o := fun z => ⟨by have := z.1; omega, by rw [mC, f2 _ z.1]; exact z.2⟩
  exact ⟨io a, by rw [f3 112 0 a.1 (by omega)]; exact b, io c, by rw [mLn, f2 _ c.1]; exact d⟩
theorem PW.tt {M : Mem} {h d5 d6 d7 len : Nat} {t : Int32} {se : Nat → Int32} {K : Nat → List (Nat × Ltr)} {fr : List Nat} {us : Nat} {ow : Nat → Nat} {e : Nat} (p : PW M h d5 d6 d7 len t se K fr us ow e) (hh : h + 49 ≤ 131) (t' : Int32) : PW (sI M (h + 1) 11 t') h d5 d6 d7 len t' se K fr us ow e := by
  obtain ⟨w0, pc, pn, pch, pla, pma, pbu, pse, ⟨pf1, pf2, pf3⟩, pu, ptt, tot, pt1, pt2, pt3⟩ := p
  obtain ⟨_, _, _, y5, y6, y7, _⟩ := id w0
  have o : ∀ o, o ≠ h + 1 → ∀ b, mI (sI M (h + 1) 11 t') o b = mI M o b := fun o n b => mI_o _ _ _ _ _ n
  have n : ∀ b, b ≠ 11 → mI (sI M (h + 1) 11 t') (h + 1) b = mI M (h + 1) b := fun b n => mI_n _ _ _ _ n
  have e7 : mI (sI M (h + 1) 11 t') d7 = mI M d7 := by funext b; exact o d7 (by omega) b
  refine ⟨w0.e rfl, fun l hl y hy => ?_, pn, fun l hl => ?_, fun l hl cs z ez => ?_, fun l hl => ?_, fun f hf g hg => ?_, fun k hk => ?_, ⟨pf1, pf2, ?_⟩, ?_, ?_, tot, ?_, pt2, pt3⟩
  · rw [o d5 (by omega), o d6 (by omega)]; exact pc l hl y hy
  · rw [e7, o (h + 2) (by omega)]; exact pch l hl
  · rw [o (h + 3) (by omega)]; exact pla l hl cs z ez
  · rw [o (h + 4) (by omega)]; exact pma l hl
  · rw [o (h + 5) (by omega)]; exact pbu f hf g hg
  · rw [o (h + 6) (by omega)]; exact pse k hk
  · rw [e7, n 9 (by decide)]; exact pf3
  · rw [n 8 (by decide)]; exact pu
  · exact mI_s _ _ _ _
  · rw [n 10 (by decide)]; exact pt1
theorem HV.tt {M : Mem} {h X Y N : Nat} {t : Int32} {Q : Nat → Int32} {S : St} {pb pt : List Row4} (p : HV M h X Y t N Q S pb pt) (t' : Int32) : HV (sI M (h + 1) 11 t') h X Y t' N Q S pb pt := by
  obtain ⟨q, ⟨d5, d6, d7, len, K, fr, us, ow, w, hK⟩, hp, rm, ⟨lb, lt⟩, hN, hQ⟩ := p
  have hh := q.2.2.2.2
  have o : ∀ o, o ≠ h + 1 → ∀ b, mI (sI M (h + 1) 11 t') o b = mI M o b := fun o n b => mI_o _ _ _ _ _ n
  refine ⟨q.e rfl, ⟨d5, d6, d7, len, K, fr, us, ow, w.tt hh.1 t', hK⟩, hp.cg (fun a ha b => o a (by omega) b) (fun _ _ _ => rfl) rfl, rm, ⟨lb.cg (fun b => o _ (by omega) b) (fun b => o _ (by omega) b), lt.cg (fun b => o _ (by omega) b) (fun b => o _ (by omega) b)⟩, by rw [o 1 (by omega)]; exact hN, fun v hv => by rw [o _ (by omega)]; exact hQ v hv⟩
theorem HV.w112 {M : Mem} {X Y N k : Nat} {t x : Int32} {Q : Nat → Int32} {S : St} {pb pt : List Row4} (p : HV M 63 X Y t N Q S pb pt) : HV (sI M 112 k x) 63 X Y t N Q S pb pt :=
  p.kp rfl (fun o ho b => mI_o _ _ _ _ _ (by omega))
theorem HV.h7 {M : Mem} {h X Y N : Nat} {t : Int32} {Q : Nat → Int32} {S : St} {pb pt : List Row4} (p : HV M h X Y t N Q S pb pt) {v : Nat} (hv : v < 16) : f_X9_has (mI M h 7) (nI v) M = some (if xR S 0 v = 2 then 1 else 0) := by
  rw [f_has9 _ (show v < 32 by omega), p.2.2.1.2.1 v (by omega)]
  by_cases c : xR S 0 v = 2
  · rw [decide_eq_true (⟨hv, c⟩ : v < 16 ∧ xR S 0 v = 2), if_pos c]; rfl
  · rw [decide_eq_false (fun y => c y.2), if_neg c]; rfl
theorem xL_le {S : St} {l : Nat} (hl : l < 256) : (xL S l).length ≤ (fl S).length := by
  rw [fl_r, flr_split _ l hl, List.length_append, List.length_append, List.length_map]
  omega
theorem HV.cn {M : Mem} {h X Y N : Nat} {t : Int32} {Q : Nat → Int32} {S : St} {pb pt : List Row4} (p : HV M h X Y t N Q S pb pt) {l : Nat} (hl : l < 256) : mI M (h + 4) l = nI (xL S l).length := by
  obtain ⟨d5, d6, d7, len, K, fr, us, ow, w, hK⟩ := p.2.1
  rw [w.2.2.2.2.2.1 l hl, ← hK l hl, List.length_map]
theorem HV.hg {M : Mem} {h X Y N : Nat} {t : Int32} {Q : Nat → Int32} {S : St} {pb pt : List Row4} (p : HV M h X Y t N Q S pb pt) {f g : Nat} (hf : f < 16) (hg : g < 16) (a : Int32) : ∃ r, f_X5_hasGoneBy (h + 1) (nI f) (nI g) a M = some r ∧ (r = 0 ∨ xL S (16 * f + g) ≠ []) := by
  have q := p.1
  have hl : 16 * f + g < 256 := by omega
  have ecn := p.cn hl
  obtain ⟨d5, d6, d7, len, K, fr, us, ow, w, hK⟩ := p.2.1
  have u := w.2.2.2.2.2.2.2.2.2.1
  have op : ∀ y, (if nI (xL S (16 * f + g)).length ≤ 0 then some (0 : Int32) else bnd (mR M (h + 1) 6) fun o10 => chk (isO M 100 o10) <| bnd (mR M (h + 1) 0) fun o13 => chk (isO M 100 o13) <| chk (inB (nI (16 * f + g)) (mLn M o13)) <| chk (inB (mI M o13 (nI (16 * f + g)).toNatClampNeg) (mLn M o10)) <| if a < (mI M o10 (mI M o13 (nI (16 * f + g)).toNatClampNeg).toNatClampNeg) then some (0 : Int32) else some (1 : Int32)) = y → f_X5_hasGoneBy (h + 1) (nI f) (nI g) a M = y := by
    intro y hy
    rw [f_X5_hasGoneBy, c16', bnd_e, cs_p q, cs_r4 q, bnd_e, cs_a4 q, cs_i4 q hl]
    rw [show mI M (h + 4) (nI (16 * f + g)).toNatClampNeg = nI (xL S (16 * f + g)).length by rw [mI_c (by omega)]; exact ecn]
    exact hy
  have hk := hK _ hl
  cases ek : K (16 * f + g) with
  | nil =>
    rw [ek] at hk
    refine ⟨0, op _ ?_, Or.inl rfl⟩
    have hk' : xL S (16 * f + g) = [] := hk.symm
    rw [hk', if_pos (show nI ([] : List Ltr).length ≤ (0 : Int32) from Int32.le_refl _)]
  | cons y ys =>
    rw [ek] at hk
    have hc := w.2.2.2.1 _ hl
    rw [ek] at hc
    have hx : mI M (h + 2) (16 * f + g) = nI y.1 := hc.1
    have hy := (w.2.1 _ hl y (by rw [ek]; simp)).1
    have ne : xL S (16 * f + g) ≠ [] := by rw [← hk]; simp
    have pos : 0 < (xL S (16 * f + g)).length := List.length_pos_iff.mpr ne
    have le9 : (xL S (16 * f + g)).length ≤ us := by
      obtain ⟨tot, _, e1, e2⟩ := w.2.2.2.2.2.2.2.2.2.2.2
      have := xL_le (S := S) hl
      have h3 : (fl S).length = tot := by
        have := p.tot
        rw [fl_r, e2]
        congr 1
        unfold flr
        refine fm_cg _ (fun l hl' => ?_)
        have := List.mem_range'_1.mp hl'
        show _ = ((K l).map Prod.snd).map (fun x => (l, x))
        rw [hK l (by omega)]
      omega
    have ll := u.2.1
    have l18 := u.2.2.2.1
    by_cases c : a < mI M d6 (nI y.1).toNatClampNeg
    · refine ⟨0, op _ ?_, Or.inl rfl⟩
      rw [if_neg (show ¬ nI (xL S (16 * f + g)).length ≤ (0 : Int32) from nI_ge (a := 0) pos (by omega)), w.1.1.2.1, bnd_e, chk_t w.1.2.1.2.1, cs_r2 q, bnd_e, cs_a2 q, cs_i2 q hl, show mI M (h + 2) (nI (16 * f + g)).toNatClampNeg = nI y.1 by rw [mI_c (by omega)]; exact hx, w.1.2.2.1.2.1, chk_t (inB_n (by omega) (by omega)), if_pos c]
    · refine ⟨1, op _ ?_, Or.inr ne⟩
      rw [if_neg (show ¬ nI (xL S (16 * f + g)).length ≤ (0 : Int32) from nI_ge (a := 0) pos (by omega)), w.1.1.2.1, bnd_e, chk_t w.1.2.1.2.1, cs_r2 q, bnd_e, cs_a2 q, cs_i2 q hl, show mI M (h + 2) (nI (16 * f + g)).toNatClampNeg = nI y.1 by rw [mI_c (by omega)]; exact hx, w.1.2.2.1.2.1, chk_t (inB_n (by omega) (by omega)), if_neg c]
theorem nI_d1 (c : Nat) : nI (c + 1) + (-1 : Int32) = nI c := by
  rw [← Int32.sub_eq_add_neg]; exact nI_pred c
section
variable {X Y N A : Nat} {Q : Nat → Int32} {pb pt : List Row4} {P : Nat → Nat} {S0 : St}
theorem clw (h16 : N ≤ 16) (hP : smN P 16 + N ≤ 9000) (v2 : Int32) : ∀ (d i n : Nat) (M : Mem) (S : St) (t : Int32), i + d = N → HV M 63 X Y t N Q S pb pt → GI N A P S0 S → d + 30 ≤ n → ∃ M' S', f_X0_leaveWhoCameBy_2 n 63 v2 (nI i) M = some M' ∧ HV M' 63 X Y t N Q S' pb pt ∧ GI N A P S0 S' ∧ FrH M M' 63 := by
  intro d
  induction d with
  | zero =>
    intro i n M S t hi p hI hn
    obtain ⟨n, rfl⟩ : ∃ m, n = m + 1 := ⟨n - 1, by omega⟩
    have q := p.1
    exact ⟨M, S, by rw [f_X0_leaveWhoCameBy_2, cs_f q, cs_h0 q, bnd_e, cs_s q, p.2.2.2.2.2.1, if_pos (nI_le (by omega) (by omega))], p, hI, FrH.rf _ _⟩
  | succ d ih =>
    intro i n M S t hi p hI hn
    obtain ⟨n, rfl⟩ : ∃ m, n = m + 1 := ⟨n - 1, by omega⟩
    have q := p.1
    have i6 : i < 16 := by omega
    have hl := hI.tfl
    rw [f_X0_leaveWhoCameBy_2, cs_f q, cs_h0 q, bnd_e, cs_s q, p.2.2.2.2.2.1, if_neg (nI_ge (by omega) (by omega)), p.h7 i6, obd_s]
    by_cases c : xR S 0 i = 2
    · rw [if_pos c, if_neg ne10, cs_h2 q, bnd_e, cs_a10 q, cs_i10 q i6, cs_rpc q i6, bnd_e, cs_po q i6]
      by_cases z : v2 < mI M (63 + 17 + 2 * i) 15
      · rw [if_pos z, bnd_e, nI_1]
        exact ih (i + 1) n M S t (by omega) p hI (by omega)
      · obtain ⟨M1, e1, p1, f1⟩ := p.tlv h16 i6 (by omega) (n := n) (by omega)
        obtain ⟨M', S', e', p', hI', f'⟩ := ih (i + 1) n M1 _ t (by omega) p1 (hI.tl h16 (by omega) c t) (by omega)
        exact ⟨M', S', by rw [if_neg z, e1, obd_s, bnd_e, nI_1]; exact e', p', hI', f1.tr f'⟩
    · rw [if_neg c, if_pos rfl, bnd_e, nI_1]
      exact ih (i + 1) n M S t (by omega) p hI (by omega)
theorem cb89 (h2 : 2 ≤ N) (h16 : N ≤ 16) (hA : A < 1048576) (hP : smN P 16 + N ≤ 9000) {t v2 v3 : Int32} {f g : Nat} (hf : f < N) (hg : g < N) {K3 : Nat → Nat → Int32 → Int32 → Int32 → Mem → Option Mem} {K : Nat → Nat → Int32 → Int32 → Int32 → Int32 → Mem → Option Mem} (hK : ∀ (M : Mem) (S : St), HV M 63 X Y t N Q S pb pt → GI N A P S0 S → XK M → ∃ M' S', K 112 63 v2 v3 (nI f) (nI (g + 1)) M = some M' ∧ HV M' 63 X Y t N Q S' pb pt ∧ GI N A P S0 S' ∧ FrE M M') : ∀ (c n : Nat) (M : Mem) (S : St), c ≤ 9000 → HV M 63 X Y t N Q S pb pt → GI N A P S0 S → XK M → c + 30 ≤ n → ∃ M' S', f_X0_bringDue_89 K3 K n 112 63 v2 v3 (nI f) (nI g) (nI c) M = some M' ∧ HV M' 63 X Y t N Q S' pb pt ∧ GI N A P S0 S' ∧ FrE M M' := by
  intro c
  induction c with
  | zero =>
    intro n M S h9 p hI xk hn
    obtain ⟨n, rfl⟩ : ∃ m, n = m + 1 := ⟨n - 1, by omega⟩
    rw [f_X0_bringDue_89, if_pos (show nI 0 ≤ (0 : Int32) from Int32.le_refl _), bnd_e, nI_1]
    exact hK M S p hI xk
  | succ c ih =>
    intro n M S h9 p hI xk hn
    obtain ⟨n, rfl⟩ : ∃ m, n = m + 1 := ⟨n - 1, by omega⟩
    have q := p.1
    have hl := hI.tfl
    obtain ⟨r, er, hr⟩ := p.hg (show f < 16 by omega) (show g < 16 by omega) v3
    rw [f_X0_bringDue_89, if_neg (show ¬ nI (c + 1) ≤ (0 : Int32) from nI_ge (a := 0) (by omega) (by omega)), cs_f q, cs_h1 q, bnd_e, cs_p q, er, obd_s]
    by_cases z : r = 0
    · rw [if_pos z, bnd_e, nI_d1]
      exact ih n M S (by omega) p hI xk (by omega)
    · obtain ⟨x, rr, hx⟩ := List.exists_cons_of_ne_nil (hr.resolve_left z)
      obtain ⟨M1, e1, p1, f1⟩ := p.tbr hI.1 hA h2 h16 hf hg hx (by omega) (n := n) (by omega)
      obtain ⟨M', S', e', p', hI', f'⟩ := ih n M1 _ (by omega) p1 (hI.tb h16 hA hf hg t) (xk.fe f1.E) (by omega)
      exact ⟨M', S', by rw [if_neg z, e1, obd2_s, bnd_e, nI_d1]; exact e', p', hI', f1.E.tr f'⟩
theorem cb18 (h2 : 2 ≤ N) (h16 : N ≤ 16) (hA : A < 1048576) (hP : smN P 16 + N ≤ 9000) {t v2 v3 : Int32} {f : Nat} (hf : f < N) {K3 : Nat → Nat → Int32 → Int32 → Int32 → Mem → Option Mem} (hK : ∀ (M : Mem) (S : St), HV M 63 X Y t N Q S pb pt → GI N A P S0 S → XK M → ∃ M' S', K3 112 63 v2 v3 (nI (f + 1)) M = some M' ∧ HV M' 63 X Y t N Q S' pb pt ∧ GI N A P S0 S' ∧ FrE M M') : ∀ (e g n : Nat) (M : Mem) (S : St), g + e = N → HV M 63 X Y t N Q S pb pt → GI N A P S0 S → XK M → e + 9100 ≤ n → ∃ M' S', f_X0_bringDue_18 K3 n 112 63 v2 v3 (nI f) (nI g) M = some M' ∧ HV M' 63 X Y t N Q S' pb pt ∧ GI N A P S0 S' ∧ FrE M M' := by
  intro e
  induction e with
  | zero =>
    intro g n M S hg p hI xk hn
    obtain ⟨n, rfl⟩ : ∃ m, n = m + 1 := ⟨n - 1, by omega⟩
    have q := p.1
    rw [f_X0_bringDue_18, cs_f q, cs_h0 q, bnd_e, cs_s q, p.2.2.2.2.2.1, if_pos (nI_le (by omega) (by omega)), bnd_e, nI_1]
    exact hK M S p hI xk
  | succ e ih =>
    intro g n M S hg p hI xk hn
    obtain ⟨n, rfl⟩ : ∃ m, n = m + 1 := ⟨n - 1, by omega⟩
    have q := p.1
    have f6 : f < 16 := by omega
    have hl : 16 * f + g < 256 := by omega
    have hfl := hI.tfl
    have hx := xL_le (S := S) hl
    rw [f_X0_bringDue_18, cs_f q, cs_h0 q, bnd_e, cs_s q, p.2.2.2.2.2.1, if_neg (nI_ge (by omega) (by omega)), cs_h1 q, bnd_e, cs_p q, cs_r5 q, bnd_e, cs_a5 q, cs_i5 q f6]
    by_cases z : mI M (63 + 5) (nI f).toNatClampNeg = 0
    · rw [if_pos z, bnd_e, nI_1]
      exact hK M S p hI xk
    · rw [if_neg z, chk_t xk.1, xk.2.1, bnd_e, chk_t xk.2.2.1, c16', xk.2.2.2, chk_t (inB_n hl (by decide))]
      have nx : ∀ (M : Mem) (S : St), HV M 63 X Y t N Q S pb pt → GI N A P S0 S → XK M → ∃ M' S', f_X0_bringDue_18 K3 n 112 63 v2 v3 (nI f) (nI (g + 1)) M = some M' ∧ HV M' 63 X Y t N Q S' pb pt ∧ GI N A P S0 S' ∧ FrE M M' := fun M S p hI xk => ih (g + 1) n M S (by omega) p hI xk (by omega)
      by_cases y : mI M 113 (nI (16 * f + g)).toNatClampNeg = v2
      · rw [if_pos y, f_X0_bringDue_65, if_neg ne10, cs_f q, cs_h1 q, bnd_e, cs_p q, f_X5_countOn, cs_p q, cs_r4 q, bnd_e, cs_a4 q, c16', cs_i4 q hl, obd_s, show mI M (63 + 4) (nI (16 * f + g)).toNatClampNeg = nI (xL S (16 * f + g)).length by rw [mI_c (by omega)]; exact p.cn hl]
        exact cb89 h2 h16 hA hP hf (by omega) nx (xL S (16 * f + g)).length n M S (by omega) p hI xk (by omega)
      · rw [if_neg y, f_X0_bringDue_65, if_pos rfl]
        exact cb89 h2 h16 hA hP hf (by omega) nx 0 n M S (by omega) p hI xk (by omega)
theorem cb3 (h2 : 2 ≤ N) (h16 : N ≤ 16) (hA : A < 1048576) (hP : smN P 16 + N ≤ 9000) {t v2 v3 : Int32} : ∀ (e f n : Nat) (M : Mem) (S : St), f + e = N → HV M 63 X Y t N Q S pb pt → GI N A P S0 S → XK M → e + 9200 ≤ n → ∃ M' S', f_X0_bringDue_3 n 112 63 v2 v3 (nI f) M = some M' ∧ HV M' 63 X Y t N Q S' pb pt ∧ GI N A P S0 S' ∧ FrE M M' := by
  intro e
  induction e with
  | zero =>
    intro f n M S hf p hI xk hn
    obtain ⟨n, rfl⟩ : ∃ m, n = m + 1 := ⟨n - 1, by omega⟩
    have q := p.1
    exact ⟨M, S, by rw [f_X0_bringDue_3, cs_f q, cs_h0 q, bnd_e, cs_s q, p.2.2.2.2.2.1, if_pos (nI_le (by omega) (by omega))], p, hI, FrE.rf _⟩
  | succ e ih =>
    intro f n M S hf p hI xk hn
    obtain ⟨n, rfl⟩ : ∃ m, n = m + 1 := ⟨n - 1, by omega⟩
    have q := p.1
    rw [f_X0_bringDue_3, cs_f q, cs_h0 q, bnd_e, cs_s q, p.2.2.2.2.2.1, if_neg (nI_ge (by omega) (by omega))]
    exact cb18 h2 h16 hA hP (by omega) (fun M S p hI xk => ih (f + 1) n M S (by omega) p hI xk (by omega)) N 0 n M S (by omega) p hI xk (by omega)
/-- what a time's end leaves to do -/
theorem cb107 {t v2 u0 : Int32} {τ n : Nat} {K : Nat → Nat → Int32 → Int32 → Mem → Option Mem} (hK : ∀ (M : Mem) (S : St), HV M 63 X Y t N Q S pb pt → GI N A P S0 S → XK M → ∃ M' S' t', K 112 63 v2 (nI (τ + 1)) M = some M' ∧ HV M' 63 X Y t' N Q S' pb pt ∧ FrE M M') {M : Mem} {S : St} (p : HV M 63 X Y t N Q S pb pt) (hI : GI N A P S0 S) (xk : XK M) : ∃ M' S' t', f_X0_run_107 K n 112 63 v2 (nI τ) u0 112 M = some M' ∧ HV M' 63 X Y t' N Q S' pb pt ∧ FrE M M' := by
  have f1 : FrE M (sI M 112 2 u0) := FrE.sI (by omega)
  have p1 := p.w112 (k := 2) (x := u0)
  have x1 := xk.fe f1
  rw [f_X0_run_107, chk_t xk.1, bnd_e]
  generalize sI M 112 2 u0 = M1 at f1 p1 x1
  have r127 : ∀ y z : Int32, ∃ M' S' t', f_X0_run_127 K n 112 63 v2 (nI τ) y z 112 M1 = some M' ∧ HV M' 63 X Y t' N Q S' pb pt ∧ FrE M1 M' := by
    intro y z
    have f2 : FrE M1 (sI M1 112 3 (z + y)) := FrE.sI (by omega)
    have p2 := p1.w112 (k := 3) (x := z + y)
    have x2 := x1.fe f2
    rw [f_X0_run_127, chk_t x1.1, bnd_e]
    generalize sI M1 112 3 (z + y) = M2 at f2 p2 x2
    rw [cs_f p2.1]
    by_cases c : mI M2 63 7 = 0
    · rw [if_pos c, cs_h1 p2.1, bnd_e, cs_p p2.1]
      by_cases c2 : mI M2 (63 + 1) 10 = 0
      · have f3 : FrE M2 (sI M2 112 1 (nI τ)) := FrE.sI (by omega)
        obtain ⟨M', S', t', e', p', f'⟩ := hK (sI M2 112 1 (nI τ)) S p2.w112 hI (x2.fe f3)
        exact ⟨M', S', t', by rw [if_pos c2, chk_t x2.1, bnd_e, bnd_e, nI_1]; exact e', p', f2.tr (f3.tr f')⟩
      · obtain ⟨M', S', t', e', p', f'⟩ := hK M2 S p2 hI x2
        exact ⟨M', S', t', by rw [if_neg c2, bnd_e, nI_1]; exact e', p', f2.tr f'⟩
    · obtain ⟨M', S', t', e', p', f'⟩ := hK M2 S p2 hI x2
      exact ⟨M', S', t', by rw [if_neg c, bnd_e, nI_1]; exact e', p', f2.tr f'⟩
  by_cases c : mI M1 63 7 = 0
  · obtain ⟨M', S', t', e', p', f'⟩ := r127 1 (mI M1 112 3)
    exact ⟨M', S', t', by rw [chk_t x1.1, cs_f p1.1, if_pos c]; exact e', p', f1.tr f'⟩
  · obtain ⟨M', S', t', e', p', f'⟩ := r127 0 (mI M1 112 3)
    exact ⟨M', S', t', by rw [chk_t x1.1, cs_f p1.1, if_neg c]; exact e', p', f1.tr f'⟩
theorem cb66 (h2 : 2 ≤ N) (h16 : N ≤ 16) (hA : A < 1048576) (hP : smN P 16 + N ≤ 9000) {t v2 v4 : Int32} {τ : Nat} {K : Nat → Nat → Int32 → Int32 → Mem → Option Mem} (hK : ∀ (M : Mem) (S : St), HV M 63 X Y t N Q S pb pt → GI N A P S0 S → XK M → ∃ M' S' t', K 112 63 v2 (nI (τ + 1)) M = some M' ∧ HV M' 63 X Y t' N Q S' pb pt ∧ FrE M M') : ∀ (k n : Nat) (M : Mem) (S : St), k ≤ 9 → HV M 63 X Y t N Q S pb pt → GI N A P S0 S → XK M → k + 9300 ≤ n → ∃ M' S' t', f_X0_run_66 K n 112 63 v2 (nI τ) v4 (nI k) M = some M' ∧ HV M' 63 X Y t' N Q S' pb pt ∧ FrE M M' := by
  intro k
  induction k with
  | zero =>
    intro n M S hk p hI xk hn
    obtain ⟨n, rfl⟩ : ∃ m, n = m + 1 := ⟨n - 1, by omega⟩
    rw [f_X0_run_66, if_pos (show nI 0 < (1 : Int32) by decide), cs_f p.1]
    by_cases c : mI M 63 11 ≤ v4
    · rw [if_pos c, chk_t xk.1]; exact cb107 hK p hI xk
    · rw [if_neg c]; exact cb107 hK p hI xk
  | succ k ih =>
    intro n M S hk p hI xk hn
    obtain ⟨n, rfl⟩ : ∃ m, n = m + 1 := ⟨n - 1, by omega⟩
    obtain ⟨M1, S1, e1, p1, hI1, f1⟩ := cb3 h2 h16 hA hP (v2 := nI (k + 1)) (v3 := nI τ - nI (k + 1)) N 0 n M S (by omega) p hI xk (by omega)
    obtain ⟨M', S', t', e', p', f'⟩ := ih n M1 S1 (by omega) p1 hI1 (xk.fe f1) (by omega)
    exact ⟨M', S', t', by rw [f_X0_run_66, if_neg (show ¬ nI (k + 1) < (1 : Int32) from nI_nl (a := k + 1) (b := 1) (by omega) (by omega)), chk_t xk.1, f_X0_bringDue, show f_X0_bringDue_3 n 112 63 (nI (k + 1)) (nI τ - nI (k + 1)) 0 M = some M1 from e1, obd_s, bnd_e, nI_d1]; exact e', p', f1.tr f'⟩
theorem cb19 (h2 : 2 ≤ N) (h16 : N ≤ 16) (hA : A < 1048576) (hP : smN P 16 + N ≤ 9000) (v2 : Int32) : ∀ (d τ n : Nat) (M : Mem) (S : St) (t : Int32), τ + d = 300 → HV M 63 X Y t N Q S pb pt → GI N A P S0 S → XK M → d + 9400 ≤ n → ∃ M' S' t', f_X0_run_19 n 112 63 v2 (nI τ) M = some M' ∧ HV M' 63 X Y t' N Q S' pb pt ∧ FrE M M' := by
  intro d
  induction d with
  | zero =>
    intro τ n M S t hi p hI xk hn
    obtain ⟨n, rfl⟩ : ∃ m, n = m + 1 := ⟨n - 1, by omega⟩
    exact ⟨M, S, t, by rw [f_X0_run_19, if_pos (show (300 : Int32) ≤ nI τ from nI_le (a := 300) (by omega) (by omega))], p, FrE.rf M⟩
  | succ d ih =>
    intro τ n M S t hi p hI xk hn
    obtain ⟨n, rfl⟩ : ∃ m, n = m + 1 := ⟨n - 1, by omega⟩
    rw [f_X0_run_19, if_neg (show ¬ (300 : Int32) ≤ nI τ from nI_ge (b := 300) (by omega) (by decide)), chk_t xk.1]
    by_cases c : mI M 112 1 = 300
    · rw [if_pos c, cs_f p.1, bnd_e, cs_h1 p.1, bnd_e, cs_p p.1, bnd_e]
      have f1 : FrE M (sI M (63 + 1) 11 (nI τ)) := FrE.sI (by omega)
      have p1 := p.tt (nI τ)
      have x1 := xk.fe f1
      generalize sI M (63 + 1) 11 (nI τ) = M1 at f1 p1 x1
      obtain ⟨M2, S2, e2, p2, hI2, f2⟩ := clw h16 hP (nI τ - v2) N 0 n M1 S (nI τ) (by omega) p1 hI (by omega)
      have x2 := x1.fe f2.E
      have em : (if nI τ < (9 : Int32) then nI τ else (9 : Int32)) = nI (min τ 9) := by
        by_cases z : τ < 9
        · rw [if_pos (show nI τ < (9 : Int32) from nI_lt (b := 9) z (by decide)), Nat.min_eq_left (by omega)]
        · rw [if_neg (show ¬ nI τ < (9 : Int32) from nI_nl (a := τ) (b := 9) (by omega) (by omega)), Nat.min_eq_right (by omega)]
          rfl
      obtain ⟨M', S', t', e', p', f'⟩ := cb66 h2 h16 hA hP (t := nI τ) (v2 := v2) (v4 := mI M 63 11) (τ := τ) (K := f_X0_run_19 n) (fun M S p hI xk => ih (τ + 1) n M S (nI τ) (by omega) p hI xk (by omega)) (min τ 9) n M2 S2 (Nat.min_le_right _ _) p2 hI2 x2 (by have := Nat.min_le_right τ 9; omega)
      exact ⟨M', S', t', by rw [f_X0_leaveWhoCameBy, show f_X0_leaveWhoCameBy_2 n 63 (nI τ - v2) 0 M1 = some M2 from e2, obd_s, em, bnd_e]; exact e', p', f1.tr (f2.E.tr f')⟩
    · exact ⟨M, S, t, by rw [if_neg c], p, FrE.rf M⟩
theorem cbrun (h2 : 2 ≤ N) (h16 : N ≤ 16) (hA : A < 1048576) (hP : smN P 16 + N ≤ 9000) (v2 : Int32) {n : Nat} {M : Mem} {S : St} {t : Int32} (p : HV M 63 X Y t N Q S pb pt) (hI : GI N A P S0 S) (xk : XK M) (hn : 10000 ≤ n) : ∃ M' S' t', f_X0_run n 112 63 v2 M = some M' ∧ HV M' 63 X Y t' N Q S' pb pt ∧ FrE M M' := by
  have f1 : FrE M (sI M 112 1 300) := FrE.sI (by omega)
  have f2 : FrE (sI M 112 1 300) (sI (sI M 112 1 300) 112 2 (-1)) := FrE.sI (by omega)
  have f3 : FrE (sI (sI M 112 1 300) 112 2 (-1)) (sI (sI (sI M 112 1 300) 112 2 (-1)) 112 3 0) := FrE.sI (by omega)
  have fx := f1.tr (f2.tr f3)
  obtain ⟨M', S', t', e', p', f'⟩ := cb19 h2 h16 hA hP v2 300 0 n _ S t rfl ((p.w112.w112).w112) hI (xk.fe fx) (by omega)
  exact ⟨M', S', t', by rw [f_X0_run, chk_t xk.1, bnd_e, bnd_e, bnd_e]; exact e', p', fx.tr f'⟩
end
/-- the class stands, but for the clock's own numbers -/
theorem CW.k112 {M M' : Mem} {N : Nat} {Q : Nat → Int32} {S : St} (h : CW M N Q S) (e : M'.1 = M.1) (hI : ∀ o, o ≠ 112 → ∀ b, mI M' o b = mI M o b) (hl : ∀ o b, mL M' o b = mL M o b) : CW M' N Q S := by
  obtain ⟨X, Y, L, p, sb, xg, xc, xv, xs, g, hL⟩ := h
  have s1 : Shp1 M M' := Shp1.e e
  exact ⟨X, Y, L, p.kp6 e (fun o ho b => hI o (by omega) b), sb.e e (hI 1 (by decide)) (hI 2 (by decide)), xg.s s1, xc.s s1 (hI 113 (by decide)) (fun _ _ => rfl), xv.s s1 (hI 5 (by decide)) (hI 6 (by decide)) (hI 8 (by decide)) (fun _ o _ b => hl o b) (fun _ => rfl) rfl, xs.e e (fun o ho b => hI o (by omega) b), g.e e, hL⟩
theorem FrE.cw {M M' : Mem} {N X0 Y0 : Nat} {Q Q' : Nat → Int32} {S S' : St} {t : Int32} {pb pt : List Row4} (f : FrE M M') (p : HV M' 63 X0 Y0 t N Q' S' pb pt) (fin : ∀ (M' : Mem) (t : Int32) (Q' : Nat → Int32) (S' : St) (pb' pt' : List Row4), FrD M M' 63 → HV M' 63 X0 Y0 t N Q' S' pb' pt' → CW M' N Q S) : CW M' N Q S := by
  obtain ⟨f1, f2, f3, f4, f5, f6⟩ := f
  have o : ∀ o, o ≠ 112 → ∀ b, mI (M'.1, (fun a b => if a = 112 then mI M 112 b else mI M' a b), M'.2.2) o b = mI M' o b := fun o n b => if_neg n
  have fh : FrH M (M'.1, (fun a b => if a = 112 then mI M 112 b else mI M' a b), M'.2.2) 63 := by
    refine ⟨f1, f2, f3, fun a ha h1 h5 h6 h7 b => ?_, f5, f6⟩
    by_cases c : a = 112
    · rw [c]
      show (if 112 = 112 then mI M 112 b else mI M' 112 b) = mI M 112 b
      rw [if_pos rfl]
    · rw [o a c]; exact f4 a ha (by omega) h5 h6 h7 b
  have p2 := p.kp (M' := (M'.1, (fun a b => if a = 112 then mI M 112 b else mI M' a b), M'.2.2)) rfl (fun a ha b => o a (by omega) b)
  exact (fin _ t Q' S' pb pt fh.D p2).k112 rfl (fun a n b => (o a n b).symm) (fun _ _ => rfl)
