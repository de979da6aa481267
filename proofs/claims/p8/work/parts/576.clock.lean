/-! ===== the class's clock ===== -/
def FrE (M M' : Mem) : Prop := mN M ≤ mN M' ∧ (∀ i, i < mN M → M'.1.2.1 i = M.1.2.1 i) ∧ (∀ a b, a < mN M → ¬ (a = 64 ∧ 5 ≤ b ∧ b ≤ 7) → mR M' a b = mR M a b) ∧ (∀ o, o < mN M → ¬ (63 ≤ o ∧ o < 113) → o ≠ mR M 64 5 → o ≠ mR M 64 6 → o ≠ mR M 64 7 → ∀ b, mI M' o b = mI M o b) ∧ (∀ o, o < mN M → ∀ b, mL M' o b = mL M o b) ∧ (∀ j, 5 ≤ j → j ≤ 7 → mR M' 64 j = mR M 64 j ∨ mN M ≤ mR M' 64 j)
theorem FrE.rf (M : Mem) : FrE M M := ⟨Nat.le_refl _, fun _ _ => rfl, fun _ _ _ _ => rfl, fun _ _ _ _ _ _ _ => rfl, fun _ _ _ => rfl, fun _ _ _ => Or.inl rfl⟩
theorem FrE.tr {M M' M'' : Mem} (p : FrE M M') (p' : FrE M' M'') : FrE M M'' := by
  obtain ⟨a1, a2, a3, a4, a5, a6⟩ := p
  obtain ⟨b1, b2, b3, b4, b5, b6⟩ := p'
  refine ⟨Nat.le_trans a1 b1, fun i hi => (b2 i (by omega)).trans (a2 i hi), fun a b ha hn => (b3 a b (by omega) hn).trans (a3 a b ha hn), fun o ho h1 h5 h6 h7 b => ?_, fun o ho b => (b5 o (by omega) b).trans (a5 o ho b), fun j h5 h7 => ?_⟩
  · have n5 : o ≠ mR M' 64 5 := by rcases a6 5 (by decide) (by decide) with e | e <;> omega
    have n6 : o ≠ mR M' 64 6 := by rcases a6 6 (by decide) (by decide) with e | e <;> omega
    have n7 : o ≠ mR M' 64 7 := by rcases a6 7 (by decide) (by decide) with e | e <;> omega
    exact (b4 o (by omega) h1 n5 n6 n7 b).trans (a4 o ho h1 h5 h6 h7 b)
  · rcases b6 j h5 h7 with e | e
    · rcases a6 j h5 h7 with e2 | e2
      · exact Or.inl (e.trans e2)
      · exact Or.inr (by omega)
    · exact Or.inr (by omega)
theorem FrH.E {M M' : Mem} (f : FrH M M' 63) : FrE M M' := by
  obtain ⟨a1, a2, a3, a4, a5, a6⟩ := f
  exact ⟨a1, a2, a3, fun o ho h1 h5 h6 h7 b => a4 o ho (by omega) h5 h6 h7 b, a5, a6⟩
theorem FrE.sI {M : Mem} {o k : Nat} {x : Int32} (h : 63 ≤ o ∧ o < 113) : FrE M (sI M o k x) :=
  ⟨Nat.le_refl _, fun _ _ => rfl, fun _ _ _ _ => rfl, fun a _ n _ _ _ b => mI_o _ _ _ _ _ (by omega), fun _ _ _ => rfl, fun _ _ _ => Or.inl rfl⟩
/-- the clock's own -/
def XK (M : Mem) : Prop := isO M 0 112 ∧ mR M 112 0 = 113 ∧ isO M 100 113 ∧ mLn M 113 = 256
theorem XK.fe {M M' : Mem} (x : XK M) (f : FrE M M') : XK M' := by
  obtain ⟨a, b, c, d⟩ := x
  obtain ⟨f1, f2, f3, _⟩ := f
  have io : ∀ {c o}, isO M c o → isO M' c o := fun z => ⟨by have := z.1; omega, by rw [mC, f2 _ z.1]; exact z.2⟩
  exact ⟨io a, by rw [f3 112 0 a.1 (by omega)]; exact b, io c, by rw [mLn, f2 _ c.1]; exact d⟩
theorem PW.tt {M : Mem} {h d5 d6 d7 len : Nat} {t : Int32} {se : Nat → Int32} {K : Nat → List (Nat × Ltr)} {fr : List Nat} {us : Nat} {ow : Nat → Nat} {e : Nat} (p : PW M h d5 d6 d7 len t se K fr us ow e) (hh : h + 49 ≤ 131) (t' : Int32) : PW (sI M (h + 1) 11 t') h d5 d6 d7 len t' se K fr us ow e := by
  obtain ⟨w0, pc, pn, pch, pla, pma, pbu, pse, ⟨pf1, pf2, pf3⟩, pu, ptt, tot, pt1, pt2, pt3⟩ := p
  obtain ⟨_, _, _, y5, y6, y7, _⟩ := id w0
  have o : ∀ o, o ≠ h + 1 → ∀ b, mI (sI M (h + 1) 11 t') o b = mI M o b := fun o n b => mI_o _ _ _ _ _ n
  have n : ∀ b, b ≠ 11 → mI (sI M (h + 1) 11 t') (h + 1) b = mI M (h + 1) b := fun b n => mI_n _ _ _ _ n
  have e7 : mI (sI M (h + 1) 11 t') d7 = mI M d7 := by funext b; exact o d7 (by omega) b
  refine ⟨w0.e rfl, fun l hl y hy => ?_, pn, fun l hl => ?_, fun l hl cs z ez => ?_, fun l hl => ?_, fun f hf g hg => ?_, fun k hk => ?_, ⟨pf1, pf2, ?_⟩, ?_, ?_, tot, ?_, pt2, pt3⟩
  · rw [o d5 (by omega), o d6 (by omega)]; exact pc l hl y hy
  · rw [e7, o (h + 2) (by omega)]; exact pch l hl
  · rw [o (h + 3) (by omega)]; exact pla l hl cs z ez
  · rw [o (h + 4) (by omega)]; exact pma l hl
  · rw [o (h + 5) (by omega)]; exact pbu f hf g hg
  · rw [o (h + 6) (by omega)]; exact pse k hk
  · rw [e7, n 9 (by decide)]; exact pf3
  · rw [n 8 (by decide)]; exact pu
  · exact mI_s _ _ _ _
  · rw [n 10 (by decide)]; exact pt1
theorem HV.tt {M : Mem} {h X Y N : Nat} {t : Int32} {Q : Nat → Int32} {S : St} {pb pt : List Row4} (p : HV M h X Y t N Q S pb pt) (t' : Int32) : HV (sI M (h + 1) 11 t') h X Y t' N Q S pb pt := by
  obtain ⟨q, ⟨d5, d6, d7, len, K, fr, us, ow, w, hK⟩, hp, rm, ⟨lb, lt⟩, hN, hQ⟩ := p
  have hh := q.2.2.2.2
  have o : ∀ o, o ≠ h + 1 → ∀ b, mI (sI M (h + 1) 11 t') o b = mI M o b := fun o n b => mI_o _ _ _ _ _ n
  refine ⟨q.e rfl, ⟨d5, d6, d7, len, K, fr, us, ow, w.tt hh.1 t', hK⟩, hp.cg (fun a ha b => o a (by omega) b) (fun _ _ _ => rfl) rfl, rm, ⟨lb.cg (fun b => o _ (by omega) b) (fun b => o _ (by omega) b), lt.cg (fun b => o _ (by omega) b) (fun b => o _ (by omega) b)⟩, by rw [o 1 (by omega)]; exact hN, fun v hv => by rw [o _ (by omega)]; exact hQ v hv⟩
theorem HV.w112 {M : Mem} {X Y N k : Nat} {t x : Int32} {Q : Nat → Int32} {S : St} {pb pt : List Row4} (p : HV M 63 X Y t N Q S pb pt) : HV (sI M 112 k x) 63 X Y t N Q S pb pt :=
  p.kp rfl (fun o ho b => mI_o _ _ _ _ _ (by omega))
theorem HV.h7 {M : Mem} {h X Y N : Nat} {t : Int32} {Q : Nat → Int32} {S : St} {pb pt : List Row4} (p : HV M h X Y t N Q S pb pt) {v : Nat} (hv : v < 16) : f_X9_has (mI M h 7) (nI v) M = some (if xR S 0 v = 2 then 1 else 0) := by
  rw [f_has9 _ (show v < 32 by omega), p.2.2.1.2.1 v (by omega)]
  by_cases c : xR S 0 v = 2
  · rw [decide_eq_true (⟨hv, c⟩ : v < 16 ∧ xR S 0 v = 2), if_pos c]; rfl
  · rw [decide_eq_false (fun y => c y.2), if_neg c]; rfl
theorem xL_le {S : St} {l : Nat} (hl : l < 256) : (xL S l).length ≤ (fl S).length := by
  rw [fl_r, flr_split _ l hl, List.length_append, List.length_append, List.length_map]
  omega
theorem HV.cn {M : Mem} {h X Y N : Nat} {t : Int32} {Q : Nat → Int32} {S : St} {pb pt : List Row4} (p : HV M h X Y t N Q S pb pt) {l : Nat} (hl : l < 256) : mI M (h + 4) l = nI (xL S l).length := by
  obtain ⟨d5, d6, d7, len, K, fr, us, ow, w, hK⟩ := p.2.1
  rw [w.2.2.2.2.2.1 l hl, ← hK l hl, List.length_map]
theorem HV.hg {M : Mem} {h X Y N : Nat} {t : Int32} {Q : Nat → Int32} {S : St} {pb pt : List Row4} (p : HV M h X Y t N Q S pb pt) {f g : Nat} (hf : f < 16) (hg : g < 16) (a : Int32) : ∃ r, f_X5_hasGoneBy (h + 1) (nI f) (nI g) a M = some r ∧ (r = 0 ∨ xL S (16 * f + g) ≠ []) := by
  have q := p.1
  have hl : 16 * f + g < 256 := by omega
  have ecn := p.cn hl
  obtain ⟨d5, d6, d7, len, K, fr, us, ow, w, hK⟩ := p.2.1
  have u := w.2.2.2.2.2.2.2.2.2.1
  have op : ∀ y, (if nI (xL S (16 * f + g)).length ≤ 0 then some (0 : Int32) else bnd (mR M (h + 1) 6) fun o10 => chk (isO M 100 o10) <| bnd (mR M (h + 1) 0) fun o13 => chk (isO M 100 o13) <| chk (inB (nI (16 * f + g)) (mLn M o13)) <| chk (inB (mI M o13 (nI (16 * f + g)).toNatClampNeg) (mLn M o10)) <| if a < (mI M o10 (mI M o13 (nI (16 * f + g)).toNatClampNeg).toNatClampNeg) then some (0 : Int32) else some (1 : Int32)) = y → f_X5_hasGoneBy (h + 1) (nI f) (nI g) a M = y := by
    intro y hy
    rw [f_X5_hasGoneBy, c16', bnd_e, cs_p q, cs_r4 q, bnd_e, cs_a4 q, cs_i4 q hl]
    rw [show mI M (h + 4) (nI (16 * f + g)).toNatClampNeg = nI (xL S (16 * f + g)).length by rw [mI_c (by omega)]; exact ecn]
    exact hy
  have hk := hK _ hl
  cases ek : K (16 * f + g) with
  | nil =>
    rw [ek] at hk
    refine ⟨0, op _ ?_, Or.inl rfl⟩
    have hk' : xL S (16 * f + g) = [] := hk.symm
    rw [hk', if_pos (show nI ([] : List Ltr).length ≤ (0 : Int32) from Int32.le_refl _)]
  | cons y ys =>
    rw [ek] at hk
    have hc := w.2.2.2.1 _ hl
    rw [ek] at hc
    have hx : mI M (h + 2) (16 * f + g) = nI y.1 := hc.1
    have hy := (w.2.1 _ hl y (by rw [ek]; simp)).1
    have ne : xL S (16 * f + g) ≠ [] := by rw [← hk]; simp
    have pos : 0 < (xL S (16 * f + g)).length := List.length_pos_iff.mpr ne
    have le9 : (xL S (16 * f + g)).length ≤ us := by
      obtain ⟨tot, _, e1, e2⟩ := w.2.2.2.2.2.2.2.2.2.2.2
      have := xL_le (S := S) hl
      have h3 : (fl S).length = tot := by
        have := p.tot
        rw [fl_r, e2]
        congr 1
        unfold flr
        refine fm_cg _ (fun l hl' => ?_)
        have := List.mem_range'_1.mp hl'
        show _ = ((K l).map Prod.snd).map (fun x => (l, x))
        rw [hK l (by omega)]
      omega
    have ll := u.2.1
    have l18 := u.2.2.2.1
    by_cases c : a < mI M d6 (nI y.1).toNatClampNeg
    · refine ⟨0, op _ ?_, Or.inl rfl⟩
      rw [if_neg (show ¬ nI (xL S (16 * f + g)).length ≤ (0 : Int32) from nI_ge (a := 0) pos (by omega)), w.1.1.2.1, bnd_e, chk_t w.1.2.1.2.1, cs_r2 q, bnd_e, cs_a2 q, cs_i2 q hl, show mI M (h + 2) (nI (16 * f + g)).toNatClampNeg = nI y.1 by rw [mI_c (by omega)]; exact hx, w.1.2.2.1.2.1, chk_t (inB_n (by omega) (by omega)), if_pos c]
    · refine ⟨1, op _ ?_, Or.inr ne⟩
      rw [if_neg (show ¬ nI (xL S (16 * f + g)).length ≤ (0 : Int32) from nI_ge (a := 0) pos (by omega)), w.1.1.2.1, bnd_e, chk_t w.1.2.1.2.1, cs_r2 q, bnd_e, cs_a2 q, cs_i2 q hl, show mI M (h + 2) (nI (16 * f + g)).toNatClampNeg = nI y.1 by rw [mI_c (by omega)]; exact hx, w.1.2.2.1.2.1, chk_t (inB_n (by omega) (by omega)), if_neg c]
theorem nI_d1 (c : Nat) : nI (c + 1) + (-1 : Int32) = nI c := by
  rw [← Int32.sub_eq_add_neg]; exact nI_pred c
section
variable {X Y N A : Nat} {Q : Nat → Int32} {pb pt : List Row4} {P : Nat → Nat} {S0 : St}
theorem clw (h16 : N ≤ 16) (hP : smN P 16 + N ≤ 9000) (v2 : Int32) : ∀ (d i n : Nat) (M : Mem) (S : St) (t : Int32), i + d = N → HV M 63 X Y t N Q S pb pt → GI N A P S0 S → d + 30 ≤ n → ∃ M' S', f_X0_leaveWhoCameBy_2 n 63 v2 (nI i) M = some M' ∧ HV M' 63 X Y t N Q S' pb pt ∧ GI N A P S0 S' ∧ FrH M M' 63 := by
  intro d
  induction d with
  | zero =>
    intro i n M S t hi p hI hn
    obtain ⟨n, rfl⟩ : ∃ m, n = m + 1 := ⟨n - 1, by omega⟩
    have q := p.1
    exact ⟨M, S, by rw [f_X0_leaveWhoCameBy_2, cs_f q, cs_h0 q, bnd_e, cs_s q, p.2.2.2.2.2.1, if_pos (nI_le (by omega) (by omega))], p, hI, FrH.rf _ _⟩
  | succ d ih =>
    intro i n M S t hi p hI hn
    obtain ⟨n, rfl⟩ : ∃ m, n = m + 1 := ⟨n - 1, by omega⟩
    have q := p.1
    have i6 : i < 16 := by omega
    have hl := hI.tfl
    rw [f_X0_leaveWhoCameBy_2, cs_f q, cs_h0 q, bnd_e, cs_s q, p.2.2.2.2.2.1, if_neg (nI_ge (by omega) (by omega)), p.h7 i6, obd_s]
    by_cases c : xR S 0 i = 2
    · rw [if_pos c, if_neg ne10, cs_h2 q, bnd_e, cs_a10 q, cs_i10 q i6, cs_rpc q i6, bnd_e, cs_po q i6]
      by_cases z : v2 < mI M (63 + 17 + 2 * i) 15
      · rw [if_pos z, bnd_e, nI_1]
        exact ih (i + 1) n M S t (by omega) p hI (by omega)
      · obtain ⟨M1, e1, p1, f1⟩ := p.tlv h16 i6 (by omega) (n := n) (by omega)
        obtain ⟨M', S', e', p', hI', f'⟩ := ih (i + 1) n M1 _ t (by omega) p1 (hI.tl h16 (by omega) c t) (by omega)
        exact ⟨M', S', by rw [if_neg z, e1, obd_s, bnd_e, nI_1]; exact e', p', hI', f1.tr f'⟩
    · rw [if_neg c, if_pos rfl, bnd_e, nI_1]
      exact ih (i + 1) n M S t (by omega) p hI (by omega)
theorem cb89 (h2 : 2 ≤ N) (h16 : N ≤ 16) (hA : A < 1048576) (hP : smN P 16 + N ≤ 9000) {t v2 v3 : Int32} {f g : Nat} (hf : f < N) (hg : g < N) {K3 : Nat → Nat → Int32 → Int32 → Int32 → Mem → Option Mem} {K : Nat → Nat → Int32 → Int32 → Int32 → Int32 → Mem → Option Mem} (hK : ∀ (M : Mem) (S : St), HV M 63 X Y t N Q S pb pt → GI N A P S0 S → XK M → ∃ M' S', K 112 63 v2 v3 (nI f) (nI (g + 1)) M = some M' ∧ HV M' 63 X Y t N Q S' pb pt ∧ GI N A P S0 S' ∧ FrE M M') : ∀ (c n : Nat) (M : Mem) (S : St), c ≤ 9000 → HV M 63 X Y t N Q S pb pt → GI N A P S0 S → XK M → c + 30 ≤ n → ∃ M' S', f_X0_bringDue_89 K3 K n 112 63 v2 v3 (nI f) (nI g) (nI c) M = some M' ∧ HV M' 63 X Y t N Q S' pb pt ∧ GI N A P S0 S' ∧ FrE M M' := by
  intro c
  induction c with
  | zero =>
    intro n M S h9 p hI xk hn
    obtain ⟨n, rfl⟩ : ∃ m, n = m + 1 := ⟨n - 1, by omega⟩
    rw [f_X0_bringDue_89, if_pos (show nI 0 ≤ (0 : Int32) from Int32.le_refl _), bnd_e, nI_1]
    exact hK M S p hI xk
  | succ c ih =>
    intro n M S h9 p hI xk hn
    obtain ⟨n, rfl⟩ : ∃ m, n = m + 1 := ⟨n - 1, by omega⟩
    have q := p.1
    have hl := hI.tfl
    obtain ⟨r, er, hr⟩ := p.hg (show f < 16 by omega) (show g < 16 by omega) v3
    rw [f_X0_bringDue_89, if_neg (show ¬ nI (c + 1) ≤ (0 : Int32) from nI_ge (a := 0) (by omega) (by omega)), cs_f q, cs_h1 q, bnd_e, cs_p q, er, obd_s]
    by_cases z : r = 0
    · rw [if_pos z, bnd_e, nI_d1]
      exact ih n M S (by omega) p hI xk (by omega)
    · obtain ⟨x, rr, hx⟩ := List.exists_cons_of_ne_nil (hr.resolve_left z)
      obtain ⟨M1, e1, p1, f1⟩ := p.tbr hI.1 hA h2 h16 hf hg hx (by omega) (n := n) (by omega)
      obtain ⟨M', S', e', p', hI', f'⟩ := ih n M1 _ (by omega) p1 (hI.tb h16 hA hf hg t) (xk.fe f1.E) (by omega)
      exact ⟨M', S', by rw [if_neg z, e1, obd2_s, bnd_e, nI_d1]; exact e', p', hI', f1.E.tr f'⟩
theorem cb18 (h2 : 2 ≤ N) (h16 : N ≤ 16) (hA : A < 1048576) (hP : smN P 16 + N ≤ 9000) {t v2 v3 : Int32} {f : Nat} (hf : f < N) {K3 : Nat → Nat → Int32 → Int32 → Int32 → Mem → Option Mem} (hK : ∀ (M : Mem) (S : St), HV M 63 X Y t N Q S pb pt → GI N A P S0 S → XK M → ∃ M' S', K3 112 63 v2 v3 (nI (f + 1)) M = some M' ∧ HV M' 63 X Y t N Q S' pb pt ∧ GI N A P S0 S' ∧ FrE M M') : ∀ (e g n : Nat) (M : Mem) (S : St), g + e = N → HV M 63 X Y t N Q S pb pt → GI N A P S0 S → XK M → e + 9100 ≤ n → ∃ M' S', f_X0_bringDue_18 K3 n 112 63 v2 v3 (nI f) (nI g) M = some M' ∧ HV M' 63 X Y t N Q S' pb pt ∧ GI N A P S0 S' ∧ FrE M M' := by
  intro e
  induction e with
  | zero =>
    intro g n M S hg p hI xk hn
    obtain ⟨n, rfl⟩ : ∃ m, n = m + 1 := ⟨n - 1, by omega⟩
    have q := p.1
    rw [f_X0_bringDue_18, cs_f q, cs_h0 q, bnd_e, cs_s q, p.2.2.2.2.2.1, if_pos (nI_le (by omega) (by omega)), bnd_e, nI_1]
    exact hK M S p hI xk
  | succ e ih =>
    intro g n M S hg p hI xk hn
    obtain ⟨n, rfl⟩ : ∃ m, n = m + 1 := ⟨n - 1, by omega⟩
    have q := p.1
    have f6 : f < 16 := by omega
    have hl : 16 * f + g < 256 := by omega
    have hfl := hI.tfl
    have hx := xL_le (S := S) hl
    rw [f_X0_bringDue_18, cs_f q, cs_h0 q, bnd_e, cs_s q, p.2.2.2.2.2.1, if_neg (nI_ge (by omega) (by omega)), cs_h1 q, bnd_e, cs_p q, cs_r5 q, bnd_e, cs_a5 q, cs_i5 q f6]
    by_cases z : mI M (63 + 5) (nI f).toNatClampNeg = 0
    · rw [if_pos z, bnd_e, nI_1]
      exact hK M S p hI xk
    · rw [if_neg z, chk_t xk.1, xk.2.1, bnd_e, chk_t xk.2.2.1, c16', xk.2.2.2, chk_t (inB_n hl (by decide))]
      have nx : ∀ (M : Mem) (S : St), HV M 63 X Y t N Q S pb pt → GI N A P S0 S → XK M → ∃ M' S', f_X0_bringDue_18 K3 n 112 63 v2 v3 (nI f) (nI (g + 1)) M = some M' ∧ HV M' 63 X Y t N Q S' pb pt ∧ GI N A P S0 S' ∧ FrE M M' := fun M S p hI xk => ih (g + 1) n M S (by omega) p hI xk (by omega)
      by_cases y : mI M 113 (nI (16 * f + g)).toNatClampNeg = v2
      · rw [if_pos y, f_X0_bringDue_65, if_neg ne10, cs_f q, cs_h1 q, bnd_e, cs_p q, f_X5_countOn, cs_p q, cs_r4 q, bnd_e, cs_a4 q, c16', cs_i4 q hl, obd_s, show mI M (63 + 4) (nI (16 * f + g)).toNatClampNeg = nI (xL S (16 * f + g)).length by rw [mI_c (by omega)]; exact p.cn hl]
        exact cb89 h2 h16 hA hP hf (by omega) nx (xL S (16 * f + g)).length n M S (by omega) p hI xk (by omega)
      · rw [if_neg y, f_X0_bringDue_65, if_pos rfl]
        exact cb89 h2 h16 hA hP hf (by omega) nx 0 n M S (by omega) p hI xk (by omega)
theorem cb3 (h2 : 2 ≤ N) (h16 : N ≤ 16) (hA : A < 1048576) (hP : smN P 16 + N ≤ 9000) {t v2 v3 : Int32} : ∀ (e f n : Nat) (M : Mem) (S : St), f + e = N → HV M 63 X Y t N Q S pb pt → GI N A P S0 S → XK M → e + 9200 ≤ n → ∃ M' S', f_X0_bringDue_3 n 112 63 v2 v3 (nI f) M = some M' ∧ HV M' 63 X Y t N Q S' pb pt ∧ GI N A P S0 S' ∧ FrE M M' := by
  intro e
  induction e with
  | zero =>
    intro f n M S hf p hI xk hn
    obtain ⟨n, rfl⟩ : ∃ m, n = m + 1 := ⟨n - 1, by omega⟩
    have q := p.1
    exact ⟨M, S, by rw [f_X0_bringDue_3, cs_f q, cs_h0 q, bnd_e, cs_s q, p.2.2.2.2.2.1, if_pos (nI_le (by omega) (by omega))], p, hI, FrE.rf _⟩
  | succ e ih =>
    intro f n M S hf p hI xk hn
    obtain ⟨n, rfl⟩ : ∃ m, n = m + 1 := ⟨n - 1, by omega⟩
    have q := p.1
    rw [f_X0_bringDue_3, cs_f q, cs_h0 q, bnd_e, cs_s q, p.2.2.2.2.2.1, if_neg (nI_ge (by omega) (by omega))]
    exact cb18 h2 h16 hA hP (by omega) (fun M S p hI xk => ih (f + 1) n M S (by omega) p hI xk (by omega)) N 0 n M S (by omega) p hI xk (by omega)
/-- what a time's end leaves to do -/
theorem cb107 {t v2 u0 : Int32} {τ n : Nat} {K : Nat → Nat → Int32 → Int32 → Mem → Option Mem} (hK : ∀ (M : Mem) (S : St), HV M 63 X Y t N Q S pb pt → GI N A P S0 S → XK M → ∃ M' S' t', K 112 63 v2 (nI (τ + 1)) M = some M' ∧ HV M' 63 X Y t' N Q S' pb pt ∧ FrE M M') {M : Mem} {S : St} (p : HV M 63 X Y t N Q S pb pt) (hI : GI N A P S0 S) (xk : XK M) : ∃ M' S' t', f_X0_run_107 K n 112 63 v2 (nI τ) u0 112 M = some M' ∧ HV M' 63 X Y t' N Q S' pb pt ∧ FrE M M' := by
  have f1 : FrE M (sI M 112 2 u0) := FrE.sI (by omega)
  have p1 := p.w112 (k := 2) (x := u0)
  have x1 := xk.fe f1
  rw [f_X0_run_107, chk_t xk.1, bnd_e]
  generalize sI M 112 2 u0 = M1 at f1 p1 x1
  have r127 : ∀ y z : Int32, ∃ M' S' t', f_X0_run_127 K n 112 63 v2 (nI τ) y z 112 M1 = some M' ∧ HV M' 63 X Y t' N Q S' pb pt ∧ FrE M1 M' := by
    intro y z
    have f2 : FrE M1 (sI M1 112 3 (z + y)) := FrE.sI (by omega)
    have p2 := p1.w112 (k := 3) (x := z + y)
    have x2 := x1.fe f2
    rw [f_X0_run_127, chk_t x1.1, bnd_e]
    generalize sI M1 112 3 (z + y) = M2 at f2 p2 x2
    rw [cs_f p2.1]
    by_cases c : mI M2 63 7 = 0
    · rw [if_pos c, cs_h1 p2.1, bnd_e, cs_p p2.1]
      by_cases c2 : mI M2 (63 + 1) 10 = 0
      · have f3 : FrE M2 (sI M2 112 1 (nI τ)) := FrE.sI (by omega)
        obtain ⟨M', S', t', e', p', f'⟩ := hK (sI M2 112 1 (nI τ)) S p2.w112 hI (x2.fe f3)
        exact ⟨M', S', t', by rw [if_pos c2, chk_t x2.1, bnd_e, bnd_e, nI_1]; exact e', p', f2.tr (f3.tr f')⟩
      · obtain ⟨M', S', t', e', p', f'⟩ := hK M2 S p2 hI x2
        exact ⟨M', S', t', by rw [if_neg c2, bnd_e, nI_1]; exact e', p', f2.tr f'⟩
    · obtain ⟨M', S', t', e', p', f'⟩ := hK M2 S p2 hI x2
      exact ⟨M', S', t', by rw [if_neg c, bnd_e, nI_1]; exact e', p', f2.tr f'⟩
  by_cases c : mI M1 63 7 = 0
  · obtain ⟨M', S', t', e', p', f'⟩ := r127 1 (mI M1 112 3)
    exact ⟨M', S', t', by rw [chk_t x1.1, cs_f p1.1, if_pos c]; exact e', p', f1.tr f'⟩
  · obtain ⟨M', S', t', e', p', f'⟩ := r127 0 (mI M1 112 3)
    exact ⟨M', S', t', by rw [chk_t x1.1, cs_f p1.1, if_neg c]; exact e', p', f1.tr f'⟩
theorem cb66 (h2 : 2 ≤ N) (h16 : N ≤ 16) (hA : A < 1048576) (hP : smN P 16 + N ≤ 9000) {t v2 v4 : Int32} {τ : Nat} {K : Nat → Nat → Int32 → Int32 → Mem → Option Mem} (hK : ∀ (M : Mem) (S : St), HV M 63 X Y t N Q S pb pt → GI N A P S0 S → XK M → ∃ M' S' t', K 112 63 v2 (nI (τ + 1)) M = some M' ∧ HV M' 63 X Y t' N Q S' pb pt ∧ FrE M M') : ∀ (k n : Nat) (M : Mem) (S : St), k ≤ 9 → HV M 63 X Y t N Q S pb pt → GI N A P S0 S → XK M → k + 9300 ≤ n → ∃ M' S' t', f_X0_run_66 K n 112 63 v2 (nI τ) v4 (nI k) M = some M' ∧ HV M' 63 X Y t' N Q S' pb pt ∧ FrE M M' := by
  intro k
  induction k with
  | zero =>
    intro n M S hk p hI xk hn
    obtain ⟨n, rfl⟩ : ∃ m, n = m + 1 := ⟨n - 1, by omega⟩
    rw [f_X0_run_66, if_pos (show nI 0 < (1 : Int32) by decide), cs_f p.1]
    by_cases c : mI M 63 11 ≤ v4
    · rw [if_pos c, chk_t xk.1]; exact cb107 hK p hI xk
    · rw [if_neg c]; exact cb107 hK p hI xk
  | succ k ih =>
    intro n M S hk p hI xk hn
    obtain ⟨n, rfl⟩ : ∃ m, n = m + 1 := ⟨n - 1, by omega⟩
    obtain ⟨M1, S1, e1, p1, hI1, f1⟩ := cb3 h2 h16 hA hP (v2 := nI (k + 1)) (v3 := nI τ - nI (k + 1)) N 0 n M S (by omega) p hI xk (by omega)
    obtain ⟨M', S', t', e', p', f'⟩ := ih n M1 S1 (by omega) p1 hI1 (xk.fe f1) (by omega)
    exact ⟨M', S', t', by rw [f_X0_run_66, if_neg (show ¬ nI (k + 1) < (1 : Int32) from nI_nl (a := k + 1) (b := 1) (by omega) (by omega)), chk_t xk.1, f_X0_bringDue, show f_X0_bringDue_3 n 112 63 (nI (k + 1)) (nI τ - nI (k + 1)) 0 M = some M1 from e1, obd_s, bnd_e, nI_d1]; exact e', p', f1.tr f'⟩
theorem cb19 (h2 : 2 ≤ N) (h16 : N ≤ 16) (hA : A < 1048576) (hP : smN P 16 + N ≤ 9000) (v2 : Int32) : ∀ (d τ n : Nat) (M : Mem) (S : St) (t : Int32), τ + d = 300 → HV M 63 X Y t N Q S pb pt → GI N A P S0 S → XK M → d + 9400 ≤ n → ∃ M' S' t', f_X0_run_19 n 112 63 v2 (nI τ) M = some M' ∧ HV M' 63 X Y t' N Q S' pb pt ∧ FrE M M' := by
  intro d
  induction d with
  | zero =>
    intro τ n M S t hi p hI xk hn
    obtain ⟨n, rfl⟩ : ∃ m, n = m + 1 := ⟨n - 1, by omega⟩
    exact ⟨M, S, t, by rw [f_X0_run_19, if_pos (show (300 : Int32) ≤ nI τ from nI_le (a := 300) (by omega) (by omega))], p, FrE.rf M⟩
  | succ d ih =>
    intro τ n M S t hi p hI xk hn
    obtain ⟨n, rfl⟩ : ∃ m, n = m + 1 := ⟨n - 1, by omega⟩
    rw [f_X0_run_19, if_neg (show ¬ (300 : Int32) ≤ nI τ from nI_ge (b := 300) (by omega) (by decide)), chk_t xk.1]
    by_cases c : mI M 112 1 = 300
    · rw [if_pos c, cs_f p.1, bnd_e, cs_h1 p.1, bnd_e, cs_p p.1, bnd_e]
      have f1 : FrE M (sI M (63 + 1) 11 (nI τ)) := FrE.sI (by omega)
      have p1 := p.tt (nI τ)
      have x1 := xk.fe f1
      generalize sI M (63 + 1) 11 (nI τ) = M1 at f1 p1 x1
      obtain ⟨M2, S2, e2, p2, hI2, f2⟩ := clw h16 hP (nI τ - v2) N 0 n M1 S (nI τ) (by omega) p1 hI (by omega)
      have x2 := x1.fe f2.E
      have em : (if nI τ < (9 : Int32) then nI τ else (9 : Int32)) = nI (min τ 9) := by
        by_cases z : τ < 9
        · rw [if_pos (show nI τ < (9 : Int32) from nI_lt (b := 9) z (by decide)), Nat.min_eq_left (by omega)]
        · rw [if_neg (show ¬ nI τ < (9 : Int32) from nI_nl (a := τ) (b := 9) (by omega) (by omega)), Nat.min_eq_right (by omega)]
          rfl
      obtain ⟨M', S', t', e', p', f'⟩ := cb66 h2 h16 hA hP (t := nI τ) (v2 := v2) (v4 := mI M 63 11) (τ := τ) (K := f_X0_run_19 n) (fun M S p hI xk => ih (τ + 1) n M S (nI τ) (by omega) p hI xk (by omega)) (min τ 9) n M2 S2 (Nat.min_le_right _ _) p2 hI2 x2 (by have := Nat.min_le_right τ 9; omega)
      exact ⟨M', S', t', by rw [f_X0_leaveWhoCameBy, show f_X0_leaveWhoCameBy_2 n 63 (nI τ - v2) 0 M1 = some M2 from e2, obd_s, em, bnd_e]; exact e', p', f1.tr (f2.E.tr f')⟩
    · exact ⟨M, S, t, by rw [if_neg c], p, FrE.rf M⟩
theorem cbrun (h2 : 2 ≤ N) (h16 : N ≤ 16) (hA : A < 1048576) (hP : smN P 16 + N ≤ 9000) (v2 : Int32) {n : Nat} {M : Mem} {S : St} {t : Int32} (p : HV M 63 X Y t N Q S pb pt) (hI : GI N A P S0 S) (xk : XK M) (hn : 10000 ≤ n) : ∃ M' S' t', f_X0_run n 112 63 v2 M = some M' ∧ HV M' 63 X Y t' N Q S' pb pt ∧ FrE M M' := by
  have f1 : FrE M (sI M 112 1 300) := FrE.sI (by omega)
  have f2 : FrE (sI M 112 1 300) (sI (sI M 112 1 300) 112 2 (-1)) := FrE.sI (by omega)
  have f3 : FrE (sI (sI M 112 1 300) 112 2 (-1)) (sI (sI (sI M 112 1 300) 112 2 (-1)) 112 3 0) := FrE.sI (by omega)
  have fx := f1.tr (f2.tr f3)
  obtain ⟨M', S', t', e', p', f'⟩ := cb19 h2 h16 hA hP v2 300 0 n _ S t rfl ((p.w112.w112).w112) hI (xk.fe fx) (by omega)
  exact ⟨M', S', t', by rw [f_X0_run, chk_t xk.1, bnd_e, bnd_e, bnd_e]; exact e', p', fx.tr f'⟩
end
/-- the class stands, but for the clock's own numbers -/
theorem CW.k112 {M M' : Mem} {N : Nat} {Q : Nat → Int32} {S : St} (h : CW M N Q S) (e : M'.1 = M.1) (hI : ∀ o, o ≠ 112 → ∀ b, mI M' o b = mI M o b) (hl : ∀ o b, mL M' o b = mL M o b) : CW M' N Q S := by
  obtain ⟨X, Y, L, p, sb, xg, xc, xv, xs, g, hL⟩ := h
  have s1 : Shp1 M M' := Shp1.e e
  exact ⟨X, Y, L, p.kp6 e (fun o ho b => hI o (by omega) b), sb.e e (hI 1 (by decide)) (hI 2 (by decide)), xg.s s1, xc.s s1 (hI 113 (by decide)) (fun _ _ => rfl), xv.s s1 (hI 5 (by decide)) (hI 6 (by decide)) (hI 8 (by decide)) (fun _ o _ b => hl o b) (fun _ => rfl) rfl, xs.e e (fun o ho b => hI o (by omega) b), g.e e, hL⟩
theorem FrE.cw {M M' : Mem} {N X0 Y0 : Nat} {Q Q' : Nat → Int32} {S S' : St} {t : Int32} {pb pt : List Row4} (f : FrE M M') (p : HV M' 63 X0 Y0 t N Q' S' pb pt) (fin : ∀ (M' : Mem) (t : Int32) (Q' : Nat → Int32) (S' : St) (pb' pt' : List Row4), FrD M M' 63 → HV M' 63 X0 Y0 t N Q' S' pb' pt' → CW M' N Q S) : CW M' N Q S := by
  obtain ⟨f1, f2, f3, f4, f5, f6⟩ := f
  have o : ∀ o, o ≠ 112 → ∀ b, mI (M'.1, (fun a b => if a = 112 then mI M 112 b else mI M' a b), M'.2.2) o b = mI M' o b := fun o n b => if_neg n
  have fh : FrH M (M'.1, (fun a b => if a = 112 then mI M 112 b else mI M' a b), M'.2.2) 63 := by
    refine ⟨f1, f2, f3, fun a ha h1 h5 h6 h7 b => ?_, f5, f6⟩
    by_cases c : a = 112
    · rw [c]
      show (if 112 = 112 then mI M 112 b else mI M' 112 b) = mI M 112 b
      rw [if_pos rfl]
    · rw [o a c]; exact f4 a ha (by omega) h5 h6 h7 b
  have p2 := p.kp (M' := (M'.1, (fun a b => if a = 112 then mI M 112 b else mI M' a b), M'.2.2)) rfl (fun a ha b => o a (by omega) b)
  exact (fin _ t Q' S' pb pt fh.D p2).k112 rfl (fun a n b => (o a n b).symm) (fun _ _ => rfl)
/-! ===== the reference's clock ===== -/
theorem RV.cf {M M' : Mem} {t : Int32} {S : St} {pb pt : List Row4} (h : RV M false t S pb pt) (e1 : M'.1 = M.1) (e2 : mI M' 120 3 = mI M 120 3) (e3 : ∀ b, mI M' 121 b = mI M 121 b) : RV M' false t S pb pt := by
  obtain ⟨hS, ht, hA, hw, hl, hb1, hb2⟩ := h
  exact ⟨hS.e e1, e2.trans ht, fun k i hv => (e3 _).trans (hA k i hv), hw.cg (fun b _ _ => e3 b) rfl, ⟨(e3 _).trans hl.1, hl.2.1, fun i q hq => ⟨(e3 _).trans (hl.2.2 i q hq).1, fun z => by cases z⟩⟩, hb1.cg (e3 _) (fun b _ _ => e3 b), hb2.cg (e3 _) (fun b _ _ => e3 b)⟩
def P123 (o : Nat) : Prop := o = 123
theorem gz_l {t a b x : Int32} {S : St} {pb pt : List Row4} : ∀ (d i n : Nat) (M : Mem), i + d = (fl S).length → RV M false t S pb pt → (∀ j, j < i → mI M 123 j = 0) → d + 1 ≤ n → ∃ M' n', f_X10_goClock_12 n 120 a b x (nI i) M = f_X10_goClock_42 n' 120 a b x 0 M' ∧ n ≤ n' + d + 1 ∧ RV M' false t S pb pt ∧ (∀ j, j < (fl S).length → mI M' 123 j = 0) ∧ Fr P123 M M' := by
  intro d
  induction d with
  | zero =>
    intro i n M hi r hz hn
    obtain ⟨n, rfl⟩ : ∃ m, n = m + 1 := ⟨n - 1, by omega⟩
    have h9 := r.2.2.2.2.1.2.1
    refine ⟨M, n, ?_, by omega, r, fun j hj => hz j (by omega), Fr.rf _ _⟩
    rw [f_X10_goClock_12, rs_f r.1, rs_0 r.1, bnd_e, rs_fa r.1, l850, rs_c r.1 (by decide), cl_n (by decide), r.2.2.2.2.1.1, if_pos (nI_le (by omega) (by omega))]
  | succ d ih =>
    intro i n M hi r hz hn
    obtain ⟨n, rfl⟩ : ∃ m, n = m + 1 := ⟨n - 1, by omega⟩
    have h9 := r.2.2.2.2.1.2.1
    have fa : Fr P123 M (sI M 123 i 0) := Fr.tsI (show P123 123 from rfl)
    have ra : RV (sI M 123 i 0) false t S pb pt := r.cf rfl (mI_o _ _ _ _ _ (by decide)) (fun b => mI_o _ _ _ _ _ (by decide))
    obtain ⟨M', n', e', hn', r', z', f'⟩ := ih (i + 1) n _ (by omega) ra (fun j hj => by
      by_cases c : j = i
      · rw [c, mI_s]
      · rw [mI_n _ _ _ _ c]; exact hz j (by omega)) (by omega)
    refine ⟨M', n', ?_, by omega, r', z', fa.tr f'⟩
    rw [f_X10_goClock_12, rs_f r.1, rs_0 r.1, bnd_e, rs_fa r.1, l850, rs_c r.1 (by decide), cl_n (by decide), r.2.2.2.2.1.1, if_neg (nI_ge (by omega) (by omega)), rs_2 r.1, bnd_e, rs_fw r.1, rs_cw r.1 (by omega), sI_c (by omega), bnd_e, bnd_e, nI_1]
    exact e'
theorem fl_fS (S : St) : fl (fS 0 S S) = (fl S).map fun q => (q.1, wn 0 q.2) := by
  unfold fl
  rw [List.map_flatMap]
  refine fm_cg _ (fun l _ => ?_)
  show ((xL S l).map (wn 0)).map (fun x => (l, x)) = ((xL S l).map fun x => (l, x)).map fun q => (q.1, wn 0 q.2)
  rw [List.map_map, List.map_map]
  rfl
theorem zs_of {M : Mem} {t : Int32} {S : St} {pb pt : List Row4} (r : RV M false t S pb pt) (hz : ∀ j, j < (fl S).length → mI M 123 j = 0) : RV M true t (fS 0 S S) pb pt := by
  obtain ⟨hS, ht, hA, hw, hl, hb1, hb2⟩ := r
  refine ⟨hS, ht, fun k i hv => hA k i hv, hw, ⟨by rw [fl_fS, List.length_map]; exact hl.1, by rw [fl_fS, List.length_map]; exact hl.2.1, fun i q hq => ?_⟩, hb1, hb2⟩
  rw [fl_fS, List.getElem?_map] at hq
  cases e : (fl S)[i]? with
  | none => rw [e] at hq; cases hq
  | some q0 =>
    rw [e] at hq
    have hq' : (q0.1, wn 0 q0.2) = q := Option.some.inj hq
    rw [← hq']
    exact ⟨(hl.2.2 i q0 e).1, fun _ => by rw [Nat.zero_add, hz i (gl_lt e)]; rfl⟩
theorem RV.s120 {M : Mem} {tw : Bool} {t : Int32} {S : St} {pb pt : List Row4} (r : RV M tw t S pb pt) {k : Nat} (hk : k ≠ 3) (x : Int32) : RV (sI M 120 k x) tw t S pb pt :=
  r.cg rfl (mI_n _ _ _ _ (fun z => hk z.symm)) (fun b => mI_o _ _ _ _ _ (by decide)) (fun b => mI_o _ _ _ _ _ (by decide))
theorem RV.s130 {M : Mem} {tw : Bool} {t : Int32} {S : St} {pb pt : List Row4} (r : RV M tw t S pb pt) (k : Nat) (x : Int32) : RV (sI M 130 k x) tw t S pb pt :=
  r.cg rfl (mI_o _ _ _ _ _ (by decide)) (fun b => mI_o _ _ _ _ _ (by decide)) (fun b => mI_o _ _ _ _ _ (by decide))
theorem RV.st3 {M : Mem} {tw : Bool} {t : Int32} {S : St} {pb pt : List Row4} (r : RV M tw t S pb pt) (x : Int32) : RV (sI M 120 3 x) tw x S pb pt := by
  obtain ⟨hS, ht, hA, hw, hl, hb1, hb2⟩ := r
  have e : ∀ b, mI (sI M 120 3 x) 121 b = mI M 121 b := fun b => mI_o _ _ _ _ _ (by decide)
  have e3 : ∀ b, mI (sI M 120 3 x) 123 b = mI M 123 b := fun b => mI_o _ _ _ _ _ (by decide)
  exact ⟨hS.e rfl, mI_s _ _ _ _, fun k i hv => (e _).trans (hA k i hv), hw.cg (fun b _ _ => e b) rfl, ⟨(e _).trans hl.1, hl.2.1, hl.2.2.cg fun j _ _ => ⟨e _, e3 _⟩⟩, hb1.cg (e _) (fun b _ _ => e b), hb2.cg (e _) (fun b _ _ => e b)⟩
theorem fl_at {S : St} {a k : Nat} {x : Ltr} (ha : a < 256) (hk : (xL S a)[k]? = some x) : (fl S)[(flr (xL S) 0 a).length + k]? = some (a, x) := by
  have hk2 := gl_lt hk
  rw [fl_r, flr_split _ a ha, List.append_assoc, List.getElem?_append_right (by omega), Nat.add_sub_cancel_left, List.getElem?_append_left (by rw [List.length_map]; exact hk2), List.getElem?_map, hk]
  rfl
theorem fL_s (S : St) (a : Nat) : (flr (xL S) 0 (a + 1)).length = (flr (xL S) 0 a).length + (xL S a).length := by
  rw [fl_smN, fl_smN]; rfl
/-- none is due, or where one lies that is -/
def DP (t : Int32) (dl : Nat → Int32) (S : St) (v : Int32) : Prop := v = -1 ∨ ∃ l x r, l < 256 ∧ xL S l = x :: r ∧ v = nI (flr (xL S) 0 l).length ∧ due t dl l x = true
section
variable {t : Int32} {S : St} {pb pt : List Row4} {M : Mem}
theorem due_k (r : RV M true t S pb pt) {a : Nat} (ha : a < 256) (v1 : Int32) : ∀ (e k n : Nat), k + e = (xL S a).length → f_X10_dueLetter_6 M (n + e) 120 v1 (nI a) (nI ((flr (xL S) 0 a).length + k)) = f_X10_dueLetter_6 M n 120 v1 (nI a) (nI ((flr (xL S) 0 a).length + (xL S a).length)) := by
  intro e
  induction e with
  | zero => intro k n hk; rw [show k = (xL S a).length by omega]; rfl
  | succ e ih =>
    intro k n hk
    have h9 := r.2.2.2.2.1.2.1
    obtain ⟨x, hx⟩ : ∃ x, (xL S a)[k]? = some x := ⟨_, List.getElem?_eq_getElem (show k < (xL S a).length by omega)⟩
    have hq := fl_at ha hx
    have hlt := gl_lt hq
    have g := r.2.2.2.2.1.2.2 _ _ hq
    rw [Nat.zero_add] at g
    rw [show n + (e + 1) = (n + e) + 1 by omega, f_X10_dueLetter_6, rs_f r.1, rs_0 r.1, bnd_e, rs_fa r.1, l850, rs_c r.1 (by decide), cl_n (by decide), r.2.2.2.2.1.1, if_neg (nI_ge (by omega) (by omega)), bnd_e, rs_fa r.1, c851, rs_c r.1 (by omega), f_X10_pairOf, mI_c (by omega), g.1, enc_pair ha, obd_s, if_pos rfl, bnd_e, nI_1, Nat.add_assoc]
    exact ih (k + 1) n (by omega)
theorem due_l (r : RV M true t S pb pt) {dl : Nat → Int32} (hdl : ∀ l, l < 256 → xR S 19 l = dl l) : ∀ (d a n : Nat) (v1 : Int32) (o : Option Nat), a + d = 256 → (∀ l, o = some l → l < a) → DP t dl S v1 → (flr (xL S) a d).length + 1 ≤ n → ∃ v, f_X10_dueLetter_6 M n 120 v1 (lastI o) (nI (flr (xL S) 0 a).length) = some v ∧ DP t dl S v := by
  have h9 := r.2.2.2.2.1.2.1
  intro d
  induction d with
  | zero =>
    intro a n v1 o ha ho hd hn
    obtain ⟨n, rfl⟩ : ∃ m, n = m + 1 := ⟨n - 1, by omega⟩
    have e : (flr (xL S) 0 a).length = (fl S).length := by rw [fl_r, show a = 256 by omega]
    exact ⟨v1, by rw [f_X10_dueLetter_6, rs_f r.1, rs_0 r.1, bnd_e, rs_fa r.1, l850, rs_c r.1 (by decide), cl_n (by decide), r.2.2.2.2.1.1, e, if_pos (Int32.le_refl _)], hd⟩
  | succ d ih =>
    intro a n v1 o ha ho hd hn
    have a256 : a < 256 := by omega
    rw [flr_len_s] at hn
    cases hL : xL S a with
    | nil =>
      have e : (flr (xL S) 0 (a + 1)).length = (flr (xL S) 0 a).length := by rw [fL_s, hL]; rfl
      rw [← e]
      rw [hL] at hn
      exact ih (a + 1) n v1 o (by omega) (fun l q => by have := ho l q; omega) hd (by simp at hn; omega)
    | cons x rr =>
      have len : (xL S a).length = rr.length + 1 := by rw [hL]; rfl
      have hx : (xL S a)[0]? = some x := by rw [hL]; rfl
      have hq := fl_at a256 hx
      rw [Nat.add_zero] at hq
      have hlt := gl_lt hq
      have g := r.2.2.2.2.1.2.2 _ _ hq
      rw [Nat.zero_add] at g
      obtain ⟨g1, g2⟩ := g
      have g2 := g2 rfl
      have ne : ¬ nI a = lastI o := by
        cases o with
        | none => exact fun q => m1_ne' a a256 q.symm
        | some l =>
          intro q
          have h5 := ho l rfl
          have h6 := (nI_eq (a := a) (b := l) (by omega) (by omega)).mp q
          omega
      have h19 : mI M 121 (10209 + a) = dl a := (r.rg (k := 19) (i := a) (by unfold vk; omega)).trans (hdl a a256)
      obtain ⟨m, hm⟩ : ∃ m, n = (m + rr.length) + 1 := ⟨n - 1 - rr.length, by rw [len] at hn; omega⟩
      have go : ∀ v, DP t dl S v → ∃ v', f_X10_dueLetter_6 M (m + rr.length) 120 v (nI a) (nI ((flr (xL S) 0 a).length + 1)) = some v' ∧ DP t dl S v' := by
        intro v hv
        rw [due_k r a256 v rr.length 1 m (by omega), ← fL_s]
        exact ih (a + 1) m v (some a) (by omega) (fun l q => by cases q; omega) hv (by rw [len] at hn; omega)
      have op : ∀ y, (if t < x.2.2 + dl a then f_X10_dueLetter_6 M (m + rr.length) 120 v1 (nI a) (nI ((flr (xL S) 0 a).length + 1)) else if v1 = (-1 : Int32) then f_X10_dueLetter_6 M (m + rr.length) 120 (nI (flr (xL S) 0 a).length) (nI a) (nI ((flr (xL S) 0 a).length + 1)) else chk (inB v1 (mLn M 123)) <| if mI M 123 v1.toNatClampNeg ≤ mI M 123 (nI (flr (xL S) 0 a).length).toNatClampNeg then f_X10_dueLetter_6 M (m + rr.length) 120 v1 (nI a) (nI ((flr (xL S) 0 a).length + 1)) else f_X10_dueLetter_6 M (m + rr.length) 120 (nI (flr (xL S) 0 a).length) (nI a) (nI ((flr (xL S) 0 a).length + 1))) = y → f_X10_dueLetter_6 M n 120 v1 (lastI o) (nI (flr (xL S) 0 a).length) = y := by
        intro y hy
        rw [hm, f_X10_dueLetter_6, rs_f r.1, rs_0 r.1, bnd_e, rs_fa r.1, l850, rs_c r.1 (by decide), cl_n (by decide), r.2.2.2.2.1.1, if_neg (nI_ge hlt (by omega)), bnd_e, rs_fa r.1, c851, rs_c r.1 (by omega), f_X10_pairOf, mI_c (by omega), g1, enc_pair a256, obd_s, if_neg ne, rs_2 r.1, bnd_e, rs_fw r.1, rs_cw r.1 (by omega), bnd_e, rs_fa r.1, show (10209 : Int32) + nI (a, x).1 = nI (10209 + a) by rw [show (10209 : Int32) = nI 10209 from rfl, nI_add], rs_c r.1 (by omega), r.2.1, show mI M 123 (nI (flr (xL S) 0 a).length).toNatClampNeg = x.2.2 by rw [mI_c (by omega)]; exact g2, show mI M 121 (nI (10209 + a)).toNatClampNeg = dl a by rw [mI_c (by omega)]; exact h19]
        by_cases c : t < x.2.2 + dl a
        · rw [if_pos c] at hy ⊢
          rw [bnd_e, nI_1]; exact hy
        · rw [if_neg c] at hy ⊢
          by_cases c1 : v1 = (-1 : Int32)
          · rw [if_pos c1] at hy ⊢
            rw [bnd_e, nI_1]; exact hy
          · rw [if_neg c1] at hy ⊢
            rw [bnd_e, rs_fw r.1, rs_cw r.1 (by omega), bnd_e, rs_fw r.1, bnd_e, nI_1, bnd_e]
            exact hy
      have dp : ¬ t < x.2.2 + dl a → DP t dl S (nI (flr (xL S) 0 a).length) := fun c => Or.inr ⟨a, x, rr, a256, hL, rfl, by unfold due; rw [decide_eq_false c]; rfl⟩
      by_cases c : t < x.2.2 + dl a
      · obtain ⟨v', e', d'⟩ := go v1 hd
        exact ⟨v', op _ (by rw [if_pos c]; exact e'), d'⟩
      · obtain ⟨v', e', d'⟩ := go _ (dp c)
        by_cases c1 : v1 = (-1 : Int32)
        · exact ⟨v', op _ (by rw [if_neg c, if_pos c1]; exact e'), d'⟩
        · obtain ⟨l, y, rl, hl, ey, ev, _⟩ := hd.resolve_left c1
          have hql := fl_at hl (show (xL S l)[0]? = some y by rw [ey]; rfl)
          rw [Nat.add_zero] at hql
          have hlt2 := gl_lt hql
          have ci : chk (inB v1 (mLn M 123)) = fun x : Option Int32 => x := by
            funext x
            rw [ev]; exact rs_cw r.1 (by omega) x
          by_cases c2 : mI M 123 v1.toNatClampNeg ≤ mI M 123 (nI (flr (xL S) 0 a).length).toNatClampNeg
          · obtain ⟨v2, e2, d2⟩ := go v1 hd
            exact ⟨v2, op _ (by rw [if_neg c, if_neg c1, ci, if_pos c2]; exact e2), d2⟩
          · exact ⟨v', op _ (by rw [if_neg c, if_neg c1, ci, if_neg c2]; exact e'), d'⟩
theorem RV.due (r : RV M true t S pb pt) {dl : Nat → Int32} (hdl : ∀ l, l < 256 → xR S 19 l = dl l) {n : Nat} (hn : 9100 ≤ n) : ∃ v, f_X10_dueLetter n 120 M = some v ∧ DP t dl S v := by
  have h9 := r.2.2.2.2.1.2.1
  rw [fl_r] at h9
  obtain ⟨v, e, d⟩ := due_l r hdl 256 0 n (-1) none rfl (fun l q => by cases q) (Or.inl rfl) (by omega)
  exact ⟨v, e, d⟩
end
/-! ===== the reference's clock: a time, and all times ===== -/
def FrY (M M' : Mem) : Prop := M'.1 = M.1 ∧ (∀ o, (o < 120 ∨ 130 < o) ∨ o = 126 → ∀ b, mI M' o b = mI M o b) ∧ (∀ b, b < 22 → b ≠ 3 → mI M' 120 b = mI M 120 b) ∧ ∀ o b, mL M' o b = mL M o b
theorem FrY.rf (M : Mem) : FrY M M := ⟨rfl, fun _ _ _ => rfl, fun _ _ _ => rfl, fun _ _ => rfl⟩
theorem FrY.tr {M M' M'' : Mem} (h : FrY M M') (h' : FrY M' M'') : FrY M M'' := ⟨h'.1.trans h.1, fun o n b => (h'.2.1 o n b).trans (h.2.1 o n b), fun b n n' => (h'.2.2.1 b n n').trans (h.2.2.1 b n n'), fun o b => (h'.2.2.2 o b).trans (h.2.2.2 o b)⟩
theorem FrY.pa {M M' : Mem} (f : Fr PA M M') : FrY M M' := ⟨f.1, fun o n b => f.2.1 o (by unfold PA; omega) b, fun b _ _ => f.2.1 120 (by unfold PA; omega) b, f.2.2⟩
theorem FrY.s120 {M : Mem} {k : Nat} {x : Int32} (h : k = 3 ∨ 22 ≤ k) : FrY M (sI M 120 k x) := ⟨rfl, fun o n b => mI_o _ _ _ _ _ (by omega), fun b n n' => mI_n _ _ _ _ (by omega), fun _ _ => rfl⟩
theorem FrY.s130 {M : Mem} {k : Nat} {x : Int32} : FrY M (sI M 130 k x) := ⟨rfl, fun o n b => mI_o _ _ _ _ _ (by omega), fun b n n' => mI_o _ _ _ _ _ (by decide), fun _ _ => rfl⟩
section
variable {N A : Nat} {P : Nat → Nat} {S0 : St} {pb pt : List Row4} {dl : Nat → Int32}
theorem rt53 (h2 : 2 ≤ N) (h16 : N ≤ 16) (hA : A < 1048576) (hP : smN P 16 + N ≤ 9000) (hN : xR S0 20 0 = nI N) (hdl : ∀ l, l < 256 → xR S0 19 l = dl l) {t v2 : Int32} (hd : ∀ l, l < 256 → t < t + dl l) : ∀ (c n : Nat) (M : Mem) (S : St) (v3 : Int32), cnt t dl S ≤ c → RV M true t S pb pt → GI N A P S0 S → DP t dl S v3 → c + 9300 ≤ n → ∃ M' S', f_X10_goTime_53 n 120 v2 v3 M = some M' ∧ RV M' true t S' pb pt ∧ GI N A P S0 S' ∧ FrY M M' := by
  intro c
  have stop : ∀ (n : Nat) (M : Mem) (S : St), RV M true t S pb pt → GI N A P S0 S → 100 ≤ n → ∃ M' S', f_X10_goTime_53 n 120 v2 (-1) M = some M' ∧ RV M' true t S' pb pt ∧ GI N A P S0 S' ∧ FrY M M' := by
    intro n M S r hI hn
    obtain ⟨n, rfl⟩ : ∃ m, n = m + 1 := ⟨n - 1, by omega⟩
    have hN' : xR S 20 0 = nI N := by rw [hI.2.2.2.2 20 0 (by omega)]; exact hN
    obtain ⟨y, ey, _⟩ := r.insd hN' h16 (n := n) (by omega)
    rw [f_X10_goTime_53, if_pos rfl, rs_f r.1, ey, obd_s]
    by_cases z : y = 0
    · rw [if_pos z, bnd_e]
      exact ⟨_, S, rfl, r.s120 (by decide) _, hI, FrY.s120 (by omega)⟩
    · rw [if_neg z, bnd_e]
      exact ⟨_, S, rfl, r.s120 (by decide) _, hI, FrY.s120 (by omega)⟩
  induction c with
  | zero =>
    intro n M S v3 hc r hI hv hn
    rcases hv with hv | ⟨l, x, rr, hl, hx, ev, hu⟩
    · rw [hv]; exact stop n M S r hI (by omega)
    · exfalso
      have := cnt_br (N := N) (f := l / 16) (g := l % 16) (S := S) (t := t) (dl := dl) (by omega) (by rw [show 16 * (l / 16) + l % 16 = l by omega]; exact hx) hd (by rw [show 16 * (l / 16) + l % 16 = l by omega]; exact hu)
      omega
  | succ c ih =>
    intro n M S v3 hc r hI hv hn
    rcases hv with hv | ⟨l, x, rr, hl, hx, ev, hu⟩
    · rw [hv]; exact stop n M S r hI (by omega)
    · obtain ⟨n, rfl⟩ : ∃ m, n = m + 1 := ⟨n - 1, by omega⟩
      have el : 16 * (l / 16) + l % 16 = l := by omega
      have hcb := cnt_br (N := N) (f := l / 16) (g := l % 16) (S := S) (t := t) (dl := dl) (by omega) (by rw [el]; exact hx) hd (by rw [el]; exact hu)
      have hN' : xR S 20 0 = nI N := by rw [hI.2.2.2.2 20 0 (by omega)]; exact hN
      have hfl := hI.tfl
      have h9 := r.2.2.2.2.1.2.1
      have hq := fl_at hl (show (xL S l)[0]? = some x by rw [hx]; rfl)
      rw [Nat.add_zero] at hq
      have hlt := gl_lt hq
      have g := r.2.2.2.2.1.2.2 _ _ hq
      rw [Nat.zero_add] at g
      have hfg : l / 16 < N ∧ l % 16 < N := by
        apply Classical.byContradiction
        intro q
        have := (hI.1.2.2.2.2.1 l hl).2 q
        rw [hx] at this; cases this
      obtain ⟨M1, e1, r1, f1⟩ := r.tbr hN' h2 h16 (f := l / 16) (g := l % 16) (by omega) (by omega) (by rw [el]; exact hx) (Lok_of hI.1 hA hl (by rw [hx]; simp)) (Hok_of hI.1 h16 (by omega) _) (by omega) (n := n) (by omega)
      rw [el] at e1
      have hI1 := hI.tb h16 hA hfg.1 hfg.2 t
      have y1 := FrY.pa f1
      have gt : ∀ M2, RV M2 true t (br t N (l / 16) (l % 16) S) pb pt → FrY M M2 → ∃ M' S', f_X10_goTime_150 (f_X10_goTime_53 n) n 120 v2 M2 = some M' ∧ RV M' true t S' pb pt ∧ GI N A P S0 S' ∧ FrY M M' := by
        intro M2 r2 y2
        have hdl2 : ∀ l', l' < 256 → xR (br t N (l / 16) (l % 16) S) 19 l' = dl l' := fun l' hl' => by rw [hI1.2.2.2.2 19 l' (by omega)]; exact hdl l' hl'
        obtain ⟨v, e2, d2⟩ := r2.due hdl2 (n := n) (by omega)
        obtain ⟨M', S', e', r', hI', y'⟩ := ih n M2 _ v (by omega) r2 hI1 d2 (by omega)
        exact ⟨M', S', by rw [f_X10_goTime_150, rs_f r2.1, e2, obd_s]; exact e', r', hI', y2.tr y'⟩
      have op : ∀ y, (if mI M1 121 9851 = mI M 121 9851 then f_X10_goTime_150 (f_X10_goTime_53 n) n 120 v2 M1 else (if nI (l % 16) = v2 then (if mI (sI (sI M1 130 (l % 16) t) 120 22 t) 120 23 = (-1 : Int32) then f_X10_goTime_150 (f_X10_goTime_53 n) n 120 v2 (sI (sI (sI M1 130 (l % 16) t) 120 22 t) 120 23 t) else f_X10_goTime_150 (f_X10_goTime_53 n) n 120 v2 (sI (sI M1 130 (l % 16) t) 120 22 t)) else f_X10_goTime_150 (f_X10_goTime_53 n) n 120 v2 (sI (sI M1 130 (l % 16) t) 120 22 t))) = y → f_X10_goTime_53 (n + 1) 120 v2 v3 M = y := by
        intro y hy
        have n1 : ¬ nI (flr (xL S) 0 l).length = (-1 : Int32) := fun q => by
          have h1 := nI_pos (n := (flr (xL S) 0 l).length) (by omega)
          rw [q] at h1
          exact h1 (by decide)
        have t1 : mI M1 120 3 = t := r1.2.1
        have t2 : mI (sI M1 130 (l % 16) t) 120 3 = t := by rw [mI_o _ _ _ _ _ (by decide)]; exact t1
        have t3 : mI (sI (sI M1 130 (l % 16) t) 120 22 t) 120 3 = t := by rw [mI_n _ _ _ _ (by decide)]; exact t2
        rw [ev, f_X10_goTime_53, if_neg n1, rs_f r.1, rs_0 r.1, bnd_e, rs_fa r.1, c851, rs_c r.1 (by omega), f_X10_pairOf, mI_c (by omega), g.1, enc_pair hl, obd_s, chk_t (by decide), show nI (l, x).1 - nI (l, x).1 / (16 : Int32) * (16 : Int32) = nI (l % 16) from (f_pairs l hl).2, bnd_e, bnd_e, rs_fa r.1, show (9851 : Int32) = nI 9851 from rfl, rs_c r.1 (by decide), mI_c (k := 9851) (by decide), bnd_e, e1, obd2_s, rs_f r1.1, rs_0 r1.1, bnd_e, rs_fa r1.1, rs_c r1.1 (by decide), mI_c (k := 9851) (by decide)]
        by_cases c1 : mI M1 121 9851 = mI M 121 9851
        · rw [if_pos c1] at hy ⊢; exact hy
        · rw [if_neg c1] at hy ⊢
          rw [rs_19 r1.1, bnd_e, rs_f19 r1.1, rs_c19 r1.1 (by omega), bnd_e, nI_clamp (by omega), t1, bnd_e, t2]
          by_cases c2 : nI (l % 16) = v2
          · rw [if_pos c2] at hy ⊢
            by_cases c3 : mI (sI (sI M1 130 (l % 16) t) 120 22 t) 120 23 = (-1 : Int32)
            · rw [if_pos c3] at hy ⊢
              rw [t3, bnd_e]; exact hy
            · rw [if_neg c3] at hy ⊢; exact hy
          · rw [if_neg c2] at hy ⊢; exact hy
      have r3 : RV (sI (sI M1 130 (l % 16) t) 120 22 t) true t (br t N (l / 16) (l % 16) S) pb pt := (r1.s130 _ _).s120 (by decide) _
      have y3 : FrY M (sI (sI M1 130 (l % 16) t) 120 22 t) := y1.tr (FrY.tr FrY.s130 (FrY.s120 (by omega)))
      by_cases c1 : mI M1 121 9851 = mI M 121 9851
      · obtain ⟨M', S', e', R⟩ := gt M1 r1 y1
        exact ⟨M', S', op _ (by rw [if_pos c1]; exact e'), R⟩
      · by_cases c2 : nI (l % 16) = v2
        · by_cases c3 : mI (sI (sI M1 130 (l % 16) t) 120 22 t) 120 23 = (-1 : Int32)
          · obtain ⟨M', S', e', R⟩ := gt (sI (sI (sI M1 130 (l % 16) t) 120 22 t) 120 23 t) (r3.s120 (by decide) _) (y3.tr (FrY.s120 (by omega)))
            exact ⟨M', S', op _ (by rw [if_neg c1, if_pos c2, if_pos c3]; exact e'), R⟩
          · obtain ⟨M', S', e', R⟩ := gt _ r3 y3
            exact ⟨M', S', op _ (by rw [if_neg c1, if_pos c2, if_neg c3]; exact e'), R⟩
        · obtain ⟨M', S', e', R⟩ := gt _ r3 y3
          exact ⟨M', S', op _ (by rw [if_neg c1, if_neg c2]; exact e'), R⟩
theorem rt2 (h2 : 2 ≤ N) (h16 : N ≤ 16) (hA : A < 1048576) (hP : smN P 16 + N ≤ 9000) (hN : xR S0 20 0 = nI N) (hdl : ∀ l, l < 256 → xR S0 19 l = dl l) {t v1 v2 : Int32} (hd : ∀ l, l < 256 → t < t + dl l) : ∀ (d i n : Nat) (M : Mem) (S : St), i + d = N → RV M true t S pb pt → GI N A P S0 S → d + 18500 ≤ n → ∃ M' S', f_X10_goTime_2 n 120 v1 v2 (nI i) M = some M' ∧ RV M' true t S' pb pt ∧ GI N A P S0 S' ∧ FrY M M' := by
  intro d
  induction d with
  | zero =>
    intro i n M S hi r hI hn
    obtain ⟨n, rfl⟩ : ∃ m, n = m + 1 := ⟨n - 1, by omega⟩
    have hN' : xR S 20 0 = nI N := by rw [hI.2.2.2.2 20 0 (by omega)]; exact hN
    have hfl := hI.tfl
    have hc := cnt_le t dl S
    obtain ⟨v, e2, d2⟩ := r.due (dl := dl) (fun l hl => by rw [hI.2.2.2.2 19 l (by omega)]; exact hdl l hl) (n := n) (by omega)
    obtain ⟨M', S', e', R⟩ := rt53 h2 h16 hA hP hN hdl (v2 := v2) hd (cnt t dl S) n M S v (Nat.le_refl _) r hI d2 (by omega)
    exact ⟨M', S', by rw [f_X10_goTime_2, rs_f r.1, rs_0 r.1, bnd_e, rs_fa r.1, rs_c0 r.1, cl0, r.N hN', if_pos (nI_le (by omega) (by omega)), e2, obd_s]; exact e', R⟩
  | succ d ih =>
    intro i n M S hi r hI hn
    obtain ⟨n, rfl⟩ : ∃ m, n = m + 1 := ⟨n - 1, by omega⟩
    have hN' : xR S 20 0 = nI N := by rw [hI.2.2.2.2 20 0 (by omega)]; exact hN
    have hfl := hI.tfl
    have i6 : i < 16 := by omega
    rw [f_X10_goTime_2, rs_f r.1, rs_0 r.1, bnd_e, rs_fa r.1, rs_c0 r.1, cl0, r.N hN', if_neg (nI_ge (by omega) (by omega)), r.get0 i6, obd_s]
    by_cases c : xR S 0 i = 2
    · rw [if_pos c, rs_19 r.1, bnd_e, rs_f19 r.1, rs_c19 r.1 i6]
      by_cases z : mI M 120 3 - mI M 130 (nI i).toNatClampNeg < v1
      · rw [if_pos z, bnd_e, nI_1]
        exact ih (i + 1) n M S (by omega) r hI (by omega)
      · obtain ⟨M1, e1, r1, f1⟩ := r.tlv hN' h16 i6 (by omega) (n := n) (by omega)
        obtain ⟨M', S', e', r', hI', y'⟩ := ih (i + 1) n M1 _ (by omega) r1 (hI.tl h16 (by omega) c t) (by omega)
        exact ⟨M', S', by rw [if_neg z, e1, obd_s, bnd_e, nI_1]; exact e', r', hI', (FrY.pa f1).tr y'⟩
    · rw [if_neg c, bnd_e, nI_1]
      exact ih (i + 1) n M S (by omega) r hI (by omega)
def FrV (M M' : Mem) : Prop := M'.1 = M.1 ∧ (∀ o, (o < 120 ∨ 130 < o) ∨ o = 126 → ∀ b, mI M' o b = mI M o b) ∧ (∀ b, b < 20 → b ≠ 3 → mI M' 120 b = mI M 120 b) ∧ ∀ o b, mL M' o b = mL M o b
theorem FrV.rf (M : Mem) : FrV M M := ⟨rfl, fun _ _ _ => rfl, fun _ _ _ => rfl, fun _ _ => rfl⟩
theorem FrV.tr {M M' M'' : Mem} (h : FrV M M') (h' : FrV M' M'') : FrV M M'' := ⟨h'.1.trans h.1, fun o n b => (h'.2.1 o n b).trans (h.2.1 o n b), fun b n n' => (h'.2.2.1 b n n').trans (h.2.2.1 b n n'), fun o b => (h'.2.2.2 o b).trans (h.2.2.2 o b)⟩
theorem FrY.v {M M' : Mem} (h : FrY M M') : FrV M M' := ⟨h.1, h.2.1, fun b n n' => h.2.2.1 b (by omega) n', h.2.2.2⟩
theorem FrV.s120 {M : Mem} {k : Nat} {x : Int32} (h : k = 3 ∨ 20 ≤ k) : FrV M (sI M 120 k x) := ⟨rfl, fun o n b => mI_o _ _ _ _ _ (by omega), fun b n n' => mI_n _ _ _ _ (by omega), fun _ _ => rfl⟩
theorem rc104 (h2 : 2 ≤ N) (h16 : N ≤ 16) (hA : A < 1048576) (hP : smN P 16 + N ≤ 9000) (hN : xR S0 20 0 = nI N) (hdl : ∀ l, l < 256 → xR S0 19 l = dl l) (hD : ∀ l, l < 256 → ∃ k, 1 ≤ k ∧ k ≤ 9 ∧ dl l = nI k) {v1 v2 v3 : Int32} : ∀ (d τ E n : Nat) (M : Mem) (S : St), τ + d = 300 → E ≤ 300 → mI M 120 20 = nI E → RV M true (nI τ) S pb pt → GI N A P S0 S → d + 19000 ≤ n → ∃ M', f_X10_goClock_104 n 120 v1 v2 v3 M = some M' ∧ RS M' ∧ mI M' 120 3 = 0 ∧ FrV M M' := by
  intro d
  have stop : ∀ (τ E n : Nat) (M : Mem) (S : St), E ≤ τ → τ ≤ 300 → mI M 120 20 = nI E → RV M true (nI τ) S pb pt → 1 ≤ n → ∃ M', f_X10_goClock_104 n 120 v1 v2 v3 M = some M' ∧ RS M' ∧ mI M' 120 3 = 0 ∧ FrV M M' := by
    intro τ E n M S hE hτ h20 r hn
    obtain ⟨n, rfl⟩ : ∃ m, n = m + 1 := ⟨n - 1, by omega⟩
    have r1 := r.st3 0
    refine ⟨sI (sI M 120 3 0) 120 21 (mI (sI M 120 3 0) 121 (nI 9851).toNatClampNeg - v3), by rw [f_X10_goClock_104, rs_f r.1, h20, r.2.1, if_pos (nI_le hE (by omega)), bnd_e, rs_0 r1.1, bnd_e, rs_fa r1.1, show (9851 : Int32) = nI 9851 from rfl, rs_c r1.1 (by decide), bnd_e], r1.1.e rfl, ?_, FrV.tr (FrV.s120 (by omega)) (FrV.s120 (by omega))⟩
    rw [mI_n _ _ _ _ (by decide), mI_s]
  induction d with
  | zero =>
    intro τ E n M S hτ hE h20 r hI hn
    exact stop τ E n M S (by omega) (by omega) h20 r (by omega)
  | succ d ih =>
    intro τ E n M S hτ hE h20 r hI hn
    by_cases hE2 : E ≤ τ
    · exact stop τ E n M S hE2 (by omega) h20 r (by omega)
    · obtain ⟨n, rfl⟩ : ∃ m, n = m + 1 := ⟨n - 1, by omega⟩
      have hd : ∀ l, l < 256 → nI τ < nI τ + dl l := fun l hl => by
        obtain ⟨k, k1, k9, ek⟩ := hD l hl
        rw [ek, nI_add]
        exact nI_lt (by omega) (by omega)
      obtain ⟨M1, S1, e1, r1, hI1, y1⟩ := rt2 h2 h16 hA hP hN hdl (v1 := v1) (v2 := v2) hd N 0 n M S (by omega) r hI (by omega)
      have e20 : mI M1 120 20 = nI E := (y1.2.2.1 20 (by decide) (by decide)).trans h20
      have t1 : mI M1 120 3 = nI τ := r1.2.1
      have hN' : xR S1 20 0 = nI N := by rw [hI1.2.2.2.2 20 0 (by omega)]; exact hN
      obtain ⟨y, ey, _⟩ := r1.insd hN' h16 (n := n) (by omega)
      have nx : ∃ M', f_X10_goClock_104 n 120 v1 v2 v3 (sI M1 120 3 (nI (τ + 1))) = some M' ∧ RS M' ∧ mI M' 120 3 = 0 ∧ FrV M M' := by
        obtain ⟨M', e', a, b, f'⟩ := ih (τ + 1) E n (sI M1 120 3 (nI (τ + 1))) S1 (by omega) hE (by rw [mI_n _ _ _ _ (by decide)]; exact e20) (r1.st3 _) hI1 (by omega)
        exact ⟨M', e', a, b, y1.v.tr (FrV.tr (FrV.s120 (by omega)) f')⟩
      have nq : ∃ M', f_X10_goClock_104 n 120 v1 v2 v3 (sI (sI M1 120 20 (nI τ)) 120 3 (nI (τ + 1))) = some M' ∧ RS M' ∧ mI M' 120 3 = 0 ∧ FrV M M' := by
        obtain ⟨M', e', a, b, f'⟩ := ih (τ + 1) τ n (sI (sI M1 120 20 (nI τ)) 120 3 (nI (τ + 1))) S1 (by omega) (by omega) (by rw [mI_n _ _ _ _ (by decide), mI_s]) ((r1.s120 (by decide) _).st3 _) hI1 (by omega)
        exact ⟨M', e', a, b, y1.v.tr (FrV.tr (FrV.s120 (by omega)) (FrV.tr (FrV.s120 (by omega)) f'))⟩
      have t20 : mI (sI M1 120 20 (nI τ)) 120 3 = nI τ := by rw [mI_n _ _ _ _ (by decide)]; exact t1
      rw [f_X10_goClock_104, rs_f r.1, h20, r.2.1, if_neg (nI_ge (by omega) (by omega)), f_X10_goTime, show f_X10_goTime_2 n 120 v1 v2 0 M = some M1 from e1, obd_s, rs_f r1.1, rs_0 r1.1, bnd_e, rs_fa r1.1, l850, rs_c r1.1 (by decide), t1, nI_1]
      by_cases c : mI M1 121 (nI 850).toNatClampNeg = 0
      · rw [if_pos c, ey, obd_s]
        by_cases c2 : y = 0
        · rw [if_pos c2, bnd_e, t20, nI_1, bnd_e]; exact nq
        · rw [if_neg c2, bnd_e]; exact nx
      · rw [if_neg c, bnd_e]; exact nx
theorem rclock (h2 : 2 ≤ N) (h16 : N ≤ 16) (hA : A < 1048576) (hP : smN P 16 + N ≤ 9000) {S : St} {t : Int32} (hI : GI N A P S S) (hN : xR S 20 0 = nI N) (hD : ∀ l, l < 256 → ∃ k, 1 ≤ k ∧ k ≤ 9 ∧ xR S 19 l = nI k) {v : Nat} (hv : v < N) (v1 : Int32) {n : Nat} {M : Mem} (r : RV M false t S pb pt) (hn : 40000 ≤ n) : ∃ M', f_X10_goClock n 120 v1 (nI v) M = some M' ∧ RS M' ∧ mI M' 120 3 = 0 ∧ FrV M M' := by
  have h9 := r.2.2.2.2.1.2.1
  obtain ⟨M1, n1, e1, hn1, r1, z1, f1⟩ := gz_l (a := v1) (b := nI v) (x := mI M 121 (nI 9851).toNatClampNeg) (fl S).length 0 n M (by omega) r (fun j hj => by omega) (by omega)
  have r1t := zs_of r1 z1
  have v1f : FrV M M1 := ⟨f1.1, fun o n b => f1.2.1 o (by unfold P123; omega) b, fun b _ _ => f1.2.1 120 (by unfold P123; omega) b, f1.2.2⟩
  obtain ⟨M2, n2, e2, hn2, f2⟩ := z16_l v1 (nI v) (mI M 121 (nI 9851).toNatClampNeg) 16 0 n1 M1 rfl r1t (by omega)
  have r2 := r1t.ft f2
  have v2f : FrV M1 M2 := ⟨f2.1, fun o n b => f2.2.1 o (by omega) (by omega) b, fun b h _ => f2.2.2.1 b h, f2.2.2.2⟩
  have r3 := r2.s120 (k := 22) (by decide) (-1)
  have hI' := hI.tz h16
  have fin : ∀ y : Int32, ∃ M', f_X10_goClock_104 n2 120 v1 (nI v) (mI M 121 (nI 9851).toNatClampNeg) (sI (sI (sI (sI (sI M2 120 22 (-1)) 120 23 y) 120 24 0) 120 20 300) 120 3 0) = some M' ∧ RS M' ∧ mI M' 120 3 = 0 ∧ FrV M M' := by
    intro y
    have r4 := (((r3.s120 (k := 23) (by decide) y).s120 (k := 24) (by decide) 0).s120 (k := 20) (by decide) 300).st3 0
    obtain ⟨M', e', a, b, f'⟩ := rc104 h2 h16 hA hP (S0 := S) (dl := fun l => xR S 19 l) hN (fun _ _ => rfl) hD (v1 := v1) (v2 := nI v) (v3 := mI M 121 (nI 9851).toNatClampNeg) 300 0 300 n2 _ (fS 0 S S) rfl (by decide) (by rw [mI_n _ _ _ _ (by decide), mI_s]; rfl) r4 hI' (by omega)
    exact ⟨M', e', a, b, v1f.tr (v2f.tr (FrV.tr (FrV.s120 (by omega)) (FrV.tr (FrV.s120 (by omega)) (FrV.tr (FrV.s120 (by omega)) (FrV.tr (FrV.s120 (by omega)) (FrV.tr (FrV.s120 (by omega)) f'))))))⟩
  have g0 : f_X10_get 120 (nI v) (0 : Int32) (sI M2 120 22 (-1)) = some (xR (fS 0 S S) 0 v) := r3.get0 (by omega)
  rw [f_X10_goClock, rs_f r.1, rs_0 r.1, bnd_e, rs_fa r.1, show (9851 : Int32) = nI 9851 from rfl, rs_c r.1 (by decide), bnd_e]
  rw [show f_X10_goClock_12 n 120 v1 (nI v) (mI M 121 (nI 9851).toNatClampNeg) 0 M = f_X10_goClock_42 n1 120 v1 (nI v) (mI M 121 (nI 9851).toNatClampNeg) 0 M1 from e1, show f_X10_goClock_42 n1 120 v1 (nI v) (mI M 121 (nI 9851).toNatClampNeg) 0 M1 = f_X10_goClock_42 (n2 + 1) 120 v1 (nI v) (mI M 121 (nI 9851).toNatClampNeg) (nI 16) M2 from e2, f_X10_goClock_42, if_pos (show (16 : Int32) ≤ nI 16 from Int32.le_refl _), rs_f r2.1, bnd_e, g0, obd_s]
  by_cases c : xR (fS 0 S S) 0 v = 2
  · rw [if_pos c, bnd_e, bnd_e, bnd_e, bnd_e]; exact fin 0
  · rw [if_neg c, bnd_e, bnd_e, bnd_e, bnd_e]; exact fin (-1)
end
/-! ===== timed, from any state between the calls ===== -/
theorem WJ.tre {M M2 : Mem} {N A i X0 Y0 : Nat} {Q : Nat → Int32} {S : St} {pb pt : List Row4} (w : WJ M N A i Q S) (tr : TR M 63 X0 Y0 pb pt) (f : FrE M M2) : RV M2 false 0 S [] [] ∧ mI M2 120 7 = 0 := by
  obtain ⟨X, Y, L, p, _⟩ := id w.1
  have hN := p.1.2.2.2.2.2.2
  have fo : ∀ o, 120 ≤ o → o < 131 → M2.1.2.1 o = M.1.2.1 o ∧ (∀ b, mR M2 o b = mR M o b) ∧ ∀ b, mI M2 o b = mI M o b := by
    have r57 : ∀ i, 5 ≤ i → i ≤ 7 → mR M 64 i = 63 + 2 + i ∨ 131 ≤ mR M 64 i := by
      obtain ⟨_, ⟨e5, e6, e7, len, ds, _⟩, _⟩ := tr
      obtain ⟨⟨y5, y6, y7⟩, _, _, x5, x6, x7, _⟩ := ds
      have y5' : mR M 64 5 = e5 := y5
      have y6' : mR M 64 6 = e6 := y6
      have y7' : mR M 64 7 = e7 := y7
      intro i a b
      rcases (show i = 5 ∨ i = 6 ∨ i = 7 by omega) with rfl | rfl | rfl
      · rw [y5']; exact x5
      · rw [y6']; exact x6
      · rw [y7']; exact x7
    have r5 := r57 5 (by decide) (by decide)
    have r6 := r57 6 (by decide) (by decide)
    have r7 := r57 7 (by decide) (by decide)
    intro o a b
    exact ⟨f.2.1 o (by omega), fun c => f.2.2.1 o c (by omega) (by omega), f.2.2.2.1 o (by omega) (by omega) (by omega) (by omega) (by omega)⟩
  exact ⟨w.2.1.mr f.1 fo, by rw [(fo 120 (by decide) (by decide)).2.2]; exact w.2.2.1⟩
theorem FrE.s1 {M M' : Mem} (f : FrE M M') : Shp1 M M' := ⟨f.1, f.2.1, fun a b ha n => f.2.2.1 a b ha (by omega)⟩
theorem fi_ex {M : Mem} {N X Y X' Y' v : Nat} {t : Int32} {Q Q' : Nat → Int32} {S S' : St} {pb pt : List Row4} (xg : XG M) (p14 : HV M 14 X Y 0 N Q S [] []) (p : HV M 63 X' Y' t N Q' S' pb pt) (hv : v < 16) : ∃ y, f_X9_firstInside 0 (nI v) M = some y := by
  have q := p.1
  have q0 := p14.1
  rw [f_X9_firstInside, chk_t xg.1, xg.2.2.2.1, bnd_e, cs_f q0, p14.h7 hv, obd_s]
  by_cases c : xR S 0 v = 2
  · rw [if_pos c, if_neg ne10]; exact ⟨_, rfl⟩
  · rw [if_neg c, if_pos rfl, xg.2.2.2.2.1, bnd_e, cs_f q, cs_h2 q, bnd_e, cs_a10 q, cs_i10 q hv, cs_rpc q hv, bnd_e, cs_po q hv, bnd_e, cs_f q0, cs_h2 q0, bnd_e, cs_a10 q0, cs_i10 q0 hv, cs_rpc q0 hv, bnd_e, cs_po q0 hv]
    by_cases d : mI M (63 + 17 + 2 * v) 11 ≤ mI M (14 + 17 + 2 * v) 11
    · rw [if_pos d, f_X9_firstInside_48, if_pos rfl]; exact ⟨_, rfl⟩
    · rw [if_neg d, f_X9_firstInside_48, if_neg ne10, chk_t xg.1, xg.2.2.2.2.1, bnd_e, cs_f q, cs_h2 q, bnd_e, cs_a10 q, cs_i10 q hv, cs_rpc q hv, bnd_e, cs_po q hv]
      exact ⟨_, rfl⟩
theorem op44 {M : Mem} {i n : Nat} (h : WI i M) (hi : i ≤ 511) (a b c : Int32) (hn : 100000 ≤ n) : Oks i (f_X9_timed n 0 a b c M) (fun M1 => f_X10_timed n 120 a b c M1) := by
  obtain ⟨N, A, Q, S, w⟩ := h
  obtain ⟨X, Y, L, p, sb, xg, xc, xr⟩ := id w.1
  obtain ⟨_, r, z7, sw, hQ⟩ := id w
  have h16 := sw.n16
  have h2 := sw.n2
  have hA := sw.a
  have ps := sw.ps hi
  rcases rng3 (L := 1) (N := 20) (by decide) (by decide) a with ha | ⟨m, h1, h20, rfl⟩
  · refine (Okk.same w (r := -1) ?_ ?_).ks
    · rw [f_X9_timed]
      by_cases q : a < 1
      · rw [if_pos q]
      · rw [if_neg q, if_pos (show (20 : Int32) < a from gt3 (N := 20) (by decide) (ha.resolve_left q))]
    · show f_X10_timed n 120 a b c M = _
      rw [f_X10_timed, show (20 : Int32) = nI 20 from rfl, show (1 : Int32) = nI 1 from rfl]
      rw [is_out3 (by decide) ha, obd_s, if_pos rfl]
  · have m1 : ¬ nI m < (1 : Int32) := nI_nl (a := m) (b := 1) h1 (by omega)
    have m2 : ¬ (20 : Int32) < nI m := nI_nl (a := 20) (b := m) h20 (by decide)
    have im : ∀ M, f_X10_isIn (nI m) (1 : Int32) (20 : Int32) M = some 1 := fun M => is_in3 (L := 1) (N := 20) (by decide) h1 h20
    rcases out_in (N := N) (by omega) b with hb | ⟨v, hv, rfl⟩
    · refine (Okk.same w (r := -1) ?_ ?_).ks
      · rw [f_X9_timed, if_neg m1, if_neg m2, chk_t xg.1, xg.2.1, bnd_e, sb.f, ndc0 sb hb, obd_s, if_pos rfl]
      · show f_X10_timed n 120 (nI m) b c M = _
        rw [f_X10_timed, im, obd_s, if_neg ne10, rs_f r.1, ndr0 r sw.n (by omega) h16 hb, obd_s, if_pos rfl]
    · rcases out_in (N := 5) (by decide) c with hc | ⟨u, hu, rfl⟩
      · refine (Okk.same w (r := -1) ?_ ?_).ks
        · rw [f_X9_timed, if_neg m1, if_neg m2, chk_t xg.1, xg.2.1, bnd_e, sb.f, ndc sb hv h16, obd_s, if_neg ne10]
          by_cases q : c < 0
          · rw [if_pos q]
          · rw [if_neg q, if_neg (show ¬ c ≤ (4 : Int32) from Int32.not_le.mpr (gt3 (N := 4) (by decide) (hc.resolve_left q)))]
        · show f_X10_timed n 120 (nI m) (nI v) c M = _
          have : f_X10_isIn c (0 : Int32) (4 : Int32) M = some 0 := by
            rw [f_X10_isIn]
            by_cases q : c < 0
            · rw [if_pos q]
            · rw [if_neg q, if_pos (show (4 : Int32) < c from gt3 (N := 4) (by decide) (hc.resolve_left q))]
          rw [f_X10_timed, im, obd_s, if_neg ne10, rs_f r.1, ndr r sw.n hv h16, obd_s, if_neg ne10, this, obd_s, if_pos rfl]
      · have hP : smN (fun a => Ph a S) 16 + N ≤ 9000 := by
          show PhS S + N ≤ 9000
          omega
        obtain ⟨X0, Y0, pb, pt, tr, dj, fin⟩ := w.1.tri
        obtain ⟨M1, e1, p1, f1⟩ := p.copy tr (by omega) h16 dj (fun v hv => (sw.inv.1 v hv).2.2.2) (fun v hv w hw => by have := ((sw.inv.2.2.2.2.2.1 v hv).1.2.2 w hw).1; omega) (n := n) (by omega)
        have xk : XK M := ⟨xc.1, xc.2.1, xc.2.2.1, xc.2.2.2.1⟩
        have xk1 := xk.fe f1.E
        have xg1 := xg.s f1.E.s1
        obtain ⟨M2, S2, t2, e2, p2, f2⟩ := cbrun (v2 := nI m) h2 h16 (show A < 1048576 by omega) hP p1 w.gc xk1 (n := n) (by omega)
        have fE := f1.E.tr f2
        have cw := fE.cw p2 fin
        have xk2 := xk.fe fE
        have xg2 := xg.s fE.s1
        obtain ⟨r2, z2⟩ := w.tre tr fE
        have cls : ∃ x M', f_X9_timed n 0 (nI m) (nI v) (nI u) M = some (x, M') ∧ M' = M2 := by
          obtain ⟨_, _, _, p14, _⟩ := id cw
          obtain ⟨y, ey⟩ := fi_ex (v := v) xg2 p14 p2 (by omega)
          have c9 : ∀ x : Option (Int32 × Mem), chk (isO M2 9 0) x = x := fun x => chk_t xg2.1
          have c0 : ∀ x : Option (Int32 × Mem), chk (isO M2 0 112) x = x := fun x => chk_t xk2.1
          have c63 : ∀ x : Option (Int32 × Mem), chk (isO M2 2 63) x = x := fun x => cs_f p2.1 x
          have c14 : ∀ x : Option (Int32 × Mem), chk (isO M2 2 14) x = x := fun x => cs_f p14.1 x
          rw [f_X9_timed, if_neg m1, if_neg m2, chk_t xg.1, xg.2.1, bnd_e, sb.f, ndc sb hv h16, obd_s, if_neg ne10, if_neg (show ¬ nI u < 0 from nI_nlt (b := 0) (by omega) (by omega)), if_pos (show nI u ≤ (4 : Int32) from nI_le (b := 4) (by omega) (by decide)), xg.2.2.2.2.1, bnd_e, cs_f tr.1, xg.2.2.2.1, bnd_e, cs_f p.1, e1, obd_s, chk_t xg1.1, xg1.2.2.2.2.2.1, bnd_e, chk_t xk1.1, xg1.2.2.2.2.1, bnd_e, cs_f p1.1, e2, obd_s]
          simp only [c9, c0, c63, c14, xg2.2.2.2.2.2.1, xg2.2.2.2.2.1, xg2.2.2.2.1, bnd_e, ey, obd_s]
          have z : ∀ x : Int32, ∃ x' M', some (x, M2) = some (x', M') ∧ M' = M2 := fun x => ⟨_, M2, rfl, rfl⟩
          exact ite_ex (z _) (ite_ex (z _) (ite_ex (z _) (ite_ex (z _) (z _))))
        obtain ⟨x, M', ec, rfl⟩ := cls
        -- the reference
        obtain ⟨Ma, ea, pa, sa, oa, ob, la⟩ := r2.as (n := n) (by omega)
        obtain ⟨M3, e3, S3, t3, f3⟩ := rclock (P := fun a => Ph a S) h2 h16 (show A < 1048576 by omega) hP w.gi sw.n (fun l hl => (xc.2.2.2.2 l hl).2) hv (nI m) pa (n := n) (by omega)
        have eb := f_back S3 (n := n) (by omega)
        have S4 : RS (cpF M3 126 121 0) := S3.e rfl
        have ref : ∃ y M4, f_X10_timed n 120 (nI m) (nI v) (nI u) M' = some (y, M4) ∧ M4 = cpF M3 126 121 0 := by
          have c10 : ∀ x : Option (Int32 × Mem), chk (isO (cpF M3 126 121 0) 10 120) x = x := fun x => rs_f S4 x
          rw [f_X10_timed, im, obd_s, if_neg ne10, rs_f r2.1, ndr r2 sw.n hv h16, obd_s, if_neg ne10, show (4 : Int32) = nI 4 from rfl, f_isI M' (show u ≤ 4 by omega) (by decide), obd_s, if_neg ne10, ea, obd_s, rs_f pa.1, e3, obd_s, rs_f S3, eb, obd_s]
          simp only [c10]
          have z : ∀ x : Int32, ∃ x' M4, some (x, cpF M3 126 121 0) = some (x', M4) ∧ M4 = cpF M3 126 121 0 := fun x => ⟨_, _, rfl, rfl⟩
          exact ite_ex (z _) (ite_ex (z _) (ite_ex (z _) (ite_ex (z _) (z _))))
        obtain ⟨y, M4, er, rfl⟩ := ref
        refine ⟨x, y, M', _, ec, r2.1.io (by decide) (by decide) (by decide), er, w.rfb cw r2 z2 (f3.1.trans sa) (fun o ho b => by rw [f3.2.1 o (by omega), oa o (by omega)]) (by rw [t3, r2.2.1]) (by rw [f3.2.2.1 7 (by decide) (by decide), oa 120 (by decide)]) (fun b hb => by rw [f3.2.1 126 (Or.inr rfl)]; exact ob b hb) (fun o _ b => (f3.2.2.2 o b).trans (la o b))⟩
/-! ===== the survey, the reference: each answers ===== -/
theorem pc_lj {x : Int32} {j : Nat} (hj : j ≤ 32) (h : ∀ i, j ≤ i → i < 32 → bt x i = false) : pc x ≤ j := by
  unfold pc
  have e : List.range 32 = List.range' 0 j ++ List.range' j (32 - j) := by
    have a := List.range'_append_1 (s := 0) (m := j) (n := 32 - j)
    rw [Nat.zero_add, show j + (32 - j) = 32 by omega] at a
    rw [List.range_eq_range', ← a]
  have z : (List.range' j (32 - j)).filter (fun i => bt x i) = [] := by
    rw [List.filter_eq_nil_iff]
    intro i hi
    have := List.mem_range'_1.mp hi
    rw [h i this.1 (by omega)]
    decide
  rw [e, List.filter_append, z, List.append_nil]
  have := List.length_filter_le (fun i => bt x i) (List.range' 0 j)
  rw [List.length_range'] at this
  exact this
theorem bt_hk {k j : Nat} (hk : k < 2 ^ j) : ∀ i, j ≤ i → i < 32 → bt (nI k) i = false := fun i a b => by
  rw [bt_nI k b]
  exact Nat.testBit_lt_two_pow (Nat.lt_of_lt_of_le hk (Nat.pow_le_pow_right (by decide) a))
theorem all_e : ∀ N, N < 17 → ((1 : Int32) <<< (nI N &&& 31)) - (1 : Int32) = nI (2 ^ N - 1) := by decide +kernel
theorem p16 {N : Nat} (h16 : N ≤ 16) : 1 ≤ 2 ^ N ∧ 2 ^ N ≤ 65536 := ⟨Nat.one_le_two_pow, Nat.pow_le_pow_right (n := 2) (by decide) h16⟩
section
variable {M : Mem} {N : Nat} {tw : Bool} {t : Int32} {S : St} {pb pt : List Row4}
theorem RV.al (r : RV M tw t S pb pt) (hN : xR S 20 0 = nI N) (h16 : N ≤ 16) : f_X10_all 120 M = some (nI (2 ^ N - 1)) := by
  rw [f_X10_all, rs_f r.1, rs_0 r.1, bnd_e, rs_fa r.1, rs_c0 r.1, cl0, r.N hN, all_e N (by omega)]
theorem mny_k {k n : Nat} (hk : k < 65536) (hn : 40 ≤ n) (M : Mem) : f_X10_many n (nI k) M = some (nI (pc (nI k))) :=
  f_many (fun i a b => bt_hk (j := 16) hk i (by omega) b) hn M
theorem pw_ex (M : Mem) (a : Int64) (e : Int32) (K : Nat) (he : e ≤ nI K) (hK : K < 1000) : ∀ (d i n : Nat) (c : Int64), i + d = K → d + 1 ≤ n → ∃ r, f_X10_power_5 M n a e c (nI i) = some r := by
  intro d
  induction d with
  | zero =>
    intro i n c hi hn
    obtain ⟨n, rfl⟩ : ∃ m, n = m + 1 := ⟨n - 1, by omega⟩
    exact ⟨c, by rw [f_X10_power_5, if_pos (by rw [show i = K by omega]; exact he)]⟩
  | succ d ih =>
    intro i n c hi hn
    obtain ⟨n, rfl⟩ : ∃ m, n = m + 1 := ⟨n - 1, by omega⟩
    by_cases z : e ≤ nI i
    · exact ⟨c, by rw [f_X10_power_5, if_pos z]⟩
    · rw [f_X10_power_5, if_neg z, bnd_e, bnd_e, nI_1]
      exact ih (i + 1) n _ (by omega) (by omega)
theorem RV.odds (r : RV M tw t S pb pt) (hN : xR S 20 0 = nI N) (h16 : N ≤ 16) {k n : Nat} (hk : k < 2 ^ N) (b : Int32) (hn : 100 ≤ n) : ∃ x, f_X10_oddsOf n 120 (nI k) b M = some x := by
  have p := p16 h16
  have pl := pc_lj (x := nI k) (j := N) (by omega) (bt_hk hk)
  obtain ⟨x1, e1⟩ := pw_ex M (b.toInt64) (nI (pc (nI k))) 16 (nI_le (by omega) (by decide)) (by decide) 16 0 n 1 rfl (by omega)
  obtain ⟨x2, e2⟩ := pw_ex M ((10 : Int64) - b.toInt64) (nI N - nI (pc (nI k))) 16 (by rw [nI_sb pl]; exact nI_le (by omega) (by decide)) (by decide) 16 0 n 1 rfl (by omega)
  refine ⟨x1 * x2, ?_⟩
  rw [f_X10_oddsOf, mny_k (by omega) (by omega), obd_s, f_X10_power, show f_X10_power_5 M n b.toInt64 (nI (pc (nI k))) 1 0 = some x1 from e1, obd_s, rs_f r.1, rs_0 r.1, bnd_e, rs_fa r.1, rs_c0 r.1, obd_s, cl0, r.N hN, f_X10_power, show f_X10_power_5 M n ((10 : Int64) - b.toInt64) (nI N - nI (pc (nI k))) 1 0 = some x2 from e2, obd_s]
/-- a power of ten is none -/
def pwv (a : Int64) : Nat → Int64 → Int64
  | 0, c => c
  | k + 1, c => pwv a k (c * a)
theorem pw_v (M : Mem) (a : Int64) (K : Nat) (hK : K < 1000) : ∀ (d i n : Nat) (c : Int64), i + d = K → d + 1 ≤ n → f_X10_power_5 M n a (nI K) c (nI i) = some (pwv a d c) := by
  intro d
  induction d with
  | zero =>
    intro i n c hi hn
    obtain ⟨n, rfl⟩ : ∃ m, n = m + 1 := ⟨n - 1, by omega⟩
    rw [f_X10_power_5, if_pos (nI_le (by omega) (by omega))]
    rfl
  | succ d ih =>
    intro i n c hi hn
    obtain ⟨n, rfl⟩ : ∃ m, n = m + 1 := ⟨n - 1, by omega⟩
    rw [f_X10_power_5, if_neg (nI_ge (by omega) (by omega)), bnd_e, bnd_e, nI_1]
    exact ih (i + 1) n _ (by omega) (by omega)
theorem pw10 : ∀ k, k < 11 → ¬ pwv 10 k 1 = 0 := by decide +kernel
theorem RV.mill (r : RV M tw t S pb pt) (hN : xR S 20 0 = nI N) (h16 : N ≤ 16) (a : Int64) {n : Nat} (hn : 100 ≤ n) : ∃ x, f_X10_millionths n 120 a M = some x := by
  have h0 : mI M 121 ((0 : Int32).toNatClampNeg) = nI N := by rw [cl0]; exact r.N hN
  by_cases c : N < 6
  · obtain ⟨x1, e1⟩ := pw_ex M 10 ((6 : Int32) - nI N) 6 (by rw [show (6 : Int32) = nI 6 from rfl, nI_sb (by omega)]; exact nI_le (by omega) (by decide)) (by decide) 6 0 n 1 rfl (by omega)
    exact ⟨_, by rw [f_X10_millionths, rs_f r.1, rs_0 r.1, bnd_e, rs_fa r.1, rs_c0 r.1, h0, if_pos (show nI N < (6 : Int32) from nI_lt (b := 6) c (by decide)), bnd_e, rs_fa r.1, rs_c0 r.1, h0, f_X10_power, show f_X10_power_5 M n 10 ((6 : Int32) - nI N) 1 0 = some x1 from e1, obd_s]⟩
  · have e1 := pw_v M 10 (N - 6) (by omega) (N - 6) 0 n 1 (by omega) (by omega)
    exact ⟨_, by rw [f_X10_millionths, rs_f r.1, rs_0 r.1, bnd_e, rs_fa r.1, rs_c0 r.1, h0, if_neg (show ¬ nI N < (6 : Int32) from nI_nl (a := N) (b := 6) (by omega) (by omega)), bnd_e, rs_fa r.1, rs_c0 r.1, h0, f_X10_power, show nI N - (6 : Int32) = nI (N - 6) by rw [show (6 : Int32) = nI 6 from rfl, nI_sb (by omega)], show f_X10_power_5 M n 10 (nI (N - 6)) 1 0 = some (pwv 10 (N - 6) 1) from e1, obd_s, chk_t (pw10 (N - 6) (by omega))]⟩
theorem rlv_l (r : RV M tw t S pb pt) (hN : xR S 20 0 = nI N) (h16 : N ≤ 16) (b : Int32) : ∀ (d i n : Nat), i + d = N → d + 1 ≤ n → ∃ x, f_X10_isLive_2 M n 120 b (nI i) = some x := by
  intro d
  induction d with
  | zero =>
    intro i n hi hn
    obtain ⟨n, rfl⟩ : ∃ m, n = m + 1 := ⟨n - 1, by omega⟩
    exact ⟨0, by rw [f_X10_isLive_2, rs_f r.1, rs_0 r.1, bnd_e, rs_fa r.1, rs_c0 r.1, cl0, r.N hN, if_pos (nI_le (by omega) (by omega))]⟩
  | succ d ih =>
    intro i n hi hn
    obtain ⟨n, rfl⟩ : ∃ m, n = m + 1 := ⟨n - 1, by omega⟩
    rw [f_X10_isLive_2, rs_f r.1, rs_0 r.1, bnd_e, rs_fa r.1, rs_c0 r.1, cl0, r.N hN, if_neg (nI_ge (by omega) (by omega)), r.base (by omega), obd_s]
    split
    · exact ⟨_, rfl⟩
    · rw [bnd_e, nI_1]; exact ih (i + 1) n (by omega) (by omega)
theorem rib_l (r : RV M tw t S pb pt) (hN : xR S 20 0 = nI N) (h16 : N ≤ 16) (b : Int32) : ∀ (d i n : Nat), i + d = N → d + 1 ≤ n → ∃ x, f_X10_isBetter_2 M n 120 b (nI i) = some x := by
  intro d
  induction d with
  | zero =>
    intro i n hi hn
    obtain ⟨n, rfl⟩ : ∃ m, n = m + 1 := ⟨n - 1, by omega⟩
    exact ⟨1, by rw [f_X10_isBetter_2, rs_f r.1, rs_0 r.1, bnd_e, rs_fa r.1, rs_c0 r.1, cl0, r.N hN, if_pos (nI_le (by omega) (by omega))]⟩
  | succ d ih =>
    intro i n hi hn
    obtain ⟨n, rfl⟩ : ∃ m, n = m + 1 := ⟨n - 1, by omega⟩
    rw [f_X10_isBetter_2, rs_f r.1, rs_0 r.1, bnd_e, rs_fa r.1, rs_c0 r.1, cl0, r.N hN, if_neg (nI_ge (by omega) (by omega)), r.base (by omega), obd_s, obd_s]
    split
    · exact ⟨_, rfl⟩
    · split
      · exact ⟨_, rfl⟩
      · rw [bnd_e, nI_1]; exact ih (i + 1) n (by omega) (by omega)
theorem rpv_l (r : RV M tw t S pb pt) (hN : xR S 20 0 = nI N) (h16 : N ≤ 16) {v : Nat} (hv : v < 32) : ∀ (d i n : Nat) (c : Int32), i + d = 2 ^ N → d + 101 ≤ n → ∃ x, f_X10_pivotal_14 M n 120 (nI v) c (nI i) = some x := by
  have p := p16 h16
  intro d
  induction d with
  | zero =>
    intro i n c hi hn
    obtain ⟨n, rfl⟩ : ∃ m, n = m + 1 := ⟨n - 1, by omega⟩
    exact ⟨c, by rw [f_X10_pivotal_14, rs_f r.1, r.al hN h16, obd_s, if_pos (nI_lt (by omega) (by omega))]⟩
  | succ d ih =>
    intro i n c hi hn
    obtain ⟨n, rfl⟩ : ∃ m, n = m + 1 := ⟨n - 1, by omega⟩
    obtain ⟨z, ez⟩ := has10_ex (nI i) hv M
    obtain ⟨y1, e1⟩ := rlv_l r hN h16 (nI i) N 0 n (by omega) (by omega)
    obtain ⟨y2, e2⟩ := rlv_l r hN h16 (nI i ||| ((1 : Int32) <<< (nI v &&& 31))) N 0 n (by omega) (by omega)
    have e1' : f_X10_isLive n 120 (nI i) M = some y1 := e1
    have e2' : f_X10_isLive n 120 (nI i ||| ((1 : Int32) <<< (nI v &&& 31))) M = some y2 := e2
    rw [f_X10_pivotal_14, rs_f r.1, r.al hN h16, obd_s, if_neg (nI_nl (by omega) (by omega)), ez, obd_s]
    split
    · rw [e1', obd_s]
      split
      · rw [e2', obd_s]
        split
        · rw [bnd_e, bnd_e, nI_1]; exact ih (i + 1) n _ (by omega) (by omega)
        · rw [bnd_e, bnd_e, nI_1]; exact ih (i + 1) n _ (by omega) (by omega)
      · rw [bnd_e, bnd_e, nI_1]; exact ih (i + 1) n _ (by omega) (by omega)
    · rw [bnd_e, bnd_e, nI_1]; exact ih (i + 1) n _ (by omega) (by omega)
theorem rbt_l (r : RV M tw t S pb pt) (hN : xR S 20 0 = nI N) (h16 : N ≤ 16) : ∀ (d i n : Nat), i + d = 2 ^ N → d + 101 ≤ n → ∃ x, f_X10_better_2 M n 120 (nI i) = some x := by
  have p := p16 h16
  intro d
  induction d with
  | zero =>
    intro i n hi hn
    obtain ⟨n, rfl⟩ : ∃ m, n = m + 1 := ⟨n - 1, by omega⟩
    exact ⟨-1, by rw [f_X10_better_2, rs_f r.1, r.al hN h16, obd_s, if_pos (nI_lt (by omega) (by omega))]⟩
  | succ d ih =>
    intro i n hi hn
    obtain ⟨n, rfl⟩ : ∃ m, n = m + 1 := ⟨n - 1, by omega⟩
    obtain ⟨y1, e1⟩ := rib_l r hN h16 (nI i) N 0 n (by omega) (by omega)
    have e1' : f_X10_isBetter n 120 (nI i) M = some y1 := e1
    rw [f_X10_better_2, rs_f r.1, r.al hN h16, obd_s, if_neg (nI_nl (by omega) (by omega)), e1', obd_s]
    split
    · rw [bnd_e, nI_1]; exact ih (i + 1) n (by omega) (by omega)
    · exact ⟨_, rfl⟩
end
section
variable {N : Nat} {tw : Bool} {t : Int32} {S : St} {pb pt : List Row4}
theorem RV.sb (hN : xR S 20 0 = nI N) (h16 : N ≤ 16) (ht : xR S 20 1 = 1 → N % 2 = 1) (b : Int32) {M : Mem} (r : RV M tw t S pb pt) {n : Nat} (hn : 100 ≤ n) : ∃ x M', f_X10_stopsBy n 120 b M = some (x, M') ∧ RV M' tw t S pb pt ∧ Fr P2 M M' := by
  obtain ⟨x, M', e, _, r', f'⟩ := rst_l hN h16 ht b N 0 n M r (by omega) (by omega)
  exact ⟨x, M', e, r', f'⟩
theorem rwk_0 {v1 : Int32} {M : Mem} {m n : Nat} (hm : m < 65536) (hn : 41 ≤ n) : ∃ x, f_X10_weakest_21 n 120 v1 (nI m) (-1) M = some (x, M) := by
  obtain ⟨n, rfl⟩ : ∃ j, n = j + 1 := ⟨n - 1, by omega⟩
  rw [f_X10_weakest_21, if_pos (show (-1 : Int32) < 0 by decide)]
  split
  · exact ⟨_, by rw [mny_k hm (by omega), obd_s]⟩
  · exact ⟨_, rfl⟩
theorem rwk_l (hN : xR S 20 0 = nI N) (h16 : N ≤ 16) (ht : xR S 20 1 = 1 → N % 2 = 1) (v1 : Int32) : ∀ (k m n : Nat) (M : Mem), RV M tw t S pb pt → k < 65536 → m < 65536 → k + 201 ≤ n → ∃ x M', f_X10_weakest_21 n 120 v1 (nI m) (nI k) M = some (x, M') ∧ RV M' tw t S pb pt ∧ Fr P2 M M' := by
  intro k
  induction k with
  | zero =>
    intro m n M r hk hm hn
    obtain ⟨n, rfl⟩ : ∃ j, n = j + 1 := ⟨n - 1, by omega⟩
    obtain ⟨y, M1, e1, r1, f1⟩ := r.sb hN h16 ht (nI 0) (n := n) (by omega)
    have d0 : nI 0 + (-1 : Int32) = -1 := by decide
    rw [f_X10_weakest_21, if_neg (show ¬ nI 0 < (0 : Int32) by decide), mny_k (by omega) (by omega), obd_s, mny_k hm (by omega), obd_s]
    split
    · obtain ⟨x, e⟩ := rwk_0 (v1 := v1) (M := M) (m := m) (n := n) hm (by omega)
      exact ⟨x, M, by rw [bnd_e, d0]; exact e, r, Fr.rf _ _⟩
    · rw [rs_f r.1, e1, obd2_s]
      split
      · obtain ⟨x, e⟩ := rwk_0 (v1 := v1) (M := M1) (m := m) (n := n) hm (by omega)
        exact ⟨x, M1, by rw [bnd_e, d0]; exact e, r1, f1⟩
      · obtain ⟨x, e⟩ := rwk_0 (v1 := v1) (M := M1) (m := 0) (n := n) (by omega) (by omega)
        exact ⟨x, M1, by rw [bnd_e, d0]; exact e, r1, f1⟩
  | succ k ih =>
    intro m n M r hk hm hn
    obtain ⟨n, rfl⟩ : ∃ j, n = j + 1 := ⟨n - 1, by omega⟩
    obtain ⟨y, M1, e1, r1, f1⟩ := r.sb hN h16 ht (nI (k + 1)) (n := n) (by omega)
    rw [f_X10_weakest_21, if_neg (show ¬ nI (k + 1) < (0 : Int32) from nI_nl (a := k + 1) (b := 0) (by omega) (by omega)), mny_k hk (by omega), obd_s, mny_k hm (by omega), obd_s]
    split
    · rw [bnd_e, nI_d1]; exact ih m n M r (by omega) hm (by omega)
    · rw [rs_f r.1, e1, obd2_s]
      split
      · obtain ⟨x, M', e', r', f'⟩ := ih m n M1 r1 (by omega) hm (by omega)
        exact ⟨x, M', by rw [bnd_e, nI_d1]; exact e', r', f1.tr f'⟩
      · obtain ⟨x, M', e', r', f'⟩ := ih (k + 1) n M1 r1 (by omega) hk (by omega)
        exact ⟨x, M', by rw [bnd_e, nI_d1]; exact e', r', f1.tr f'⟩
theorem rch_l (hN : xR S 20 0 = nI N) (h16 : N ≤ 16) (ht : xR S 20 1 = 1 → N % 2 = 1) (v1 : Int32) : ∀ (d i n : Nat) (c : Int64) (M : Mem), RV M tw t S pb pt → i + d = 2 ^ N → d + 201 ≤ n → ∃ x M', f_X10_chance_17 n 120 v1 c (nI i) M = some (x, M') ∧ RV M' tw t S pb pt ∧ Fr P2 M M' := by
  have p := p16 h16
  intro d
  induction d with
  | zero =>
    intro i n c M r hi hn
    obtain ⟨n, rfl⟩ : ∃ j, n = j + 1 := ⟨n - 1, by omega⟩
    obtain ⟨x, e⟩ := r.mill hN h16 c (n := n) (by omega)
    exact ⟨x, M, by rw [f_X10_chance_17, rs_f r.1, r.al hN h16, obd_s, if_pos (nI_lt (by omega) (by omega)), e, obd_s], r, Fr.rf _ _⟩
  | succ d ih =>
    intro i n c M r hi hn
    obtain ⟨n, rfl⟩ : ∃ j, n = j + 1 := ⟨n - 1, by omega⟩
    obtain ⟨y, M1, e1, r1, f1⟩ := r.sb hN h16 ht (nI i) (n := n) (by omega)
    obtain ⟨z, ez⟩ := r1.odds hN h16 (k := i) (n := n) (by omega) v1 (by omega)
    rw [f_X10_chance_17, rs_f r.1, r.al hN h16, obd_s, if_neg (nI_nl (by omega) (by omega)), e1, obd2_s]
    split
    · obtain ⟨x, M', e', r', f'⟩ := ih (i + 1) n (c + z) M1 r1 (by omega) (by omega)
      exact ⟨x, M', by rw [rs_f r1.1, ez, obd_s, bnd_e, bnd_e, nI_1]; exact e', r', f1.tr f'⟩
    · obtain ⟨x, M', e', r', f'⟩ := ih (i + 1) n c M1 r1 (by omega) (by omega)
      exact ⟨x, M', by rw [bnd_e, nI_1]; exact e', r', f1.tr f'⟩
theorem rco_l (hN : xR S 20 0 = nI N) (h16 : N ≤ 16) (ht : xR S 20 1 = 1 → N % 2 = 1) {v : Nat} (hv : v < 16) (v2 : Int32) : ∀ (d i n : Nat) (c : Int64) (M : Mem), RV M tw t S pb pt → i + d = 2 ^ N → d + 201 ≤ n → ∃ x M', f_X10_chanceOf_25 n 120 (nI v) v2 c (nI i) M = some (x, M') ∧ RV M' tw t S pb pt ∧ Fr P2 M M' := by
  have p := p16 h16
  intro d
  induction d with
  | zero =>
    intro i n c M r hi hn
    obtain ⟨n, rfl⟩ : ∃ j, n = j + 1 := ⟨n - 1, by omega⟩
    obtain ⟨x, e⟩ := r.mill hN h16 c (n := n) (by omega)
    exact ⟨x, M, by rw [f_X10_chanceOf_25, rs_f r.1, r.al hN h16, obd_s, if_pos (nI_lt (by omega) (by omega)), e, obd_s], r, Fr.rf _ _⟩
  | succ d ih =>
    intro i n c M r hi hn
    obtain ⟨n, rfl⟩ : ∃ j, n = j + 1 := ⟨n - 1, by omega⟩
    obtain ⟨w, ew⟩ := has10_ex (nI i) (v := v) (by omega) M
    obtain ⟨M1, e1, r1, f1⟩ := r.tqby (n := n) hN h16 ht hv (nI i) (by omega)
    obtain ⟨z, ez⟩ := r1.odds hN h16 (k := i) (n := n) (by omega) v2 (by omega)
    rw [f_X10_chanceOf_25, rs_f r.1, r.al hN h16, obd_s, if_neg (nI_nl (by omega) (by omega)), ew, obd_s]
    split
    · rw [e1, obd2_s]
      split
      · obtain ⟨x, M', e', r', f'⟩ := ih (i + 1) n c M1 r1 (by omega) (by omega)
        exact ⟨x, M', by rw [bnd_e, nI_1]; exact e', r', f1.tr f'⟩
      · obtain ⟨x, M', e', r', f'⟩ := ih (i + 1) n (c + z) M1 r1 (by omega) (by omega)
        exact ⟨x, M', by rw [rs_f r1.1, ez, obd_s, bnd_e, bnd_e, nI_1]; exact e', r', f1.tr f'⟩
    · obtain ⟨x, M', e', r', f'⟩ := ih (i + 1) n c M r (by omega) (by omega)
      exact ⟨x, M', by rw [bnd_e, nI_1]; exact e', r', f'⟩
end
/-! ===== the survey, the class: rows of long bits ===== -/
/-- long numbers alone have changed -/
def FrLg (M M' : Mem) : Prop := M'.1 = M.1 ∧ ∀ o b, mI M' o b = mI M o b
theorem FrLg.rf (M : Mem) : FrLg M M := ⟨rfl, fun _ _ => rfl⟩
theorem FrLg.tr {M M' M'' : Mem} (h : FrLg M M') (h' : FrLg M' M'') : FrLg M M'' := ⟨h'.1.trans h.1, fun o b => (h'.2 o b).trans (h.2 o b)⟩
theorem FrLg.s (M : Mem) (o k : Nat) (x : Int64) : FrLg M (sL M o k x) := ⟨rfl, fun _ _ => rfl⟩
def SO (x : Int32) : Prop := ∀ i, 16 ≤ i → i < 32 → bt x i = false
theorem SO.k {x : Int32} (h : SO x) : ∃ k, k < 65536 ∧ x = nI k := ⟨x.toBitVec.toNat, bt_hi (k := 16) (by decide) h, nI_tn x⟩
theorem SO.or {x y : Int32} (h : SO x) (h' : SO y) : SO (x ||| y) := fun i a b => by rw [b_or, h i a b, h' i a b]; rfl
theorem SO.one {v : Nat} (hv : v < 16) : SO ((1 : Int32) <<< (nI v &&& 31)) := fun i a b => by
  rw [b_one (by omega) b]; exact decide_eq_false (by omega)
theorem sh6 {k : Nat} (hk : k < 65536) : nI k >>> ((6 : Int32) &&& 31) = nI (k / 64) := by
  refine b_ext fun i hi => ?_
  rw [show (6 : Int32) = nI 6 from rfl, b_sshr 6 (by decide) _ hi, bt_nI _ hi]
  have e : (k / 64).testBit i = k.testBit (6 + i) := by
    rw [show 64 = 2 ^ 6 from rfl, ← Nat.shiftRight_eq_div_pow, Nat.testBit_shiftRight]
  rw [e]
  by_cases c : 6 + i < 32
  · rw [if_pos c, bt_nI _ c]
  · rw [if_neg c, bt_nI _ (by decide)]
    have big : ∀ j, 16 ≤ j → k.testBit j = false := fun j hj => Nat.testBit_lt_two_pow (Nat.lt_of_lt_of_le hk (Nat.pow_le_pow_right (n := 2) (by decide) hj))
    rw [big 31 (by decide), big (6 + i) (by omega)]
theorem j13 (x : Int64) (M : Mem) : ∃ r, f_J13_bitCount_95d88 x M = some r := ⟨_, rfl⟩
theorem j6 (x : Int32) (M : Mem) : ∃ r, f_J6_bitCount_0f7a4 x M = some r := ⟨_, rfl⟩
theorem low_ex (x : Int64) (M : Mem) : ∃ r, f_X9_lowest x M = some r := by
  rw [f_X9_lowest]
  split
  · exact ⟨_, rfl⟩
  · obtain ⟨r, e⟩ := j13 ((x &&& (-x)) - (1 : Int64)) M
    exact ⟨r, by rw [e, obd_s]⟩
theorem us_p {N : Nat} (h16 : N ≤ 16) : ∃ k, k ≤ 10 ∧ us6 N = 2 ^ k := by
  unfold us6
  by_cases c : 6 < N
  · exact ⟨N - 6, by omega, if_pos c⟩
  · exact ⟨0, by omega, if_neg c⟩
theorem us_b {N : Nat} (h16 : N ≤ 16) : 1 ≤ us6 N ∧ us6 N ≤ 1024 := by
  obtain ⟨k, hk, e⟩ := us_p h16
  rw [e]
  exact ⟨Nat.one_le_two_pow, show 2 ^ k ≤ 2 ^ 10 from Nat.pow_le_pow_right (by decide) hk⟩
/-- a row of bits by sets -/
def F1 (M : Mem) (o q N : Nat) : Prop := (isO M 1 o ∧ mR M o 0 = q ∧ isO M 101 q ∧ mLn M q = 1024) ∧ mI M o 1 = nI N ∧ mI M o 2 = nI (us6 N)
theorem F1.l {M M' : Mem} {o q N : Nat} (h : F1 M o q N) (f : FrLg M M') : F1 M' o q N := by
  obtain ⟨⟨a, b, c, d⟩, e, g⟩ := h
  have io : ∀ {c o}, isO M c o → isO M' c o := fun z => by unfold isO mN mC at *; rw [f.1]; exact z
  exact ⟨⟨io a, by rw [mR_e f.1]; exact b, io c, by rw [mLn_e f.1]; exact d⟩, by rw [f.2]; exact e, by rw [f.2]; exact g⟩
section
variable {M : Mem} {o q N : Nat}
theorem F1.add (f : F1 M o q N) {x : Int32} (hx : SO x) : ∃ M', f_X1_add o x M = some M' ∧ FrLg M M' := by
  obtain ⟨k, hk, rfl⟩ := hx.k
  refine ⟨_, ?_, FrLg.s M q (nI (k / 64)).toNatClampNeg (mL M q (nI (k / 64)).toNatClampNeg ||| ((1 : Int64) <<< (((nI k &&& (63 : Int32))).toInt64 &&& 63)))⟩
  rw [f_X1_add, chk_t f.1.1, f.1.2.1, bnd_e, chk_t f.1.2.2.1, sh6 hk, bnd_e, f.1.2.2.2, chk_t (inB_n (by omega) (by decide)), chk_t (inB_n (by omega) (by decide)), bnd_e]
theorem F1.hv (f : F1 M o q N) (h16 : N ≤ 16) {k : Nat} (hk : k < us6 N) {a : Int32} (ha : a = -1 ∨ ∃ v, v < 16 ∧ a = nI v) : ∃ r, f_X1_having o (nI k) a M = some r := by
  have u := us_b h16
  have ib : inB (nI k) 1024 := inB_n (by omega) (by decide)
  rcases ha with rfl | ⟨v, hv, rfl⟩
  · exact ⟨_, by rw [f_X1_having, if_neg (show ¬ (0 : Int32) ≤ -1 by decide), chk_t f.1.1, f.1.2.1, bnd_e, chk_t f.1.2.2.1, f.1.2.2.2, chk_t ib]⟩
  · rw [f_X1_having, if_pos (show (0 : Int32) ≤ nI v from nI_le (a := 0) (Nat.zero_le _) (by omega))]
    by_cases c : 6 ≤ v
    · rw [if_pos (show (6 : Int32) ≤ nI v from nI_le (a := 6) c (by omega))]
      split
      · exact ⟨_, rfl⟩
      · exact ⟨_, by rw [chk_t f.1.1, f.1.2.1, bnd_e, chk_t f.1.2.2.1, f.1.2.2.2, chk_t ib]⟩
    · rw [if_neg (show ¬ (6 : Int32) ≤ nI v from nI_ge (b := 6) (by omega) (by decide))]
      exact ⟨_, by rw [chk_t f.1.1, f.1.2.1, bnd_e, chk_t f.1.2.2.1, f.1.2.2.2, chk_t ib, chk_t (inB_n (show v < 6 by omega) (by decide))]⟩
theorem wr71 (f : F1 M o q N) (n : Nat) (x : Int64) : ∃ r, f_X1_withoutRest_71 M n o x = some r := by
  rw [f_X1_withoutRest_71, chk_t f.1.1]
  split
  · exact ⟨_, rfl⟩
  · exact ⟨_, rfl⟩
theorem wr17 (f : F1 M o q N) : ∀ (d i n : Nat) (x : Int64), i + d = 6 → d + 1 ≤ n → ∃ r, f_X1_withoutRest_17 M n o x (nI i) = some r := by
  intro d
  induction d with
  | zero =>
    intro i n x hi hn
    obtain ⟨n, rfl⟩ : ∃ m, n = m + 1 := ⟨n - 1, by omega⟩
    rw [f_X1_withoutRest_17, if_pos (show (6 : Int32) ≤ nI i from nI_le (a := 6) (by omega) (by omega))]
    exact wr71 f n x
  | succ d ih =>
    intro i n x hi hn
    obtain ⟨n, rfl⟩ : ∃ m, n = m + 1 := ⟨n - 1, by omega⟩
    rw [f_X1_withoutRest_17, if_neg (show ¬ (6 : Int32) ≤ nI i from nI_ge (b := 6) (by omega) (by decide)), chk_t f.1.1]
    split
    · exact wr71 f n x
    · rw [chk_t (inB_n (show i < 6 by omega) (by decide)), chk_t (inB_n (show i < 6 by omega) (by decide)), bnd_e, bnd_e, nI_1]
      exact ih (i + 1) n _ (by omega) (by omega)
theorem F1.wr (f : F1 M o q N) (h16 : N ≤ 16) {k n : Nat} (hk : k < us6 N) (hn : 10 ≤ n) : ∃ r, f_X1_withoutRest n o (nI k) M = some r := by
  have u := us_b h16
  obtain ⟨r, e⟩ := wr17 f 6 0 n (mL M q (nI (us6 N - 1 - k)).toNatClampNeg) rfl (by omega)
  refine ⟨r, ?_⟩
  rw [f_X1_withoutRest, chk_t f.1.1, f.1.2.1, bnd_e, chk_t f.1.2.2.1, f.2.2, nI_m1' u.1, nI_sb (by omega), f.1.2.2.2, chk_t (inB_n (by omega) (by decide)), bnd_e]
  exact e
theorem F1.tb (f : F1 M o q N) (h16 : N ≤ 16) {v : Nat} (hv : v < 16) : ∀ (d i n : Nat) (c : Int32), i + d = us6 N → d + 1 ≤ n → ∃ r, f_X1_turnedBy_4 M n o (nI v) c (nI i) = some r := by
  have u := us_b h16
  intro d
  induction d with
  | zero =>
    intro i n c hi hn
    obtain ⟨n, rfl⟩ : ∃ m, n = m + 1 := ⟨n - 1, by omega⟩
    exact ⟨c, by rw [f_X1_turnedBy_4, chk_t f.1.1, f.2.2, if_pos (nI_le (by omega) (by omega))]⟩
  | succ d ih =>
    intro i n c hi hn
    obtain ⟨n, rfl⟩ : ∃ m, n = m + 1 := ⟨n - 1, by omega⟩
    obtain ⟨x, ex⟩ := f.hv h16 (k := i) (by omega) (Or.inr ⟨v, hv, rfl⟩)
    obtain ⟨y, ey⟩ := j13 x M
    obtain ⟨z, ez⟩ := j13 (mL M q (nI i).toNatClampNeg) M
    rw [f_X1_turnedBy_4, chk_t f.1.1, f.2.2, if_neg (nI_ge (by omega) (by omega)), ex, obd_s, ey, obd_s, f.1.2.1, bnd_e, chk_t f.1.2.2.1, f.1.2.2.2, chk_t (inB_n (by omega) (by decide)), ez, obd_s, bnd_e, bnd_e, nI_1]
    exact ih (i + 1) n _ (by omega) (by omega)
theorem F1.lb (f : F1 M o q N) (h16 : N ≤ 16) : ∀ (d i n : Nat), i + d = us6 N → d + 20 ≤ n → ∃ r, f_X1_leastBetter_2 M n o (nI i) = some r := by
  have u := us_b h16
  intro d
  induction d with
  | zero =>
    intro i n hi hn
    obtain ⟨n, rfl⟩ : ∃ m, n = m + 1 := ⟨n - 1, by omega⟩
    exact ⟨-1, by rw [f_X1_leastBetter_2, chk_t f.1.1, f.2.2, if_pos (nI_le (by omega) (by omega))]⟩
  | succ d ih =>
    intro i n hi hn
    obtain ⟨n, rfl⟩ : ∃ m, n = m + 1 := ⟨n - 1, by omega⟩
    obtain ⟨x, ex⟩ := f.wr h16 (k := i) (n := n) (by omega) (by omega)
    rw [f_X1_leastBetter_2, chk_t f.1.1, f.2.2, if_neg (nI_ge (by omega) (by omega)), f.1.2.1, bnd_e, chk_t f.1.2.2.1, f.1.2.2.2, chk_t (inB_n (by omega) (by decide)), ex, obd_s, bnd_e]
    split
    · rw [bnd_e, nI_1]; exact ih (i + 1) n (by omega) (by omega)
    · obtain ⟨y, ey⟩ := low_ex ((mL M q (nI i).toNatClampNeg ^^^ (-1 : Int64)) &&& x) M
      exact ⟨_, by rw [ey, obd_s]⟩
theorem ls25 {K : Nat → Int32 → Int32 → Int32 → Option Int32} {i : Nat} {x : Int64} (hK : ∀ v1 v2, ∃ r, K o v1 v2 (nI (i + 1)) = some r) : ∀ (d j n : Nat) (v1 v2 : Int32), j + d = 7 → d + 1 ≤ n → ∃ r, f_X1_leastStop_25 K M n o v1 v2 (nI i) x (nI j) = some r := by
  intro d
  induction d with
  | zero =>
    intro j n v1 v2 hj hn
    obtain ⟨n, rfl⟩ : ∃ m, n = m + 1 := ⟨n - 1, by omega⟩
    rw [f_X1_leastStop_25, if_pos (show (6 : Int32) < nI j from nI_lt (a := 6) (by omega) (by omega)), bnd_e, nI_1]
    exact hK v1 v2
  | succ d ih =>
    intro j n v1 v2 hj hn
    obtain ⟨n, rfl⟩ : ∃ m, n = m + 1 := ⟨n - 1, by omega⟩
    obtain ⟨y, ey⟩ := j6 (nI i) M
    rw [f_X1_leastStop_25, if_neg (show ¬ (6 : Int32) < nI j from nI_nl (a := 6) (by omega) (by decide)), ey, obd_s, bnd_e]
    split
    · rw [bnd_e, nI_1]; exact ih (j + 1) n _ _ (by omega) (by omega)
    · rw [chk_t (inB_n (show j < 7 by omega) (by decide))]
      split
      · rw [bnd_e, nI_1]; exact ih (j + 1) n _ _ (by omega) (by omega)
      · obtain ⟨z, ez⟩ := low_ex (x &&& l_OS (nI j).toNatClampNeg) M
        rw [chk_t (inB_n (show j < 7 by omega) (by decide)), ez, obd_s, bnd_e, bnd_e, nI_1]
        exact ih (j + 1) n _ _ (by omega) (by omega)
theorem F1.ls (f : F1 M o q N) (h16 : N ≤ 16) : ∀ (d i n : Nat) (v1 v2 : Int32), i + d = us6 N → d + 20 ≤ n → ∃ r, f_X1_leastStop_7 M n o v1 v2 (nI i) = some r := by
  have u := us_b h16
  intro d
  induction d with
  | zero =>
    intro i n v1 v2 hi hn
    obtain ⟨n, rfl⟩ : ∃ m, n = m + 1 := ⟨n - 1, by omega⟩
    exact ⟨v1, by rw [f_X1_leastStop_7, chk_t f.1.1, f.2.2, if_pos (nI_le (by omega) (by omega))]⟩
  | succ d ih =>
    intro i n v1 v2 hi hn
    obtain ⟨n, rfl⟩ : ∃ m, n = m + 1 := ⟨n - 1, by omega⟩
    obtain ⟨x, ex⟩ := f.wr h16 (k := i) (n := n) (by omega) (by omega)
    rw [f_X1_leastStop_7, chk_t f.1.1, f.2.2, if_neg (nI_ge (by omega) (by omega)), ex, obd_s]
    exact ls25 (fun v1 v2 => ih (i + 1) n v1 v2 (by omega) (by omega)) 7 0 n v1 v2 rfl (by omega)
theorem wg26 {K : Nat → Int32 → Nat → Int64 → Int32 → Option Int64} {i w : Nat} {a : Int32} (hi : i < 1024) (hw : isO M 101 w) (hl : mLn M w = 17) (hK : ∀ c, ∃ r, K o a w c (nI (i + 1)) = some r) : ∀ (d j n : Nat) (c x : Int64), j + d = 7 → d + 1 ≤ n → ∃ r, f_X1_weigh_26 K M n o a w c (nI i) x (nI j) = some r := by
  have b16 : ∀ i', 16 ≤ i' → i' < 32 → bt (nI i) i' = false := bt_hk (j := 16) (by omega)
  have pl := pc_lj (x := nI i) (j := 10) (by decide) (bt_hk (j := 10) (by omega))
  intro d
  induction d with
  | zero =>
    intro j n c x hj hn
    obtain ⟨n, rfl⟩ : ∃ m, n = m + 1 := ⟨n - 1, by omega⟩
    rw [f_X1_weigh_26, if_pos (show (6 : Int32) < nI j from nI_lt (a := 6) (by omega) (by omega)), bnd_e, nI_1]
    exact hK c
  | succ d ih =>
    intro j n c x hj hn
    obtain ⟨n, rfl⟩ : ∃ m, n = m + 1 := ⟨n - 1, by omega⟩
    rw [f_X1_weigh_26, if_neg (show ¬ (6 : Int32) < nI j from nI_nl (a := 6) (by omega) (by decide))]
    split
    · rw [bnd_e, nI_1]; exact hK c
    · obtain ⟨y, ey⟩ := j13 (x &&& l_OS (nI j).toNatClampNeg) M
      rw [chk_t (inB_n (show j < 7 by omega) (by decide)), ey, obd_s, f_bcx b16 M, obd_s, chk_t hw, nI_add, hl, chk_t (inB_n (by omega) (by decide)), bnd_e, bnd_e, nI_1]
      exact ih (j + 1) n _ _ (by omega) (by omega)
theorem F1.wg (f : F1 M o q N) (h16 : N ≤ 16) {w : Nat} {a : Int32} (ha : a = -1 ∨ ∃ v, v < 16 ∧ a = nI v) (hw : isO M 101 w) (hl : mLn M w = 17) : ∀ (d i n : Nat) (c : Int64), i + d = us6 N → d + 20 ≤ n → ∃ r, f_X1_weigh_5 M n o a w c (nI i) = some r := by
  have u := us_b h16
  intro d
  induction d with
  | zero =>
    intro i n c hi hn
    obtain ⟨n, rfl⟩ : ∃ m, n = m + 1 := ⟨n - 1, by omega⟩
    exact ⟨c, by rw [f_X1_weigh_5, chk_t f.1.1, f.2.2, if_pos (nI_le (by omega) (by omega))]⟩
  | succ d ih =>
    intro i n c hi hn
    obtain ⟨n, rfl⟩ : ∃ m, n = m + 1 := ⟨n - 1, by omega⟩
    obtain ⟨x, ex⟩ := f.hv h16 (k := i) (by omega) ha
    rw [f_X1_weigh_5, chk_t f.1.1, f.2.2, if_neg (nI_ge (by omega) (by omega)), ex, obd_s]
    exact wg26 (by omega) hw hl (fun c => ih (i + 1) n c (by omega) (by omega)) 7 0 n c x rfl (by omega)
end
theorem p8_ex (M : Mem) (a e : Int32) (K : Nat) (he : e ≤ nI K) (hK : K < 1000) : ∀ (d i n : Nat) (c : Int64), i + d = K → d + 1 ≤ n → ∃ r, f_X8_power_5 M n a e c (nI i) = some r := by
  intro d
  induction d with
  | zero =>
    intro i n c hi hn
    obtain ⟨n, rfl⟩ : ∃ m, n = m + 1 := ⟨n - 1, by omega⟩
    exact ⟨c, by rw [f_X8_power_5, if_pos (by rw [show i = K by omega]; exact he)]⟩
  | succ d ih =>
    intro i n c hi hn
    obtain ⟨n, rfl⟩ : ∃ m, n = m + 1 := ⟨n - 1, by omega⟩
    by_cases z : e ≤ nI i
    · exact ⟨c, by rw [f_X8_power_5, if_pos z]⟩
    · rw [f_X8_power_5, if_neg z, bnd_e, bnd_e, nI_1]
      exact ih (i + 1) n _ (by omega) (by omega)
theorem p8 (M : Mem) (a : Int32) {k n : Nat} (hk : k ≤ 16) (hn : 20 ≤ n) : ∃ r, f_X8_power n a (nI k) M = some r :=
  p8_ex M a (nI k) 16 (nI_le hk (by decide)) (by decide) 16 0 n 1 rfl (by omega)
/-- the survey's shapes -/
def W5 (M : Mem) : Prop := (isO M 8 5 ∧ isO M 1 6 ∧ isO M 101 7 ∧ isO M 1 8 ∧ isO M 101 9 ∧ isO M 101 10 ∧ isO M 100 11 ∧ isO M 100 12 ∧ isO M 100 13) ∧ (mR M 5 0 = 6 ∧ mR M 5 1 = 8 ∧ mR M 5 2 = 10 ∧ mR M 5 3 = 11 ∧ mR M 5 4 = 12 ∧ mR M 5 5 = 13 ∧ mR M 6 0 = 7 ∧ mR M 8 0 = 9) ∧ (mLn M 7 = 1024 ∧ mLn M 9 = 1024 ∧ mLn M 10 = 17 ∧ mLn M 11 = 305 ∧ mLn M 12 = 16 ∧ mLn M 13 = 16)
theorem W5.e {M M' : Mem} (h : W5 M) (e : M'.1 = M.1) : W5 M' := by
  unfold W5 isO mN mC mR mLn at *
  rw [e]; exact h
theorem m8_l {N : Nat} (h16 : N ≤ 16) {a v2 : Int32} (ha : a = -1 ∨ ∃ v, v < 16 ∧ a = nI v) : ∀ (d i n : Nat) (M : Mem), i + d = N + 1 → W5 M → F1 M 8 9 N → d + 1100 ≤ n → ∃ x M', f_X8_millionths_3 n 5 a v2 (nI N) (nI i) M = some (x, M') ∧ FrLg M M' := by
  have u := us_b h16
  intro d
  induction d with
  | zero =>
    intro i n M hi w f hn
    obtain ⟨n, rfl⟩ : ∃ m, n = m + 1 := ⟨n - 1, by omega⟩
    obtain ⟨⟨w1, w2, w3, w4, w5, w6, w7, w8, w9⟩, ⟨y1, y2, y3, y4, y5, y6, y7, y8⟩, ⟨z1, z2, z3, z4, z5, z6⟩⟩ := w
    obtain ⟨x, ex⟩ := f.wg h16 ha w6 z3 (us6 N) 0 n 0 (by omega) (by omega)
    have ex' : f_X1_weigh n 8 a 10 M = some x := ex
    rw [f_X8_millionths_3, if_pos (nI_lt (by omega) (by omega)), chk_t w1, y2, bnd_e, chk_t w4, y3, bnd_e, chk_t w6, ex', obd_s]
    by_cases c : 6 ≤ N
    · obtain ⟨p, ep⟩ := p8 M (10 : Int32) (k := N - 6) (n := n) (by omega) (by omega)
      have nz : ¬ (if p < (1 : Int64) then (1 : Int64) else p) = 0 := by
        by_cases z : p < (1 : Int64)
        · rw [if_pos z]; decide
        · rw [if_neg z]
          intro h
          rw [h] at z
          exact z (by decide)
      exact ⟨_, M, by rw [if_pos (show (6 : Int32) ≤ nI N from nI_le (a := 6) c (by omega)), show nI N - (6 : Int32) = nI (N - 6) by rw [show (6 : Int32) = nI 6 from rfl, nI_sb c], ep, obd_s, chk_t nz], FrLg.rf M⟩
    · obtain ⟨p, ep⟩ := p8 M (10 : Int32) (k := 6 - N) (n := n) (by omega) (by omega)
      exact ⟨_, M, by rw [if_neg (show ¬ (6 : Int32) ≤ nI N from nI_ge (b := 6) (by omega) (by decide)), show (6 : Int32) - nI N = nI (6 - N) by rw [show (6 : Int32) = nI 6 from rfl, nI_sb (by omega)], ep, obd_s], FrLg.rf M⟩
  | succ d ih =>
    intro i n M hi w f hn
    obtain ⟨n, rfl⟩ : ∃ m, n = m + 1 := ⟨n - 1, by omega⟩
    obtain ⟨⟨w1, w2, w3, w4, w5, w6, w7, w8, w9⟩, ⟨y1, y2, y3, y4, y5, y6, y7, y8⟩, ⟨z1, z2, z3, z4, z5, z6⟩⟩ := id w
    obtain ⟨p, ep⟩ := p8 M ((10 : Int32) - v2) (k := i) (n := n) (by omega) (by omega)
    obtain ⟨p', ep'⟩ := p8 M v2 (k := N - i) (n := n) (by omega) (by omega)
    have fl := FrLg.s M 10 (nI i).toNatClampNeg (p * p')
    obtain ⟨x, M', e', f'⟩ := ih (i + 1) n (sL M 10 (nI i).toNatClampNeg (p * p')) (by omega) (w.e rfl) (f.l fl) (by omega)
    exact ⟨x, M', by rw [f_X8_millionths_3, if_neg (nI_nl (by omega) (by omega)), chk_t w1, y3, bnd_e, chk_t w6, ep, obd_s, nI_sb (by omega), ep', obd_s, z3, chk_t (inB_n (by omega) (by decide)), bnd_e, bnd_e, nI_1]; exact e', fl.tr f'⟩
