/-! ===== a crowd: the two answers ===== -/
theorem f_isI {a b : Nat} (M : Mem) (h : a ≤ b) (hb : b < 2 ^ 31) : f_X10_isIn (nI a) (0 : Int32) (nI b) M = some 1 := by
  rw [f_X10_isIn, if_neg (show ¬ nI a < 0 from nI_nlt (b := 0) (by omega) (by omega)), if_neg (nI_nlt h hb)]
theorem c59_l {tw : Bool} {t a1 a2 a3 x19 x25 r28 : Int32} {S0 : St} {pb pt : List Row4} {N : Nat} (hN : xR S0 20 0 = nI N) (h16 : N ≤ 16) : ∀ (d i n : Nat) (M : Mem), i + d = N → RV M tw t S0 pb pt → (∀ v, v < i → mI M 127 v = xR S0 12 v) → d + 1 ≤ n → ∃ M' n', f_X10_crowd_59 n 120 a1 a2 a3 x19 x25 r28 (nI i) M = f_X10_crowd_102 n' 120 a2 a3 x19 x25 r28 (1 : Int32) (0 : Int32) (sL M' 120 8 (a1.toInt64)) ∧ n ≤ n' + d + 1 ∧ RV M' tw t S0 pb pt ∧ (∀ v, v < N → mI M' 127 v = xR S0 12 v) ∧ ∀ k, mI M' 120 k = mI M 120 k := by
  intro d
  induction d with
  | zero =>
    intro i n M hi p ht hn
    obtain ⟨n, rfl⟩ : ∃ m, n = m + 1 := ⟨n - 1, by omega⟩
    refine ⟨M, n, ?_, by omega, p, fun v hv => ht v (by omega), fun _ => rfl⟩
    rw [f_X10_crowd_59, rs_f p.1, rs_0 p.1, bnd_e, rs_fa p.1, rs_c0 p.1, cl0, p.N hN, if_pos (nI_le (by omega) (by omega)), bnd_e]
  | succ d ih =>
    intro i n M hi p ht hn
    obtain ⟨n, rfl⟩ : ∃ m, n = m + 1 := ⟨n - 1, by omega⟩
    have i6 : i < 16 := by omega
    have ec : f_X10_countOf 120 (nI i) (0 : Int32) M = some (xR S0 12 i) := p.cnt i6 (w := 0) (by decide)
    generalize hMa : sI M 127 i (xR S0 12 i) = Ma
    have pa : RV Ma tw t S0 pb pt := p.cg (by rw [← hMa]; rfl) (by rw [← hMa, mI_o _ _ _ _ _ (by decide)]) (fun b => by rw [← hMa, mI_o _ _ _ _ _ (by decide)]) (fun b => by rw [← hMa, mI_o _ _ _ _ _ (by decide)])
    obtain ⟨M', n', e', hn', p', t', k'⟩ := ih (i + 1) n Ma (by omega) pa (fun v hv => by
      rw [← hMa]
      by_cases c : v = i
      · rw [c, mI_s]
      · rw [mI_n _ _ _ _ c]; exact ht v (by omega)) (by omega)
    refine ⟨M', n', ?_, by omega, p', t', fun k => by rw [k', ← hMa, mI_o _ _ _ _ _ (by decide)]⟩
    rw [f_X10_crowd_59, rs_f p.1, rs_0 p.1, bnd_e, rs_fa p.1, rs_c0 p.1, cl0, p.N hN, if_neg (nI_ge (by omega) (by omega)), rs_10 p.1, bnd_e, rs_f10 p.1, ec, obd_s, rs_c10 p.1 i6, sI_d (by omega), hMa, bnd_e, nI_1, bnd_e]
    exact e'
/-- what a crowd rests on -/
def CK (N A P T : Nat) (S0 : St) : Prop := 2 ≤ N ∧ N ≤ 16 ∧ T ≤ 500 ∧ CJ N A P S0 S0 0 ∧ xR S0 20 0 = nI N ∧ (xR S0 20 1 = 1 → N % 2 = 1) ∧ (∀ v, v < N → ∀ i, N ≤ i → i < 32 → bt (qm N S0 v) i = false) ∧ (∀ r, r ≤ T → A + N * (r + 1) < 1048576) ∧ ∀ r, r ≤ T → P + 2 * N * r + N * N + N ≤ 9000
theorem CJ_n {N A P T : Nat} {S0 : St} (hk : CK N A P T S0) (t : Int32) : ∀ (d i : Nat) (q : St × Int64 × Bool), i + d ≤ T → CJ N A P S0 q.1 i → CJ N A P S0 (crn t N d q).1 (i + d) := by
  obtain ⟨h2N, h16, hT, _, _, _, hQb, hA, _⟩ := hk
  intro d
  induction d with
  | zero => intro i q _ J; exact J
  | succ d ih =>
    intro i q hi J
    obtain ⟨S, g, b⟩ := q
    have := ih (i + 1) (cr1 t N (S, g, b)) (by omega) (J.c1 h2N h16 (hA i (by omega)) hQb t g b)
    rw [show i + (d + 1) = i + 1 + d by omega]
    exact this
theorem lN_Gk {s : Nat} (h : s < 2 ^ 31) : Gk ((nI s).toInt64) := ⟨s, h, nI_l h⟩
set_option maxHeartbeats 1000000 in
theorem RV.crowd {M : Mem} {tw : Bool} {t : Int32} {S0 : St} {pb pt : List Row4} {N A P T s w n : Nat} (p : RV M tw t S0 pb pt) (hk : CK N A P T S0) (h7 : mI M 120 7 = 0) (hs : s < 2 ^ 31) (hw : w < 6) (hn : 13000 ≤ n) : ∃ M', f_X10_crowd n 120 (nI s) (nI T) (nI w) M = some (cR N S0 (crn t N T (S0, (nI s).toInt64, true)).1 w, M') := by
  obtain ⟨h2N, h16, hT, J, hN, ht, hQb, hA, hP⟩ := id hk
  have ea := f_aside p.1 (n := n) (by omega)
  generalize hMa : cpF M 121 126 0 = Ma at ea
  have pa : RV Ma tw t S0 pb pt := by
    have o : ∀ o, o ≠ 126 → ∀ b, mI Ma o b = mI M o b := fun o n b => by
      rw [← hMa]
      show (if o = 126 ∧ 0 ≤ b ∧ b < 10465 then M.2.1 121 b else M.2.1 o b) = M.2.1 o b
      rw [if_neg (fun z => n z.1)]
    exact p.cg (by rw [← hMa]; rfl) (o 120 (by decide) 3) (o 121 (by decide)) (o 123 (by decide))
  have ka : mI Ma 120 7 = 0 := by
    rw [← hMa]
    show (if 120 = 126 ∧ 0 ≤ 7 ∧ 7 < 10465 then M.2.1 121 7 else M.2.1 120 7) = 0
    rw [if_neg (by decide)]; exact h7
  have g0 : mI Ma 121 9851 = xR S0 15 0 := pa.rg (k := 15) (i := 0) (by unfold vk; omega)
  have g2 : mI Ma 121 9853 = xR S0 15 2 := pa.rg (k := 15) (i := 2) (by unfold vk; omega)
  have sn := pa.sent (n := n) (by omega)
  obtain ⟨M1, n1, e1, hn1, p1, t1, k1⟩ := c59_l (a1 := nI s) (a2 := nI T) (a3 := nI w) (x19 := xR S0 15 0) (x25 := xR S0 15 2) (r28 := sa6 S0) hN h16 N 0 n Ma (by omega) pa (fun v hv => by omega) (by omega)
  have p2 : RV (sL M1 120 8 ((nI s).toInt64)) tw t S0 pb pt := p1.tsL _ _ _
  obtain ⟨M3, n3, e3, hn3, p3, f3⟩ := RV.crl (w := nI w) (e1 := xR S0 15 0) (e2 := xR S0 15 2) (e3 := sa6 S0) h2N h16 hT hN ht hQb hA hP T 0 n1 (sL M1 120 8 ((nI s).toInt64)) S0 ((nI s).toInt64) true (by omega) p2 (by
    show mI M1 120 7 = 0
    rw [k1]; exact ka) (mL_s _ _ _ _) (lN_Gk hs) J (by omega)
  have J3 := CJ_n hk t T 0 (S0, (nI s).toInt64, true) (by omega) J
  have r20 := J3.2.2.1 20 (by omega) 0
  have tl := p3.told (S0 := S0) (n := n3) (w := w) (r20.trans hN) h16 (fun v _ => J3.2.2.1 7 (by omega) v) (fun v hv => by
    rw [f3.2.1 127 (by decide) v]; exact t1 v hv) hw (by omega)
  have eb := f_back p3.1 (n := n3) (by omega)
  refine ⟨cpF M3 126 121 0, ?_⟩
  rw [f_X10_crowd, if_neg (show ¬ nI s < 0 from nI_nlt (b := 0) (by omega) hs), show (500 : Int32) = nI 500 from rfl, f_isI M hT (by decide), obd_s, if_neg ne10, show (5 : Int32) = nI 5 from rfl, f_isI M (show w ≤ 5 by omega) (by decide), obd_s, if_neg ne10, rs_f p.1, ea, obd_s, rs_f pa.1, rs_0 pa.1, bnd_e, rs_fa pa.1, show (9851 : Int32) = nI 9851 from rfl, rs_c pa.1 (by decide), cl_n (by decide), g0, bnd_e, bnd_e, rs_fa pa.1, show (9853 : Int32) = nI 9853 from rfl, rs_c pa.1 (by decide), cl_n (by decide), g2, bnd_e, sn, obd_s, show (0 : Int32) = nI 0 from rfl, e1]
  have e3' : f_X10_crowd_102 n1 120 (nI T) (nI w) (xR S0 15 0) (xR S0 15 2) (sa6 S0) (1 : Int32) (0 : Int32) (sL M1 120 8 ((nI s).toInt64)) = f_X10_crowd_129 n3 120 (nI w) (xR S0 15 0) (xR S0 15 2) (sa6 S0) M3 := e3
  rw [e3', f_X10_crowd_129, rs_f p3.1, tl, obd_s, eb, obd_s]
theorem idl_clr (S : St) : ∀ n, idl (clr S) n = idl S n := by
  intro n
  induction n with
  | zero => rfl
  | succ n ih => unfold idl; rw [ih]; rfl
theorem CJ_clr {N A P : Nat} {S : St} (J : CJ N A P S S 0) : CJ N A P (clr S) (clr S) 0 := by
  obtain ⟨h1, h2, h3, h4⟩ := J
  refine ⟨h1, ?_, fun _ _ _ => rfl, fun u => h4 u⟩
  unfold Psi at h2 ⊢
  rw [idl_clr]
  exact h2
/-- the reference's objects stay -/
def FrO (M M' : Mem) : Prop := mN M ≤ mN M' ∧ ∀ o, 112 ≤ o → o < 131 → M'.1.2.1 o = M.1.2.1 o ∧ (∀ b, mR M' o b = mR M o b) ∧ (∀ b, mI M' o b = mI M o b) ∧ ∀ b, mL M' o b = mL M o b
theorem FrH.o {M M' : Mem} (f : FrH M M' 63) (hN : 131 ≤ mN M) (hR : ∀ i, 5 ≤ i → i ≤ 7 → mR M 64 i = 63 + 2 + i ∨ 131 ≤ mR M 64 i) : FrO M M' := by
  obtain ⟨f1, f2, f3, f4, f5, f6⟩ := f
  have r5 := hR 5 (by decide) (by decide)
  have r6 := hR 6 (by decide) (by decide)
  have r7 := hR 7 (by decide) (by decide)
  refine ⟨f1, fun o h1 h2 => ⟨f2 o (by omega), fun b => f3 o b (by omega) (by omega), fun b => f4 o (by omega) (by omega) (show o ≠ mR M 64 5 by omega) (show o ≠ mR M 64 6 by omega) (show o ≠ mR M 64 7 by omega) b, fun b => f5 o (by omega) b⟩⟩
theorem FrH.r57 {M M' : Mem} (f : FrH M M' 63) (hN : 131 ≤ mN M) (hR : ∀ i, 5 ≤ i → i ≤ 7 → mR M 64 i = 63 + 2 + i ∨ 131 ≤ mR M 64 i) : ∀ i, 5 ≤ i → i ≤ 7 → mR M' 64 i = 63 + 2 + i ∨ 131 ≤ mR M' 64 i := by
  intro i a b
  have z : mR M' 64 i = mR M 64 i ∨ mN M ≤ mR M' 64 i := f.2.2.2.2.2 i a b
  rcases z with z | z
  · rw [z]; exact hR i a b
  · exact Or.inr (by omega)
theorem FrO.tr {M M' M'' : Mem} (f : FrO M M') (f' : FrO M' M'') : FrO M M'' := by
  refine ⟨Nat.le_trans f.1 f'.1, fun o h1 h2 => ?_⟩
  obtain ⟨a1, a2, a3, a4⟩ := f.2 o h1 h2
  obtain ⟨b1, b2, b3, b4⟩ := f'.2 o h1 h2
  exact ⟨b1.trans a1, fun b => (b2 b).trans (a2 b), fun b => (b3 b).trans (a3 b), fun b => (b4 b).trans (a4 b)⟩
set_option maxHeartbeats 1000000 in
theorem HV.crowd {M : Mem} {X Y X' Y' N A P T s w n : Nat} {t : Int32} {Q : Nat → Int32} {S0 : St} {pb pt pb' pt' : List Row4} (p : HV M 14 X Y t N Q S0 pb pt) (r : TR M 63 X' Y' pb' pt') (x : XT M) (hz : ∃ u, u ≤ 64 ∧ mI M 15 8 = nI u) (hD : ∀ i j, 5 ≤ i → i ≤ 7 → 5 ≤ j → j ≤ 7 → mR M 64 i ≠ mR M 15 j) (hR : ∀ i, 5 ≤ i → i ≤ 7 → mR M 64 i = 63 + 2 + i) (hk : CK N A P T S0) (hQ : ∀ v, v < N → qm N S0 v = Q v) (hs : s < 2 ^ 31) (hw : w < 6) (hn : 1000 ≤ n) : ∃ M', f_X9_crowd n 0 (nI s) (nI T) (nI w) M = some (cT N S0 (crn t N T (clr S0, (nI s).toInt64, true)).1 w, M') ∧ FrO M M' := by
  obtain ⟨h2N, h16, hT, J, hN, ht, hQb, hA, hP⟩ := id hk
  have hI := J.1
  have hAA := hI.1
  have hFF := hI.2.2.2.2.2.1
  obtain ⟨M1, e1, p1, f1⟩ := p.copy (n := n) r (by omega) h16 hD (fun v hv => (hAA v hv).2.2.2) (fun v hv w hw => by have := ((hFF v hv).1.2.2 w hw).1; omega) (by omega)
  have x1 := x.fr f1
  generalize hM2 : sL M1 63 16 ((nI s).toInt64) = M2
  have p2 : HV M2 63 X' Y' t N Q (clr S0) pb' pt' := by rw [← hM2]; exact p1.tsL _ _ _
  have x2 : XT M2 := by rw [← hM2]; exact x1.sL _ _ _
  have g2 : mL M2 63 16 = (nI s).toInt64 := by rw [← hM2, mL_s]
  have J0 : CJ N A P (clr S0) (clr S0) 0 := CJ_clr J
  obtain ⟨M3, n3, e3, hn3, p3, f3, J3⟩ := HV.crl (w := nI w) (S0 := clr S0) h2N h16 hT hQ hQb hA hP T 0 n M2 (clr S0) ((nI s).toInt64) true (by omega) p2 x2 g2 (lN_Gk hs) J0 (by omega)
  have x3 := x2.frD f3
  obtain ⟨y, f3⟩ := f3
  have hN1 := x.2.2.2.2
  have o14 : HH M3 14 S0 := by
    have q1 : mN M ≤ mN M1 := f1.1
    have cs3 : CS M3 14 := by
      have c := p.1
      refine ⟨fun i hi hn => ?_, fun q hq => ?_, ?_, ?_, c.2.2.2.2.1, c.2.2.2.2.2.1, x3.2.2.2.2⟩
      · rw [f3.2.1 (14 + i) (by show 14 + i < mN M2; rw [← hM2]; show 14 + i < mN M1; omega), ← hM2]
        show M1.1.2.1 (14 + i) = _
        rw [f1.2.1 (14 + i) (by omega)]
        exact c.1 i hi hn
      · have hb : ∀ z, z ∈ tH → z.1 < 49 := by decide
        have hb' := hb q hq
        rw [f3.2.2.1 (14 + q.1) q.2.1 (by show 14 + q.1 < mN M2; rw [← hM2]; show 14 + q.1 < mN M1; omega) (by omega), ← hM2]
        show mR M1 (14 + q.1) q.2.1 = _
        rw [f1.2.2.1 (14 + q.1) q.2.1 (by omega) (by omega)]
        exact c.2.1 q hq
      · rw [f3.2.2.1 14 0 (by show 14 < mN M2; rw [← hM2]; show 14 < mN M1; omega) (by omega), ← hM2]
        show mR M1 14 0 = 1
        rw [f1.2.2.1 14 0 (by omega) (by omega)]
        exact c.2.2.1
      · have c1 := p3.1.2.2.2.1
        exact c1
    refine p.hh.cg cs3 (fun o h1 h2 h3 b => ?_)
    have m1 : mI M1 o b = mI M o b := f1.2.2.2.1 o (by omega) (by omega) (by rw [hR 5 (by decide) (by decide)]; omega) (by rw [hR 6 (by decide) (by decide)]; omega) (by rw [hR 7 (by decide) (by decide)]; omega) b
    have rr : ∀ j, 5 ≤ j → j ≤ 7 → o ≠ mR M1 64 j := fun j a b => by
      have z' : mR M1 64 j = mR M 64 j ∨ mN M ≤ mR M1 64 j := f1.2.2.2.2.2 j a b
      rcases z' with z | z
      · rw [z, hR j a b]; omega
      · omega
    have m3 : mI M3 o b = mI M1 o b := by
      have := f3.2.2.2.1 o (by show o < mN M2; rw [← hM2]; show o < mN M1; omega) (by omega) (by
        show o ≠ mR M2 64 5
        rw [← hM2]; exact rr 5 (by decide) (by decide)) (by
        show o ≠ mR M2 64 6
        rw [← hM2]; exact rr 6 (by decide) (by decide)) (by
        show o ≠ mR M2 64 7
        rw [← hM2]; exact rr 7 (by decide) (by decide)) b
      rw [this, ← hM2]; rfl
    rw [m3, m1]
  have c := c85 (n := n3) p3 x3 o14 h16 (fun v hv => (hAA v hv).2.2.1) hw (by omega)
  have hR' : ∀ i, 5 ≤ i → i ≤ 7 → mR M 64 i = 63 + 2 + i ∨ 131 ≤ mR M 64 i := fun i a b => Or.inl (hR i a b)
  have O1 := f1.o hN1 hR'
  have O2 : FrO M1 M2 := by
    rw [← hM2]
    refine ⟨Nat.le_refl _, fun o a b => ⟨rfl, fun _ => rfl, fun _ => rfl, fun b' => ?_⟩⟩
    rw [mL_sL, if_neg (by omega)]
  have hR2 : ∀ i, 5 ≤ i → i ≤ 7 → mR (sL M2 63 16 y) 64 i = 63 + 2 + i ∨ 131 ≤ mR (sL M2 63 16 y) 64 i := fun i a b => by
    rw [← hM2]; exact f1.r57 hN1 hR' i a b
  have O3 := f3.o (by show 131 ≤ mN M2; rw [← hM2]; exact Nat.le_trans hN1 O1.1) hR2
  have O3' : FrO M2 M3 := by
    refine FrO.tr (M' := sL M2 63 16 y) ⟨Nat.le_refl _, fun o a b => ⟨rfl, fun _ => rfl, fun _ => rfl, fun b' => ?_⟩⟩ O3
    rw [mL_sL, if_neg (by omega)]
  refine ⟨M3, ?_, (O1.tr O2).tr O3'⟩
  rw [f_X9_crowd, if_neg (show ¬ nI s < 0 from nI_nlt (b := 0) (by omega) hs), if_neg (show ¬ nI T < 0 from nI_nlt (b := 0) (by omega) (by omega)), if_neg (show ¬ (500 : Int32) < nI T from nI_nlt (a := 500) (by omega) (by decide)), if_neg (show ¬ nI w < 0 from nI_nlt (b := 0) (by omega) (by omega)), if_pos (show nI w ≤ (5 : Int32) from nI_le (b := 5) (by omega) (by decide)), chk_t x.1, x.2.2.2.1, bnd_e, chk_t (show isO M 2 63 from r.1.io (i := 0) (by decide) (by decide) (by decide)), x.2.2.1, bnd_e, cs_f p.1, e1, obd_s, chk_t x1.1, x1.2.2.2.1, bnd_e, cs_f p1.1, hM2, bnd_e]
  have e3' : f_X9_crowd_52 n 0 (nI T) (nI w) (1 : Int32) (0 : Int32) M2 = f_X9_crowd_85 n3 0 (nI w) M3 := e3
  rw [e3', c]
