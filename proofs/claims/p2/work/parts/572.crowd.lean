/-! ===== crowd, from any state between the calls ===== -/
section
variable {N B : Nat} {S0 : St}
theorem HV.aa2 {h X Y : Nat} {t : Int32} {Q : Nat → Int32} {pb pt : List Row4} (c : TC N S0) (h16 : N ≤ 16) (hB : B + 16 ≤ 9000) (hQ : ∀ v, v < N → qm N S0 v = Q v) : ∀ (d i n A : Nat) (M : Mem) (S : St), HV M h X Y t N Q S pb pt → TJ N A B S0 S → A + d < 1048576 → i + d = N → d + 18 ≤ n → ∃ M', f_X2_letAllAsk_2 n h (nI i) M = some M' ∧ HV M' h X Y t N Q (akl t N (List.range' i d) S) pb pt ∧ FrH M M' h := by
  intro d
  induction d with
  | zero =>
    intro i n A M S p hJ hA hi hn
    obtain ⟨n, rfl⟩ : ∃ m, n = m + 1 := ⟨n - 1, by omega⟩
    refine ⟨M, ?_, p, FrH.rf _ _⟩
    have q := p.1
    rw [f_X2_letAllAsk_2, cs_f q, cs_h0 q, bnd_e, cs_s q, p.2.2.2.2.2.1, if_pos (nI_le (by omega) (by omega))]
  | succ d ih =>
    intro i n A M S p hJ hA hi hn
    obtain ⟨n, rfl⟩ : ∃ m, n = m + 1 := ⟨n - 1, by omega⟩
    have q := p.1
    have hQ' : ∀ v, v < N → qm N S v = Q v := fun v hv => by rw [hJ.2.2.2.m]; exact hQ v hv
    have em := p.may hJ.1.1 h16 (v := i) (by omega) (hQ' i (by omega))
    rw [akl_c, f_X2_letAllAsk_2, cs_f q, cs_h0 q, bnd_e, cs_s q, p.2.2.2.2.2.1, if_neg (nI_ge (by omega) (by omega)), em, obd_s]
    by_cases m : mayA N i S = true
    · rw [if_pos m, if_pos m, if_neg ne10]
      have c0 : xR S 0 i = 0 := by
        unfold mayA at m
        exact of_decide_eq_true (Bool.and_eq_true _ _ |>.mp m).1
      have hl := TH_fl N S
      have hT := hJ.2.2.1
      obtain ⟨M2, e2, p2, f2⟩ := p.tak h16 (v := i) (by omega) (by rw [c0]; decide) (hQ' i (by omega)) (by omega) (n := n) (by omega)
      obtain ⟨M3, e3, p3, f3⟩ := ih (i + 1) n (A + 1) M2 _ p2 (hJ.tak c h16 (by omega) (by omega) m t) (by omega) (by omega) (by omega)
      exact ⟨M3, by rw [e2, obd_s, nI_1, bnd_e, e3], p3, f2.tr f3⟩
    · rw [if_neg m, if_neg m, if_pos rfl]
      obtain ⟨M3, e3, p3, f3⟩ := ih (i + 1) n (A + 1) M S p (hJ.mo (by omega) (Nat.le_refl _)) (by omega) (by omega) (by omega)
      exact ⟨M3, by rw [nI_1, bnd_e, e3], p3, f3⟩
theorem HV.tk2 {M : Mem} {h X Y A n : Nat} {t : Int32} {Q : Nat → Int32} {S : St} {pb pt : List Row4} (p : HV M h X Y t N Q S pb pt) (c : TC N S0) (h16 : N ≤ 16) (hB : B + 16 ≤ 9000) (hQ : ∀ v, v < N → qm N S0 v = Q v) (hJ : TJ N A B S0 S) (hA : A + N < 1048576) (hn : 40 ≤ n) : ∃ M', f_X2_letAllAsk n h M = some M' ∧ HV M' h X Y t N Q (akA t N S) pb pt ∧ FrH M M' h := by
  obtain ⟨M', e, p', f'⟩ := HV.aa2 (t := t) (Q := Q) (pb := pb) (pt := pt) c h16 hB hQ N 0 n A M S p hJ hA (by omega) (by omega)
  refine ⟨M', ?_, ?_, f'⟩
  · rw [f_X2_letAllAsk]; exact e
  · unfold akA; rw [List.range_eq_range']; exact p'
theorem RV.aa2 {tw : Bool} {t : Int32} {pb pt : List Row4} (c : TC N S0) (h16 : N ≤ 16) (hB : B + 16 ≤ 9000) (hN : xR S0 20 0 = nI N) (ht : xR S0 20 1 = 1 → N % 2 = 1) : ∀ (d i n A : Nat) (M : Mem) (S : St), RV M tw t S pb pt → TJ N A B S0 S → A + d < 1048576 → i + d = N → d + 9201 ≤ n → ∃ M', f_X10_askAll_2 n 120 (nI i) M = some M' ∧ RV M' tw t (akl t N (List.range' i d) S) pb pt ∧ Fr PA M M' := by
  intro d
  induction d with
  | zero =>
    intro i n A M S h hJ hA hi hn
    obtain ⟨n, rfl⟩ : ∃ m, n = m + 1 := ⟨n - 1, by omega⟩
    have hN' : xR S 20 0 = nI N := by rw [hJ.2.2.2 20 (by omega)]; exact hN
    refine ⟨M, ?_, h, Fr.rf _ _⟩
    rw [f_X10_askAll_2, rs_f h.1, rs_0 h.1, bnd_e, rs_fa h.1, rs_c0 h.1, cl0, h.N hN', if_pos (nI_le (by omega) (by omega))]
  | succ d ih =>
    intro i n A M S h hJ hA hi hn
    obtain ⟨n, rfl⟩ : ∃ m, n = m + 1 := ⟨n - 1, by omega⟩
    have hN' : xR S 20 0 = nI N := by rw [hJ.2.2.2 20 (by omega)]; exact hN
    have ht' : xR S 20 1 = 1 → N % 2 = 1 := by rw [hJ.2.2.2 20 (by omega)]; exact ht
    obtain ⟨M1, e1, h1, f1⟩ := h.can hN' h16 ht' (v := i) (by omega) (n := n) (by omega)
    have open1 : ∀ y, (if mayA N i S = true then obd (f_X10_askNow n 120 (nI i) M1) (fun M17 => f_X10_askAll_2 n 120 (nI (i + 1)) M17) else f_X10_askAll_2 n 120 (nI (i + 1)) M1) = y → f_X10_askAll_2 (n + 1) 120 (nI i) M = y := by
      intro y hy
      rw [f_X10_askAll_2, rs_f h.1, rs_0 h.1, bnd_e, rs_fa h.1, rs_c0 h.1, cl0, h.N hN', if_neg (nI_ge (by omega) (by omega)), e1, obd2_s]
      cases b : mayA N i S
      · rw [b] at hy
        simp only [Bool.false_eq_true, if_false, if_true, bnd_e, nI_1] at hy ⊢
        exact hy
      · rw [b] at hy
        simp only [if_true, ne10, if_false] at hy ⊢
        rw [rs_f h1.1]
        simp only [bnd_e, nI_1]
        exact hy
    rw [akl_c]
    by_cases m : mayA N i S = true
    · rw [if_pos m] at open1 ⊢
      have hl := TH_fl N S
      have hT := hJ.2.2.1
      obtain ⟨M2, e2, h2, f2⟩ := h1.tak hN' h16 ht' (v := i) (by omega) (by omega) (n := n) (by omega)
      obtain ⟨M3, e3, h3, f3⟩ := ih (i + 1) n (A + 1) M2 _ h2 (hJ.tak c h16 (by omega) (by omega) m t) (by omega) (by omega) (by omega)
      exact ⟨M3, open1 _ (by rw [e2, obd_s, e3]), h3, Fr.tr (f1.mo P2_A) (Fr.tr f2 f3)⟩
    · rw [if_neg m] at open1 ⊢
      obtain ⟨M3, e3, h3, f3⟩ := ih (i + 1) n (A + 1) M1 S h1 (hJ.mo (by omega) (Nat.le_refl _)) (by omega) (by omega) (by omega)
      exact ⟨M3, open1 _ e3, h3, Fr.tr (f1.mo P2_A) f3⟩
theorem RV.tk2 {M : Mem} {A n : Nat} {tw : Bool} {t : Int32} {S : St} {pb pt : List Row4} (h : RV M tw t S pb pt) (c : TC N S0) (h16 : N ≤ 16) (hB : B + 16 ≤ 9000) (hN : xR S0 20 0 = nI N) (ht : xR S0 20 1 = 1 → N % 2 = 1) (hJ : TJ N A B S0 S) (hA : A + N < 1048576) (hn : 9300 ≤ n) : ∃ M', f_X10_askAll n 120 M = some M' ∧ RV M' tw t (akA t N S) pb pt ∧ Fr PA M M' := by
  obtain ⟨M', e, h', f'⟩ := RV.aa2 (tw := tw) (t := t) (pb := pb) (pt := pt) c h16 hB hN ht N 0 n A M S h hJ hA (by omega) (by omega)
  refine ⟨M', ?_, ?_, f'⟩
  · rw [f_X10_askAll]; exact e
  · unfold akA; rw [List.range_eq_range']; exact h'
set_option maxHeartbeats 1000000 in
theorem HV.cr2 {A T X Y : Nat} {t w : Int32} {Q : Nat → Int32} {pb pt : List Row4} (h2N : 2 ≤ N) (h16 : N ≤ 16) (hT : T ≤ 500) (hQ : ∀ v, v < N → qm N S0 v = Q v) (c : TC N S0) (hA : A + 16 * (T + 1) < 1048576) (hB : B + T + 16 ≤ 9000) : ∀ (d i n : Nat) (M : Mem) (S : St) (g : Int64) (b : Bool), i + d = T → HV M 63 X Y t N Q S pb pt → XT M → mL M 63 16 = g → Gk g → TJ N (A + 16 * i) (B + i) S0 S → d + 60 ≤ n → ∃ M' n' S', f_X9_crowd_52 n 0 (nI T) w (if b then 1 else 0) (nI i) M = f_X9_crowd_85 n' 0 w M' ∧ 40 ≤ n' ∧ HV M' 63 X Y t N Q S' pb pt ∧ FrD M M' 63 := by
  intro d
  induction d with
  | zero =>
    intro i n M S g b hi p x hg hG J hn
    obtain ⟨n, rfl⟩ : ∃ m, n = m + 1 := ⟨n - 1, by omega⟩
    refine ⟨M, n, S, ?_, by omega, p, (FrH.rf _ _).D⟩
    rw [f_X9_crowd_52, if_pos (nI_le (by omega) (by omega))]
  | succ d ih =>
    intro i n M S g b hi p x hg hG J hn
    obtain ⟨n, rfl⟩ : ∃ m, n = m + 1 := ⟨n - 1, by omega⟩
    have next := (J.c1 c h16 (by omega) t g b).mo (A' := A + 16 * (i + 1)) (B' := B + (i + 1)) (by omega) (by omega)
    cases b with
    | false =>
      refine ⟨M, n, S, ?_, by omega, p, (FrH.rf _ _).D⟩
      rw [f_X9_crowd_52, if_neg (nI_ge (by omega) (by omega)), if_neg (show ¬ false = true by decide), if_pos rfl]
    | true =>
      have ja := J.tkA c h16 (by omega) t
      have hfl := TH_fl N S
      have hfl1 := TH_fl N (akA t N S)
      have jT := J.2.2.1
      have jaT := ja.2.2.1
      obtain ⟨M1, e1, p1, f1⟩ := p.tk2 c h16 (B := B + i) (by omega) hQ J (by omega) (n := n) (by omega)
      have x1 := x.fr f1
      have g1 : mL M1 63 16 = g := (f1.2.2.2.2.1 63 (by have := x.2.2.2.2; omega) 16).trans hg
      obtain ⟨s1, s2⟩ := p1.dr (n := n) ja.1 (by omega) h2N h16 (by omega) (by have := x1.2.2.2.2; omega) g1 hG (by omega)
      have hd : ∀ y : Option (Int32 × Mem), (obd2 (f_X2_moveByDraw n 63 M1) fun r16 M17 => bnd (nI i + (1 : Int32)) fun x18 => f_X9_crowd_52 n 0 (nI T) w r16 x18 M17) = y → f_X9_crowd_52 (n + 1) 0 (nI T) w (if true = true then 1 else 0) (nI i) M = y := by
        intro y hy
        rw [f_X9_crowd_52, if_neg (nI_ge (by omega) (by omega)), if_pos rfl, if_neg ne10, chk_t x.1, x.2.2.2.1, bnd_e, cs_f p.1, e1, obd_s, chk_t x1.1, x1.2.2.2.1, bnd_e, cs_f p1.1]
        exact hy
      by_cases k : mv0 N (akA t N S) = []
      · have em := s1 k
        rw [cr1_e k] at next
        obtain ⟨M', n', S', e', hn', p', f'⟩ := ih (i + 1) n M1 _ g false (by omega) p1 x1 g1 hG next (by omega)
        refine ⟨M', n', S', hd _ ?_, hn', p', f1.D.tr f'⟩
        rw [em, obd2_s, nI_1, bnd_e]
        exact e'
      · obtain ⟨m, M2, hk, em, p2, g2, f2⟩ := s2 k
        rw [cr1_s k hk] at next
        obtain ⟨M', n', S', e', hn', p', f'⟩ := ih (i + 1) n M2 _ (drw g) true (by omega) p2 (x1.frD f2) g2 (Gk_drw hG) next (by omega)
        refine ⟨M', n', S', hd _ ?_, hn', p', (f1.D.tr f2).tr f'⟩
        rw [em, obd2_s, nI_1, bnd_e]
        exact e'
set_option maxHeartbeats 1000000 in
theorem RV.cr2 {A T : Nat} {tw : Bool} {t w e1 e2 e3 : Int32} {pb pt : List Row4} (h2N : 2 ≤ N) (h16 : N ≤ 16) (hT : T ≤ 500) (hN0 : xR S0 20 0 = nI N) (ht0 : xR S0 20 1 = 1 → N % 2 = 1) (c : TC N S0) (hA : A + 16 * (T + 1) < 1048576) (hB : B + T + 16 ≤ 9000) : ∀ (d i n : Nat) (M : Mem) (S : St) (g : Int64) (b : Bool), i + d = T → RV M tw t S pb pt → mI M 120 7 = 0 → mL M 120 8 = g → Gk g → TJ N (A + 16 * i) (B + i) S0 S → d + 12000 ≤ n → ∃ M' n' S', f_X10_crowd_102 n 120 (nI T) w e1 e2 e3 (if b then 1 else 0) (nI i) M = f_X10_crowd_129 n' 120 w e1 e2 e3 M' ∧ 11000 ≤ n' ∧ RV M' tw t S' pb pt ∧ Qk S0 S' ∧ FrG M M' := by
  intro d
  induction d with
  | zero =>
    intro i n M S g b hi p hk hg hG J hn
    obtain ⟨n, rfl⟩ : ∃ m, n = m + 1 := ⟨n - 1, by omega⟩
    refine ⟨M, n, S, ?_, by omega, p, J.2.2.2, FrG.rf _⟩
    rw [f_X10_crowd_102, if_pos (nI_le (by omega) (by omega))]
  | succ d ih =>
    intro i n M S g b hi p hk hg hG J hn
    obtain ⟨n, rfl⟩ : ∃ m, n = m + 1 := ⟨n - 1, by omega⟩
    have next := (J.c1 c h16 (by omega) t g b).mo (A' := A + 16 * (i + 1)) (B' := B + (i + 1)) (by omega) (by omega)
    cases b with
    | false =>
      refine ⟨M, n, S, ?_, by omega, p, J.2.2.2, FrG.rf _⟩
      rw [f_X10_crowd_102, if_neg (nI_ge (by omega) (by omega)), if_neg (show ¬ false = true by decide), if_pos rfl]
    | true =>
      have ja := J.tkA c h16 (by omega) t
      have hfl := TH_fl N S
      have hfl1 := TH_fl N (akA t N S)
      have jT := J.2.2.1
      have jaT := ja.2.2.1
      have ka := ja.2.2.2 20 (by omega)
      obtain ⟨M1, e1', p1, f1⟩ := p.tk2 c h16 (B := B + i) (by omega) hN0 ht0 J (by omega) (n := n) (by omega)
      have k1 : mI M1 120 7 = 0 := (f1.2.1 120 (by unfold PA; omega) 7).trans hk
      have g1 : mL M1 120 8 = g := (f1.2.2 120 8).trans hg
      obtain ⟨M2, s1, s2, f2⟩ := p1.goO (n := n) ja.1 (by rw [ka]; exact hN0) h2N h16 (by rw [ka]; exact ht0) (by omega) (by omega) k1 g1 hG (by omega)
      have hd : ∀ y : Option (Int32 × Mem), (obd2 (f_X10_goOnce n 120 M1) fun r10 M11 => bnd (nI i + (1 : Int32)) fun x12 => f_X10_crowd_102 n 120 (nI T) w e1 e2 e3 r10 x12 M11) = y → f_X10_crowd_102 (n + 1) 120 (nI T) w e1 e2 e3 (if true = true then 1 else 0) (nI i) M = y := by
        intro y hy
        rw [f_X10_crowd_102, if_neg (nI_ge (by omega) (by omega)), if_pos rfl, if_neg ne10, rs_f p.1, e1', obd_s, rs_f p1.1]
        exact hy
      have k2 : mI M2 120 7 = 0 := (f2.2.2.1 7 (by decide)).trans k1
      by_cases k : mv0 N (akA t N S) = []
      · obtain ⟨em, p2, g2⟩ := s1 k
        rw [cr1_e k] at next
        obtain ⟨M', n', S', e', hn', p', q', f'⟩ := ih (i + 1) n M2 _ g false (by omega) p2 k2 g2 hG next (by omega)
        refine ⟨M', n', S', hd _ ?_, hn', p', q', FrG.tr (FrG.ofA f1) (FrG.tr f2 f')⟩
        rw [em, obd2_s, nI_1, bnd_e]
        exact e'
      · obtain ⟨m, hk', em, p2, g2⟩ := s2 k
        rw [cr1_s k hk'] at next
        obtain ⟨M', n', S', e', hn', p', q', f'⟩ := ih (i + 1) n M2 _ (drw g) true (by omega) p2 k2 g2 (Gk_drw hG) next (by omega)
        refine ⟨M', n', S', hd _ ?_, hn', p', q', FrG.tr (FrG.ofA f1) (FrG.tr f2 f')⟩
        rw [em, obd2_s, nI_1, bnd_e]
        exact e'
end
def P127 (o : Nat) : Prop := o = 127
theorem c59_2 {tw : Bool} {t a1 a2 a3 x19 x25 r28 : Int32} {S0 : St} {pb pt : List Row4} {N : Nat} (hN : xR S0 20 0 = nI N) (h16 : N ≤ 16) : ∀ (d i n : Nat) (M : Mem), i + d = N → RV M tw t S0 pb pt → (∀ v, v < i → mI M 127 v = xR S0 12 v) → d + 1 ≤ n → ∃ M' n', f_X10_crowd_59 n 120 a1 a2 a3 x19 x25 r28 (nI i) M = f_X10_crowd_102 n' 120 a2 a3 x19 x25 r28 (1 : Int32) (0 : Int32) (sL M' 120 8 (a1.toInt64)) ∧ n ≤ n' + d + 1 ∧ RV M' tw t S0 pb pt ∧ (∀ v, v < N → mI M' 127 v = xR S0 12 v) ∧ Fr P127 M M' := by
  intro d
  induction d with
  | zero =>
    intro i n M hi p ht hn
    obtain ⟨n, rfl⟩ : ∃ m, n = m + 1 := ⟨n - 1, by omega⟩
    refine ⟨M, n, ?_, by omega, p, fun v hv => ht v (by omega), Fr.rf _ _⟩
    rw [f_X10_crowd_59, rs_f p.1, rs_0 p.1, bnd_e, rs_fa p.1, rs_c0 p.1, cl0, p.N hN, if_pos (nI_le (by omega) (by omega)), bnd_e]
  | succ d ih =>
    intro i n M hi p ht hn
    obtain ⟨n, rfl⟩ : ∃ m, n = m + 1 := ⟨n - 1, by omega⟩
    have i6 : i < 16 := by omega
    have ec : f_X10_countOf 120 (nI i) (0 : Int32) M = some (xR S0 12 i) := p.cnt i6 (w := 0) (by decide)
    have fa : Fr P127 M (sI M 127 i (xR S0 12 i)) := Fr.tsI (show P127 127 from rfl)
    generalize hMa : sI M 127 i (xR S0 12 i) = Ma at fa
    have pa : RV Ma tw t S0 pb pt := p.cg (by rw [← hMa]; rfl) (by rw [← hMa, mI_o _ _ _ _ _ (by decide)]) (fun b => by rw [← hMa, mI_o _ _ _ _ _ (by decide)]) (fun b => by rw [← hMa, mI_o _ _ _ _ _ (by decide)])
    obtain ⟨M', n', e', hn', p', t', k'⟩ := ih (i + 1) n Ma (by omega) pa (fun v hv => by
      rw [← hMa]
      by_cases c : v = i
      · rw [c, mI_s]
      · rw [mI_n _ _ _ _ c]; exact ht v (by omega)) (by omega)
    refine ⟨M', n', ?_, by omega, p', t', fa.tr k'⟩
    rw [f_X10_crowd_59, rs_f p.1, rs_0 p.1, bnd_e, rs_fa p.1, rs_c0 p.1, cl0, p.N hN, if_neg (nI_ge (by omega) (by omega)), rs_10 p.1, bnd_e, rs_f10 p.1, ec, obd_s, rs_c10 p.1 i6, sI_d (by omega), hMa, bnd_e, nI_1, bnd_e]
    exact e'
/-- the class in its trial: what it leaves of the reference -/
theorem WJ.trf {M M2 : Mem} {N A i X0 Y0 : Nat} {Q : Nat → Int32} {S : St} {pb pt : List Row4} (w : WJ M N A i Q S) (tr : TR M 63 X0 Y0 pb pt) (fD : FrD M M2 63) : RV M2 false 0 S [] [] ∧ mI M2 120 7 = 0 := by
  obtain ⟨X, Y, L, p, _⟩ := id w.1
  have fo : ∀ o, 120 ≤ o → o < 131 → M2.1.2.1 o = M.1.2.1 o ∧ (∀ b, mR M2 o b = mR M o b) ∧ ∀ b, mI M2 o b = mI M o b := by
    obtain ⟨x, f⟩ := id fD
    have hN := p.1.2.2.2.2.2.2
    have r57 : ∀ i, 5 ≤ i → i ≤ 7 → mR M 64 i = 63 + 2 + i ∨ 131 ≤ mR M 64 i := by
      obtain ⟨_, ⟨e5, e6, e7, len, ds, _⟩, _⟩ := tr
      obtain ⟨⟨y5, y6, y7⟩, _, _, x5, x6, x7, _⟩ := ds
      have y5' : mR M 64 5 = e5 := y5
      have y6' : mR M 64 6 = e6 := y6
      have y7' : mR M 64 7 = e7 := y7
      intro i a b
      rcases (show i = 5 ∨ i = 6 ∨ i = 7 by omega) with rfl | rfl | rfl
      · rw [y5']; exact x5
      · rw [y6']; exact x6
      · rw [y7']; exact x7
    have fo := FrH.o (M := sL M 63 16 x) f hN r57
    intro o a b
    obtain ⟨g1, g2, g3, _⟩ := fo.2 o (by omega) b
    exact ⟨g1, g2, g3⟩
  have n2 : mN M ≤ mN M2 := by
    obtain ⟨x, f⟩ := id fD
    exact f.1
  exact ⟨w.2.1.mr n2 fo, by rw [(fo 120 (by decide) (by decide)).2.2]; exact w.2.2.1⟩
/-- put aside -/
theorem RV.as {M : Mem} {t : Int32} {S : St} {pb pt : List Row4} (r : RV M false t S pb pt) {n : Nat} (hn : 10466 ≤ n) : ∃ Ma, f_X10_putAside n 120 M = some Ma ∧ RV Ma false t S pb pt ∧ Ma.1 = M.1 ∧ (∀ o, o ≠ 126 → ∀ b, mI Ma o b = mI M o b) ∧ (∀ b, b < 10465 → mI Ma 126 b = mI M 121 b) ∧ ∀ o b, mL Ma o b = mL M o b := by
  have oa : ∀ o, o ≠ 126 → ∀ b, mI (cpF M 121 126 0) o b = mI M o b := fun o n b => by
    show (if o = 126 ∧ 0 ≤ b ∧ b < 10465 then M.2.1 121 b else M.2.1 o b) = M.2.1 o b
    rw [if_neg (fun z => n z.1)]
  refine ⟨cpF M 121 126 0, f_aside r.1 hn, r.cg rfl (oa 120 (by decide) 3) (oa 121 (by decide)) (oa 123 (by decide)), rfl, oa, fun b hb => ?_, fun _ _ => rfl⟩
  show (if 126 = 126 ∧ 0 ≤ b ∧ b < 10465 then M.2.1 121 b else M.2.1 126 b) = M.2.1 121 b
  rw [if_pos ⟨rfl, Nat.zero_le _, hb⟩]
theorem WJ.tc {M : Mem} {N A i : Nat} {Q : Nat → Int32} {S : St} (w : WJ M N A i Q S) : TC N S := by
  have sw := w.2.2.2.1
  have h7 : ∀ v, v < 16 → xR S 7 v = 0 ∨ xR S 7 v = 1 := fun v hv => (sw.inv.1 v hv).2.2.1
  exact ⟨qm_hi sw.bi sw.n16 sw.t, fun v hv => qm_ub sw.bi sw.n16 sw.t h7 hv⟩
theorem TH_clr (N : Nat) (S : St) : TH N (clr S) = TH N S := smN_c 16 (fun a _ => by
  have : Ph a (clr S) = Ph a S := (clr_SE S).tPh a
  show Ph a (clr S) + th N (clr S) a = Ph a S + th N S a
  rw [this]
  rfl)
theorem WJ.tj {M : Mem} {N A i : Nat} {Q : Nat → Int32} {S : St} (w : WJ M N A i Q S) (hi : i ≤ 511) : TJ N A 8432 S S ∧ TJ N A 8432 S (clr S) := by
  have sw := w.2.2.2.1
  have h1 := sw.ps hi
  have h2 := TH_0 sw.n16 S
  exact ⟨⟨sw.inv, sw.ix, by omega, fun _ _ _ => rfl⟩, ⟨sw.inv.clr, (clr_SE S).sy.tix sw.n16 sw.ix, by rw [TH_clr]; omega, fun _ _ _ => rfl⟩⟩
theorem op46 {M : Mem} {i n : Nat} (h : WI i M) (hi : i ≤ 511) (a b c : Int32) (hn : 100000 ≤ n) : Oks i (f_X9_crowd n 0 a b c M) (fun M1 => f_X10_crowd n 120 a b c M1) := by
  obtain ⟨N, A, Q, S, w⟩ := h
  obtain ⟨X, Y, L, p, sb, xg, xr⟩ := id w.1
  obtain ⟨_, r, z7, sw, hQ⟩ := id w
  have h16 := sw.n16
  have h2 := sw.n2
  have hA := sw.a
  by_cases ha : a < 0
  · refine (Okk.same w (r := -1) ?_ ?_).ks
    · rw [f_X9_crowd, if_pos ha]
    · show f_X10_crowd n 120 a b c M = _
      rw [f_X10_crowd, if_pos ha]
  · rcases up500 b with hb | ⟨T, hT, rfl⟩
    · refine (Okk.same w (r := -1) ?_ ?_).ks
      · rw [f_X9_crowd, if_neg ha]
        by_cases q : b < 0
        · rw [if_pos q]
        · rw [if_neg q, if_pos (show (500 : Int32) < b from gt3 (N := 500) (by decide) (hb.resolve_left q))]
      · show f_X10_crowd n 120 a b c M = _
        have : f_X10_isIn b (0 : Int32) (500 : Int32) M = some 0 := by
          rw [f_X10_isIn]
          by_cases q : b < 0
          · rw [if_pos q]
          · rw [if_neg q, if_pos (show (500 : Int32) < b from gt3 (N := 500) (by decide) (hb.resolve_left q))]
        rw [f_X10_crowd, if_neg ha, this, obd_s, if_pos rfl]
    · have nT : ¬ nI T < 0 := nI_nlt (b := 0) (Nat.zero_le _) (by omega)
      have mT : ¬ (500 : Int32) < nI T := nI_nlt (a := 500) (by omega) (by decide)
      rcases out_in (N := 6) (by decide) c with hc | ⟨u, hu, rfl⟩
      · refine (Okk.same w (r := -1) ?_ ?_).ks
        · rw [f_X9_crowd, if_neg ha, if_neg nT, if_neg mT]
          by_cases q : c < 0
          · rw [if_pos q]
          · rw [if_neg q, if_neg (show ¬ c ≤ (5 : Int32) from Int32.not_le.mpr (gt3 (N := 5) (by decide) (hc.resolve_left q)))]
        · show f_X10_crowd n 120 a (nI T) c M = _
          have : f_X10_isIn c (0 : Int32) (5 : Int32) M = some 0 := by
            rw [f_X10_isIn]
            by_cases q : c < 0
            · rw [if_pos q]
            · rw [if_neg q, if_pos (show (5 : Int32) < c from gt3 (N := 5) (by decide) (hc.resolve_left q))]
          rw [f_X10_crowd, if_neg ha, show (500 : Int32) = nI 500 from rfl, f_isI M hT (by decide), obd_s, if_neg ne10, this, obd_s, if_pos rfl]
      · obtain ⟨s, hs, rfl⟩ := nn_e ha
        have tc := w.tc
        obtain ⟨jr, jc⟩ := w.tj hi
        obtain ⟨X0, Y0, pb, pt, tr, dj, fin⟩ := w.1.tri
        have x0 : XT M := ⟨xg.1, xg.2.1, xg.2.2.2.1, xg.2.2.2.2.1, p.1.2.2.2.2.2.2⟩
        obtain ⟨M1, e1, p1, f1⟩ := p.copy tr (by omega) h16 dj (fun v hv => (sw.inv.1 v hv).2.2.2) (fun v hv w hw => by have := ((sw.inv.2.2.2.2.2.1 v hv).1.2.2 w hw).1; omega) (n := n) (by omega)
        have x1 := x0.fr f1
        obtain ⟨M2, n2, S2, e2, hn2, p2, f2⟩ := HV.cr2 (A := A) (B := 8432) (S0 := S) (t := 0) (w := nI u) h2 h16 hT (fun v hv => hQ v hv) tc (by omega) (by omega) T 0 n (sL M1 63 16 ((nI s).toInt64)) (clr S) _ true (by omega) (p1.tsL _ _ _) (x1.sL _ _ _) (mL_s _ _ _ _) (lN_Gk hs) jc (by omega)
        have fD : FrD M M2 63 := f1.D.tr (FrD.tr ⟨_, FrH.rf _ _⟩ f2)
        have cw := fin M2 0 Q S2 pb pt fD p2
        have x2 := x0.frD fD
        obtain ⟨r2, z2⟩ := w.trf tr fD
        have e85 : f_X9_crowd_85 n2 0 (nI u) M2 = some (cT N S S2 u, M2) := by
          obtain ⟨_, _, _, p14, _⟩ := id cw
          exact c85 p2 x2 p14.hh h16 (fun v hv => (sw.inv.1 v hv).2.2.1) (by omega) (by omega)
        have ec : f_X9_crowd n 0 (nI s) (nI T) (nI u) M = some (cT N S S2 u, M2) := by
          rw [f_X9_crowd, if_neg (show ¬ nI s < 0 from nI_nlt (b := 0) (by omega) hs), if_neg nT, if_neg mT, if_neg (show ¬ nI u < 0 from nI_nlt (b := 0) (by omega) (by omega)), if_pos (show nI u ≤ (5 : Int32) from nI_le (b := 5) (by omega) (by decide)), chk_t xg.1, xg.2.2.2.2.1, bnd_e, cs_f tr.1, xg.2.2.2.1, bnd_e, cs_f p.1, e1, obd_s, chk_t x1.1, x1.2.2.2.1, bnd_e, cs_f p1.1, bnd_e]
          refine Eq.trans (show _ = f_X9_crowd_52 n 0 (nI T) (nI u) (if true then 1 else 0) (nI 0) (sL M1 63 16 ((nI s).toInt64)) from rfl) ?_
          rw [e2, e85]
        -- the reference
        obtain ⟨Ma, ea, pa, sa, oa, ob, la⟩ := r2.as (n := n) (by omega)
        have g0 : mI Ma 121 9851 = xR S 15 0 := pa.rg (k := 15) (i := 0) (by unfold vk; omega)
        have g2 : mI Ma 121 9853 = xR S 15 2 := pa.rg (k := 15) (i := 2) (by unfold vk; omega)
        have sn := pa.sent (n := n) (by omega)
        obtain ⟨M3, n3, e3, hn3, p3, t3, k3⟩ := c59_2 (a1 := nI s) (a2 := nI T) (a3 := nI u) (x19 := xR S 15 0) (x25 := xR S 15 2) (r28 := sa6 S) sw.n h16 N 0 n Ma (by omega) pa (fun v hv => by omega) (by omega)
        have z3 : mI M3 120 7 = 0 := by rw [k3.2.1 120 (by unfold P127; decide), oa 120 (by decide)]; exact z2
        obtain ⟨M4, n4, S4, e4, hn4, p4, q4, f4⟩ := RV.cr2 (A := A) (B := 8432) (S0 := S) (w := nI u) (e1 := xR S 15 0) (e2 := xR S 15 2) (e3 := sa6 S) h2 h16 hT sw.n sw.t tc (by omega) (by omega) T 0 n3 (sL M3 120 8 ((nI s).toInt64)) S _ true (by omega) (p3.tsL _ _ _) z3 (mL_s _ _ _ _) (lN_Gk hs) jr (by omega)
        have f41 : M4.1 = M3.1 := f4.1
        have f42 : ∀ o, ¬ (120 ≤ o ∧ o ≤ 124) → ∀ k, mI M4 o k = mI M3 o k := f4.2.1
        have f43 : ∀ k, k ≠ 6 → mI M4 120 k = mI M3 120 k := f4.2.2.1
        have tl := p4.told (S0 := S) (n := n4) (w := u) ((q4 20 (by omega) 0).trans sw.n) h16 (fun v _ => q4 7 (by omega) v) (fun v hv => by
          rw [f42 127 (by decide) v]; exact t3 v hv) hu (by omega)
        have eb := f_back p4.1 (n := n4) (by omega)
        have er : f_X10_crowd n 120 (nI s) (nI T) (nI u) M2 = some (cR N S S4 u, cpF M4 126 121 0) := by
          rw [f_X10_crowd, if_neg (show ¬ nI s < 0 from nI_nlt (b := 0) (by omega) hs), show (500 : Int32) = nI 500 from rfl, f_isI M2 hT (by decide), obd_s, if_neg ne10, show (5 : Int32) = nI 5 from rfl, f_isI M2 (show u ≤ 5 by omega) (by decide), obd_s, if_neg ne10, rs_f r2.1, ea, obd_s, rs_f pa.1, rs_0 pa.1, bnd_e, rs_fa pa.1, show (9851 : Int32) = nI 9851 from rfl, rs_c pa.1 (by decide), cl_n (by decide), g0, bnd_e, bnd_e, rs_fa pa.1, show (9853 : Int32) = nI 9853 from rfl, rs_c pa.1 (by decide), cl_n (by decide), g2, bnd_e, sn, obd_s, show (0 : Int32) = nI 0 from rfl, e3]
          have e4' : f_X10_crowd_102 n3 120 (nI T) (nI u) (xR S 15 0) (xR S 15 2) (sa6 S) (1 : Int32) (0 : Int32) (sL M3 120 8 ((nI s).toInt64)) = f_X10_crowd_129 n4 120 (nI u) (xR S 15 0) (xR S 15 2) (sa6 S) M4 := e4
          rw [e4', f_X10_crowd_129, rs_f p4.1, tl, obd_s, eb, obd_s]
        have k7 : ∀ o, o ≠ 127 → ∀ b, mI M3 o b = mI Ma o b := fun o n b => k3.2.1 o n b
        refine ⟨_, _, M2, _, ec, r2.1.io (by decide) (by decide) (by decide), er, w.rfb cw r2 z2 (f41.trans (k3.1.trans sa)) (fun o ho b => by rw [f42 o (by omega), k7 o (by omega), oa o (by omega)]) (by rw [f43 3 (by decide), k7 120 (by decide), oa 120 (by decide)]) (by rw [f43 7 (by decide), k7 120 (by decide), oa 120 (by decide)]) (fun b hb => by rw [f42 126 (by decide), k7 126 (by decide)]; exact ob b hb) (fun o ho b => (f4.2.2.2 o b (by omega)).trans ((mL_o _ _ _ _ (by omega)).trans ((k3.2.2 o b).trans (la o b))))⟩
