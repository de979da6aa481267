/-! ===== the class: a move by a draw; all ask ===== -/
theorem HV.tsL {M : Mem} {h X Y N : Nat} {t : Int32} {Q : Nat → Int32} {S : St} {pb pt : List Row4} (p : HV M h X Y t N Q S pb pt) (o k : Nat) (x : Int64) : HV (sL M o k x) h X Y t N Q S pb pt :=
  p.at rfl (fun _ _ _ => rfl) (p.2.2.1.cg (fun _ _ _ => rfl) (fun _ _ _ => rfl) rfl) rfl rfl rfl rfl
/-- a step with a draw before it -/
def FrD (M M' : Mem) (h : Nat) : Prop := ∃ x, FrH (sL M h 16 x) M' h
theorem mL_sL (M : Mem) (o k : Nat) (x : Int64) (a b : Nat) : mL (sL M o k x) a b = if a = o ∧ b = k then x else mL M a b := rfl
theorem FrH.sL {M M' : Mem} {h : Nat} (p : FrH M M' h) (x : Int64) : FrH (sL M h 16 x) (sL M' h 16 x) h := by
  obtain ⟨a1, a2, a3, a4, a5, a6⟩ := p
  refine ⟨a1, a2, a3, a4, fun o ho b => ?_, a6⟩
  rw [mL_sL, mL_sL]
  by_cases c : o = h ∧ b = 16
  · rw [if_pos c, if_pos c]
  · rw [if_neg c, if_neg c]; exact a5 o ho b
theorem sL_sL (M : Mem) (o k : Nat) (x y : Int64) : sL (sL M o k x) o k y = sL M o k y := by
  show (M.1, M.2.1, up2 (up2 M.2.2 o k x) o k y) = (M.1, M.2.1, up2 M.2.2 o k y)
  congr 2
  funext a b
  unfold up2
  by_cases c : a = o ∧ b = k
  · rw [if_pos c, if_pos c]
  · rw [if_neg c, if_neg c, if_neg c]
theorem sL_id (M : Mem) (o k : Nat) : sL M o k (mL M o k) = M := by
  show (M.1, M.2.1, up2 M.2.2 o k (M.2.2 o k)) = M
  have e : up2 M.2.2 o k (M.2.2 o k) = M.2.2 := by
    funext a b
    unfold up2
    by_cases c : a = o ∧ b = k
    · rw [if_pos c, c.1, c.2]
    · rw [if_neg c]
  rw [e]
theorem FrH.D {M M' : Mem} {h : Nat} (p : FrH M M' h) : FrD M M' h := ⟨mL M h 16, by rw [sL_id]; exact p⟩
theorem FrD.tr {M M' M'' : Mem} {h : Nat} (p : FrD M M' h) (p' : FrD M' M'' h) : FrD M M'' h := by
  obtain ⟨x, p⟩ := p
  obtain ⟨y, p'⟩ := p'
  have := p.sL y
  rw [sL_sL] at this
  exact ⟨y, this.tr p'⟩
set_option maxHeartbeats 1000000 in
theorem HV.dr {M : Mem} {h X Y N A n : Nat} {t : Int32} {Q : Nat → Int32} {S : St} {pb pt : List Row4} (p : HV M h X Y t N Q S pb pt) (hI : Inv N A S) (hA : A < 1048576) (h2 : 2 ≤ N) (h16 : N ≤ 16) (hl : (fl S).length + N ≤ 9000) (hh : h < mN M) {g : Int64} (hg : mL M h 16 = g) (hG : Gk g) (hn : 40 ≤ n) : (mv0 N S = [] → f_X2_moveByDraw n h M = some (0, M)) ∧ (mv0 N S ≠ [] → ∃ c M', (mv0 N S)[dk g (mv0 N S).length]? = some c ∧ f_X2_moveByDraw n h M = some (1, M') ∧ HV M' h X Y t N Q (dm t N c S) pb pt ∧ mL M' h 16 = drw g ∧ FrD M M' h) := by
  have hml := mvl_len (N := N) S 0 (fun _ => 0)
  rw [mvl_0] at hml
  have q := p.1
  have ec := p.cm hI h16 (n := n) (by omega)
  constructor
  · intro c
    rw [c] at ec
    rw [f_X2_moveByDraw, cs_f q, ec, obd_s, if_neg (show ¬ (1 : Int32) ≤ nI ([] : List Nat).length by decide)]
  · intro c
    have hpos : 0 < (mv0 N S).length := List.length_pos_iff.mpr c
    obtain ⟨k, hk, ek⟩ := drk_lt hG hpos (by omega)
    have edk : dk g (mv0 N S).length = k := by unfold dk; rw [ek, nI_clamp (by omega)]
    generalize hM2 : sL M h 16 (drw g) = M2
    have p2 : HV M2 h X Y t N Q S pb pt := by rw [← hM2]; exact p.tsL _ _ _
    have g2 : mL M2 h 16 = drw g := by rw [← hM2, mL_s]
    obtain ⟨M3, e3, p3, f3⟩ := p2.mk hI hA h2 h16 hl hn (k := k) (List.getElem?_eq_getElem hk) (by omega)
    have nz : ¬ (nI (mv0 N S).length).toInt64 = 0 := by
      rw [nI_l (by omega), show (0 : Int64) = lN 0 from rfl]
      exact fun q => by have := (lN_eq (by omega) (by decide)).mp q; omega
    have ek2 : (((((drw g) / (65536 : Int64)) - ((drw g) / (65536 : Int64)) / ((nI (mv0 N S).length).toInt64) * ((nI (mv0 N S).length).toInt64))).toInt32) = nI k := ek
    have hN2 : mN M2 = mN M := by rw [← hM2]; rfl
    refine ⟨(mv0 N S)[k], M3, by rw [edk]; exact List.getElem?_eq_getElem hk, ?_, p3, (f3.2.2.2.2.1 h (by omega) 16).trans g2, ⟨drw g, by rw [hM2]; exact f3⟩⟩
    rw [f_X2_moveByDraw, cs_f q, ec, obd_s, if_pos (show (1 : Int32) ≤ nI (mv0 N S).length from nI_le (a := 1) (by omega) (by omega)), chk_t (by decide), hg]
    rw [show ((g * (1103515245 : Int64)) + (12345 : Int64)) - ((g * (1103515245 : Int64)) + (12345 : Int64)) / (2147483648 : Int64) * (2147483648 : Int64) = drw g from rfl, hM2, bnd_e, chk_t (by decide), chk_t nz, g2, ek2, e3, obd_s]
theorem HV.may {M : Mem} {h X Y N : Nat} {t : Int32} {Q : Nat → Int32} {S : St} {pb pt : List Row4} (p : HV M h X Y t N Q S pb pt) (hI : IA N S) (h16 : N ≤ 16) {v : Nat} (hv : v < N) (hQ : qm N S v = Q v) : f_X2_mayAsk h (nI v) M = some (if mayA N v S then 1 else 0) := by
  have q := p.1
  obtain ⟨_, g7, g8, g9, _⟩ := p.2.2.1
  obtain ⟨i0, _, i7, _⟩ := hI v (by omega)
  rw [f_X2_mayAsk, cs_f q, f_has9 _ (by omega), obd_s, b_or, b_or, g7 v (by omega), g8 v (by omega), g9 v (by omega)]
  unfold mayA
  rw [hQ]
  have v6 : v < 16 := by omega
  by_cases c : xR S 0 v = 0 ∧ xR S 7 v = 0
  · obtain ⟨c0, c7⟩ := c
    have hz : (decide (v < 16 ∧ (0 : Int32) = 2) || decide (v < 16 ∧ (0 : Int32) = 1) || decide (v < 16 ∧ (0 : Int32) = 1)) = false := by simp
    rw [c0, c7, hz, if_neg (show ¬ false = true by decide), if_pos rfl, cs_h5 q, bnd_e, cs_a15 q, cs_i15 q v6, cl_n (by omega), p.2.2.2.2.2.2 v hv]
    by_cases d : Q v = 0
    · rw [if_pos d, d]; simp
    · rw [if_neg d]; simp [d]
  · have : (decide (v < 16 ∧ xR S 0 v = 2) || decide (v < 16 ∧ xR S 0 v = 1) || decide (v < 16 ∧ xR S 7 v = 1)) = true := by
      rcases i0 with e0 | e0 | e0
      · rcases i7 with e7 | e7
        · exact absurd ⟨e0, e7⟩ c
        · simp [e7, v6]
      · simp [e0, v6]
      · simp [e0, v6]
    rw [if_pos this, if_neg ne10]
    have n : (decide (xR S 0 v = 0) && (decide (xR S 7 v = 0) && !decide (Q v = 0))) = false := by
      by_cases c0 : xR S 0 v = 0
      · by_cases c7 : xR S 7 v = 0
        · exact absurd ⟨c0, c7⟩ c
        · simp [c7]
      · simp [c0]
    rw [n]
    rfl
theorem IA_ak {N v : Nat} {S : St} (hI : IA N S) (hv : v < N) (t : Int32) : IA N (ak t N v S) := by
  intro u hu
  obtain ⟨i0, iN, i7, i10⟩ := hI u hu
  rw [ak_R (by decide), ak_R (by decide), ak_R (by decide)]
  by_cases c : u = v
  · rw [if_pos c, if_pos c, if_pos c, if_pos rfl, if_neg (by decide), if_neg (by decide), if_neg (by decide), if_neg (by decide), if_neg (by decide), if_neg (by decide), if_neg (by decide), if_neg (by decide), if_neg (by decide), if_neg (by decide), if_neg (by decide), if_neg (by decide), if_neg (by decide), if_neg (by decide), if_neg (by decide), if_neg (by decide), if_neg (by decide), if_neg (by decide)]
    exact ⟨Or.inr (Or.inl rfl), fun z => by omega, i7, i10⟩
  · rw [if_neg c, if_neg c, if_neg c]
    exact ⟨i0, iN, i7, i10⟩
/-- what a quorum is told of -/
def Qk (S S' : St) : Prop := ∀ k, k = 7 ∨ k = 17 ∨ k = 20 → ∀ i, xR S' k i = xR S k i
theorem Qk.m {S S' : St} (h : Qk S S') (N v : Nat) : qm N S' v = qm N S v := by
  have e7 := h 7 (by omega)
  have e17 := h 17 (by omega)
  have e20 := h 20 (by omega)
  have eb : bkm N S' = bkm N S := by
    unfold bkm bk
    simp only [e7]
  unfold qm qby fub
  simp only [eb, e17, e20]
theorem Qk.ak (t : Int32) (N v : Nat) (S : St) : Qk S (ak t N v S) := by
  intro k hk i
  rw [ak_R (by omega)]
  by_cases c : i = v
  · rw [if_pos c, if_neg (by omega), if_neg (by omega), if_neg (by omega), if_neg (by omega), if_neg (by omega), if_neg (by omega), if_neg (by omega), if_neg (by omega), if_neg (by omega)]
  · rw [if_neg c]
set_option maxHeartbeats 1000000 in
theorem HV.aal {h X Y N : Nat} {t : Int32} {Q : Nat → Int32} {pb pt : List Row4} (h16 : N ≤ 16) : ∀ (d i n : Nat) (M : Mem) (S : St), HV M h X Y t N Q S pb pt → IA N S → (∀ v, v < N → qm N S v = Q v) → i + d = N → (fl S).length + N * d ≤ 9000 → d + 18 ≤ n → ∃ M', f_X2_letAllAsk_2 n h (nI i) M = some M' ∧ HV M' h X Y t N Q (akl t N (List.range' i d) S) pb pt ∧ FrH M M' h := by
  intro d
  induction d with
  | zero =>
    intro i n M S p hI hQ hi hl hn
    obtain ⟨n, rfl⟩ : ∃ m, n = m + 1 := ⟨n - 1, by omega⟩
    refine ⟨M, ?_, p, FrH.rf _ _⟩
    have q := p.1
    rw [f_X2_letAllAsk_2, cs_f q, cs_h0 q, bnd_e, cs_s q, p.2.2.2.2.2.1, if_pos (nI_le (by omega) (by omega))]
  | succ d ih =>
    intro i n M S p hI hQ hi hl hn
    obtain ⟨n, rfl⟩ : ∃ m, n = m + 1 := ⟨n - 1, by omega⟩
    rw [Nat.mul_succ] at hl
    have q := p.1
    have em := p.may hI h16 (v := i) (by omega) (hQ i (by omega))
    have el : akl t N (List.range' i (d + 1)) S = akl t N (List.range' (i + 1) d) (if mayA N i S then ak t N i S else S) := by
      unfold akl
      rw [List.range'_succ, List.foldl_cons]
    rw [el, f_X2_letAllAsk_2, cs_f q, cs_h0 q, bnd_e, cs_s q, p.2.2.2.2.2.1, if_neg (nI_ge (by omega) (by omega)), em, obd_s]
    by_cases c : mayA N i S = true
    · rw [if_pos c, if_pos c, if_neg ne10]
      have c0 : xR S 0 i = 0 := by
        unfold mayA at c
        exact of_decide_eq_true (Bool.and_eq_true _ _ |>.mp c).1
      obtain ⟨M2, e2, p2, f2⟩ := p.tak h16 (v := i) (by omega) (by rw [c0]; decide) (hQ i (by omega)) (by omega) (n := n) (by omega)
      have hlen := ak_len (N := N) (v := i) (S := S) h16 (by omega) t
      obtain ⟨M3, e3, p3, f3⟩ := ih (i + 1) n M2 _ p2 (IA_ak hI (by omega) t) (fun v hv => by rw [(Qk.ak t N i S).m]; exact hQ v hv) (by omega) (by omega) (by omega)
      exact ⟨M3, by rw [e2, obd_s, nI_1, bnd_e, e3], p3, f2.tr f3⟩
    · rw [if_neg c, if_neg c, if_pos rfl]
      obtain ⟨M3, e3, p3, f3⟩ := ih (i + 1) n M S p hI hQ (by omega) (by omega) (by omega)
      exact ⟨M3, by rw [nI_1, bnd_e, e3], p3, f3⟩
theorem HV.takA {M : Mem} {h X Y N n : Nat} {t : Int32} {Q : Nat → Int32} {S : St} {pb pt : List Row4} (p : HV M h X Y t N Q S pb pt) (h16 : N ≤ 16) (hI : IA N S) (hQ : ∀ v, v < N → qm N S v = Q v) (hl : (fl S).length + N * N ≤ 9000) (hn : 40 ≤ n) : ∃ M', f_X2_letAllAsk n h M = some M' ∧ HV M' h X Y t N Q (akA t N S) pb pt ∧ FrH M M' h := by
  obtain ⟨M', e, p', f'⟩ := HV.aal (t := t) (Q := Q) (pb := pb) (pt := pt) h16 N 0 n M S p hI hQ (by omega) hl (by omega)
  refine ⟨M', ?_, ?_, f'⟩
  · rw [f_X2_letAllAsk]; exact e
  · unfold akA; rw [List.range_eq_range']; exact p'
