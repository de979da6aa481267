/-! ===== a maker of sets: both sides ===== -/
theorem PA_o {o : Nat} (h : ¬ (120 ≤ o ∧ o ≤ 130)) : o ≠ 120 ∧ o ≠ 121 ∧ o ≠ 122 := by omega
theorem WJ.mk {M M1 : Mem} {N0 A i N n : Nat} {Q C : Nat → Int32} {S : St} {tr : Int32} (w : WJ M N0 A i Q S) (m : MC N C tr M M1) (h2 : 2 ≤ N) (h16 : N ≤ 16) (t2 : tr = 0 ∨ tr = 1) (t : tr = 1 → N % 2 = 1) (bi : ∀ v, v < N → ∀ i, N ≤ i → i < 32 → bt (C v) i = false) (tb : TBs N C tr) (hn : 400 ≤ n) : ∃ M2, f_X9_startAnew n 0 M1 = some (nI N, M2) ∧ isO M2 10 120 ∧ RK M2 120 121 ∧ RV M2 false 0 S [] [] ∧ (XG M2 ∧ SB M2 N (fS0 N C tr)) ∧ ∀ M3, M3.1 = M2.1 → (∀ o, ¬ (120 ≤ o ∧ o ≤ 130) → ∀ b, mI M3 o b = mI M2 o b) → (∀ b, mI M3 120 b = mI M2 120 b) → (∀ b, b < 10465 → mI M3 121 b = rfm (mI M2 121) N tr C b) → WI (i + 1) M3 := by
  obtain ⟨hc, r, z7, sw, _⟩ := w
  let B : Nat → Int32 := fun v => if v < N then C v else mI M 121 (2 + v)
  have hB : ∀ v, v < N → B v = C v := fun v hv => if_pos hv
  have mB : MC N B tr M M1 := ⟨m.1, m.2.1, m.2.2.1, m.2.2.2.1, fun v hv => by rw [hB v hv]; exact m.2.2.2.2.1 v hv, m.2.2.2.2.2⟩
  obtain ⟨M2, e2, c2, s2, i2, l2, k57⟩ := hc.anew mB h16 hn
  have rs2 : RS M2 := r.1.e s2
  have r2 : RV M2 false 0 S [] [] := r.mr (by unfold mN; rw [s2]; exact Nat.le_refl _) (fun o h1 h2 => ⟨by rw [s2], fun b => mR_e s2 o b, i2 o (by omega) h2⟩)
  have xsb : XG M2 ∧ SB M2 N (fS0 N C tr) := by
    obtain ⟨_, _, _, _, sb, xg, _⟩ := c2
    exact ⟨xg, sb.1, sb.2.1, sb.2.2.1, sb.2.2.2.1, sb.2.2.2.2.1, fun v hv => by rw [sb.2.2.2.2.2 v hv]; exact hB v hv⟩
  refine ⟨M2, e2, rs2.io (by decide) (by decide) (by decide), ?_, r2, xsb, fun M3 s3 i3 i120 f3 => ⟨N, 0, B, fS0 N B tr, c2.ref s3 i3 (fun z => absurd (k57.symm.trans z) (by decide)), ?_, ?_, fS0_SW h2 h16 t2 t (fun v hv j a b => by rw [hB v hv]; exact bi v hv j a b) (tb.cg hB), fun v hv => fS0_qm h16 v⟩⟩
  · refine ⟨rs2.io (by decide) (by decide) (by decide), rs_0 rs2, rs2.io (by decide) (by decide) (by decide), rs2.ln (by decide) (by decide) (by decide)⟩
  · refine rfm_RV (f := mI M2 121) (C := C) false h16 (rs2.e s3) (by rw [i120, i2 120 (by omega) (by omega)]; exact r.2.1) (fun v hv => ?_) f3
    show (if v < N then C v else mI M 121 (2 + v)) = _
    rw [i2 121 (by omega) (by omega)]
  · rw [i120, i2 120 (by omega) (by omega)]; exact z7
/-- a loop that writes one cell a round -/
def Wc (o k : Nat) (x : Int32) (M M' : Mem) : Prop := M'.1 = M.1 ∧ mI M' o k = x ∧ (∀ b, b ≠ k → mI M' o b = mI M o b) ∧ (∀ a, a ≠ o → ∀ b, mI M' a b = mI M a b) ∧ ∀ a b, mL M' a b = mL M a b
theorem Wc.s (M : Mem) (o k : Nat) (x : Int32) : Wc o k x M (sI M o k x) := ⟨rfl, mI_s _ _ _ _, fun b n => mI_n _ _ _ _ n, fun a n b => mI_o _ _ _ _ _ n, fun _ _ => rfl⟩
theorem Wc.r (M : Mem) (o k : Nat) : Wc o k (mI M o k) M M := ⟨rfl, rfl, fun _ _ => rfl, fun _ _ _ => rfl, fun _ _ => rfl⟩
theorem Wc.tr {o k : Nat} {x y : Int32} {M M1 M2 : Mem} (a : Wc o k x M M1) (b : Wc o k y M1 M2) : Wc o k y M M2 :=
  ⟨b.1.trans a.1, b.2.1, fun c n => (b.2.2.1 c n).trans (a.2.2.1 c n), fun c n d => (b.2.2.2.1 c n d).trans (a.2.2.2.1 c n d), fun c d => (b.2.2.2.2 c d).trans (a.2.2.2.2 c d)⟩
/-- i cells from c on are written -/
def Lp (M0 : Mem) (o c : Nat) (C : Nat → Int32) (i : Nat) (M : Mem) : Prop := M.1 = M0.1 ∧ (∀ v, v < i → mI M o (c + v) = C v) ∧ (∀ b, ¬ (c ≤ b ∧ b < c + i) → mI M o b = mI M0 o b) ∧ (∀ a, a ≠ o → ∀ b, mI M a b = mI M0 a b) ∧ ∀ a b, mL M a b = mL M0 a b
theorem Lp.r (M0 : Mem) (o c : Nat) (C : Nat → Int32) : Lp M0 o c C 0 M0 := ⟨rfl, fun v hv => by omega, fun _ _ => rfl, fun _ _ _ => rfl, fun _ _ => rfl⟩
theorem Lp.s {M0 M M' : Mem} {o c i : Nat} {C : Nat → Int32} (l : Lp M0 o c C i M) (w : Wc o (c + i) (C i) M M') : Lp M0 o c C (i + 1) M' := by
  refine ⟨w.1.trans l.1, fun v hv => ?_, fun b hb => ?_, fun a n b => (w.2.2.2.1 a n b).trans (l.2.2.2.1 a n b), fun a b => (w.2.2.2.2 a b).trans (l.2.2.2.2 a b)⟩
  · by_cases e : v = i
    · rw [e]; exact w.2.1
    · rw [w.2.2.1 _ (by omega)]; exact l.2.1 v (by omega)
  · rw [w.2.2.1 b (by omega)]; exact l.2.2.1 b (by omega)
theorem lpw {α : Type} {F : Nat → Int32 → Mem → Option α} {G : Mem → Option α} {M0 : Mem} {o c N K : Nat} {C : Nat → Int32} (step : ∀ i n M, i < N → Lp M0 o c C i M → K ≤ n → ∃ M', F (n + 1) (nI i) M = F n (nI (i + 1)) M' ∧ Wc o (c + i) (C i) M M') (stop : ∀ n M, Lp M0 o c C N M → F (n + 1) (nI N) M = G M) : ∀ (d i n : Nat) (M : Mem), i + d = N → Lp M0 o c C i M → K + d + 1 ≤ n → ∃ M', F n (nI i) M = G M' ∧ Lp M0 o c C N M' := by
  intro d
  induction d with
  | zero =>
    intro i n M hi l hn
    obtain ⟨n, rfl⟩ : ∃ m, n = m + 1 := ⟨n - 1, by omega⟩
    have : i = N := by omega
    subst this
    exact ⟨M, stop n M l, l⟩
  | succ d ih =>
    intro i n M hi l hn
    obtain ⟨n, rfl⟩ : ∃ m, n = m + 1 := ⟨n - 1, by omega⟩
    obtain ⟨M1, e1, w1⟩ := step i n M (by omega) l (by omega)
    obtain ⟨M2, e2, l2⟩ := ih (i + 1) n M1 (by omega) (l.s w1) (by omega)
    exact ⟨M2, e1.trans e2, l2⟩
/-- the class's sets: what lies where -/
def SZ (M : Mem) : Prop := (isO M 7 1 ∧ isO M 100 2 ∧ isO M 100 3) ∧ (mR M 1 0 = 2 ∧ mR M 1 1 = 3) ∧ mLn M 2 = 16 ∧ mLn M 3 = 16
theorem SZ.e {M M' : Mem} (z : SZ M) (e : M'.1 = M.1) : SZ M' := by
  unfold SZ isO mR mLn mN mC at *
  rw [e]; exact z
theorem SB.z {M : Mem} {N : Nat} {S : St} (h : SB M N S) : SZ M := ⟨⟨h.1.1, h.1.2.1, h.1.2.2.1⟩, ⟨h.2.1.1, h.2.1.2.1⟩, h.2.2.1.1, h.2.2.1.2.1⟩
section
variable {M : Mem} {α : Type}
theorem SZ.f (z : SZ M) (x : Option α) : chk (isO M 7 1) x = x := chk_t z.1.1
theorem SZ.a2 (z : SZ M) (x : Option α) : chk (isO M 100 2) x = x := chk_t z.1.2.1
theorem SZ.a3 (z : SZ M) (x : Option α) : chk (isO M 100 3) x = x := chk_t z.1.2.2
theorem SZ.r2 (z : SZ M) : mR M 1 0 = 2 := z.2.1.1
theorem SZ.r3 (z : SZ M) : mR M 1 1 = 3 := z.2.1.2
theorem SZ.i2 (z : SZ M) {k : Nat} (hk : k < 16) (x : Option α) : chk (inB (nI k) (mLn M 2)) x = x := chk_t (by rw [z.2.2.1]; exact inB_n hk (by decide))
theorem SZ.i3 (z : SZ M) {k : Nat} (hk : k < 16) (x : Option α) : chk (inB (nI k) (mLn M 3)) x = x := chk_t (by rw [z.2.2.2]; exact inB_n hk (by decide))
end
/-- the class's sets, begun -/
def Bg (N : Nat) (tr : Int32) (M M' : Mem) : Prop := M'.1 = M.1 ∧ mI M' 1 3 = nI N ∧ mI M' 1 4 = tr ∧ (∀ v, v < 16 → mI M' 2 v = 0) ∧ (∀ o, o ≠ 1 → o ≠ 2 → ∀ b, mI M' o b = mI M o b) ∧ ∀ o b, mL M' o b = mL M o b
theorem SZ.bg {M : Mem} {N n : Nat} (z : SZ M) (hn : 20 ≤ n) : ∃ M', f_X7_begin n 1 (nI N) M = some M' ∧ Bg N 0 M M' := by
  generalize hM1 : sI (sI M 1 3 (nI N)) 1 4 0 = M1
  have s1 : M1.1 = M.1 := by rw [← hM1]; rfl
  have z1 := z.e s1
  obtain ⟨M', e, s, f1, f2, f3⟩ := f_fill (x := 0) (o := 2) (len := 16) (n := n) (M := M1) (by decide) z1.1.2.1 z1.2.2.1 (by omega)
  refine ⟨M', ?_, s.trans s1, ?_, ?_, f1, fun o n1 n2 b => ?_, fun o b => ?_⟩
  · rw [f_X7_begin, z.f, bnd_e, chk_t (Or.inl rfl), bnd_e, hM1, z1.r2, bnd_e, z1.a2, e, obd_s]
  · rw [f2 1 (by decide), ← hM1, mI_n _ _ _ _ (by decide), mI_s]
  · rw [f2 1 (by decide), ← hM1, mI_s]
  · rw [f2 o n2, ← hM1, mI_o _ _ _ _ _ n1, mI_o _ _ _ _ _ n1]
  · rw [f3, ← hM1]; rfl
theorem Bg.mc {M M1 M2 : Mem} {N : Nat} {tr : Int32} {C : Nat → Int32} (b : Bg N tr M M1) (l : Lp M1 2 0 C N M2) : MC N C tr M M2 := by
  obtain ⟨b1, b2, b3, b4, b5, b6⟩ := b
  obtain ⟨l1, l2, l3, l4, l5⟩ := l
  exact ⟨l1.trans b1, fun o ho c => by rw [l4 o (by omega), b5 o (by omega) (by omega)], by rw [l4 1 (by decide)]; exact b2, by rw [l4 1 (by decide)]; exact b3, fun v hv => by have := l2 v hv; rw [Nat.zero_add] at this; exact this, fun o c => (l5 o c).trans (b6 o c)⟩
/-- the reference's maker has ended -/
def RE (N : Nat) (tr : Int32) (C : Nat → Int32) (M M' : Mem) : Prop := M'.1 = M.1 ∧ (∀ o, ¬ (120 ≤ o ∧ o ≤ 130) → ∀ b, mI M' o b = mI M o b) ∧ (∀ b, mI M' 120 b = mI M 120 b) ∧ ∀ b, b < 10465 → mI M' 121 b = rfm (mI M 121) N tr C b
theorem RE_of {M M' : Mem} {N : Nat} {tr : Int32} {C : Nat → Int32} (l : Lp (wA M 121 (bgf (mI M 121) (nI N) tr)) 121 2 C N M') : RE N tr C M M' := by
  obtain ⟨l1, l2, l3, l4, l5⟩ := l
  have w : ∀ o, o ≠ 121 → ∀ b, mI (wA M 121 (bgf (mI M 121) (nI N) tr)) o b = mI M o b := fun o n b => if_neg n
  refine ⟨l1, fun o ho b => by rw [l4 o (by omega), w o (by omega)], fun b => by rw [l4 120 (by decide), w 120 (by decide)], fun b hb => ?_⟩
  unfold rfm
  by_cases c : 2 ≤ b ∧ b < 2 + N
  · rw [if_pos c]
    have := l2 (b - 2) (by omega)
    rw [show 2 + (b - 2) = b by omega] at this
    exact this
  · rw [if_neg c, l3 b c]
    show (if (121 : Nat) = 121 then bgf (mI M 121) (nI N) tr b else M.2.1 121 b) = _
    rw [if_pos rfl]
theorem RK.e {M M' : Mem} {r A : Nat} (h : RK M r A) (e : M'.1 = M.1) : RK M' r A := by
  unfold RK isO mR mLn mN mC at *
  rw [e]; exact h
section
variable {M : Mem} {α : Type}
theorem RK.f (h : RK M 120 121) (x : Option α) : chk (isO M 10 120) x = x := chk_t h.1
theorem RK.r (h : RK M 120 121) : mR M 120 0 = 121 := h.2.1
theorem RK.a (h : RK M 120 121) (x : Option α) : chk (isO M 100 121) x = x := chk_t h.2.2.1
theorem RK.i (h : RK M 120 121) {k : Nat} (hk : k < 10465) (x : Option α) : chk (inB (nI k) (mLn M 121)) x = x := chk_t (rk_in h hk)
end
/-- a maker, both sides -/
theorem Okk.mk {M : Mem} {N0 A i N n : Nat} {Q C : Nat → Int32} {S : St} {tr : Int32} {x : Option (Int32 × Mem)} {y : Mem → Option (Int32 × Mem)} (w : WJ M N0 A i Q S) (h2 : 2 ≤ N) (h16 : N ≤ 16) (t2 : tr = 0 ∨ tr = 1) (t : tr = 1 → N % 2 = 1) (bi : ∀ v, v < N → ∀ i, N ≤ i → i < 32 → bt (C v) i = false) (tb : TBs N C tr) (hn : 400 ≤ n) (hx : ∃ M1, MC N C tr M M1 ∧ x = obd2 (f_X9_startAnew n 0 M1) fun r M14 => some (r, M14)) (hy : ∀ M2, RK M2 120 121 → ∃ M3, y M2 = some (nI N, M3) ∧ RE N tr C M2 M3) : Okk i x y := by
  obtain ⟨M1, m, ex⟩ := hx
  obtain ⟨M2, e2, io, rk, _, _, fin⟩ := w.mk m h2 h16 t2 t bi tb hn
  obtain ⟨M3, e3, s3, i3, i120, f3⟩ := hy M2 rk
  exact ⟨nI N, M2, M3, by rw [ex, e2, obd2_s], io, e3, fin M3 s3 i3 i120 f3⟩
