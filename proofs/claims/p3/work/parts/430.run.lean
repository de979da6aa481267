/-! ===== the class's search, from its start on ===== -/
theorem bg_l {v2 v3 : Int32} : ∀ (d v n : Nat) (M : Mem), v + d = 16 → SX M → CS M 14 → d + 1 ≤ n → ∃ M', f_X6_begin_11 n 114 14 v2 v3 (nI v) M = some M' ∧ M'.1 = M.1 ∧ (∀ j, v ≤ j → j < 16 → mI M' 118 j = mI M (14 + 17 + 2 * j) 1) ∧ (∀ j, j < v → mI M' 118 j = mI M 118 j) ∧ (∀ o, o ≠ 118 → o ≠ 114 → ∀ b, mI M' o b = mI M o b) ∧ (∀ b, b < 8 → mI M' 114 b = mI M 114 b) ∧ mI M' 114 9 = v2 ∧ mI M' 114 8 = (if (40 : Int32) < v3 then (40 : Int32) else v3) ∧ (∀ b, 10 ≤ b → b ≤ 15 → mI M' 114 b = 0) ∧ ∀ o b, mL M' o b = mL M o b := by
  intro d
  induction d with
  | zero =>
    intro v n M hv sx q hn
    obtain ⟨n, rfl⟩ : ∃ m, n = m + 1 := ⟨n - 1, by omega⟩
    refine ⟨sI (sI (sI (sI (sI (sI (sI (sI M 114 9 v2) 114 8 (if (40 : Int32) < v3 then (40 : Int32) else v3)) 114 10 0) 114 11 0) 114 12 0) 114 13 0) 114 14 0) 114 15 0, ?_, rfl, fun j a b => by omega, fun j hj => ?_, fun o n1 n2 b => ?_, fun b hb => ?_, ?_, ?_, fun b b1 b2 => ?_, fun _ _ => rfl⟩
    · rw [f_X6_begin_11, if_pos (show (16 : Int32) ≤ nI v from nI_le (a := 16) (by omega) (by omega)), chk_t sx.1, bnd_e, bnd_e, bnd_e, bnd_e, bnd_e, bnd_e, bnd_e, chk_t (show bz (0 : Int32) by decide), bnd_e]
    · rw [mI_o _ _ _ _ _ (by decide), mI_o _ _ _ _ _ (by decide), mI_o _ _ _ _ _ (by decide), mI_o _ _ _ _ _ (by decide), mI_o _ _ _ _ _ (by decide), mI_o _ _ _ _ _ (by decide), mI_o _ _ _ _ _ (by decide), mI_o _ _ _ _ _ (by decide)]
    · rw [mI_o _ _ _ _ _ n2, mI_o _ _ _ _ _ n2, mI_o _ _ _ _ _ n2, mI_o _ _ _ _ _ n2, mI_o _ _ _ _ _ n2, mI_o _ _ _ _ _ n2, mI_o _ _ _ _ _ n2, mI_o _ _ _ _ _ n2]
    · rw [mI_n _ _ _ _ (by omega), mI_n _ _ _ _ (by omega), mI_n _ _ _ _ (by omega), mI_n _ _ _ _ (by omega), mI_n _ _ _ _ (by omega), mI_n _ _ _ _ (by omega), mI_n _ _ _ _ (by omega), mI_n _ _ _ _ (by omega)]
    · rw [mI_n _ _ _ _ (by decide), mI_n _ _ _ _ (by decide), mI_n _ _ _ _ (by decide), mI_n _ _ _ _ (by decide), mI_n _ _ _ _ (by decide), mI_n _ _ _ _ (by decide), mI_n _ _ _ _ (by decide), mI_s]
    · rw [mI_n _ _ _ _ (by decide), mI_n _ _ _ _ (by decide), mI_n _ _ _ _ (by decide), mI_n _ _ _ _ (by decide), mI_n _ _ _ _ (by decide), mI_n _ _ _ _ (by decide), mI_s]
    · rcases (show b = 10 ∨ b = 11 ∨ b = 12 ∨ b = 13 ∨ b = 14 ∨ b = 15 by omega) with rfl | rfl | rfl | rfl | rfl | rfl
      · rw [mI_n _ _ _ _ (by decide), mI_n _ _ _ _ (by decide), mI_n _ _ _ _ (by decide), mI_n _ _ _ _ (by decide), mI_n _ _ _ _ (by decide), mI_s]
      · rw [mI_n _ _ _ _ (by decide), mI_n _ _ _ _ (by decide), mI_n _ _ _ _ (by decide), mI_n _ _ _ _ (by decide), mI_s]
      · rw [mI_n _ _ _ _ (by decide), mI_n _ _ _ _ (by decide), mI_n _ _ _ _ (by decide), mI_s]
      · rw [mI_n _ _ _ _ (by decide), mI_n _ _ _ _ (by decide), mI_s]
      · rw [mI_n _ _ _ _ (by decide), mI_s]
      · rw [mI_s]
  | succ d ih =>
    intro v n M hv sx q hn
    obtain ⟨n, rfl⟩ : ∃ m, n = m + 1 := ⟨n - 1, by omega⟩
    have v16 : v < 16 := by omega
    have i18 : ∀ x : Option Mem, chk (inB (nI v) (mLn M 118)) x = x := fun x => by
      refine chk_t ?_
      rw [sx.2.2.2.1.2.2.2]; exact inB_n v16 (by decide)
    obtain ⟨M', e, s, a1, a2, a3, a4, a5, a6, a7, a8⟩ := ih (v + 1) n (sI M 118 v (mI M (14 + 17 + 2 * v) 1)) (by omega) (sx.e rfl) (q.e rfl) (by omega)
    refine ⟨M', ?_, s, fun j h1 h2 => ?_, fun j hj => ?_, fun o n1 n2 b => ?_, fun b hb => ?_, a5, a6, a7, fun o b => a8 o b⟩
    · rw [f_X6_begin_11, if_neg (show ¬ (16 : Int32) ≤ nI v from nI_ge (a := v) (b := 16) (by omega) (by decide)), chk_t sx.1, sx.2.1.2.2.2.2, bnd_e, chk_t sx.2.2.1.2.2.2, cs_f q, cs_h2 q, bnd_e, cs_a10 q, cs_i10 q v16, cs_rpc q v16, bnd_e, cs_po q v16, i18, sI_c (by omega), bnd_e, nI_1, bnd_e]
      exact e
    · by_cases z : j = v
      · rw [a2 j (by omega), z, mI_s]
      · rw [a1 j (by omega) h2, mI_o _ _ _ _ _ (by omega)]
    · rw [a2 j (by omega), mI_n _ _ _ _ (by omega)]
    · rw [a3 o n1 n2, mI_o _ _ _ _ _ n1]
    · rw [a4 b hb, mI_o _ _ _ _ _ (by decide)]
/-- the search, as it lies before it begins -/
def SR (M : Mem) (X0 Y0 : Nat) (pb pt : List Row4) : Prop := ∃ L e dC, SX M ∧ CL M dC L e ∧ TR M 63 (X0 + L / 16) (Y0 + 2 * L) pb pt ∧ mI M 115 0 = 0
section
variable {D : Nat → Prop} {X0 Y0 N : Nat} {t : Int32} {Q : Nat → Int32} {pb pt pb' pt' : List Row4} {A P most : Nat} {S0 : St} {ask : Int32}
set_option maxHeartbeats 2000000 in
theorem run_w {M : Mem} {X Y n : Nat} (p : HV M 14 X Y t N Q S0 pb' pt') (r : SR M X0 Y0 pb pt) (k : SK N A P most S0) (h1 : 1 ≤ most) (g : GS N A P S0 S0 0) (hX : X0 ≤ 100000) (hY : Y0 ≤ 1000000) (hQc : ∀ v, v < N → qm N S0 v = Q v) (hD : ∀ i j, 5 ≤ i → i ≤ 7 → 5 ≤ j → j ≤ 7 → mR M 64 i ≠ mR M 15 j) (hs : Sep D M (mR M 114 5)) (hn : 30000 ≤ n) : ∃ M', f_X6_run n 114 14 ask (nI most) M = some M' ∧ GQ N A P most S0 (bfq N most ask S0) ∧ CM D X0 Y0 t N Q pb pt A P most S0 ask (fun v => xR S0 2 v) M' (bfq N most ask S0) ∧ FrS D M M' := by
  obtain ⟨h2, h16, h40, hA, hP, hN0, ht0, hQ⟩ := id k
  obtain ⟨L, e, dC, sx, c, tr, z0⟩ := r
  have hN := sx.2.2.2.2
  have hI := g.1
  have r57 : ∀ i, 5 ≤ i → i ≤ 7 → mR M 64 i = 63 + 2 + i ∨ 131 ≤ mR M 64 i := by
    obtain ⟨_, ⟨e5, e6, e7, len, ds, _⟩, _⟩ := tr
    obtain ⟨⟨y5, y6, y7⟩, _, _, x5, x6, x7, _⟩ := ds
    have y5' : mR M 64 5 = e5 := y5
    have y6' : mR M 64 6 = e6 := y6
    have y7' : mR M 64 7 = e7 := y7
    intro i a b
    rcases (show i = 5 ∨ i = 6 ∨ i = 7 by omega) with rfl | rfl | rfl
    · rw [y5']; exact x5
    · rw [y6']; exact x6
    · rw [y7']; exact x7
  obtain ⟨M1, e1, p1, fh⟩ := p.copy tr (by omega) h16 hD (fun v hv => (hI.1 v hv).2.2.2) (fun v hv w hw => by have := ((hI.2.2.2.2.2.1 v hv).1.2.2 w hw).1; omega) (n := n) (by omega)
  have f1 := fh.up hN r57
  have sx1 := sx.up f1
  obtain ⟨c1, _⟩ := c.up hN f1
  have hs0 : Sep D M dC := by rw [← c.1]; exact hs
  obtain ⟨s1, hs1⟩ := f1.s hN r57 hs0
  have q := p.1
  have q14 : CS M1 14 := by
    refine ⟨fun i hi hn => ?_, fun z hz => ?_, ?_, ⟨by have := s1.1; omega, ?_⟩, q.2.2.2.2.1, q.2.2.2.2.2.1, by have := s1.1; omega⟩
    · rw [s1.2.1 (14 + i) (by omega)]; exact q.1 i hi hn
    · have hb : ∀ z, z ∈ tH → z.1 < 49 := by decide
      have := hb z hz
      rw [s1.2.2.1 (14 + z.1) z.2.1 (by omega) (by omega) (by omega)]; exact q.2.1 z hz
    · rw [s1.2.2.1 14 0 (by omega) (by decide) (by decide)]; exact q.2.2.1
    · rw [mC, s1.2.1 1 (by omega)]; exact q.2.2.2.1.2
  have r5 := r57 5 (by decide) (by decide)
  have r6 := r57 6 (by decide) (by decide)
  have r7 := r57 7 (by decide) (by decide)
  obtain ⟨M2, e2, s2, a1, a2, a3, a4, a5, a6, a7, a8⟩ := bg_l (v2 := ask) (v3 := nI most) 16 0 n M1 rfl sx1 q14 (by omega)
  have v2 : SV X0 Y0 t N Q pb pt (clr S0) M2 e dC := (show SV X0 Y0 t N Q pb pt (clr S0) M1 e dC from ⟨L, sx1, c1, p1⟩).at5 s2 (fun o n b => a3 o (by omega) (by omega) b) (a4 6 (by decide))
  have s12 : FrS D M1 M2 := by
    refine ⟨by unfold mN; rw [s2]; exact Nat.le_refl _, fun o _ => by rw [s2], fun o b _ _ _ => by unfold mR; rw [s2], fun o h b => ?_, fun o _ b => a8 o b⟩
    have : ¬ (114 ≤ o ∧ o ≤ 118) := h.elim (fun z => by omega) (fun z => (hs1 o z).2.2.1)
    exact a3 o (by omega) (by omega) b
  have hs2 : Sep D M2 dC := by
    have e1 : mN M2 = mN M1 := by unfold mN; rw [s2]
    have e2 : ∀ i, mR M2 64 i = mR M1 64 i := fun i => by unfold mR; rw [s2]
    intro o ho
    obtain ⟨y1, y2, y3, y4, y5⟩ := hs1 o ho
    exact ⟨by omega, y2, y3, y4, fun i a b => by rw [e2]; exact y5 i a b⟩
  have kz : Qk S0 (clr S0) := fun _ _ _ => rfl
  have gz : GS N A P S0 (clr S0) 0 := by
    have sey : SE S0 (clr S0) := ⟨fun _ _ _ _ => rfl, fun _ _ => rfl, fun _ _ => rfl⟩
    exact ⟨g.1.reg ⟨rfl, fun _ _ _ _ => rfl⟩ rfl, ⟨sey.tix h16 g.2.1.1, g.2.1.2.1.k kz, by rw [← sey.tPhS]; exact g.2.1.2.2⟩, kz, fun _ _ _ _ => rfl⟩
  have sez : SE (clr S0) S0 := ⟨fun _ _ _ _ => rfl, fun _ _ => rfl, fun _ _ => rfl⟩
  have sq : SQ N ask (fun v => xR S0 2 v) most M2 e dC (([], false) : Bq) := by
    refine ⟨⟨fun i hi => ?_, fun i p hp => by cases i <;> cases hp⟩, Nat.zero_le _, a7 10 (by decide) (by decide), ?_, a5, fun v hv => ?_, a7 11 (by decide) (by decide), a7 12 (by decide) (by decide), a7 13 (by decide) (by decide), a7 14 (by decide) (by decide), a7 15 (by decide) (by decide), fun i p hp => by cases i <;> cases hp⟩
    · have hi0 : i = 0 := Nat.le_zero.mp hi
      rw [hi0, a3 115 (by decide) (by decide), f1.2.2.2.1 115 (by omega) (by decide) (by decide) (by omega) (by omega) (by omega) 0, z0]
      rfl
    · rw [a6, if_neg (show ¬ (40 : Int32) < nI most from nI_nl (a := 40) h40 (by decide))]
    · rw [a1 v (Nat.zero_le _) (by omega), s1.2.2.2.1 _ (Or.inl ⟨by omega, by omega, by omega⟩)]
      exact (p.2.2.1.1 v (by omega)).1 (1, 2) (by decide)
  obtain ⟨M3, e3', d3, e3, v3, s3, f3⟩ := v2.meet hX hY h16 (A := A) (P := P) (most := most) (dd := 0) (S0 := S0) (Sm := S0) (q := (([], false) : Bq)) (n := n) (by omega) h40 (by omega) (fun v hv => by rw [kz.m]; exact hQc v hv) ⟨Nat.zero_le _, fun z => absurd z (by decide), fun i p hp => by cases i <;> cases hp⟩ gz (by decide) sez sq (by omega)
  have f3' := v2.frq f3 hs2
  have em : met1 most (([], false) : Bq) S0 0 = ([(S0, 0)], false) := by
    unfold met1
    rw [if_neg (by rw [knw_t]; rintro ⟨q, hq, _⟩; cases hq), if_pos (show ([] : List (St × Nat)).length < most from h1)]
    rfl
  rw [em] at s3
  have gq : GQ N A P most S0 (([(S0, 0)], false) : Bq) := by
    refine ⟨h1, fun z => Bool.noConfusion (show false = true from z), fun i p hp => ?_⟩
    cases i with
    | zero =>
      have : p = (S0, 0) := (Option.some.inj hp).symm
      rw [this]
      exact ⟨Nat.le_refl _, g⟩
    | succ i => cases i <;> cases hp
  obtain ⟨M4, e4, g4, c4, f4⟩ := ru_15 k hX hY hQc most 0 (most + 1) n M3 (([(S0, 0)], false) : Bq) (by omega) (by omega) (Nat.zero_le _) gq ⟨_, _, _, _, v3, gz, s3, f3'.2⟩ (by omega)
  obtain ⟨L2, x2, _, _⟩ := id v2
  refine ⟨M4, ?_, g4, c4, s1.tr (s12.tr (f3'.1.tr f4))⟩
  have eb : f_X6_begin n 114 14 ask (nI most) M = some M2 := by
    rw [f_X6_begin, chk_t sx.1, sx.2.1.1, bnd_e, cs_f tr.1, e1, obd_s]
    exact e2
  rw [f_X6_run, chk_t sx.1, eb, obd_s, chk_t x2.1, show f_X6_meet n 114 0 M2 = some M3 from e3, obd_s]
  exact e4
end
