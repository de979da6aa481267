/-! ===== the question is(..): round whom ===== -/
def P30 (o : Nat) : Prop := o = 30
theorem HV.f30 {M M' : Mem} {X Y N : Nat} {t : Int32} {Q : Nat → Int32} {S : St} {pb pt : List Row4} (p : HV M 14 X Y t N Q S pb pt) (f : Fr P30 M M') : HV M' 14 X Y t N Q S pb pt :=
  p.kp6 f.1 (fun o ho b => f.2.1 o (by unfold P30; omega) b)
theorem cs_h6 {M : Mem} {h : Nat} (q : CS M h) : mR M h 6 = h + 16 := q.r (a := 0) (b := 6) (c := 16) (by decide)
theorem cs_a16 {α : Type} {M : Mem} {h : Nat} (q : CS M h) (x : Option α) : chk (isO M 100 (h + 16)) x = x := chk_t (q.io (i := 16) (by decide) (by decide) (by decide))
theorem cs_i16 {α : Type} {M : Mem} {h : Nat} (q : CS M h) {k : Nat} (hk : k < 16) (x : Option α) : chk (inB (nI k) (mLn M (h + 16))) x = x := by
  refine chk_t ?_
  rw [q.ln (i := 16) (c := 16) (by decide) (by decide) (by decide)]; exact inB_n hk (by decide)
theorem f30_s (M : Mem) (k : Nat) (x : Int32) : Fr P30 M (sI M (14 + 16) k x) := Fr.tsI (show P30 (14 + 16) from rfl)
section
variable {X Y N : Nat} {t : Int32} {Q : Nat → Int32} {S : St} {pb pt : List Row4}
theorem rd115 {M : Mem} (p : HV M 14 X Y t N Q S pb pt) (h16 : N ≤ 16) : ∀ (d i n : Nat) (c : Int32), i + d = N → d + 1 ≤ n → ∃ x, f_X2_round_115 n 14 c (nI i) M = some (x, M) := by
  intro d
  have q := p.1
  induction d with
  | zero =>
    intro i n c hi hn
    obtain ⟨n, rfl⟩ : ∃ m, n = m + 1 := ⟨n - 1, by omega⟩
    exact ⟨c, by rw [f_X2_round_115, cs_f q, cs_h0 q, bnd_e, cs_s q, p.2.2.2.2.2.1, if_pos (nI_le (by omega) (by omega))]⟩
  | succ d ih =>
    intro i n c hi hn
    obtain ⟨n, rfl⟩ : ∃ m, n = m + 1 := ⟨n - 1, by omega⟩
    rw [f_X2_round_115, cs_f q, cs_h0 q, bnd_e, cs_s q, p.2.2.2.2.2.1, if_neg (nI_ge (by omega) (by omega)), cs_h6 q, bnd_e, cs_a16 q, cs_i16 q (by omega), bnd_e, bnd_e, nI_1]
    exact ih (i + 1) n _ (by omega) (by omega)
theorem rd60 (h16 : N ≤ 16) {K : Nat → Int32 → Mem → Option (Int32 × Mem)} {k : Nat} (hk : k < N) (hK : ∀ M, HV M 14 X Y t N Q S pb pt → ∃ x M2, K 14 (nI (k + 1)) M = some (x, M2) ∧ Fr P30 M M2) : ∀ (d i n : Nat) (M : Mem), HV M 14 X Y t N Q S pb pt → i + d = N → d + 1 ≤ n → ∃ x M2, f_X2_round_60 K n 14 (nI k) (nI i) M = some (x, M2) ∧ Fr P30 M M2 := by
  intro d
  induction d with
  | zero =>
    intro i n M p hi hn
    have q := p.1
    obtain ⟨n, rfl⟩ : ∃ m, n = m + 1 := ⟨n - 1, by omega⟩
    obtain ⟨x, M2, e2, f2⟩ := hK M p
    exact ⟨x, M2, by rw [f_X2_round_60, cs_f q, cs_h0 q, bnd_e, cs_s q, p.2.2.2.2.2.1, if_pos (nI_le (by omega) (by omega)), bnd_e, nI_1]; exact e2, f2⟩
  | succ d ih =>
    intro i n M p hi hn
    have q := p.1
    obtain ⟨n, rfl⟩ : ∃ m, n = m + 1 := ⟨n - 1, by omega⟩
    obtain ⟨z, ez⟩ := has_ex (mI M (14 + 16) (nI i).toNatClampNeg) (v := k) (by omega) M
    rw [f_X2_round_60, cs_f q, cs_h0 q, bnd_e, cs_s q, p.2.2.2.2.2.1, if_neg (nI_ge (by omega) (by omega)), cs_h6 q, bnd_e, cs_a16 q, cs_i16 q (show i < 16 by omega), ez, obd_s]
    by_cases c : z = 0
    · rw [if_pos c, bnd_e, nI_1]
      exact ih (i + 1) n M p (by omega) (by omega)
    · rw [if_neg c, bnd_e, cs_a16 q, cs_i16 q (show i < 16 by omega), bnd_e, cs_a16 q, cs_i16 q (show k < 16 by omega), cs_i16 q (show i < 16 by omega), bnd_e, bnd_e, nI_1]
      have f1 := f30_s M (nI i).toNatClampNeg (mI M (14 + 16) (nI i).toNatClampNeg ||| mI M (14 + 16) (nI k).toNatClampNeg)
      obtain ⟨x, M2, e2, f2⟩ := ih (i + 1) n _ (p.f30 f1) (by omega) (by omega)
      exact ⟨x, M2, e2, f1.tr f2⟩
theorem rd47 (h16 : N ≤ 16) : ∀ (d i n : Nat) (M : Mem), HV M 14 X Y t N Q S pb pt → i + d = N → d + 20 ≤ n → ∃ x M2, f_X2_round_47 n 14 (nI i) M = some (x, M2) ∧ Fr P30 M M2 := by
  intro d
  induction d with
  | zero =>
    intro i n M p hi hn
    have q := p.1
    obtain ⟨n, rfl⟩ : ∃ m, n = m + 1 := ⟨n - 1, by omega⟩
    obtain ⟨x, e⟩ := rd115 p h16 N 0 n 0 (by omega) (by omega)
    exact ⟨x, M, by rw [f_X2_round_47, cs_f q, cs_h0 q, bnd_e, cs_s q, p.2.2.2.2.2.1, if_pos (nI_le (by omega) (by omega))]; exact e, Fr.rf _ _⟩
  | succ d ih =>
    intro i n M p hi hn
    have q := p.1
    obtain ⟨n, rfl⟩ : ∃ m, n = m + 1 := ⟨n - 1, by omega⟩
    have k2 := rd60 (X := X) (Y := Y) (t := t) (Q := Q) (S := S) (pb := pb) (pt := pt) h16 (K := f_X2_round_47 n) (k := i) (by omega) (fun M p => ih (i + 1) n M p (by omega) (by omega)) N 0 n M p (by omega) (by omega)
    obtain ⟨x, M2, e2, f2⟩ := k2
    exact ⟨x, M2, by rw [f_X2_round_47, cs_f q, cs_h0 q, bnd_e, cs_s q, p.2.2.2.2.2.1, if_neg (nI_ge (by omega) (by omega))]; exact e2, f2⟩
theorem rd2 (h16 : N ≤ 16) : ∀ (d i n : Nat) (M : Mem), HV M 14 X Y t N Q S pb pt → i + d = N → d + 60 ≤ n → ∃ x M2, f_X2_round_2 n 14 (nI i) M = some (x, M2) ∧ Fr P30 M M2 := by
  intro d
  induction d with
  | zero =>
    intro i n M p hi hn
    have q := p.1
    obtain ⟨n, rfl⟩ : ∃ m, n = m + 1 := ⟨n - 1, by omega⟩
    obtain ⟨x, M2, e, f⟩ := rd47 h16 N 0 n M p (by omega) (by omega)
    exact ⟨x, M2, by rw [f_X2_round_2, cs_f q, cs_h0 q, bnd_e, cs_s q, p.2.2.2.2.2.1, if_pos (nI_le (by omega) (by omega))]; exact e, f⟩
  | succ d ih =>
    intro i n M p hi hn
    have q := p.1
    obtain ⟨n, rfl⟩ : ∃ m, n = m + 1 := ⟨n - 1, by omega⟩
    obtain ⟨z, ez⟩ := has_ex (mI M 14 8) (v := i) (by omega) M
    rw [f_X2_round_2, cs_f q, cs_h0 q, bnd_e, cs_s q, p.2.2.2.2.2.1, if_neg (nI_ge (by omega) (by omega)), cs_h6 q, bnd_e, cs_a16 q, ez, obd_s]
    by_cases c : z = 0
    · rw [if_pos c, cs_i16 q (show i < 16 by omega), bnd_e, bnd_e, nI_1]
      have f1 := f30_s M (nI i).toNatClampNeg 0
      obtain ⟨x, M2, e2, f2⟩ := ih (i + 1) n _ (p.f30 f1) (by omega) (by omega)
      exact ⟨x, M2, e2, f1.tr f2⟩
    · obtain ⟨y, ey⟩ := p.aw h16 (k := i) (by omega) (n := n) (by omega)
      rw [if_neg c, ey, obd_s, cs_i16 q (show i < 16 by omega), bnd_e, bnd_e, nI_1]
      have f1 := f30_s M (nI i).toNatClampNeg y
      obtain ⟨x, M2, e2, f2⟩ := ih (i + 1) n _ (p.f30 f1) (by omega) (by omega)
      exact ⟨x, M2, e2, f1.tr f2⟩
end
/-- how many bits -/
def cb (x : Int32) : Nat := smN (fun i => if bt x i then 1 else 0) 32
theorem smN_eq {f g : Nat → Nat} : ∀ n, (∀ i, i < n → f i ≤ g i) → smN g n ≤ smN f n → ∀ i, i < n → f i = g i := by
  intro n
  induction n with
  | zero => intro _ _ i hi; omega
  | succ n ih =>
    intro h e i hi
    have e' : smN g n + g n ≤ smN f n + f n := e
    have a := smN_le n (fun i hi => h i (by omega))
    have b := h n (by omega)
    rcases Nat.lt_or_ge i n with c | c
    · exact ih (fun i hi => h i (by omega)) (by omega) i c
    · obtain rfl : i = n := by omega
      omega
theorem cb_32 (x : Int32) : cb x ≤ 32 := by
  have h := smN_le (f := fun i => if bt x i then 1 else 0) (g := fun _ => 1) 32 (fun i _ => by show (if bt x i = true then 1 else 0) ≤ 1; split <;> omega)
  rw [smN_k] at h
  exact h
theorem cb_lt {x y : Int32} (h : ∀ j, j < 32 → bt x j = true → bt y j = true) (n : y ≠ x) : cb x < cb y := by
  apply Decidable.byContradiction
  intro c
  apply n
  have le : ∀ i, i < 32 → (if bt x i = true then 1 else 0) ≤ (if bt y i = true then 1 else 0) := by
    intro i hi
    by_cases b : bt x i = true
    · rw [if_pos b, if_pos (h i hi b)]; exact Nat.le_refl _
    · rw [if_neg b]; exact Nat.zero_le _
  have e := smN_eq (f := fun i => if bt x i then 1 else 0) (g := fun i => if bt y i then 1 else 0) 32 le (by unfold cb at c; omega)
  refine b_ext fun i hi => ?_
  have : (if bt x i = true then 1 else 0 : Nat) = (if bt y i = true then 1 else 0) := e i hi
  cases b : bt x i <;> cases b' : bt y i <;> rw [b, b'] at this <;> first | rfl | (exfalso; revert this; decide)
section
variable {M : Mem} {N : Nat} {tw : Bool} {t : Int32} {S : St} {pb pt : List Row4}
theorem rc18 (r : RV M tw t S pb pt) (hN : xR S 20 0 = nI N) (h16 : N ≤ 16) {K : Nat → Int32 → Int32 → Option Int32} {v4 : Int32} (hK0 : ∃ x, K 120 v4 0 = some x) (hK1 : ∀ y, (∀ j, j < 32 → bt v4 j = true → bt y j = true) → y ≠ v4 → ∃ x, K 120 y 1 = some x) : ∀ (d i n : Nat) (v2 : Int32), i + d = N → (∀ j, j < 32 → bt v4 j = true → bt v2 j = true) → d + 30 ≤ n → ∃ x, f_X10_reached_18 K M n 120 v2 v4 (nI i) = some x := by
  intro d
  induction d with
  | zero =>
    intro i n v2 hi hs hn
    obtain ⟨n, rfl⟩ : ∃ m, n = m + 1 := ⟨n - 1, by omega⟩
    rw [f_X10_reached_18, rs_f r.1, rs_0 r.1, bnd_e, rs_fa r.1, rs_c0 r.1, cl0, r.N hN, if_pos (nI_le (by omega) (by omega))]
    by_cases c : v2 = v4
    · rw [if_pos c, c]; exact hK0
    · rw [if_neg c]; exact hK1 v2 hs c
  | succ d ih =>
    intro i n v2 hi hs hn
    obtain ⟨n, rfl⟩ : ∃ m, n = m + 1 := ⟨n - 1, by omega⟩
    obtain ⟨z, e⟩ := has10_ex v4 (v := i) (by omega) M
    have i6 : i < 16 := by omega
    obtain ⟨y, ey⟩ := r.wnw hN h16 i6 (n := n) (by omega)
    rw [f_X10_reached_18, rs_f r.1, rs_0 r.1, bnd_e, rs_fa r.1, rs_c0 r.1, cl0, r.N hN, if_neg (nI_ge (by omega) (by omega)), e, obd_s, r.get0 i6]
    simp only [obd_s, bnd_e, ey]
    rw [nI_1]
    by_cases c : z = 0
    · rw [if_pos c]; exact ih (i + 1) n v2 (by omega) hs (by omega)
    · rw [if_neg c]
      by_cases c1 : xR S 0 i = 1
      · rw [if_pos c1]
        exact ih (i + 1) n (v2 ||| y) (by omega) (fun j hj hb => by rw [b_or, hs j hj hb]; rfl) (by omega)
      · rw [if_neg c1]; exact ih (i + 1) n v2 (by omega) hs (by omega)
theorem rc8 (r : RV M tw t S pb pt) (hN : xR S 20 0 = nI N) (h16 : N ≤ 16) : ∀ (d n : Nat) (v2 v3 : Int32), 32 ≤ cb v2 + d → d + 60 ≤ n → ∃ x, f_X10_reached_8 M n 120 v2 v3 = some x := by
  intro d
  have k0 : ∀ (n : Nat) (v : Int32), 1 ≤ n → ∃ x, f_X10_reached_8 M n 120 v 0 = some x := fun n v hn => by
    obtain ⟨n, rfl⟩ : ∃ m, n = m + 1 := ⟨n - 1, by omega⟩
    exact ⟨v, by rw [f_X10_reached_8, if_pos rfl]⟩
  induction d with
  | zero =>
    intro n v2 v3 hc hn
    obtain ⟨n, rfl⟩ : ∃ m, n = m + 1 := ⟨n - 1, by omega⟩
    rw [f_X10_reached_8]
    split
    · exact ⟨_, rfl⟩
    · refine rc18 r hN h16 (k0 n v2 (by omega)) (fun y hs hy => ?_) N 0 n v2 (by omega) (fun j _ h => h) (by omega)
      have := cb_lt hs hy
      have := cb_32 y
      omega
  | succ d ih =>
    intro n v2 v3 hc hn
    obtain ⟨n, rfl⟩ : ∃ m, n = m + 1 := ⟨n - 1, by omega⟩
    rw [f_X10_reached_8]
    split
    · exact ⟨_, rfl⟩
    · refine rc18 r hN h16 (k0 n v2 (by omega)) (fun y hs hy => ?_) N 0 n v2 (by omega) (fun j _ h => h) (by omega)
      have := cb_lt hs hy
      exact ih n y 1 (by omega) (by omega)
theorem RV.rch (r : RV M tw t S pb pt) (hN : xR S 20 0 = nI N) (h16 : N ≤ 16) {k : Nat} (hk : k < 16) {n : Nat} (hn : 100 ≤ n) : ∃ x, f_X10_reached n 120 (nI k) M = some x := by
  obtain ⟨y, ey⟩ := r.wnw hN h16 hk (n := n) (by omega)
  obtain ⟨x, e⟩ := rc8 r hN h16 32 n y 1 (by omega) (by omega)
  exact ⟨x, by rw [f_X10_reached, rs_f r.1, ey, obd_s]; exact e⟩
theorem rro_l (r : RV M tw t S pb pt) (hN : xR S 20 0 = nI N) (h16 : N ≤ 16) : ∀ (d i n : Nat) (c : Int32), i + d = N → d + 101 ≤ n → ∃ z, f_X10_roundOnes_4 M n 120 c (nI i) = some z := by
  intro d
  induction d with
  | zero =>
    intro i n c hi hn
    obtain ⟨n, rfl⟩ : ∃ m, n = m + 1 := ⟨n - 1, by omega⟩
    exact ⟨c, by rw [f_X10_roundOnes_4, rs_f r.1, rs_0 r.1, bnd_e, rs_fa r.1, rs_c0 r.1, cl0, r.N hN, if_pos (nI_le (by omega) (by omega))]⟩
  | succ d ih =>
    intro i n c hi hn
    obtain ⟨n, rfl⟩ : ∃ m, n = m + 1 := ⟨n - 1, by omega⟩
    have i6 : i < 16 := by omega
    obtain ⟨y, ey⟩ := r.rch hN h16 i6 (n := n) (by omega)
    obtain ⟨z, ez⟩ := has10_ex y (v := i) (by omega) M
    rw [f_X10_roundOnes_4, rs_f r.1, rs_0 r.1, bnd_e, rs_fa r.1, rs_c0 r.1, cl0, r.N hN, if_neg (nI_ge (by omega) (by omega)), r.get0 i6]
    simp only [obd_s, bnd_e, ey, ez]
    rw [nI_1]
    split
    · split
      · exact ih (i + 1) n _ (by omega) (by omega)
      · exact ih (i + 1) n _ (by omega) (by omega)
    · exact ih (i + 1) n _ (by omega) (by omega)
end
theorem ite_ex {c : Prop} [Decidable c] {p q : Option (Int32 × Mem)} {F : Mem → Prop} (a : ∃ x M', p = some (x, M') ∧ F M') (b : ∃ x M', q = some (x, M') ∧ F M') : ∃ x M', (if c then p else q) = some (x, M') ∧ F M' := by
  by_cases h : c
  · rw [if_pos h]; exact a
  · rw [if_neg h]; exact b
theorem op31 {M : Mem} {i n : Nat} (h : WI i M) (a : Int32) (hn : 100000 ≤ n) : Oks i (f_X9_is n 0 a M) (fun M1 => f_X10_is n 120 a M1) := by
  obtain ⟨N, A, Q, S, w⟩ := h
  obtain ⟨X, Y, L, p, sb, xg, xr⟩ := id w.1
  obtain ⟨_, r, z7, sw, hQ⟩ := id w
  have h16 := sw.n16
  have h2 := sw.n2
  have q := p.1
  have key : ∃ x M1, f_X9_is n 0 a M = some (x, M1) ∧ Fr P30 M M1 := by
    have c9 : ∀ x : Option (Int32 × Mem), chk (isO M 9 0) x = x := fun x => chk_t xg.1
    have c7 : ∀ x : Option (Int32 × Mem), chk (isO M 7 1) x = x := fun x => sb.f x
    have c2 : ∀ x : Option (Int32 × Mem), chk (isO M 2 14) x = x := fun x => cs_f q x
    have c5 : ∀ x : Option (Int32 × Mem), chk (isO M 5 15) x = x := fun x => cs_p q x
    have r1 : mR M 14 1 = 15 := cs_h1 q
    have cm := p.cm sw.2.2.2.2.2.1 h16 (n := n) (by omega)
    obtain ⟨y, M1, e1, f1⟩ := rd2 h16 N 0 n M p (by omega) (by omega)
    have er : f_X2_round n 14 M = some (y, M1) := e1
    rw [f_X9_is]
    simp only [c9, c7, c2, c5, r1, xg.2.1, xg.2.2.2.1, bnd_e, cm, er, obd_s, obd2_s]
    have z : ∀ x : Int32, ∃ x' M', some (x, M) = some (x', M') ∧ Fr P30 M M' := fun x => ⟨_, M, rfl, Fr.rf _ _⟩
    exact ite_ex (z _) (ite_ex (z _) (ite_ex (z _) (ite_ex (z _) (ite_ex (z _) (ite_ex (z _) (ite_ex (z _) (ite_ex (z _) (ite_ex (z _) (ite_ex (z _) (ite_ex (z _) (ite_ex (z _) (ite_ex ⟨_, M1, rfl, f1⟩ (z _)))))))))))))
  obtain ⟨x, M1, e1, f1⟩ := key
  have o1 : ∀ o, o ≠ 4 → o ≠ 30 → ∀ b, mI M1 o b = mI M o b := fun o _ n2 b => f1.2.1 o n2 b
  have r1 := r.ow f1.1 o1
  have z1 : mI M1 120 7 = 0 := by rw [o1 120 (by decide) (by decide)]; exact z7
  have ref : ∃ y M2, f_X10_is n 120 a M1 = some (y, M2) ∧ RV M2 false 0 S [] [] ∧ FrM M1 M2 := by
    have c10 : ∀ x : Option (Int32 × Mem), chk (isO M1 10 120) x = x := fun x => rs_f r1.1 x
    have r0 : mR M1 120 0 = 121 := rs_0 r1.1
    have ca : ∀ x : Option (Int32 × Mem), chk (isO M1 100 121) x = x := fun x => rs_fa r1.1 x
    have ln : mLn M1 121 = 10465 := r1.toRK.2.2.2
    have cc : ∀ (k : Int32) (x : Option (Int32 × Mem)), inB k 10465 → chk (inB k 10465) x = x := fun k x h => chk_t h
    obtain ⟨M2, e2, r2, _, f2⟩ := r1.lay sw.n h16 sw.t (ask := 0) (sn := fun v => mI M1 125 v) z1 (fun _ _ => rfl) (n := n) (by omega)
    have em : f_X10_movesNow n 120 M1 = some (mI M2 120 6, M2) := by
      rw [f_X10_movesNow, rs_f r1.1, e2, obd_s, rs_f r2.1]
    obtain ⟨y1, i1, _⟩ := r1.insd sw.n h16 (n := n) (by omega)
    obtain ⟨y2, i2, _⟩ := r1.askg sw.n h16 (n := n) (by omega)
    have i3 := r1.bro sw.n h16 (n := n) (by omega)
    obtain ⟨y4, i4⟩ := rro_l r1 sw.n h16 N 0 n 0 (by omega) (by omega)
    have i5 : f_X10_roundOnes n 120 M1 = some y4 := i4
    have b0 : inB (0 : Int32) 10465 := by decide
    have b1 : inB (850 : Int32) 10465 := by decide
    have b2 : inB (9851 : Int32) 10465 := by decide
    have b3 : inB (9852 : Int32) 10465 := by decide
    have b4 : inB (9853 : Int32) 10465 := by decide
    have b5 : inB (9854 : Int32) 10465 := by decide
    have b6 : inB (9855 : Int32) 10465 := by decide
    have b7 : inB (9856 : Int32) 10465 := by decide
    rw [f_X10_is]
    simp only [c10, r0, ca, ln, bnd_e, em, i1, i2, i3, i5, obd_s, obd2_s, cc _ _ b0, cc _ _ b1, cc _ _ b2, cc _ _ b3, cc _ _ b4, cc _ _ b5, cc _ _ b6, cc _ _ b7]
    have z : ∀ x : Int32, ∃ x' M', some (x, M1) = some (x', M') ∧ RV M' false 0 S [] [] ∧ FrM M1 M' := fun x => ⟨_, M1, rfl, r1, FrM.rf _⟩
    exact ite_ex (z _) (ite_ex (z _) (ite_ex (z _) (ite_ex (z _) (ite_ex (z _) (ite_ex (z _) (ite_ex (z _) (ite_ex (z _) (ite_ex (z _) (ite_ex (z _) (ite_ex ⟨_, M2, rfl, r2, f2⟩ (ite_ex (z _) (ite_ex (z _) (z _)))))))))))))
  obtain ⟨y, M2, e2, r2, f2⟩ := ref
  refine ⟨x, y, M1, M2, e1, r1.1.io (by decide) (by decide) (by decide), e2, w.own f1.1 o1 r2 f2.1 (fun o ho b => f2.2.1 o (by omega) b) ?_ (fun o b => (f2.2.2.2 o b).trans (f1.2.2 o b))⟩
  rw [f2.2.2.1 7 (by decide)]; exact z1
