/-! ===== equal answers: fair ===== -/
theorem ls_eq {M : Mem} {N A j : Nat} {Q : Nat → Int32} {S : St} (w : WJ M N A j Q S) : ∀ (d v n : Nat) (X Y : Nat), X ≤ 32 → Y ≤ 32 → v + d = N → d + 1 ≤ n →
    ∃ X' Y', f_X7_leastSize_5 M n 1 (nI X) (nI v) = some (nI X') ∧ f_X7_greatestSize_4 M n 1 (nI Y) (nI v) = some (nI Y') ∧ X' ≤ X ∧ Y ≤ Y' ∧ Y' ≤ 32 ∧ (∀ u, v ≤ u → u < N → X' ≤ pc (xR S 17 u) ∧ pc (xR S 17 u) ≤ Y') ∧ (X' = X ∨ ∃ u, v ≤ u ∧ u < N ∧ X' = pc (xR S 17 u)) ∧ (Y' = Y ∨ ∃ u, v ≤ u ∧ u < N ∧ Y' = pc (xR S 17 u)) := by
  obtain ⟨_, _, L, p, sb, xg, xr⟩ := id w.1
  have h16 := w.2.2.2.1.n16
  have hB := w.2.2.2.1.bi
  intro d
  induction d with
  | zero =>
    intro v n X Y hX hY hv hn
    obtain ⟨n, rfl⟩ : ∃ m, n = m + 1 := ⟨n - 1, by omega⟩
    exact ⟨X, Y, by rw [f_X7_leastSize_5, sb.f, sb.n, if_pos (nI_le (by omega) (by omega))], by rw [f_X7_greatestSize_4, sb.f, sb.n, if_pos (nI_le (by omega) (by omega))], Nat.le_refl _, Nat.le_refl _, hY, fun u h1 h2 => by omega, Or.inl rfl, Or.inl rfl⟩
  | succ d ih =>
    intro v n X Y hX hY hv hn
    obtain ⟨n, rfl⟩ : ∃ m, n = m + 1 := ⟨n - 1, by omega⟩
    have iv : v < 16 := by omega
    have hvN : v < N := by omega
    have hv16 : v + 1 + d = N := by omega
    have cv : (nI v).toNatClampNeg = v := nI_clamp (by omega)
    have bv : mI M 2 v = xR S 17 v := sb.b (show v < N by omega)
    have eb : f_J6_bitCount_0f7a4 (xR S 17 v) M = some (nI (pc (xR S 17 v))) := f_bcx (fun u h1 h2 => hB v (by omega) u (by omega) h2) M
    have pl : pc (xR S 17 v) ≤ 32 := pc_le _
    have e1 : (if nI (pc (xR S 17 v)) < nI X then nI (pc (xR S 17 v)) else nI X) = nI (min (pc (xR S 17 v)) X) := by
      by_cases c : pc (xR S 17 v) < X
      · rw [if_pos (nI_ltx c (by omega)), Nat.min_eq_left (by omega)]
      · rw [if_neg (nI_nl (by omega) (by omega)), Nat.min_eq_right (by omega)]
    have e2 : (if nI Y < nI (pc (xR S 17 v)) then nI (pc (xR S 17 v)) else nI Y) = nI (max (pc (xR S 17 v)) Y) := by
      by_cases c : Y < pc (xR S 17 v)
      · rw [if_pos (nI_ltx c (by omega)), Nat.max_eq_left (by omega)]
      · rw [if_neg (nI_nl (by omega) (by omega)), Nat.max_eq_right (by omega)]
    obtain ⟨X', Y', a1, a2, a3, a4, a5, a6, a7, a8⟩ := ih (v + 1) n (min (pc (xR S 17 v)) X) (max (pc (xR S 17 v)) Y) (by omega) (by omega) (by omega) (by omega)
    refine ⟨X', Y', ?_, ?_, Nat.le_trans a3 (Nat.min_le_right _ _), Nat.le_trans (Nat.le_max_right _ _) a4, a5, fun u h1 h2 => ?_, ?_, ?_⟩
    · clear a7 a8
      rw [f_X7_leastSize_5, sb.f, sb.n, if_neg (nI_ge (by omega) (by omega)), sb.r2, bnd_e, sb.a2, sb.i2 iv, cv, bv, eb, obd_s, bnd_e, bnd_e, nI_1, e1]
      exact a1
    · clear a7 a8
      rw [f_X7_greatestSize_4, sb.f, sb.n, if_neg (nI_ge (by omega) (by omega)), sb.r2, bnd_e, sb.a2, sb.i2 iv, cv, bv, eb, obd_s, bnd_e, bnd_e, nI_1, e2]
      exact a2
    · rcases Nat.eq_or_lt_of_le h1 with z | z
      · subst z; exact ⟨Nat.le_trans a3 (Nat.min_le_left _ _), Nat.le_trans (Nat.le_max_left _ _) a4⟩
      · exact a6 u z h2
    · rcases a7 with z | ⟨u, u1, u2, u3⟩
      · by_cases c : pc (xR S 17 v) ≤ X
        · exact Or.inr ⟨v, Nat.le_refl _, hvN, z.trans (Nat.min_eq_left c)⟩
        · exact Or.inl (z.trans (Nat.min_eq_right (Nat.le_of_lt (Nat.lt_of_not_le c))))
      · exact Or.inr ⟨u, Nat.le_of_succ_le u1, u2, u3⟩
    · rcases a8 with z | ⟨u, u1, u2, u3⟩
      · by_cases c : Y ≤ pc (xR S 17 v)
        · exact Or.inr ⟨v, Nat.le_refl _, hvN, z.trans (Nat.max_eq_left c)⟩
        · exact Or.inl (z.trans (Nat.max_eq_right (Nat.le_of_lt (Nat.lt_of_not_le c))))
      · exact Or.inr ⟨u, Nat.le_of_succ_le u1, u2, u3⟩
theorem ldx_eq {M : Mem} {N A j : Nat} {Q : Nat → Int32} {S : St} (w : WJ M N A j Q S) {k n m : Nat} (hk : k < N) (hn : 20 ≤ n) (hm : 20 ≤ m) : ∃ r, f_X7_loadOf n 1 (nI k) M = some r ∧ f_X10_load m 120 (nI k) M = some r := by
  have h16 := w.2.2.2.1.n16
  have hN := w.2.2.2.1.n
  obtain ⟨x, e1, e2⟩ := ld_eq w (k := k) (by omega) N 0 n m 0 (by omega) (by omega) (by omega)
  exact ⟨x, by rw [f_X7_loadOf]; exact e1, by rw [f_X10_load, rs_f w.2.1.1, ndr w.2.1 hN hk h16, obd_s, if_neg ne10]; exact e2⟩
theorem fr_eq {M : Mem} {N A j : Nat} {Q : Nat → Int32} {S : St} (w : WJ M N A j Q S) (hP : ∀ u, u < N → pc (xR S 17 u) = pc (xR S 17 0)) : ∀ (d v n m : Nat), v + d = N → d + 21 ≤ n → d + 101 ≤ m → ∃ r, (r = 0 ∨ r = 1) ∧ f_X7_sameLoads_2 M n 1 (nI v) = some r ∧ f_X10_fair_2 M m 120 (nI v) = some r := by
  obtain ⟨X, Y, L, p, sb, xg, xr⟩ := id w.1
  have h16 := w.2.2.2.1.n16
  have h2 := w.2.2.2.1.n2
  have hN := w.2.2.2.1.n
  have hB := w.2.2.2.1.bi
  have r := w.2.1
  intro d
  induction d with
  | zero =>
    intro v n m hv hn hm
    obtain ⟨n, rfl⟩ : ∃ m, n = m + 1 := ⟨n - 1, by omega⟩
    obtain ⟨m, rfl⟩ : ∃ k, m = k + 1 := ⟨m - 1, by omega⟩
    exact ⟨1, Or.inr rfl, by rw [f_X7_sameLoads_2, sb.f, sb.n, if_pos (nI_le (by omega) (by omega))], by rw [f_X10_fair_2, rs_f r.1, rs_0 r.1, bnd_e, rs_fa r.1, rs_c0 r.1, cl0, r.N hN, if_pos (nI_le (by omega) (by omega))]⟩
  | succ d ih =>
    intro v n m hv hn hm
    obtain ⟨n, rfl⟩ : ∃ m, n = m + 1 := ⟨n - 1, by omega⟩
    obtain ⟨m, rfl⟩ : ∃ k, m = k + 1 := ⟨m - 1, by omega⟩
    have m1 : f_X10_many m (xR S 17 v) M = some (nI (pc (xR S 17 v))) := f_many (fun u h1 h2 => hB v (by omega) u (by omega) h2) (by omega) M
    have m0 : f_X10_many m (xR S 17 0) M = some (nI (pc (xR S 17 0))) := f_many (fun u h1 h2 => hB 0 (by omega) u (by omega) h2) (by omega) M
    have b0 : f_X10_baseOf 120 (0 : Int32) M = some (xR S 17 0) := r.base (v := 0) (by decide)
    obtain ⟨l1, c1, d1⟩ := ldx_eq w (k := v) (n := n) (m := m) (by omega) (by omega) (by omega)
    obtain ⟨l0, c0, d0⟩ := ldx_eq w (k := 0) (n := n) (m := m) (by omega) (by omega) (by omega)
    have c0' : f_X7_loadOf n 1 (0 : Int32) M = some l0 := c0
    have d0' : f_X10_load m 120 (0 : Int32) M = some l0 := d0
    rw [f_X7_sameLoads_2, sb.f, sb.n, if_neg (nI_ge (by omega) (by omega)), c1, obd_s, c0', obd_s]
    simp only [bnd_e]
    rw [f_X10_fair_2, rs_f r.1, rs_0 r.1, bnd_e, rs_fa r.1, rs_c0 r.1, cl0, r.N hN, if_neg (nI_ge (by omega) (by omega)), r.base (v := v) (by omega), obd_s, m1, obd_s, b0, obd_s, m0, obd_s, hP v (by omega), if_pos rfl, d1, obd_s, d0', obd_s]
    simp only [bnd_e]
    rw [nI_1]
    by_cases z : l1 = l0
    · rw [if_pos z, if_pos z]
      exact ih (v + 1) n m (by omega) (by omega) (by omega)
    · exact ⟨0, Or.inl rfl, by rw [if_neg z], by rw [if_neg z]⟩
theorem fr_no {M : Mem} {N A j : Nat} {Q : Nat → Int32} {S : St} (w : WJ M N A j Q S) {u : Nat} (hu : u < N) (hP : pc (xR S 17 u) ≠ pc (xR S 17 0)) : ∀ (d v m : Nat), v + d = u → u + 120 ≤ m + v → f_X10_fair_2 M m 120 (nI v) = some 0 := by
  obtain ⟨X, Y, L, p, sb, xg, xr⟩ := id w.1
  have h16 := w.2.2.2.1.n16
  have h2 := w.2.2.2.1.n2
  have hN := w.2.2.2.1.n
  have hB := w.2.2.2.1.bi
  have r := w.2.1
  have b0 : f_X10_baseOf 120 (0 : Int32) M = some (xR S 17 0) := r.base (v := 0) (by decide)
  intro d
  induction d with
  | zero =>
    intro v m hv hm
    obtain ⟨m, rfl⟩ : ∃ k, m = k + 1 := ⟨m - 1, by omega⟩
    obtain rfl : v = u := by omega
    have m1 : f_X10_many m (xR S 17 v) M = some (nI (pc (xR S 17 v))) := f_many (fun u h1 h2 => hB v (by omega) u (by omega) h2) (by omega) M
    have m0 : f_X10_many m (xR S 17 0) M = some (nI (pc (xR S 17 0))) := f_many (fun u h1 h2 => hB 0 (by omega) u (by omega) h2) (by omega) M
    have q1 := pc_le (xR S 17 v)
    have q0 := pc_le (xR S 17 0)
    rw [f_X10_fair_2, rs_f r.1, rs_0 r.1, bnd_e, rs_fa r.1, rs_c0 r.1, cl0, r.N hN, if_neg (nI_ge (by omega) (by omega)), r.base (v := v) (by omega), obd_s, m1, obd_s, b0, obd_s, m0, obd_s, if_neg (nI_ne (by omega) (by omega) hP)]
  | succ d ih =>
    intro v m hv hm
    obtain ⟨m, rfl⟩ : ∃ k, m = k + 1 := ⟨m - 1, by omega⟩
    have m1 : f_X10_many m (xR S 17 v) M = some (nI (pc (xR S 17 v))) := f_many (fun u h1 h2 => hB v (by omega) u (by omega) h2) (by omega) M
    have m0 : f_X10_many m (xR S 17 0) M = some (nI (pc (xR S 17 0))) := f_many (fun u h1 h2 => hB 0 (by omega) u (by omega) h2) (by omega) M
    obtain ⟨l1, c1, d1⟩ := ldx_eq w (k := v) (n := m) (m := m) (by omega) (by omega) (by omega)
    obtain ⟨l0, c0, d0⟩ := ldx_eq w (k := 0) (n := m) (m := m) (by omega) (by omega) (by omega)
    have d0' : f_X10_load m 120 (0 : Int32) M = some l0 := d0
    have nx := ih (v + 1) m (by omega) (by omega)
    rw [f_X10_fair_2, rs_f r.1, rs_0 r.1, bnd_e, rs_fa r.1, rs_c0 r.1, cl0, r.N hN, if_neg (nI_ge (by omega) (by omega)), r.base (v := v) (by omega), obd_s, m1, obd_s, b0, obd_s, m0, obd_s, d1, obd_s, d0', obd_s, bnd_e, nI_1, nx]
    split
    · split
      · rfl
      · rfl
    · rfl
theorem eq19 {M : Mem} {i n : Nat} (h : WI i M) (hn : 100000 ≤ n) : ∃ r, f_X9_fair n 0 M = some r ∧ f_X10_fair n 120 M = some r := by
  obtain ⟨N, A, Q, S, w⟩ := h
  obtain ⟨_, _, L, p, sb, xg, xr⟩ := id w.1
  have h16 := w.2.2.2.1.n16
  have h2 := w.2.2.2.1.n2
  have hB := w.2.2.2.1.bi
  obtain ⟨X', Y', a1, a2, a3, a4, a5, a6, a7, a8⟩ := ls_eq w N 0 n 16 0 (by decide) (by decide) (by omega) (by omega)
  have q16 : ∀ u, u < N → pc (xR S 17 u) ≤ 16 := fun u hu => Nat.le_trans (pc_lj (j := 16) (by decide) (fun i h1 h2 => hB u hu i (by omega) h2)) (Nat.le_refl _)
  have C : ∀ x, (if nI X' = nI Y' then (obd (f_X7_sameLoads n 1 M) fun r18 => if r18 = 0 then some (0 : Int32) else some (1 : Int32)) else some (0 : Int32)) = x → f_X9_fair n 0 M = x := fun x e => by
    rw [f_X9_fair, chk_t xg.1, xg.2.1, bnd_e, sb.f, f_X7_leastSize, show f_X7_leastSize_5 M n 1 16 0 = some (nI X') from a1, obd_s, bnd_e, sb.f, f_X7_greatestSize, show f_X7_greatestSize_4 M n 1 0 0 = some (nI Y') from a2, obd_s, bnd_e, sb.f]
    exact e
  by_cases hP : ∀ u, u < N → pc (xR S 17 u) = pc (xR S 17 0)
  · have p0 := q16 0 (by omega)
    have b0 := a6 0 (Nat.zero_le _) (by omega)
    have eX : X' = pc (xR S 17 0) := by
      rcases a7 with z | ⟨u, _, u2, u3⟩
      · omega
      · rw [u3, hP u u2]
    have eY : Y' = pc (xR S 17 0) := by
      rcases a8 with z | ⟨u, _, u2, u3⟩
      · omega
      · rw [u3, hP u u2]
    obtain ⟨r, hr, e1, e2⟩ := fr_eq w hP (N - 1) 1 n n (by omega) (by omega) (by omega)
    refine ⟨r, C _ ?_, e2⟩
    rw [eX, eY, if_pos rfl, f_X7_sameLoads, show f_X7_sameLoads_2 M n 1 1 = some r from e1, obd_s]
    rcases hr with z | z
    · rw [z, if_pos rfl]
    · rw [z, if_neg ne10]
  · obtain ⟨u, hu⟩ := Classical.not_forall.mp hP
    obtain ⟨hu1, hu2⟩ := Classical.not_imp.mp hu
    have u0 : 1 ≤ u := by
      rcases Nat.eq_zero_or_pos u with z | z
      · exfalso; apply hu2; rw [z]
      · exact z
    have b0 := a6 0 (Nat.zero_le _) (by omega)
    have bu := a6 u (Nat.zero_le _) hu1
    have ne : X' ≠ Y' := fun z => hu2 (by omega)
    have e2 := fr_no w hu1 hu2 (u - 1) 1 n (by omega) (by omega)
    exact ⟨0, C _ (by rw [if_neg (nI_ne (by omega) (by omega) ne)]), e2⟩
