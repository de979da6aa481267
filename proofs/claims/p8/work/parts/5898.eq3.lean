/-! ===== equal answers: load, waitsFor ===== -/
theorem ld_eq {M : Mem} {N A j : Nat} {Q : Nat → Int32} {S : St} (w : WJ M N A j Q S) {k : Nat} (hk : k < 32) : ∀ (d v n m : Nat) (c : Int32), v + d = N → d + 1 ≤ n → d + 1 ≤ m → ∃ r, f_X7_loadOf_4 M n 1 (nI k) c (nI v) = some r ∧ f_X10_load_14 M m 120 (nI k) c (nI v) = some r := by
  obtain ⟨X, Y, L, p, sb, xg, xr⟩ := id w.1
  have h16 := w.2.2.2.1.n16
  have hN := w.2.2.2.1.n
  have r := w.2.1
  intro d
  induction d with
  | zero =>
    intro v n m c hv hn hm
    obtain ⟨n, rfl⟩ : ∃ m, n = m + 1 := ⟨n - 1, by omega⟩
    obtain ⟨m, rfl⟩ : ∃ k, m = k + 1 := ⟨m - 1, by omega⟩
    exact ⟨c, by rw [f_X7_loadOf_4, sb.f, sb.n, if_pos (nI_le (by omega) (by omega))], by rw [f_X10_load_14, rs_f r.1, rs_0 r.1, bnd_e, rs_fa r.1, rs_c0 r.1, cl0, r.N hN, if_pos (nI_le (by omega) (by omega))]⟩
  | succ d ih =>
    intro v n m c hv hn hm
    obtain ⟨n, rfl⟩ : ∃ m, n = m + 1 := ⟨n - 1, by omega⟩
    obtain ⟨m, rfl⟩ : ∃ k, m = k + 1 := ⟨m - 1, by omega⟩
    rw [f_X7_loadOf_4, sb.f, sb.n, if_neg (nI_ge (by omega) (by omega)), sb.r2, bnd_e, sb.a2, sb.i2 (by omega), nI_clamp (show v < 2 ^ 31 by omega), sb.b (show v < N by omega), f_has9 _ hk, obd_s]
    simp only [bnd_e]
    rw [f_X10_load_14, rs_f r.1, rs_0 r.1, bnd_e, rs_fa r.1, rs_c0 r.1, cl0, r.N hN, if_neg (nI_ge (by omega) (by omega)), r.base (by omega), obd_s, f_has10 _ hk, obd_s]
    simp only [bnd_e]
    rw [nI_1]
    by_cases z : bt (xR S 17 v) k = true
    · rw [if_pos z, if_neg ne10, if_neg ne10]
      exact ih (v + 1) n m _ (by omega) (by omega) (by omega)
    · rw [if_neg z, if_pos rfl, if_pos rfl, Int32.add_zero]
      exact ih (v + 1) n m _ (by omega) (by omega) (by omega)
theorem eq11 {M : Mem} {i n : Nat} (h : WI i M) (a : Int32) (hn : 100000 ≤ n) : ∃ r, f_X9_load n 0 a M = some r ∧ f_X10_load n 120 a M = some r := by
  obtain ⟨N, A, Q, S, w⟩ := h
  obtain ⟨X, Y, L, p, sb, xg, xr⟩ := id w.1
  have h16 := w.2.2.2.1.n16
  have h2 := w.2.2.2.1.n2
  have hN := w.2.2.2.1.n
  have r := w.2.1
  rcases out_in (N := N) (by omega) a with ha | ⟨k, hk, rfl⟩
  · exact ⟨-1, by rw [f_X9_load, chk_t xg.1, xg.2.1, bnd_e, sb.f, ndc0 sb ha, obd_s, if_pos rfl], by rw [f_X10_load, rs_f r.1, ndr0 r hN (by omega) h16 ha, obd_s, if_pos rfl]⟩
  · obtain ⟨x, e1, e2⟩ := ld_eq w (k := k) (by omega) N 0 n n 0 (by omega) (by omega) (by omega)
    exact ⟨x, by rw [f_X9_load, chk_t xg.1, xg.2.1, bnd_e, sb.f, ndc sb hk h16, obd_s, if_neg ne10, bnd_e, sb.f, f_X7_loadOf, show f_X7_loadOf_4 M n 1 (nI k) 0 0 = some x from e1, obd_s], by rw [f_X10_load, rs_f r.1, ndr r hN hk h16, obd_s, if_neg ne10]; exact e2⟩
theorem ob_off (c : Int32) {k : Nat} (hk : k < 32) : (c ||| ((1 : Int32) <<< (nI k &&& 31))) &&& (((1 : Int32) <<< (nI k &&& 31)) ^^^ (-1 : Int32)) = c &&& (((1 : Int32) <<< (nI k &&& 31)) ^^^ (-1 : Int32)) := by
  apply b_ext
  intro i hi
  rw [bt_minus _ _ hi, bt_minus _ _ hi, b_or]
  cases bt c i <;> cases bt ((1 : Int32) <<< (nI k &&& 31)) i <;> rfl
theorem ob_on (c : Int32) {k g : Nat} (hk : k < 32) (hg : g < 32) (h : g ≠ k) : (c ||| ((1 : Int32) <<< (nI g &&& 31))) &&& (((1 : Int32) <<< (nI k &&& 31)) ^^^ (-1 : Int32)) = (c &&& (((1 : Int32) <<< (nI k &&& 31)) ^^^ (-1 : Int32))) ||| ((1 : Int32) <<< (nI g &&& 31)) := by
  apply b_ext
  intro i hi
  rw [bt_minus _ _ hi, b_or, b_or, bt_minus _ _ hi, b_one hk hi, b_one hg hi]
  by_cases c1 : i = g
  · have c2 : ¬ i = k := fun z => h (c1 ▸ z)
    rw [decide_eq_true c1, decide_eq_false c2]
    cases bt c i <;> rfl
  · rw [decide_eq_false c1]
    cases bt c i <;> cases decide (i = k) <;> rfl
theorem aw_eq {M : Mem} {N A j : Nat} {Q : Nat → Int32} {S : St} (w : WJ M N A j Q S) {k : Nat} (hk : k < N) : ∀ (d v n m : Nat) (c : Int32), v + d = N → d + 1 ≤ n → d + 1 ≤ m → ∃ r, f_X2_awaitedBy_12 M n 14 (nI k) (14 + 17 + 2 * k) c (nI v) = some r ∧ f_X10_waitsNow_21 M m 120 (nI k) (c &&& (((1 : Int32) <<< (nI k &&& 31)) ^^^ (-1 : Int32))) (xR S 3 k &&& (xR S 4 k ^^^ (-1 : Int32))) (nI v) = some r := by
  obtain ⟨X, Y, L, p, sb, xg, xr⟩ := id w.1
  have h16 := w.2.2.2.1.n16
  have hN := w.2.2.2.1.n
  have q := p.1
  have r := w.2.1
  have f2 : mI M (14 + 17 + 2 * k) 2 = xR S 3 k := (p.2.2.1.1 k (by omega)).1 (2, 3) (by decide)
  have f3 : mI M (14 + 17 + 2 * k) 3 = xR S 4 k := (p.2.2.1.1 k (by omega)).1 (3, 4) (by decide)
  intro d
  induction d with
  | zero =>
    intro v n m c hv hn hm
    obtain ⟨n, rfl⟩ : ∃ m, n = m + 1 := ⟨n - 1, by omega⟩
    obtain ⟨m, rfl⟩ : ∃ k, m = k + 1 := ⟨m - 1, by omega⟩
    exact ⟨_, by rw [f_X2_awaitedBy_12, cs_f q, cs_h0 q, bnd_e, cs_s q, p.2.2.2.2.2.1, if_pos (nI_le (by omega) (by omega))], by rw [f_X10_waitsNow_21, rs_f r.1, rs_0 r.1, bnd_e, rs_fa r.1, rs_c0 r.1, cl0, r.N hN, if_pos (nI_le (by omega) (by omega))]⟩
  | succ d ih =>
    intro v n m c hv hn hm
    obtain ⟨n, rfl⟩ : ∃ m, n = m + 1 := ⟨n - 1, by omega⟩
    obtain ⟨m, rfl⟩ : ∃ k, m = k + 1 := ⟨m - 1, by omega⟩
    have v6 : v < 16 := by omega
    have f6 : mI M (14 + 17 + 2 * v) 6 = xR S 8 v := (p.2.2.1.1 v v6).1 (6, 8) (by decide)
    rw [f_X2_awaitedBy_12, cs_f q, cs_h0 q, bnd_e, cs_s q, p.2.2.2.2.2.1, if_neg (nI_ge (by omega) (by omega)), cs_po q (show k < 16 by omega), f2, f3, f_has9 _ (by omega), obd_s]
    simp only [bnd_e]
    rw [f_X10_waitsNow_21, rs_f r.1, rs_0 r.1, bnd_e, rs_fa r.1, rs_c0 r.1, cl0, r.N hN, if_neg (nI_ge (by omega) (by omega)), f_has10 _ (by omega), obd_s, r.of0 v6]
    simp only [obd_s, bnd_e]
    rw [nI_1]
    by_cases z : bt (xR S 3 k &&& (xR S 4 k ^^^ (-1 : Int32))) v = true
    · rw [if_pos z, if_neg ne10, if_neg ne10]
      rw [cs_h2 q, cs_a10 q, cs_i10 q v6, cs_rpc q v6, cs_po q v6, f6]
      rcases (w.2.2.2.1.inv.2.2.2.2.2.1 v v6).2.2 with ⟨g0, _⟩ | ⟨g, hg, g0, _⟩
      · rw [if_pos g0, if_pos g0]
        exact ih (v + 1) n m c (by omega) (by omega) (by omega)
      · have gn : ¬ xR S 8 v = -1 := by rw [g0]; exact nI_m1 (by omega)
        rw [if_neg gn, if_neg gn, cs_a10 q, cs_i10 q v6, cs_po q v6, g0]
        by_cases gk : g = k
        · rw [gk, if_pos rfl]
          have e := ih (v + 1) n m (c ||| ((1 : Int32) <<< (nI k &&& 31))) (by omega) (by omega) (by omega)
          rw [ob_off c (show k < 32 by omega)] at e
          exact e
        · rw [if_neg (nI_ne (by omega) (by omega) gk)]
          have e := ih (v + 1) n m (c ||| ((1 : Int32) <<< (nI g &&& 31))) (by omega) (by omega) (by omega)
          rw [ob_on c (show k < 32 by omega) (show g < 32 by omega) gk] at e
          exact e
    · rw [if_neg z, if_pos rfl, if_pos rfl]
      exact ih (v + 1) n m c (by omega) (by omega) (by omega)
theorem eq35 {M : Mem} {i n : Nat} (h : WI i M) (a : Int32) (hn : 100000 ≤ n) : ∃ r, f_X9_waitsFor n 0 a M = some r ∧ f_X10_waitsFor n 120 a M = some r := by
  obtain ⟨N, A, Q, S, w⟩ := h
  obtain ⟨X, Y, L, p, sb, xg, xr⟩ := id w.1
  have h16 := w.2.2.2.1.n16
  have h2 := w.2.2.2.1.n2
  have hN := w.2.2.2.1.n
  have q := p.1
  have r := w.2.1
  rcases out_in (N := N) (by omega) a with ha | ⟨k, hk, rfl⟩
  · exact ⟨-1, by rw [f_X9_waitsFor, chk_t xg.1, xg.2.1, bnd_e, sb.f, ndc0 sb ha, obd_s, if_pos rfl], by rw [f_X10_waitsFor, rs_f r.1, ndr0 r hN (by omega) h16 ha, obd_s, if_pos rfl]⟩
  · have k6 : k < 16 := by omega
    have s8 := (has_st p (k := k) k6).2.1
    obtain ⟨x, e1, e2⟩ := aw_eq w hk N 0 n n 0 (by omega) (by omega) (by omega)
    rw [Int32.zero_and] at e2
    by_cases z : xR S 0 k = 1
    · rw [if_pos z] at s8
      refine ⟨x, ?_, ?_⟩
      · rw [f_X9_waitsFor, chk_t xg.1, xg.2.1, bnd_e, sb.f, ndc sb hk h16, obd_s, if_neg ne10, xg.2.2.2.1, bnd_e, cs_f q, s8, obd_s, if_neg ne10, bnd_e, cs_f q, f_X2_awaitedBy, cs_f q, cs_h2 q, bnd_e, cs_a10 q, cs_i10 q k6, cs_rpc q k6, bnd_e, cs_po q k6, show f_X2_awaitedBy_12 M n 14 (nI k) (14 + 17 + 2 * k) 0 0 = some x from e1, obd_s]
      · rw [f_X10_waitsFor, rs_f r.1, ndr r hN hk h16, obd_s, if_neg ne10, r.get0 k6, obd_s, if_pos z, f_X10_waitsNow, rs_f r.1, r.get3 k6, obd_s, r.get4 k6, obd_s, bnd_e, show f_X10_waitsNow_21 M n 120 (nI k) 0 (xR S 3 k &&& (xR S 4 k ^^^ (-1 : Int32))) 0 = some x from e2, obd_s]
    · rw [if_neg z] at s8
      refine ⟨-1, ?_, ?_⟩
      · rw [f_X9_waitsFor, chk_t xg.1, xg.2.1, bnd_e, sb.f, ndc sb hk h16, obd_s, if_neg ne10, xg.2.2.2.1, bnd_e, cs_f q, s8, obd_s, if_pos rfl]
      · rw [f_X10_waitsFor, rs_f r.1, ndr r hN hk h16, obd_s, if_neg ne10, r.get0 k6, obd_s, if_neg z]
