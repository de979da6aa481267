/-! ===== equal answers: needless, sizes ===== -/
theorem nl_eq {M : Mem} {N A j : Nat} {Q : Nat → Int32} {S : St} (w : WJ M N A j Q S) {k : Nat} (hk : k < N) : ∀ (d v n m : Nat), v + d = N → d + 1 ≤ n → d + 1 ≤ m → ∃ r, f_X7_isNeedless_2 M n 1 (nI k) (nI v) = some r ∧ f_X10_isNeedless_2 M m 120 (nI k) (nI v) = some r := by
  obtain ⟨X, Y, L, p, sb, xg, xr⟩ := id w.1
  have h16 := w.2.2.2.1.n16
  have hN := w.2.2.2.1.n
  have r := w.2.1
  intro d
  induction d with
  | zero =>
    intro v n m hv hn hm
    obtain ⟨n, rfl⟩ : ∃ m, n = m + 1 := ⟨n - 1, by omega⟩
    obtain ⟨m, rfl⟩ : ∃ k, m = k + 1 := ⟨m - 1, by omega⟩
    exact ⟨0, by rw [f_X7_isNeedless_2, sb.f, sb.n, if_pos (nI_le (by omega) (by omega))], by rw [f_X10_isNeedless_2, rs_f r.1, rs_0 r.1, bnd_e, rs_fa r.1, rs_c0 r.1, cl0, r.N hN, if_pos (nI_le (by omega) (by omega))]⟩
  | succ d ih =>
    intro v n m hv hn hm
    obtain ⟨n, rfl⟩ : ∃ m, n = m + 1 := ⟨n - 1, by omega⟩
    obtain ⟨m, rfl⟩ : ∃ k, m = k + 1 := ⟨m - 1, by omega⟩
    have nx := ih (v + 1) n m (by omega) (by omega) (by omega)
    have iv : v < 16 := by omega
    have ik : k < 16 := by omega
    have cv : (nI v).toNatClampNeg = v := nI_clamp (by omega)
    have ck : (nI k).toNatClampNeg = k := nI_clamp (by omega)
    have bv : mI M 2 v = xR S 17 v := sb.b (show v < N by omega)
    have bk : mI M 2 k = xR S 17 k := sb.b hk
    have e0 : f_X7_isNeedless_38 (f_X7_isNeedless_2 M n) M n 1 (nI k) (nI v) 0 = f_X7_isNeedless_2 M n 1 (nI k) (nI (v + 1)) := by
      rw [f_X7_isNeedless_38, if_pos rfl, bnd_e, nI_1]
    have e1 : f_X7_isNeedless_38 (f_X7_isNeedless_2 M n) M n 1 (nI k) (nI v) 1 = if xR S 17 v = xR S 17 k then (if nI k ≤ nI v then f_X7_isNeedless_2 M n 1 (nI k) (nI (v + 1)) else some 1) else some 1 := by
      rw [f_X7_isNeedless_38, if_neg ne10, sb.f, sb.r2, bnd_e, sb.a2, sb.i2 iv, bnd_e, sb.a2, sb.i2 ik, cv, ck, bv, bk, bnd_e, nI_1]
    rw [f_X7_isNeedless_2, sb.f, sb.n, if_neg (nI_ge (by omega) (by omega))]
    simp only [bnd_e]
    rw [f_X10_isNeedless_2, rs_f r.1, rs_0 r.1, bnd_e, rs_fa r.1, rs_c0 r.1, cl0, r.N hN, if_neg (nI_ge (by omega) (by omega)), r.base (v := v) iv, obd_s, r.base (v := k) ik, obd_s]
    simp only [obd_s, bnd_e]
    rw [nI_1]
    by_cases z : nI v = nI k
    · rw [if_pos z, if_pos z, e0]
      exact nx
    · rw [if_neg z, if_neg z, sb.r2, sb.a2, sb.i2 iv, sb.a2, sb.i2 ik, cv, ck, bv, bk, e0, e1]
      by_cases y : (xR S 17 v &&& (xR S 17 k ^^^ (-1 : Int32))) = 0
      · rw [if_pos y, if_pos y]
        by_cases y1 : xR S 17 v = xR S 17 k
        · rw [if_pos y1, if_pos y1]
          by_cases y2 : nI k ≤ nI v
          · rw [if_pos y2, if_pos y2]
            exact nx
          · exact ⟨1, by rw [if_neg y2], by rw [if_neg y2]⟩
        · exact ⟨1, by rw [if_neg y1], by rw [if_neg y1]⟩
      · rw [if_neg y, if_neg y]
        exact nx
theorem nc_eq {M : Mem} {N A j : Nat} {Q : Nat → Int32} {S : St} (w : WJ M N A j Q S) : ∀ (d v n m : Nat) (c : Int32), v + d = N → d + 21 ≤ n → d + 21 ≤ m → ∃ r, f_X7_countNeedless_4 M n 1 c (nI v) = some r ∧ f_X10_needless_4 M m 120 c (nI v) = some r := by
  obtain ⟨X, Y, L, p, sb, xg, xr⟩ := id w.1
  have h16 := w.2.2.2.1.n16
  have hN := w.2.2.2.1.n
  have r := w.2.1
  intro d
  induction d with
  | zero =>
    intro v n m c hv hn hm
    obtain ⟨n, rfl⟩ : ∃ m, n = m + 1 := ⟨n - 1, by omega⟩
    obtain ⟨m, rfl⟩ : ∃ k, m = k + 1 := ⟨m - 1, by omega⟩
    exact ⟨c, by rw [f_X7_countNeedless_4, sb.f, sb.n, if_pos (nI_le (by omega) (by omega))], by rw [f_X10_needless_4, rs_f r.1, rs_0 r.1, bnd_e, rs_fa r.1, rs_c0 r.1, cl0, r.N hN, if_pos (nI_le (by omega) (by omega))]⟩
  | succ d ih =>
    intro v n m c hv hn hm
    obtain ⟨n, rfl⟩ : ∃ m, n = m + 1 := ⟨n - 1, by omega⟩
    obtain ⟨m, rfl⟩ : ∃ k, m = k + 1 := ⟨m - 1, by omega⟩
    obtain ⟨z, e1, e2⟩ := nl_eq w (k := v) (by omega) N 0 n m (by omega) (by omega) (by omega)
    rw [f_X7_countNeedless_4, sb.f, sb.n, if_neg (nI_ge (by omega) (by omega)), f_X7_isNeedless, show f_X7_isNeedless_2 M n 1 (nI v) 0 = some z from e1, obd_s]
    simp only [bnd_e]
    rw [f_X10_needless_4, rs_f r.1, rs_0 r.1, bnd_e, rs_fa r.1, rs_c0 r.1, cl0, r.N hN, if_neg (nI_ge (by omega) (by omega)), f_X10_isNeedless, show f_X10_isNeedless_2 M m 120 (nI v) 0 = some z from e2, obd_s]
    simp only [bnd_e]
    rw [nI_1]
    by_cases y : z = 0
    · rw [if_pos y, if_pos y, Int32.add_zero]
      exact ih (v + 1) n m _ (by omega) (by omega) (by omega)
    · rw [if_neg y, if_neg y]
      exact ih (v + 1) n m _ (by omega) (by omega) (by omega)
theorem eq14 {M : Mem} {i n : Nat} (h : WI i M) (hn : 100000 ≤ n) : ∃ r, f_X9_needless n 0 M = some r ∧ f_X10_needless n 120 M = some r := by
  obtain ⟨N, A, Q, S, w⟩ := h
  obtain ⟨X, Y, L, p, sb, xg, xr⟩ := id w.1
  have h16 := w.2.2.2.1.n16
  obtain ⟨x, e1, e2⟩ := nc_eq w N 0 n n 0 (by omega) (by omega) (by omega)
  exact ⟨x, by rw [f_X9_needless, chk_t xg.1, xg.2.1, bnd_e, sb.f, f_X7_countNeedless, show f_X7_countNeedless_4 M n 1 0 0 = some x from e1, obd_s], e2⟩
theorem sz_eq {M : Mem} {N A j : Nat} {Q : Nat → Int32} {S : St} (w : WJ M N A j Q S) : ∀ (d v n m : Nat) (x y c : Int32), v + d = N → d + 1 ≤ n → d + 60 ≤ m → (∀ u, N ≤ u → u < 32 → bt c u = false) →
    ∃ x' y' c', f_X7_leastSize_5 M n 1 x (nI v) = some x' ∧ f_X7_greatestSize_4 M n 1 y (nI v) = some y' ∧ f_X7_common_7 M n 1 c (nI v) = some c' ∧ (∀ u, N ≤ u → u < 32 → bt c' u = false) ∧ ∀ a : Int32, f_X10_sizes_25 M m 120 a x y c (nI v) = (if a = 0 then some x' else if a = (1 : Int32) then some y' else some (nI (pc c'))) := by
  obtain ⟨X, Y, L, p, sb, xg, xr⟩ := id w.1
  have h16 := w.2.2.2.1.n16
  have hN := w.2.2.2.1.n
  have hB := w.2.2.2.1.bi
  have r := w.2.1
  intro d
  induction d with
  | zero =>
    intro v n m x y c hv hn hm hc
    obtain ⟨n, rfl⟩ : ∃ m, n = m + 1 := ⟨n - 1, by omega⟩
    obtain ⟨m, rfl⟩ : ∃ k, m = k + 1 := ⟨m - 1, by omega⟩
    refine ⟨x, y, c, by rw [f_X7_leastSize_5, sb.f, sb.n, if_pos (nI_le (by omega) (by omega))], by rw [f_X7_greatestSize_4, sb.f, sb.n, if_pos (nI_le (by omega) (by omega))], by rw [f_X7_common_7, sb.f, sb.n, if_pos (nI_le (by omega) (by omega))], hc, fun a => ?_⟩
    rw [f_X10_sizes_25, rs_f r.1, rs_0 r.1, bnd_e, rs_fa r.1, rs_c0 r.1, cl0, r.N hN, if_pos (nI_le (by omega) (by omega)), f_many (fun u h1 h2 => hc u (by omega) h2) (by omega) M, obd_s]
  | succ d ih =>
    intro v n m x y c hv hn hm hc
    obtain ⟨n, rfl⟩ : ∃ m, n = m + 1 := ⟨n - 1, by omega⟩
    obtain ⟨m, rfl⟩ : ∃ k, m = k + 1 := ⟨m - 1, by omega⟩
    have iv : v < 16 := by omega
    have cv : (nI v).toNatClampNeg = v := nI_clamp (by omega)
    have bv : mI M 2 v = xR S 17 v := sb.b (show v < N by omega)
    have eb : f_J6_bitCount_0f7a4 (xR S 17 v) M = some (nI (pc (xR S 17 v))) := f_bcx (fun u h1 h2 => hB v (by omega) u (by omega) h2) M
    have em : f_X10_many m (xR S 17 v) M = some (nI (pc (xR S 17 v))) := f_many (fun u h1 h2 => hB v (by omega) u (by omega) h2) (by omega) M
    have b := r.base (v := v) iv
    generalize nI (pc (xR S 17 v)) = z at eb em
    obtain ⟨x', y', c', e1, e2, e3, hc', e4⟩ := ih (v + 1) n m (if z < x then z else x) (if y < z then z else y) (c &&& xR S 17 v) (by omega) (by omega) (by omega) (fun u h1 h2 => by rw [b_and, hc u h1 h2, Bool.false_and])
    refine ⟨x', y', c', ?_, ?_, ?_, hc', fun a => ?_⟩
    · rw [f_X7_leastSize_5, sb.f, sb.n, if_neg (nI_ge (by omega) (by omega)), sb.r2, bnd_e, sb.a2, sb.i2 iv, cv, bv, eb, obd_s, bnd_e, bnd_e, nI_1]
      exact e1
    · rw [f_X7_greatestSize_4, sb.f, sb.n, if_neg (nI_ge (by omega) (by omega)), sb.r2, bnd_e, sb.a2, sb.i2 iv, cv, bv, eb, obd_s, bnd_e, bnd_e, nI_1]
      exact e2
    · rw [f_X7_common_7, sb.f, sb.n, if_neg (nI_ge (by omega) (by omega)), sb.r2, bnd_e, sb.a2, sb.i2 iv, cv, bv, bnd_e, bnd_e, nI_1]
      exact e3
    · have e89 : ∀ x1 y1, f_X10_sizes_89 (f_X10_sizes_25 M m) M m 120 a x1 c (nI v) y1 = f_X10_sizes_25 M m 120 a x1 y1 (c &&& xR S 17 v) (nI (v + 1)) := fun x1 y1 => by
        rw [f_X10_sizes_89, rs_f r.1, b, obd_s, bnd_e, bnd_e, nI_1]
      have e62 : ∀ x1, f_X10_sizes_62 (f_X10_sizes_25 M m) M m 120 a y c (nI v) x1 = f_X10_sizes_25 M m 120 a x1 (if y < z then z else y) (c &&& xR S 17 v) (nI (v + 1)) := fun x1 => by
        rw [f_X10_sizes_62, rs_f r.1, b, obd_s, em, obd_s]
        by_cases q : z ≤ y
        · rw [if_pos q, if_neg (Int32.not_lt.mpr q), e89]
        · rw [if_neg q, if_pos (Int32.not_le.mp q), obd_s, em, obd_s, e89]
      rw [f_X10_sizes_25, rs_f r.1, rs_0 r.1, bnd_e, rs_fa r.1, rs_c0 r.1, cl0, r.N hN, if_neg (nI_ge (by omega) (by omega)), b, obd_s, em, obd_s]
      rw [← e4 a]
      by_cases q : x ≤ z
      · rw [if_pos q, if_neg (Int32.not_lt.mpr q), e62]
      · rw [if_neg q, if_pos (Int32.not_le.mp q), obd_s, em, obd_s, e62]
theorem eq17 {M : Mem} {i n : Nat} (h : WI i M) (a : Int32) (hn : 100000 ≤ n) : ∃ r, f_X9_sizes n 0 a M = some r ∧ f_X10_sizes n 120 a M = some r := by
  obtain ⟨N, A, Q, S, w⟩ := h
  obtain ⟨X, Y, L, p, sb, xg, xr⟩ := id w.1
  have h16 := w.2.2.2.1.n16
  have hN := w.2.2.2.1.n
  have r := w.2.1
  obtain ⟨x, y, c, e1, e2, e3, hc, e4⟩ := sz_eq w N 0 n n 16 0 (((1 : Int32) <<< (nI N &&& 31)) - (1 : Int32)) (by omega) (by omega) (by omega) (fun u h1 h2 => by rw [all_b h16 h2, decide_eq_false (by omega)])
  have R : ¬ a < 0 → ¬ (2 : Int32) < a → f_X10_sizes n 120 a M = (if a = 0 then some x else if a = (1 : Int32) then some y else some (nI (pc c))) := fun h0 h2 => by
    rw [f_X10_sizes, f_X10_isIn, if_neg h0, if_neg h2, obd_s, if_neg ne10, rs_f r.1, f_X10_all, rs_f r.1, rs_0 r.1, bnd_e, rs_fa r.1, rs_c0 r.1, cl0, r.N hN, obd_s]
    exact e4 a
  by_cases a0 : a = 0
  · exact ⟨x, by rw [f_X9_sizes, if_pos a0, chk_t xg.1, xg.2.1, bnd_e, sb.f, f_X7_leastSize, show f_X7_leastSize_5 M n 1 16 0 = some x from e1, obd_s], by rw [R (by rw [a0]; decide) (by rw [a0]; decide), if_pos a0]⟩
  by_cases a1 : a = 1
  · exact ⟨y, by rw [f_X9_sizes, if_neg a0, if_pos a1, chk_t xg.1, xg.2.1, bnd_e, sb.f, f_X7_greatestSize, show f_X7_greatestSize_4 M n 1 0 0 = some y from e2, obd_s], by rw [R (by rw [a1]; decide) (by rw [a1]; decide), if_neg a0, if_pos a1]⟩
  by_cases a2 : a = 2
  · exact ⟨nI (pc c), by rw [f_X9_sizes, if_neg a0, if_neg a1, if_pos a2, chk_t xg.1, xg.2.1, bnd_e, sb.f, f_X7_common, sb.f, f_X7_allNodes, sb.f, sb.n, obd_s, show f_X7_common_7 M n 1 (((1 : Int32) <<< (nI N &&& 31)) - (1 : Int32)) 0 = some c from e3, obd_s, f_bcx (fun u h1 h2 => hc u (by omega) h2) M, obd_s], by rw [R (by rw [a2]; decide) (by rw [a2]; decide), if_neg a0, if_neg a1]⟩
  · have out : a < 0 ∨ (2 : Int32) < a := by
      rcases out_in (N := 3) (by decide) a with ha | ⟨k, hk, rfl⟩
      · rcases ha with ha | ha
        · exact Or.inl ha
        · exact Or.inr (Int32.lt_of_lt_of_le (by decide) ha)
      · exfalso
        match k, hk with
        | 0, _ => exact a0 rfl
        | 1, _ => exact a1 rfl
        | 2, _ => exact a2 rfl
        | k + 3, h => omega
    refine ⟨-1, by rw [f_X9_sizes, if_neg a0, if_neg a1, if_neg a2], ?_⟩
    rw [f_X10_sizes, f_X10_isIn]
    rcases out with o | o
    · rw [if_pos o, obd_s, if_pos rfl]
    · by_cases c0 : a < 0
      · rw [if_pos c0, obd_s, if_pos rfl]
      · rw [if_neg c0, if_pos o, obd_s, if_pos rfl]
