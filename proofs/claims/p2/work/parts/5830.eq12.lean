/-! ===== equal answers: stops ===== -/
theorem bit_nz (x : Int32) {v : Nat} (hv : v < 32) : ¬ x ||| ((1 : Int32) <<< (nI v &&& 31)) = 0 := fun e => by
  have h := b_or x ((1 : Int32) <<< (nI v &&& 31)) v
  rw [e, b_0, b_one hv hv, decide_eq_true (Eq.refl v), Bool.or_true] at h
  cases h
theorem wh_up {N : Nat} {b : Int32} {v : Nat} (hv : v < N) (h16 : N ≤ 16) (hN : N % 2 = 1) (nb : bt b v = false) (h : 2 * v + 1 < N → ¬ wh N b (2 * v + 1) = 0 ∨ ¬ wh N b (2 * v + 2) = 0) : ¬ wh N b v = 0 := by
  have e := wh_e b hv hN
  by_cases c : 2 * v + 1 < N
  · simp only [c, if_true, nb, Bool.false_eq_true, if_false] at e
    rw [e]
    rcases h c with z | z
    · rw [if_neg z]; exact bit_nz _ (by omega)
    · by_cases y : wh N b (2 * v + 1) = 0
      · rw [if_pos y, if_neg z]; exact bit_nz _ (by omega)
      · rw [if_neg y]; exact bit_nz _ (by omega)
  · simp only [c, if_false, nb, Bool.false_eq_true] at e
    rw [e]
    have := bit_nz 0 (show v < 32 by omega)
    rw [Int32.zero_or] at this
    exact this
theorem tree_wh {N : Nat} {B : Nat → Int32} {b : Int32} (h16 : N ≤ 16) (hN : N % 2 = 1) (t : TT N B) {v : Nat} (hv : v < N) (hb : B v &&& b = 0) : ¬ wh N b 0 = 0 := by
  have main : ∀ r u, N ≤ u + r → u < N → bt (B v) u = true → ¬ wh N b u = 0 := by
    intro r
    induction r with
    | zero => intro u h1 h2; omega
    | succ r ih =>
      intro u h1 h2 h3
      have nb : bt b u = false := by
        have e := b_and (B v) b u
        rw [hb, b_0, h3, Bool.true_and] at e
        exact e.symm
      refine wh_up h2 h16 hN nb (fun c => ?_)
      rcases (t.2 v hv).2 u (by omega) h3 with z | z
      · exact Or.inl (ih _ (by omega) c z)
      · exact Or.inr (ih _ (by omega) (by omega) z)
  exact main N 0 (by omega) (by omega) (t.2 v hv).1
theorem cor_q {N A i : Nat} {S : St} (sw : SW N A i S) (b : Int32) : cor N S b = 0 ↔ ∀ v, v < N → qby N S v b = 0 := by
  have h2 := sw.n2
  have h16 := sw.n16
  have nz := sw.tb.1
  constructor
  · intro c v hv
    have un : ¬ xR S 17 v &&& b = 0 := fun hb => by
      unfold cor at c
      by_cases t : xR S 20 1 = 1
      · rw [if_pos t] at c
        exact tree_wh h16 (sw.t t) (sw.tb.2 t) hv hb c
      · rw [if_neg t] at c
        unfold fub at c
        split at c
        · rename_i e
          have := List.find?_eq_none.mp e v (List.mem_range'_1.mpr ⟨Nat.zero_le _, by omega⟩)
          exact this (decide_eq_true hb)
        · rename_i w e
          have := List.mem_range'_1.mp (List.mem_of_find?_eq_some e)
          exact nz w (by omega) c
    unfold qby
    rw [if_neg un]
    exact c
  · intro h
    have h0 := h 0 (by omega)
    unfold qby at h0
    by_cases c : xR S 17 0 &&& b = 0
    · rw [if_pos c] at h0
      exact absurd h0 (nz 0 (by omega))
    · rw [if_neg c] at h0
      exact h0
theorem rst_v {M : Mem} {N : Nat} {tw : Bool} {t : Int32} {S : St} {pb pt : List Row4} (hN : xR S 20 0 = nI N) (h16 : N ≤ 16) (ht : xR S 20 1 = 1 → N % 2 = 1) (b : Int32) : ∀ (d i n : Nat) (M : Mem), RV M tw t S pb pt → i + d = N → d + 61 ≤ n → ∃ x M', f_X10_stopsBy_2 n 120 b (nI i) M = some (x, M') ∧ ((x = 1 ∧ ∀ v, i ≤ v → v < N → qby N S v b = 0) ∨ (x = 0 ∧ ∃ v, v < N ∧ ¬ qby N S v b = 0)) ∧ RV M' tw t S pb pt ∧ Fr P2 M M' := by
  intro d
  induction d with
  | zero =>
    intro i n M r hi hn
    obtain ⟨n, rfl⟩ : ∃ m, n = m + 1 := ⟨n - 1, by omega⟩
    exact ⟨1, M, by rw [f_X10_stopsBy_2, rs_f r.1, rs_0 r.1, bnd_e, rs_fa r.1, rs_c0 r.1, cl0, r.N hN, if_pos (nI_le (by omega) (by omega))], Or.inl ⟨rfl, fun v h1 h2 => by omega⟩, r, Fr.rf _ _⟩
  | succ d ih =>
    intro i n M r hi hn
    obtain ⟨n, rfl⟩ : ∃ m, n = m + 1 := ⟨n - 1, by omega⟩
    obtain ⟨M1, e1, r1, f1⟩ := r.tqby (n := n) hN h16 ht (v := i) (by omega) b (by omega)
    have op : ∀ y, (if qby N S i b = 0 then f_X10_stopsBy_2 n 120 b (nI (i + 1)) M1 else some ((0 : Int32), M1)) = y → f_X10_stopsBy_2 (n + 1) 120 b (nI i) M = y := by
      intro y hy
      rw [f_X10_stopsBy_2, rs_f r.1, rs_0 r.1, bnd_e, rs_fa r.1, rs_c0 r.1, cl0, r.N hN, if_neg (nI_ge (by omega) (by omega)), e1, obd2_s, bnd_e, nI_1]
      exact hy
    by_cases z : qby N S i b = 0
    · obtain ⟨x, M2, e2, hx, r2, f2⟩ := ih (i + 1) n M1 r1 (by omega) (by omega)
      refine ⟨x, M2, op _ (by rw [if_pos z]; exact e2), ?_, r2, f1.tr f2⟩
      rcases hx with ⟨a, h⟩ | h
      · refine Or.inl ⟨a, fun v h1 h2 => ?_⟩
        by_cases c : v = i
        · rw [c]; exact z
        · exact h v (by omega) h2
      · exact Or.inr h
    · exact ⟨0, M1, op _ (if_neg z), Or.inr ⟨rfl, i, by omega, z⟩, r1, f1⟩
theorem eq12 {M : Mem} {i n : Nat} (h : WI i M) (a : Int32) (hn : 100000 ≤ n) : Okk i (f_X9_stops n 0 a M) (fun M1 => f_X10_stops n 120 a M1) := by
  obtain ⟨N, A, Q, S, w⟩ := h
  obtain ⟨X, Y, L, p, sb, xg, xr⟩ := id w.1
  obtain ⟨_, r, z7, sw, hQ⟩ := id w
  have h16 := sw.n16
  have h2 := sw.n2
  generalize hb : a &&& (((1 : Int32) <<< (nI N &&& 31)) - (1 : Int32)) = b
  have key : ∃ M1, f_X7_someQuorum n 1 b M = some (if cor N S b = 0 then 0 else 1, M1) ∧ Fr P4 M M1 := by
    have e20 : ∀ u M1, f_X7_someQuorum_20 n u M1 = some (if u = 0 then 0 else 1, M1) := fun u M1 => by
      rw [f_X7_someQuorum_20]
      by_cases c : u = 0
      · rw [if_pos c, if_pos c]
      · rw [if_neg c, if_neg c]
    rw [f_X7_someQuorum, sb.f, sb.t]
    unfold cor
    rcases sw.t2 with t0 | t1
    · have tn : ¬ xR S 20 1 = 1 := by rw [t0]; decide
      refine ⟨M, ?_, Fr.rf _ _⟩
      rw [if_pos t0, if_neg tn, f_X7_firstUnbroken, show (0 : Int32) = nI 0 from rfl, fu_l sb h16 _ N 0 n (by omega) (by omega), obd_s, e20]
      rfl
    · obtain ⟨M1, e1, f1⟩ := wr_l h16 (by omega) (sw.t t1) b N M n sb (Nat.le_refl _) (fun w _ _ => by omega) (by omega)
      refine ⟨M1, ?_, f1⟩
      rw [if_pos t1, t1, if_neg ne10, f_X7_wholeOfRoot, sb.f, sb.n, bnd_e, e1, obd2_s, e20]
  obtain ⟨M1, e1, f1⟩ := key
  have o1 : ∀ o, o ≠ 4 → o ≠ 30 → ∀ b, mI M1 o b = mI M o b := fun o n1 _ b => f1.2.1 o n1 b
  have r1 := r.ow f1.1 o1
  obtain ⟨y, M2, e2, hy, r2, f2⟩ := rst_v (M := M1) sw.n h16 sw.t b N 0 n M1 r1 (by omega) (by omega)
  have hy2 : y = if cor N S b = 0 then 1 else 0 := by
    rcases hy with ⟨e, h⟩ | ⟨e, v, hv, h⟩
    · rw [if_pos ((cor_q sw b).mpr (fun v hv => h v (Nat.zero_le _) hv))]; exact e
    · rw [if_neg (fun z => h ((cor_q sw b).mp z v hv))]; exact e
  have bz1 : bz y := by
    rcases hy with ⟨e, _⟩ | ⟨e, _⟩
    · exact Or.inr e
    · exact Or.inl e
  refine ⟨y, M1, M2, ?_, r1.1.io (by decide) (by decide) (by decide), ?_, w.own f1.1 o1 r2 f2.1 (fun o ho b => f2.2.1 o (fun z => ho (by unfold P2 at z; omega)) b) ?_ (fun o b => (f2.2.2 o b).trans (f1.2.2 o b))⟩
  · rw [f_X9_stops, chk_t xg.1, xg.2.1, bnd_e, sb.f, bnd_e, sb.f, f_X7_allNodes, sb.f, sb.n, obd_s, hb, e1, obd2_s, hy2]
    by_cases c : cor N S b = 0
    · rw [if_pos c, if_pos c, if_pos rfl]
    · rw [if_neg c, if_neg c, if_neg ne10]
  · show f_X10_stops n 120 a M1 = _
    rw [f_X10_stops, rs_f r1.1, f_X10_all, rs_f r1.1, rs_0 r1.1, bnd_e, rs_fa r1.1, rs_c0 r1.1, cl0, r1.N sw.n, obd_s, hb, f_X10_stopsBy, show f_X10_stopsBy_2 n 120 b 0 M1 = some (y, M2) from e2, obd2_s, chk_t bz1]
  · rw [f2.2.1 120 (by unfold P2; decide), o1 120 (by decide) (by decide)]; exact z7
