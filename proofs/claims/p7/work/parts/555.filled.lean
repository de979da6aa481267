/-! ===== filled, grid, plane ===== -/
def fiO (v1 v2 v4 v5 : Int32) : Nat → Int32 → Int32 → Option Int32
  | 0, _, _ => none
  | n + 1, v6, x => if v2 ≤ v6 then some x else fiO v1 v2 v4 v5 n (v6 + 1) ((x ||| ((1 : Int32) <<< ((((v4 * v2) + v6) - ((v4 * v2) + v6) / v1 * v1) &&& 31))) ||| ((1 : Int32) <<< ((((v6 * v2) + v5) - ((v6 * v2) + v5) / v1 * v1) &&& 31)))
theorem fi_l {k : Nat → Int32 → Int32 → Int32 → Mem → Option Mem} {v1 v2 v4 v5 : Int32} {v : Nat} (h0 : ¬ v1 = 0) (hv : v < 16) : ∀ (m : Nat) (v6 : Int32) (M : Mem) (n : Nat) (x : Int32), SZ M → fiO v1 v2 v4 v5 m v6 (mI M 2 v) = some x → m ≤ n → ∃ M', f_X7_makeFilled_45 k n 1 v1 v2 (nI v) v4 v5 v6 M = k 1 v1 v2 (nI (v + 1)) M' ∧ Wc 2 v x M M' := by
  intro m
  induction m with
  | zero => intro v6 M n x z h _; cases h
  | succ m ih =>
    intro v6 M n x z h hn
    obtain ⟨n, rfl⟩ : ∃ r, n = r + 1 := ⟨n - 1, by omega⟩
    unfold fiO at h
    by_cases c : v2 ≤ v6
    · rw [if_pos c] at h
      refine ⟨M, ?_, ?_⟩
      · rw [f_X7_makeFilled_45, if_pos c, bnd_e, nI_1]
      · rw [← Option.some.inj h]; exact Wc.r M 2 v
    · rw [if_neg c] at h
      generalize hA : sI M 2 v (mI M 2 v ||| ((1 : Int32) <<< ((((v4 * v2) + v6) - ((v4 * v2) + v6) / v1 * v1) &&& 31))) = MA
      have wA : Wc 2 v (mI M 2 v ||| ((1 : Int32) <<< ((((v4 * v2) + v6) - ((v4 * v2) + v6) / v1 * v1) &&& 31))) M MA := by rw [← hA]; exact Wc.s _ _ _ _
      have zA := z.e wA.1
      generalize hB : sI MA 2 v (mI MA 2 v ||| ((1 : Int32) <<< ((((v6 * v2) + v5) - ((v6 * v2) + v5) / v1 * v1) &&& 31))) = MB
      have wB : Wc 2 v (mI MA 2 v ||| ((1 : Int32) <<< ((((v6 * v2) + v5) - ((v6 * v2) + v5) / v1 * v1) &&& 31))) MA MB := by rw [← hB]; exact Wc.s _ _ _ _
      have zB := zA.e wB.1
      obtain ⟨M', e, w⟩ := ih (v6 + 1) MB n x zB (by rw [wB.2.1, wA.2.1]; exact h) (by omega)
      refine ⟨M', ?_, wA.tr (wB.tr w)⟩
      rw [f_X7_makeFilled_45, if_neg c, z.f, z.r2, bnd_e, z.a2, z.i2 hv, chk_t h0, z.i2 hv, mI_c (by omega), sI_c (by omega), hA, bnd_e, zA.r2, bnd_e, zA.a2, zA.i2 hv, chk_t h0, zA.i2 hv, mI_c (by omega), sI_c (by omega), hB, bnd_e, bnd_e]
      exact e
set_option maxRecDepth 1000000 in
theorem fi_k : (List.range 17).all (fun N => (List.range N).all fun v => decide (N < 2) || (decide (fiO (nI N) (nI (kk N)) (nI v / nI (kk N)) (nI v - nI v / nI (kk N) * nI (kk N)) 5 0 0 = some (crv (kk N) N v)) && decide ((crv (kk N) N v).toBitVec.toNat < 2 ^ N))) = true := by decide +kernel
theorem fi_e {N v : Nat} (h1 : 2 ≤ N) (h2 : N ≤ 16) (hv : v < N) : fiO (nI N) (nI (kk N)) (nI v / nI (kk N)) (nI v - nI v / nI (kk N) * nI (kk N)) 5 0 0 = some (crv (kk N) N v) ∧ (crv (kk N) N v).toBitVec.toNat < 2 ^ N := by
  have h := List.all_eq_true.mp (List.all_eq_true.mp fi_k N (List.mem_range.mpr (by omega))) v (List.mem_range.mpr hv)
  have h3 : ¬ N < 2 := by omega
  simp only [h3, decide_false, Bool.false_or, Bool.and_eq_true] at h
  exact ⟨of_decide_eq_true h.1, of_decide_eq_true h.2⟩
theorem nI_n0 {N : Nat} (h : 0 < N) (h2 : N < 1000) : ¬ nI N = 0 := fun z => by
  have : (0 : Int32) < nI N := nI_lt (a := 0) h (by omega)
  rw [z] at this
  exact Int32.lt_irrefl this
theorem kk_3 (N : Nat) : kk N = 2 ∨ kk N = 3 ∨ kk N = 4 := by
  unfold kk
  split
  · exact Or.inl rfl
  · split
    · exact Or.inr (Or.inl rfl)
    · exact Or.inr (Or.inr rfl)
theorem mc_filled {M : Mem} {N n : Nat} (z : SZ M) (h1 : 2 ≤ N) (h2 : N ≤ 16) (hn : 60 ≤ n) : ∃ M', f_X7_makeFilled n 1 (nI N) M = some M' ∧ MC N (crv (kk N) N) 0 M M' := by
  have k3 := kk_3 N
  have main : ∀ n, 50 ≤ n → ∃ M', f_X7_makeFilled_20 n 1 (nI N) (nI (kk N)) M = some M' ∧ MC N (crv (kk N) N) 0 M M' := fun n hn => by
    obtain ⟨M1, e1, b1⟩ := z.bg (N := N) (n := n) (by omega)
    have z1 := z.e b1.1
    obtain ⟨M2, e2, l2⟩ := lpw (F := fun n x M => f_X7_makeFilled_27 n 1 (nI N) (nI (kk N)) x M) (G := some) (M0 := M1) (o := 2) (c := 0) (N := N) (K := 13) (C := crv (kk N) N) (fun i n M hi l hn => by
      have zz := z1.e l.1
      have r0 : mI M 2 i = 0 := by rw [l.2.2.1 i (by omega)]; exact b1.2.2.2.1 i (by omega)
      obtain ⟨M', e, w⟩ := fi_l (k := f_X7_makeFilled_27 n) (v1 := nI N) (v2 := nI (kk N)) (v4 := nI i / nI (kk N)) (v5 := nI i - nI i / nI (kk N) * nI (kk N)) (v := i) (nI_n0 (by omega) (by omega)) (by omega) 5 0 M n (crv (kk N) N i) zz (by rw [r0]; exact (fi_e h1 h2 hi).1) (by omega)
      refine ⟨M', ?_, by rw [Nat.zero_add]; exact w⟩
      show f_X7_makeFilled_27 (n + 1) 1 (nI N) (nI (kk N)) (nI i) M = _
      rw [f_X7_makeFilled_27, if_neg (nI_ge hi (by omega)), chk_t (nI_n0 (by omega) (by omega)), bnd_e, chk_t (nI_n0 (by omega) (by omega)), bnd_e]
      exact e) (fun n M l => by
      show f_X7_makeFilled_27 (n + 1) 1 (nI N) (nI (kk N)) (nI N) M = _
      rw [f_X7_makeFilled_27, if_pos (nI_le (Nat.le_refl _) (by omega))]) N 0 n M1 (by omega) (Lp.r _ _ _ _) (by omega)
    exact ⟨M2, by rw [f_X7_makeFilled_20, z.f, e1, obd_s]; exact e2, b1.mc l2⟩
  have sq : ∀ v : Nat, v ≤ 4 → nI v * nI v = nI (v * v) := fun v _ => pk_mul v v
  obtain ⟨n, rfl⟩ : ∃ m, n = m + 3 := ⟨n - 3, by omega⟩
  have go : ∀ (v n : Nat), v < kk N → 2 ≤ v → f_X7_makeFilled_2 (n + 1) 1 (nI N) (nI v) M = f_X7_makeFilled_2 n 1 (nI N) (nI (v + 1)) M := by
    intro v n hv hv1
    have hlt : v * v < N := by
      unfold kk at hv
      by_cases q1 : N ≤ 4
      · rw [if_pos q1] at hv; omega
      · rw [if_neg q1] at hv
        by_cases q2 : N ≤ 9
        · rw [if_pos q2] at hv
          have : v = 2 := by omega
          subst this; omega
        · rw [if_neg q2] at hv
          have : v = 2 ∨ v = 3 := by omega
          rcases this with rfl | rfl <;> omega
    have hv4 : v < 4 := by omega
    rw [f_X7_makeFilled_2, if_neg (show ¬ (4 : Int32) ≤ nI v from nI_ge (b := 4) hv4 (by decide)), sq v (by omega), if_neg (nI_ge hlt (by omega)), bnd_e, nI_1]
  have stop : ∀ n, f_X7_makeFilled_2 (n + 1) 1 (nI N) (nI (kk N)) M = f_X7_makeFilled_20 n 1 (nI N) (nI (kk N)) M := by
    intro n
    rw [f_X7_makeFilled_2]
    by_cases c : (4 : Int32) ≤ nI (kk N)
    · rw [if_pos c]
    · have hle : nI N ≤ nI (kk N) * nI (kk N) := by
        have k4 : ¬ kk N = 4 := fun e => c (by rw [e]; decide)
        rw [sq _ (by omega)]
        refine nI_le ?_ (by rcases k3 with e | e | e <;> rw [e] <;> decide)
        unfold kk at k4 ⊢
        by_cases q1 : N ≤ 4
        · rw [if_pos q1]; omega
        · rw [if_neg q1] at k4 ⊢
          by_cases q2 : N ≤ 9
          · rw [if_pos q2]; omega
          · rw [if_neg q2] at k4; omega
      rw [if_neg c, if_pos hle]
  rw [f_X7_makeFilled, show (2 : Int32) = nI 2 from rfl]
  rcases k3 with e | e | e
  · obtain ⟨M', e', m'⟩ := main (n + 2) (by omega)
    refine ⟨M', ?_, m'⟩
    have := stop (n + 2)
    rw [e] at this e'
    exact this.trans e'
  · obtain ⟨M', e', m'⟩ := main (n + 1) (by omega)
    refine ⟨M', ?_, m'⟩
    have := stop (n + 1)
    rw [go 2 (n + 2) (by omega) (by decide)]
    rw [e] at this e'
    exact this.trans e'
  · obtain ⟨M', e', m'⟩ := main n (by omega)
    refine ⟨M', ?_, m'⟩
    have := stop n
    rw [go 2 (n + 2) (by omega) (by decide), go 3 (n + 1) (by omega) (by decide)]
    rw [e] at this e'
    exact this.trans e'
theorem RE_wA (M : Mem) (N : Nat) (tr : Int32) (C : Nat → Int32) : RE N tr C M (wA M 121 (rfm (mI M 121) N tr C)) := by
  refine ⟨rfl, fun o ho b => ?_, fun b => ?_, fun b _ => ?_⟩
  · show (if o = 121 then _ else M.2.1 o b) = _
    rw [if_neg (by omega)]; rfl
  · show (if (120 : Nat) = 121 then rfm (mI M 121) N tr C b else M.2.1 120 b) = _
    rw [if_neg (by decide)]; rfl
  · show (if (121 : Nat) = 121 then rfm (mI M 121) N tr C b else M.2.1 121 b) = _
    rw [if_pos rfl]
theorem rm_filled {M : Mem} {N n : Nat} (h : RK M 120 121) (h1 : 2 ≤ N) (h2 : N ≤ 16) (hn : 12000 ≤ n) : ∃ M', f_X10_makeFilled n 120 (nI N) M = some (nI N, M') ∧ RE N 0 (crv (kk N) N) M M' :=
  ⟨_, f_filled h1 h2 h (by omega), RE_wA M N 0 (crv (kk N) N)⟩
set_option maxRecDepth 1000000 in
theorem fi_z : (List.range' 2 15).all (fun N => (List.range N).all fun v => decide (¬ (fun v N => crv (kk N) N v) v N = 0)) = true := by decide +kernel
theorem op2 {M : Mem} {i n : Nat} (h : WI i M) (a : Int32) (hn : 100000 ≤ n) : Okk i (f_X9_filled n 0 a M) (fun M1 => f_X10_filled n 120 a M1) := by
  obtain ⟨N, A, Q, S, w⟩ := h
  obtain ⟨X, Y, L, p, sb, xg, xr⟩ := id w.1
  rcases rng3 (L := 2) (N := 16) (by decide) (by decide) a with ha | ⟨k, hk1, hk2, rfl⟩
  · refine Okk.same w (r := -1) ?_ ?_
    · rw [f_X9_filled]
      exact out2 (L := 2) (N := 16) (by decide) (by decide) ha
    · show f_X10_filled n 120 a M = _
      rw [f_X10_filled, show (2 : Int32) = nI 2 from rfl, show (16 : Int32) = nI 16 from rfl, is_out3 (by decide) ha, obd_s, if_pos rfl]
  · obtain ⟨M1, e1, m1⟩ := mc_filled (n := n) sb.z hk1 hk2 (by omega)
    refine Okk.mk (n := n) (C := crv (kk k) k) (tr := 0) w hk1 hk2 (Or.inl rfl) (fun z => absurd z (by decide)) (fun v hv i a _ => bt_bd (fi_e hk1 hk2 hv).2 a) ⟨fun v hv => nz_of fi_z (rg_mem hk1 (by omega)) hv, fun z => absurd z (by decide)⟩ (by omega) ⟨M1, m1, ?_⟩ (fun M2 rk => ?_)
    · rw [f_X9_filled]
      refine Eq.trans (in2 (L := 2) (N := 16) (by decide) hk1 hk2) ?_
      rw [chk_t xg.1, xg.2.1, bnd_e, sb.f, e1, obd_s, chk_t (xg.s (Shp1.e m1.1)).1]
    · obtain ⟨M3, e3, r3⟩ := rm_filled (n := n) rk hk1 hk2 (by omega)
      refine ⟨M3, ?_, r3⟩
      show f_X10_filled n 120 (nI k) M2 = _
      rw [f_X10_filled, show (2 : Int32) = nI 2 from rfl, show (16 : Int32) = nI 16 from rfl, is_in3 (by decide) hk1 hk2, obd_s, if_neg ne10, rk.f, e3, obd2_s]
theorem op0 {M : Mem} {i n : Nat} (h : WI i M) (a : Int32) (hn : 100000 ≤ n) : Okk i (f_X9_grid n 0 a M) (fun M1 => f_X10_grid n 120 a M1) := by
  obtain ⟨N, A, Q, S, w⟩ := h
  obtain ⟨X, Y, L, p, sb, xg, xr⟩ := id w.1
  rcases rng3 (L := 2) (N := 4) (by decide) (by decide) a with ha | ⟨k, hk1, hk2, rfl⟩
  · refine Okk.same w (r := -1) ?_ ?_
    · rw [f_X9_grid]
      exact out2 (L := 2) (N := 4) (by decide) (by decide) ha
    · show f_X10_grid n 120 a M = _
      rw [f_X10_grid, show (2 : Int32) = nI 2 from rfl, show (4 : Int32) = nI 4 from rfl, is_out3 (by decide) ha, obd_s, if_pos rfl]
  · have sq : nI k * nI k = nI (k * k) := pk_mul k k
    have k2 : 2 ≤ k * k ∧ k * k ≤ 16 := by
      rcases (show k = 2 ∨ k = 3 ∨ k = 4 by omega) with rfl | rfl | rfl <;> decide
    obtain ⟨M1, e1, m1⟩ := mc_filled (n := n) sb.z k2.1 k2.2 (by omega)
    refine Okk.mk (n := n) (C := crv (kk (k * k)) (k * k)) (tr := 0) w k2.1 k2.2 (Or.inl rfl) (fun z => absurd z (by decide)) (fun v hv i a _ => bt_bd (fi_e k2.1 k2.2 hv).2 a) ⟨fun v hv => nz_of fi_z (rg_mem k2.1 (by omega)) hv, fun z => absurd z (by decide)⟩ (by omega) ⟨M1, m1, ?_⟩ (fun M2 rk => ?_)
    · rw [f_X9_grid]
      refine Eq.trans (in2 (L := 2) (N := 4) (by decide) hk1 hk2) ?_
      rw [chk_t xg.1, xg.2.1, bnd_e, sb.f, sq, e1, obd_s, chk_t (xg.s (Shp1.e m1.1)).1]
    · obtain ⟨M3, e3, r3⟩ := rm_filled (n := n) rk k2.1 k2.2 (by omega)
      refine ⟨M3, ?_, r3⟩
      show f_X10_grid n 120 (nI k) M2 = _
      rw [f_X10_grid, show (2 : Int32) = nI 2 from rfl, show (4 : Int32) = nI 4 from rfl, is_in3 (by decide) hk1 hk2, obd_s, if_neg ne10, rk.f, f_X10_makeGrid, rk.f, sq, e3, obd2_s, obd2_s]
