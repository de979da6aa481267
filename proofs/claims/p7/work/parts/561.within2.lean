/-! ===== within: the reference, and both ===== -/
theorem i3_2 {k : Nat} : (2 : Int32) + nI k = nI (2 + k) := by rw [show (2 : Int32) = nI 2 from rfl, nI_add]
theorem rw_40 {M2 : Mem} {S : St} {k m K : Nat} {tw : Bool} {t : Int32} {pb pt : List Row4} (r : RV M2 tw t S pb pt) (h3 : K + 1 ≤ 16) : ∀ (d v n : Nat) (M : Mem), v + d = K + 1 → Lp M2 122 0 (fun v => xR S 17 v) v M → d + 11050 ≤ n → ∃ M' n', f_X10_within_40 n 120 (nI k) (nI m) (nI K) (nI v) M = (obd (f_X10_begin n' 120 (nI K + nI m) (0 : Int32) M') fun M5 => f_X10_within_76 n' 120 (nI k) (nI m) (nI K) (0 : Int32) M5) ∧ Lp M2 122 0 (fun v => xR S 17 v) (K + 1) M' ∧ 11049 ≤ n' := by
  intro d
  induction d with
  | zero =>
    intro v n M hv l hn
    obtain ⟨n, rfl⟩ : ∃ m, n = m + 1 := ⟨n - 1, by omega⟩
    have : v = K + 1 := by omega
    subst this
    have q := r.1.e l.1
    exact ⟨M, n, by rw [f_X10_within_40, if_pos (nI_lt (by omega) (by omega)), rs_f q], l, by omega⟩
  | succ d ih =>
    intro v n M hv l hn
    obtain ⟨n, rfl⟩ : ∃ m, n = m + 1 := ⟨n - 1, by omega⟩
    have q := r.1.e l.1
    have wc : Wc 122 (0 + v) (xR S 17 v) M (sI M 122 v (xR S 17 v)) := by rw [Nat.zero_add]; exact Wc.s _ _ _ _
    obtain ⟨M', n', e, l', hn'⟩ := ih (v + 1) n _ (by omega) (l.s wc) (by omega)
    refine ⟨M', n', ?_, l', hn'⟩
    have eb : f_X10_baseOf 120 (nI v) M = some (xR S 17 v) := by
      rw [f_X10_baseOf, rs_f q, rs_0 q, bnd_e, rs_fa q, i3_2, rs_c q (by omega), mI_c (by omega), l.2.2.2.1 121 (by decide)]
      exact congrArg some (r.rg (k := 17) (i := v) (by unfold vk; omega))
    rw [f_X10_within_40, if_neg (nI_nlt (by omega) (by omega)), rs_f q, rs_1 q, bnd_e, rs_f1 q, eb, obd_s, rs_c1 q (by omega), sI_c (by omega), bnd_e, nI_1, bnd_e]
    exact e
section
variable {S : St} {k m K : Nat}
theorem rw_76 {M1 : Mem} (q1 : RS M1) (m3 : ∀ v, v < K + 1 → mI M1 122 v = xR S 17 v) (hk : k ≤ K) (h1 : 2 ≤ m) (h2 : m ≤ 8) (h3 : K + m ≤ 16) : ∀ (d v n : Nat) (M : Mem), v + d = K + 1 → Lp M1 121 2 (wiC S k m K) (if v ≤ k then v else v - 1) M → d + 30 ≤ n → ∃ M' n', f_X10_within_76 n 120 (nI k) (nI m) (nI K) (nI v) M = f_X10_within_139 n' 120 (nI k) (nI m) (nI K) (nI 0) M' ∧ Lp M1 121 2 (wiC S k m K) K M' ∧ 29 ≤ n' := by
  intro d
  induction d with
  | zero =>
    intro v n M hv l hn
    obtain ⟨n, rfl⟩ : ∃ m, n = m + 1 := ⟨n - 1, by omega⟩
    refine ⟨M, n, ?_, ?_, by omega⟩
    · rw [f_X10_within_76, if_pos (nI_lt (by omega) (by omega))]
      rfl
    · rw [if_neg (by omega), show v - 1 = K by omega] at l
      exact l
  | succ d ih =>
    intro v n M hv l hn
    obtain ⟨n, rfl⟩ : ∃ m, n = m + 1 := ⟨n - 1, by omega⟩
    have q := q1.e l.1
    by_cases c : v = k
    · obtain ⟨M', n', e, l', hn'⟩ := ih (v + 1) n M (by omega) (by
        rw [if_neg (by omega), show v + 1 - 1 = v by omega]
        rw [if_pos (by omega)] at l
        exact l) (by omega)
      refine ⟨M', n', ?_, l', hn'⟩
      rw [f_X10_within_76, if_neg (nI_nlt (by omega) (by omega)), if_pos (by rw [c]), bnd_e, nI_1]
      exact e
    · have hu : (if v ≤ k then v else v - 1) < 16 := by split <;> omega
      have wc : Wc 121 (2 + (if v ≤ k then v else v - 1)) (wiC S k m K (if v ≤ k then v else v - 1)) M (sI M 121 (2 + (if v ≤ k then v else v - 1)) (wiC S k m K (if v ≤ k then v else v - 1))) := Wc.s _ _ _ _
      obtain ⟨M', n', e, l', hn'⟩ := ih (v + 1) n _ (by omega) (by
        have := l.s wc
        have eq : (if v + 1 ≤ k then v + 1 else v + 1 - 1) = (if v ≤ k then v else v - 1) + 1 := by
          by_cases q : v ≤ k
          · rw [if_pos q, if_pos (by omega)]
          · rw [if_neg q, if_neg (by omega)]; omega
        rw [eq]
        exact this) (by omega)
      refine ⟨M', n', ?_, l', hn'⟩
      have e61 : ∀ u : Int32, u = nI (if v ≤ k then v else v - 1) → f_X10_within_108 (f_X10_within_76 n) n 120 (nI k) (nI m) (nI K) (nI v) u (2 : Int32) 121 M = f_X10_within_76 n 120 (nI k) (nI m) (nI K) (nI (v + 1)) (sI M 121 (2 + (if v ≤ k then v else v - 1)) (wiC S k m K (if v ≤ k then v else v - 1))) := by
        intro u hu'
        have v3 : mI M 122 v = xR S 17 v := by rw [l.2.2.2.1 122 (by decide)]; exact m3 v (by omega)
        rw [f_X10_within_108, rs_f q, rs_1 q, bnd_e, rs_f1 q, rs_c1 q (by omega), chk_t (nI_n0 (by omega) (by omega)), md_e (by omega) h1 h2, f_maj10 h1 (by omega) (Nat.mod_lt _ (by omega)) (by omega), obd_s, mI_c (by omega), v3, f_rpl10 _ _ (by omega), obd_s, rs_fa q, hu', i3_2, rs_c q (by omega), sI_c (by omega), wiC_v (by omega) hk c, bnd_e, bnd_e, nI_1]
      rw [f_X10_within_76, if_neg (nI_nlt (by omega) (by omega)), if_neg (nI_ne (by omega) (by omega) c), rs_f q, rs_0 q, bnd_e, rs_fa q]
      by_cases q : k ≤ v
      · rw [if_pos (nI_le q (by omega)), e61 (nI v - 1) (by rw [nI_m1' (by omega), if_neg (by omega)])]
        exact e
      · rw [if_neg (nI_ge (by omega) (by omega)), e61 (nI v) (by rw [if_pos (by omega)])]
        exact e
theorem rm_within {M : Mem} {n : Nat} {tw : Bool} {t : Int32} {pb pt : List Row4} (r : RV M tw t S pb pt) (hN : xR S 20 0 = nI (K + 1)) (hk : k ≤ K) (h1 : 2 ≤ m) (h2 : m ≤ 8) (h3 : K + m ≤ 16) (hn : 12000 ≤ n) : ∃ M', f_X10_within n 120 (nI k) (nI m) M = some (nI (K + m), M') ∧ RE (K + m) 0 (wiC S k m K) M M' := by
  obtain ⟨Ma, na, ea, la, hna⟩ := rw_40 (k := k) (m := m) (K := K) r (by omega) (K + 1) 0 n M (by omega) (Lp.r _ _ _ _) (by omega)
  have qa := r.1.e la.1
  have rka : RK Ma 120 121 := ⟨qa.io (by decide) (by decide) (by decide), rs_0 qa, qa.io (by decide) (by decide) (by decide), qa.ln (by decide) (by decide) (by decide)⟩
  have eb := f_begin (N := nI (K + m)) (t := 0) rka (n := na) (by omega)
  rw [if_pos rfl] at eb
  have bI : ∀ o, o ≠ 121 → ∀ c, mI (wA Ma 121 (bgf (mI Ma 121) (nI (K + m)) 0)) o c = mI Ma o c := fun o n c => if_neg n
  have q1 : RS (wA Ma 121 (bgf (mI Ma 121) (nI (K + m)) 0)) := qa
  generalize hM1 : wA Ma 121 (bgf (mI Ma 121) (nI (K + m)) 0) = M1 at eb bI q1
  have m3 : ∀ v, v < K + 1 → mI M1 122 v = xR S 17 v := fun v hv => by
    rw [bI 122 (by decide)]
    have := la.2.1 v hv
    rw [Nat.zero_add] at this
    exact this
  obtain ⟨M2, n2, e2, l2, hn2⟩ := rw_76 (S := S) (k := k) (m := m) (K := K) q1 m3 hk h1 h2 h3 (K + 1) 0 na M1 (by omega) (by rw [if_pos (Nat.zero_le _)]; exact Lp.r _ _ _ _) (by omega)
  have q2 := q1.e l2.1
  have r3 : mI M2 122 k = xR S 17 k := by rw [l2.2.2.2.1 122 (by decide)]; exact m3 k (by omega)
  obtain ⟨M3, e3, l3⟩ := lpw (F := fun n x M => f_X10_within_139 n 120 (nI k) (nI m) (nI K) x M) (G := fun M => some (nI (K + m), M)) (M0 := M2) (o := 121) (c := 2 + K) (N := m) (K := 13) (C := fun j => wiC S k m K (K + j)) (fun i n M hi l hn => by
    have q := q2.e l.1
    refine ⟨sI M 121 (2 + K + i) (wiC S k m K (K + i)), ?_, Wc.s _ _ _ _⟩
    show f_X10_within_139 (n + 1) 120 (nI k) (nI m) (nI K) (nI i) M = _
    rw [f_X10_within_139, if_neg (nI_ge hi (by omega)), rs_f q, rs_0 q, bnd_e, rs_fa q, rs_1 q, bnd_e, rs_f1 q, rs_c1 q (by omega), f_maj10 h1 (by omega) hi (by omega), obd_s, mI_c (by omega), l.2.2.2.1 122 (by decide), r3, f_rpl10 _ _ (by omega), obd_s, i3_2, nI_add, rs_c q (by omega), sI_c (by omega), ← wiC_j, bnd_e, bnd_e, nI_1]) (fun n M l => by
    show f_X10_within_139 (n + 1) 120 (nI k) (nI m) (nI K) (nI m) M = _
    rw [f_X10_within_139, if_pos (nI_le (Nat.le_refl _) (by omega)), nI_add]) m 0 n2 M2 (by omega) (Lp.r _ _ _ _) (by omega)
  have l23 := l2.app l3
  rw [← hM1] at l23
  obtain ⟨s3, i3, i120, f3⟩ := RE_of l23
  have q := r.1
  refine ⟨M3, ?_, s3.trans la.1, fun o ho b => by rw [i3 o ho, la.2.2.2.1 o (by omega)], fun b => by rw [i120, la.2.2.2.1 120 (by decide)], fun b hb => ?_⟩
  · rw [f_X10_within, rs_f q, rs_0 q, bnd_e, rs_fa q, rs_c0 q, cl0, r.N hN, nI_pred, bnd_e, ndr r hN (by omega) (by omega), obd_s, if_neg ne10, show f_X10_isIn (nI m) (2 : Int32) (8 : Int32) M = some 1 from is_in3 (L := 2) (N := 8) (by decide) h1 h2, obd_s, if_neg ne10, nI_add, if_pos (show nI (K + m) ≤ (16 : Int32) from nI_le (b := 16) h3 (by decide)), show (0 : Int32) = nI 0 from rfl, ea, nI_add, show (0 : Int32) = nI 0 from rfl]
    rw [show f_X10_begin na 120 (nI (K + m)) (nI 0) Ma = some M1 from eb, obd_s, e2]
    exact e3
  · rw [f3 b hb]
    have : mI Ma 121 = mI M 121 := by funext c; exact la.2.2.2.1 121 (by decide) c
    rw [this]
end
theorem op6 {M : Mem} {i n : Nat} (h : WI i M) (a b : Int32) (hn : 100000 ≤ n) : Okk i (f_X9_within n 0 a b M) (fun M1 => f_X10_within n 120 a b M1) := by
  obtain ⟨N, A, Q, S, w⟩ := h
  obtain ⟨X, Y, L, p, sb, xg, xr⟩ := id w.1
  obtain ⟨_, r, z7, sw, hQ⟩ := id w
  have h16 := sw.n16
  have h2 := sw.n2
  obtain ⟨K, rfl⟩ : ∃ K, N = K + 1 := ⟨N - 1, by omega⟩
  have hN := sw.n
  have pre : ∀ y, f_X10_within n 120 a b M = (obd (f_X10_isNode 120 a M) fun r9 => if r9 = 0 then some ((-1 : Int32), M) else obd (f_X10_isIn b (2 : Int32) (8 : Int32) M) fun r13 => if r13 = 0 then some ((-1 : Int32), M) else if (nI K + b) ≤ (16 : Int32) then f_X10_within_40 n 120 a b (nI K) (0 : Int32) M else some ((-1 : Int32), M)) ∨ y := fun y => Or.inl (by
    rw [f_X10_within, rs_f r.1, rs_0 r.1, bnd_e, rs_fa r.1, rs_c0 r.1, cl0, r.N hN, nI_pred, bnd_e])
  have pr := (pre False).resolve_right id
  rcases out_in (N := K + 1) (by omega) a with ha | ⟨k, hk, rfl⟩
  · refine Okk.same w (r := -1) ?_ ?_
    · rw [f_X9_within, chk_t xg.1, xg.2.1, bnd_e, sb.f, ndc0 sb ha, obd_s, if_pos rfl]
    · show f_X10_within n 120 a b M = _
      rw [pr, ndr0 r hN (by omega) h16 ha, obd_s, if_pos rfl]
  · rcases rng3 (L := 2) (N := 8) (by decide) (by decide) b with hb | ⟨m, hm1, hm2, rfl⟩
    · refine Okk.same w (r := -1) ?_ ?_
      · rw [f_X9_within, chk_t xg.1, xg.2.1, bnd_e, sb.f, ndc sb hk h16, obd_s, if_neg ne10]
        by_cases c : b < (2 : Int32)
        · rw [if_pos c]
        · rw [if_neg c, if_pos (show (8 : Int32) < b from gt3 (N := 8) (by decide) (hb.resolve_left c))]
      · show f_X10_within n 120 (nI k) b M = _
        rw [pr, ndr r hN hk h16, obd_s, if_neg ne10, show f_X10_isIn b (2 : Int32) (8 : Int32) M = some 0 from is_out3 (L := 2) (N := 8) (by decide) hb, obd_s, if_pos rfl]
    · by_cases c : K + m ≤ 16
      · obtain ⟨M1, e1, m1⟩ := mc_within (n := n) sb (show k ≤ K by omega) hm1 hm2 c (by omega)
        obtain ⟨M2, e2, io, rk, r2, ⟨xg2, sb2⟩, fin⟩ := w.mk (n := n) m1 (by omega) c (Or.inl rfl) (fun z => absurd z (by decide)) (wiC_b sw.bi (by omega) hm1 hm2 c) ⟨wiC_nz sw.tb.1 (by omega) hm1 hm2 c, fun z => absurd z (by decide)⟩ (by omega)
        obtain ⟨M3, e3, s3, i3, i120, f3⟩ := rm_within (n := n) r2 hN (show k ≤ K by omega) hm1 hm2 c (by omega)
        refine ⟨nI (K + m), M2, M3, ?_, io, e3, fin M3 s3 i3 i120 f3⟩
        rw [f_X9_within, chk_t xg.1, xg.2.1, bnd_e, sb.f, ndc sb hk h16, obd_s, if_neg ne10, if_neg (show ¬ nI m < (2 : Int32) from nI_nlt (b := 2) hm1 (by omega)), if_neg (show ¬ (8 : Int32) < nI m from nI_nlt (a := 8) (b := m) hm2 (by omega)), bnd_e, sb.f, sb.n, show nI (K + 1) - (1 : Int32) = nI K from nI_pred K, nI_add, if_pos (show nI (K + m) ≤ (16 : Int32) from nI_le (b := 16) c (by decide)), bnd_e, sb.f, e1, obd_s, chk_t (xg.s (Shp1.e m1.1)).1, e2, obd2_s]
      · have g : ¬ nI (K + m) ≤ (16 : Int32) := nI_ge (a := 16) (b := K + m) (by omega) (by omega)
        refine Okk.same w (r := -1) ?_ ?_
        · rw [f_X9_within, chk_t xg.1, xg.2.1, bnd_e, sb.f, ndc sb hk h16, obd_s, if_neg ne10, if_neg (show ¬ nI m < (2 : Int32) from nI_nlt (b := 2) hm1 (by omega)), if_neg (show ¬ (8 : Int32) < nI m from nI_nlt (a := 8) (b := m) hm2 (by omega)), bnd_e, sb.f, sb.n, show nI (K + 1) - (1 : Int32) = nI K from nI_pred K, nI_add, if_neg g]
        · show f_X10_within n 120 (nI k) (nI m) M = _
          rw [pr, ndr r hN hk h16, obd_s, if_neg ne10, show f_X10_isIn (nI m) (2 : Int32) (8 : Int32) M = some 1 from is_in3 (L := 2) (N := 8) (by decide) hm1 hm2, obd_s, if_neg ne10, nI_add, if_neg g]
