/-! ===== within ===== -/
def rpl (b : Int32) (k : Nat) (x : Int32) : Int32 := ((b &&& (((1 : Int32) <<< (nI k &&& 31)) - (1 : Int32))) ||| ((b >>> ((nI k + (1 : Int32)) &&& 31)) <<< (nI k &&& 31))) ||| (if bt b k then x else 0)
theorem f_rpl9 (b x : Int32) {k : Nat} (hk : k < 32) (M : Mem) : f_X7_replaced b (nI k) x M = some (rpl b k x) := by
  rw [f_X7_replaced, bnd_e, bnd_e, f_has9 b hk, obd_s]
  unfold rpl
  cases bt b k
  · rfl
  · rfl
theorem f_rpl10 (b x : Int32) {k K : Nat} (hk : k < 32) (M : Mem) : f_X10_placed b (nI k) (nI K) x M = some (rpl b k (x <<< (nI K &&& 31))) := by
  rw [f_X10_placed, bnd_e, bnd_e, f_has10 b hk, obd_s]
  unfold rpl
  cases bt b k
  · rfl
  · rfl
set_option maxRecDepth 100000 in
theorem md_k : (List.range 16).all (fun v => (List.range 9).all fun m => decide (m < 2) || decide (nI v - nI v / nI m * nI m = nI (v % m))) = true := by decide +kernel
theorem md_e {v m : Nat} (hv : v < 16) (h1 : 2 ≤ m) (h2 : m ≤ 8) : nI v - nI v / nI m * nI m = nI (v % m) := by
  have h := List.all_eq_true.mp (List.all_eq_true.mp md_k v (List.mem_range.mpr hv)) m (List.mem_range.mpr (by omega))
  have h3 : ¬ m < 2 := by omega
  simp only [h3, decide_false, Bool.false_or] at h
  exact of_decide_eq_true h
/-- the base at a place, k's base put in for k, K kept -/
def wiC (S : St) (k m K p : Nat) : Int32 := if p < K then rpl (xR S 17 (if p < k then p else p + 1)) k (mjv ((if p < k then p else p + 1) % m) m <<< (nI K &&& 31)) else rpl (xR S 17 k) k (mjv (p - K) m <<< (nI K &&& 31))
theorem wiC_v {S : St} {k m K v : Nat} (hv : v ≤ K) (hk : k ≤ K) (n : v ≠ k) : wiC S k m K (if v ≤ k then v else v - 1) = rpl (xR S 17 v) k (mjv (v % m) m <<< (nI K &&& 31)) := by
  unfold wiC
  by_cases c : v ≤ k
  · rw [if_pos c, if_pos (show v < K by omega), if_pos (show v < k by omega)]
  · rw [if_neg c, if_pos (show v - 1 < K by omega), if_neg (show ¬ v - 1 < k by omega), show v - 1 + 1 = v by omega]
theorem wiC_j (S : St) (k m K j : Nat) : wiC S k m K (K + j) = rpl (xR S 17 k) k (mjv j m <<< (nI K &&& 31)) := by
  unfold wiC
  rw [if_neg (by omega), show K + j - K = j by omega]
theorem wiC_b {S : St} {k m K : Nat} (hb : BI (K + 1) S) (hk : k ≤ K) (h1 : 2 ≤ m) (h2 : m ≤ 8) (h3 : K + m ≤ 16) : ∀ v, v < K + m → ∀ i, K + m ≤ i → i < 32 → bt (wiC S k m K v) i = false := by
  have main : ∀ b x : Int32, (∀ i, K + 1 ≤ i → i < 32 → bt b i = false) → (∀ i, m ≤ i → bt x i = false) → ∀ i, K + m ≤ i → i < 32 → bt (rpl b k (x <<< (nI K &&& 31))) i = false := by
    intro b x hB hX i hi hi2
    unfold rpl
    rw [b_or, b_or, b_and, hB i (by omega) hi2, Bool.false_and, Bool.false_or, nI_1, b_shl k (by omega) _ hi2, b_sshr (k + 1) (by omega) _ (by omega)]
    have e1 : (if k + 1 + (i - k) < 32 then bt b (k + 1 + (i - k)) else bt b 31) = false := by
      split
      · exact hB _ (by omega) (by omega)
      · exact hB _ (by omega) (by omega)
    rw [e1, Bool.and_false, Bool.false_or]
    split
    · rw [b_shl K (by omega) _ hi2, hX _ (by omega), Bool.and_false]
    · exact b_0 _
  intro v hv i hi hi2
  unfold wiC
  split
  · exact main _ _ (fun i a b => hb _ (by split <;> omega) i a b) (fun i a => bt_bd (maj_e h1 (by omega) (Nat.mod_lt _ (by omega))).2 a) i hi hi2
  · exact main _ _ (fun i a b => hb _ (by omega) i a b) (fun i a => bt_bd (maj_e h1 (by omega) (show v - K < m by omega)).2 a) i hi hi2
theorem rpl_nz {b y : Int32} {k : Nat} (hk : k ≤ 16) (h : ¬ b = 0) (hy : ¬ y = 0) : ¬ rpl b k y = 0 := by
  intro e
  have hz : ∀ i, bt (rpl b k y) i = false := fun i => by rw [e, b_0]
  unfold rpl at hz
  apply h
  apply b_ext
  intro i hi
  rw [b_0]
  cases hb : bt b i
  · rfl
  · exfalso
    rcases Nat.lt_trichotomy i k with c | c | c
    · have := hz i
      rw [b_or, b_or, b_and, hb, all_b hk hi, decide_eq_true c] at this
      simp at this
    · apply hy
      apply b_ext
      intro j hj
      have := hz j
      rw [← c, if_pos hb, b_or] at this
      rw [b_0]
      exact (Bool.or_eq_false_iff.mp this).2
    · have := hz (i - 1)
      rw [b_or, b_or, nI_1, b_shl k (by omega) _ (show i - 1 < 32 by omega), b_sshr (k + 1) (by omega) _ (by omega), if_pos (by omega), show k + 1 + (i - 1 - k) = i by omega, hb, decide_eq_true (show k ≤ i - 1 by omega)] at this
      simp at this
theorem shl_nz {x : Int32} {m K : Nat} (hx : ∀ i, m ≤ i → bt x i = false) (h : ¬ x = 0) (hK : K + m ≤ 16) : ¬ x <<< (nI K &&& 31) = 0 := by
  intro e
  apply h
  apply b_ext
  intro i hi
  rw [b_0]
  rcases Nat.lt_or_ge i m with c | c
  · have := b_shl K (by omega) x (show K + i < 32 by omega)
    rw [e, b_0, decide_eq_true (show K ≤ K + i by omega), show K + i - K = i by omega, Bool.true_and] at this
    exact this.symm
  · exact hx i c
theorem wiC_nz {S : St} {k m K : Nat} (hb : ∀ v, v < K + 1 → ¬ xR S 17 v = 0) (hk : k ≤ K) (h1 : 2 ≤ m) (h2 : m ≤ 8) (h3 : K + m ≤ 16) : ∀ v, v < K + m → ¬ wiC S k m K v = 0 := by
  have mj : ∀ j, j < m → ¬ mjv j m <<< (nI K &&& 31) = 0 := fun j hj => shl_nz (m := m) (fun i a => bt_bd (maj_e h1 (by omega) hj).2 a) (nz_of maj_z (rg_mem h1 (by omega)) hj) h3
  intro v hv
  unfold wiC
  split
  · exact rpl_nz (by omega) (hb _ (by split <;> omega)) (mj _ (Nat.mod_lt _ (by omega)))
  · exact rpl_nz (by omega) (hb _ (by omega)) (mj _ (by omega))
theorem Lp.app {M0 M1 M2 : Mem} {o c a b : Nat} {C : Nat → Int32} (l : Lp M0 o c C a M1) (r : Lp M1 o (c + a) (fun j => C (a + j)) b M2) : Lp M0 o c C (a + b) M2 := by
  obtain ⟨l1, l2, l3, l4, l5⟩ := l
  obtain ⟨r1, r2, r3, r4, r5⟩ := r
  refine ⟨r1.trans l1, fun v hv => ?_, fun x hx => ?_, fun y n x => (r4 y n x).trans (l4 y n x), fun y x => (r5 y x).trans (l5 y x)⟩
  · by_cases e : v < a
    · rw [r3 _ (by omega)]; exact l2 v e
    · have := r2 (v - a) (by omega)
      rw [show c + a + (v - a) = c + v by omega] at this
      rw [this]
      show C (a + (v - a)) = C v
      rw [show a + (v - a) = v by omega]
  · rw [r3 x (by omega), l3 x (by omega)]
theorem nI_m1' {v : Nat} (h : 1 ≤ v) : nI v - (1 : Int32) = nI (v - 1) := by
  obtain ⟨u, rfl⟩ : ∃ u, v = u + 1 := ⟨v - 1, by omega⟩
  rw [nI_pred]; rfl
section
variable {S : St} {k m K : Nat}
theorem wi_34 {M1 : Mem} (z1 : SZ M1) (m3 : ∀ v, v < K + 1 → mI M1 3 v = xR S 17 v) (hk : k ≤ K) (h1 : 2 ≤ m) (h2 : m ≤ 8) (h3 : K + m ≤ 16) : ∀ (d v n : Nat) (M : Mem), v + d = K + 1 → Lp M1 2 0 (wiC S k m K) (if v ≤ k then v else v - 1) M → d + 30 ≤ n → ∃ M' n', f_X7_makeWithin_34 n 1 (nI k) (nI m) (nI K) (nI v) M = f_X7_makeWithin_100 n' 1 (nI k) (nI m) (nI K) (nI 0) M' ∧ Lp M1 2 0 (wiC S k m K) K M' ∧ 29 ≤ n' := by
  intro d
  induction d with
  | zero =>
    intro v n M hv l hn
    obtain ⟨n, rfl⟩ : ∃ m, n = m + 1 := ⟨n - 1, by omega⟩
    refine ⟨M, n, ?_, ?_, by omega⟩
    · rw [f_X7_makeWithin_34, if_pos (nI_lt (by omega) (by omega))]
      rfl
    · rw [if_neg (by omega), show v - 1 = K by omega] at l
      exact l
  | succ d ih =>
    intro v n M hv l hn
    obtain ⟨n, rfl⟩ : ∃ m, n = m + 1 := ⟨n - 1, by omega⟩
    have z := z1.e l.1
    by_cases c : v = k
    · obtain ⟨M', n', e, l', hn'⟩ := ih (v + 1) n M (by omega) (by
        rw [if_neg (by omega), show v + 1 - 1 = v by omega]
        rw [if_pos (by omega)] at l
        exact l) (by omega)
      refine ⟨M', n', ?_, l', hn'⟩
      rw [f_X7_makeWithin_34, if_neg (nI_nlt (by omega) (by omega)), if_pos (by rw [c]), bnd_e, nI_1]
      exact e
    · have hu : (if v ≤ k then v else v - 1) < 16 := by split <;> omega
      have wc : Wc 2 (0 + (if v ≤ k then v else v - 1)) (wiC S k m K (if v ≤ k then v else v - 1)) M (sI M 2 (if v ≤ k then v else v - 1) (wiC S k m K (if v ≤ k then v else v - 1))) := by rw [Nat.zero_add]; exact Wc.s _ _ _ _
      obtain ⟨M', n', e, l', hn'⟩ := ih (v + 1) n _ (by omega) (by
        have := l.s wc
        have eq : (if v + 1 ≤ k then v + 1 else v + 1 - 1) = (if v ≤ k then v else v - 1) + 1 := by
          by_cases q : v ≤ k
          · rw [if_pos q, if_pos (by omega)]
          · rw [if_neg q, if_neg (by omega)]; omega
        rw [eq]
        exact this) (by omega)
      refine ⟨M', n', ?_, l', hn'⟩
      have e61 : ∀ u : Int32, u = nI (if v ≤ k then v else v - 1) → f_X7_makeWithin_61 (f_X7_makeWithin_34 n) n 1 (nI k) (nI m) (nI K) (nI v) u M = f_X7_makeWithin_34 n 1 (nI k) (nI m) (nI K) (nI (v + 1)) (sI M 2 (if v ≤ k then v else v - 1) (wiC S k m K (if v ≤ k then v else v - 1))) := by
        intro u hu'
        have v3 : mI M 3 v = xR S 17 v := by rw [l.2.2.2.1 3 (by decide)]; exact m3 v (by omega)
        rw [f_X7_makeWithin_61, z.f, z.r2, bnd_e, z.a2, z.r3, bnd_e, z.a3, z.i3 (by omega), chk_t (nI_n0 (by omega) (by omega)), md_e (by omega) h1 h2, f_maj9 h1 (by omega) (Nat.mod_lt _ (by omega)) (by omega), obd_s, mI_c (by omega), v3, f_rpl9 _ _ (by omega), obd_s, hu', z.i2 hu, sI_c (by omega), wiC_v (by omega) hk c, bnd_e, bnd_e, nI_1]
      rw [f_X7_makeWithin_34, if_neg (nI_nlt (by omega) (by omega)), if_neg (nI_ne (by omega) (by omega) c)]
      by_cases q : k ≤ v
      · rw [if_pos (nI_le q (by omega)), e61 (nI v - 1) (by rw [nI_m1' (by omega), if_neg (by omega)])]
        exact e
      · rw [if_neg (nI_ge (by omega) (by omega)), e61 (nI v) (by rw [if_pos (by omega)])]
        exact e
theorem mc_within {M : Mem} {n : Nat} (sb : SB M (K + 1) S) (hk : k ≤ K) (h1 : 2 ≤ m) (h2 : m ≤ 8) (h3 : K + m ≤ 16) (hn : 200 ≤ n) : ∃ M', f_X7_makeWithin n 1 (nI k) (nI m) M = some M' ∧ MC (K + m) (wiC S k m K) 0 M M' := by
  have z := sb.z
  generalize hMa : cpI M 2 0 3 0 (K + 1) = Ma
  have sa : Ma.1 = M.1 := by rw [← hMa]; rfl
  have za := z.e sa
  have a3 : ∀ v, v < K + 1 → mI Ma 3 v = xR S 17 v := fun v hv => by rw [← hMa, cp_I, if_pos ⟨rfl, hv⟩]; exact sb.b hv
  have ao : ∀ o, o ≠ 3 → ∀ b, mI Ma o b = mI M o b := fun o n b => by rw [← hMa, cp_I, if_neg (fun z => n z.1)]
  obtain ⟨M1, e1, b1⟩ := za.bg (N := K + m) (n := n) (by omega)
  have z1 := za.e b1.1
  obtain ⟨M2, n2, e2, l2, hn2⟩ := wi_34 (S := S) (k := k) (m := m) (K := K) z1 (fun v hv => by rw [b1.2.2.2.2.1 3 (by decide) (by decide)]; exact a3 v hv) hk h1 h2 h3 (K + 1) 0 n M1 (by omega) (by rw [if_pos (Nat.zero_le _)]; exact Lp.r _ _ _ _) (by omega)
  have z2 := z1.e l2.1
  have r3 : mI M2 3 k = xR S 17 k := by rw [l2.2.2.2.1 3 (by decide), b1.2.2.2.2.1 3 (by decide) (by decide)]; exact a3 k (by omega)
  obtain ⟨M3, e3, l3⟩ := lpw (F := fun n x M => f_X7_makeWithin_100 n 1 (nI k) (nI m) (nI K) x M) (G := some) (M0 := M2) (o := 2) (c := 0 + K) (N := m) (K := 13) (C := fun j => wiC S k m K (K + j)) (fun i n M hi l hn => by
    have zz := z2.e l.1
    refine ⟨sI M 2 (K + i) (wiC S k m K (K + i)), ?_, by rw [show 0 + K + i = K + i by omega]; exact Wc.s _ _ _ _⟩
    show f_X7_makeWithin_100 (n + 1) 1 (nI k) (nI m) (nI K) (nI i) M = _
    rw [f_X7_makeWithin_100, if_neg (nI_ge hi (by omega)), zz.f, zz.r2, bnd_e, zz.a2, zz.r3, bnd_e, zz.a3, zz.i3 (by omega), f_maj9 h1 (by omega) hi (by omega), obd_s, mI_c (by omega), l.2.2.2.1 3 (by decide), r3, f_rpl9 _ _ (by omega), obd_s, nI_add, zz.i2 (by omega), sI_c (by omega), ← wiC_j, bnd_e, bnd_e, nI_1]) (fun n M l => by
    show f_X7_makeWithin_100 (n + 1) 1 (nI k) (nI m) (nI K) (nI m) M = _
    rw [f_X7_makeWithin_100, if_pos (nI_le (Nat.le_refl _) (by omega))]) m 0 n2 M2 (by omega) (Lp.r _ _ _ _) (by omega)
  have m1 := b1.mc (l2.app l3)
  refine ⟨M3, ?_, m1.1.trans sa, fun o ho b => by rw [m1.2.1 o ho, ao o (by omega)], m1.2.2.1, m1.2.2.2.1, m1.2.2.2.2.1, fun o b => by rw [m1.2.2.2.2.2, ← hMa]; rfl⟩
  rw [f_X7_makeWithin, z.f, sb.n, show nI (K + 1) - (1 : Int32) = nI K from nI_pred K, bnd_e, z.r2, bnd_e, z.a2, z.r3, bnd_e, z.a3, cp_st (la := mLn M 2) (lb := mLn M 3) (n := K + 1) _ (by rw [z.2.2.1]; omega) (by rw [z.2.2.2]; omega) (by omega), hMa, nI_add, e1, obd_s, show (0 : Int32) = nI 0 from rfl, e2]
  exact e3
end
