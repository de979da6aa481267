/-! ===== equal answers: meeting ===== -/
theorem low_dec : ∀ m : Nat, m ≠ 0 → ∃ k q, m = 2 ^ k * (2 * q + 1) := by
  intro m
  induction m using Nat.strongRecOn with
  | ind m ih =>
    intro h
    by_cases c : m % 2 = 1
    · exact ⟨0, m / 2, by rw [Nat.pow_zero, Nat.one_mul]; omega⟩
    · obtain ⟨k, q, e⟩ := ih (m / 2) (by omega) (by omega)
      refine ⟨k + 1, q, ?_⟩
      have e2 : m = 2 * (m / 2) := by omega
      have e3 : 2 * (2 ^ k * (2 * q + 1)) = 2 ^ (k + 1) * (2 * q + 1) := by rw [Nat.pow_succ, Nat.mul_comm (2 ^ k) 2, Nat.mul_assoc]
      rw [← e3, ← e]
      exact e2
theorem low_and {k q : Nat} (hm : 2 ^ k * (2 * q + 1) < 2 ^ 64) : (2 ^ k * (2 * q + 1)) &&& (2 ^ 64 - 2 ^ k * (2 * q + 1)) = 2 ^ k := by
  have hp : 0 < 2 ^ k := Nat.two_pow_pos k
  have hl : 2 ^ k - 1 < 2 ^ k := by omega
  have e : 2 ^ k * (2 * q + 1) = (2 ^ k * (2 * q) + (2 ^ k - 1)) + 1 := by
    rw [Nat.mul_add, Nat.mul_one, Nat.add_assoc]
    congr 1
    omega
  have hk : k < 64 := by
    apply Decidable.byContradiction
    intro c
    have h1 : 2 ^ 64 ≤ 2 ^ k := Nat.pow_le_pow_right (by decide) (by omega)
    have h2 : 2 ^ k ≤ 2 ^ k * (2 * q + 1) := Nat.le_mul_of_pos_right _ (by omega)
    omega
  have hx : 2 ^ k * (2 * q) + (2 ^ k - 1) < 2 ^ 64 := by omega
  have B : ∀ i, (2 ^ 64 - 2 ^ k * (2 * q + 1)).testBit i = (decide (i < 64) && !(if i < k then true else (2 * q).testBit (i - k))) := by
    intro i
    rw [e, Nat.testBit_two_pow_sub_succ hx, Nat.testBit_two_pow_mul_add _ hl]
    by_cases c : i < k
    · rw [if_pos c, if_pos c, Nat.testBit_two_pow_sub_one, decide_eq_true c]
    · rw [if_neg c, if_neg c]
  have A : ∀ i, (2 ^ k * (2 * q + 1)).testBit i = (decide (i ≥ k) && (2 * q + 1).testBit (i - k)) := fun i => Nat.testBit_two_pow_mul
  apply Nat.eq_of_testBit_eq
  intro i
  rw [Nat.testBit_and, A, B, Nat.testBit_two_pow]
  by_cases c : i < k
  · rw [decide_eq_false (show ¬ i ≥ k by omega), Bool.false_and, Bool.false_and, decide_eq_false (show ¬ k = i by omega)]
  · rw [if_neg c, decide_eq_true (show i ≥ k by omega), Bool.true_and]
    obtain ⟨j, rfl⟩ : ∃ j, i = k + j := ⟨i - k, by omega⟩
    rw [show k + j - k = j by omega]
    match j with
    | 0 =>
      rw [Nat.testBit_zero, Nat.testBit_zero, decide_eq_true (show (2 * q + 1) % 2 = 1 by omega), decide_eq_false (show ¬ 2 * q % 2 = 1 by omega), decide_eq_true (show k + 0 < 64 by omega), decide_eq_true (show k = k + 0 by omega)]
      rfl
    | j + 1 =>
      rw [Nat.testBit_add_one, Nat.testBit_add_one, show (2 * q + 1) / 2 = q by omega, show 2 * q / 2 = q by omega, decide_eq_false (show ¬ k = k + (j + 1) by omega)]
      cases q.testBit j <;> cases decide (k + (j + 1) < 64) <;> rfl
theorem i64_nI {m : Nat} (hm : m < 65536) : ((nI m).toInt64).toBitVec = BitVec.ofNat 64 m := by
  have h0 : ((nI m).toInt64).toBitVec = (BitVec.ofNat 32 m).signExtend 64 := rfl
  rw [h0]
  apply BitVec.eq_of_getLsbD_eq
  intro i hi
  have big : ∀ j, 16 ≤ j → m.testBit j = false := fun j hj => Nat.testBit_lt_two_pow (Nat.lt_of_lt_of_le hm (Nat.pow_le_pow_right (n := 2) (by decide) hj))
  rw [BitVec.getLsbD_signExtend, BitVec.getLsbD_ofNat]
  by_cases c : i < 32
  · rw [if_pos c, BitVec.getLsbD_ofNat, decide_eq_true c, decide_eq_true hi]
    rfl
  · rw [if_neg c, BitVec.msb_eq_getLsbD_last, BitVec.getLsbD_ofNat, BitVec.getLsbD_ofNat, big (32 - 1) (by decide), big i (by omega)]
    simp
theorem low_bc : ∀ k, k < 16 → f_J13_bitCount_95d88 (Int64.ofNat (2 ^ k) - (1 : Int64)) memE = some (nI k) := by decide +kernel
theorem f_low {k q : Nat} (hm : 2 ^ k * (2 * q + 1) < 65536) (M : Mem) : f_X9_lowest ((nI (2 ^ k * (2 * q + 1))).toInt64) M = some (nI k) := by
  have hp : 0 < 2 ^ k := Nat.two_pow_pos k
  have h2 : 2 ^ k ≤ 2 ^ k * (2 * q + 1) := Nat.le_mul_of_pos_right _ (by omega)
  have hk : k < 16 := by
    apply Decidable.byContradiction
    intro c
    have h1 : 2 ^ 16 ≤ 2 ^ k := Nat.pow_le_pow_right (by decide) (by omega)
    omega
  have e : (nI (2 ^ k * (2 * q + 1))).toInt64 &&& -(nI (2 ^ k * (2 * q + 1))).toInt64 = Int64.ofNat (2 ^ k) := by
    apply Int64.toBitVec_inj.mp
    rw [Int64.toBitVec_and, Int64.toBitVec_neg, i64_nI hm, show (Int64.ofNat (2 ^ k)).toBitVec = BitVec.ofNat 64 (2 ^ k) from rfl]
    apply BitVec.eq_of_toNat_eq
    rw [BitVec.toNat_and, BitVec.toNat_neg, BitVec.toNat_ofNat, BitVec.toNat_ofNat, Nat.mod_eq_of_lt (show 2 ^ k * (2 * q + 1) < 2 ^ 64 by omega), Nat.mod_eq_of_lt (show 2 ^ 64 - 2 ^ k * (2 * q + 1) < 2 ^ 64 by omega), Nat.mod_eq_of_lt (show 2 ^ k < 2 ^ 64 by omega)]
    exact low_and (by omega)
  have ne : ¬ lg_cmp ((nI (2 ^ k * (2 * q + 1))).toInt64) (0 : Int64) = 0 := by
    intro c
    unfold lg_cmp at c
    have z : (nI (2 ^ k * (2 * q + 1))).toInt64 = 0 := by
      by_cases c1 : (nI (2 ^ k * (2 * q + 1))).toInt64 > 0
      · rw [if_pos c1] at c; exact absurd c (by decide)
      · by_cases c2 : (nI (2 ^ k * (2 * q + 1))).toInt64 = 0
        · exact c2
        · rw [if_neg c1, if_neg c2] at c; exact absurd c (by decide)
    have z2 := congrArg (fun x : Int64 => x.toBitVec.toNat) z
    have z3 : ((nI (2 ^ k * (2 * q + 1))).toInt64).toBitVec.toNat = (0 : Int64).toBitVec.toNat := z2
    rw [i64_nI hm, BitVec.toNat_ofNat, Nat.mod_eq_of_lt (show 2 ^ k * (2 * q + 1) < 2 ^ 64 by omega)] at z3
    have z4 : (0 : Int64).toBitVec.toNat = 0 := rfl
    omega
  rw [f_X9_lowest, if_neg ne, e, show f_J13_bitCount_95d88 (Int64.ofNat (2 ^ k) - (1 : Int64)) M = some (nI k) from low_bc k hk, obd_s]
theorem fst_eq {x : Int32} {k : Nat} (hk : k < 32) (hx : bt x k = true) (hb : ∀ i, i < k → bt x i = false) (M : Mem) : ∀ (d i n : Nat), i + d = k → d + 1 ≤ n → f_X10_first_2 M n x (nI i) = some (nI k) := by
  intro d
  induction d with
  | zero =>
    intro i n hi hn
    obtain ⟨n, rfl⟩ : ∃ m, n = m + 1 := ⟨n - 1, by omega⟩
    obtain rfl : i = k := by omega
    rw [f_X10_first_2, f_has10 _ hk, obd_s, if_pos hx, if_neg ne10]
  | succ d ih =>
    intro i n hi hn
    obtain ⟨n, rfl⟩ : ∃ m, n = m + 1 := ⟨n - 1, by omega⟩
    have f0 := hb i (by omega)
    rw [f_X10_first_2, f_has10 _ (by omega), obd_s, f0, if_neg (show ¬ (false = true) by decide), if_pos rfl, bnd_e, nI_1]
    exact ih (i + 1) n (by omega) (by omega)
theorem eq9 {M : Mem} {i n : Nat} (h : WI i M) (a b : Int32) (hn : 100000 ≤ n) : ∃ r, f_X9_meeting 0 a b M = some r ∧ f_X10_meeting n 120 a b M = some r := by
  obtain ⟨N, A, Q, S, w⟩ := h
  obtain ⟨X, Y, L, p, sb, xg, xr⟩ := id w.1
  have h16 := w.2.2.2.1.n16
  have h2 := w.2.2.2.1.n2
  have hN := w.2.2.2.1.n
  have hB := w.2.2.2.1.bi
  have r := w.2.1
  rcases out_in (N := N) (by omega) a with ha | ⟨k, hk, rfl⟩
  · exact ⟨-1, by rw [f_X9_meeting, chk_t xg.1, xg.2.1, bnd_e, sb.f, ndc0 sb ha, obd_s, if_pos rfl], by rw [f_X10_meeting, rs_f r.1, ndr0 r hN (by omega) h16 ha, obd_s, if_pos rfl]⟩
  · rcases out_in (N := N) (by omega) b with hb | ⟨m, hm, rfl⟩
    · exact ⟨-1, by rw [f_X9_meeting, chk_t xg.1, xg.2.1, bnd_e, sb.f, ndc sb hk h16, obd_s, if_neg ne10, bnd_e, sb.f, ndc0 sb hb, obd_s, if_pos rfl], by rw [f_X10_meeting, rs_f r.1, ndr r hN hk h16, obd_s, if_neg ne10, ndr0 r hN (by omega) h16 hb, obd_s, if_pos rfl]⟩
    · have so : SO (xR S 17 k &&& xR S 17 m) := fun i h1 h2 => by rw [b_and, hB k hk i (by omega) h2, Bool.false_and]
      obtain ⟨g, hg, eg⟩ := so.k
      have C : ∀ x, f_X9_lowest ((nI g).toInt64) M = some x → f_X9_meeting 0 (nI k) (nI m) M = some x := fun x e => by
        rw [f_X9_meeting, chk_t xg.1, xg.2.1, bnd_e, sb.f, ndc sb hk h16, obd_s, if_neg ne10, bnd_e, sb.f, ndc sb hm h16, obd_s, if_neg ne10, bnd_e, sb.f, sb.r2, bnd_e, sb.a2, sb.i2 (by omega), bnd_e, sb.f, sb.r2, bnd_e, sb.a2, sb.i2 (by omega), nI_clamp (show k < 2 ^ 31 by omega), nI_clamp (show m < 2 ^ 31 by omega), sb.b hk, sb.b hm, eg, e, obd_s]
      have R : ∀ y, (if nI g = 0 then some (-1 : Int32) else (obd (f_X10_first n (nI g) M) fun r19 => some r19)) = y → f_X10_meeting n 120 (nI k) (nI m) M = y := fun y e => by
        rw [f_X10_meeting, rs_f r.1, ndr r hN hk h16, obd_s, if_neg ne10, ndr r hN hm h16, obd_s, if_neg ne10, r.base (v := k) (by omega), obd_s, r.base (v := m) (by omega), obd_s, bnd_e, eg]
        exact e
      by_cases g0 : g = 0
      · refine ⟨-1, C _ ?_, R _ (by rw [g0]; exact if_pos rfl)⟩
        rw [g0, f_X9_lowest, if_pos (show lg_cmp ((nI 0).toInt64) (0 : Int64) = 0 from by decide +kernel)]
      · obtain ⟨u, q, e⟩ := low_dec g g0
        have hp : 0 < 2 ^ u := Nat.two_pow_pos u
        have hle : 2 ^ u ≤ 2 ^ u * (2 * q + 1) := Nat.le_mul_of_pos_right _ (by omega)
        have hu : u < 16 := by
          apply Decidable.byContradiction
          intro c
          have h1 : 2 ^ 16 ≤ 2 ^ u := Nat.pow_le_pow_right (by decide) (by omega)
          omega
        have bu : bt (nI g) u = true := by
          rw [bt_nI _ (show u < 32 by omega), e, Nat.testBit_two_pow_mul, Nat.sub_self, Nat.testBit_zero, decide_eq_true (show u ≥ u by omega), decide_eq_true (show (2 * q + 1) % 2 = 1 by omega)]
          rfl
        have bl : ∀ i, i < u → bt (nI g) i = false := fun i hi => by
          rw [bt_nI _ (show i < 32 by omega), e, Nat.testBit_two_pow_mul, decide_eq_false (show ¬ i ≥ u by omega), Bool.false_and]
        refine ⟨nI u, C _ ?_, R _ ?_⟩
        · rw [e]
          exact f_low (by omega) M
        · have z : ¬ nI g = 0 := fun z => g0 ((nI_z (by omega)).mp z)
          rw [if_neg z, f_X10_first, show f_X10_first_2 M n (nI g) 0 = some (nI u) from fst_eq (by omega) bu bl M u 0 n (by omega) (by omega), obd_s]
