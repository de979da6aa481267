/-! ===== questions, the class: each answers ===== -/
section
variable {M : Mem} {N : Nat} {S : St}
theorem cld_l (sb : SB M N S) (h16 : N ≤ 16) {k : Nat} (hk : k < 32) : ∀ (d i n : Nat) (c : Int32), i + d = N → d + 1 ≤ n → ∃ r, f_X7_loadOf_4 M n 1 (nI k) c (nI i) = some r := by
  intro d
  induction d with
  | zero =>
    intro i n c hi hn
    obtain ⟨n, rfl⟩ : ∃ m, n = m + 1 := ⟨n - 1, by omega⟩
    exact ⟨c, by rw [f_X7_loadOf_4, sb.f, sb.n, if_pos (nI_le (by omega) (by omega))]⟩
  | succ d ih =>
    intro i n c hi hn
    obtain ⟨n, rfl⟩ : ∃ m, n = m + 1 := ⟨n - 1, by omega⟩
    rw [f_X7_loadOf_4, sb.f, sb.n, if_neg (nI_ge (by omega) (by omega)), sb.r2, bnd_e, sb.a2, sb.i2 (by omega), f_has9 _ hk, obd_s]
    split
    · rw [bnd_e, nI_1]; exact ih (i + 1) n _ (by omega) (by omega)
    · rw [bnd_e, bnd_e, nI_1]; exact ih (i + 1) n _ (by omega) (by omega)
theorem SB.ld (sb : SB M N S) (h16 : N ≤ 16) {k : Nat} (hk : k < 32) {n : Nat} (hn : 20 ≤ n) : ∃ r, f_X7_loadOf n 1 (nI k) M = some r := by
  rw [f_X7_loadOf, show (0 : Int32) = nI 0 from rfl]
  exact cld_l sb h16 hk N 0 n _ (by omega) (by omega)
theorem csl_l (sb : SB M N S) (h16 : N ≤ 16) : ∀ (d i n : Nat), i + d = N → d + 21 ≤ n → ∃ r, f_X7_sameLoads_2 M n 1 (nI i) = some r := by
  intro d
  induction d with
  | zero =>
    intro i n hi hn
    obtain ⟨n, rfl⟩ : ∃ m, n = m + 1 := ⟨n - 1, by omega⟩
    exact ⟨1, by rw [f_X7_sameLoads_2, sb.f, sb.n, if_pos (nI_le (by omega) (by omega))]⟩
  | succ d ih =>
    intro i n hi hn
    obtain ⟨n, rfl⟩ : ∃ m, n = m + 1 := ⟨n - 1, by omega⟩
    obtain ⟨r1, e1⟩ := sb.ld h16 (k := i) (by omega) (n := n) (by omega)
    obtain ⟨r2, e2⟩ := sb.ld h16 (k := 0) (by omega) (n := n) (by omega)
    rw [f_X7_sameLoads_2, sb.f, sb.n, if_neg (nI_ge (by omega) (by omega)), e1, obd_s, show (0 : Int32) = nI 0 from rfl, e2, obd_s]
    split
    · rw [bnd_e, nI_1]; exact ih (i + 1) n (by omega) (by omega)
    · exact ⟨_, rfl⟩
theorem bc_s (x : Int32) (M : Mem) : ∃ r, f_J6_bitCount_0f7a4 x M = some r := ⟨_, rfl⟩
theorem cls_l (sb : SB M N S) (h16 : N ≤ 16) : ∀ (d i n : Nat) (c : Int32), i + d = N → d + 1 ≤ n → ∃ r, f_X7_leastSize_5 M n 1 c (nI i) = some r := by
  intro d
  induction d with
  | zero =>
    intro i n c hi hn
    obtain ⟨n, rfl⟩ : ∃ m, n = m + 1 := ⟨n - 1, by omega⟩
    exact ⟨c, by rw [f_X7_leastSize_5, sb.f, sb.n, if_pos (nI_le (by omega) (by omega))]⟩
  | succ d ih =>
    intro i n c hi hn
    obtain ⟨n, rfl⟩ : ∃ m, n = m + 1 := ⟨n - 1, by omega⟩
    obtain ⟨r, e⟩ := bc_s (mI M 2 (nI i).toNatClampNeg) M
    rw [f_X7_leastSize_5, sb.f, sb.n, if_neg (nI_ge (by omega) (by omega)), sb.r2, bnd_e, sb.a2, sb.i2 (by omega), e, obd_s, bnd_e, bnd_e, nI_1]
    exact ih (i + 1) n _ (by omega) (by omega)
theorem cgs_l (sb : SB M N S) (h16 : N ≤ 16) : ∀ (d i n : Nat) (c : Int32), i + d = N → d + 1 ≤ n → ∃ r, f_X7_greatestSize_4 M n 1 c (nI i) = some r := by
  intro d
  induction d with
  | zero =>
    intro i n c hi hn
    obtain ⟨n, rfl⟩ : ∃ m, n = m + 1 := ⟨n - 1, by omega⟩
    exact ⟨c, by rw [f_X7_greatestSize_4, sb.f, sb.n, if_pos (nI_le (by omega) (by omega))]⟩
  | succ d ih =>
    intro i n c hi hn
    obtain ⟨n, rfl⟩ : ∃ m, n = m + 1 := ⟨n - 1, by omega⟩
    obtain ⟨r, e⟩ := bc_s (mI M 2 (nI i).toNatClampNeg) M
    rw [f_X7_greatestSize_4, sb.f, sb.n, if_neg (nI_ge (by omega) (by omega)), sb.r2, bnd_e, sb.a2, sb.i2 (by omega), e, obd_s, bnd_e, bnd_e, nI_1]
    exact ih (i + 1) n _ (by omega) (by omega)
theorem ccm_l (sb : SB M N S) (h16 : N ≤ 16) : ∀ (d i n : Nat) (c : Int32), i + d = N → d + 1 ≤ n → ∃ r, f_X7_common_7 M n 1 c (nI i) = some r := by
  intro d
  induction d with
  | zero =>
    intro i n c hi hn
    obtain ⟨n, rfl⟩ : ∃ m, n = m + 1 := ⟨n - 1, by omega⟩
    exact ⟨c, by rw [f_X7_common_7, sb.f, sb.n, if_pos (nI_le (by omega) (by omega))]⟩
  | succ d ih =>
    intro i n c hi hn
    obtain ⟨n, rfl⟩ : ∃ m, n = m + 1 := ⟨n - 1, by omega⟩
    rw [f_X7_common_7, sb.f, sb.n, if_neg (nI_ge (by omega) (by omega)), sb.r2, bnd_e, sb.a2, sb.i2 (by omega), bnd_e, bnd_e, nI_1]
    exact ih (i + 1) n _ (by omega) (by omega)
theorem SB.lsz (sb : SB M N S) (h16 : N ≤ 16) {n : Nat} (hn : 20 ≤ n) : ∃ r, f_X7_leastSize n 1 M = some r := by
  rw [f_X7_leastSize, show (0 : Int32) = nI 0 from rfl]
  exact cls_l sb h16 N 0 n _ (by omega) (by omega)
theorem SB.gsz (sb : SB M N S) (h16 : N ≤ 16) {n : Nat} (hn : 20 ≤ n) : ∃ r, f_X7_greatestSize n 1 M = some r := by
  rw [f_X7_greatestSize, show f_X7_greatestSize_4 M n 1 0 0 = f_X7_greatestSize_4 M n 1 0 (nI 0) from rfl]
  exact cgs_l sb h16 N 0 n _ (by omega) (by omega)
theorem SB.cmn (sb : SB M N S) (h16 : N ≤ 16) {n : Nat} (hn : 20 ≤ n) : ∃ r, f_X7_common n 1 M = some r := by
  rw [f_X7_common, sb.f, f_X7_allNodes, sb.f, obd_s, show (0 : Int32) = nI 0 from rfl]
  exact ccm_l sb h16 N 0 n _ (by omega) (by omega)
theorem cin_l (sb : SB M N S) (h16 : N ≤ 16) {k : Nat} (hk : k < N) : ∀ (d i n : Nat), i + d = N → d + 1 ≤ n → ∃ r, f_X7_isNeedless_2 M n 1 (nI k) (nI i) = some r := by
  intro d
  induction d with
  | zero =>
    intro i n hi hn
    obtain ⟨n, rfl⟩ : ∃ m, n = m + 1 := ⟨n - 1, by omega⟩
    exact ⟨0, by rw [f_X7_isNeedless_2, sb.f, sb.n, if_pos (nI_le (by omega) (by omega))]⟩
  | succ d ih =>
    intro i n hi hn
    obtain ⟨n, rfl⟩ : ∃ m, n = m + 1 := ⟨n - 1, by omega⟩
    have nx := ih (i + 1) n (by omega) (by omega)
    have e38 : ∀ u, ∃ r, f_X7_isNeedless_38 (f_X7_isNeedless_2 M n) M n 1 (nI k) (nI i) u = some r := fun u => by
      rw [f_X7_isNeedless_38]
      split
      · rw [bnd_e, nI_1]; exact nx
      · rw [sb.f, sb.r2, bnd_e, sb.a2, sb.i2 (by omega), bnd_e, sb.a2, sb.i2 (by omega)]
        split
        · split
          · rw [bnd_e, nI_1]; exact nx
          · exact ⟨_, rfl⟩
        · exact ⟨_, rfl⟩
    rw [f_X7_isNeedless_2, sb.f, sb.n, if_neg (nI_ge (by omega) (by omega))]
    split
    · exact e38 _
    · rw [sb.r2, bnd_e, sb.a2, sb.i2 (by omega), bnd_e, sb.a2, sb.i2 (by omega)]
      split
      · exact e38 _
      · exact e38 _
theorem cnl_l (sb : SB M N S) (h16 : N ≤ 16) : ∀ (d i n : Nat) (c : Int32), i + d = N → d + 21 ≤ n → ∃ r, f_X7_countNeedless_4 M n 1 c (nI i) = some r := by
  intro d
  induction d with
  | zero =>
    intro i n c hi hn
    obtain ⟨n, rfl⟩ : ∃ m, n = m + 1 := ⟨n - 1, by omega⟩
    exact ⟨c, by rw [f_X7_countNeedless_4, sb.f, sb.n, if_pos (nI_le (by omega) (by omega))]⟩
  | succ d ih =>
    intro i n c hi hn
    obtain ⟨n, rfl⟩ : ∃ m, n = m + 1 := ⟨n - 1, by omega⟩
    obtain ⟨r, e⟩ := cin_l sb h16 (k := i) (by omega) N 0 n (by omega) (by omega)
    rw [f_X7_countNeedless_4, sb.f, sb.n, if_neg (nI_ge (by omega) (by omega)), f_X7_isNeedless, show f_X7_isNeedless_2 M n 1 (nI i) 0 = some r from e, obd_s]
    split
    · rw [bnd_e, nI_1]; exact ih (i + 1) n _ (by omega) (by omega)
    · rw [bnd_e, bnd_e, nI_1]; exact ih (i + 1) n _ (by omega) (by omega)
end
section
variable {M : Mem} {N A i : Nat} {Q : Nat → Int32} {S : St}
theorem WJ.c11 (w : WJ M N A i Q S) (a : Int32) {n : Nat} (hn : 100 ≤ n) : ∃ r, f_X9_load n 0 a M = some r := by
  obtain ⟨X, Y, L, p, sb, xg, xr⟩ := id w.1
  have h16 := w.2.2.2.1.n16
  rcases out_in (N := N) (by omega) a with ha | ⟨k, hk, rfl⟩
  · exact ⟨-1, by rw [f_X9_load, chk_t xg.1, xg.2.1, bnd_e, sb.f, ndc0 sb ha, obd_s, if_pos rfl]⟩
  · obtain ⟨r, e⟩ := sb.ld h16 (k := k) (by omega) (n := n) (by omega)
    exact ⟨r, by rw [f_X9_load, chk_t xg.1, xg.2.1, bnd_e, sb.f, ndc sb hk h16, obd_s, if_neg ne10, bnd_e, sb.f, e, obd_s]⟩
theorem WJ.c14 (w : WJ M N A i Q S) {n : Nat} (hn : 100 ≤ n) : ∃ r, f_X9_needless n 0 M = some r := by
  obtain ⟨X, Y, L, p, sb, xg, xr⟩ := id w.1
  obtain ⟨r, e⟩ := cnl_l sb w.2.2.2.1.n16 N 0 n 0 (by omega) (by have := w.2.2.2.1.n16; omega)
  exact ⟨r, by rw [f_X9_needless, chk_t xg.1, xg.2.1, bnd_e, sb.f, f_X7_countNeedless, show f_X7_countNeedless_4 M n 1 0 0 = some r from e, obd_s]⟩
theorem WJ.c17 (w : WJ M N A i Q S) (a : Int32) {n : Nat} (hn : 100 ≤ n) : ∃ r, f_X9_sizes n 0 a M = some r := by
  obtain ⟨X, Y, L, p, sb, xg, xr⟩ := id w.1
  have h16 := w.2.2.2.1.n16
  obtain ⟨r1, e1⟩ := sb.lsz h16 (n := n) (by omega)
  obtain ⟨r2, e2⟩ := sb.gsz h16 (n := n) (by omega)
  obtain ⟨r3, e3⟩ := sb.cmn h16 (n := n) (by omega)
  obtain ⟨r4, e4⟩ := bc_s r3 M
  rw [f_X9_sizes]
  split
  · exact ⟨r1, by rw [chk_t xg.1, xg.2.1, bnd_e, sb.f, e1, obd_s]⟩
  · split
    · exact ⟨r2, by rw [chk_t xg.1, xg.2.1, bnd_e, sb.f, e2, obd_s]⟩
    · split
      · exact ⟨r4, by rw [chk_t xg.1, xg.2.1, bnd_e, sb.f, e3, obd_s, e4, obd_s]⟩
      · exact ⟨_, rfl⟩
theorem WJ.c19 (w : WJ M N A i Q S) {n : Nat} (hn : 100 ≤ n) : ∃ r, f_X9_fair n 0 M = some r := by
  obtain ⟨X, Y, L, p, sb, xg, xr⟩ := id w.1
  have h16 := w.2.2.2.1.n16
  have h2 := w.2.2.2.1.n2
  obtain ⟨r1, e1⟩ := sb.lsz h16 (n := n) (by omega)
  obtain ⟨r2, e2⟩ := sb.gsz h16 (n := n) (by omega)
  obtain ⟨r3, e3⟩ := csl_l sb h16 (N - 1) 1 n (by omega) (by omega)
  rw [f_X9_fair, chk_t xg.1, xg.2.1, bnd_e, sb.f, e1, obd_s, bnd_e, sb.f, e2, obd_s]
  split
  · rw [bnd_e, sb.f, f_X7_sameLoads, show f_X7_sameLoads_2 M n 1 1 = some r3 from e3, obd_s]
    split
    · exact ⟨_, rfl⟩
    · exact ⟨_, rfl⟩
  · exact ⟨_, rfl⟩
theorem WJ.c9 (w : WJ M N A i Q S) (a b : Int32) : ∃ r, f_X9_meeting 0 a b M = some r := by
  obtain ⟨X, Y, L, p, sb, xg, xr⟩ := id w.1
  have h16 := w.2.2.2.1.n16
  rcases out_in (N := N) (by omega) a with ha | ⟨k, hk, rfl⟩
  · exact ⟨-1, by rw [f_X9_meeting, chk_t xg.1, xg.2.1, bnd_e, sb.f, ndc0 sb ha, obd_s, if_pos rfl]⟩
  · rcases out_in (N := N) (by omega) b with hb | ⟨m, hm, rfl⟩
    · exact ⟨-1, by rw [f_X9_meeting, chk_t xg.1, xg.2.1, bnd_e, sb.f, ndc sb hk h16, obd_s, if_neg ne10, bnd_e, sb.f, ndc0 sb hb, obd_s, if_pos rfl]⟩
    · have lw : ∀ x, ∃ r, f_X9_lowest x M = some r := fun x => by
        rw [f_X9_lowest]
        split
        · exact ⟨_, rfl⟩
        · exact ⟨_, rfl⟩
      obtain ⟨r, e⟩ := lw (((mI M 2 (nI k).toNatClampNeg) &&& (mI M 2 (nI m).toNatClampNeg))).toInt64
      exact ⟨r, by rw [f_X9_meeting, chk_t xg.1, xg.2.1, bnd_e, sb.f, ndc sb hk h16, obd_s, if_neg ne10, bnd_e, sb.f, ndc sb hm h16, obd_s, if_neg ne10, bnd_e, sb.f, sb.r2, bnd_e, sb.a2, sb.i2 (by omega), bnd_e, sb.f, sb.r2, bnd_e, sb.a2, sb.i2 (by omega), e, obd_s]⟩
/-- a node's place -/
theorem WJ.pl (w : WJ M N A i Q S) {k : Nat} (hk : k < N) {α : Type} (f : Nat → Option α) : (bnd (mR M 0 2) fun o9 => chk (isO M 2 o9) <| bnd (mR M o9 2) fun o12 => chk (isO M 102 o12) <| chk (inB (nI k) (mLn M o12)) <| bnd (mR M o12 (nI k).toNatClampNeg) fun o16 => chk (isO M 4 o16) <| f o16) = f (14 + 17 + 2 * k) := by
  obtain ⟨X, Y, L, p, sb, xg, xr⟩ := id w.1
  have h16 := w.2.2.2.1.n16
  have q := p.1
  have k6 : k < 16 := by omega
  rw [xg.2.2.2.1, bnd_e, cs_f q, cs_h2 q, bnd_e, cs_a10 q, cs_i10 q k6, cs_rpc q k6, bnd_e, cs_po q k6]
theorem WJ.c27 (w : WJ M N A i Q S) (a b : Int32) : ∃ r, f_X9_node 0 a b M = some r := by
  obtain ⟨X, Y, L, p, sb, xg, xr⟩ := id w.1
  have h16 := w.2.2.2.1.n16
  rcases out_in (N := N) (by omega) a with ha | ⟨k, hk, rfl⟩
  · exact ⟨-1, by rw [f_X9_node, chk_t xg.1, xg.2.1, bnd_e, sb.f, ndc0 sb ha, obd_s, if_pos rfl]⟩
  · obtain ⟨s7, s8, s9⟩ := has_st p (k := k) (by omega)
    generalize (if xR S 0 k = 2 then (1 : Int32) else 0) = z7 at s7
    generalize (if xR S 0 k = 1 then (1 : Int32) else 0) = z8 at s8
    generalize (if xR S 7 k = 1 then (1 : Int32) else 0) = z9 at s9
    have hw : ∃ r, f_X2_howIs 14 (nI k) M = some r := by
      rw [f_X2_howIs, cs_f p.1, s7, obd_s, s8, obd_s]
      split
      · split
        · exact ⟨_, rfl⟩
        · exact ⟨_, rfl⟩
      · exact ⟨_, rfl⟩
    obtain ⟨rw', ew⟩ := hw
    rw [f_X9_node, chk_t xg.1, xg.2.1, bnd_e, sb.f, ndc sb hk h16, obd_s, if_neg ne10, w.pl hk]
    split
    · exact ⟨rw', by rw [xg.2.2.2.1, bnd_e, cs_f p.1, ew, obd_s]⟩
    · split
      · exact ⟨_, rfl⟩
      · split
        · exact ⟨_, rfl⟩
        · split
          · exact ⟨_, rfl⟩
          · split
            · exact ⟨_, rfl⟩
            · split
              · exact ⟨_, rfl⟩
              · split
                · rw [xg.2.2.2.1, bnd_e, cs_f p.1, s9, obd_s]
                  split
                  · exact ⟨_, rfl⟩
                  · exact ⟨_, rfl⟩
                · split
                  · exact ⟨_, rfl⟩
                  · exact ⟨_, rfl⟩
theorem WJ.c28 (w : WJ M N A i Q S) (a b : Int32) : ∃ r, f_X9_arbiter 0 a b M = some r := by
  obtain ⟨X, Y, L, p, sb, xg, xr⟩ := id w.1
  have h16 := w.2.2.2.1.n16
  rcases out_in (N := N) (by omega) a with ha | ⟨k, hk, rfl⟩
  · exact ⟨-1, by rw [f_X9_arbiter, chk_t xg.1, xg.2.1, bnd_e, sb.f, ndc0 sb ha, obd_s, if_pos rfl]⟩
  · rw [f_X9_arbiter, chk_t xg.1, xg.2.1, bnd_e, sb.f, ndc sb hk h16, obd_s, if_neg ne10, w.pl hk]
    split
    · exact ⟨_, rfl⟩
    · split
      · exact ⟨_, rfl⟩
      · split
        · split
          · exact ⟨_, rfl⟩
          · exact ⟨_, rfl⟩
        · split
          · exact ⟨_, rfl⟩
          · exact ⟨_, rfl⟩
theorem WJ.c32 (w : WJ M N A i Q S) (a : Int32) : ∃ r, f_X9_handled 0 a M = some r := by
  obtain ⟨X, Y, L, p, sb, xg, xr⟩ := id w.1
  have h16 := w.2.2.2.1.n16
  rcases out_in (N := N) (by omega) a with ha | ⟨k, hk, rfl⟩
  · exact ⟨-1, by rw [f_X9_handled, chk_t xg.1, xg.2.1, bnd_e, sb.f, ndc0 sb ha, obd_s, if_pos rfl]⟩
  · rw [f_X9_handled, chk_t xg.1, xg.2.1, bnd_e, sb.f, ndc sb hk h16, obd_s, if_neg ne10, w.pl hk]
    exact ⟨_, rfl⟩
theorem WJ.c36 (w : WJ M N A i Q S) (a : Int32) : ∃ r, f_X9_unheard 0 a M = some r := by
  obtain ⟨X, Y, L, p, sb, xg, xr⟩ := id w.1
  have h16 := w.2.2.2.1.n16
  rcases out_in (N := N) (by omega) a with ha | ⟨k, hk, rfl⟩
  · exact ⟨-1, by rw [f_X9_unheard, chk_t xg.1, xg.2.1, bnd_e, sb.f, ndc0 sb ha, obd_s, if_pos rfl]⟩
  · have s8 := (has_st p (k := k) (by omega)).2.1
    generalize (if xR S 0 k = 1 then (1 : Int32) else 0) = z8 at s8
    rw [f_X9_unheard, chk_t xg.1, xg.2.1, bnd_e, sb.f, ndc sb hk h16, obd_s, if_neg ne10, xg.2.2.2.1, bnd_e, cs_f p.1, s8, obd_s]
    split
    · exact ⟨_, rfl⟩
    · have := w.pl hk (fun o => some ((mI M o 2) &&& (((mI M o 3) ||| (mI M o 5)) ^^^ (-1 : Int32))))
      rw [xg.2.2.2.1] at this
      exact ⟨_, this⟩
end
