/-! ===== plane, wheel, tree, within on the fresh objects ===== -/
theorem rng3 {L N : Nat} (hL : 0 < L ∧ L < 1000) (hN : N < 1000) (a : Int32) : (a < nI L ∨ nI (N + 1) ≤ a) ∨ ∃ k, L ≤ k ∧ k ≤ N ∧ a = nI k := by
  rcases out_in (N := N + 1) (by omega) a with h | ⟨k, hk, rfl⟩
  · rcases h with h | h
    · have : (0 : Int32) < nI L := nI_lt (a := 0) hL.1 (by omega)
      exact Or.inl (Or.inl (Int32.lt_trans h this))
    · exact Or.inl (Or.inr h)
  · by_cases h2 : L ≤ k
    · exact Or.inr ⟨k, h2, by omega, rfl⟩
    · exact Or.inl (Or.inl (nI_lt (by omega) (by omega)))
theorem gt3 {N : Nat} (hN : N < 1000) {a : Int32} (h : nI (N + 1) ≤ a) : nI N < a := by
  rw [Int32.lt_iff_toInt_lt]
  rw [Int32.le_iff_toInt_le] at h
  have e : ∀ k, k < 2000 → (nI k).toInt = k := fun k hk => by
    have := (nI_ltI (a := k) (b := k + 1) (by omega) (by omega))
    have e2 : (nI k).toInt = if 2 * (nI k).toBitVec.toNat < 2 ^ 32 then ((nI k).toBitVec.toNat : Int) else ((nI k).toBitVec.toNat : Int) - (2 ^ 32 : Nat) := BitVec.toInt_eq_toNat_cond _
    have e3 : (nI k).toBitVec.toNat = k := by
      show (BitVec.ofNat 32 k).toNat = k
      rw [BitVec.toNat_ofNat]; exact Nat.mod_eq_of_lt (by omega)
    rw [e2, e3, if_pos (by omega)]
  rw [e N (by omega)]
  rw [e (N + 1) (by omega)] at h
  omega
theorem is_out3 {L N : Nat} {M : Mem} (hN : N < 1000) {a : Int32} (h : a < nI L ∨ nI (N + 1) ≤ a) : f_X10_isIn a (nI L) (nI N) M = some 0 := by
  rw [f_X10_isIn]
  by_cases q : a < nI L
  · rw [if_pos q]
  · rw [if_neg q, if_pos (gt3 hN (h.resolve_left q))]
theorem is_in3 {L N k : Nat} {M : Mem} (hN : N < 1000) (h : L ≤ k) (h2 : k ≤ N) : f_X10_isIn (nI k) (nI L) (nI N) M = some 1 := by
  rw [f_X10_isIn, if_neg (nI_nlt h (by omega)), if_neg (nI_nlt h2 (by omega))]

def HQ1 (k : Nat) : Bool := match f_X9_plane 59999 0 (nI k) Mf with
  | none => false
  | some p => RKb p.2 && (match f_X10_plane_32 59999 120 (nI k) (nI (if k = 2 then 7 else 13)) 0 (wA p.2 121 (bgf (mI p.2 121) (nI (if k = 2 then 7 else 13)) 0)) with
    | none => false
    | some q => decide (p.1 = q.1))
set_option maxRecDepth 1000000 in
theorem op1_v : (List.range 4).all (fun k => decide (k < 2) || HQ1 k) = true := by decide +kernel
theorem op1 (a : Int32) : E (f_X9_plane 59999 0 a Mf) (fun M => f_X10_plane 59999 120 a M) = true := by
  rcases rng3 (L := 2) (N := 3) (by decide) (by decide) a with h | ⟨k, h2, hk, rfl⟩
  · refine E_mm (r := -1) (M1 := Mf) (M2 := Mf) Mf_10 ?_ ?_
    · rw [f_X9_plane]
      by_cases q : a < (2 : Int32)
      · rw [if_pos q]
      · rw [if_neg q, if_neg (show ¬ a ≤ (3 : Int32) from Int32.not_le.mpr (gt3 (N := 3) (by decide) (h.resolve_left q)))]
    · rw [f_X10_plane, show (2 : Int32) = nI 2 from rfl, show (3 : Int32) = nI 3 from rfl, is_out3 (by decide) h, obd_s, if_pos rfl]
  · have q := all_k op1_v (show k < 4 by omega)
    have q1 : HQ1 k = true := by
      rcases Bool.or_eq_true _ _ |>.mp q with h | h
      · exact absurd (of_decide_eq_true h) (by omega)
      · exact h
    unfold HQ1 at q1
    cases hx : f_X9_plane 59999 0 (nI k) Mf with
    | none => rw [hx] at q1; cases q1
    | some p =>
      rw [hx] at q1
      obtain ⟨hr, hv⟩ := Bool.and_eq_true _ _ |>.mp q1
      have hR := RKb_ok hr
      have hb := f_begin (N := nI (if k = 2 then 7 else 13)) (t := 0) (n := 59999) hR (by decide)
      rw [if_pos rfl] at hb
      have hW : RK (wA p.2 121 (bgf (mI p.2 121) (nI (if k = 2 then 7 else 13)) 0)) 120 121 := hR
      cases hy : f_X10_plane_32 59999 120 (nI k) (nI (if k = 2 then 7 else 13)) 0 (wA p.2 121 (bgf (mI p.2 121) (nI (if k = 2 then 7 else 13)) 0)) with
      | none => rw [hy] at hv; cases hv
      | some z =>
        rw [hy] at hv
        have hv2 : p.1 = z.1 := of_decide_eq_true hv
        refine E_mm (r := p.1) (M1 := p.2) (M2 := z.2) hR.1 rfl ?_
        rw [f_X10_plane, show (2 : Int32) = nI 2 from rfl, show (3 : Int32) = nI 3 from rfl, is_in3 (by decide) h2 hk, obd_s, if_neg n10]
        have e23 : f_X10_plane_23 59999 120 (nI k) (nI (if k = 2 then 7 else 13)) p.2 = some (p.1, z.2) := by
          rw [f_X10_plane_23, chk_t hR.1, hb, obd_s, hy, hv2]
        rcases (show k = 2 ∨ k = 3 by omega) with rfl | rfl
        · exact e23
        · exact e23


def HQ4 (k : Nat) : Bool := match f_X9_wheel 59999 0 (nI k) Mf with
  | none => false
  | some p => RKb p.2 && (match (obd (f_X10_all 120 (wA p.2 121 (bgf (mI p.2 121) (nI (k)) 0))) fun r => f_X10_wheel_32 59999 120 (nI k) 1 (sI (wA p.2 121 (bgf (mI p.2 121) (nI (k)) 0)) 121 2 (r - 1))) with
    | none => false
    | some q => decide (p.1 = q.1))
set_option maxRecDepth 1000000 in
theorem op4_v : (List.range 17).all (fun k => decide (k < 3) || HQ4 k) = true := by decide +kernel
theorem op4 (a : Int32) : E (f_X9_wheel 59999 0 a Mf) (fun M => f_X10_wheel 59999 120 a M) = true := by
  rcases rng3 (L := 3) (N := 16) (by decide) (by decide) a with h | ⟨k, h2, hk, rfl⟩
  · refine E_mm (r := -1) (M1 := Mf) (M2 := Mf) Mf_10 ?_ ?_
    · rw [f_X9_wheel]
      by_cases q : a < (3 : Int32)
      · rw [if_pos q]
      · rw [if_neg q, if_neg (show ¬ a ≤ (16 : Int32) from Int32.not_le.mpr (gt3 (N := 16) (by decide) (h.resolve_left q)))]
    · rw [f_X10_wheel, show (3 : Int32) = nI 3 from rfl, show (16 : Int32) = nI 16 from rfl, is_out3 (by decide) h, obd_s, if_pos rfl]
  · have q := all_k op4_v (show k < 17 by omega)
    have q1 : HQ4 k = true := by
      rcases Bool.or_eq_true _ _ |>.mp q with h | h
      · exact absurd (of_decide_eq_true h) (by omega)
      · exact h
    unfold HQ4 at q1
    cases hx : f_X9_wheel 59999 0 (nI k) Mf with
    | none => rw [hx] at q1; cases q1
    | some p =>
      rw [hx] at q1
      obtain ⟨hr, hv⟩ := Bool.and_eq_true _ _ |>.mp q1
      have hR := RKb_ok hr
      have hb := f_begin (N := nI (k)) (t := 0) (n := 59999) hR (by decide)
      rw [if_pos rfl] at hb
      have hW : RK (wA p.2 121 (bgf (mI p.2 121) (nI (k)) 0)) 120 121 := hR
      cases hy : (obd (f_X10_all 120 (wA p.2 121 (bgf (mI p.2 121) (nI (k)) 0))) fun r => f_X10_wheel_32 59999 120 (nI k) 1 (sI (wA p.2 121 (bgf (mI p.2 121) (nI (k)) 0)) 121 2 (r - 1))) with
      | none => rw [hy] at hv; cases hv
      | some z =>
        rw [hy] at hv
        have hv2 : p.1 = z.1 := of_decide_eq_true hv
        refine E_mm (r := p.1) (M1 := p.2) (M2 := z.2) hR.1 rfl ?_
        rw [f_X10_wheel, show (3 : Int32) = nI 3 from rfl, show (16 : Int32) = nI 16 from rfl, is_in3 (by decide) h2 hk, obd_s, if_neg n10]
        rw [chk_t hR.1, hb, obd_s, chk_t hW.1, bnd_e, hW.2.1, chk_t hW.2.2.1]
        cases ha : f_X10_all 120 (wA p.2 121 (bgf (mI p.2 121) (nI (k)) 0)) with
        | none => rw [ha] at hy; cases hy
        | some r =>
          rw [ha] at hy
          have i2 : inB (2 : Int32) (mLn (wA p.2 121 (bgf (mI p.2 121) (nI (k)) 0)) 121) := rk_in hW (k := 2) (by decide)
          rw [obd_s, chk_t i2, show ((2 : Int32)).toNatClampNeg = 2 from rfl, bnd_e, hv2]
          exact hy


def HQ5 (k : Nat) : Bool := match f_X9_tree 59999 0 (nI k) Mf with
  | none => false
  | some p => RKb p.2 && (match f_X10_tree_25 59999 120 (nI (2 ^ k - 1)) 0 (wA p.2 121 (bgf (mI p.2 121) (nI (2 ^ k - 1)) 1)) with
    | none => false
    | some q => decide (p.1 = q.1))
set_option maxRecDepth 1000000 in
theorem op5_v : (List.range 5).all (fun k => decide (k < 2) || HQ5 k) = true := by decide +kernel
theorem op5 (a : Int32) : E (f_X9_tree 59999 0 a Mf) (fun M => f_X10_tree 59999 120 a M) = true := by
  rcases rng3 (L := 2) (N := 4) (by decide) (by decide) a with h | ⟨k, h2, hk, rfl⟩
  · refine E_mm (r := -1) (M1 := Mf) (M2 := Mf) Mf_10 ?_ ?_
    · rw [f_X9_tree]
      by_cases q : a < (2 : Int32)
      · rw [if_pos q]
      · rw [if_neg q, if_neg (show ¬ a ≤ (4 : Int32) from Int32.not_le.mpr (gt3 (N := 4) (by decide) (h.resolve_left q)))]
    · rw [f_X10_tree, show (2 : Int32) = nI 2 from rfl, show (4 : Int32) = nI 4 from rfl, is_out3 (by decide) h, obd_s, if_pos rfl]
  · have q := all_k op5_v (show k < 5 by omega)
    have q1 : HQ5 k = true := by
      rcases Bool.or_eq_true _ _ |>.mp q with h | h
      · exact absurd (of_decide_eq_true h) (by omega)
      · exact h
    unfold HQ5 at q1
    cases hx : f_X9_tree 59999 0 (nI k) Mf with
    | none => rw [hx] at q1; cases q1
    | some p =>
      rw [hx] at q1
      obtain ⟨hr, hv⟩ := Bool.and_eq_true _ _ |>.mp q1
      have hR := RKb_ok hr
      have hb := f_begin (N := nI (2 ^ k - 1)) (t := 1) (n := 59999) hR (by decide)
      rw [if_neg (by decide)] at hb
      have hW : RK (wA p.2 121 (bgf (mI p.2 121) (nI (2 ^ k - 1)) 1)) 120 121 := hR
      cases hy : f_X10_tree_25 59999 120 (nI (2 ^ k - 1)) 0 (wA p.2 121 (bgf (mI p.2 121) (nI (2 ^ k - 1)) 1)) with
      | none => rw [hy] at hv; cases hv
      | some z =>
        rw [hy] at hv
        have hv2 : p.1 = z.1 := of_decide_eq_true hv
        refine E_mm (r := p.1) (M1 := p.2) (M2 := z.2) hR.1 rfl ?_
        rw [f_X10_tree, show (2 : Int32) = nI 2 from rfl, show (4 : Int32) = nI 4 from rfl, is_in3 (by decide) h2 hk, obd_s, if_neg n10]
        have e5 : ((1 : Int32) <<< (nI k &&& 31)) - (1 : Int32) = nI (2 ^ k - 1) := by
          rcases (show k = 2 ∨ k = 3 ∨ k = 4 by omega) with rfl | rfl | rfl <;> decide
        rw [e5, bnd_e, chk_t hR.1, hb, obd_s, hy, hv2]


def W4 (M : Mem) : Mem := sI (sI (sI (sI M 122 0 (mI M 121 2)) 122 1 (mI M 121 3)) 122 2 (mI M 121 4)) 122 3 (mI M 121 5)
def KB (M : Mem) : Bool := decide (mI M 121 0 = 4) && decide (isO M 100 122 ∧ mR M 120 1 = 122 ∧ mLn M 122 = 16)
def HQ6 (v m : Nat) : Bool := match f_X9_within 59999 0 (nI v) (nI m) Mf with
  | none => false
  | some p => RKb p.2 && (KB p.2 && (match f_X10_within_76 59994 120 (nI v) (nI m) (nI 3) 0 (wA (W4 p.2) 121 (bgf (mI (W4 p.2) 121) (nI (3 + m)) 0)) with
    | none => false
    | some q => decide (p.1 = q.1)))
set_option maxRecDepth 1000000 in
theorem op6_v : (List.range 4).all (fun v => (List.range 9).all fun k => decide (k < 2) || HQ6 v k) = true := by decide +kernel
theorem nd10m {M : Mem} (h : RK M 120 121) (h0 : mI M 121 0 = 4) {k : Nat} (hk : k < 4) : f_X10_isNode 120 (nI k) M = some 1 := by
  have e : mI M 121 ((0 : Int32)).toNatClampNeg - (1 : Int32) = nI 3 := by
    show mI M 121 0 - 1 = nI 3
    rw [h0]; rfl
  rw [f_X10_isNode, chk_t h.1, bnd_e, h.2.1, chk_t h.2.2.1, chk_t (show inB (0 : Int32) (mLn M 121) from rk_in h (k := 0) (by decide)), e, show f_X10_isIn (nI k) 0 (nI 3) M = some 1 from is_in3 (L := 0) (by decide) (Nat.zero_le _) (show k ≤ 3 by omega), obd_s, chk_t (Or.inr rfl)]
theorem w40 {M : Mem} (h : RK M 120 121) (hK : isO M 100 122 ∧ mR M 120 1 = 122 ∧ mLn M 122 = 16) (a m : Int32) (n : Nat) (hn : 11010 ≤ n) : f_X10_within_40 (n + 5) 120 a m (nI 3) 0 M = f_X10_within_76 n 120 a m (nI 3) 0 (wA (W4 M) 121 (bgf (mI (W4 M) 121) (nI 3 + m) 0)) := by
  obtain ⟨k1, k2, k3⟩ := hK
  have st : ∀ (M' : Mem) (v j : Nat), v < 4 → M'.1 = M.1 → f_X10_within_40 (j + 1) 120 a m (nI 3) (nI v) M' = f_X10_within_40 j 120 a m (nI 3) (nI (v + 1)) (sI M' 122 v (mI M' 121 (2 + v))) := fun M' v j hv e => by
    have h' : RK M' 120 121 := by
      unfold RK isO mN mC mR mLn at *
      rw [e]; exact h
    have k1' : isO M' 100 122 := by
      unfold isO mN mC at *
      rw [e]; exact k1
    have k2' : mR M' 120 1 = 122 := by
      unfold mR at *
      rw [e]; exact k2
    have k3' : mLn M' 122 = 16 := by
      unfold mLn at *
      rw [e]; exact k3
    rw [f_X10_within_40, if_neg (nI_nlt (by omega) (by omega)), chk_t h'.1, k2', bnd_e, chk_t k1', f_baseOf h' (show v < 16 by omega), obd_s, k3', chk_t (inB_n (by omega) (by decide)), nI_clamp (by omega), bnd_e, nI_1, bnd_e]
  have s0 := st M 0 (n + 4) (by decide) rfl
  have s1 := st (sI M 122 0 (mI M 121 (2 + 0))) 1 (n + 3) (by decide) rfl
  rw [mI_o _ _ _ _ _ (by decide)] at s1
  have s2 := st (sI (sI M 122 0 (mI M 121 (2 + 0))) 122 1 (mI M 121 (2 + 1))) 2 (n + 2) (by decide) rfl
  rw [mI_o _ _ _ _ _ (by decide), mI_o _ _ _ _ _ (by decide)] at s2
  have s3 := st (sI (sI (sI M 122 0 (mI M 121 (2 + 0))) 122 1 (mI M 121 (2 + 1))) 122 2 (mI M 121 (2 + 2))) 3 (n + 1) (by decide) rfl
  rw [mI_o _ _ _ _ _ (by decide), mI_o _ _ _ _ _ (by decide), mI_o _ _ _ _ _ (by decide)] at s3
  have h4 : RK (W4 M) 120 121 := h
  have hb := f_begin (N := nI 3 + m) (t := 0) (n := n) h4 (by omega)
  rw [if_pos rfl] at hb
  have last : f_X10_within_40 (n + 1) 120 a m (nI 3) (nI (3 + 1)) (W4 M) = f_X10_within_76 n 120 a m (nI 3) 0 (wA (W4 M) 121 (bgf (mI (W4 M) 121) (nI 3 + m) 0)) := by
    rw [f_X10_within_40, if_pos (show nI 3 < nI (3 + 1) from nI_lt (by decide) (by decide)), chk_t h4.1, hb, obd_s]
  exact s0.trans (s1.trans (s2.trans (s3.trans last)))
theorem op6 (a b : Int32) : E (f_X9_within 59999 0 a b Mf) (fun M => f_X10_within 59999 120 a b M) = true := by
  have r3 : mI Mf 121 ((0 : Int32)).toNatClampNeg = 4 := fIr0
  rcases out_in (N := 4) (by decide) a with h | ⟨v, hv, rfl⟩
  · refine E_mm (r := -1) (M1 := Mf) (M2 := Mf) Mf_10 ?_ ?_
    · rw [f_X9_within, fc0, fR00, bnd_e, fc1, nd7 h, obd_s, if_pos rfl]
    · rw [f_X10_within, fc120, fRr, bnd_e, fc121, chk_t fin0, bnd_e, nd10 h, obd_s, if_pos rfl]
  · rcases rng3 (L := 2) (N := 8) (by decide) (by decide) b with h | ⟨k, h2, hk, rfl⟩
    · refine E_mm (r := -1) (M1 := Mf) (M2 := Mf) Mf_10 ?_ ?_
      · rw [f_X9_within, fc0, fR00, bnd_e, fc1, nd7v hv, obd_s, if_neg n10]
        by_cases q : b < (2 : Int32)
        · rw [if_pos q]
        · rw [if_neg q, if_pos (show (8 : Int32) < b from gt3 (N := 8) (by decide) (h.resolve_left q))]
      · rw [f_X10_within, fc120, fRr, bnd_e, fc121, chk_t fin0, bnd_e, nd10v hv, obd_s, if_neg n10, show (2 : Int32) = nI 2 from rfl, show (8 : Int32) = nI 8 from rfl, is_out3 (by decide) h, obd_s, if_pos rfl]
    · have q := all_k (all_k op6_v hv) (show k < 9 by omega)
      have q1 : HQ6 v k = true := by
        rcases Bool.or_eq_true _ _ |>.mp q with h | h
        · exact absurd (of_decide_eq_true h) (by omega)
        · exact h
      unfold HQ6 at q1
      cases hx : f_X9_within 59999 0 (nI v) (nI k) Mf with
      | none => rw [hx] at q1; cases q1
      | some p =>
        rw [hx] at q1
        obtain ⟨hr, hv1⟩ := Bool.and_eq_true _ _ |>.mp q1
        obtain ⟨hK, hv⟩ := Bool.and_eq_true _ _ |>.mp hv1
        have hR := RKb_ok hr
        obtain ⟨hK0, hK1⟩ := Bool.and_eq_true _ _ |>.mp hK
        have m0 : mI p.2 121 0 = 4 := of_decide_eq_true hK0
        have hK2 : isO p.2 100 122 ∧ mR p.2 120 1 = 122 ∧ mLn p.2 122 = 16 := of_decide_eq_true hK1
        cases hy : f_X10_within_76 59994 120 (nI v) (nI k) (nI 3) 0 (wA (W4 p.2) 121 (bgf (mI (W4 p.2) 121) (nI (3 + k)) 0)) with
        | none => rw [hy] at hv; cases hv
        | some z =>
          rw [hy] at hv
          have hv2 : p.1 = z.1 := of_decide_eq_true hv
          refine E_mm (r := p.1) (M1 := p.2) (M2 := z.2) hR.1 rfl ?_
          have e := w40 hR hK2 (nI v) (nI k) 59994 (by decide)
          rw [nI_add, hy] at e
          have e3 : mI p.2 121 ((0 : Int32)).toNatClampNeg - (1 : Int32) = nI 3 := by
            show mI p.2 121 0 - 1 = nI 3
            rw [m0]; rfl
          rw [f_X10_within, chk_t hR.1, bnd_e, hR.2.1, chk_t hR.2.2.1, chk_t (show inB (0 : Int32) (mLn p.2 121) from rk_in hR (k := 0) (by decide)), e3, bnd_e, nd10m hR m0 (by assumption), obd_s, if_neg n10, show (2 : Int32) = nI 2 from rfl, show (8 : Int32) = nI 8 from rfl, is_in3 (by decide) h2 hk, obd_s, if_neg n10, nI_add, if_pos (show nI (3 + k) ≤ (16 : Int32) from nI_le (b := 16) (by omega) (by decide))]
          exact e.trans (by rw [hv2])
