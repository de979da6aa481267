/-! ===== questions, the reference: more ===== -/
theorem lastn_le5 {α : Type} (n : Nat) (l : List α) : (lastn n l).length ≤ n := by
  unfold lastn
  rw [List.length_drop]; omega
section
variable {M : Mem} {N : Nat} {tw : Bool} {t : Int32} {S : St} {pb pt : List Row4}
theorem RV.r8 (r : RV M tw t S pb pt) (hN : xR S 20 0 = nI N) (h2 : 2 ≤ N) (h16 : N ≤ 16) (ht : xR S 20 1 = 1 → N % 2 = 1) (a b : Int32) {n : Nat} (hn : 100 ≤ n) : ∃ x M', f_X10_quorum n 120 a b M = some (x, M') ∧ RV M' tw t S pb pt ∧ Fr P2 M M' := by
  rcases out_in (N := N) (by omega) a with ha | ⟨k, hk, rfl⟩
  · exact ⟨-1, M, by rw [f_X10_quorum, rs_f r.1, ndr0 r hN (by omega) h16 ha, obd_s, if_pos rfl], r, Fr.rf _ _⟩
  · have k6 : k < 16 := by omega
    obtain ⟨M', e, r', f'⟩ := r.tqm (n := n) hN h16 ht k6 (by omega)
    have op : ∀ y, (if b = 0 then some (xR S 17 k, M) else if b = (1 : Int32) then some (qm N S k, M') else if b = (2 : Int32) then some (xR S 3 k, M) else some ((-1 : Int32), M)) = y → f_X10_quorum n 120 (nI k) b M = y := by
      intro y hy
      rw [f_X10_quorum, rs_f r.1, ndr r hN hk h16, obd_s, if_neg ne10, r.base k6, obd_s, e, obd2_s, r.get3 k6, obd_s]
      exact hy
    by_cases b0 : b = 0
    · exact ⟨_, M, op _ (if_pos b0), r, Fr.rf _ _⟩
    · by_cases b1 : b = 1
      · exact ⟨_, M', op _ (by rw [if_neg b0, if_pos b1]), r', f'⟩
      · by_cases b2 : b = 2
        · exact ⟨_, M, op _ (by rw [if_neg b0, if_neg b1, if_pos b2]), r, Fr.rf _ _⟩
        · exact ⟨_, M, op _ (by rw [if_neg b0, if_neg b1, if_neg b2]), r, Fr.rf _ _⟩
theorem rst_l (hN : xR S 20 0 = nI N) (h16 : N ≤ 16) (ht : xR S 20 1 = 1 → N % 2 = 1) (b : Int32) : ∀ (d i n : Nat) (M : Mem), RV M tw t S pb pt → i + d = N → d + 61 ≤ n → ∃ x M', f_X10_stopsBy_2 n 120 b (nI i) M = some (x, M') ∧ (x = 0 ∨ x = 1) ∧ RV M' tw t S pb pt ∧ Fr P2 M M' := by
  intro d
  induction d with
  | zero =>
    intro i n M r hi hn
    obtain ⟨n, rfl⟩ : ∃ m, n = m + 1 := ⟨n - 1, by omega⟩
    exact ⟨1, M, by rw [f_X10_stopsBy_2, rs_f r.1, rs_0 r.1, bnd_e, rs_fa r.1, rs_c0 r.1, cl0, r.N hN, if_pos (nI_le (by omega) (by omega))], Or.inr rfl, r, Fr.rf _ _⟩
  | succ d ih =>
    intro i n M r hi hn
    obtain ⟨n, rfl⟩ : ∃ m, n = m + 1 := ⟨n - 1, by omega⟩
    obtain ⟨M1, e1, r1, f1⟩ := r.tqby (n := n) hN h16 ht (v := i) (by omega) b (by omega)
    have op : ∀ y, (if qby N S i b = 0 then f_X10_stopsBy_2 n 120 b (nI (i + 1)) M1 else some ((0 : Int32), M1)) = y → f_X10_stopsBy_2 (n + 1) 120 b (nI i) M = y := by
      intro y hy
      rw [f_X10_stopsBy_2, rs_f r.1, rs_0 r.1, bnd_e, rs_fa r.1, rs_c0 r.1, cl0, r.N hN, if_neg (nI_ge (by omega) (by omega)), e1, obd2_s, bnd_e, nI_1]
      exact hy
    by_cases z : qby N S i b = 0
    · obtain ⟨x, M2, e2, hx, r2, f2⟩ := ih (i + 1) n M1 r1 (by omega) (by omega)
      exact ⟨x, M2, op _ (by rw [if_pos z]; exact e2), hx, r2, f1.tr f2⟩
    · exact ⟨0, M1, op _ (if_neg z), Or.inl rfl, r1, f1⟩
theorem RV.r12 (r : RV M tw t S pb pt) (hN : xR S 20 0 = nI N) (h16 : N ≤ 16) (ht : xR S 20 1 = 1 → N % 2 = 1) (a : Int32) {n : Nat} (hn : 100 ≤ n) : ∃ x M', f_X10_stops n 120 a M = some (x, M') ∧ RV M' tw t S pb pt ∧ Fr P2 M M' := by
  obtain ⟨x, M', e, hx, r', f'⟩ := rst_l hN h16 ht (a &&& (((1 : Int32) <<< (nI N &&& 31)) - (1 : Int32))) N 0 n M r (by omega) (by omega)
  refine ⟨x, M', ?_, r', f'⟩
  rw [f_X10_stops, rs_f r.1, f_X10_all, rs_f r.1, rs_0 r.1, bnd_e, rs_fa r.1, rs_c0 r.1, cl0, r.N hN, obd_s, f_X10_stopsBy, show f_X10_stopsBy_2 n 120 (a &&& (((1 : Int32) <<< (nI N &&& 31)) - (1 : Int32))) 0 M = some (x, M') from e, obd2_s, chk_t hx]
theorem RV.r29 (r : RV M tw t S pb pt) (hN : xR S 20 0 = nI N) (h2 : 2 ≤ N) (h16 : N ≤ 16) (a b c : Int32) : ∃ x, f_X10_waiting 120 a b c M = some x := by
  rcases out_in (N := N) (by omega) a with ha | ⟨k, hk, rfl⟩
  · exact ⟨-1, by rw [f_X10_waiting, rs_f r.1, ndr0 r hN (by omega) h16 ha, obd_s, if_pos rfl]⟩
  · have k6 : k < 16 := by omega
    have l20 := (r.2.2.2.1 k k6).2.1
    rw [f_X10_waiting, rs_f r.1, ndr r hN hk h16, obd_s, if_neg ne10, r.of3 k6, obd_s]
    rcases isIn_ex b 0 (nI (xW S k).length - 1) M with e | ⟨e, b0, b1⟩
    · exact ⟨_, by rw [e, obd_s, if_pos rfl]⟩
    · rw [e, obd_s, if_neg ne10]
      obtain ⟨j, hj, rfl⟩ := nn_e b0
      have hj2 : j < 20 := by
        rcases Nat.eq_zero_or_pos (xW S k).length with z | z
        · rw [z] at b1
          exfalso
          apply b1
          have e1 : nI 0 - (1 : Int32) = -1 := by decide
          rw [e1]
          have : ¬ nI j < 0 := b0
          have h0 : (0 : Int32) ≤ nI j := Int32.not_lt.mp b0
          exact Int32.lt_of_lt_of_le (by decide) h0
        · rw [nI_m1' z] at b1
          apply Decidable.byContradiction
          intro hc
          exact b1 (nI_lt (by omega) hj)
      have of_e : ∀ w, w < 44 → ∃ x, f_X10_of 120 (nI k) (nI w) M = some x := fun w hw => ⟨_, f_of r.toRK k6 hw⟩
      rcases isIn_ex c 0 1 M with e' | ⟨e', _⟩
      · exact ⟨_, by rw [e', obd_s, if_pos rfl]⟩
      · rw [e', obd_s, if_neg ne10]
        obtain ⟨x1, e1⟩ := of_e (4 + 2 * j) (by omega)
        obtain ⟨x2, e2⟩ := of_e (4 + 2 * j + 1) (by omega)
        have m1 : (4 : Int32) + ((2 : Int32) * nI j) = nI (4 + 2 * j) := by rw [show (4 : Int32) = nI 4 from rfl, show (2 : Int32) = nI 2 from rfl, pk_mul, nI_add]
        split
        · exact ⟨x1, by rw [f_X10_waitNode, rs_f r.1, m1, e1, obd_s, obd_s]⟩
        · exact ⟨x2, by rw [f_X10_waitStamp, rs_f r.1, m1, nI_1, e2, obd_s, obd_s]⟩
theorem rwy_l (r : RV M tw t S pb pt) (f g c : Int32) : ∀ (d i n : Nat) (x : Int32), i + d = (fl S).length → d + 1 ≤ n → ∃ z, f_X10_way_29 M n 120 f g c x (nI i) = some z := by
  have h9 := r.2.2.2.2.1.2.1
  intro d
  induction d with
  | zero =>
    intro i n x hi hn
    obtain ⟨n, rfl⟩ : ∃ m, n = m + 1 := ⟨n - 1, by omega⟩
    rw [f_X10_way_29, rs_f r.1, rs_0 r.1, bnd_e, rs_fa r.1, l850, rs_c r.1 (by decide), cl_n (by decide), r.2.2.2.2.1.1, if_pos (nI_le (by omega) (by omega))]
    split
    · exact ⟨_, rfl⟩
    · exact ⟨_, rfl⟩
  | succ d ih =>
    intro i n x hi hn
    obtain ⟨n, rfl⟩ : ∃ m, n = m + 1 := ⟨n - 1, by omega⟩
    have c8 : (851 : Int32) + nI i = nI (851 + i) := by rw [show (851 : Int32) = nI 851 from rfl, nI_add]
    rw [f_X10_way_29, rs_f r.1, rs_0 r.1, bnd_e, rs_fa r.1, l850, rs_c r.1 (by decide), cl_n (by decide), r.2.2.2.2.1.1, if_neg (nI_ge (by omega) (by omega)), bnd_e, rs_fa r.1, c8, rs_c r.1 (by omega), f_X10_pairOf, obd_s, bnd_e, rs_fa r.1, rs_c r.1 (by omega), f_X10_kindOf, obd_s, bnd_e, bnd_e, nI_1]
    split
    · split
      · exact ⟨_, rfl⟩
      · exact ih (i + 1) n _ (by omega) (by omega)
    · exact ih (i + 1) n _ (by omega) (by omega)
theorem RV.r30 (r : RV M tw t S pb pt) (hN : xR S 20 0 = nI N) (h2 : 2 ≤ N) (h16 : N ≤ 16) (a b c : Int32) {n : Nat} (hn : 9100 ≤ n) : ∃ x, f_X10_way n 120 a b c M = some x := by
  have h9 := r.2.2.2.2.1.2.1
  rcases out_in (N := N) (by omega) a with ha | ⟨k, hk, rfl⟩
  · exact ⟨-1, by rw [f_X10_way, rs_f r.1, ndr0 r hN (by omega) h16 ha, obd_s, if_pos rfl]⟩
  · rcases out_in (N := N) (by omega) b with hb | ⟨m, hm, rfl⟩
    · exact ⟨-1, by rw [f_X10_way, rs_f r.1, ndr r hN hk h16, obd_s, if_neg ne10, ndr0 r hN (by omega) h16 hb, obd_s, if_pos rfl]⟩
    · rw [f_X10_way, rs_f r.1, ndr r hN hk h16, obd_s, if_neg ne10, ndr r hN hm h16, obd_s, if_neg ne10]
      split
      · exact rwy_l r (nI k) (nI m) c (fl S).length 0 n 0 (by omega) (by omega)
      · exact ⟨_, rfl⟩
theorem RV.rlog (r : RV M tw t S pb pt) {A B m : Nat} {xs : List Row4} (hA : A < 10465) (hm : m ≤ 40) (hB : B + 160 ≤ 10465) (hb : RVb M A B m xs) (a b : Int32) : ∃ x, (if a = (-1 : Int32) then (chk (isO M 10 120) <| bnd (mR M 120 0) fun o25 => chk (isO M 100 o25) <| chk (inB (nI A) (mLn M o25)) <| some (mI M o25 ((nI A)).toNatClampNeg)) else (chk (isO M 10 120) <| bnd (mR M 120 0) fun o4 => chk (isO M 100 o4) <| chk (inB (nI A) (mLn M o4)) <| obd (f_X10_isIn a (0 : Int32) ((mI M o4 ((nI A)).toNatClampNeg) - (1 : Int32)) M) fun r9 => if r9 = 0 then some (-2 : Int32) else obd (f_X10_isIn b (0 : Int32) (3 : Int32) M) fun r13 => if r13 = 0 then some (-2 : Int32) else bnd (mR M 120 0) fun o16 => chk (isO M 100 o16) <| bnd (mR M 120 0) fun o19 => chk (isO M 100 o19) <| chk (inB (nI A) (mLn M o19)) <| chk (inB (((nI B) + ((4 : Int32) * (((mI M o19 ((nI A)).toNatClampNeg) - (1 : Int32)) - a))) + b) (mLn M o16)) <| some (mI M o16 ((((nI B) + ((4 : Int32) * (((mI M o19 ((nI A)).toNatClampNeg) - (1 : Int32)) - a))) + b)).toNatClampNeg))) = some x := by
  have q := r.1
  have lc := lastn_le5 m xs
  have hc := hb.1
  generalize (lastn m xs).length = ct at lc hc
  split
  · exact ⟨_, by rw [rs_f q, rs_0 q, bnd_e, rs_fa q, rs_c q hA]⟩
  · rw [rs_f q, rs_0 q, bnd_e, rs_fa q, rs_c q hA, mI_c hA, hc]
    rcases isIn_ex a 0 (nI ct - 1) M with e | ⟨e, a0, a1⟩
    · exact ⟨_, by rw [e, obd_s, if_pos rfl]⟩
    · rw [e, obd_s, if_neg ne10]
      rcases isIn_ex b 0 3 M with e' | ⟨e', b0, b1⟩
      · exact ⟨_, by rw [e', obd_s, if_pos rfl]⟩
      · obtain ⟨j, hj, rfl⟩ := nn_e a0
        obtain ⟨u, hu, rfl⟩ := nn_e b0
        have u3 : u ≤ 3 := by
          apply Decidable.byContradiction
          intro hc'
          exact b1 (nI_lt (a := 3) (by omega) hu)
        have hj2 : j + 1 ≤ ct := by
          rcases Nat.eq_zero_or_pos ct with z | z
          · rw [z] at a1
            exfalso
            apply a1
            have e1 : nI 0 - (1 : Int32) = -1 := by decide
            rw [e1]
            exact Int32.lt_of_lt_of_le (by decide) (Int32.not_lt.mp a0)
          · rw [nI_m1' z] at a1
            apply Decidable.byContradiction
            intro hc'
            exact a1 (nI_lt (by omega) hj)
        have e1 : nI ct - (1 : Int32) - nI j = nI (ct - 1 - j) := by
          rw [nI_m1' (by omega)]
          obtain ⟨z, hz⟩ : ∃ z, ct - 1 = z + j := ⟨ct - 1 - j, by omega⟩
          rw [hz, ← nI_add, show z + j - j = z by omega, Int32.add_sub_cancel]
        have e2 : (nI B + ((4 : Int32) * nI (ct - 1 - j))) + nI u = nI (B + 4 * (ct - 1 - j) + u) := by rw [show (4 : Int32) = nI 4 from rfl, pk_mul, nI_add, nI_add]
        exact ⟨_, by rw [e', obd_s, if_neg ne10, bnd_e, rs_fa q, bnd_e, rs_fa q, rs_c q hA, mI_c hA, hc, e1, e2, rs_c q (by omega)]⟩
theorem RV.r34 (r : RV M tw t S pb pt) (a b : Int32) : ∃ x, f_X10_book 120 a b M = some x := r.rlog (A := 9857) (B := 9913) (by decide) (by decide) (by decide) r.2.2.2.2.2.1 a b
theorem RV.r38 (r : RV M tw t S pb pt) (a b : Int32) : ∃ x, f_X10_trace 120 a b M = some x := r.rlog (A := 9858) (B := 10033) (by decide) (by decide) (by decide) r.2.2.2.2.2.2 a b
theorem rwf_l (r : RV M tw t S pb pt) (hN : xR S 20 0 = nI N) (h16 : N ≤ 16) (a x : Int32) : ∀ (d i n : Nat) (c : Int32), i + d = N → d + 1 ≤ n → ∃ z, f_X10_waitsNow_21 M n 120 a c x (nI i) = some z := by
  intro d
  induction d with
  | zero =>
    intro i n c hi hn
    obtain ⟨n, rfl⟩ : ∃ m, n = m + 1 := ⟨n - 1, by omega⟩
    exact ⟨c, by rw [f_X10_waitsNow_21, rs_f r.1, rs_0 r.1, bnd_e, rs_fa r.1, rs_c0 r.1, cl0, r.N hN, if_pos (nI_le (by omega) (by omega))]⟩
  | succ d ih =>
    intro i n c hi hn
    obtain ⟨n, rfl⟩ : ∃ m, n = m + 1 := ⟨n - 1, by omega⟩
    obtain ⟨z, e⟩ := has10_ex x (v := i) (by omega) M
    have i6 : i < 16 := by omega
    rw [f_X10_waitsNow_21, rs_f r.1, rs_0 r.1, bnd_e, rs_fa r.1, rs_c0 r.1, cl0, r.N hN, if_neg (nI_ge (by omega) (by omega)), e, obd_s, r.of0 i6]
    simp only [obd_s, bnd_e]
    rw [nI_1]
    split
    · exact ih (i + 1) n _ (by omega) (by omega)
    · split
      · exact ih (i + 1) n _ (by omega) (by omega)
      · split
        · exact ih (i + 1) n _ (by omega) (by omega)
        · exact ih (i + 1) n _ (by omega) (by omega)
theorem RV.wnw (r : RV M tw t S pb pt) (hN : xR S 20 0 = nI N) (h16 : N ≤ 16) {k : Nat} (hk : k < 16) {n : Nat} (hn : 20 ≤ n) : ∃ x, f_X10_waitsNow n 120 (nI k) M = some x := by
  rw [f_X10_waitsNow, rs_f r.1, r.get3 hk, obd_s, r.get4 hk, obd_s, bnd_e]
  exact rwf_l r hN h16 (nI k) _ N 0 n 0 (by omega) (by omega)
theorem RV.r35 (r : RV M tw t S pb pt) (hN : xR S 20 0 = nI N) (h2 : 2 ≤ N) (h16 : N ≤ 16) (a : Int32) {n : Nat} (hn : 100 ≤ n) : ∃ x, f_X10_waitsFor n 120 a M = some x := by
  rcases out_in (N := N) (by omega) a with ha | ⟨k, hk, rfl⟩
  · exact ⟨-1, by rw [f_X10_waitsFor, rs_f r.1, ndr0 r hN (by omega) h16 ha, obd_s, if_pos rfl]⟩
  · have k6 : k < 16 := by omega
    obtain ⟨x, e⟩ := r.wnw hN h16 k6 (n := n) (by omega)
    rw [f_X10_waitsFor, rs_f r.1, ndr r hN hk h16, obd_s, if_neg ne10, r.get0 k6, obd_s, e, obd_s]
    split
    · exact ⟨_, rfl⟩
    · exact ⟨_, rfl⟩
theorem rcr_l (r : RV M tw t S pb pt) (hN : xR S 20 0 = nI N) (h16 : N ≤ 16) (a : Int32) : ∀ (d i n : Nat) (x y : Int32), i + d = N → d + 1 ≤ n → ∃ z, f_X10_crowded_18 M n 120 a x y (nI i) = some z := by
  intro d
  induction d with
  | zero =>
    intro i n x y hi hn
    obtain ⟨n, rfl⟩ : ∃ m, n = m + 1 := ⟨n - 1, by omega⟩
    rw [f_X10_crowded_18, rs_f r.1, rs_0 r.1, bnd_e, rs_fa r.1, rs_c0 r.1, cl0, r.N hN, if_pos (nI_le (by omega) (by omega))]
    split
    · exact ⟨_, rfl⟩
    · exact ⟨_, rfl⟩
  | succ d ih =>
    intro i n x y hi hn
    obtain ⟨n, rfl⟩ : ∃ m, n = m + 1 := ⟨n - 1, by omega⟩
    rw [f_X10_crowded_18, rs_f r.1, rs_0 r.1, bnd_e, rs_fa r.1, rs_c0 r.1, cl0, r.N hN, if_neg (nI_ge (by omega) (by omega)), r.of3 (v := i) (by omega)]
    simp only [obd_s, bnd_e]
    rw [nI_1]
    split
    · exact ih (i + 1) n _ _ (by omega) (by omega)
    · exact ih (i + 1) n _ _ (by omega) (by omega)
theorem RV.r37 (r : RV M tw t S pb pt) (hN : xR S 20 0 = nI N) (h16 : N ≤ 16) (a : Int32) {n : Nat} (hn : 100 ≤ n) : ∃ x, f_X10_crowded n 120 a M = some x := by
  rw [f_X10_crowded]
  rcases isIn_ex a 0 1 M with e | ⟨e, _⟩
  · exact ⟨_, by rw [e, obd_s, if_pos rfl]⟩
  · rw [e, obd_s, if_neg ne10]
    exact rcr_l r hN h16 a N 0 n (-1) 0 (by omega) (by omega)
end
