/-! ===== questions, the reference: more ===== -/
theorem lastn_le5 {α : Type} (n : Nat) (l : List α) : (lastn n l).length ≤ n := by
  unfold lastn
  rw [List.length_drop]; omega
section
variable {M : Mem} {N : Nat} {tw : Bool} {t : Int32} {S : St} {pb pt : List Row4}
theorem RV.r8 (r : RV M tw t S pb pt) (hN : xR S 20 0 = nI N) (h2 : 2 ≤ N) (h16 : N ≤ 16) (ht : xR S 20 1 = 1 → N % 2 = 1) (a b : Int32) {n : Nat} (hn : 100 ≤ n) : ∃ x M', f_X10_quorum n 120 a b M = some (x, M') ∧ RV M' tw t S pb pt ∧ Fr P2 M M' := by
  rcases out_in (N := N) (by omega) a with ha | ⟨k, hk, rfl⟩
  · exact ⟨-1, M, by rw [f_X10_quorum, rs_f r.1, ndr0 r hN (by omega) h16 ha, obd_s, if_pos rfl], r, Fr.rf _ _⟩
  · have k6 : k < 16 := by omega
    obtain ⟨M', e, r', f'⟩ := r.tqm (n := n) hN h16 ht k6 (by omega)
    have op : ∀ y, (if b = 0 then some (xR S 17 k, M) else if b = (1 : Int32) then some (qm N S k, M') else if b = (2 : Int32) then some (xR S 3 k, M) else some ((-1 : Int32), M)) = y → f_X10_quorum n 120 (nI k) b M = y := by
      intro y hy
      rw [f_X10_quorum, rs_f r.1, ndr r hN hk h16, obd_s, if_neg ne10, r.base k6, obd_s, e, obd2_s, r.get3 k6, obd_s]
      exact hy
    by_cases b0 : b = 0
    · exact ⟨_, M, op _ (if_pos b0), r, Fr.rf _ _⟩
    · by_cases b1 : b = 1
      · exact ⟨_, M', op _ (by rw [if_neg b0, if_pos b1]), r', f'⟩
      · by_cases b2 : b = 2
        · exact ⟨_, M, op _ (by rw [if_neg b0, if_neg b1, if_pos b2]), r, Fr.rf _ _⟩
        · exact ⟨_, M, op _ (by rw [if_neg b0, if_neg b1, if_neg b2]), r, Fr.rf _ _⟩
theorem rst_l (hN : xR S 20 0 = nI N) (h16 : N ≤ 16) (ht : xR S 20 1 = 1 → N % 2 = 1) (b : Int32) : ∀ (d i n : Nat) (M : Mem), RV M tw t S pb pt → i + d = N → d + 61 ≤ n → ∃ x M', f_X10_stopsBy_2 n 120 b (nI i) M = some (x, M') ∧ (x = 0 ∨ x = 1) ∧ RV M' tw t S pb pt ∧ Fr P2 M M' := by
  intro d
  induction d with
  | zero =>
    intro i n M r hi hn
    obtain ⟨n, rfl⟩ : ∃ m, n = m + 1 := ⟨n - 1, by omega⟩
    exact ⟨1, M, by rw [f_X10_stopsBy_2, rs_f r.1, rs_0 r.1, bnd_e, rs_fa r.1, rs_c0 r.1, cl0, r.N hN, if_pos (nI_le (by omega) (by omega))], Or.inr rfl, r, Fr.rf _ _⟩
  | succ d ih =>
    intro i n M r hi hn
    obtain ⟨n, rfl⟩ : ∃ m, n = m + 1 := ⟨n - 1, by omega⟩
    obtain ⟨M1, e1, r1, f1⟩ := r.tqby (n := n) hN h16 ht (v := i) (by omega) b (by omega)
    have op : ∀ y, (if qby N S i b = 0 then f_X10_stopsBy_2 n 120 b (nI (i + 1)) M1 else some ((0 : Int32), M1)) = y → f_X10_stopsBy_2 (n + 1) 120 b (nI i) M = y := by
      intro y hy
      rw [f_X10_stopsBy_2, rs_f r.1, rs_0 r.1, bnd_e, rs_fa r.1, rs_c0 r.1, cl0, r.N hN, if_neg (nI_ge (by omega) (by omega)), e1, obd2_s, bnd_e, nI_1]
      exact hy
    by_cases z : qby N S i b = 0
    · obtain ⟨x, M2, e2, hx, r2, f2⟩ := ih (i + 1) n M1 r1 (by omega) (by omega)
      exact ⟨x, M2, op _ (by rw [if_pos z]; exact e2), hx, r2, f1.tr f2⟩
    · exact ⟨0, M1, op _ (if_neg z), Or.inl rfl, r1, f1⟩
theorem RV.r12 (r : RV M tw t S pb pt) (hN : xR S 20 0 = nI N) (h16 : N ≤ 16) (ht : xR S 20 1 = 1 → N % 2 = 1) (a : Int32) {n : Nat} (hn : 100 ≤ n) : ∃ x M', f_X10_stops n 120 a M = some (x, M') ∧ RV M' tw t S pb pt ∧ Fr P2 M M' := by
  obtain ⟨x, M', e, hx, r', f'⟩ := rst_l hN h16 ht (a &&& (((1 : Int32) <<< (nI N &&& 31)) - (1 : Int32))) N 0 n M r (by omega) (by omega)
  refine ⟨x, M', ?_, r', f'⟩
  rw [f_X10_stops, rs_f r.1, f_X10_all, rs_f r.1, rs_0 r.1, bnd_e, rs_fa r.1, rs_c0 r.1, cl0, r.N hN, obd_s, f_X10_stopsBy, show f_X10_stopsBy_2 n 120 (a &&& (((1 : Int32) <<< (nI N &&& 31)) - (1 : Int32))) 0 M = some (x, M') from e, obd2_s, chk_t hx]
theorem RV.r29 (r : RV M tw t S pb pt) (hN : xR S 20 0 = nI N) (h2 : 2 ≤ N) (h16 : N ≤ 16) (a b c : Int32) : ∃ x, f_X10_waiting 120 a b c M = some x := by
  rcases out_in (N := N) (by omega) a with ha | ⟨k, hk, rfl⟩
  · exact ⟨-1, by rw [f_X10_waiting, rs_f r.1, ndr0 r hN (by omega) h16 ha, obd_s, if_pos rfl]⟩
  · have k6 : k < 16 := by omega
    have l20 := (r.2.2.2.1 k k6).2.1
    rw [f_X10_waiting, rs_f r.1, ndr r hN hk h16, obd_s, if_neg ne10, r.of3 k6, obd_s]
    rcases isIn_ex b 0 (nI (xW S k).length - 1) M with e | ⟨e, b0, b1⟩
    · exact ⟨_, by rw [e, obd_s, if_pos rfl]⟩
    · rw [e, obd_s, if_neg ne10]
      obtain ⟨j, hj, rfl⟩ := nn_e b0
      have hj2 : j < 20 := by
        rcases Nat.eq_zero_or_pos (xW S k).length with z | z
        · rw [z] at b1
          exfalso
          apply b1
          have e1 : nI 0 - (1 : Int32) = -1 := by decide
          rw [e1]
          have : ¬ nI j < 0 := b0
          have h0 : (0 : Int32) ≤ nI j := Int32.not_lt.mp b0
          exact Int32.lt_of_lt_of_le (by decide) h0
        · rw [nI_m1' z] at b1
          apply Decidable.byContradiction
          intro hc
          exact b1 (nI_lt (by omega) hj)
      have of_e : ∀ w, w < 44 → ∃ x, f_X10_of 120 (nI k) (nI w) M = some x := fun w hw => ⟨_, f_of r.toRK k6 hw⟩
      rcases isIn_ex c 0 1 M with e' | ⟨e', _⟩
      · exact ⟨_, by rw [e', obd_s, if_pos rfl]⟩
      · rw [e', obd_s, if_neg ne10]
        obtain ⟨x1, e1⟩ := of_e (4 + 2 * j) (by omega)
        obtain ⟨x2, e2⟩ := of_e (4 + 2 * j + 1) (by omega)
        have m1 : (4 : Int32) + ((2 : Int32) * nI j) = nI (4 + 2 * j) := by rw [show (4 : Int32) = nI 4 from rfl, show (2 : Int32) = nI 2 from rfl, pk_mul, nI_add]
        split
        · exact ⟨x1, by rw [f_X10_waitNode, rs_f r.1, m1, e1, obd_s, obd_s]⟩
        · exact ⟨x2, by rw [f_X10_waitStamp, rs_f r.1, m1, nI_1, e2, obd_s, obd_s]⟩
theorem rwy_l (r : RV M tw t S pb pt) (f g c : Int32) : ∀ (d i n : Nat) (x : Int32), i + d = (fl S).length → d + 1 ≤ n → ∃ z, f_X10_way_29 M n 120 f g c x (nI i) = some z := by
  have h9 := r.2.2.2.2.1.2.1
  intro d
  induction d with
  | zero =>
    intro i n x hi hn
    obtain ⟨n, rfl⟩ : ∃ m, n = m + 1 := ⟨n - 1, by omega⟩
    rw [f_X10_way_29, rs_f r.1, rs_0 r.1, bnd_e, rs_fa r.1, l850, rs_c r.1 (by decide), cl_n (by decide), r.2.2.2.2.1.1, if_pos (nI_le (by omega) (by omega))]
    split
    · exact ⟨_, rfl⟩
    · exact ⟨_, rfl⟩
  | succ d ih =>
    intro i n x hi hn
    obtain ⟨n, rfl⟩ : ∃ m, n = m + 1 := ⟨n - 1, by omega⟩
    have c8 : (851 : Int32) + nI i = nI (851 + i) := by rw [show (851 : Int32) = nI 851 from rfl, nI_add]
    rw [f_X10_way_29, rs_f r.1, rs_0 r.1, bnd_e, rs_fa r.1, l850, rs_c r.1 (by decide), cl_n (by decide), r.2.2.2.2.1.1, if_neg (nI_ge (by omega) (by omega)), bnd_e, rs_fa r.1, c8, rs_c r.1 (by omega), f_X10_pairOf, obd_s, bnd_e, rs_fa r.1, rs_c r.1 (by omega), f_X10_kindOf, obd_s, bnd_e, bnd_e, nI_1]
    split
    · split
      · exact ⟨_, rfl⟩
      · exact ih (i + 1) n _ (by omega) (by omega)
    · exact ih (i + 1) n _ (by omega) (by omega)
theorem RV.r30 (r : RV M tw t S pb pt) (hN : xR S 20 0 = nI N) (h2 : 2 ≤ N) (h16 : N ≤ 16) (a b c : Int32) {n : Nat} (hn : 9100 ≤ n) : ∃ x, f_X10_way n 120 a b c M = some x := by
  have h9 := r.2.2.2.2.1.2.1
  rcases out_in (N := N) (by omega) a with ha | ⟨k, hk, rfl⟩
  · exact ⟨-1, by rw [f_X10_way, rs_f r.1, ndr0 r hN (by omega) h16 ha, obd_s, if_pos rfl]⟩
  · rcases out_in (N := N) (by omega) b with hb | ⟨m, hm, rfl⟩
    · exact ⟨-1, by rw [f_X10_way, rs_f r.1, ndr r hN hk h16, obd_s, if_neg ne10, ndr0 r hN (by omega) h16 hb, obd_s, if_pos rfl]⟩
    · rw [f_X10_way, rs_f r.1, ndr r hN hk h16, obd_s, if_neg ne10, ndr r hN hm h16, obd_s, if_neg ne10]
      split
      · exact rwy_l r (nI k) (nI m) c (fl S).length 0 n 0 (by omega) (by omega)
      · exact ⟨_, rfl⟩
theorem RV.rlog (r : RV M tw t S pb pt) {A B m : Nat} {xs : List Row4} (hA : A < 10465) (hm : m ≤ 40) (hB : B + 160 ≤ 10465) (hb : RVb M A B m xs) (a b : Int32) : ∃ x, (if a = (-1 : Int32) then (chk (isO M 10 120) <| bnd (mR M 120 0) fun o25 => chk (isO M 100 o25) <| chk (inB (nI A) (mLn M o25)) <| some (mI M o25 ((nI A)).toNatClampNeg)) else (chk (isO M 10 120) <| bnd (mR M 120 0) fun o4 => chk (isO M 100 o4) <| chk (inB (nI A) (mLn M o4)) <| obd (f_X10_isIn a (0 : Int32) ((mI M o4 ((nI A)).toNatClampNeg) - (1 : Int32)) M) fun r9 => if r9 = 0 then some (-2 : Int32) else obd (f_X10_isIn b (0 : Int32) (3 : Int32) M) fun r13 => if r13 = 0 then some (-2 : Int32) else bnd (mR M 120 0) fun o16 => chk (isO M 100 o16) <| bnd (mR M 120 0) fun o19 => chk (isO M 100 o19) <| chk (inB (nI A) (mLn M o19)) <| chk (inB (((nI B) + ((4 : Int32) * (((mI M o19 ((nI A)).toNatClampNeg) - (1 : Int32)) - a))) + b) (mLn M o16)) <| some (mI M o16 ((((nI B) + ((4 : Int32) * (((mI M o19 ((nI A)).toNatClampNeg) - (1 : Int32)) - a))) + b)).toNatClampNeg))) = some x := by
  have q := r.1
  have lc := lastn_le5 m xs
  have hc := hb.1
  generalize (lastn m xs).length = ct at lc hc
  split
  · exact ⟨_, by rw [rs_f q, rs_0 q, bnd_e, rs_fa q, rs_c q hA]⟩
  · rw [rs_f q, rs_0 q, bnd_e, rs_fa q, rs_c q hA, mI_c hA, hc]
    rcases isIn_ex a 0 (nI ct - 1) M with e | ⟨e, a0, a1⟩
    · exact ⟨_, by rw [e, obd_s, if_pos rfl]⟩
    · rw [e, obd_s, if_neg ne10]
      rcases isIn_ex b 0 3 M with e' | ⟨e', b0, b1⟩
      · exact ⟨_, by rw [e', obd_s, if_pos rfl]⟩
      · obtain ⟨j, hj, rfl⟩ := nn_e a0
        obtain ⟨u, hu, rfl⟩ := nn_e b0
        have u3 : u ≤ 3 := by
          apply Decidable.byContradiction
          intro hc'
          exact b1 (nI_lt (a := 3) (by omega) hu)
        have hj2 : j + 1 ≤ ct := by
          rcases Nat.eq_zero_or_pos ct with z | z
          · rw [z] at a1
            exfalso
            apply a1
            have e1 : nI 0 - (1 : Int32) = -1 := by decide
            rw [e1]
            exact Int32.lt_of_lt_of_le (by decide) (Int32.not_lt.mp a0)
          · rw [nI_m1' z] at a1
            apply Decidable.byContradiction
            intro hc'
            exact a1 (nI_lt (by omega) hj)
        have e1 : nI ct - (1 : Int32) - nI j = nI (ct - 1 - j) := by
          rw [nI_m1' (by omega)]
          obtain ⟨z, hz⟩ : ∃ z, ct - 1 = z + j := ⟨ct - 1 - j, by omega⟩
          rw [hz, ← nI_add, show z + j - j = z by omega, Int32.add_sub_cancel]
        have e2 : (nI B + ((4 : Int32) * nI (ct - 1 - j))) + nI u = nI (B + 4 * (ct - 1 - j) + u) := by rw [show (4 : Int32) = nI 4 from rfl, pk_mul, nI_add, nI_add]
        exact ⟨_, by rw [e', obd_s, if_neg ne10, bnd_e, rs_fa q, bnd_e, rs_fa q, rs_c q hA, mI_c hA, hc, e1, e2, rs_c q (by omega)]⟩
theorem RV.r34 (r : RV M tw t S pb pt) (a b : Int32) : ∃ x, f_X10_book 120 a b M = some x := r.rlog (A := 9857) (B := 9913) (by decide) (by decide) (by decide) r.2.2.2.2.2.1 a b
theorem RV.r38 (r : RV M tw t S pb pt) (a b : Int32) : ∃ x, f_X10_trace 120 a b M = some x := r.rlog (A := 9858) (B := 10033) (by decide) (by decide) (by decide) r.2.2.2.2.2.2 a b
theorem rwf_l (r : RV M tw t S pb pt) (hN : xR S 20 0 = nI N) (h16 : N ≤ 16) (a x : Int32) : ∀ (d i n : Nat) (c : Int32), i + d = N → d + 1 ≤ n → ∃ z, f_X10_waitsNow_21 M n 120 a c x (nI i) = some z := by
  intro d
  induction d with
  | zero =>
    intro i n c hi hn
    obtain ⟨n, rfl⟩ : ∃ m, n = m + 1 := ⟨n - 1, by omega⟩
    exact ⟨c, by rw [f_X10_waitsNow_21, rs_f r.1, rs_0 r.1, bnd_e, rs_fa r.1, rs_c0 r.1, cl0, r.N hN, if_pos (nI_le (by omega) (by omega))]⟩
  | succ d ih =>
    intro i n c hi hn
    obtain ⟨n, rfl⟩ : ∃ m, n = m + 1 := ⟨n - 1, by omega⟩
    obtain ⟨z, e⟩ := has10_ex x (v := i) (by omega) M
    have i6 : i < 16 := by omega
    rw [f_X10_waitsNow_21, rs_f r.1, rs_0 r.1, bnd_e, rs_fa r.1, rs_c0 r.1, cl0, r.N hN, if_neg (nI_ge (by omega) (by omega)), e, obd_s, r.of0 i6]
    simp only [obd_s, bnd_e]
    rw [nI_1]
    split
    · exact ih (i + 1) n _ (by omega) (by omega)
    · split
      · exact ih (i + 1) n _ (by omega) (by omega)
      · split
        · exact ih (i + 1) n _ (by omega) (by omega)
        · exact ih (i + 1) n _ (by omega) (by omega)
theorem RV.wnw (r : RV M tw t S pb pt) (hN : xR S 20 0 = nI N) (h16 : N ≤ 16) {k : Nat} (hk : k < 16) {n : Nat} (hn : 20 ≤ n) : ∃ x, f_X10_waitsNow n 120 (nI k) M = some x := by
  rw [f_X10_waitsNow, rs_f r.1, r.get3 hk, obd_s, r.get4 hk, obd_s, bnd_e]
  exact rwf_l r hN h16 (nI k) _ N 0 n 0 (by omega) (by omega)
theorem RV.r35 (r : RV M tw t S pb pt) (hN : xR S 20 0 = nI N) (h2 : 2 ≤ N) (h16 : N ≤ 16) (a : Int32) {n : Nat} (hn : 100 ≤ n) : ∃ x, f_X10_waitsFor n 120 a M = some x := by
  rcases out_in (N := N) (by omega) a with ha | ⟨k, hk, rfl⟩
  · exact ⟨-1, by rw [f_X10_waitsFor, rs_f r.1, ndr0 r hN (by omega) h16 ha, obd_s, if_pos rfl]⟩
  · have k6 : k < 16 := by omega
    obtain ⟨x, e⟩ := r.wnw hN h16 k6 (n := n) (by omega)
    rw [f_X10_waitsFor, rs_f r.1, ndr r hN hk h16, obd_s, if_neg ne10, r.get0 k6, obd_s, e, obd_s]
    split
    · exact ⟨_, rfl⟩
    · exact ⟨_, rfl⟩
theorem rcr_l (r : RV M tw t S pb pt) (hN : xR S 20 0 = nI N) (h16 : N ≤ 16) (a : Int32) : ∀ (d i n : Nat) (x y : Int32), i + d = N → d + 1 ≤ n → ∃ z, f_X10_crowded_18 M n 120 a x y (nI i) = some z := by
  intro d
  induction d with
  | zero =>
    intro i n x y hi hn
    obtain ⟨n, rfl⟩ : ∃ m, n = m + 1 := ⟨n - 1, by omega⟩
    rw [f_X10_crowded_18, rs_f r.1, rs_0 r.1, bnd_e, rs_fa r.1, rs_c0 r.1, cl0, r.N hN, if_pos (nI_le (by omega) (by omega))]
    split
    · exact ⟨_, rfl⟩
    · exact ⟨_, rfl⟩
  | succ d ih =>
    intro i n x y hi hn
    obtain ⟨n, rfl⟩ : ∃ m, n = m + 1 := ⟨n - 1, by omega⟩
    rw [f_X10_crowded_18, rs_f r.1, rs_0 r.1, bnd_e, rs_fa r.1, rs_c0 r.1, cl0, r.N hN, if_neg (nI_ge (by omega) (by omega)), r.of3 (v := i) (by omega)]
    simp only [obd_s, bnd_e]
    rw [nI_1]
    split
    · exact ih (i + 1) n _ _ (by omega) (by omega)
    · exact ih (i + 1) n _ _ (by omega) (by omega)
theorem RV.r37 (r : RV M tw t S pb pt) (hN : xR S 20 0 = nI N) (h16 : N ≤ 16) (a : Int32) {n : Nat} (hn : 100 ≤ n) : ∃ x, f_X10_crowded n 120 a M = some x := by
  rw [f_X10_crowded]
  rcases isIn_ex a 0 1 M with e | ⟨e, _⟩
  · exact ⟨_, by rw [e, obd_s, if_pos rfl]⟩
  · rw [e, obd_s, if_neg ne10]
    exact rcr_l r hN h16 a N 0 n (-1) 0 (by omega) (by omega)
end
/-! ===== calls that write into rows of their own alone ===== -/
theorem HV.kp6 {M M' : Mem} {h X Y N : Nat} {t : Int32} {Q : Nat → Int32} {S : St} {pb pt : List Row4} (p : HV M h X Y t N Q S pb pt) (e : M'.1 = M.1) (hI : ∀ o, (o = 1 ∨ (h ≤ o ∧ o < h + 49 ∧ o ≠ h + 16) ∨ 131 ≤ o) → ∀ b, mI M' o b = mI M o b) : HV M' h X Y t N Q S pb pt := by
  obtain ⟨q, pv, hp, rm, ⟨lb, lt⟩, hN, hQ⟩ := p
  have hq := q.2.2.2.2
  have lo : ∀ o, h ≤ o → o < h + 49 → o ≠ h + 16 → ∀ b, mI M' o b = mI M o b := fun o a c n b => hI o (by omega) b
  refine ⟨q.e e, ?_, hp.cg (fun o ho b => lo o (by omega) (by omega) (by omega) b) (fun _ _ _ => rfl) rfl, ?_, ⟨lb.cg (fun b => lo _ (by omega) (by omega) (by omega) b) (fun b => lo _ (by omega) (by omega) (by omega) b), lt.cg (fun b => lo _ (by omega) (by omega) (by omega) b) (fun b => lo _ (by omega) (by omega) (by omega) b)⟩, by rw [hI 1 (Or.inl rfl)]; exact hN, fun v hv => by rw [lo _ (by omega) (by omega) (by omega)]; exact hQ v hv⟩
  · obtain ⟨d5, d6, d7, len, K, fr, us, ow, w, hK⟩ := pv
    obtain ⟨_, _, _, y5, y6, y7, _⟩ := id w.1
    have l3 := w.2.2.2.2.2.2.2.2.2.1.2.2.2.1
    have dd : ∀ d, (d = h + 7 ∨ d = h + 8 ∨ d = h + 9 ∨ 131 ≤ d) → ∀ b, mI M' d b = mI M d b := fun d hd b => hI d (by omega) b
    exact ⟨d5, d6, d7, len, K, fr, us, ow, w.cg (w.1.e e) (Nat.le_refl _) l3 (fun i a c b => lo _ (by omega) (by omega) (by omega) b) (fun b _ => dd _ (by omega) b) (fun b _ => dd _ (by omega) b) (fun b _ => dd _ (by omega) b), hK⟩
  · unfold Rm mN mU mLn mR at rm ⊢
    rw [e]; exact rm
theorem CW.kp {M M' : Mem} {N : Nat} {Q : Nat → Int32} {S : St} (h : CW M N Q S) (e : M'.1 = M.1) (hI : ∀ o, o ≠ 4 → o ≠ 30 → ¬ (120 ≤ o ∧ o ≤ 130) → ∀ b, mI M' o b = mI M o b) : CW M' N Q S := by
  obtain ⟨X, Y, L, p, sb, xg, xc, xv, xs, g, hL⟩ := h
  have s1 : Shp1 M M' := Shp1.e e
  have lo : ∀ o, o < 120 → o ≠ 4 → o ≠ 30 → ∀ b, mI M' o b = mI M o b := fun o a n1 n2 b => hI o n1 n2 (by omega) b
  exact ⟨X, Y, L, p.kp6 e (fun o ho b => hI o (by omega) (by omega) (by omega) b), sb.e e (lo 1 (by omega) (by omega) (by omega)) (lo 2 (by omega) (by omega) (by omega)), xg.s s1, xc.s s1 (lo 113 (by omega) (by omega) (by omega)) (fun _ _ => rfl), xv.s s1 (lo 5 (by omega) (by omega) (by omega)) (lo 6 (by omega) (by omega) (by omega)) (lo 8 (by omega) (by omega) (by omega)), xs.e e (fun o ho b => lo o (by omega) (by omega) (by omega) b), g.e e, hL⟩
/-- both answer, and stand as before -/
def Oks (i : Nat) (x : Option (Int32 × Mem)) (y : Mem → Option (Int32 × Mem)) : Prop := ∃ r r' M1 M2, x = some (r, M1) ∧ isO M1 10 120 ∧ y M1 = some (r', M2) ∧ WI (i + 1) M2
theorem Okk.ks {i : Nat} {x : Option (Int32 × Mem)} {y : Mem → Option (Int32 × Mem)} (h : Okk i x y) : Oks i x y := by
  obtain ⟨r, M1, M2, a, b, c, d⟩ := h
  exact ⟨r, r, M1, M2, a, b, c, d⟩
/-- class and reference have written into rows of their own alone -/
theorem WJ.own {M M1 M2 : Mem} {N A i : Nat} {Q : Nat → Int32} {S : St} (w : WJ M N A i Q S) (e1 : M1.1 = M.1) (h1 : ∀ o, o ≠ 4 → o ≠ 30 → ∀ b, mI M1 o b = mI M o b) (r2 : RV M2 false 0 S [] []) (e2 : M2.1 = M1.1) (h2 : ∀ o, ¬ (120 ≤ o ∧ o ≤ 130) → ∀ b, mI M2 o b = mI M1 o b) (z2 : mI M2 120 7 = 0) : WI (i + 1) M2 := by
  obtain ⟨cw, r, z7, sw, hQ⟩ := w
  exact ⟨N, A, Q, S, cw.kp (e2.trans e1) (fun o n1 n2 n3 b => by rw [h2 o n3, h1 o n1 n2]), r2, z2, sw.mo, hQ⟩
theorem RV.ow {M M1 : Mem} {S : St} (r : RV M false 0 S [] []) (e1 : M1.1 = M.1) (h1 : ∀ o, o ≠ 4 → o ≠ 30 → ∀ b, mI M1 o b = mI M o b) : RV M1 false 0 S [] [] :=
  r.mr (by unfold mN; rw [e1]; exact Nat.le_refl _) (fun o a b => ⟨by rw [e1], fun b => mR_e e1 o b, h1 o (by omega) (by omega)⟩)
/-- stops -/
theorem op12 {M : Mem} {i n : Nat} (h : WI i M) (a : Int32) (hn : 100000 ≤ n) : Oks i (f_X9_stops n 0 a M) (fun M1 => f_X10_stops n 120 a M1) := by
  obtain ⟨N, A, Q, S, w⟩ := h
  obtain ⟨X, Y, L, p, sb, xg, xr⟩ := id w.1
  obtain ⟨_, r, z7, sw, hQ⟩ := id w
  have h16 := sw.n16
  have h2 := sw.n2
  have key : ∃ x M1, f_X7_someQuorum n 1 (a &&& (((1 : Int32) <<< (nI N &&& 31)) - (1 : Int32))) M = some (x, M1) ∧ Fr P4 M M1 := by
    have e20 : ∀ u M1, ∃ x, f_X7_someQuorum_20 n u M1 = some (x, M1) := fun u M1 => by
      rw [f_X7_someQuorum_20]
      split
      · exact ⟨_, rfl⟩
      · exact ⟨_, rfl⟩
    rw [f_X7_someQuorum, sb.f, sb.t]
    rcases sw.t2 with t0 | t1
    · obtain ⟨x, ex⟩ := e20 (fub 0 N S (a &&& (((1 : Int32) <<< (nI N &&& 31)) - (1 : Int32)))) M
      refine ⟨x, M, ?_, Fr.rf _ _⟩
      rw [if_pos t0, f_X7_firstUnbroken, show (0 : Int32) = nI 0 from rfl, fu_l sb h16 _ N 0 n (by omega) (by omega), obd_s, ex]
    · obtain ⟨M1, e1, f1⟩ := wr_l h16 (by omega) (sw.t t1) (a &&& (((1 : Int32) <<< (nI N &&& 31)) - (1 : Int32))) N M n sb (Nat.le_refl _) (fun w _ _ => by omega) (by omega)
      obtain ⟨x, ex⟩ := e20 (wh N (a &&& (((1 : Int32) <<< (nI N &&& 31)) - (1 : Int32))) 0) M1
      refine ⟨x, M1, ?_, f1⟩
      rw [t1, if_neg ne10, f_X7_wholeOfRoot, sb.f, sb.n, bnd_e, e1, obd2_s, ex]
  obtain ⟨x, M1, e1, f1⟩ := key
  have o1 : ∀ o, o ≠ 4 → o ≠ 30 → ∀ b, mI M1 o b = mI M o b := fun o n1 _ b => f1.2.1 o n1 b
  have r1 := r.ow f1.1 o1
  obtain ⟨y, M2, e2, r2, f2⟩ := r1.r12 sw.n h16 sw.t a (n := n) (by omega)
  have cl : ∃ z, f_X9_stops n 0 a M = some (z, M1) := by
    rw [f_X9_stops, chk_t xg.1, xg.2.1, bnd_e, sb.f, bnd_e, sb.f, f_X7_allNodes, sb.f, sb.n, obd_s, e1, obd2_s]
    split
    · exact ⟨_, rfl⟩
    · exact ⟨_, rfl⟩
  obtain ⟨z, ez⟩ := cl
  refine ⟨z, y, M1, M2, ez, r1.1.io (by decide) (by decide) (by decide), e2, w.own f1.1 o1 r2 f2.1 (fun o ho b => f2.2.1 o (fun z => ho (by unfold P2 at z; omega)) b) ?_⟩
  rw [f2.2.1 120 (by unfold P2; decide), o1 120 (by decide) (by decide)]; exact z7
/-- quorum -/
theorem op8 {M : Mem} {i n : Nat} (h : WI i M) (a b : Int32) (hn : 100000 ≤ n) : ∃ r r' M2, f_X9_quorum 0 a b M = some r ∧ f_X10_quorum n 120 a b M = some (r', M2) ∧ WI (i + 1) M2 := by
  obtain ⟨N, A, Q, S, w⟩ := h
  obtain ⟨_, r, z7, sw, hQ⟩ := id w
  obtain ⟨x, ex⟩ := w.c8 a b
  obtain ⟨y, M2, e2, r2, f2⟩ := r.r8 sw.n sw.n2 sw.n16 sw.t a b (n := n) (by omega)
  refine ⟨x, y, M2, ex, e2, w.own rfl (fun _ _ _ _ => rfl) r2 f2.1 (fun o ho b => f2.2.1 o (fun z => ho (by unfold P2 at z; omega)) b) ?_⟩
  rw [f2.2.1 120 (by unfold P2; decide)]; exact z7
/-! ===== delay ===== -/
theorem HV.u19 {M M' : Mem} {h X Y N l : Nat} {t x : Int32} {Q : Nat → Int32} {S : St} {pb pt : List Row4} (p : HV M h X Y t N Q S pb pt) (e : M'.1 = M.1) (hI : ∀ o, (o = 1 ∨ (h ≤ o ∧ o < h + 49) ∨ 131 ≤ o) → ∀ b, mI M' o b = mI M o b) : HV M' h X Y t N Q (uR S 19 l x) pb pt := by
  have p' := p.kp e hI
  obtain ⟨q, pv, hp, rm, lg, hN, hQ⟩ := p'
  have rk : ∀ k i, k ≠ 19 → xR (uR S 19 l x) k i = xR S k i := fun k i n => by rw [xR_uR, if_neg (fun z => n z.1)]
  have lim : ∀ p, p ∈ ft → p.2 ≠ 19 := by decide
  refine ⟨q, ?_, ?_, rm, lg, hN, hQ⟩
  · obtain ⟨d5, d6, d7, len, K, fr, us, ow, w, hK⟩ := pv
    have e16 : xR (uR S 19 l x) 16 = xR S 16 := by funext i; exact rk 16 i (by decide)
    exact ⟨d5, d6, d7, len, K, fr, us, ow, by rw [e16]; exact w, hK⟩
  · obtain ⟨h1, g7, g8, g9, g10, g11, g12, g13, g14, g15⟩ := hp
    refine ⟨fun v hv => ?_, ?_, ?_, ?_, ?_, ?_, ?_, ?_, ?_, ?_⟩
    · obtain ⟨a1, a2, a3, a4, a5⟩ := h1 v hv
      exact ⟨fun q hq => by rw [rk _ _ (lim q hq)]; exact a1 q hq, a2, a3, a4, a5⟩
    · exact g7
    · exact g8
    · exact g9
    · exact g10
    · exact g11
    · exact g12
    · exact g13
    · exact g14
    · exact g15
theorem PB.c19 {N i l : Nat} {x : Int32} {S : St} (h : PB N i S) : PB N (i + 1) (uR S 19 l x) := fun a ha => by
  have e : Ph a (uR S 19 l x) = Ph a S := rfl
  have nb : nbr N (uR S 19 l x) = nbr N S := rfl
  rw [e, nb]
  have := h a ha
  omega
theorem op43 {M : Mem} {i n : Nat} (h : WI i M) (a b c : Int32) (hn : 100000 ≤ n) : Okk i (f_X9_delay 0 a b c M) (fun M1 => f_X10_delay 120 a b c M1) := by
  obtain ⟨N, A, Q, S, w⟩ := h
  obtain ⟨X, Y, L, p, sb, xg, xc, xv, xs, g, hL⟩ := id w.1
  obtain ⟨_, r, z7, sw, hQ⟩ := id w
  have h16 := sw.n16
  have h2 := sw.n2
  rcases out_in (N := N) (by omega) a with ha | ⟨k, hk, rfl⟩
  · refine Okk.same w (r := 0) ?_ ?_
    · rw [f_X9_delay, chk_t xg.1, xg.2.1, bnd_e, sb.f, ndc0 sb ha, obd_s, if_pos rfl]
    · show f_X10_delay 120 a b c M = _
      rw [f_X10_delay, rs_f r.1, ndr0 r sw.n (by omega) h16 ha, obd_s, if_pos rfl]
  · rcases out_in (N := N) (by omega) b with hb | ⟨m, hm, rfl⟩
    · refine Okk.same w (r := 0) ?_ ?_
      · rw [f_X9_delay, chk_t xg.1, xg.2.1, bnd_e, sb.f, ndc sb hk h16, obd_s, if_neg ne10, bnd_e, sb.f, ndc0 sb hb, obd_s, if_pos rfl]
      · show f_X10_delay 120 (nI k) b c M = _
        rw [f_X10_delay, rs_f r.1, ndr r sw.n hk h16, obd_s, if_neg ne10, ndr0 r sw.n (by omega) h16 hb, obd_s, if_pos rfl]
    · rcases rng3 (L := 1) (N := 9) (by decide) (by decide) c with hc | ⟨d, hd1, hd2, rfl⟩
      · refine Okk.same w (r := 0) ?_ ?_
        · rw [f_X9_delay, chk_t xg.1, xg.2.1, bnd_e, sb.f, ndc sb hk h16, obd_s, if_neg ne10, bnd_e, sb.f, ndc sb hm h16, obd_s, if_neg ne10]
          exact out2 (L := 1) (N := 9) (by decide) (by decide) hc
        · show f_X10_delay 120 (nI k) (nI m) c M = _
          rw [f_X10_delay, rs_f r.1, ndr r sw.n hk h16, obd_s, if_neg ne10, ndr r sw.n hm h16, obd_s, if_neg ne10, show f_X10_isIn c (1 : Int32) (9 : Int32) M = some 0 from is_out3 (L := 1) (N := 9) (by decide) hc, obd_s, if_pos rfl]
      · have l6 : 16 * k + m < 256 := by omega
        generalize hM1 : sI M 113 (16 * k + m) (nI d) = M1
        have s1 : M1.1 = M.1 := by rw [← hM1]; rfl
        have o1 : ∀ o, o ≠ 113 → ∀ b, mI M1 o b = mI M o b := fun o n b => by rw [← hM1, mI_o _ _ _ _ _ n]
        have r1 : RV M1 false 0 S [] [] := r.mr (by unfold mN; rw [s1]; exact Nat.le_refl _) (fun o a b => ⟨by rw [s1], fun b => mR_e s1 o b, o1 o (by omega)⟩)
        generalize hM2 : sI M1 121 (10209 + (16 * k + m)) (nI d) = M2
        have s2 : M2.1 = M1.1 := by rw [← hM2]; rfl
        have o2 : ∀ o, o ≠ 121 → ∀ b, mI M2 o b = mI M1 o b := fun o n b => by rw [← hM2, mI_o _ _ _ _ _ n]
        have n2 : ∀ b, b ≠ 10209 + (16 * k + m) → mI M2 121 b = mI M1 121 b := fun b n => by rw [← hM2, mI_n _ _ _ _ n]
        have S' : M2.1 = M.1 := s2.trans s1
        have oa : ∀ o, o ≠ 113 → o ≠ 121 → ∀ b, mI M2 o b = mI M o b := fun o na nb b => by rw [o2 o nb, o1 o na]
        have rk : ∀ k' i, k' ≠ 19 → xR (uR S 19 (16 * k + m) (nI d)) k' i = xR S k' i := fun k' i n => by rw [xR_uR, if_neg (fun z => n z.1)]
        have r2 : RV M2 false 0 (uR S 19 (16 * k + m) (nI d)) [] [] := by
          obtain ⟨q1, q2, q3, q4, q5, q6, q7⟩ := r1
          refine ⟨q1.e s2, by rw [o2 120 (by decide)]; exact q2, fun k' i hv => ?_, q4.cg (fun b _ hb => n2 b (by omega)) rfl, ⟨by rw [n2 850 (by omega)]; exact q5.1, q5.2.1, q5.2.2.cg fun i _ hi => ⟨n2 _ (by have := q5.2.1; omega), o2 123 (by decide) _⟩⟩, q6.cg (n2 _ (by omega)) (fun b _ hb => n2 b (by omega)), q7.cg (n2 _ (by omega)) (fun b _ hb => n2 b (by omega))⟩
          have ac := ad_cases hv
          by_cases c : k' = 19 ∧ i = 16 * k + m
          · rw [xR_uR, if_pos c, c.1, c.2]
            have e : ad 19 (16 * k + m) = 10209 + (16 * k + m) := rfl
            rw [e, ← hM2, mI_s]
          · rw [xR_uR, if_neg c, n2 _ (by omega)]
            exact q3 k' i hv
        have cw : CW M2 N Q (uR S 19 (16 * k + m) (nI d)) := by
          refine ⟨X, Y, L, p.u19 S' (fun o ho b => oa o (by omega) (by omega) b), ?_, xg.s (Shp1.e S'), ?_, xv.s (Shp1.e S') (fun b => oa 5 (by decide) (by decide) b) (fun b => oa 6 (by decide) (by decide) b) (fun b => oa 8 (by decide) (by decide) b), xs.e S' (fun o ho b => oa o (by omega) (by omega) b), g.e S', hL⟩
          · exact sb.cg (by unfold mN; rw [S']; exact Nat.le_refl _) (fun _ _ => by rw [S']) (fun _ => mR_e S' _ _) (fun b => oa 1 (by decide) (by decide) b) (fun b => oa 2 (by decide) (by decide) b) (rk 20 1 (by decide)) (fun v => rk 17 v (by decide))
          · obtain ⟨a1, a2, a3, a4, a5⟩ := xc
            have io : ∀ {c o}, isO M c o → isO M2 c o := fun z => by unfold isO mN mC at *; rw [S']; exact z
            refine ⟨io a1, by rw [mR_e S']; exact a2, io a3, by rw [mLn_e S']; exact a4, fun l hl => ?_⟩
            rw [o2 113 (by decide), xR_uR, ← hM1]
            by_cases c : l = 16 * k + m
            · rw [c, mI_s, if_pos ⟨rfl, rfl⟩]
              exact ⟨rfl, d, hd1, hd2, rfl⟩
            · rw [mI_n _ _ _ _ c, if_neg (fun z => c z.2)]; exact a5 l hl
        refine ⟨1, M1, M2, ?_, r1.1.io (by decide) (by decide) (by decide), ?_, N, A, Q, uR S 19 (16 * k + m) (nI d), cw, r2, by rw [oa 120 (by decide) (by decide)]; exact z7, ?_, fun v hv => by rw [show qm N (uR S 19 (16 * k + m) (nI d)) v = qm N S v from rfl]; exact hQ v hv⟩
        · rw [f_X9_delay, chk_t xg.1, xg.2.1, bnd_e, sb.f, ndc sb hk h16, obd_s, if_neg ne10, bnd_e, sb.f, ndc sb hm h16, obd_s, if_neg ne10]
          refine Eq.trans (in2 (L := 1) (N := 9) (by decide) hd1 hd2) ?_
          rw [xg.2.2.2.2.2.1, bnd_e, chk_t xc.1, xc.2.1, bnd_e, chk_t xc.2.2.1, c16', xc.2.2.2.1, chk_t (inB_n l6 (by decide)), sI_c (by omega), hM1, bnd_e]
        · show f_X10_delay 120 (nI k) (nI m) (nI d) M1 = _
          rw [f_X10_delay, rs_f r1.1, ndr r1 sw.n hk h16, obd_s, if_neg ne10, ndr r1 sw.n hm h16, obd_s, if_neg ne10, show f_X10_isIn (nI d) (1 : Int32) (9 : Int32) M1 = some 1 from is_in3 (L := 1) (N := 9) (by decide) hd1 hd2, obd_s, if_neg ne10, rs_0 r1.1, bnd_e, rs_fa r1.1, show ((10209 : Int32) + ((16 : Int32) * nI k)) + nI m = nI (10209 + (16 * k + m)) by rw [show (10209 : Int32) = nI 10209 from rfl, show (16 : Int32) = nI 16 from rfl, pk_mul, nI_add, nI_add, Nat.add_assoc], rs_c r1.1 (by omega), sI_c (by omega), hM2, bnd_e]
        · obtain ⟨y1, y2, y3, y4, y5, y6, y7, y8, y9, y10⟩ := sw
          exact ⟨y1, y2, y3, y4, y5, y6.c16 h16 (fun k' i hk' _ => rk k' i (by omega)) (fun _ _ => rfl) rfl, y7, y8, by omega, y10.c19⟩
/-! ===== the question is(..): round whom ===== -/
def P30 (o : Nat) : Prop := o = 30
theorem HV.f30 {M M' : Mem} {X Y N : Nat} {t : Int32} {Q : Nat → Int32} {S : St} {pb pt : List Row4} (p : HV M 14 X Y t N Q S pb pt) (f : Fr P30 M M') : HV M' 14 X Y t N Q S pb pt :=
  p.kp6 f.1 (fun o ho b => f.2.1 o (by unfold P30; omega) b)
theorem cs_h6 {M : Mem} {h : Nat} (q : CS M h) : mR M h 6 = h + 16 := q.r (a := 0) (b := 6) (c := 16) (by decide)
theorem cs_a16 {α : Type} {M : Mem} {h : Nat} (q : CS M h) (x : Option α) : chk (isO M 100 (h + 16)) x = x := chk_t (q.io (i := 16) (by decide) (by decide) (by decide))
theorem cs_i16 {α : Type} {M : Mem} {h : Nat} (q : CS M h) {k : Nat} (hk : k < 16) (x : Option α) : chk (inB (nI k) (mLn M (h + 16))) x = x := by
  refine chk_t ?_
  rw [q.ln (i := 16) (c := 16) (by decide) (by decide) (by decide)]; exact inB_n hk (by decide)
theorem f30_s (M : Mem) (k : Nat) (x : Int32) : Fr P30 M (sI M (14 + 16) k x) := Fr.tsI (show P30 (14 + 16) from rfl)
section
variable {X Y N : Nat} {t : Int32} {Q : Nat → Int32} {S : St} {pb pt : List Row4}
theorem rd115 {M : Mem} (p : HV M 14 X Y t N Q S pb pt) (h16 : N ≤ 16) : ∀ (d i n : Nat) (c : Int32), i + d = N → d + 1 ≤ n → ∃ x, f_X2_round_115 n 14 c (nI i) M = some (x, M) := by
  intro d
  have q := p.1
  induction d with
  | zero =>
    intro i n c hi hn
    obtain ⟨n, rfl⟩ : ∃ m, n = m + 1 := ⟨n - 1, by omega⟩
    exact ⟨c, by rw [f_X2_round_115, cs_f q, cs_h0 q, bnd_e, cs_s q, p.2.2.2.2.2.1, if_pos (nI_le (by omega) (by omega))]⟩
  | succ d ih =>
    intro i n c hi hn
    obtain ⟨n, rfl⟩ : ∃ m, n = m + 1 := ⟨n - 1, by omega⟩
    rw [f_X2_round_115, cs_f q, cs_h0 q, bnd_e, cs_s q, p.2.2.2.2.2.1, if_neg (nI_ge (by omega) (by omega)), cs_h6 q, bnd_e, cs_a16 q, cs_i16 q (by omega), bnd_e, bnd_e, nI_1]
    exact ih (i + 1) n _ (by omega) (by omega)
theorem rd60 (h16 : N ≤ 16) {K : Nat → Int32 → Mem → Option (Int32 × Mem)} {k : Nat} (hk : k < N) (hK : ∀ M, HV M 14 X Y t N Q S pb pt → ∃ x M2, K 14 (nI (k + 1)) M = some (x, M2) ∧ Fr P30 M M2) : ∀ (d i n : Nat) (M : Mem), HV M 14 X Y t N Q S pb pt → i + d = N → d + 1 ≤ n → ∃ x M2, f_X2_round_60 K n 14 (nI k) (nI i) M = some (x, M2) ∧ Fr P30 M M2 := by
  intro d
  induction d with
  | zero =>
    intro i n M p hi hn
    have q := p.1
    obtain ⟨n, rfl⟩ : ∃ m, n = m + 1 := ⟨n - 1, by omega⟩
    obtain ⟨x, M2, e2, f2⟩ := hK M p
    exact ⟨x, M2, by rw [f_X2_round_60, cs_f q, cs_h0 q, bnd_e, cs_s q, p.2.2.2.2.2.1, if_pos (nI_le (by omega) (by omega)), bnd_e, nI_1]; exact e2, f2⟩
  | succ d ih =>
    intro i n M p hi hn
    have q := p.1
    obtain ⟨n, rfl⟩ : ∃ m, n = m + 1 := ⟨n - 1, by omega⟩
    obtain ⟨z, ez⟩ := has_ex (mI M (14 + 16) (nI i).toNatClampNeg) (v := k) (by omega) M
    rw [f_X2_round_60, cs_f q, cs_h0 q, bnd_e, cs_s q, p.2.2.2.2.2.1, if_neg (nI_ge (by omega) (by omega)), cs_h6 q, bnd_e, cs_a16 q, cs_i16 q (show i < 16 by omega), ez, obd_s]
    by_cases c : z = 0
    · rw [if_pos c, bnd_e, nI_1]
      exact ih (i + 1) n M p (by omega) (by omega)
    · rw [if_neg c, bnd_e, cs_a16 q, cs_i16 q (show i < 16 by omega), bnd_e, cs_a16 q, cs_i16 q (show k < 16 by omega), cs_i16 q (show i < 16 by omega), bnd_e, bnd_e, nI_1]
      have f1 := f30_s M (nI i).toNatClampNeg (mI M (14 + 16) (nI i).toNatClampNeg ||| mI M (14 + 16) (nI k).toNatClampNeg)
      obtain ⟨x, M2, e2, f2⟩ := ih (i + 1) n _ (p.f30 f1) (by omega) (by omega)
      exact ⟨x, M2, e2, f1.tr f2⟩
theorem rd47 (h16 : N ≤ 16) : ∀ (d i n : Nat) (M : Mem), HV M 14 X Y t N Q S pb pt → i + d = N → d + 20 ≤ n → ∃ x M2, f_X2_round_47 n 14 (nI i) M = some (x, M2) ∧ Fr P30 M M2 := by
  intro d
  induction d with
  | zero =>
    intro i n M p hi hn
    have q := p.1
    obtain ⟨n, rfl⟩ : ∃ m, n = m + 1 := ⟨n - 1, by omega⟩
    obtain ⟨x, e⟩ := rd115 p h16 N 0 n 0 (by omega) (by omega)
    exact ⟨x, M, by rw [f_X2_round_47, cs_f q, cs_h0 q, bnd_e, cs_s q, p.2.2.2.2.2.1, if_pos (nI_le (by omega) (by omega))]; exact e, Fr.rf _ _⟩
  | succ d ih =>
    intro i n M p hi hn
    have q := p.1
    obtain ⟨n, rfl⟩ : ∃ m, n = m + 1 := ⟨n - 1, by omega⟩
    have k2 := rd60 (X := X) (Y := Y) (t := t) (Q := Q) (S := S) (pb := pb) (pt := pt) h16 (K := f_X2_round_47 n) (k := i) (by omega) (fun M p => ih (i + 1) n M p (by omega) (by omega)) N 0 n M p (by omega) (by omega)
    obtain ⟨x, M2, e2, f2⟩ := k2
    exact ⟨x, M2, by rw [f_X2_round_47, cs_f q, cs_h0 q, bnd_e, cs_s q, p.2.2.2.2.2.1, if_neg (nI_ge (by omega) (by omega))]; exact e2, f2⟩
theorem rd2 (h16 : N ≤ 16) : ∀ (d i n : Nat) (M : Mem), HV M 14 X Y t N Q S pb pt → i + d = N → d + 60 ≤ n → ∃ x M2, f_X2_round_2 n 14 (nI i) M = some (x, M2) ∧ Fr P30 M M2 := by
  intro d
  induction d with
  | zero =>
    intro i n M p hi hn
    have q := p.1
    obtain ⟨n, rfl⟩ : ∃ m, n = m + 1 := ⟨n - 1, by omega⟩
    obtain ⟨x, M2, e, f⟩ := rd47 h16 N 0 n M p (by omega) (by omega)
    exact ⟨x, M2, by rw [f_X2_round_2, cs_f q, cs_h0 q, bnd_e, cs_s q, p.2.2.2.2.2.1, if_pos (nI_le (by omega) (by omega))]; exact e, f⟩
  | succ d ih =>
    intro i n M p hi hn
    have q := p.1
    obtain ⟨n, rfl⟩ : ∃ m, n = m + 1 := ⟨n - 1, by omega⟩
    obtain ⟨z, ez⟩ := has_ex (mI M 14 8) (v := i) (by omega) M
    rw [f_X2_round_2, cs_f q, cs_h0 q, bnd_e, cs_s q, p.2.2.2.2.2.1, if_neg (nI_ge (by omega) (by omega)), cs_h6 q, bnd_e, cs_a16 q, ez, obd_s]
    by_cases c : z = 0
    · rw [if_pos c, cs_i16 q (show i < 16 by omega), bnd_e, bnd_e, nI_1]
      have f1 := f30_s M (nI i).toNatClampNeg 0
      obtain ⟨x, M2, e2, f2⟩ := ih (i + 1) n _ (p.f30 f1) (by omega) (by omega)
      exact ⟨x, M2, e2, f1.tr f2⟩
    · obtain ⟨y, ey⟩ := p.aw h16 (k := i) (by omega) (n := n) (by omega)
      rw [if_neg c, ey, obd_s, cs_i16 q (show i < 16 by omega), bnd_e, bnd_e, nI_1]
      have f1 := f30_s M (nI i).toNatClampNeg y
      obtain ⟨x, M2, e2, f2⟩ := ih (i + 1) n _ (p.f30 f1) (by omega) (by omega)
      exact ⟨x, M2, e2, f1.tr f2⟩
end
/-- how many bits -/
def cb (x : Int32) : Nat := smN (fun i => if bt x i then 1 else 0) 32
theorem smN_eq {f g : Nat → Nat} : ∀ n, (∀ i, i < n → f i ≤ g i) → smN g n ≤ smN f n → ∀ i, i < n → f i = g i := by
  intro n
  induction n with
  | zero => intro _ _ i hi; omega
  | succ n ih =>
    intro h e i hi
    have e' : smN g n + g n ≤ smN f n + f n := e
    have a := smN_le n (fun i hi => h i (by omega))
    have b := h n (by omega)
    rcases Nat.lt_or_ge i n with c | c
    · exact ih (fun i hi => h i (by omega)) (by omega) i c
    · obtain rfl : i = n := by omega
      omega
theorem cb_32 (x : Int32) : cb x ≤ 32 := by
  have h := smN_le (f := fun i => if bt x i then 1 else 0) (g := fun _ => 1) 32 (fun i _ => by show (if bt x i = true then 1 else 0) ≤ 1; split <;> omega)
  rw [smN_k] at h
  exact h
theorem cb_lt {x y : Int32} (h : ∀ j, j < 32 → bt x j = true → bt y j = true) (n : y ≠ x) : cb x < cb y := by
  apply Decidable.byContradiction
  intro c
  apply n
  have le : ∀ i, i < 32 → (if bt x i = true then 1 else 0) ≤ (if bt y i = true then 1 else 0) := by
    intro i hi
    by_cases b : bt x i = true
    · rw [if_pos b, if_pos (h i hi b)]; exact Nat.le_refl _
    · rw [if_neg b]; exact Nat.zero_le _
  have e := smN_eq (f := fun i => if bt x i then 1 else 0) (g := fun i => if bt y i then 1 else 0) 32 le (by unfold cb at c; omega)
  refine b_ext fun i hi => ?_
  have : (if bt x i = true then 1 else 0 : Nat) = (if bt y i = true then 1 else 0) := e i hi
  cases b : bt x i <;> cases b' : bt y i <;> rw [b, b'] at this <;> first | rfl | (exfalso; revert this; decide)
section
variable {M : Mem} {N : Nat} {tw : Bool} {t : Int32} {S : St} {pb pt : List Row4}
theorem rc18 (r : RV M tw t S pb pt) (hN : xR S 20 0 = nI N) (h16 : N ≤ 16) {K : Nat → Int32 → Int32 → Option Int32} {v4 : Int32} (hK0 : ∃ x, K 120 v4 0 = some x) (hK1 : ∀ y, (∀ j, j < 32 → bt v4 j = true → bt y j = true) → y ≠ v4 → ∃ x, K 120 y 1 = some x) : ∀ (d i n : Nat) (v2 : Int32), i + d = N → (∀ j, j < 32 → bt v4 j = true → bt v2 j = true) → d + 30 ≤ n → ∃ x, f_X10_reached_18 K M n 120 v2 v4 (nI i) = some x := by
  intro d
  induction d with
  | zero =>
    intro i n v2 hi hs hn
    obtain ⟨n, rfl⟩ : ∃ m, n = m + 1 := ⟨n - 1, by omega⟩
    rw [f_X10_reached_18, rs_f r.1, rs_0 r.1, bnd_e, rs_fa r.1, rs_c0 r.1, cl0, r.N hN, if_pos (nI_le (by omega) (by omega))]
    by_cases c : v2 = v4
    · rw [if_pos c, c]; exact hK0
    · rw [if_neg c]; exact hK1 v2 hs c
  | succ d ih =>
    intro i n v2 hi hs hn
    obtain ⟨n, rfl⟩ : ∃ m, n = m + 1 := ⟨n - 1, by omega⟩
    obtain ⟨z, e⟩ := has10_ex v4 (v := i) (by omega) M
    have i6 : i < 16 := by omega
    obtain ⟨y, ey⟩ := r.wnw hN h16 i6 (n := n) (by omega)
    rw [f_X10_reached_18, rs_f r.1, rs_0 r.1, bnd_e, rs_fa r.1, rs_c0 r.1, cl0, r.N hN, if_neg (nI_ge (by omega) (by omega)), e, obd_s, r.get0 i6]
    simp only [obd_s, bnd_e, ey]
    rw [nI_1]
    by_cases c : z = 0
    · rw [if_pos c]; exact ih (i + 1) n v2 (by omega) hs (by omega)
    · rw [if_neg c]
      by_cases c1 : xR S 0 i = 1
      · rw [if_pos c1]
        exact ih (i + 1) n (v2 ||| y) (by omega) (fun j hj hb => by rw [b_or, hs j hj hb]; rfl) (by omega)
      · rw [if_neg c1]; exact ih (i + 1) n v2 (by omega) hs (by omega)
theorem rc8 (r : RV M tw t S pb pt) (hN : xR S 20 0 = nI N) (h16 : N ≤ 16) : ∀ (d n : Nat) (v2 v3 : Int32), 32 ≤ cb v2 + d → d + 60 ≤ n → ∃ x, f_X10_reached_8 M n 120 v2 v3 = some x := by
  intro d
  have k0 : ∀ (n : Nat) (v : Int32), 1 ≤ n → ∃ x, f_X10_reached_8 M n 120 v 0 = some x := fun n v hn => by
    obtain ⟨n, rfl⟩ : ∃ m, n = m + 1 := ⟨n - 1, by omega⟩
    exact ⟨v, by rw [f_X10_reached_8, if_pos rfl]⟩
  induction d with
  | zero =>
    intro n v2 v3 hc hn
    obtain ⟨n, rfl⟩ : ∃ m, n = m + 1 := ⟨n - 1, by omega⟩
    rw [f_X10_reached_8]
    split
    · exact ⟨_, rfl⟩
    · refine rc18 r hN h16 (k0 n v2 (by omega)) (fun y hs hy => ?_) N 0 n v2 (by omega) (fun j _ h => h) (by omega)
      have := cb_lt hs hy
      have := cb_32 y
      omega
  | succ d ih =>
    intro n v2 v3 hc hn
    obtain ⟨n, rfl⟩ : ∃ m, n = m + 1 := ⟨n - 1, by omega⟩
    rw [f_X10_reached_8]
    split
    · exact ⟨_, rfl⟩
    · refine rc18 r hN h16 (k0 n v2 (by omega)) (fun y hs hy => ?_) N 0 n v2 (by omega) (fun j _ h => h) (by omega)
      have := cb_lt hs hy
      exact ih n y 1 (by omega) (by omega)
theorem RV.rch (r : RV M tw t S pb pt) (hN : xR S 20 0 = nI N) (h16 : N ≤ 16) {k : Nat} (hk : k < 16) {n : Nat} (hn : 100 ≤ n) : ∃ x, f_X10_reached n 120 (nI k) M = some x := by
  obtain ⟨y, ey⟩ := r.wnw hN h16 hk (n := n) (by omega)
  obtain ⟨x, e⟩ := rc8 r hN h16 32 n y 1 (by omega) (by omega)
  exact ⟨x, by rw [f_X10_reached, rs_f r.1, ey, obd_s]; exact e⟩
theorem rro_l (r : RV M tw t S pb pt) (hN : xR S 20 0 = nI N) (h16 : N ≤ 16) : ∀ (d i n : Nat) (c : Int32), i + d = N → d + 101 ≤ n → ∃ z, f_X10_roundOnes_4 M n 120 c (nI i) = some z := by
  intro d
  induction d with
  | zero =>
    intro i n c hi hn
    obtain ⟨n, rfl⟩ : ∃ m, n = m + 1 := ⟨n - 1, by omega⟩
    exact ⟨c, by rw [f_X10_roundOnes_4, rs_f r.1, rs_0 r.1, bnd_e, rs_fa r.1, rs_c0 r.1, cl0, r.N hN, if_pos (nI_le (by omega) (by omega))]⟩
  | succ d ih =>
    intro i n c hi hn
    obtain ⟨n, rfl⟩ : ∃ m, n = m + 1 := ⟨n - 1, by omega⟩
    have i6 : i < 16 := by omega
    obtain ⟨y, ey⟩ := r.rch hN h16 i6 (n := n) (by omega)
    obtain ⟨z, ez⟩ := has10_ex y (v := i) (by omega) M
    rw [f_X10_roundOnes_4, rs_f r.1, rs_0 r.1, bnd_e, rs_fa r.1, rs_c0 r.1, cl0, r.N hN, if_neg (nI_ge (by omega) (by omega)), r.get0 i6]
    simp only [obd_s, bnd_e, ey, ez]
    rw [nI_1]
    split
    · split
      · exact ih (i + 1) n _ (by omega) (by omega)
      · exact ih (i + 1) n _ (by omega) (by omega)
    · exact ih (i + 1) n _ (by omega) (by omega)
end
theorem ite_ex {c : Prop} [Decidable c] {p q : Option (Int32 × Mem)} {F : Mem → Prop} (a : ∃ x M', p = some (x, M') ∧ F M') (b : ∃ x M', q = some (x, M') ∧ F M') : ∃ x M', (if c then p else q) = some (x, M') ∧ F M' := by
  by_cases h : c
  · rw [if_pos h]; exact a
  · rw [if_neg h]; exact b
theorem op31 {M : Mem} {i n : Nat} (h : WI i M) (a : Int32) (hn : 100000 ≤ n) : Oks i (f_X9_is n 0 a M) (fun M1 => f_X10_is n 120 a M1) := by
  obtain ⟨N, A, Q, S, w⟩ := h
  obtain ⟨X, Y, L, p, sb, xg, xr⟩ := id w.1
  obtain ⟨_, r, z7, sw, hQ⟩ := id w
  have h16 := sw.n16
  have h2 := sw.n2
  have q := p.1
  have key : ∃ x M1, f_X9_is n 0 a M = some (x, M1) ∧ Fr P30 M M1 := by
    have c9 : ∀ x : Option (Int32 × Mem), chk (isO M 9 0) x = x := fun x => chk_t xg.1
    have c7 : ∀ x : Option (Int32 × Mem), chk (isO M 7 1) x = x := fun x => sb.f x
    have c2 : ∀ x : Option (Int32 × Mem), chk (isO M 2 14) x = x := fun x => cs_f q x
    have c5 : ∀ x : Option (Int32 × Mem), chk (isO M 5 15) x = x := fun x => cs_p q x
    have r1 : mR M 14 1 = 15 := cs_h1 q
    have cm := p.cm sw.2.2.2.2.2.1 h16 (n := n) (by omega)
    obtain ⟨y, M1, e1, f1⟩ := rd2 h16 N 0 n M p (by omega) (by omega)
    have er : f_X2_round n 14 M = some (y, M1) := e1
    rw [f_X9_is]
    simp only [c9, c7, c2, c5, r1, xg.2.1, xg.2.2.2.1, bnd_e, cm, er, obd_s, obd2_s]
    have z : ∀ x : Int32, ∃ x' M', some (x, M) = some (x', M') ∧ Fr P30 M M' := fun x => ⟨_, M, rfl, Fr.rf _ _⟩
    exact ite_ex (z _) (ite_ex (z _) (ite_ex (z _) (ite_ex (z _) (ite_ex (z _) (ite_ex (z _) (ite_ex (z _) (ite_ex (z _) (ite_ex (z _) (ite_ex (z _) (ite_ex (z _) (ite_ex (z _) (ite_ex ⟨_, M1, rfl, f1⟩ (z _)))))))))))))
  obtain ⟨x, M1, e1, f1⟩ := key
  have o1 : ∀ o, o ≠ 4 → o ≠ 30 → ∀ b, mI M1 o b = mI M o b := fun o _ n2 b => f1.2.1 o n2 b
  have r1 := r.ow f1.1 o1
  have z1 : mI M1 120 7 = 0 := by rw [o1 120 (by decide) (by decide)]; exact z7
  have ref : ∃ y M2, f_X10_is n 120 a M1 = some (y, M2) ∧ RV M2 false 0 S [] [] ∧ FrM M1 M2 := by
    have c10 : ∀ x : Option (Int32 × Mem), chk (isO M1 10 120) x = x := fun x => rs_f r1.1 x
    have r0 : mR M1 120 0 = 121 := rs_0 r1.1
    have ca : ∀ x : Option (Int32 × Mem), chk (isO M1 100 121) x = x := fun x => rs_fa r1.1 x
    have ln : mLn M1 121 = 10465 := r1.toRK.2.2.2
    have cc : ∀ (k : Int32) (x : Option (Int32 × Mem)), inB k 10465 → chk (inB k 10465) x = x := fun k x h => chk_t h
    obtain ⟨M2, e2, r2, _, f2⟩ := r1.lay sw.n h16 sw.t (ask := 0) (sn := fun v => mI M1 125 v) z1 (fun _ _ => rfl) (n := n) (by omega)
    have em : f_X10_movesNow n 120 M1 = some (mI M2 120 6, M2) := by
      rw [f_X10_movesNow, rs_f r1.1, e2, obd_s, rs_f r2.1]
    obtain ⟨y1, i1, _⟩ := r1.insd sw.n h16 (n := n) (by omega)
    obtain ⟨y2, i2, _⟩ := r1.askg sw.n h16 (n := n) (by omega)
    have i3 := r1.bro sw.n h16 (n := n) (by omega)
    obtain ⟨y4, i4⟩ := rro_l r1 sw.n h16 N 0 n 0 (by omega) (by omega)
    have i5 : f_X10_roundOnes n 120 M1 = some y4 := i4
    have b0 : inB (0 : Int32) 10465 := by decide
    have b1 : inB (850 : Int32) 10465 := by decide
    have b2 : inB (9851 : Int32) 10465 := by decide
    have b3 : inB (9852 : Int32) 10465 := by decide
    have b4 : inB (9853 : Int32) 10465 := by decide
    have b5 : inB (9854 : Int32) 10465 := by decide
    have b6 : inB (9855 : Int32) 10465 := by decide
    have b7 : inB (9856 : Int32) 10465 := by decide
    rw [f_X10_is]
    simp only [c10, r0, ca, ln, bnd_e, em, i1, i2, i3, i5, obd_s, obd2_s, cc _ _ b0, cc _ _ b1, cc _ _ b2, cc _ _ b3, cc _ _ b4, cc _ _ b5, cc _ _ b6, cc _ _ b7]
    have z : ∀ x : Int32, ∃ x' M', some (x, M1) = some (x', M') ∧ RV M' false 0 S [] [] ∧ FrM M1 M' := fun x => ⟨_, M1, rfl, r1, FrM.rf _⟩
    exact ite_ex (z _) (ite_ex (z _) (ite_ex (z _) (ite_ex (z _) (ite_ex (z _) (ite_ex (z _) (ite_ex (z _) (ite_ex (z _) (ite_ex (z _) (ite_ex (z _) (ite_ex ⟨_, M2, rfl, r2, f2⟩ (ite_ex (z _) (ite_ex (z _) (z _)))))))))))))
  obtain ⟨y, M2, e2, r2, f2⟩ := ref
  refine ⟨x, y, M1, M2, e1, r1.1.io (by decide) (by decide) (by decide), e2, w.own f1.1 o1 r2 f2.1 (fun o ho b => f2.2.1 o (by omega) b) ?_⟩
  rw [f2.2.2.1 7 (by decide)]; exact z1
/-! ===== the trial and the search work, the rest of the class stands ===== -/
theorem HV.kt {M M' : Mem} {X Y X' Y' N : Nat} {t : Int32} {Q : Nat → Int32} {S : St} {pb pt : List Row4} (p : HV M 14 X Y t N Q S pb pt) (n1 : mN M ≤ mN M') (tp : ∀ i, i < mN M → M'.1.2.1 i = M.1.2.1 i) (rf : ∀ a b, a < 63 → mR M' a b = mR M a b) (hi : ∀ o, o < 63 ∨ (o = mR M 15 5 ∨ o = mR M 15 6 ∨ o = mR M 15 7) → ∀ b, mI M' o b = mI M o b) (rm : Rm M' 14 X' Y') : HV M' 14 X' Y' t N Q S pb pt := by
  obtain ⟨q, pv, hp, _, ⟨lb, lt⟩, hN, hQ⟩ := p
  have hq := q.2.2.2.2.2.2
  have io : ∀ {c o}, isO M c o → isO M' c o := fun z => ⟨by have := z.1; omega, by rw [mC, tp _ z.1]; exact z.2⟩
  have ln : ∀ {c o l}, isO M c o → mLn M o = l → mLn M' o = l := fun z y => by rw [mLn, tp _ z.1]; exact y
  have lo : ∀ o, o < 63 → ∀ b, mI M' o b = mI M o b := fun o a b => hi o (Or.inl a) b
  have q' : CS M' 14 := by
    obtain ⟨k1, k2, k3, k4, k5, k6, k7⟩ := q
    refine ⟨fun i hi hn => by rw [tp _ (by omega)]; exact k1 i hi hn, fun z hz => ?_, by rw [rf 14 0 (by decide)]; exact k3, io k4, k5, k6, by omega⟩
    have hb : z.1 < 49 := by
      have : ∀ z, z ∈ tH → z.1 < 49 := by decide
      exact this z hz
    rw [rf _ _ (by omega)]; exact k2 z hz
  refine ⟨q', ?_, hp.cg (fun o ho b => lo o (by omega) b) (fun _ _ _ => rfl) rfl, rm, ⟨lb.cg (fun b => lo _ (by omega) b) (fun b => lo _ (by omega) b), lt.cg (fun b => lo _ (by omega) b) (fun b => lo _ (by omega) b)⟩, by rw [lo 1 (by decide)]; exact hN, fun v hv => by rw [lo _ (by omega)]; exact hQ v hv⟩
  obtain ⟨d5, d6, d7, len, K, fr, us, ow, w, hK⟩ := pv
  have ds := w.1
  have ds' : DS M' 14 d5 d6 d7 len := ⟨⟨by rw [rf _ _ (by decide)]; exact ds.1.1, by rw [rf _ _ (by decide)]; exact ds.1.2.1, by rw [rf _ _ (by decide)]; exact ds.1.2.2⟩, ⟨io ds.2.1.1, io ds.2.1.2.1, io ds.2.1.2.2⟩, ⟨ln ds.2.1.1 ds.2.2.1.1, ln ds.2.1.2.1 ds.2.2.1.2.1, ln ds.2.1.2.2 ds.2.2.1.2.2⟩, ds.2.2.2⟩
  exact ⟨d5, d6, d7, len, K, fr, us, ow, w.cg ds' (Nat.le_refl _) w.2.2.2.2.2.2.2.2.2.1.2.2.2.1 (fun i a c b => lo _ (by omega) b) (fun b _ => hi d5 (Or.inr (Or.inl ds.1.1.symm)) b) (fun b _ => hi d6 (Or.inr (Or.inr (Or.inl ds.1.2.1.symm))) b) (fun b _ => hi d7 (Or.inr (Or.inr (Or.inr ds.1.2.2.symm))) b), hK⟩
theorem CW.mov {M M' : Mem} {N X Y L L' e' dC' : Nat} {Q Q' : Nat → Int32} {S S' : St} {t : Int32} {pb pt : List Row4} (p : HV M 14 X Y 0 N Q S [] []) (sb : SB M N S) (xg : XG M) (xc : XC M S) (xv : XV M N) (g : GR M L) (hL : L' ≤ 1520000) (n1 : mN M ≤ mN M') (tp : ∀ i, i < mN M → M'.1.2.1 i = M.1.2.1 i) (rf : ∀ a b, a < mN M → ¬ (a = 64 ∧ 5 ≤ b ∧ b ≤ 7) → ¬ (a = 114 ∧ b = 5) → mR M' a b = mR M a b) (hi : ∀ o, (o < 131 ∧ ¬ (63 ≤ o ∧ o < 112) ∧ ¬ (114 ≤ o ∧ o ≤ 119)) ∨ (o = mR M 15 5 ∨ o = mR M 15 6 ∨ o = mR M 15 7) → ∀ b, mI M' o b = mI M o b) (sp : ∀ j, 5 ≤ j → j ≤ 7 → dC' ≠ mR M 15 j ∧ ∀ i, 5 ≤ i → i ≤ 7 → mR M' 64 i ≠ mR M 15 j) (sx : SX M') (cl : CL M' dC' L' e') (z : mI M' 115 0 = 0) (p63 : HV M' 63 (8384 + 3 * mLn M (mR M 15 5) + L' / 16) (900000 + 6 * mLn M (mR M 15 5) + 2 * L') t N Q' S' pb pt) : CW M' N Q S := by
  have hN := p.1.2.2.2.2.2.2
  have d57 := p.d57
  have R15 : ∀ b, mR M' 15 b = mR M 15 b := fun b => rf 15 b (by omega) (by omega) (by omega)
  have L15 : mLn M' (mR M' 15 5) = mLn M (mR M 15 5) := by
    rw [R15, mLn, tp _ (d57 5 (by decide) (by decide)).2.1]
    rfl
  have s1 : Shp1 M M' := ⟨n1, tp, fun a b ha n => rf a b ha (by omega) (by omega)⟩
  have rm := p63.2.2.2.1
  have l64 := (p63.d57 5 (by decide) (by decide)).2.2.2
  have gr : GR M' L' := by
    refine ⟨?_, ?_, by rw [L15]; exact g.2.2.1, rm.2.2.2.2, by rw [L15]; exact g.2.2.2.2.1, l64⟩
    · rw [L15]
      have : mN M' * 64 ≤ 8384 + 3 * mLn M (mR M 15 5) + L' / 16 + 3 * mLn M' (mR M' 64 5) := rm.1
      omega
    · rw [L15]
      have : mU M' ≤ 900000 + 6 * mLn M (mR M 15 5) + 2 * L' + 6 * mLn M' (mR M' 64 5) := rm.2.1
      omega
  have lo : ∀ o, o < 63 → ∀ b, mI M' o b = mI M o b := fun o a b => hi o (Or.inl ⟨by omega, by omega, by omega⟩) b
  have p14 := p.kt n1 tp (fun a b ha => rf a b (by omega) (by omega) (by omega)) (fun o ho b => ho.elim (fun a => lo o a b) (fun a => hi o (Or.inr a) b)) (gr.r14 hL)
  refine ⟨_, _, L', p14, sb.cg n1 (fun o ho => tp o (by omega)) (fun b => rf 1 b (by omega) (by omega) (by omega)) (lo 1 (by decide)) (lo 2 (by decide)) rfl (fun _ => rfl), xg.s s1, xc.s s1 (fun b => hi 113 (Or.inl ⟨by decide, by decide, by decide⟩) b) (fun _ _ => rfl), xv.s s1 (lo 5 (by decide)) (lo 6 (by decide)) (lo 8 (by decide)), ?_, gr, hL⟩
  obtain ⟨d5, d6, d7, len, K, fr, us, ow, w, _⟩ := p63.2.1
  have u := w.2.2.2.2.2.2.2.2.2.1
  exact ⟨e', dC', d5, d6, d7, len, pb ++ xE S', pt ++ xT S', sx, cl, p63.1, ⟨w.1, u.2.2.2.2, u.2.2.2.1⟩, p63.2.2.2.2.1, z, fun j a b => by rw [R15]; exact sp j a b⟩
theorem CW.tri {M : Mem} {N : Nat} {Q : Nat → Int32} {S : St} (h : CW M N Q S) : ∃ X0 Y0 pb pt, TR M 63 X0 Y0 pb pt ∧ (∀ i j, 5 ≤ i → i ≤ 7 → 5 ≤ j → j ≤ 7 → mR M 64 i ≠ mR M 15 j) ∧ ∀ (M' : Mem) (t : Int32) (Q' : Nat → Int32) (S' : St) (pb' pt' : List Row4), FrD M M' 63 → HV M' 63 X0 Y0 t N Q' S' pb' pt' → CW M' N Q S := by
  obtain ⟨X, Y, L, p, sb, xg, xc, xv, xs, g, hL⟩ := h
  obtain ⟨e, dC, e5, e6, e7, len, pb, pt, sx, cl, q, ⟨ds, d64, d18⟩, ⟨lb, lt⟩, z0, dj⟩ := xs
  refine ⟨_, _, pb, pt, ⟨q, ⟨e5, e6, e7, len, ds, d64, d18⟩, g.r63 hL, lb, lt⟩, fun i j a b c d => (dj j c d).2 i a b, fun M' t Q' S' pb' pt' f p63 => ?_⟩
  obtain ⟨x, f⟩ := f
  have hN := p.1.2.2.2.2.2.2
  have d57 := p.d57
  have r57 : ∀ i, 5 ≤ i → i ≤ 7 → mR M 64 i = 63 + 2 + i ∨ 131 ≤ mR M 64 i := by
    obtain ⟨⟨y5, y6, y7⟩, _, _, x5, x6, x7, _⟩ := ds
    have y5' : mR M 64 5 = e5 := y5
    have y6' : mR M 64 6 = e6 := y6
    have y7' : mR M 64 7 = e7 := y7
    intro i a b
    rcases (show i = 5 ∨ i = 6 ∨ i = 7 by omega) with rfl | rfl | rfl
    · rw [y5']; exact x5
    · rw [y6']; exact x6
    · rw [y7']; exact x7
  have r5 := r57 5 (by decide) (by decide)
  have r6 := r57 6 (by decide) (by decide)
  have r7 := r57 7 (by decide) (by decide)
  have fu : FrUp (sL M 63 16 x) M' := f.up hN r57
  have sx' := SX.up (M := sL M 63 16 x) sx fu
  have cl' := (CL.up (M := sL M 63 16 x) cl hN fu).1
  have f4 : ∀ o, o < mN M → ¬ (63 ≤ o ∧ o < 63 + 49) → o ≠ mR M 64 5 → o ≠ mR M 64 6 → o ≠ mR M 64 7 → ∀ b, mI M' o b = mI M o b := f.2.2.2.1
  have f6 : ∀ j, 5 ≤ j → j ≤ 7 → mR M' 64 j = mR M 64 j ∨ mN M ≤ mR M' 64 j := f.2.2.2.2.2
  refine CW.mov p sb xg xc xv g hL f.1 f.2.1 (fun a b ha n _ => f.2.2.1 a b ha n) (fun o ho b => ?_) (fun j a b => ⟨(dj j a b).1, fun i c d => ?_⟩) sx' cl' ?_ p63
  · rcases ho with ho | ho
    · exact f4 o (by omega) (by omega) (by omega) (by omega) (by omega) b
    · have key : ∀ j, 5 ≤ j → j ≤ 7 → o = mR M 15 j → mI M' o b = mI M o b := fun j h5 h7 ej => by
        have dd := d57 j h5 h7
        have e1 : (mR M 15 j = 14 + 2 + j ∨ 131 ≤ mR M 15 j) ∧ mR M 15 j < mN M := ⟨dd.1, dd.2.1⟩
        have n5 := (dj j h5 h7).2 5 (by decide) (by decide)
        have n6 := (dj j h5 h7).2 6 (by decide) (by decide)
        have n7 := (dj j h5 h7).2 7 (by decide) (by decide)
        exact f4 o (by omega) (by omega) (by omega) (by omega) (by omega) b
      rcases ho with ho | ho | ho
      · exact key 5 (by decide) (by decide) ho
      · exact key 6 (by decide) (by decide) ho
      · exact key 7 (by decide) (by decide) ho
  · have e1 : mR M 15 j < mN M := (d57 j a b).2.1
    have n := (dj j a b).2 i c d
    rcases f6 i c d with e | e
    · rw [e]; exact n
    · omega
  · rw [f4 115 (by omega) (by omega) (by omega) (by omega) (by omega)]; exact z0
/-- the rows in which the hall's letters lie -/
def D14 (M : Mem) (o : Nat) : Prop := o = mR M 15 5 ∨ o = mR M 15 6 ∨ o = mR M 15 7
theorem D14.e {M : Mem} {o : Nat} (h : D14 M o) : ∃ j, 5 ≤ j ∧ j ≤ 7 ∧ o = mR M 15 j := by
  rcases h with h | h | h
  · exact ⟨5, by decide, by decide, h⟩
  · exact ⟨6, by decide, by decide, h⟩
  · exact ⟨7, by decide, by decide, h⟩
theorem D14.i {M : Mem} {j : Nat} (a : 5 ≤ j) (b : j ≤ 7) : D14 M (mR M 15 j) := by
  rcases (show j = 5 ∨ j = 6 ∨ j = 7 by omega) with rfl | rfl | rfl
  · exact Or.inl rfl
  · exact Or.inr (Or.inl rfl)
  · exact Or.inr (Or.inr rfl)
theorem pw_18 {l : Nat} (h : ∃ z, l = 64 * 2 ^ z) (h18 : l ≤ 18000) : l ≤ 16384 := by
  obtain ⟨z, rfl⟩ := h
  apply Decidable.byContradiction
  intro c
  have : 9 ≤ z := by
    apply Decidable.byContradiction
    intro d
    have := Nat.pow_le_pow_right (n := 2) (by decide) (show z ≤ 8 by omega)
    omega
  have := Nat.pow_le_pow_right (n := 2) (by decide) this
  omega
theorem CW.sea {M : Mem} {N : Nat} {Q : Nat → Int32} {S : St} (h : CW M N Q S) : ∃ X0 Y0 pb pt, SR M X0 Y0 pb pt ∧ X0 ≤ 100000 ∧ Y0 ≤ 1000000 ∧ (∀ i j, 5 ≤ i → i ≤ 7 → 5 ≤ j → j ≤ 7 → mR M 64 i ≠ mR M 15 j) ∧ Sep (D14 M) M (mR M 114 5) ∧ ∀ (M' : Mem) (t : Int32) (Q' : Nat → Int32) (pb' pt' : List Row4) (A P most : Nat) (S0 : St) (ask : Int32) (sn : Nat → Int32) (q : Bq), CM (D14 M) X0 Y0 t N Q' pb' pt' A P most S0 ask sn M' q → FrS (D14 M) M M' → CW M' N Q S := by
  obtain ⟨X, Y, L, p, sb, xg, xc, xv, xs, g, hL⟩ := h
  obtain ⟨e, dC, e5, e6, e7, len, pb, pt, sx, cl, q, ⟨ds, d64, d18⟩, ⟨lb, lt⟩, z0, dj⟩ := xs
  have d57 := p.d57
  have l16 := pw_18 g.2.2.1 g.2.2.2.2.1
  refine ⟨8384 + 3 * mLn M (mR M 15 5), 900000 + 6 * mLn M (mR M 15 5), pb, pt, ⟨L, e, dC, sx, cl, ⟨q, ⟨e5, e6, e7, len, ds, d64, d18⟩, g.r63 hL, lb, lt⟩, z0⟩, by omega, by omega, fun i j a b c d => (dj j c d).2 i a b, fun o ho => ?_, fun M' t Q' pb' pt' A P most S0 ask sn qq hm f => ?_⟩
  · obtain ⟨j, a, b, rfl⟩ := ho.e
    have dd := d57 j a b
    have e1 : (mR M 15 j = 14 + 2 + j ∨ 131 ≤ mR M 15 j) ∧ mR M 15 j < mN M := ⟨dd.1, dd.2.1⟩
    refine ⟨e1.2, by omega, by omega, ?_, fun i c d => ((dj j a b).2 i c d).symm⟩
    rw [cl.1]; exact ((dj j a b).1).symm
  · obtain ⟨S1, e', dC', dd, ⟨L', sx', cl', p63⟩, gs, sq, sep⟩ := hm
    obtain ⟨f1, f2, f3, f4, f5⟩ := f
    refine CW.mov p sb xg xc xv g cl'.2.2.2.2.2.2.2.1 f1 f2 f3 f4 (fun j a b => ?_) sx' cl' ?_ p63
    · obtain ⟨s1, s2, s3, s4, s5⟩ := sep (mR M 15 j) (D14.i a b)
      exact ⟨fun z => s4 z.symm, fun i c d z => s5 i c d z.symm⟩
    · rw [sq.1.1 0 (Nat.zero_le _)]; rfl
/-! ===== entersBy, from any state between the calls ===== -/
/-- how many moves by draws till v is in; -1: never -/
def eN (N v : Nat) : Nat → Nat → St → Int64 → Int32
  | 0, i, S, _ => if xR S 0 v = 2 then nI i else -1
  | d + 1, i, S, g => if xR S 0 v = 2 then nI i else if mv0 N S = [] then -1 else eN N v d (i + 1) (dm 0 N (((mv0 N S)[dk g (mv0 N S).length]?).getD 0) S) (drw g)
theorem eN_2 {N v d i : Nat} {S : St} {g : Int64} (c : xR S 0 v = 2) : eN N v d i S g = nI i := by
  cases d with
  | zero => show (if xR S 0 v = 2 then nI i else -1) = _; rw [if_pos c]
  | succ d => show (if xR S 0 v = 2 then nI i else _) = _; rw [if_pos c]
theorem eN_e {N v d i : Nat} {S : St} {g : Int64} (c : ¬ xR S 0 v = 2) (h : mv0 N S = []) : eN N v d i S g = -1 := by
  cases d with
  | zero => show (if xR S 0 v = 2 then nI i else -1) = _; rw [if_neg c]
  | succ d => show (if xR S 0 v = 2 then nI i else if mv0 N S = [] then -1 else _) = _; rw [if_neg c, if_pos h]
theorem eN_s {N v d i m : Nat} {S : St} {g : Int64} (c : ¬ xR S 0 v = 2) (h : mv0 N S ≠ []) (hm : (mv0 N S)[dk g (mv0 N S).length]? = some m) : eN N v (d + 1) i S g = eN N v d (i + 1) (dm 0 N m S) (drw g) := by
  show (if xR S 0 v = 2 then nI i else if mv0 N S = [] then -1 else _) = _
  rw [if_neg c, if_neg h, hm]
  rfl
theorem eN_c {N A v : Nat} {P : Nat → Nat} {S0 : St} (h16 : N ≤ 16) (hA : A < 1048576) (hv : v < 16) : ∀ (d i : Nat) (S S' : St) (g : Int64), Gk g → SE S S' → GI N A P S0 S → eN N v d i S g = eN N v d i S' g := by
  intro d
  induction d with
  | zero =>
    intro i S S' g hg h _
    show (if xR S 0 v = 2 then nI i else -1) = (if xR S' 0 v = 2 then nI i else -1)
    rw [h.1 0 v (by omega) hv]
  | succ d ih =>
    intro i S S' g hg h hI
    have e0 := h.1 0 v (by omega) hv
    have em := mv0_c h h16
    by_cases c : xR S 0 v = 2
    · rw [eN_2 c, eN_2 (e0 ▸ c)]
    · have c' : ¬ xR S' 0 v = 2 := fun z => c (e0.trans z)
      by_cases k : mv0 N S = []
      · rw [eN_e c k, eN_e c' (em ▸ k)]
      · have hl : 0 < (mv0 N S).length := List.length_pos_iff.mpr k
        have hm : (mv0 N S).length < 1000 := by
          have e := mvl_0 N S (fun _ => 0)
          have := mvl_len (N := N) S 0 (fun _ => 0)
          rw [e] at this
          omega
        obtain ⟨j, hj, ej⟩ := drk_lt hg hl hm
        have hd : dk g (mv0 N S).length = j := by unfold dk; rw [ej, nI_clamp (by omega)]
        have hc : (mv0 N S)[dk g (mv0 N S).length]? = some ((mv0 N S)[j]) := by rw [hd]; exact List.getElem?_eq_getElem hj
        have mem : (mv0 N S)[j] ∈ mv0 N S := List.getElem_mem hj
        generalize (mv0 N S)[j] = m at hc mem
        rw [eN_s c k hc, eN_s (m := m) c' (em ▸ k) (by rw [← em]; exact hc)]
        refine ih (i + 1) _ _ (drw g) (Gk_drw hg) (h.tdm hI.1 h16 ?_) (hI.tdm h16 hA mem 0)
        rcases mv0_in hI.1 h16 mem with ⟨h1, h2, h3, _⟩ | ⟨h1, h2, h3, _⟩
        · exact Or.inl ⟨h1, h2, h3⟩
        · exact Or.inr (Or.inl ⟨h1, h2, h3⟩)
section
variable {N A v : Nat} {P : Nat → Nat} {S0 : St}
theorem ceb {Q : Nat → Int32} {X Y : Nat} {pb pt : List Row4} (h2 : 2 ≤ N) (h16 : N ≤ 16) (hA : A < 1048576) (hP : smN P 16 + N ≤ 9000) (hv : v < 16) : ∀ (d i n : Nat) (M : Mem) (S : St) (g : Int64), i + d = 500 → HV M 63 X Y 0 N Q S pb pt → XT M → mL M 63 16 = g → Gk g → GI N A P S0 S → d + 60 ≤ n → ∃ M' S', f_X9_entersBy_39 n 0 (nI v) (nI i) M = some (eN N v d i S g, M') ∧ HV M' 63 X Y 0 N Q S' pb pt ∧ FrD M M' 63 := by
  intro d
  have one : ∀ (i n : Nat) (M : Mem) (S : St) (z : Option (Int32 × Mem)), HV M 63 X Y 0 N Q S pb pt → XT M → 1 ≤ n → (xR S 0 v = 2 → z = some (nI i, M)) → (¬ xR S 0 v = 2 → z = if (500 : Int32) ≤ nI i then some ((-1 : Int32), M) else (bnd (mR M 0 3) fun o11 => chk (isO M 2 o11) <| obd2 (f_X2_moveByDraw (n - 1) o11 M) fun r15 M16 => if r15 = 0 then some ((-1 : Int32), M16) else bnd (nI i + (1 : Int32)) fun x19 => f_X9_entersBy_39 (n - 1) 0 (nI v) x19 M16)) → f_X9_entersBy_39 n 0 (nI v) (nI i) M = z := by
    intro i n M S z p x hn z1 z2
    obtain ⟨n, rfl⟩ : ∃ m, n = m + 1 := ⟨n - 1, by omega⟩
    have hb := p.2.2.1.2.1 v (by omega)
    have eh : f_X9_has (mI M 63 7) (nI v) M = some (if xR S 0 v = 2 then 1 else 0) := by
      rw [f_has9 _ (show v < 32 by omega), hb]
      by_cases c : xR S 0 v = 2
      · rw [decide_eq_true (⟨hv, c⟩ : v < 16 ∧ xR S 0 v = 2), if_pos c]; rfl
      · rw [decide_eq_false (fun y => c y.2), if_neg c]; rfl
    rw [f_X9_entersBy_39, chk_t x.1, x.2.2.2.1, bnd_e, cs_f p.1, eh, obd_s]
    by_cases c : xR S 0 v = 2
    · rw [z1 c, if_pos c, if_neg ne10]
    · rw [z2 c, if_neg c, if_pos rfl, x.2.2.2.1]
      rfl
  induction d with
  | zero =>
    intro i n M S g hi p x hg hG hI hn
    refine ⟨M, S, one i n M S _ p x (by omega) (fun c => by rw [eN_2 c]) (fun c => ?_), p, (FrH.rf M 63).D⟩
    rw [if_pos (show (500 : Int32) ≤ nI i from nI_le (a := 500) (by omega) (by omega))]
    show some ((if xR S 0 v = 2 then nI i else -1), M) = _
    rw [if_neg c]
  | succ d ih =>
    intro i n M S g hi p x hg hG hI hn
    have hl := hI.tfl
    by_cases c : xR S 0 v = 2
    · exact ⟨M, S, one i n M S _ p x (by omega) (fun c => by rw [eN_2 c]) (fun z => absurd c z), p, (FrH.rf M 63).D⟩
    · obtain ⟨d1, d2⟩ := p.dr (n := n - 1) hI.1 hA h2 h16 (by omega) (by have := p.1.2.2.2.2.2.2; omega) hg hG (by omega)
      by_cases k : mv0 N S = []
      · refine ⟨M, S, one i n M S _ p x (by omega) (fun z => absurd z c) (fun _ => ?_), p, (FrH.rf M 63).D⟩
        rw [if_neg (show ¬ (500 : Int32) ≤ nI i from nI_ge (b := 500) (by omega) (by decide)), x.2.2.2.1, bnd_e, cs_f p.1, d1 k, obd2_s, if_pos rfl, eN_e c k]
      · obtain ⟨m, M1, hm, e1, p1, g1, f1⟩ := d2 k
        have mem : m ∈ mv0 N S := List.mem_of_getElem? hm
        obtain ⟨M', S', e', p', f'⟩ := ih (i + 1) (n - 1) M1 _ (drw g) (by omega) p1 (x.frD f1) g1 (Gk_drw hG) (hI.tdm h16 hA mem 0) (by omega)
        refine ⟨M', S', one i n M S _ p x (by omega) (fun z => absurd z c) (fun _ => ?_), p', f1.tr f'⟩
        rw [if_neg (show ¬ (500 : Int32) ≤ nI i from nI_ge (b := 500) (by omega) (by decide)), x.2.2.2.1, bnd_e, cs_f p.1, e1, obd2_s, if_neg ne10, bnd_e, nI_1, e', eN_s c k hm]
theorem e56 {M : Mem} {S : St} {i n : Nat} (r : RV M false 0 S [] []) (hv : v < 16) (hn : 10466 ≤ n) : f_X10_entersBy_56 n 120 (nI v) (nI i) M = some ((if xR S 0 v = 2 then nI i else -1), cpF M 126 121 0) := by
  rw [f_X10_entersBy_56, rs_f r.1, r.get0 hv, obd_s]
  by_cases c : xR S 0 v = 2
  · rw [if_pos c, if_pos c, f_X10_entersBy_71, rs_f r.1, f_back r.1 hn, obd_s, if_neg ne10]
  · rw [if_neg c, if_neg c, f_X10_entersBy_71, rs_f r.1, f_back r.1 hn, obd_s, if_pos rfl]
theorem reb (h2 : 2 ≤ N) (h16 : N ≤ 16) (hA : A < 1048576) (hP : smN P 16 + N ≤ 9000) (hv : v < 16) (hN : xR S0 20 0 = nI N) (ht : xR S0 20 1 = 1 → N % 2 = 1) : ∀ (d i n : Nat) (M : Mem) (S : St) (g : Int64), i + d = 500 → RV M false 0 S [] [] → mI M 120 7 = 0 → mL M 120 8 = g → Gk g → GI N A P S0 S → d + 11000 ≤ n → ∃ M', f_X10_entersBy_26 n 120 (nI v) (nI i) M = some (eN N v d i S g, cpF M' 126 121 0) ∧ FrG M M' := by
  intro d
  induction d with
  | zero =>
    intro i n M S g hi r h7 hg hG hI hn
    obtain ⟨n, rfl⟩ : ∃ m, n = m + 1 := ⟨n - 1, by omega⟩
    refine ⟨M, ?_, FrG.rf M⟩
    rw [f_X10_entersBy_26, if_pos (show (500 : Int32) ≤ nI i from nI_le (a := 500) (by omega) (by omega)), e56 r hv (by omega)]
    rfl
  | succ d ih =>
    intro i n M S g hi r h7 hg hG hI hn
    obtain ⟨n, rfl⟩ : ∃ m, n = m + 1 := ⟨n - 1, by omega⟩
    have hl := hI.tfl
    have hR := hI.2.2.2.2
    have l5 : ¬ (500 : Int32) ≤ nI i := nI_ge (b := 500) (by omega) (by decide)
    by_cases c : xR S 0 v = 2
    · refine ⟨M, ?_, FrG.rf M⟩
      rw [f_X10_entersBy_26, if_neg l5, rs_f r.1, r.get0 hv, obd_s, if_pos c, e56 r hv (by omega), if_pos c, eN_2 c]
    · obtain ⟨M1, d1, d2, f1⟩ := r.goO (n := n) hI.1 (by rw [hR 20 0 (by omega)]; exact hN) h2 h16 (by rw [hR 20 1 (by omega)]; exact ht) hA (by omega) h7 hg hG (by omega)
      by_cases k : mv0 N S = []
      · obtain ⟨e1, r1, _⟩ := d1 k
        refine ⟨M1, ?_, f1⟩
        rw [f_X10_entersBy_26, if_neg l5, rs_f r.1, r.get0 hv, obd_s, if_neg c, e1, obd2_s, if_pos rfl, e56 r1 hv (by omega), if_neg c, eN_e c k]
      · obtain ⟨m, hm, e1, r1, g1⟩ := d2 k
        have mem : m ∈ mv0 N S := List.mem_of_getElem? hm
        obtain ⟨M', e', f'⟩ := ih (i + 1) n M1 _ (drw g) (by omega) r1 (by rw [f1.2.2.1 7 (by decide)]; exact h7) g1 (Gk_drw hG) (hI.tdm h16 hA mem 0) (by omega)
        refine ⟨M', ?_, f1.tr f'⟩
        rw [f_X10_entersBy_26, if_neg l5, rs_f r.1, r.get0 hv, obd_s, if_neg c, e1, obd2_s, if_neg ne10, bnd_e, nI_1, e', eN_s c k hm]
end
/-- what was put aside is brought back -/
theorem RV.bk {M M3 : Mem} {tw : Bool} {S : St} {t : Int32} {pb pt : List Row4} (r : RV M false t S pb pt) (e : M3.1 = M.1) (h3 : mI M3 120 3 = mI M 120 3) (h6 : ∀ b, b < 10465 → mI M3 126 b = mI M 121 b) : RV (cpF M3 126 121 0) false t S pb pt := by
  have e3 : ∀ b, b < 10465 → mI (cpF M3 126 121 0) 121 b = mI M 121 b := fun b hb => by
    show (if 121 = 121 ∧ 0 ≤ b ∧ b < 10465 then M3.2.1 126 b else M3.2.1 121 b) = _
    rw [if_pos ⟨rfl, Nat.zero_le _, hb⟩]
    exact h6 b hb
  have e120 : mI (cpF M3 126 121 0) 120 3 = mI M 120 3 := by
    show (if 120 = 121 ∧ 0 ≤ 3 ∧ 3 < 10465 then M3.2.1 126 3 else M3.2.1 120 3) = _
    rw [if_neg (by decide)]
    exact h3
  obtain ⟨hS, ht, hA, hw, hl, hb1, hb2⟩ := r
  have h9 := hl.2.1
  refine ⟨hS.e e, e120.trans ht, fun k i hv => ?_, hw.cg (fun b _ hb => e3 b (by omega)) rfl, ⟨(e3 850 (by decide)).trans hl.1, h9, fun i q hq => ?_⟩, hb1.cg (e3 _ (by decide)) (fun b _ hb => e3 b (by omega)), hb2.cg (e3 _ (by decide)) (fun b _ hb => e3 b (by omega))⟩
  · have ac := ad_cases hv
    rw [e3 _ (by omega)]; exact hA k i hv
  · have := gl_lt hq
    exact ⟨(e3 _ (by omega)).trans (hl.2.2 i q hq).1, fun z => by cases z⟩
theorem clr_SE (S : St) : SE (clr S) S := ⟨fun _ _ _ _ => rfl, fun _ _ => rfl, fun _ _ => rfl⟩
theorem Inv.clr {N A : Nat} {S : St} (h : Inv N A S) : Inv N A (clr S) := h.reg ⟨rfl, fun _ _ _ _ => rfl⟩ rfl
theorem WJ.gc {M : Mem} {N A i : Nat} {Q : Nat → Int32} {S : St} (w : WJ M N A i Q S) : GI N A (fun a => Ph a S) S (clr S) := by
  have sw := w.2.2.2.1
  exact ⟨sw.inv.clr, (clr_SE S).sy.tix sw.n16 sw.ix, sw.iz, fun a _ => by rw [(clr_SE S).tPh a]; exact Nat.le_refl _, fun _ _ _ => rfl⟩
/-- the reference has worked on its own and brought all back -/
theorem WJ.rfb {M M1 M3 : Mem} {N A i : Nat} {Q : Nat → Int32} {S : St} (w : WJ M N A i Q S) (cw : CW M1 N Q S) (r1 : RV M1 false 0 S [] []) (z1 : mI M1 120 7 = 0) (e : M3.1 = M1.1) (hI : ∀ o, ¬ (120 ≤ o ∧ o ≤ 130) → ∀ b, mI M3 o b = mI M1 o b) (h3 : mI M3 120 3 = mI M1 120 3) (h7 : mI M3 120 7 = mI M1 120 7) (h6 : ∀ b, b < 10465 → mI M3 126 b = mI M1 121 b) : WI (i + 1) (cpF M3 126 121 0) := by
  have sw := w.2.2.2.1
  have o : ∀ o, o ≠ 121 → ∀ b, mI (cpF M3 126 121 0) o b = mI M3 o b := fun o n b => by
    show (if o = 121 ∧ 0 ≤ b ∧ b < 10465 then M3.2.1 126 b else M3.2.1 o b) = _
    rw [if_neg (fun z => n z.1)]; rfl
  refine ⟨N, A, Q, S, cw.ref e (fun k hk b => by rw [o k (by omega)]; exact hI k hk b), r1.bk (tw := false) e h3 h6, ?_, sw.mo, w.2.2.2.2⟩
  rw [o 120 (by decide), h7]; exact z1
theorem op40 {M : Mem} {i n : Nat} (h : WI i M) (hi : i ≤ 511) (a b : Int32) (hn : 100000 ≤ n) : Okk i (f_X9_entersBy n 0 a b M) (fun M1 => f_X10_entersBy n 120 a b M1) := by
  obtain ⟨N, A, Q, S, w⟩ := h
  obtain ⟨X, Y, L, p, sb, xg, xr⟩ := id w.1
  obtain ⟨_, r, z7, sw, hQ⟩ := id w
  have h16 := sw.n16
  have h2 := sw.n2
  have hA := sw.a
  have ps := sw.ps hi
  rcases out_in (N := N) (by omega) a with ha | ⟨v, hv, rfl⟩
  · refine Okk.same w (r := -1) ?_ ?_
    · rw [f_X9_entersBy, chk_t xg.1, xg.2.1, bnd_e, sb.f, ndc0 sb ha, obd_s, if_pos rfl]
    · show f_X10_entersBy n 120 a b M = _
      rw [f_X10_entersBy, rs_f r.1, ndr0 r sw.n (by omega) h16 ha, obd_s, if_pos rfl]
  · by_cases hb : b < 0
    · have n0 : ¬ 0 ≤ b := Int32.not_le.mpr hb
      refine Okk.same w (r := -1) ?_ ?_
      · rw [f_X9_entersBy, chk_t xg.1, xg.2.1, bnd_e, sb.f, ndc sb hv h16, obd_s, if_neg ne10, if_neg n0]
      · show f_X10_entersBy n 120 (nI v) b M = _
        rw [f_X10_entersBy, rs_f r.1, ndr r sw.n hv h16, obd_s, if_neg ne10, if_neg n0]
    · obtain ⟨s, hs, rfl⟩ := nn_e hb
      have le0 : (0 : Int32) ≤ nI s := nI_le (a := 0) (Nat.zero_le _) hs
      have hP : smN (fun a => Ph a S) 16 + N ≤ 9000 := by
        show PhS S + N ≤ 9000
        omega
      obtain ⟨X0, Y0, pb, pt, tr, dj, fin⟩ := w.1.tri
      have x0 : XT M := ⟨xg.1, xg.2.1, xg.2.2.2.1, xg.2.2.2.2.1, p.1.2.2.2.2.2.2⟩
      obtain ⟨M1, e1, p1, f1⟩ := p.copy tr (by omega) h16 dj (fun v hv => (sw.inv.1 v hv).2.2.2) (fun v hv w hw => by have := ((sw.inv.2.2.2.2.2.1 v hv).1.2.2 w hw).1; omega) (n := n) (by omega)
      have x1 := x0.fr f1
      obtain ⟨M2, S2, e2, p2, f2⟩ := ceb (v := v) h2 h16 (show A < 1048576 by omega) hP (by omega) 500 0 n (sL M1 63 16 ((nI s).toInt64)) (clr S) _ (by omega) (p1.tsL _ _ _) (x1.sL _ _ _) (mL_s _ _ _ _) (lN_Gk hs) w.gc (by omega)
      have fD : FrD M M2 63 := f1.D.tr (FrD.tr ⟨_, FrH.rf _ _⟩ f2)
      have cw := fin M2 0 Q S2 pb pt fD p2
      have ec : f_X9_entersBy n 0 (nI v) (nI s) M = some (eN N v 500 0 S ((nI s).toInt64), M2) := by
        rw [f_X9_entersBy, chk_t xg.1, xg.2.1, bnd_e, sb.f, ndc sb hv h16, obd_s, if_neg ne10, if_pos le0, xg.2.2.2.2.1, bnd_e, cs_f tr.1, xg.2.2.2.1, bnd_e, cs_f p.1, e1, obd_s, chk_t x1.1, x1.2.2.2.1, bnd_e, cs_f p1.1, bnd_e]
        refine Eq.trans (show _ = f_X9_entersBy_39 n 0 (nI v) (nI 0) (sL M1 63 16 ((nI s).toInt64)) from rfl) ?_
        rw [e2, eN_c h16 (show A < 1048576 by omega) (show v < 16 by omega) 500 0 (clr S) S _ (lN_Gk hs) (clr_SE S) w.gc]
      -- the reference
      have fo : ∀ o, 120 ≤ o → o < 131 → M2.1.2.1 o = M.1.2.1 o ∧ (∀ b, mR M2 o b = mR M o b) ∧ ∀ b, mI M2 o b = mI M o b := by
        obtain ⟨x, f⟩ := id fD
        have hN := p.1.2.2.2.2.2.2
        have r57 : ∀ i, 5 ≤ i → i ≤ 7 → mR M 64 i = 63 + 2 + i ∨ 131 ≤ mR M 64 i := by
          obtain ⟨_, ⟨e5, e6, e7, len, ds, _⟩, _⟩ := tr
          obtain ⟨⟨y5, y6, y7⟩, _, _, x5, x6, x7, _⟩ := ds
          have y5' : mR M 64 5 = e5 := y5
          have y6' : mR M 64 6 = e6 := y6
          have y7' : mR M 64 7 = e7 := y7
          intro i a b
          rcases (show i = 5 ∨ i = 6 ∨ i = 7 by omega) with rfl | rfl | rfl
          · rw [y5']; exact x5
          · rw [y6']; exact x6
          · rw [y7']; exact x7
        have fo := FrH.o (M := sL M 63 16 x) f hN r57
        intro o a b
        obtain ⟨g1, g2, g3, _⟩ := fo.2 o (by omega) b
        exact ⟨g1, g2, g3⟩
      have n2 : mN M ≤ mN M2 := by
        obtain ⟨x, f⟩ := id fD
        exact f.1
      have r2 : RV M2 false 0 S [] [] := r.mr n2 fo
      have z2 : mI M2 120 7 = 0 := by rw [(fo 120 (by decide) (by decide)).2.2]; exact z7
      have ea := f_aside r2.1 (n := n) (by omega)
      generalize hMa : cpF M2 121 126 0 = Ma at ea
      have oa : ∀ o, o ≠ 126 → ∀ b, mI Ma o b = mI M2 o b := fun o n b => by
        rw [← hMa]
        show (if o = 126 ∧ 0 ≤ b ∧ b < 10465 then M2.2.1 121 b else M2.2.1 o b) = M2.2.1 o b
        rw [if_neg (fun z => n z.1)]
      have ob : ∀ b, b < 10465 → mI Ma 126 b = mI M2 121 b := fun b hb => by
        rw [← hMa]
        show (if 126 = 126 ∧ 0 ≤ b ∧ b < 10465 then M2.2.1 121 b else M2.2.1 126 b) = M2.2.1 121 b
        rw [if_pos ⟨rfl, Nat.zero_le _, hb⟩]
      have sa : Ma.1 = M2.1 := by rw [← hMa]; rfl
      have pa : RV Ma false 0 S [] [] := r2.cg sa (oa 120 (by decide) 3) (oa 121 (by decide)) (oa 123 (by decide))
      obtain ⟨M3, e3, f3⟩ := reb (v := v) h2 h16 (show A < 1048576 by omega) hP (by omega) sw.n sw.t 500 0 n (sL Ma 120 8 ((nI s).toInt64)) S _ (by omega) (pa.tsL _ _ _) (by show mI Ma 120 7 = 0; rw [oa 120 (by decide)]; exact z2) (mL_s _ _ _ _) (lN_Gk hs) w.gi (by omega)
      have f31 : M3.1 = Ma.1 := f3.1
      have f32 : ∀ o, ¬ (120 ≤ o ∧ o ≤ 124) → ∀ k, mI M3 o k = mI Ma o k := f3.2.1
      have f33 : ∀ k, k ≠ 6 → mI M3 120 k = mI Ma 120 k := f3.2.2.1
      refine ⟨_, M2, _, ec, r2.1.io (by decide) (by decide) (by decide), ?_, w.rfb cw r2 z2 (f31.trans sa) (fun o ho b => by rw [f32 o (by omega), oa o (by omega)]) (by rw [f33 3 (by decide), oa 120 (by decide)]) (by rw [f33 7 (by decide), oa 120 (by decide)]) (fun b hb => by rw [f32 126 (by decide)]; exact ob b hb)⟩
      show f_X10_entersBy n 120 (nI v) (nI s) M2 = _
      rw [f_X10_entersBy, rs_f r2.1, ndr r2 sw.n hv h16, obd_s, if_neg ne10, if_pos le0, ea, obd_s, rs_f pa.1, bnd_e]
      exact e3
/-! ===== a crowd: letters, and what may yet become letters ===== -/
/-- what v may yet send to a: its next asking -/
def th1 (N : Nat) (S : St) (a v : Nat) : Nat := if xR S 0 v = 1 then (if bt (xR S 4 v) a = true ∨ (bt (qm N S v) a = true ∧ ¬ bt (xR S 3 v) a = true) then 1 else 0) else (if bt (qm N S v) a = true then 1 else 0)
def th (N : Nat) (S : St) (a : Nat) : Nat := smN (th1 N S a) N
def TH (N : Nat) (S : St) : Nat := smN (fun a => Ph a S + th N S a) 16
theorem th1_1 (N : Nat) (S : St) (a v : Nat) : th1 N S a v ≤ 1 := by
  unfold th1
  split
  · split <;> omega
  · split <;> omega
theorem th1_c {N a v : Nat} {S S' : St} (h : ∀ k, k = 0 ∨ k = 3 ∨ k = 4 → xR S' k v = xR S k v) (hq : qm N S' v = qm N S v) : th1 N S' a v = th1 N S a v := by
  unfold th1
  rw [h 0 (by omega), h 3 (by omega), h 4 (by omega), hq]
theorem PhS_TH (N : Nat) (S : St) : PhS S ≤ TH N S := smN_le 16 (fun _ _ => Nat.le_add_right _ _)
theorem TH_fl (N : Nat) (S : St) : (fl S).length ≤ TH N S := Nat.le_trans (fl_PhS S) (PhS_TH N S)
theorem TH_0 {N : Nat} (h16 : N ≤ 16) (S : St) : TH N S ≤ PhS S + 256 := by
  have h1 : ∀ a, th N S a ≤ 16 := fun a => by
    have := smN_le (f := th1 N S a) (g := fun _ => 1) N (fun v _ => th1_1 N S a v)
    rw [smN_k] at this
    unfold th
    omega
  have h2 : TH N S = PhS S + smN (fun a => th N S a) 16 := smN_add _ _ 16
  have h3 := smN_le (f := fun a => th N S a) (g := fun _ => 16) 16 (fun a _ => h1 a)
  rw [smN_k] at h3
  omega
theorem TH_ak {N v : Nat} {S : St} (h16 : N ≤ 16) (hX : IX N S) (hv : v < N) (h0 : xR S 0 v = 0) (h7 : Ub S v) (hU : ∀ i, i < N → bt (qm N S v) i = true → Ub S i) (t : Int32) : TH N (ak t N v S) ≤ TH N S := by
  refine smN_le 16 (fun a ha => ?_)
  have h1 := (ak_X h16 hX hv h7 hU t).2 a ha
  have qk : qm N (ak t N v S) v = qm N S v := (Qk.ak t N v S).m N v
  have h2 : th N (ak t N v S) a + th1 N S a v = th N S a + th1 N (ak t N v S) a v := smN_at N hv (fun u hu ne => th1_c (fun k hk => ak_Ro (by omega) ne) ((Qk.ak t N v S).m N u))
  have e1 : th1 N (ak t N v S) a v = 0 := by
    unfold th1
    have k0 : xR (ak t N v S) 0 v = 1 := by rw [ak_R (by decide), if_pos rfl]; rfl
    have k3 : xR (ak t N v S) 3 v = qm N S v := by rw [ak_R (by decide), if_pos rfl]; rfl
    have k4 : xR (ak t N v S) 4 v = 0 := by rw [ak_R (by decide), if_pos rfl]; rfl
    rw [qk, k0, k3, k4, if_pos rfl]
    refine if_neg (fun z => ?_)
    rcases z with z | z
    · have : bt (0 : Int32) a = true := z
      rw [b_0] at this; cases this
    · exact z.2 z.1
  have e2 : th1 N S a v = if bt (qm N S v) a = true then 1 else 0 := by
    unfold th1
    rw [if_neg (by rw [h0]; decide)]
  rw [e1, e2] at h2
  have h3 : (if a < N ∧ bt (qm N S v) a = true then 1 else 0 : Nat) ≤ (if bt (qm N S v) a = true then 1 else 0) := ite_le (fun z => z.2)
  show Ph a (ak t N v S) + th N (ak t N v S) a ≤ Ph a S + th N S a
  omega
theorem TH_lv {N A v : Nat} {S : St} (hI : Inv N A S) (h16 : N ≤ 16) (hX : IX N S) (hv : v < N) (h2 : xR S 0 v = 2) (t : Int32) : TH N (lv t N v S) ≤ TH N S := by
  refine smN_le 16 (fun a ha => ?_)
  have h1 := (lv_X hI h16 hX hv (by rw [h2]; decide) t).2 a ha
  rw [if_pos h2] at h1
  have qk : Qk S (lv t N v S) := fun k hk i => by rw [lv_R (by omega), if_neg (by omega)]
  have h3 : th N (lv t N v S) a = th N S a := smN_c N (fun u hu => by
    by_cases c : u = v
    · subst c
      unfold th1
      have l0 : xR (lv t N u S) 0 u = 0 := by rw [lv_R (by decide), if_pos ⟨rfl, Or.inl rfl⟩]
      rw [qk.m, l0, if_neg ne01, h2, if_neg (show ¬ (2 : Int32) = 1 by decide)]
    · exact th1_c (fun k hk => by rw [lv_R (by omega), if_neg (fun z => c z.1)]) (qk.m N u))
  show Ph a (lv t N v S) + th N (lv t N v S) a ≤ Ph a S + th N S a
  omega
/-- g has heard f: at most f's grant is new, or g is in -/
def TG (S S' : St) (f g : Nat) : Prop := (∀ k u, u ≠ g → k = 0 ∨ k = 3 ∨ k = 4 → xR S' k u = xR S k u) ∧ ((xR S' 0 g = xR S 0 g ∧ xR S' 3 g = xR S 3 g ∧ ∀ a, a < 16 → bt (xR S' 4 g) a = true → bt (xR S 4 g) a = true ∨ a = f) ∨ (xR S 0 g = 1 ∧ xR S' 0 g = 2 ∧ ∀ a, a < 16 → bt (xR S 3 g) a = true → bt (xR S 4 g) a = true ∨ a = f))
theorem TG.k {S S' : St} {f g : Nat} (h : ∀ k u, k = 0 ∨ k = 3 ∨ k = 4 → xR S' k u = xR S k u) : TG S S' f g :=
  ⟨fun k u _ hk => h k u hk, Or.inl ⟨h 0 g (by omega), h 3 g (by omega), fun a _ z => by rw [h 4 g (by omega)] at z; exact Or.inl z⟩⟩
theorem TG.pre {S S1 S' : St} {f g : Nat} (h : ∀ k u, k = 0 ∨ k = 3 ∨ k = 4 → xR S1 k u = xR S k u) (p : TG S1 S' f g) : TG S S' f g := by
  obtain ⟨p1, p2⟩ := p
  refine ⟨fun k u n hk => (p1 k u n hk).trans (h k u hk), ?_⟩
  rw [h 0 g (by omega), h 3 g (by omega), h 4 g (by omega)] at p2
  exact p2
theorem TG.tgr {t : Int32} {N f g : Nat} {S : St} (hf : f < 16) (h1 : xR S 0 g = 1) : TG S (gr t N g f S) f g := by
  refine ⟨fun k u n hk => gr_R (by omega) (Or.inl n), ?_⟩
  by_cases c : xR S 3 g &&& ((bon (xR S 4 g) f) ^^^ (-1 : Int32)) = 0
  · refine Or.inr ⟨h1, ?_, fun a ha z => ?_⟩
    · unfold gr
      simp only []
      rw [if_pos c, en_12 (by decide), if_pos ⟨rfl, rfl⟩]
    · have := bt_z.mp c a (by omega)
      rw [bt_minus _ _ (by omega), z, bt_on _ (by omega) (by omega)] at this
      cases b : bt (xR S 4 g) a with
      | true => exact Or.inl rfl
      | false =>
        rw [b] at this
        simp only [Bool.false_or, Bool.true_and] at this
        refine Or.inr (Decidable.byContradiction fun ne => ?_)
        rw [decide_eq_false ne] at this
        cases this
  · refine Or.inl ⟨?_, gr_R (by decide) (by omega), fun a ha z => ?_⟩
    · unfold gr
      simp only []
      rw [if_neg c, xR_uR, if_neg (by omega), xR_uR, if_neg (by omega), xR_uR, if_neg (by omega)]
    · rw [gr_4, bt_on _ (by omega) (by omega)] at z
      rcases (Bool.or_eq_true _ _).mp z with z | z
      · exact Or.inl z
      · exact Or.inr (of_decide_eq_true z)
theorem TG.tfd {t : Int32} {N f g : Nat} {S : St} (h16 : N ≤ 16) : TG S (fd t N g f S) f g := by
  refine ⟨fun k u n hk => fd_R (by omega) (Or.inl n), Or.inl ⟨fd_R (by decide) (by omega), fd_R (by decide) (by omega), fun a ha z => ?_⟩⟩
  rw [fd_4, bfl_b _ _ _ (fun w hw => by have := List.mem_range.mp hw; omega) a (by omega)] at z
  exact Or.inl ((Bool.and_eq_true _ _).mp z).1
theorem TG.tiq {t : Int32} {f g : Nat} {S : St} (hf : f < 16) : TG S (iq t g f S) f g := by
  refine ⟨fun k u n hk => iq_R (by omega) (Or.inl n), Or.inl ⟨iq_R (by decide) (by omega), iq_R (by decide) (by omega), fun a ha z => ?_⟩⟩
  unfold iq at z
  by_cases c : bt (xR S 4 g) f = true
  · rw [if_pos c] at z
    by_cases d : xR S 6 g = 0
    · rw [if_pos d, xR_uR, if_neg (by omega)] at z
      exact Or.inl z
    · rw [if_neg d, yT_4, bt_off _ (by omega) (by omega)] at z
      exact Or.inl ((Bool.and_eq_true _ _).mp z).1
  · rw [if_neg c] at z; exact Or.inl z
theorem TG.trd {t s : Int32} {N k f g : Nat} {S : St} (h16 : N ≤ 16) (hf : f < 16) : TG S (rd t N k f g s S) f g := by
  unfold rd
  simp only []
  have h : ∀ k' u, k' = 0 ∨ k' = 3 ∨ k' = 4 → xR (if s ≤ xR S 1 g then S else uR S 1 g s) k' u = xR S k' u := fun k' u hk => by
    split
    · rfl
    · rw [xR_uR, if_neg (by omega)]
  generalize (if s ≤ xR S 1 g then S else uR S 1 g s) = S1 at h ⊢
  refine TG.pre h ?_
  split
  · exact TG.k (fun k' u hk => rq_R (by omega) (by omega))
  · split
    · exact TG.k (fun k' u hk => yl_R (by omega) (by omega))
    · split
      · exact TG.k (fun k' u hk => rl_R (by omega) (by omega))
      · split
        · rename_i c
          split
          · exact TG.tgr hf c.1
          · split
            · exact TG.tfd h16
            · exact TG.tiq hf
        · exact TG.k (fun _ _ _ => rfl)
theorem TG.tbr {t : Int32} {N f g : Nat} {S : St} (h16 : N ≤ 16) (hf : f < 16) : TG S (br t N f g S) f g := by
  unfold br
  split
  · exact TG.k (fun _ _ _ => rfl)
  · refine TG.pre (fun k u hk => ?_) (TG.trd h16 hf)
    rw [wt_R (by omega) (by omega) (by omega)]
    rfl
theorem TH_br {N A f g : Nat} {S : St} (hI : Inv N A S) (h16 : N ≤ 16) (hA : A < 1048576) (hX : IX N S) (hf : f < N) (hg : g < N) (t : Int32) : TH N (br t N f g S) ≤ TH N S + 1 := by
  obtain ⟨t1, t2⟩ := TG.tbr (t := t) (g := g) (S := S) h16 (show f < 16 by omega)
  have qk : Qk S (br t N f g S) := fun k hk i => (Kq.tbr S t N f g).1 k i hk
  have hPh := (br_X hI h16 hA hX hf hg t).2
  have key : ∀ a, a < 16 → th1 N (br t N f g S) a g ≤ th1 N S a g + (if a = f then 1 else 0) := by
    intro a ha
    have q := qk.m N g
    by_cases af : a = f
    · rw [if_pos af]
      have := th1_1 N (br t N f g S) a g
      omega
    · rw [if_neg af, Nat.add_zero]
      unfold th1
      rw [q]
      rcases t2 with ⟨u0, u3, u4⟩ | ⟨u0, u2, u4⟩
      · rw [u0, u3]
        by_cases c : xR S 0 g = 1
        · rw [if_pos c, if_pos c]
          refine ite_le (fun z => ?_)
          rcases z with z | z
          · exact Or.inl ((u4 a ha z).resolve_right af)
          · exact Or.inr z
        · rw [if_neg c, if_neg c]; exact Nat.le_refl _
      · rw [u2, if_neg (show ¬ (2 : Int32) = 1 by decide), if_pos u0]
        refine ite_le (fun z => ?_)
        by_cases b : bt (xR S 3 g) a = true
        · exact Or.inl ((u4 a ha b).resolve_right af)
        · exact Or.inr ⟨z, b⟩
  have h2 : ∀ a, a < 16 → th N (br t N f g S) a ≤ th N S a + (if a = f then 1 else 0) := by
    intro a ha
    have e : th N (br t N f g S) a + th1 N S a g = th N S a + th1 N (br t N f g S) a g := smN_at N hg (fun u hu ne => th1_c (fun k hk => t1 k u ne hk) (qk.m N u))
    have := key a ha
    omega
  have h3 : TH N (br t N f g S) ≤ smN (fun a => (Ph a S + th N S a) + (if f = a then 1 else 0)) 16 := smN_le 16 (fun a ha => by
    have := h2 a ha
    have := hPh a ha
    show Ph a (br t N f g S) + th N (br t N f g S) a ≤ (Ph a S + th N S a) + (if f = a then 1 else 0)
    by_cases c : a = f
    · rw [if_pos c] at *
      rw [if_pos c.symm]; omega
    · rw [if_neg c] at *
      rw [if_neg (fun z => c z.symm)]; omega)
  rw [smN_add, smN_one 16 (by omega)] at h3
  exact h3
/-- what holds of a crowd -/
def TJ (N A B : Nat) (S0 S : St) : Prop := Inv N A S ∧ IX N S ∧ TH N S ≤ B ∧ Qk S0 S
/-- what it rests on -/
def TC (N : Nat) (S0 : St) : Prop := (∀ v, v < N → ∀ i, N ≤ i → i < 32 → bt (qm N S0 v) i = false) ∧ ∀ v, v < N → ∀ i, i < N → bt (qm N S0 v) i = true → Ub S0 i
theorem TJ.mo {N A A' B B' : Nat} {S0 S : St} (h : TJ N A B S0 S) (a : A ≤ A') (b : B ≤ B') : TJ N A' B' S0 S := ⟨h.1.mo a, h.2.1, Nat.le_trans h.2.2.1 b, h.2.2.2⟩
theorem TJ.tak {N A B v : Nat} {S0 S : St} (h : TJ N A B S0 S) (c : TC N S0) (h16 : N ≤ 16) (hv : v < N) (hA : A + 1 < 1048576) (hm : mayA N v S = true) (t : Int32) : TJ N (A + 1) B S0 (ak t N v S) := by
  obtain ⟨hI, hX, hT, hQ⟩ := h
  have c0 : xR S 0 v = 0 := by
    unfold mayA at hm
    exact of_decide_eq_true (Bool.and_eq_true _ _ |>.mp hm).1
  have c7 : xR S 7 v = 0 := by
    unfold mayA at hm
    exact of_decide_eq_true (Bool.and_eq_true _ _ |>.mp ((Bool.and_eq_true _ _).mp hm).2).1
  have u7 : Ub S v := by unfold Ub; rw [c7]; decide
  have hU : ∀ i, i < N → bt (qm N S v) i = true → Ub S i := fun i hi hb => by
    rw [hQ.m] at hb
    have := c.2 v hv i hi hb
    unfold Ub at this ⊢
    rw [hQ 7 (by omega)]; exact this
  exact ⟨hI.tak h16 hv c0 hA (by rw [hQ.m]; exact c.1 v hv) t, (ak_X h16 hX hv u7 hU t).1, Nat.le_trans (TH_ak h16 hX hv c0 u7 hU t) hT, hQ.tr (Qk.ak t N v S)⟩
theorem akl_c {t : Int32} {N i d : Nat} {S : St} : akl t N (List.range' i (d + 1)) S = akl t N (List.range' (i + 1) d) (if mayA N i S then ak t N i S else S) := by
  unfold akl
  rw [List.range'_succ, List.foldl_cons]
theorem TJ.takl {N B : Nat} {S0 : St} (c : TC N S0) (h16 : N ≤ 16) (t : Int32) : ∀ (d i A : Nat) (S : St), TJ N A B S0 S → i + d ≤ N → A + d < 1048576 → TJ N (A + d) B S0 (akl t N (List.range' i d) S) := by
  intro d
  induction d with
  | zero => intro i A S h _ _; exact h
  | succ d ih =>
    intro i A S h hi hA
    rw [akl_c, show A + (d + 1) = A + 1 + d by omega]
    by_cases m : mayA N i S = true
    · rw [if_pos m]
      exact ih (i + 1) (A + 1) _ (h.tak c h16 (by omega) (by omega) m t) (by omega) (by omega)
    · rw [if_neg m]
      exact ih (i + 1) (A + 1) S (h.mo (by omega) (Nat.le_refl _)) (by omega) (by omega)
theorem TJ.tdm {N A B m : Nat} {S0 S : St} (h : TJ N A B S0 S) (h16 : N ≤ 16) (hA : A < 1048576) (hm : m ∈ mv0 N S) (t : Int32) : TJ N A (B + 1) S0 (dm t N m S) := by
  obtain ⟨hI, hX, hT, hQ⟩ := h
  rcases mv0_in hI h16 hm with ⟨h1, h2, h3, h4⟩ | ⟨h1, h2, h3, h4⟩
  · rw [dm_1 h1]
    refine ⟨hI.tbr h16 hA h2 h3 t, (br_X hI h16 hA hX h2 h3 t).1, ?_, hQ.tr (fun k hk i => (Kq.tbr S t N (m / 16) (m % 16)).1 k i hk)⟩
    have := TH_br hI h16 hA hX h2 h3 t
    omega
  · rw [dm_2 h1 h2]
    have h0 : xR S 0 (m - 256) ≠ 0 := by rw [h4]; decide
    refine ⟨hI.tlv h16 h3 h0 t, (lv_X hI h16 hX h3 h0 t).1, ?_, hQ.tr (fun k hk i => by rw [lv_R (by omega), if_neg (by omega)])⟩
    have := TH_lv hI h16 hX h3 h4 t
    omega
theorem TJ.tkA {N A B : Nat} {S0 S : St} (h : TJ N A B S0 S) (c : TC N S0) (h16 : N ≤ 16) (hA : A + N < 1048576) (t : Int32) : TJ N (A + N) B S0 (akA t N S) := by
  have e : akA t N S = akl t N (List.range' 0 N) S := by unfold akA; rw [List.range_eq_range']
  rw [e]
  exact TJ.takl c h16 t N 0 A S h (by omega) hA
theorem TJ.c1 {N A B : Nat} {S0 S : St} (h : TJ N A B S0 S) (c : TC N S0) (h16 : N ≤ 16) (hA : A + N < 1048576) (t : Int32) (g : Int64) (b : Bool) : TJ N (A + N) (B + 1) S0 (cr1 t N (S, g, b)).1 := by
  unfold cr1
  cases b with
  | false => exact h.mo (by omega) (by omega)
  | true =>
    have a1 := h.tkA c h16 hA t
    have stay := a1.mo (Nat.le_refl _) (show B ≤ B + 1 by omega)
    simp only [if_true]
    by_cases z : mv0 N (akA t N S) = []
    · rw [if_pos z]; exact stay
    · rw [if_neg z]
      cases hc : (mv0 N (akA t N S))[dk g (mv0 N (akA t N S)).length]? with
      | none => exact stay
      | some k => exact a1.tdm h16 (by omega) (List.mem_of_getElem? hc) t
/-! ===== crowd, from any state between the calls ===== -/
section
variable {N B : Nat} {S0 : St}
theorem HV.aa2 {h X Y : Nat} {t : Int32} {Q : Nat → Int32} {pb pt : List Row4} (c : TC N S0) (h16 : N ≤ 16) (hB : B + 16 ≤ 9000) (hQ : ∀ v, v < N → qm N S0 v = Q v) : ∀ (d i n A : Nat) (M : Mem) (S : St), HV M h X Y t N Q S pb pt → TJ N A B S0 S → A + d < 1048576 → i + d = N → d + 18 ≤ n → ∃ M', f_X2_letAllAsk_2 n h (nI i) M = some M' ∧ HV M' h X Y t N Q (akl t N (List.range' i d) S) pb pt ∧ FrH M M' h := by
  intro d
  induction d with
  | zero =>
    intro i n A M S p hJ hA hi hn
    obtain ⟨n, rfl⟩ : ∃ m, n = m + 1 := ⟨n - 1, by omega⟩
    refine ⟨M, ?_, p, FrH.rf _ _⟩
    have q := p.1
    rw [f_X2_letAllAsk_2, cs_f q, cs_h0 q, bnd_e, cs_s q, p.2.2.2.2.2.1, if_pos (nI_le (by omega) (by omega))]
  | succ d ih =>
    intro i n A M S p hJ hA hi hn
    obtain ⟨n, rfl⟩ : ∃ m, n = m + 1 := ⟨n - 1, by omega⟩
    have q := p.1
    have hQ' : ∀ v, v < N → qm N S v = Q v := fun v hv => by rw [hJ.2.2.2.m]; exact hQ v hv
    have em := p.may hJ.1.1 h16 (v := i) (by omega) (hQ' i (by omega))
    rw [akl_c, f_X2_letAllAsk_2, cs_f q, cs_h0 q, bnd_e, cs_s q, p.2.2.2.2.2.1, if_neg (nI_ge (by omega) (by omega)), em, obd_s]
    by_cases m : mayA N i S = true
    · rw [if_pos m, if_pos m, if_neg ne10]
      have c0 : xR S 0 i = 0 := by
        unfold mayA at m
        exact of_decide_eq_true (Bool.and_eq_true _ _ |>.mp m).1
      have hl := TH_fl N S
      have hT := hJ.2.2.1
      obtain ⟨M2, e2, p2, f2⟩ := p.tak h16 (v := i) (by omega) (by rw [c0]; decide) (hQ' i (by omega)) (by omega) (n := n) (by omega)
      obtain ⟨M3, e3, p3, f3⟩ := ih (i + 1) n (A + 1) M2 _ p2 (hJ.tak c h16 (by omega) (by omega) m t) (by omega) (by omega) (by omega)
      exact ⟨M3, by rw [e2, obd_s, nI_1, bnd_e, e3], p3, f2.tr f3⟩
    · rw [if_neg m, if_neg m, if_pos rfl]
      obtain ⟨M3, e3, p3, f3⟩ := ih (i + 1) n (A + 1) M S p (hJ.mo (by omega) (Nat.le_refl _)) (by omega) (by omega) (by omega)
      exact ⟨M3, by rw [nI_1, bnd_e, e3], p3, f3⟩
theorem HV.tk2 {M : Mem} {h X Y A n : Nat} {t : Int32} {Q : Nat → Int32} {S : St} {pb pt : List Row4} (p : HV M h X Y t N Q S pb pt) (c : TC N S0) (h16 : N ≤ 16) (hB : B + 16 ≤ 9000) (hQ : ∀ v, v < N → qm N S0 v = Q v) (hJ : TJ N A B S0 S) (hA : A + N < 1048576) (hn : 40 ≤ n) : ∃ M', f_X2_letAllAsk n h M = some M' ∧ HV M' h X Y t N Q (akA t N S) pb pt ∧ FrH M M' h := by
  obtain ⟨M', e, p', f'⟩ := HV.aa2 (t := t) (Q := Q) (pb := pb) (pt := pt) c h16 hB hQ N 0 n A M S p hJ hA (by omega) (by omega)
  refine ⟨M', ?_, ?_, f'⟩
  · rw [f_X2_letAllAsk]; exact e
  · unfold akA; rw [List.range_eq_range']; exact p'
theorem RV.aa2 {tw : Bool} {t : Int32} {pb pt : List Row4} (c : TC N S0) (h16 : N ≤ 16) (hB : B + 16 ≤ 9000) (hN : xR S0 20 0 = nI N) (ht : xR S0 20 1 = 1 → N % 2 = 1) : ∀ (d i n A : Nat) (M : Mem) (S : St), RV M tw t S pb pt → TJ N A B S0 S → A + d < 1048576 → i + d = N → d + 9201 ≤ n → ∃ M', f_X10_askAll_2 n 120 (nI i) M = some M' ∧ RV M' tw t (akl t N (List.range' i d) S) pb pt ∧ Fr PA M M' := by
  intro d
  induction d with
  | zero =>
    intro i n A M S h hJ hA hi hn
    obtain ⟨n, rfl⟩ : ∃ m, n = m + 1 := ⟨n - 1, by omega⟩
    have hN' : xR S 20 0 = nI N := by rw [hJ.2.2.2 20 (by omega)]; exact hN
    refine ⟨M, ?_, h, Fr.rf _ _⟩
    rw [f_X10_askAll_2, rs_f h.1, rs_0 h.1, bnd_e, rs_fa h.1, rs_c0 h.1, cl0, h.N hN', if_pos (nI_le (by omega) (by omega))]
  | succ d ih =>
    intro i n A M S h hJ hA hi hn
    obtain ⟨n, rfl⟩ : ∃ m, n = m + 1 := ⟨n - 1, by omega⟩
    have hN' : xR S 20 0 = nI N := by rw [hJ.2.2.2 20 (by omega)]; exact hN
    have ht' : xR S 20 1 = 1 → N % 2 = 1 := by rw [hJ.2.2.2 20 (by omega)]; exact ht
    obtain ⟨M1, e1, h1, f1⟩ := h.can hN' h16 ht' (v := i) (by omega) (n := n) (by omega)
    have open1 : ∀ y, (if mayA N i S = true then obd (f_X10_askNow n 120 (nI i) M1) (fun M17 => f_X10_askAll_2 n 120 (nI (i + 1)) M17) else f_X10_askAll_2 n 120 (nI (i + 1)) M1) = y → f_X10_askAll_2 (n + 1) 120 (nI i) M = y := by
      intro y hy
      rw [f_X10_askAll_2, rs_f h.1, rs_0 h.1, bnd_e, rs_fa h.1, rs_c0 h.1, cl0, h.N hN', if_neg (nI_ge (by omega) (by omega)), e1, obd2_s]
      cases b : mayA N i S
      · rw [b] at hy
        simp only [Bool.false_eq_true, if_false, if_true, bnd_e, nI_1] at hy ⊢
        exact hy
      · rw [b] at hy
        simp only [if_true, ne10, if_false] at hy ⊢
        rw [rs_f h1.1]
        simp only [bnd_e, nI_1]
        exact hy
    rw [akl_c]
    by_cases m : mayA N i S = true
    · rw [if_pos m] at open1 ⊢
      have hl := TH_fl N S
      have hT := hJ.2.2.1
      obtain ⟨M2, e2, h2, f2⟩ := h1.tak hN' h16 ht' (v := i) (by omega) (by omega) (n := n) (by omega)
      obtain ⟨M3, e3, h3, f3⟩ := ih (i + 1) n (A + 1) M2 _ h2 (hJ.tak c h16 (by omega) (by omega) m t) (by omega) (by omega) (by omega)
      exact ⟨M3, open1 _ (by rw [e2, obd_s, e3]), h3, Fr.tr (f1.mo P2_A) (Fr.tr f2 f3)⟩
    · rw [if_neg m] at open1 ⊢
      obtain ⟨M3, e3, h3, f3⟩ := ih (i + 1) n (A + 1) M1 S h1 (hJ.mo (by omega) (Nat.le_refl _)) (by omega) (by omega) (by omega)
      exact ⟨M3, open1 _ e3, h3, Fr.tr (f1.mo P2_A) f3⟩
theorem RV.tk2 {M : Mem} {A n : Nat} {tw : Bool} {t : Int32} {S : St} {pb pt : List Row4} (h : RV M tw t S pb pt) (c : TC N S0) (h16 : N ≤ 16) (hB : B + 16 ≤ 9000) (hN : xR S0 20 0 = nI N) (ht : xR S0 20 1 = 1 → N % 2 = 1) (hJ : TJ N A B S0 S) (hA : A + N < 1048576) (hn : 9300 ≤ n) : ∃ M', f_X10_askAll n 120 M = some M' ∧ RV M' tw t (akA t N S) pb pt ∧ Fr PA M M' := by
  obtain ⟨M', e, h', f'⟩ := RV.aa2 (tw := tw) (t := t) (pb := pb) (pt := pt) c h16 hB hN ht N 0 n A M S h hJ hA (by omega) (by omega)
  refine ⟨M', ?_, ?_, f'⟩
  · rw [f_X10_askAll]; exact e
  · unfold akA; rw [List.range_eq_range']; exact h'
set_option maxHeartbeats 1000000 in
theorem HV.cr2 {A T X Y : Nat} {t w : Int32} {Q : Nat → Int32} {pb pt : List Row4} (h2N : 2 ≤ N) (h16 : N ≤ 16) (hT : T ≤ 500) (hQ : ∀ v, v < N → qm N S0 v = Q v) (c : TC N S0) (hA : A + 16 * (T + 1) < 1048576) (hB : B + T + 16 ≤ 9000) : ∀ (d i n : Nat) (M : Mem) (S : St) (g : Int64) (b : Bool), i + d = T → HV M 63 X Y t N Q S pb pt → XT M → mL M 63 16 = g → Gk g → TJ N (A + 16 * i) (B + i) S0 S → d + 60 ≤ n → ∃ M' n' S', f_X9_crowd_52 n 0 (nI T) w (if b then 1 else 0) (nI i) M = f_X9_crowd_85 n' 0 w M' ∧ 40 ≤ n' ∧ HV M' 63 X Y t N Q S' pb pt ∧ FrD M M' 63 := by
  intro d
  induction d with
  | zero =>
    intro i n M S g b hi p x hg hG J hn
    obtain ⟨n, rfl⟩ : ∃ m, n = m + 1 := ⟨n - 1, by omega⟩
    refine ⟨M, n, S, ?_, by omega, p, (FrH.rf _ _).D⟩
    rw [f_X9_crowd_52, if_pos (nI_le (by omega) (by omega))]
  | succ d ih =>
    intro i n M S g b hi p x hg hG J hn
    obtain ⟨n, rfl⟩ : ∃ m, n = m + 1 := ⟨n - 1, by omega⟩
    have next := (J.c1 c h16 (by omega) t g b).mo (A' := A + 16 * (i + 1)) (B' := B + (i + 1)) (by omega) (by omega)
    cases b with
    | false =>
      refine ⟨M, n, S, ?_, by omega, p, (FrH.rf _ _).D⟩
      rw [f_X9_crowd_52, if_neg (nI_ge (by omega) (by omega)), if_neg (show ¬ false = true by decide), if_pos rfl]
    | true =>
      have ja := J.tkA c h16 (by omega) t
      have hfl := TH_fl N S
      have hfl1 := TH_fl N (akA t N S)
      have jT := J.2.2.1
      have jaT := ja.2.2.1
      obtain ⟨M1, e1, p1, f1⟩ := p.tk2 c h16 (B := B + i) (by omega) hQ J (by omega) (n := n) (by omega)
      have x1 := x.fr f1
      have g1 : mL M1 63 16 = g := (f1.2.2.2.2.1 63 (by have := x.2.2.2.2; omega) 16).trans hg
      obtain ⟨s1, s2⟩ := p1.dr (n := n) ja.1 (by omega) h2N h16 (by omega) (by have := x1.2.2.2.2; omega) g1 hG (by omega)
      have hd : ∀ y : Option (Int32 × Mem), (obd2 (f_X2_moveByDraw n 63 M1) fun r16 M17 => bnd (nI i + (1 : Int32)) fun x18 => f_X9_crowd_52 n 0 (nI T) w r16 x18 M17) = y → f_X9_crowd_52 (n + 1) 0 (nI T) w (if true = true then 1 else 0) (nI i) M = y := by
        intro y hy
        rw [f_X9_crowd_52, if_neg (nI_ge (by omega) (by omega)), if_pos rfl, if_neg ne10, chk_t x.1, x.2.2.2.1, bnd_e, cs_f p.1, e1, obd_s, chk_t x1.1, x1.2.2.2.1, bnd_e, cs_f p1.1]
        exact hy
      by_cases k : mv0 N (akA t N S) = []
      · have em := s1 k
        rw [cr1_e k] at next
        obtain ⟨M', n', S', e', hn', p', f'⟩ := ih (i + 1) n M1 _ g false (by omega) p1 x1 g1 hG next (by omega)
        refine ⟨M', n', S', hd _ ?_, hn', p', f1.D.tr f'⟩
        rw [em, obd2_s, nI_1, bnd_e]
        exact e'
      · obtain ⟨m, M2, hk, em, p2, g2, f2⟩ := s2 k
        rw [cr1_s k hk] at next
        obtain ⟨M', n', S', e', hn', p', f'⟩ := ih (i + 1) n M2 _ (drw g) true (by omega) p2 (x1.frD f2) g2 (Gk_drw hG) next (by omega)
        refine ⟨M', n', S', hd _ ?_, hn', p', (f1.D.tr f2).tr f'⟩
        rw [em, obd2_s, nI_1, bnd_e]
        exact e'
set_option maxHeartbeats 1000000 in
theorem RV.cr2 {A T : Nat} {tw : Bool} {t w e1 e2 e3 : Int32} {pb pt : List Row4} (h2N : 2 ≤ N) (h16 : N ≤ 16) (hT : T ≤ 500) (hN0 : xR S0 20 0 = nI N) (ht0 : xR S0 20 1 = 1 → N % 2 = 1) (c : TC N S0) (hA : A + 16 * (T + 1) < 1048576) (hB : B + T + 16 ≤ 9000) : ∀ (d i n : Nat) (M : Mem) (S : St) (g : Int64) (b : Bool), i + d = T → RV M tw t S pb pt → mI M 120 7 = 0 → mL M 120 8 = g → Gk g → TJ N (A + 16 * i) (B + i) S0 S → d + 12000 ≤ n → ∃ M' n' S', f_X10_crowd_102 n 120 (nI T) w e1 e2 e3 (if b then 1 else 0) (nI i) M = f_X10_crowd_129 n' 120 w e1 e2 e3 M' ∧ 11000 ≤ n' ∧ RV M' tw t S' pb pt ∧ Qk S0 S' ∧ FrG M M' := by
  intro d
  induction d with
  | zero =>
    intro i n M S g b hi p hk hg hG J hn
    obtain ⟨n, rfl⟩ : ∃ m, n = m + 1 := ⟨n - 1, by omega⟩
    refine ⟨M, n, S, ?_, by omega, p, J.2.2.2, FrG.rf _⟩
    rw [f_X10_crowd_102, if_pos (nI_le (by omega) (by omega))]
  | succ d ih =>
    intro i n M S g b hi p hk hg hG J hn
    obtain ⟨n, rfl⟩ : ∃ m, n = m + 1 := ⟨n - 1, by omega⟩
    have next := (J.c1 c h16 (by omega) t g b).mo (A' := A + 16 * (i + 1)) (B' := B + (i + 1)) (by omega) (by omega)
    cases b with
    | false =>
      refine ⟨M, n, S, ?_, by omega, p, J.2.2.2, FrG.rf _⟩
      rw [f_X10_crowd_102, if_neg (nI_ge (by omega) (by omega)), if_neg (show ¬ false = true by decide), if_pos rfl]
    | true =>
      have ja := J.tkA c h16 (by omega) t
      have hfl := TH_fl N S
      have hfl1 := TH_fl N (akA t N S)
      have jT := J.2.2.1
      have jaT := ja.2.2.1
      have ka := ja.2.2.2 20 (by omega)
      obtain ⟨M1, e1', p1, f1⟩ := p.tk2 c h16 (B := B + i) (by omega) hN0 ht0 J (by omega) (n := n) (by omega)
      have k1 : mI M1 120 7 = 0 := (f1.2.1 120 (by unfold PA; omega) 7).trans hk
      have g1 : mL M1 120 8 = g := (f1.2.2 120 8).trans hg
      obtain ⟨M2, s1, s2, f2⟩ := p1.goO (n := n) ja.1 (by rw [ka]; exact hN0) h2N h16 (by rw [ka]; exact ht0) (by omega) (by omega) k1 g1 hG (by omega)
      have hd : ∀ y : Option (Int32 × Mem), (obd2 (f_X10_goOnce n 120 M1) fun r10 M11 => bnd (nI i + (1 : Int32)) fun x12 => f_X10_crowd_102 n 120 (nI T) w e1 e2 e3 r10 x12 M11) = y → f_X10_crowd_102 (n + 1) 120 (nI T) w e1 e2 e3 (if true = true then 1 else 0) (nI i) M = y := by
        intro y hy
        rw [f_X10_crowd_102, if_neg (nI_ge (by omega) (by omega)), if_pos rfl, if_neg ne10, rs_f p.1, e1', obd_s, rs_f p1.1]
        exact hy
      have k2 : mI M2 120 7 = 0 := (f2.2.2.1 7 (by decide)).trans k1
      by_cases k : mv0 N (akA t N S) = []
      · obtain ⟨em, p2, g2⟩ := s1 k
        rw [cr1_e k] at next
        obtain ⟨M', n', S', e', hn', p', q', f'⟩ := ih (i + 1) n M2 _ g false (by omega) p2 k2 g2 hG next (by omega)
        refine ⟨M', n', S', hd _ ?_, hn', p', q', FrG.tr (FrG.ofA f1) (FrG.tr f2 f')⟩
        rw [em, obd2_s, nI_1, bnd_e]
        exact e'
      · obtain ⟨m, hk', em, p2, g2⟩ := s2 k
        rw [cr1_s k hk'] at next
        obtain ⟨M', n', S', e', hn', p', q', f'⟩ := ih (i + 1) n M2 _ (drw g) true (by omega) p2 k2 g2 (Gk_drw hG) next (by omega)
        refine ⟨M', n', S', hd _ ?_, hn', p', q', FrG.tr (FrG.ofA f1) (FrG.tr f2 f')⟩
        rw [em, obd2_s, nI_1, bnd_e]
        exact e'
end
def P127 (o : Nat) : Prop := o = 127
theorem c59_2 {tw : Bool} {t a1 a2 a3 x19 x25 r28 : Int32} {S0 : St} {pb pt : List Row4} {N : Nat} (hN : xR S0 20 0 = nI N) (h16 : N ≤ 16) : ∀ (d i n : Nat) (M : Mem), i + d = N → RV M tw t S0 pb pt → (∀ v, v < i → mI M 127 v = xR S0 12 v) → d + 1 ≤ n → ∃ M' n', f_X10_crowd_59 n 120 a1 a2 a3 x19 x25 r28 (nI i) M = f_X10_crowd_102 n' 120 a2 a3 x19 x25 r28 (1 : Int32) (0 : Int32) (sL M' 120 8 (a1.toInt64)) ∧ n ≤ n' + d + 1 ∧ RV M' tw t S0 pb pt ∧ (∀ v, v < N → mI M' 127 v = xR S0 12 v) ∧ Fr P127 M M' := by
  intro d
  induction d with
  | zero =>
    intro i n M hi p ht hn
    obtain ⟨n, rfl⟩ : ∃ m, n = m + 1 := ⟨n - 1, by omega⟩
    refine ⟨M, n, ?_, by omega, p, fun v hv => ht v (by omega), Fr.rf _ _⟩
    rw [f_X10_crowd_59, rs_f p.1, rs_0 p.1, bnd_e, rs_fa p.1, rs_c0 p.1, cl0, p.N hN, if_pos (nI_le (by omega) (by omega)), bnd_e]
  | succ d ih =>
    intro i n M hi p ht hn
    obtain ⟨n, rfl⟩ : ∃ m, n = m + 1 := ⟨n - 1, by omega⟩
    have i6 : i < 16 := by omega
    have ec : f_X10_countOf 120 (nI i) (0 : Int32) M = some (xR S0 12 i) := p.cnt i6 (w := 0) (by decide)
    have fa : Fr P127 M (sI M 127 i (xR S0 12 i)) := Fr.tsI (show P127 127 from rfl)
    generalize hMa : sI M 127 i (xR S0 12 i) = Ma at fa
    have pa : RV Ma tw t S0 pb pt := p.cg (by rw [← hMa]; rfl) (by rw [← hMa, mI_o _ _ _ _ _ (by decide)]) (fun b => by rw [← hMa, mI_o _ _ _ _ _ (by decide)]) (fun b => by rw [← hMa, mI_o _ _ _ _ _ (by decide)])
    obtain ⟨M', n', e', hn', p', t', k'⟩ := ih (i + 1) n Ma (by omega) pa (fun v hv => by
      rw [← hMa]
      by_cases c : v = i
      · rw [c, mI_s]
      · rw [mI_n _ _ _ _ c]; exact ht v (by omega)) (by omega)
    refine ⟨M', n', ?_, by omega, p', t', fa.tr k'⟩
    rw [f_X10_crowd_59, rs_f p.1, rs_0 p.1, bnd_e, rs_fa p.1, rs_c0 p.1, cl0, p.N hN, if_neg (nI_ge (by omega) (by omega)), rs_10 p.1, bnd_e, rs_f10 p.1, ec, obd_s, rs_c10 p.1 i6, sI_d (by omega), hMa, bnd_e, nI_1, bnd_e]
    exact e'
/-- the class in its trial: what it leaves of the reference -/
theorem WJ.trf {M M2 : Mem} {N A i X0 Y0 : Nat} {Q : Nat → Int32} {S : St} {pb pt : List Row4} (w : WJ M N A i Q S) (tr : TR M 63 X0 Y0 pb pt) (fD : FrD M M2 63) : RV M2 false 0 S [] [] ∧ mI M2 120 7 = 0 := by
  obtain ⟨X, Y, L, p, _⟩ := id w.1
  have fo : ∀ o, 120 ≤ o → o < 131 → M2.1.2.1 o = M.1.2.1 o ∧ (∀ b, mR M2 o b = mR M o b) ∧ ∀ b, mI M2 o b = mI M o b := by
    obtain ⟨x, f⟩ := id fD
    have hN := p.1.2.2.2.2.2.2
    have r57 : ∀ i, 5 ≤ i → i ≤ 7 → mR M 64 i = 63 + 2 + i ∨ 131 ≤ mR M 64 i := by
      obtain ⟨_, ⟨e5, e6, e7, len, ds, _⟩, _⟩ := tr
      obtain ⟨⟨y5, y6, y7⟩, _, _, x5, x6, x7, _⟩ := ds
      have y5' : mR M 64 5 = e5 := y5
      have y6' : mR M 64 6 = e6 := y6
      have y7' : mR M 64 7 = e7 := y7
      intro i a b
      rcases (show i = 5 ∨ i = 6 ∨ i = 7 by omega) with rfl | rfl | rfl
      · rw [y5']; exact x5
      · rw [y6']; exact x6
      · rw [y7']; exact x7
    have fo := FrH.o (M := sL M 63 16 x) f hN r57
    intro o a b
    obtain ⟨g1, g2, g3, _⟩ := fo.2 o (by omega) b
    exact ⟨g1, g2, g3⟩
  have n2 : mN M ≤ mN M2 := by
    obtain ⟨x, f⟩ := id fD
    exact f.1
  exact ⟨w.2.1.mr n2 fo, by rw [(fo 120 (by decide) (by decide)).2.2]; exact w.2.2.1⟩
/-- put aside -/
theorem RV.as {M : Mem} {t : Int32} {S : St} {pb pt : List Row4} (r : RV M false t S pb pt) {n : Nat} (hn : 10466 ≤ n) : ∃ Ma, f_X10_putAside n 120 M = some Ma ∧ RV Ma false t S pb pt ∧ Ma.1 = M.1 ∧ (∀ o, o ≠ 126 → ∀ b, mI Ma o b = mI M o b) ∧ (∀ b, b < 10465 → mI Ma 126 b = mI M 121 b) ∧ ∀ o b, mL Ma o b = mL M o b := by
  have oa : ∀ o, o ≠ 126 → ∀ b, mI (cpF M 121 126 0) o b = mI M o b := fun o n b => by
    show (if o = 126 ∧ 0 ≤ b ∧ b < 10465 then M.2.1 121 b else M.2.1 o b) = M.2.1 o b
    rw [if_neg (fun z => n z.1)]
  refine ⟨cpF M 121 126 0, f_aside r.1 hn, r.cg rfl (oa 120 (by decide) 3) (oa 121 (by decide)) (oa 123 (by decide)), rfl, oa, fun b hb => ?_, fun _ _ => rfl⟩
  show (if 126 = 126 ∧ 0 ≤ b ∧ b < 10465 then M.2.1 121 b else M.2.1 126 b) = M.2.1 121 b
  rw [if_pos ⟨rfl, Nat.zero_le _, hb⟩]
theorem WJ.tc {M : Mem} {N A i : Nat} {Q : Nat → Int32} {S : St} (w : WJ M N A i Q S) : TC N S := by
  have sw := w.2.2.2.1
  have h7 : ∀ v, v < 16 → xR S 7 v = 0 ∨ xR S 7 v = 1 := fun v hv => (sw.inv.1 v hv).2.2.1
  exact ⟨qm_hi sw.bi sw.n16 sw.t, fun v hv => qm_ub sw.bi sw.n16 sw.t h7 hv⟩
theorem TH_clr (N : Nat) (S : St) : TH N (clr S) = TH N S := smN_c 16 (fun a _ => by
  have : Ph a (clr S) = Ph a S := (clr_SE S).tPh a
  show Ph a (clr S) + th N (clr S) a = Ph a S + th N S a
  rw [this]
  rfl)
theorem WJ.tj {M : Mem} {N A i : Nat} {Q : Nat → Int32} {S : St} (w : WJ M N A i Q S) (hi : i ≤ 511) : TJ N A 8432 S S ∧ TJ N A 8432 S (clr S) := by
  have sw := w.2.2.2.1
  have h1 := sw.ps hi
  have h2 := TH_0 sw.n16 S
  exact ⟨⟨sw.inv, sw.ix, by omega, fun _ _ _ => rfl⟩, ⟨sw.inv.clr, (clr_SE S).sy.tix sw.n16 sw.ix, by rw [TH_clr]; omega, fun _ _ _ => rfl⟩⟩
theorem op46 {M : Mem} {i n : Nat} (h : WI i M) (hi : i ≤ 511) (a b c : Int32) (hn : 100000 ≤ n) : Oks i (f_X9_crowd n 0 a b c M) (fun M1 => f_X10_crowd n 120 a b c M1) := by
  obtain ⟨N, A, Q, S, w⟩ := h
  obtain ⟨X, Y, L, p, sb, xg, xr⟩ := id w.1
  obtain ⟨_, r, z7, sw, hQ⟩ := id w
  have h16 := sw.n16
  have h2 := sw.n2
  have hA := sw.a
  by_cases ha : a < 0
  · refine (Okk.same w (r := -1) ?_ ?_).ks
    · rw [f_X9_crowd, if_pos ha]
    · show f_X10_crowd n 120 a b c M = _
      rw [f_X10_crowd, if_pos ha]
  · rcases up500 b with hb | ⟨T, hT, rfl⟩
    · refine (Okk.same w (r := -1) ?_ ?_).ks
      · rw [f_X9_crowd, if_neg ha]
        by_cases q : b < 0
        · rw [if_pos q]
        · rw [if_neg q, if_pos (show (500 : Int32) < b from gt3 (N := 500) (by decide) (hb.resolve_left q))]
      · show f_X10_crowd n 120 a b c M = _
        have : f_X10_isIn b (0 : Int32) (500 : Int32) M = some 0 := by
          rw [f_X10_isIn]
          by_cases q : b < 0
          · rw [if_pos q]
          · rw [if_neg q, if_pos (show (500 : Int32) < b from gt3 (N := 500) (by decide) (hb.resolve_left q))]
        rw [f_X10_crowd, if_neg ha, this, obd_s, if_pos rfl]
    · have nT : ¬ nI T < 0 := nI_nlt (b := 0) (Nat.zero_le _) (by omega)
      have mT : ¬ (500 : Int32) < nI T := nI_nlt (a := 500) (by omega) (by decide)
      rcases out_in (N := 6) (by decide) c with hc | ⟨u, hu, rfl⟩
      · refine (Okk.same w (r := -1) ?_ ?_).ks
        · rw [f_X9_crowd, if_neg ha, if_neg nT, if_neg mT]
          by_cases q : c < 0
          · rw [if_pos q]
          · rw [if_neg q, if_neg (show ¬ c ≤ (5 : Int32) from Int32.not_le.mpr (gt3 (N := 5) (by decide) (hc.resolve_left q)))]
        · show f_X10_crowd n 120 a (nI T) c M = _
          have : f_X10_isIn c (0 : Int32) (5 : Int32) M = some 0 := by
            rw [f_X10_isIn]
            by_cases q : c < 0
            · rw [if_pos q]
            · rw [if_neg q, if_pos (show (5 : Int32) < c from gt3 (N := 5) (by decide) (hc.resolve_left q))]
          rw [f_X10_crowd, if_neg ha, show (500 : Int32) = nI 500 from rfl, f_isI M hT (by decide), obd_s, if_neg ne10, this, obd_s, if_pos rfl]
      · obtain ⟨s, hs, rfl⟩ := nn_e ha
        have tc := w.tc
        obtain ⟨jr, jc⟩ := w.tj hi
        obtain ⟨X0, Y0, pb, pt, tr, dj, fin⟩ := w.1.tri
        have x0 : XT M := ⟨xg.1, xg.2.1, xg.2.2.2.1, xg.2.2.2.2.1, p.1.2.2.2.2.2.2⟩
        obtain ⟨M1, e1, p1, f1⟩ := p.copy tr (by omega) h16 dj (fun v hv => (sw.inv.1 v hv).2.2.2) (fun v hv w hw => by have := ((sw.inv.2.2.2.2.2.1 v hv).1.2.2 w hw).1; omega) (n := n) (by omega)
        have x1 := x0.fr f1
        obtain ⟨M2, n2, S2, e2, hn2, p2, f2⟩ := HV.cr2 (A := A) (B := 8432) (S0 := S) (t := 0) (w := nI u) h2 h16 hT (fun v hv => hQ v hv) tc (by omega) (by omega) T 0 n (sL M1 63 16 ((nI s).toInt64)) (clr S) _ true (by omega) (p1.tsL _ _ _) (x1.sL _ _ _) (mL_s _ _ _ _) (lN_Gk hs) jc (by omega)
        have fD : FrD M M2 63 := f1.D.tr (FrD.tr ⟨_, FrH.rf _ _⟩ f2)
        have cw := fin M2 0 Q S2 pb pt fD p2
        have x2 := x0.frD fD
        obtain ⟨r2, z2⟩ := w.trf tr fD
        have e85 : f_X9_crowd_85 n2 0 (nI u) M2 = some (cT N S S2 u, M2) := by
          obtain ⟨_, _, _, p14, _⟩ := id cw
          exact c85 p2 x2 p14.hh h16 (fun v hv => (sw.inv.1 v hv).2.2.1) (by omega) (by omega)
        have ec : f_X9_crowd n 0 (nI s) (nI T) (nI u) M = some (cT N S S2 u, M2) := by
          rw [f_X9_crowd, if_neg (show ¬ nI s < 0 from nI_nlt (b := 0) (by omega) hs), if_neg nT, if_neg mT, if_neg (show ¬ nI u < 0 from nI_nlt (b := 0) (by omega) (by omega)), if_pos (show nI u ≤ (5 : Int32) from nI_le (b := 5) (by omega) (by decide)), chk_t xg.1, xg.2.2.2.2.1, bnd_e, cs_f tr.1, xg.2.2.2.1, bnd_e, cs_f p.1, e1, obd_s, chk_t x1.1, x1.2.2.2.1, bnd_e, cs_f p1.1, bnd_e]
          refine Eq.trans (show _ = f_X9_crowd_52 n 0 (nI T) (nI u) (if true then 1 else 0) (nI 0) (sL M1 63 16 ((nI s).toInt64)) from rfl) ?_
          rw [e2, e85]
        -- the reference
        obtain ⟨Ma, ea, pa, sa, oa, ob, la⟩ := r2.as (n := n) (by omega)
        have g0 : mI Ma 121 9851 = xR S 15 0 := pa.rg (k := 15) (i := 0) (by unfold vk; omega)
        have g2 : mI Ma 121 9853 = xR S 15 2 := pa.rg (k := 15) (i := 2) (by unfold vk; omega)
        have sn := pa.sent (n := n) (by omega)
        obtain ⟨M3, n3, e3, hn3, p3, t3, k3⟩ := c59_2 (a1 := nI s) (a2 := nI T) (a3 := nI u) (x19 := xR S 15 0) (x25 := xR S 15 2) (r28 := sa6 S) sw.n h16 N 0 n Ma (by omega) pa (fun v hv => by omega) (by omega)
        have z3 : mI M3 120 7 = 0 := by rw [k3.2.1 120 (by unfold P127; decide), oa 120 (by decide)]; exact z2
        obtain ⟨M4, n4, S4, e4, hn4, p4, q4, f4⟩ := RV.cr2 (A := A) (B := 8432) (S0 := S) (w := nI u) (e1 := xR S 15 0) (e2 := xR S 15 2) (e3 := sa6 S) h2 h16 hT sw.n sw.t tc (by omega) (by omega) T 0 n3 (sL M3 120 8 ((nI s).toInt64)) S _ true (by omega) (p3.tsL _ _ _) z3 (mL_s _ _ _ _) (lN_Gk hs) jr (by omega)
        have f41 : M4.1 = M3.1 := f4.1
        have f42 : ∀ o, ¬ (120 ≤ o ∧ o ≤ 124) → ∀ k, mI M4 o k = mI M3 o k := f4.2.1
        have f43 : ∀ k, k ≠ 6 → mI M4 120 k = mI M3 120 k := f4.2.2.1
        have tl := p4.told (S0 := S) (n := n4) (w := u) ((q4 20 (by omega) 0).trans sw.n) h16 (fun v _ => q4 7 (by omega) v) (fun v hv => by
          rw [f42 127 (by decide) v]; exact t3 v hv) hu (by omega)
        have eb := f_back p4.1 (n := n4) (by omega)
        have er : f_X10_crowd n 120 (nI s) (nI T) (nI u) M2 = some (cR N S S4 u, cpF M4 126 121 0) := by
          rw [f_X10_crowd, if_neg (show ¬ nI s < 0 from nI_nlt (b := 0) (by omega) hs), show (500 : Int32) = nI 500 from rfl, f_isI M2 hT (by decide), obd_s, if_neg ne10, show (5 : Int32) = nI 5 from rfl, f_isI M2 (show u ≤ 5 by omega) (by decide), obd_s, if_neg ne10, rs_f r2.1, ea, obd_s, rs_f pa.1, rs_0 pa.1, bnd_e, rs_fa pa.1, show (9851 : Int32) = nI 9851 from rfl, rs_c pa.1 (by decide), cl_n (by decide), g0, bnd_e, bnd_e, rs_fa pa.1, show (9853 : Int32) = nI 9853 from rfl, rs_c pa.1 (by decide), cl_n (by decide), g2, bnd_e, sn, obd_s, show (0 : Int32) = nI 0 from rfl, e3]
          have e4' : f_X10_crowd_102 n3 120 (nI T) (nI u) (xR S 15 0) (xR S 15 2) (sa6 S) (1 : Int32) (0 : Int32) (sL M3 120 8 ((nI s).toInt64)) = f_X10_crowd_129 n4 120 (nI u) (xR S 15 0) (xR S 15 2) (sa6 S) M4 := e4
          rw [e4', f_X10_crowd_129, rs_f p4.1, tl, obd_s, eb, obd_s]
        have k7 : ∀ o, o ≠ 127 → ∀ b, mI M3 o b = mI Ma o b := fun o n b => k3.2.1 o n b
        refine ⟨_, _, M2, _, ec, r2.1.io (by decide) (by decide) (by decide), er, w.rfb cw r2 z2 (f41.trans (k3.1.trans sa)) (fun o ho b => by rw [f42 o (by omega), k7 o (by omega), oa o (by omega)]) (by rw [f43 3 (by decide), k7 120 (by decide), oa 120 (by decide)]) (by rw [f43 7 (by decide), k7 120 (by decide), oa 120 (by decide)]) (fun b hb => by rw [f42 126 (by decide), k7 126 (by decide)]; exact ob b hb)⟩
/-! ===== the reference's search once more, with what it leaves ===== -/
def FrZ (M M' : Mem) : Prop := M'.1 = M.1 ∧ (∀ o, (o < 120 ∨ 130 < o) ∨ o = 126 → ∀ b, mI M' o b = mI M o b) ∧ mI M' 120 3 = mI M 120 3
theorem FrZ.rf (M : Mem) : FrZ M M := ⟨rfl, fun _ _ _ => rfl, rfl⟩
theorem FrZ.tr {M M' M'' : Mem} (h : FrZ M M') (h' : FrZ M' M'') : FrZ M M'' := ⟨h'.1.trans h.1, fun o n b => (h'.2.1 o n b).trans (h.2.1 o n b), h'.2.2.trans h.2.2⟩
/-- all is brought back -/
def FZ (M M' : Mem) : Prop := ∃ Mz, M' = cpF (sI Mz 120 7 0) 126 121 0 ∧ Mz.1 = M.1 ∧ (∀ o, (o < 120 ∨ 130 < o) → ∀ b, mI Mz o b = mI M o b) ∧ (∀ b, b < 10465 → mI Mz 126 b = mI M 121 b) ∧ mI Mz 120 3 = mI M 120 3
def P125 (o : Nat) : Prop := o = 125
section
variable {N A P most : Nat} {S0 : St} {t : Int32} {pb pt : List Row4} {ask : Int32} {sn : Nat → Int32} {nd : Option Nat}
set_option maxHeartbeats 1000000 in
theorem s100_2 (k : SK N A P most S0) (K : Nat → Int32 → Int32 → Int32 → Mem → Option Mem) {i : Nat} {p : St × Nat} {l : List (St × Nat)} (hi : i < most) (v2 : Int32) : ∀ (e j n : Nat) (M : Mem) (q : Bq), j + e = (mvl N p.1 ask sn).length → q.1[i]? = some p → GQ N A P most S0 q → RM N A P S0 t pb pt ask sn nd M q l → e + 20100 ≤ n → ∃ M', f_X10_search_100 K n 120 (nI most) v2 (nI i) (nI (mvl N p.1 ask sn).length) (nI j) M = K 120 (nI most) v2 (nI (i + 1)) M' ∧ GQ N A P most S0 (exl N most p.1 p.2 ((mvl N p.1 ask sn).drop j) q) ∧ RM N A P S0 t pb pt ask sn nd M' (exl N most p.1 p.2 ((mvl N p.1 ask sn).drop j) q) l ∧ FrZ M M' := by
  obtain ⟨h2, h16, h40, hA, hP, hN0, ht0, hQ⟩ := id k
  intro e
  induction e with
  | zero =>
    intro j n M q hj hp gq hM hn
    obtain ⟨n, rfl⟩ : ∃ m, n = m + 1 := ⟨n - 1, by omega⟩
    have hml := mvl_len (N := N) p.1 ask sn
    rw [List.drop_of_length_le (by omega)]
    refine ⟨M, ?_, gq, hM, FrZ.rf M⟩
    rw [f_X10_search_100, if_pos (nI_le (by omega) (by omega)), nI_1, bnd_e]
  | succ e ih =>
    intro j n M q hj hp gq hM hn
    obtain ⟨n, rfl⟩ : ∃ m, n = m + 1 := ⟨n - 1, by omega⟩
    have hml := mvl_len (N := N) p.1 ask sn
    obtain ⟨⟨S, d, r, g⟩, hq, hc, hask, hsn⟩ := hM
    obtain ⟨⟨Si, a1, a2, a3⟩, a4⟩ := hq.2.2 i p hp
    obtain ⟨dp, gp⟩ := gq.2.2 i p hp
    have g2 := a3.tmx k.2.1 g
    obtain ⟨M1, e1, r1, s1, o1, L1⟩ := r.lays a2 (show i < 40 by omega) (n := n) (by omega)
    have sp : SE (mix Si S) p.1 := (mix_SE (a3.2.2.1.ss g.2.2.1)).tr a1
    have tR := g2.tR k
    obtain ⟨M2, e2, r2, m2, f2⟩ := r1.lay tR.1 h16 tR.2 (ask := ask) (sn := sn) ((o1 120 (by decide) 7).trans hask) (fun v hv => (o1 125 (by decide) v).trans (hsn v hv)) (n := n) (by omega)
    have hmv : mvl N (mix Si S) ask sn = mvl N p.1 ask sn := sp.sy.tmv h16 ask (fun _ _ => rfl)
    have hjl : j < (mvl N p.1 ask sn).length := by omega
    have hcj : (mvl N (mix Si S) ask sn)[j]? = some ((mvl N p.1 ask sn)[j]) := by rw [hmv]; exact List.getElem?_eq_getElem hjl
    generalize hcc : (mvl N p.1 ask sn)[j] = c at hcj
    have hcm : c ∈ mvl N p.1 ask sn := by rw [← hcc]; exact List.getElem_mem hjl
    have hcm2 : c ∈ mvl N (mix Si S) ask sn := by rw [hmv]; exact hcm
    have ok := mvl_ok gp.1 h16 hcm
    have ok2 := mvl_ok g2.1 h16 hcm2
    obtain ⟨M3, e3, r3, f3⟩ := r2.tdm g2.1 tR.1 h2 h16 tR.2 (by omega) (g2.fl k (by omega)) m2 hcj (n := n) (by omega)
    have g3 := g2.mv h2 h16 (by omega) hQ ok2 t
    have gm := gp.mv h2 h16 (by omega) hQ ok 0
    have sm : SE (dm t N c (mix Si S)) (dm 0 N c p.1) := sp.tdm g2.1 h16 (by
      rcases ok2 with z | z | z
      · exact Or.inl z
      · exact Or.inr (Or.inl ⟨z.1, z.2.1, z.2.2.1⟩)
      · exact Or.inr (Or.inr ⟨z.1, z.2.1⟩))
    have pa : ∀ o, ¬ PA o → ∀ b, mI M3 o b = mI M2 o b := f3.2.1
    have n120 : ¬ PA 120 := by unfold PA; decide
    have n125 : ¬ PA 125 := by unfold PA; decide
    have n128 : ¬ PA 128 := by unfold PA; decide
    have n129 : ¬ PA 129 := by unfold PA; decide
    have k3 : ∀ b, b ≠ 6 → mI M3 120 b = mI M 120 b := fun b hb => by rw [pa 120 n120, f2.2.2.1 b hb, o1 120 (by decide)]
    have far3 : ∀ o, 125 ≤ o → ∀ b, mI M3 o b = mI M o b := fun o ho b => by
      rw [pa o (by unfold PA; omega), f2.2.1 o (by omega), o1 o (by omega)]
    have hq3 : RQ N A P S0 M3 q := hq.cg (k3 13 (by decide)) (k3 14 (by decide)) (far3 128 (by decide)) (far3 129 (by decide))
    obtain ⟨M4, e4, r4, hq4, f4⟩ := r3.meet h16 (by omega) h40 g3 (by omega) sm hq3 gq (n := n) (by omega)
    have k4 : ∀ b, b ≠ 6 → b ≠ 13 → b ≠ 14 → mI M4 120 b = mI M 120 b := fun b h6 h13 h14 => (f4.2.2.1 b h13 h14).trans (k3 b h6)
    have hM4 : RM N A P S0 t pb pt ask sn nd M4 (met1 most q (dm 0 N c p.1) (p.2 + 1)) l :=
      ⟨⟨_, _, r4, g3⟩, hq4, hc.cg (fun b z1 z2 => k4 b (by omega) (by omega) (by omega)), (k4 7 (by decide) (by decide) (by decide)).trans hask, fun v hv => by rw [f4.2.1 125 (by decide) (by decide) (by decide), far3 125 (by decide)]; exact hsn v hv⟩
    have hiq : i < q.1.length := by
      rcases Nat.lt_or_ge i q.1.length with z | z
      · exact z
      · rw [List.getElem?_eq_none z] at hp; cases hp
    have z4 : FrZ M M4 := ⟨f4.1.trans (f3.1.trans (f2.1.trans s1)), fun o ho b => by rw [f4.2.1 o (by omega) (by omega) (by omega), pa o (by unfold PA; omega), f2.2.1 o (by omega), o1 o (by omega)], k4 3 (by decide) (by decide) (by decide)⟩
    obtain ⟨M', e', gq', hM', z'⟩ := ih (j + 1) n M4 (met1 most q (dm 0 N c p.1) (p.2 + 1)) (by omega) (met1_pre hp) (gq.m hiq (by omega) gm) hM4 (by omega)
    have ed : (mvl N p.1 ask sn).drop j = c :: (mvl N p.1 ask sn).drop (j + 1) := by rw [List.drop_eq_getElem_cons hjl, hcc]
    rw [ed, exl_c]
    refine ⟨M', ?_, gq', hM', z4.tr z'⟩
    rw [f_X10_search_100, if_neg (nI_ge (by omega) (by omega)), rs_f r.1, e1, obd_s, rs_f r1.1, e2, obd_s, rs_f r2.1, e3, obd_s, rs_f r3.1, rs_12 r3.1, bnd_e, rs_f12 r3.1, rs_c12 r3.1 (show i < 40 by omega), mI_c (by omega), far3 129 (by decide), a4, nI_1, e4, obd_s, nI_1, bnd_e]
    exact e'
set_option maxHeartbeats 1000000 in
theorem s72_2 (k : SK N A P most S0) (hnd : ∀ v, nd = some v → v < N) : ∀ (d i m n : Nat) (M : Mem) (q : Bq), i + d = most → d + 1 ≤ m → i ≤ q.1.length → GQ N A P most S0 q → RM N A P S0 t pb pt ask sn nd M q (q.1.take i) → d + 20900 ≤ n → ∃ M' Mz, f_X10_search_72 n 120 (nI most) (nodI nd) (nI i) M = some M' ∧ M' = cpF (sI Mz 120 7 0) 126 121 0 ∧ FrZ M Mz ∧ RS M' ∧ GQ N A P most S0 (bfs N most ask sn m i q) ∧ RQ N A P S0 M' (bfs N most ask sn m i q) ∧ RC N ask sn nd M' (bfs N most ask sn m i q).1 := by
  obtain ⟨h2, h16, h40, hA, hP, hN0, ht0, hQ⟩ := id k
  have stop : ∀ (i m n : Nat) (M : Mem) (q : Bq), i = q.1.length → GQ N A P most S0 q → RM N A P S0 t pb pt ask sn nd M q (q.1.take i) → 1 ≤ m → 10600 ≤ n → ∃ M' Mz, f_X10_search_72 n 120 (nI most) (nodI nd) (nI i) M = some M' ∧ M' = cpF (sI Mz 120 7 0) 126 121 0 ∧ FrZ M Mz ∧ RS M' ∧ GQ N A P most S0 (bfs N most ask sn m i q) ∧ RQ N A P S0 M' (bfs N most ask sn m i q) ∧ RC N ask sn nd M' (bfs N most ask sn m i q).1 := by
    intro i m n M q hi gq hM hm hn
    obtain ⟨n, rfl⟩ : ∃ j, n = j + 1 := ⟨n - 1, by omega⟩
    obtain ⟨m, rfl⟩ : ∃ j, m = j + 1 := ⟨m - 1, by omega⟩
    obtain ⟨⟨S, d, r, g⟩, hq, hc, hask, hsn⟩ := hM
    have eb : bfs N most ask sn (m + 1) i q = q := by
      unfold bfs
      rw [List.getElem?_eq_none (by omega)]
    rw [eb]
    rw [hi, List.take_length] at hc
    have hl := gq.1
    have S1 : RS (sI M 120 7 0) := r.1.e rfl
    have ef := f_back S1 (n := n) (by omega)
    have fin : ∀ o, o ≠ 121 → ∀ b, mI (cpF (sI M 120 7 0) 126 121 0) o b = mI (sI M 120 7 0) o b := fun o n b => by
      show (if o = 121 ∧ 0 ≤ b ∧ b < 10465 then (sI M 120 7 0).2.1 126 b else (sI M 120 7 0).2.1 o b) = (sI M 120 7 0).2.1 o b
      rw [if_neg (fun z => n z.1)]
    have f120 : ∀ b, b ≠ 7 → mI (cpF (sI M 120 7 0) 126 121 0) 120 b = mI M 120 b := fun b n => by rw [fin 120 (by decide), mI_n _ _ _ _ n]
    have fO : ∀ o, o ≠ 121 → o ≠ 120 → ∀ b, mI (cpF (sI M 120 7 0) 126 121 0) o b = mI M o b := fun o n1 n2 b => by rw [fin o n1, mI_o _ _ _ _ _ n2]
    refine ⟨cpF (sI M 120 7 0) 126 121 0, M, ?_, rfl, FrZ.rf M, S1.e rfl, gq, hq.cg (f120 13 (by decide)) (f120 14 (by decide)) (fO 128 (by decide) (by decide)) (fO 129 (by decide) (by decide)), hc.cg (fun b z1 z2 => f120 b (by omega))⟩
    rw [f_X10_search_72, rs_f r.1, hq.1, if_pos (by rw [hi]; exact Int32.le_refl _), bnd_e, ef, obd_s]
  intro d
  induction d with
  | zero =>
    intro i m n M q hi hm hil gq hM hn
    exact stop i m n M q (by have := gq.1; omega) gq hM (by omega) (by omega)
  | succ d ih =>
    intro i m n M q hi hm hil gq hM hn
    by_cases c : i = q.1.length
    · exact stop i m n M q c gq hM (by omega) (by omega)
    · obtain ⟨n, rfl⟩ : ∃ j, n = j + 1 := ⟨n - 1, by omega⟩
      obtain ⟨m, rfl⟩ : ∃ j, m = j + 1 := ⟨m - 1, by omega⟩
      have hlt : i < q.1.length := by omega
      have hl := gq.1
      obtain ⟨p, hp⟩ : ∃ p, q.1[i]? = some p := ⟨_, List.getElem?_eq_getElem hlt⟩
      obtain ⟨⟨S, dS, r, g⟩, hq, hc, hask, hsn⟩ := id hM
      obtain ⟨⟨Si, a1, a2, a3⟩, a4⟩ := hq.2.2 i p hp
      obtain ⟨dp, gp⟩ := gq.2.2 i p hp
      have g2 := a3.tmx k.2.1 g
      obtain ⟨M1, e1, r1, s1, o1, L1⟩ := r.lays a2 (show i < 40 by omega) (n := n) (by omega)
      have sp : SE (mix Si S) p.1 := (mix_SE (a3.2.2.1.ss g.2.2.1)).tr a1
      have tR := g2.tR k
      have hq1 : RQ N A P S0 M1 q := hq.cg (o1 120 (by decide) 13) (o1 120 (by decide) 14) (o1 128 (by decide)) (o1 129 (by decide))
      have hc1 : RC N ask sn nd M1 (q.1.take i) := hc.cg (fun b _ _ => o1 120 (by decide) b)
      have len : (q.1.take i).length ≤ 40 := by rw [List.length_take]; omega
      have c2 : cTwo N (q.1.take i) < 100 := by
        have := List.length_filter_le (fun p => sTwo N p.1) (q.1.take i)
        unfold cTwo; omega
      have c3 : cStk N ask sn (q.1.take i) < 100 := by
        have := List.length_filter_le (fun p => sStk N ask sn p.1) (q.1.take i)
        unfold cStk; omega
      have mx : ∀ l : List (St × Nat), (∀ p, p ∈ l → (fl p.1).length ≤ 9000) → cMx l ≤ 9000 := by
        have gen : ∀ (l : List (St × Nat)) (x : Nat), x ≤ 9000 → (∀ p, p ∈ l → (fl p.1).length ≤ 9000) → l.foldl (fun m p => max m (fl p.1).length) x ≤ 9000 := by
          intro l
          induction l with
          | nil => intro x hx _; exact hx
          | cons p l ihl =>
            intro x hx h
            rw [List.foldl_cons]
            exact ihl _ (Nat.max_le.mpr ⟨hx, h p (by simp)⟩) (fun q hq => h q (List.mem_cons_of_mem _ hq))
        intro l h
        exact gen l 0 (by omega) h
      have c4 : cMx (q.1.take i) ≤ 9000 := mx _ (fun p' hp' => by
        obtain ⟨j, hj⟩ := List.getElem?_of_mem (List.mem_of_mem_take hp')
        obtain ⟨dj, gj⟩ := gq.2.2 j p' hj
        have hjl : j < q.1.length := by
          rcases Nat.lt_or_ge j q.1.length with z | z
          · exact z
          · rw [List.getElem?_eq_none z] at hj; cases hj
        have := gj.fl k (by omega)
        omega)
      obtain ⟨M2, e2, r2, hc2, f2⟩ := r1.look (d := 0) (q := q) (p0 := p) (i := i) (ask := ask) (sn := sn) (nd := nd) h2 tR.1 h16 tR.2 ((o1 120 (by decide) 7).trans hask) (fun v hv => (o1 125 (by decide) v).trans (hsn v hv)) sp hp (by omega) ((o1 129 (by decide) i).trans a4) hnd hc1 ⟨c2, c3⟩ c4 (n := n) (by omega)
      have hq2 : RQ N A P S0 M2 q := hq1.cg (f2.2.2.1 13 (by decide) (by decide)) (f2.2.2.1 14 (by decide) (by decide)) (f2.2.1 128 (by decide)) (f2.2.1 129 (by decide))
      have ask2 : mI M2 120 7 = ask := (f2.2.2.1 7 (by decide) (by decide)).trans ((o1 120 (by decide) 7).trans hask)
      have sn2 : ∀ v, v < N → mI M2 125 v = sn v := fun v hv => (f2.2.1 125 (by decide) v).trans ((o1 125 (by decide) v).trans (hsn v hv))
      obtain ⟨M3, e3, r3, f3⟩ := r2.mvN tR.1 h16 tR.2 ask2 sn2 (n := n) (by omega)
      have hmv : mvl N (mix Si S) ask sn = mvl N p.1 ask sn := sp.sy.tmv h16 ask (fun _ _ => rfl)
      rw [hmv] at e3
      have hM3 : RM N A P S0 t pb pt ask sn nd M3 q (q.1.take (i + 1)) := ⟨⟨_, _, r3, g2⟩, hq2.cg (f3.2.2.1 13 (by decide)) (f3.2.2.1 14 (by decide)) (f3.2.1 128 (by decide)) (f3.2.1 129 (by decide)), hc2.cg (fun b z1 z2 => f3.2.2.1 b (by omega)), (f3.2.2.1 7 (by decide)).trans ask2, fun v hv => (f3.2.1 125 (by decide) v).trans (sn2 v hv)⟩
      have hml := mvl_len (N := N) p.1 ask sn
      obtain ⟨M4, e4, gq4, hM4, z4⟩ := s100_2 (t := t) (pb := pb) (pt := pt) (ask := ask) (sn := sn) (nd := nd) k (f_X10_search_72 n) (i := i) (p := p) (l := q.1.take (i + 1)) (by omega) (nodI nd) (mvl N p.1 ask sn).length 0 n M3 q (by omega) hp gq hM3 (by omega)
      rw [List.drop_zero] at gq4 hM4
      obtain ⟨b1, b2⟩ := exl_pre (N := N) (most := most) (S := p.1) (d := p.2) (mvl N p.1 ask sn) q hp
      have eb : bfs N most ask sn (m + 1) i q = bfs N most ask sn m (i + 1) (exl N most p.1 p.2 (mvl N p.1 ask sn) q) := by
        show (match q.1[i]? with
          | none => q
          | some p => bfs N most ask sn m (i + 1) (exl N most p.1 p.2 (mvl N p.1 ask sn) q)) = _
        rw [hp]
      rw [eb]
      rw [← b2] at hM4
      have hi1 : i + 1 ≤ (exl N most p.1 p.2 (mvl N p.1 ask sn) q).1.length := by
        rcases Nat.lt_or_ge i (exl N most p.1 p.2 (mvl N p.1 ask sn) q).1.length with z | z
        · exact z
        · rw [List.getElem?_eq_none z] at b1; cases b1
      obtain ⟨M', Mz, e', hz, zz, R⟩ := ih (i + 1) m n M4 _ (by omega) (by omega) hi1 gq4 hM4 (by omega)
      have z3 : FrZ M M3 := ⟨f3.1.trans (f2.1.trans s1), fun o ho b => by rw [f3.2.1 o (by omega), f2.2.1 o (by omega), o1 o (by omega)], by rw [f3.2.2.1 3 (by decide), f2.2.2.1 3 (by decide) (by decide), o1 120 (by decide)]⟩
      refine ⟨M', Mz, ?_, hz, z3.tr (z4.tr zz), R⟩
      rw [f_X10_search_72, rs_f r.1, hq.1, if_neg (nI_ge hlt (by omega)), e1, obd_s, rs_f r1.1, e2, obd_s, rs_f r2.1, e3, obd2_s]
      exact e4.trans e'
end
theorem s6_2 {t : Int32} {S0 : St} {pb pt : List Row4} {N most : Nat} {v2 : Int32} (hN : xR S0 20 0 = nI N) (h16 : N ≤ 16) : ∀ (d i n : Nat) (M : Mem), i + d = N → RV M false t S0 pb pt → (∀ v, v < i → mI M 125 v = xR S0 2 v) → d + 1 ≤ n → ∃ M' n', f_X10_search_6 n 120 (nI most) v2 (nI i) M = f_X10_search_6 (n' + 1) 120 (nI most) v2 (nI N) M' ∧ n ≤ n' + 1 + d ∧ RV M' false t S0 pb pt ∧ (∀ v, v < N → mI M' 125 v = xR S0 2 v) ∧ Fr P125 M M' := by
  intro d
  induction d with
  | zero =>
    intro i n M hi p hs hn
    exact ⟨M, n - 1, by rw [show i = N by omega, show n - 1 + 1 = n by omega], by omega, p, fun v hv => hs v (by omega), Fr.rf _ _⟩
  | succ d ih =>
    intro i n M hi p hs hn
    obtain ⟨n, rfl⟩ : ∃ m, n = m + 1 := ⟨n - 1, by omega⟩
    have fa : Fr P125 M (sI M 125 i (xR S0 2 i)) := Fr.tsI (show P125 125 from rfl)
    generalize hMa : sI M 125 i (xR S0 2 i) = Ma at fa
    have pa : RV Ma false t S0 pb pt := p.cg (by rw [← hMa]; rfl) (by rw [← hMa, mI_o _ _ _ _ _ (by decide)]) (fun b => by rw [← hMa, mI_o _ _ _ _ _ (by decide)]) (fun b => by rw [← hMa, mI_o _ _ _ _ _ (by decide)])
    obtain ⟨M', n', e, hn', p', s', k'⟩ := ih (i + 1) n Ma (by omega) pa (fun v hv => by
      rw [← hMa]
      by_cases c : v = i
      · rw [c, mI_s]
      · rw [mI_n _ _ _ _ c]; exact hs v (by omega)) (by omega)
    refine ⟨M', n', ?_, by omega, p', s', fa.tr k'⟩
    rw [f_X10_search_6, rs_f p.1, rs_0 p.1, bnd_e, rs_fa p.1, rs_c0 p.1, cl0, p.N hN, if_neg (nI_ge (by omega) (by omega)), rs_5 p.1, bnd_e, rs_f5 p.1, p.get2 (by omega), obd_s, rs_c5 p.1 (by omega), sI_c (by omega), hMa, bnd_e, nI_1, bnd_e]
    exact e
set_option maxHeartbeats 1000000 in
theorem RV.srch2 {N A P most n : Nat} {S0 : St} {M : Mem} {t : Int32} {pb pt : List Row4} {ask : Int32} {nd : Option Nat} (p : RV M false t S0 pb pt) (k : SK N A P most S0) (hm : 0 < most) (g : GS N A P S0 S0 0) (hask : mI M 120 7 = ask) (hnd : ∀ v, nd = some v → v < N) (hn : 30000 ≤ n) : ∃ M', f_X10_search n 120 (nI most) (nodI nd) M = some M' ∧ FZ M M' ∧ RS M' ∧ GQ N A P most S0 (bfq N most ask S0) ∧ RQ N A P S0 M' (bfq N most ask S0) ∧ RC N ask (fun v => xR S0 2 v) nd M' (bfq N most ask S0).1 := by
  obtain ⟨h2, h16, h40, hA, hP, hN0, ht0, hQ⟩ := id k
  have ea := f_aside p.1 (n := n) (by omega)
  generalize hMa : cpF M 121 126 0 = Ma at ea
  have oa : ∀ o, o ≠ 126 → ∀ b, mI Ma o b = mI M o b := fun o n b => by
    rw [← hMa]
    show (if o = 126 ∧ 0 ≤ b ∧ b < 10465 then M.2.1 121 b else M.2.1 o b) = M.2.1 o b
    rw [if_neg (fun z => n z.1)]
  have pa : RV Ma false t S0 pb pt := p.cg (by rw [← hMa]; rfl) (oa 120 (by decide) 3) (oa 121 (by decide)) (oa 123 (by decide))
  obtain ⟨M1, n1, e1, hn1, p1, s1, k1⟩ := s6_2 (most := most) (v2 := nodI nd) hN0 h16 N 0 n Ma (by omega) pa (fun v hv => by omega) (by omega)
  generalize hMb : sI (sI (sI (sI (sI (sI M1 120 13 (0 : Int32)) 120 14 (0 : Int32)) 120 15 (0 : Int32)) 120 16 (0 : Int32)) 120 17 (0 : Int32)) 120 18 (-1 : Int32) = Mb
  have b13 : mI Mb 120 13 = 0 := by rw [← hMb, mI_n _ _ _ _ (by decide), mI_n _ _ _ _ (by decide), mI_n _ _ _ _ (by decide), mI_n _ _ _ _ (by decide), mI_n _ _ _ _ (by decide), mI_s]
  have b14 : mI Mb 120 14 = 0 := by rw [← hMb, mI_n _ _ _ _ (by decide), mI_n _ _ _ _ (by decide), mI_n _ _ _ _ (by decide), mI_n _ _ _ _ (by decide), mI_s]
  have b15 : mI Mb 120 15 = 0 := by rw [← hMb, mI_n _ _ _ _ (by decide), mI_n _ _ _ _ (by decide), mI_n _ _ _ _ (by decide), mI_s]
  have b16 : mI Mb 120 16 = 0 := by rw [← hMb, mI_n _ _ _ _ (by decide), mI_n _ _ _ _ (by decide), mI_s]
  have b17 : mI Mb 120 17 = 0 := by rw [← hMb, mI_n _ _ _ _ (by decide), mI_s]
  have b18 : mI Mb 120 18 = -1 := by rw [← hMb, mI_s]
  have bo : ∀ o, o ≠ 120 → ∀ b, mI Mb o b = mI M1 o b := fun o n b => by rw [← hMb, mI_o _ _ _ _ _ n, mI_o _ _ _ _ _ n, mI_o _ _ _ _ _ n, mI_o _ _ _ _ _ n, mI_o _ _ _ _ _ n, mI_o _ _ _ _ _ n]
  have bk : ∀ b, b < 13 → mI Mb 120 b = mI M1 120 b := fun b hb => by rw [← hMb, mI_n _ _ _ _ (by omega), mI_n _ _ _ _ (by omega), mI_n _ _ _ _ (by omega), mI_n _ _ _ _ (by omega), mI_n _ _ _ _ (by omega), mI_n _ _ _ _ (by omega)]
  have pb' : RV Mb false t S0 pb pt := p1.cg (by rw [← hMb]; rfl) (bk 3 (by decide)) (bo 121 (by decide)) (bo 123 (by decide))
  have q0 : RQ N A P S0 Mb ([], false) := ⟨b13, b14, fun i p hp => by simp at hp⟩
  have g0 : GQ N A P most S0 ([], false) := ⟨Nat.zero_le _, fun z => absurd z (by decide), fun i p hp => by simp at hp⟩
  obtain ⟨M2, e2, p2, q2, f2⟩ := pb'.meet (dd := 0) h16 (by omega) h40 g (by omega) (SE.rf S0) q0 g0 (n := n1) (by omega)
  have em : met1 most ([], false) S0 0 = ([(S0, 0)], false) := by
    unfold met1
    have : knw ([] : List (St × Nat)) S0 = false := by
      cases e : knw ([] : List (St × Nat)) S0 with
      | false => rfl
      | true =>
        obtain ⟨q, hq, _⟩ := knw_t.mp e
        simp at hq
    rw [show (([], false) : Bq).1 = [] from rfl, this, if_neg (by decide), if_pos (by simpa using hm)]
    rfl
  rw [em] at q2
  have o2 : ∀ b, b ≠ 13 → b ≠ 14 → mI M2 120 b = mI Mb 120 b := f2.2.2.1
  have hM2 : RM N A P S0 t pb pt ask (fun v => xR S0 2 v) nd M2 ([(S0, 0)], false) ((([(S0, 0)], false) : Bq).1.take 0) := by
    refine ⟨⟨S0, 0, p2, g⟩, q2, ⟨?_, ?_, ?_, ?_⟩, ?_, fun v hv => ?_⟩
    · rw [o2 15 (by decide) (by decide)]; exact b15
    · rw [o2 16 (by decide) (by decide)]; exact b16
    · rw [o2 17 (by decide) (by decide)]; exact b17
    · rw [o2 18 (by decide) (by decide), b18]
      cases nd <;> rfl
    · rw [o2 7 (by decide) (by decide), bk 7 (by decide), k1.2.1 120 (by unfold P125; decide), oa 120 (by decide)]
      exact hask
    · rw [f2.2.1 125 (by decide) (by decide) (by decide), bo 125 (by decide)]
      exact s1 v hv
  obtain ⟨M3, Mz, e3, hz, zz, S3, G3, Q3, C3⟩ := s72_2 (t := t) (pb := pb) (pt := pt) (ask := ask) (sn := fun v => xR S0 2 v) (nd := nd) k hnd most 0 (most + 1) n1 M2 ([(S0, 0)], false) (by omega) (by omega) (Nat.zero_le _) (SK_Q0 g hm) hM2 (by omega)
  have k5 : ∀ o, o ≠ 125 → ∀ b, mI M1 o b = mI Ma o b := fun o n b => k1.2.1 o n b
  have zM : ∀ o, o ≠ 120 → o ≠ 125 → o ≠ 128 → o ≠ 129 → ∀ b, mI M2 o b = mI Ma o b := fun o n1 n2 n3 n4 b => by rw [f2.2.1 o n1 n3 n4, bo o n1, k5 o n2]
  have s2 : M2.1 = M.1 := f2.1.trans ((show Mb.1 = M1.1 by rw [← hMb]; rfl).trans (k1.1.trans (show Ma.1 = M.1 by rw [← hMa]; rfl)))
  have a126 : ∀ b, b < 10465 → mI Ma 126 b = mI M 121 b := fun b hb => by
    rw [← hMa]
    show (if 126 = 126 ∧ 0 ≤ b ∧ b < 10465 then M.2.1 121 b else M.2.1 126 b) = M.2.1 121 b
    rw [if_pos ⟨rfl, Nat.zero_le _, hb⟩]
  have fz : FZ M M3 := ⟨Mz, hz, zz.1.trans s2, fun o ho b => by rw [zz.2.1 o (Or.inl ho), zM o (by omega) (by omega) (by omega) (by omega), oa o (by omega)], fun b hb => by rw [zz.2.1 126 (Or.inr rfl), zM 126 (by decide) (by decide) (by decide) (by decide)]; exact a126 b hb, by rw [zz.2.2, o2 3 (by decide) (by decide), bk 3 (by decide), k5 120 (by decide), oa 120 (by decide)]⟩
  refine ⟨M3, ?_, fz, S3, G3, Q3, C3⟩
  rw [f_X10_search, rs_f p.1, ea, obd_s, show (0 : Int32) = nI 0 from rfl, e1, f_X10_search_6, rs_f p1.1, rs_0 p1.1, bnd_e, rs_fa p1.1, rs_c0 p1.1, cl0, p1.N hN0, if_pos (Int32.le_refl _), bnd_e, chk_t (Or.inl rfl), bnd_e, bnd_e, bnd_e, bnd_e, bnd_e, hMb, show (0 : Int32) = nI 0 from rfl, e2, obd_s]
  exact e3
set_option maxHeartbeats 1000000 in
theorem RV.sby2 {N A P most n w : Nat} {S0 : St} {M : Mem} {t : Int32} {pb pt : List Row4} {ask : Int32} (p : RV M false t S0 pb pt) (k : SK N A P most S0) (hm : 0 < most) (g : GS N A P S0 S0 0) (ha : ask &&& ((((1 : Int32) <<< (nI N &&& 31)) - 1) ^^^ (-1 : Int32)) = 0) (hw : w < 6) (hn : 30000 ≤ n) : ∃ M', f_X10_searchedBy n 120 ask (nI most) (nI w) M = some (cSe N ask (fun v => xR S0 2 v) (bfq N most ask S0) w, M') ∧ FZ (sI M 120 7 ask) M' := by
  obtain ⟨h2, h16, h40, hA, hP, hN0, ht0, hQ⟩ := id k
  have pa : RV (sI M 120 7 ask) false t S0 pb pt := p.cg rfl (mI_n _ _ _ _ (by decide)) (fun b => mI_o _ _ _ _ _ (by decide)) (fun b => mI_o _ _ _ _ _ (by decide))
  obtain ⟨M1, e1, F1, S1, G1, Q1, C1⟩ := pa.srch2 (nd := none) k hm g (mI_s _ _ _ _) (fun v z => by cases z) hn
  have hpos := bfq_pos N most ask S0
  generalize bfq N most ask S0 = q at G1 Q1 C1 hpos ⊢
  have hl := G1.1
  refine ⟨M1, ?_, F1⟩
  have i1 : f_X10_isIn (nI most) (1 : Int32) (40 : Int32) M = some 1 := is_in3 (L := 1) (N := 40) (by decide) hm h40
  rw [f_X10_searchedBy, rs_f p.1, f_all p hN0, obd_s, if_pos ha, i1, obd_s, if_neg ne10, show (5 : Int32) = nI 5 from rfl, f_isI M (show w ≤ 5 by omega) (by decide), obd_s, if_neg ne10, bnd_e, show f_X10_search n 120 (nI most) (-1) (sI M 120 7 ask) = some M1 from e1, obd_s]
  unfold cSe
  rcases (show w = 0 ∨ w = 1 ∨ w = 2 ∨ w = 3 ∨ w = 4 ∨ w = 5 by omega) with rfl | rfl | rfl | rfl | rfl | rfl
  · rw [if_pos (show nI 0 = (0 : Int32) from rfl), if_pos rfl, rs_f S1, Q1.1]
  · rw [if_neg (show ¬ nI 1 = (0 : Int32) by decide), if_pos (show nI 1 = (1 : Int32) from rfl), if_neg (show ¬ (1 : Nat) = 0 by decide), if_pos rfl, rs_f S1, C1.1]
  · rw [if_neg (show ¬ nI 2 = (0 : Int32) by decide), if_neg (show ¬ nI 2 = (1 : Int32) by decide), if_pos (show nI 2 = (2 : Int32) from rfl), if_neg (show ¬ (2 : Nat) = 0 by decide), if_neg (show ¬ (2 : Nat) = 1 by decide), if_pos rfl, rs_f S1, C1.2.1]
  · rw [if_neg (show ¬ nI 3 = (0 : Int32) by decide), if_neg (show ¬ nI 3 = (1 : Int32) by decide), if_neg (show ¬ nI 3 = (2 : Int32) by decide), if_pos (show nI 3 = (3 : Int32) from rfl), if_neg (show ¬ (3 : Nat) = 0 by decide), if_neg (show ¬ (3 : Nat) = 1 by decide), if_neg (show ¬ (3 : Nat) = 2 by decide), if_pos rfl, rs_f S1, C1.2.2.1]
  · rw [if_neg (show ¬ nI 4 = (0 : Int32) by decide), if_neg (show ¬ nI 4 = (1 : Int32) by decide), if_neg (show ¬ nI 4 = (2 : Int32) by decide), if_neg (show ¬ nI 4 = (3 : Int32) by decide), if_pos (show nI 4 = (4 : Int32) from rfl), if_neg (show ¬ (4 : Nat) = 0 by decide), if_neg (show ¬ (4 : Nat) = 1 by decide), if_neg (show ¬ (4 : Nat) = 2 by decide), if_neg (show ¬ (4 : Nat) = 3 by decide), if_pos rfl, rs_f S1, Q1.2.1]
    cases q.2
    · rfl
    · rfl
  · obtain ⟨p5, h5⟩ : ∃ p5, q.1[q.1.length - 1]? = some p5 := ⟨_, List.getElem?_eq_getElem (by omega)⟩
    have d5 := (Q1.2.2 _ p5 h5).2
    have e1 : nI q.1.length - (1 : Int32) = nI (q.1.length - 1) := by rw [show (1 : Int32) = nI 1 from rfl, nI_sb hpos]
    rw [if_neg (show ¬ nI 5 = (0 : Int32) by decide), if_neg (show ¬ nI 5 = (1 : Int32) by decide), if_neg (show ¬ nI 5 = (2 : Int32) by decide), if_neg (show ¬ nI 5 = (3 : Int32) by decide), if_neg (show ¬ nI 5 = (4 : Int32) by decide), if_neg (show ¬ (5 : Nat) = 0 by decide), if_neg (show ¬ (5 : Nat) = 1 by decide), if_neg (show ¬ (5 : Nat) = 2 by decide), if_neg (show ¬ (5 : Nat) = 3 by decide), if_neg (show ¬ (5 : Nat) = 4 by decide), rs_f S1, rs_12 S1, bnd_e, rs_f12 S1, Q1.1, e1, rs_c12 S1 (by omega), mI_c (by omega), d5, h5]
theorem RV.ssn2 {N A P most n v : Nat} {S0 : St} {M : Mem} {t : Int32} {pb pt : List Row4} (p : RV M false t S0 pb pt) (k : SK N A P most S0) (hm : 0 < most) (g : GS N A P S0 S0 0) (h7 : mI M 120 7 = 0) (hv : v < N) (hnd : f_X10_isNode 120 (nI v) M = some 1) (hn : 30000 ≤ n) : ∃ M', f_X10_soonest n 120 (nI v) (nI most) M = some (cSon v (bfq N most 0 S0).1, M') ∧ FZ M M' := by
  obtain ⟨h2, h16, h40, hA, hP, hN0, ht0, hQ⟩ := id k
  obtain ⟨M1, e1, F1, S1, G1, Q1, C1⟩ := p.srch2 (nd := some v) k hm g h7 (fun u z => by cases z; exact hv) hn
  refine ⟨M1, ?_, F1⟩
  have i1 : f_X10_isIn (nI most) (1 : Int32) (40 : Int32) M = some 1 := is_in3 (L := 1) (N := 40) (by decide) hm h40
  rw [f_X10_soonest, rs_f p.1, hnd, obd_s, if_neg ne10, i1, obd_s, if_neg ne10, show f_X10_search n 120 (nI most) (nI v) M = some M1 from e1, obd_s, rs_f S1, C1.2.2.2]
  rfl
/-! ===== searched, searchedBy, soonest, from any state between the calls ===== -/
theorem tell_out {c : Int32} (h : Out 6 c) {M : Mem} : f_X6_tell 114 c M = some (-1) := by
  have n : ∀ k, k < 6 → ¬ c = nI k := fun k hk e => by
    rw [e] at h
    rcases h with h | h
    · exact absurd h (show ¬ nI k < 0 from nI_nl (a := k) (b := 0) (Nat.zero_le _) (by omega))
    · exact absurd h (nI_ge hk (by decide))
  rw [f_X6_tell, if_neg (show ¬ c = (0 : Int32) from n 0 (by decide)), if_neg (show ¬ c = (1 : Int32) from n 1 (by decide)), if_neg (show ¬ c = (2 : Int32) from n 2 (by decide)), if_neg (show ¬ c = (3 : Int32) from n 3 (by decide)), if_neg (show ¬ c = (4 : Int32) from n 4 (by decide)), if_neg (show ¬ c = (5 : Int32) from n 5 (by decide))]
theorem WJ.sk {M : Mem} {N A i m : Nat} {Q : Nat → Int32} {S : St} (w : WJ M N A i Q S) (hi : i ≤ 511) (h40 : m ≤ 40) : SK N A 8176 m S ∧ GS N A 8176 S S 0 := by
  have sw := w.2.2.2.1
  have h16 := sw.n16
  have tc := w.tc
  refine ⟨⟨sw.n2, h16, h40, by have := sw.a; omega, by omega, sw.n, sw.t, tc.1⟩, sw.inv, ⟨sw.ix, tc.2, sw.ps hi⟩, Qk.rf S, Kn.rf N S⟩
theorem WJ.run {M : Mem} {N A i m n : Nat} {Q : Nat → Int32} {S : St} (w : WJ M N A i Q S) (hi : i ≤ 511) (ask : Int32) (h1 : 1 ≤ m) (h40 : m ≤ 40) (hn : 100000 ≤ n) : ∃ M1, f_X6_run n 114 14 ask (nI m) M = some M1 ∧ CW M1 N Q S ∧ RV M1 false 0 S [] [] ∧ mI M1 120 7 = 0 ∧ GQ N A 8176 m S (bfq N m ask S) ∧ (∃ D X0 Y0 pb pt, CM D X0 Y0 0 N Q pb pt A 8176 m S ask (fun v => xR S 2 v) M1 (bfq N m ask S)) ∧ isO M1 9 0 ∧ mR M1 0 5 = 114 ∧ isO M1 6 114 := by
  obtain ⟨X, Y, L, p, sb, xg, xr⟩ := id w.1
  obtain ⟨sk, gs⟩ := w.sk hi h40
  obtain ⟨X0, Y0, pb, pt, sr, hX, hY, dj, sep, fin⟩ := w.1.sea
  have hN := p.1.2.2.2.2.2.2
  obtain ⟨M1, e1, gq, cm, f⟩ := run_w p sr sk h1 gs hX hY (fun v hv => w.2.2.2.2 v hv) dj sep (n := n) (by omega)
  have cw := fin M1 0 Q pb pt A 8176 m S ask _ _ cm f
  obtain ⟨f1, f2, f3, f4, f5⟩ := id f
  have r1 : RV M1 false 0 S [] [] := w.2.1.mr f1 (fun o a b => ⟨f2 o (by omega), fun c => f3 o c (by omega) (by omega) (by omega), f4 o (Or.inl ⟨b, by omega, by omega⟩)⟩)
  obtain ⟨_, _, _, _, _, xg1, _, _, xs1, _⟩ := id cw
  obtain ⟨_, _, _, _, _, _, _, _, sx1, _⟩ := xs1
  exact ⟨M1, e1, cw, r1, by rw [f4 120 (Or.inl ⟨by decide, by decide, by decide⟩)]; exact w.2.2.1, gq, ⟨_, _, _, _, _, cm⟩, xg1.1, xg1.2.2.2.2.2.2, sx1.1⟩
theorem WJ.fz {M M1 M2 : Mem} {N A i : Nat} {Q : Nat → Int32} {S : St} {ask : Int32} (w : WJ M N A i Q S) (cw : CW M1 N Q S) (r1 : RV M1 false 0 S [] []) (z1 : mI M1 120 7 = 0) (f : FZ (sI M1 120 7 ask) M2) : WI (i + 1) M2 := by
  obtain ⟨Mz, rfl, e, hI, h6, h3⟩ := f
  have oz : ∀ o, o ≠ 120 → ∀ b, mI (sI Mz 120 7 0) o b = mI Mz o b := fun o n b => mI_o _ _ _ _ _ n
  have om : ∀ o, o ≠ 120 → ∀ b, mI (sI M1 120 7 ask) o b = mI M1 o b := fun o n b => mI_o _ _ _ _ _ n
  refine w.rfb cw r1 z1 (show Mz.1 = M1.1 from e) (fun o ho b => by rw [oz o (by omega), hI o (by omega), om o (by omega)]) (by rw [mI_n _ _ _ _ (by decide), h3, mI_n _ _ _ _ (by decide)]) (by rw [mI_s, z1]) (fun b hb => by rw [oz 126 (by decide), h6 b hb, om 121 (by decide)])
theorem FZ.e {M1 M2 : Mem} (f : FZ M1 M2) : FZ (sI M1 120 7 (mI M1 120 7)) M2 := by
  have e : sI M1 120 7 (mI M1 120 7) = M1 := by
    refine Prod.ext rfl (Prod.ext ?_ rfl)
    funext a b
    show (if a = 120 ∧ b = 7 then mI M1 120 7 else M1.2.1 a b) = M1.2.1 a b
    by_cases c : a = 120 ∧ b = 7
    · rw [if_pos c, c.1, c.2]; rfl
    · rw [if_neg c]
  rw [e]; exact f
/-- both of them have searched -/
theorem WJ.both {M : Mem} {N A i m n : Nat} {Q : Nat → Int32} {S : St} (w : WJ M N A i Q S) (hi : i ≤ 511) (ask : Int32) (ha : ask &&& ((((1 : Int32) <<< (nI N &&& 31)) - 1) ^^^ (-1 : Int32)) = 0) (h1 : 1 ≤ m) (h40 : m ≤ 40) (c : Int32) (hn : 100000 ≤ n) : ∃ M1 r M2, f_X6_run n 114 14 ask (nI m) M = some M1 ∧ f_X6_tell 114 c M1 = some r ∧ isO M1 9 0 ∧ mR M1 0 5 = 114 ∧ isO M1 6 114 ∧ isO M1 10 120 ∧ f_X10_searchedBy n 120 ask (nI m) c M1 = some (r, M2) ∧ WI (i + 1) M2 := by
  obtain ⟨M1, e1, cw, r1, z1, gq, ⟨D, X0, Y0, pb, pt, cm⟩, i0, i5, i6⟩ := w.run hi ask h1 h40 hn
  obtain ⟨sk, gs⟩ := w.sk hi h40
  have io := r1.1.io (i := 120) (c := 10) (by decide) (by decide) (by decide)
  have sw := w.2.2.2.1
  rcases out_in (N := 6) (by decide) c with h | ⟨u, hu, rfl⟩
  · refine ⟨M1, -1, M1, e1, tell_out h, i0, i5, i6, io, ?_, N, A, Q, S, cw, r1, z1, sw.mo, w.2.2.2.2⟩
    have i1 : f_X10_isIn (nI m) (1 : Int32) (40 : Int32) M1 = some 1 := is_in3 (L := 1) (N := 40) (by decide) h1 h40
    rw [f_X10_searchedBy, rs_f r1.1, f_all r1 sw.n, obd_s, if_pos ha, i1, obd_s, if_neg ne10, out_is h (lt_of (by decide)), obd_s, if_pos rfl]
  · obtain ⟨M2, e2, f2⟩ := r1.sby2 (n := n) (w := u) sk h1 gs ha hu (by omega)
    exact ⟨M1, _, M2, e1, f_tellE cm (bfq_dn _ _ _ _) hu, i0, i5, i6, io, e2, w.fz cw r1 z1 f2⟩
theorem op42 {M : Mem} {i n : Nat} (h : WI i M) (hi : i ≤ 511) (a b c : Int32) (hn : 100000 ≤ n) : Okk i (f_X9_searchedBy n 0 a b c M) (fun M1 => f_X10_searchedBy n 120 a b c M1) := by
  obtain ⟨N, A, Q, S, w⟩ := h
  obtain ⟨X, Y, L, p, sb, xg, xc, xv, xs, xr⟩ := id w.1
  obtain ⟨_, r, z7, sw, hQ⟩ := id w
  by_cases ha : a &&& ((((1 : Int32) <<< (nI N &&& 31)) - 1) ^^^ (-1 : Int32)) = 0
  · rcases rng3 (L := 1) (N := 40) (by decide) (by decide) b with hb | ⟨m, h1, h40, rfl⟩
    · refine Okk.same w (r := -1) ?_ ?_
      · rw [f_X9_searchedBy, chk_t xg.1, xg.2.1, bnd_e, sb.f, sb.isS, if_pos ha, obd_s, if_neg ne10]
        by_cases q : b < 1
        · rw [if_pos q]
        · rw [if_neg q, if_neg (show ¬ b ≤ (40 : Int32) from Int32.not_le.mpr (gt3 (N := 40) (by decide) (hb.resolve_left q)))]
      · show f_X10_searchedBy n 120 a b c M = _
        rw [f_X10_searchedBy, rs_f r.1, f_all r sw.n, obd_s, if_pos ha, show (40 : Int32) = nI 40 from rfl, show (1 : Int32) = nI 1 from rfl]
        rw [is_out3 (by decide) hb, obd_s, if_pos rfl]
    · obtain ⟨M1, y, M2, e1, et, i0, i5, i6, io, e2, wi⟩ := w.both hi a ha h1 h40 c hn
      refine ⟨y, M1, M2, ?_, io, e2, wi⟩
      obtain ⟨_, _, _, _, _, _, _, _, sx, _⟩ := xs
      rw [f_X9_searchedBy, chk_t xg.1, xg.2.1, bnd_e, sb.f, sb.isS, if_pos ha, obd_s, if_neg ne10, if_neg (show ¬ nI m < (1 : Int32) from nI_nl (a := m) (b := 1) h1 (by omega)), if_pos (show nI m ≤ (40 : Int32) from nI_le (a := m) (b := 40) h40 (by decide)), xg.2.2.2.2.2.2, bnd_e, chk_t sx.1, xg.2.2.2.1, bnd_e, cs_f p.1, e1, obd_s, chk_t i0, i5, bnd_e, chk_t i6, et, obd_s]
  · refine Okk.same w (r := -1) ?_ ?_
    · rw [f_X9_searchedBy, chk_t xg.1, xg.2.1, bnd_e, sb.f, sb.isS, if_neg ha, obd_s, if_pos rfl]
    · show f_X10_searchedBy n 120 a b c M = _
      rw [f_X10_searchedBy, rs_f r.1, f_all r sw.n, obd_s, if_neg ha]
theorem and0 (x : Int32) : (0 : Int32) &&& x = 0 := by
  refine b_ext fun i _ => ?_
  rw [b_and, b_0]; rfl
theorem op41 {M : Mem} {i n : Nat} (h : WI i M) (hi : i ≤ 511) (a b : Int32) (hn : 100000 ≤ n) : Okk i (f_X9_searched n 0 a b M) (fun M1 => f_X10_searched n 120 a b M1) := by
  obtain ⟨N, A, Q, S, w⟩ := h
  obtain ⟨X, Y, L, p, sb, xg, xc, xv, xs, xr⟩ := id w.1
  obtain ⟨_, r, z7, sw, hQ⟩ := id w
  have ha := and0 ((((1 : Int32) <<< (nI N &&& 31)) - 1) ^^^ (-1 : Int32))
  rcases rng3 (L := 1) (N := 40) (by decide) (by decide) a with hb | ⟨m, h1, h40, rfl⟩
  · refine Okk.same w (r := -1) ?_ ?_
    · rw [f_X9_searched]
      by_cases q : a < 1
      · rw [if_pos q]
      · rw [if_neg q, if_neg (show ¬ a ≤ (40 : Int32) from Int32.not_le.mpr (gt3 (N := 40) (by decide) (hb.resolve_left q)))]
    · show f_X10_searched n 120 a b M = _
      rw [f_X10_searched, rs_f r.1, f_X10_searchedBy, rs_f r.1, f_all r sw.n, obd_s, if_pos ha, show (40 : Int32) = nI 40 from rfl, show (1 : Int32) = nI 1 from rfl]
      rw [is_out3 (by decide) hb, obd_s, if_pos rfl, obd2_s]
  · obtain ⟨M1, y, M2, e1, et, i0, i5, i6, io, e2, wi⟩ := w.both hi 0 ha h1 h40 b hn
    refine ⟨y, M1, M2, ?_, io, ?_, wi⟩
    · obtain ⟨_, _, _, _, _, _, _, _, sx, _⟩ := xs
      rw [f_X9_searched, if_neg (show ¬ nI m < (1 : Int32) from nI_nl (a := m) (b := 1) h1 (by omega)), if_pos (show nI m ≤ (40 : Int32) from nI_le (a := m) (b := 40) h40 (by decide)), chk_t xg.1, xg.2.2.2.2.2.2, bnd_e, chk_t sx.1, xg.2.2.2.1, bnd_e, cs_f p.1, e1, obd_s, chk_t i0, i5, bnd_e, chk_t i6, et, obd_s]
    · show f_X10_searched n 120 (nI m) b M1 = _
      rw [f_X10_searched, chk_t io, e2, obd2_s]
theorem op45 {M : Mem} {i n : Nat} (h : WI i M) (hi : i ≤ 511) (a b : Int32) (hn : 100000 ≤ n) : Okk i (f_X9_soonest n 0 a b M) (fun M1 => f_X10_soonest n 120 a b M1) := by
  obtain ⟨N, A, Q, S, w⟩ := h
  obtain ⟨X, Y, L, p, sb, xg, xc, xv, xs, xr⟩ := id w.1
  obtain ⟨_, r, z7, sw, hQ⟩ := id w
  have h16 := sw.n16
  have h2 := sw.n2
  rcases out_in (N := N) (by omega) a with ha | ⟨v, hv, rfl⟩
  · refine Okk.same w (r := -1) ?_ ?_
    · rw [f_X9_soonest, chk_t xg.1, xg.2.1, bnd_e, sb.f, ndc0 sb ha, obd_s, if_pos rfl]
    · show f_X10_soonest n 120 a b M = _
      rw [f_X10_soonest, rs_f r.1, ndr0 r sw.n (by omega) h16 ha, obd_s, if_pos rfl]
  · rcases rng3 (L := 1) (N := 40) (by decide) (by decide) b with hb | ⟨m, h1, h40, rfl⟩
    · refine Okk.same w (r := -1) ?_ ?_
      · rw [f_X9_soonest, chk_t xg.1, xg.2.1, bnd_e, sb.f, ndc sb hv h16, obd_s, if_neg ne10]
        by_cases q : b < 1
        · rw [if_pos q]
        · rw [if_neg q, if_neg (show ¬ b ≤ (40 : Int32) from Int32.not_le.mpr (gt3 (N := 40) (by decide) (hb.resolve_left q)))]
      · show f_X10_soonest n 120 (nI v) b M = _
        rw [f_X10_soonest, rs_f r.1, ndr r sw.n hv h16, obd_s, if_neg ne10, show (40 : Int32) = nI 40 from rfl, show (1 : Int32) = nI 1 from rfl]
        rw [is_out3 (by decide) hb, obd_s, if_pos rfl]
    · obtain ⟨M1, e1, cw, r1, z1, gq, ⟨D, X0, Y0, pb, pt, cm⟩, i0, i5, i6⟩ := w.run hi 0 h1 h40 hn
      obtain ⟨sk, gs⟩ := w.sk hi h40
      have io := r1.1.io (i := 120) (c := 10) (by decide) (by decide) (by decide)
      obtain ⟨M2, e2, f2⟩ := r1.ssn2 (n := n) sk h1 gs z1 hv (ndr r1 sw.n hv h16) (by omega)
      refine ⟨_, M1, M2, ?_, io, e2, w.fz cw r1 z1 f2.e⟩
      obtain ⟨_, _, _, _, _, _, _, _, sx, _⟩ := xs
      rw [f_X9_soonest, chk_t xg.1, xg.2.1, bnd_e, sb.f, ndc sb hv h16, obd_s, if_neg ne10, if_neg (show ¬ nI m < (1 : Int32) from nI_nl (a := m) (b := 1) h1 (by omega)), if_pos (show nI m ≤ (40 : Int32) from nI_le (a := m) (b := 40) h40 (by decide)), xg.2.2.2.2.2.2, bnd_e, chk_t sx.1, xg.2.2.2.1, bnd_e, cs_f p.1, e1, obd_s, chk_t i0, i5, bnd_e, chk_t i6, f_sonE cm gq h40 (by omega) (by omega), obd_s]
/-! ===== a clock: what is due grows less ===== -/
/-- lanes are longer at most, by letters of that time -/
def LN (t : Int32) (S S' : St) : Prop := ∀ l, ∃ ys, xL S' l = xL S l ++ ys ∧ ∀ y : Ltr, y ∈ ys → y.2.2 = t
theorem LN.eq {t : Int32} {S S' : St} (h : xL S' = xL S) : LN t S S' := fun l => ⟨[], by rw [h, List.append_nil], fun y hy => by cases hy⟩
theorem LN.rf (t : Int32) (S : St) : LN t S S := LN.eq rfl
theorem LN.tr {t : Int32} {S S' S'' : St} (h : LN t S S') (h' : LN t S' S'') : LN t S S'' := fun l => by
  obtain ⟨a, e, p⟩ := h l
  obtain ⟨b, e', p'⟩ := h' l
  refine ⟨a ++ b, by rw [e', e, List.append_assoc], fun y hy => ?_⟩
  rcases List.mem_append.mp hy with z | z
  · exact p y z
  · exact p' y z
theorem LN.tsn {t : Int32} {k f g : Nat} {s : Int32} {S : St} : LN t S (sn t k f g s S) := fun l => by
  rw [sn_L]
  by_cases c : l = 16 * f + g
  · rw [if_pos c, c]
    exact ⟨[(nI k, s, t)], rfl, fun y hy => by rw [List.mem_singleton] at hy; rw [hy]⟩
  · rw [if_neg c]
    exact ⟨[], (List.append_nil _).symm, fun y hy => by cases hy⟩
theorem LN.tsAl {t : Int32} {k f : Nat} {set s : Int32} : ∀ (ws : List Nat) (S : St), LN t S (sAl t k f set s ws S) := by
  intro ws
  induction ws with
  | nil => intro S; exact LN.rf t S
  | cons w ws ih =>
    intro S
    have e : sAl t k f set s (w :: ws) S = sAl t k f set s ws (if bt set w then (sn t k f w s S) else S) := by
      unfold sAl
      rw [List.foldl_cons]
    rw [e]
    refine LN.tr ?_ (ih _)
    split
    · exact LN.tsn
    · exact LN.rf t S
theorem LN.tgF {t : Int32} {a : Nat} {S : St} : LN t S (gF t a S) := by
  unfold gF
  split
  · exact LN.eq rfl
  · exact LN.tr (LN.eq rfl) LN.tsn
theorem LN.trq3 {t : Int32} {a : Nat} {S : St} : LN t S (rq3 t a S) := by
  unfold rq3
  split
  · exact LN.rf t S
  · exact LN.tr (LN.eq rfl) LN.tsn
theorem LN.trq2 {t : Int32} {a : Nat} {S : St} : ∀ old : List Wtr, LN t S (rq2 t a old S) := by
  intro old
  cases old with
  | nil => exact LN.rf t S
  | cons w r =>
    show LN t S (if ahd w.2 (nI w.1) (xR S 9 a) (xR S 8 a) then _ else S)
    split
    · exact LN.tsn
    · exact LN.rf t S
theorem LN.trq {t : Int32} {a v : Nat} {s : Int32} {S : St} : LN t S (rq t a v s S) := by
  unfold rq
  split
  · exact LN.tr (LN.eq rfl) LN.tgF
  · split
    · exact LN.tr (S' := uW S a (ins v s (xW S a))) (LN.eq rfl) (LN.tr (LN.trq2 _) LN.trq3)
    · exact LN.tr (LN.eq rfl) LN.tsn
theorem LN.tyl {t : Int32} {a v : Nat} {s : Int32} {S : St} : LN t S (yl t a v s S) := by
  unfold yl
  split
  · exact LN.tr (LN.eq rfl) LN.tgF
  · exact LN.rf t S
theorem LN.trl {t : Int32} {a v : Nat} {s : Int32} {S : St} : LN t S (rl t a v s S) := by
  unfold rl
  split
  · exact LN.tgF
  · exact LN.eq rfl
theorem LN.tyT {t : Int32} {v a : Nat} {S : St} : LN t S (yT t v a S) := by
  unfold yT
  simp only []
  exact LN.tr LN.tsn (LN.eq rfl)
theorem LN.tfdl {t : Int32} {v : Nat} {d : Int32} : ∀ (ws : List Nat) (S : St), LN t S (fdl t v d ws S) := by
  intro ws
  induction ws with
  | nil => intro S; exact LN.rf t S
  | cons w ws ih =>
    intro S
    have e : fdl t v d (w :: ws) S = fdl t v d ws (if bt d w then yT t v w S else S) := by
      unfold fdl
      rw [List.foldl_cons]
    rw [e]
    refine LN.tr ?_ (ih _)
    split
    · exact LN.tyT
    · exact LN.rf t S
theorem LN.tfd {t : Int32} {N v a : Nat} {S : St} : LN t S (fd t N v a S) := by
  unfold fd
  exact LN.tr (S' := uR S 6 v (bon (xR S 6 v) a)) (LN.eq rfl) (LN.tr (LN.tfdl _ _) (LN.eq rfl))
theorem LN.tiq {t : Int32} {v a : Nat} {S : St} : LN t S (iq t v a S) := by
  unfold iq
  split
  · split
    · exact LN.eq rfl
    · exact LN.tyT
  · exact LN.rf t S
theorem LN.trd {t s : Int32} {N k f g : Nat} {S : St} : LN t S (rd t N k f g s S) := by
  unfold rd
  simp only []
  have h : LN t S (if s ≤ xR S 1 g then S else uR S 1 g s) := by
    split
    · exact LN.rf t S
    · exact LN.eq rfl
  generalize (if s ≤ xR S 1 g then S else uR S 1 g s) = S1 at h ⊢
  refine LN.tr h ?_
  split
  · exact LN.trq
  · split
    · exact LN.tyl
    · split
      · exact LN.trl
      · split
        · split
          · exact LN.eq gr_WL.2
          · split
            · exact LN.tfd
            · exact LN.tiq
        · exact LN.rf t S1
/-- whether a letter is due -/
def due (t : Int32) (dl : Nat → Int32) (l : Nat) (x : Ltr) : Bool := !decide (t < x.2.2 + dl l)
def cnt (t : Int32) (dl : Nat → Int32) (S : St) : Nat := smN (fun l => ((xL S l).filter (due t dl l)).length) 256
theorem cnt_LN {t : Int32} {dl : Nat → Int32} {S S' : St} (h : LN t S S') (hd : ∀ l, l < 256 → t < t + dl l) : cnt t dl S' = cnt t dl S := by
  refine smN_c 256 (fun l hl => ?_)
  obtain ⟨ys, e, p⟩ := h l
  show ((xL S' l).filter (due t dl l)).length = ((xL S l).filter (due t dl l)).length
  rw [e, List.filter_append]
  have : ys.filter (due t dl l) = [] := by
    rw [List.filter_eq_nil_iff]
    intro y hy
    unfold due
    rw [p y hy, decide_eq_true (hd l hl)]
    decide
  rw [this, List.append_nil]
theorem cnt_br {t : Int32} {dl : Nat → Int32} {S : St} {N f g : Nat} {x : Ltr} {r : List Ltr} (hl : 16 * f + g < 256) (hx : xL S (16 * f + g) = x :: r) (hd : ∀ l, l < 256 → t < t + dl l) (du : due t dl (16 * f + g) x = true) : cnt t dl (br t N f g S) + 1 = cnt t dl S := by
  have e : br t N f g S = rd t N x.1.toNatClampNeg f g x.2.1 (wt N x.1.toNatClampNeg f g x.2.1 (uL S (16 * f + g) r)) := by
    unfold br
    rw [hx]
  have h1 : LN t (uL S (16 * f + g) r) (br t N f g S) := by
    rw [e]
    exact LN.tr (LN.eq (wt_WL _ _ _ _ _ _).2) LN.trd
  rw [cnt_LN h1 hd]
  have h2 := smN_at (f := fun l => ((xL (uL S (16 * f + g) r) l).filter (due t dl l)).length) (g := fun l => ((xL S l).filter (due t dl l)).length) 256 hl (fun l _ n => by
    show ((xL (uL S (16 * f + g) r) l).filter (due t dl l)).length = ((xL S l).filter (due t dl l)).length
    rw [xL_uL, if_neg n])
  have e1 : ((xL (uL S (16 * f + g) r) (16 * f + g)).filter (due t dl (16 * f + g))).length + 1 = ((xL S (16 * f + g)).filter (due t dl (16 * f + g))).length := by
    rw [xL_uL, if_pos rfl, hx, List.filter_cons, if_pos du, List.length_cons]
  show smN _ 256 + 1 = smN _ 256
  omega
theorem fl_smN (L : Nat → List Ltr) : ∀ n, (flr L 0 n).length = smN (fun l => (L l).length) n := by
  intro n
  induction n with
  | zero => rfl
  | succ n ih =>
    have := flr_len_ap L n 0 1
    rw [this, ih, flr_len_s]
    show _ = smN _ n + (L n).length
    rw [Nat.zero_add]
    rfl
theorem cnt_le (t : Int32) (dl : Nat → Int32) (S : St) : cnt t dl S ≤ (fl S).length := by
  rw [fl_r, fl_smN]
  exact smN_le 256 (fun l _ => List.length_filter_le _ _)
section
variable {N A : Nat} {P : Nat → Nat} {S0 S : St}
theorem GI.tb (h : GI N A P S0 S) (h16 : N ≤ 16) (hA : A < 1048576) {f g : Nat} (h2 : f < N) (h3 : g < N) (t : Int32) : GI N A P S0 (br t N f g S) := by
  obtain ⟨hI, hX, hZ, hP, hR⟩ := h
  obtain ⟨x1, x2⟩ := br_X hI h16 hA hX h2 h3 t
  have kk : Qk S (br t N f g S) := fun k z i => (Kq.tbr S t N f g).1 k i z
  refine ⟨hI.tbr h16 hA h2 h3 t, x1, hZ.tbr hI h16 h2 h3 t, fun a ha => Nat.le_trans (x2 a ha) (hP a ha), fun k i hk => ?_⟩
  rcases hk with rfl | hk
  · rw [kk 7 (by omega)]; exact hR 7 i (by omega)
  · rw [br_19 (by omega)]; exact hR k i (by omega)
theorem GI.tl (h : GI N A P S0 S) (h16 : N ≤ 16) {v : Nat} (h3 : v < N) (h4 : xR S 0 v = 2) (t : Int32) : GI N A P S0 (lv t N v S) := by
  obtain ⟨hI, hX, hZ, hP, hR⟩ := h
  have h0 : xR S 0 v ≠ 0 := by rw [h4]; decide
  obtain ⟨x1, x2⟩ := lv_X hI h16 hX h3 h0 t
  rw [if_pos h4] at x2
  exact ⟨hI.tlv h16 h3 h0 t, x1, hZ.tlv t, fun a ha => Nat.le_trans (x2 a ha) (hP a ha), fun k i hk => by rw [lv_R (by omega), if_neg (by omega)]; exact hR k i (by omega)⟩
/-- with the letters' times at 0 -/
theorem GI.tz (h : GI N A P S0 S) (h16 : N ≤ 16) : GI N A P S0 (fS 0 S S) := by
  obtain ⟨hI, hX, hZ, hP, hR⟩ := h
  have sm : Sam S (fS 0 S S) := ⟨rfl, fun _ _ _ _ => rfl⟩
  have se : SE S (fS 0 S S) := ⟨fun _ _ _ _ => rfl, fun _ _ => rfl, fun l _ => by
    show (xL S l).map lk = ((xL S l).map (wn 0)).map lk
    rw [List.map_map]
    rfl⟩
  exact ⟨hI.wn (t := 0) h16 sm (fun _ _ => rfl), se.tix h16 hX, hZ, fun a ha => by rw [← se.tPh a]; exact hP a ha, fun _ _ _ => hR _ _ ‹_›⟩
end
/-! ===== the class's clock ===== -/
def FrE (M M' : Mem) : Prop := mN M ≤ mN M' ∧ (∀ i, i < mN M → M'.1.2.1 i = M.1.2.1 i) ∧ (∀ a b, a < mN M → ¬ (a = 64 ∧ 5 ≤ b ∧ b ≤ 7) → mR M' a b = mR M a b) ∧ (∀ o, o < mN M → ¬ (63 ≤ o ∧ o < 113) → o ≠ mR M 64 5 → o ≠ mR M 64 6 → o ≠ mR M 64 7 → ∀ b, mI M' o b = mI M o b) ∧ (∀ o, o < mN M → ∀ b, mL M' o b = mL M o b) ∧ (∀ j, 5 ≤ j → j ≤ 7 → mR M' 64 j = mR M 64 j ∨ mN M ≤ mR M' 64 j)
theorem FrE.rf (M : Mem) : FrE M M := ⟨Nat.le_refl _, fun _ _ => rfl, fun _ _ _ _ => rfl, fun _ _ _ _ _ _ _ => rfl, fun _ _ _ => rfl, fun _ _ _ => Or.inl rfl⟩
theorem FrE.tr {M M' M'' : Mem} (p : FrE M M') (p' : FrE M' M'') : FrE M M'' := by
  obtain ⟨a1, a2, a3, a4, a5, a6⟩ := p
  obtain ⟨b1, b2, b3, b4, b5, b6⟩ := p'
  refine ⟨Nat.le_trans a1 b1, fun i hi => (b2 i (by omega)).trans (a2 i hi), fun a b ha hn => (b3 a b (by omega) hn).trans (a3 a b ha hn), fun o ho h1 h5 h6 h7 b => ?_, fun o ho b => (b5 o (by omega) b).trans (a5 o ho b), fun j h5 h7 => ?_⟩
  · have n5 : o ≠ mR M' 64 5 := by rcases a6 5 (by decide) (by decide) with e | e <;> omega
    have n6 : o ≠ mR M' 64 6 := by rcases a6 6 (by decide) (by decide) with e | e <;> omega
    have n7 : o ≠ mR M' 64 7 := by rcases a6 7 (by decide) (by decide) with e | e <;> omega
    exact (b4 o (by omega) h1 n5 n6 n7 b).trans (a4 o ho h1 h5 h6 h7 b)
  · rcases b6 j h5 h7 with e | e
    · rcases a6 j h5 h7 with e2 | e2
      · exact Or.inl (e.trans e2)
      · exact Or.inr (by omega)
    · exact Or.inr (by omega)
theorem FrH.E {M M' : Mem} (f : FrH M M' 63) : FrE M M' := by
  obtain ⟨a1, a2, a3, a4, a5, a6⟩ := f
  exact ⟨a1, a2, a3, fun o ho h1 h5 h6 h7 b => a4 o ho (by omega) h5 h6 h7 b, a5, a6⟩
theorem FrE.sI {M : Mem} {o k : Nat} {x : Int32} (h : 63 ≤ o ∧ o < 113) : FrE M (sI M o k x) :=
  ⟨Nat.le_refl _, fun _ _ => rfl, fun _ _ _ _ => rfl, fun a _ n _ _ _ b => mI_o _ _ _ _ _ (by omega), fun _ _ _ => rfl, fun _ _ _ => Or.inl rfl⟩
/-- the clock's own -/
def XK (M : Mem) : Prop := isO M 0 112 ∧ mR M 112 0 = 113 ∧ isO M 100 113 ∧ mLn M 113 = 256
theorem XK.fe {M M' : Mem} (x : XK M) (f : FrE M M') : XK M' := by
  obtain ⟨a, b, c, d⟩ := x
  obtain ⟨f1, f2, f3, _⟩ := f
  have io : ∀ {c o}, isO M c o → isO M' c o := fun z => ⟨by have := z.1; omega, by rw [mC, f2 _ z.1]; exact z.2⟩
  exact ⟨io a, by rw [f3 112 0 a.1 (by omega)]; exact b, io c, by rw [mLn, f2 _ c.1]; exact d⟩
theorem PW.tt {M : Mem} {h d5 d6 d7 len : Nat} {t : Int32} {se : Nat → Int32} {K : Nat → List (Nat × Ltr)} {fr : List Nat} {us : Nat} {ow : Nat → Nat} {e : Nat} (p : PW M h d5 d6 d7 len t se K fr us ow e) (hh : h + 49 ≤ 131) (t' : Int32) : PW (sI M (h + 1) 11 t') h d5 d6 d7 len t' se K fr us ow e := by
  obtain ⟨w0, pc, pn, pch, pla, pma, pbu, pse, ⟨pf1, pf2, pf3⟩, pu, ptt, tot, pt1, pt2, pt3⟩ := p
  obtain ⟨_, _, _, y5, y6, y7, _⟩ := id w0
  have o : ∀ o, o ≠ h + 1 → ∀ b, mI (sI M (h + 1) 11 t') o b = mI M o b := fun o n b => mI_o _ _ _ _ _ n
  have n : ∀ b, b ≠ 11 → mI (sI M (h + 1) 11 t') (h + 1) b = mI M (h + 1) b := fun b n => mI_n _ _ _ _ n
  have e7 : mI (sI M (h + 1) 11 t') d7 = mI M d7 := by funext b; exact o d7 (by omega) b
  refine ⟨w0.e rfl, fun l hl y hy => ?_, pn, fun l hl => ?_, fun l hl cs z ez => ?_, fun l hl => ?_, fun f hf g hg => ?_, fun k hk => ?_, ⟨pf1, pf2, ?_⟩, ?_, ?_, tot, ?_, pt2, pt3⟩
  · rw [o d5 (by omega), o d6 (by omega)]; exact pc l hl y hy
  · rw [e7, o (h + 2) (by omega)]; exact pch l hl
  · rw [o (h + 3) (by omega)]; exact pla l hl cs z ez
  · rw [o (h + 4) (by omega)]; exact pma l hl
  · rw [o (h + 5) (by omega)]; exact pbu f hf g hg
  · rw [o (h + 6) (by omega)]; exact pse k hk
  · rw [e7, n 9 (by decide)]; exact pf3
  · rw [n 8 (by decide)]; exact pu
  · exact mI_s _ _ _ _
  · rw [n 10 (by decide)]; exact pt1
theorem HV.tt {M : Mem} {h X Y N : Nat} {t : Int32} {Q : Nat → Int32} {S : St} {pb pt : List Row4} (p : HV M h X Y t N Q S pb pt) (t' : Int32) : HV (sI M (h + 1) 11 t') h X Y t' N Q S pb pt := by
  obtain ⟨q, ⟨d5, d6, d7, len, K, fr, us, ow, w, hK⟩, hp, rm, ⟨lb, lt⟩, hN, hQ⟩ := p
  have hh := q.2.2.2.2
  have o : ∀ o, o ≠ h + 1 → ∀ b, mI (sI M (h + 1) 11 t') o b = mI M o b := fun o n b => mI_o _ _ _ _ _ n
  refine ⟨q.e rfl, ⟨d5, d6, d7, len, K, fr, us, ow, w.tt hh.1 t', hK⟩, hp.cg (fun a ha b => o a (by omega) b) (fun _ _ _ => rfl) rfl, rm, ⟨lb.cg (fun b => o _ (by omega) b) (fun b => o _ (by omega) b), lt.cg (fun b => o _ (by omega) b) (fun b => o _ (by omega) b)⟩, by rw [o 1 (by omega)]; exact hN, fun v hv => by rw [o _ (by omega)]; exact hQ v hv⟩
theorem HV.w112 {M : Mem} {X Y N k : Nat} {t x : Int32} {Q : Nat → Int32} {S : St} {pb pt : List Row4} (p : HV M 63 X Y t N Q S pb pt) : HV (sI M 112 k x) 63 X Y t N Q S pb pt :=
  p.kp rfl (fun o ho b => mI_o _ _ _ _ _ (by omega))
theorem HV.h7 {M : Mem} {h X Y N : Nat} {t : Int32} {Q : Nat → Int32} {S : St} {pb pt : List Row4} (p : HV M h X Y t N Q S pb pt) {v : Nat} (hv : v < 16) : f_X9_has (mI M h 7) (nI v) M = some (if xR S 0 v = 2 then 1 else 0) := by
  rw [f_has9 _ (show v < 32 by omega), p.2.2.1.2.1 v (by omega)]
  by_cases c : xR S 0 v = 2
  · rw [decide_eq_true (⟨hv, c⟩ : v < 16 ∧ xR S 0 v = 2), if_pos c]; rfl
  · rw [decide_eq_false (fun y => c y.2), if_neg c]; rfl
theorem xL_le {S : St} {l : Nat} (hl : l < 256) : (xL S l).length ≤ (fl S).length := by
  rw [fl_r, flr_split _ l hl, List.length_append, List.length_append, List.length_map]
  omega
theorem HV.cn {M : Mem} {h X Y N : Nat} {t : Int32} {Q : Nat → Int32} {S : St} {pb pt : List Row4} (p : HV M h X Y t N Q S pb pt) {l : Nat} (hl : l < 256) : mI M (h + 4) l = nI (xL S l).length := by
  obtain ⟨d5, d6, d7, len, K, fr, us, ow, w, hK⟩ := p.2.1
  rw [w.2.2.2.2.2.1 l hl, ← hK l hl, List.length_map]
theorem HV.hg {M : Mem} {h X Y N : Nat} {t : Int32} {Q : Nat → Int32} {S : St} {pb pt : List Row4} (p : HV M h X Y t N Q S pb pt) {f g : Nat} (hf : f < 16) (hg : g < 16) (a : Int32) : ∃ r, f_X5_hasGoneBy (h + 1) (nI f) (nI g) a M = some r ∧ (r = 0 ∨ xL S (16 * f + g) ≠ []) := by
  have q := p.1
  have hl : 16 * f + g < 256 := by omega
  have ecn := p.cn hl
  obtain ⟨d5, d6, d7, len, K, fr, us, ow, w, hK⟩ := p.2.1
  have u := w.2.2.2.2.2.2.2.2.2.1
  have op : ∀ y, (if nI (xL S (16 * f + g)).length ≤ 0 then some (0 : Int32) else bnd (mR M (h + 1) 6) fun o10 => chk (isO M 100 o10) <| bnd (mR M (h + 1) 0) fun o13 => chk (isO M 100 o13) <| chk (inB (nI (16 * f + g)) (mLn M o13)) <| chk (inB (mI M o13 (nI (16 * f + g)).toNatClampNeg) (mLn M o10)) <| if a < (mI M o10 (mI M o13 (nI (16 * f + g)).toNatClampNeg).toNatClampNeg) then some (0 : Int32) else some (1 : Int32)) = y → f_X5_hasGoneBy (h + 1) (nI f) (nI g) a M = y := by
    intro y hy
    rw [f_X5_hasGoneBy, c16', bnd_e, cs_p q, cs_r4 q, bnd_e, cs_a4 q, cs_i4 q hl]
    rw [show mI M (h + 4) (nI (16 * f + g)).toNatClampNeg = nI (xL S (16 * f + g)).length by rw [mI_c (by omega)]; exact ecn]
    exact hy
  have hk := hK _ hl
  cases ek : K (16 * f + g) with
  | nil =>
    rw [ek] at hk
    refine ⟨0, op _ ?_, Or.inl rfl⟩
    have hk' : xL S (16 * f + g) = [] := hk.symm
    rw [hk', if_pos (show nI ([] : List Ltr).length ≤ (0 : Int32) from Int32.le_refl _)]
  | cons y ys =>
    rw [ek] at hk
    have hc := w.2.2.2.1 _ hl
    rw [ek] at hc
    have hx : mI M (h + 2) (16 * f + g) = nI y.1 := hc.1
    have hy := (w.2.1 _ hl y (by rw [ek]; simp)).1
    have ne : xL S (16 * f + g) ≠ [] := by rw [← hk]; simp
    have pos : 0 < (xL S (16 * f + g)).length := List.length_pos_iff.mpr ne
    have le9 : (xL S (16 * f + g)).length ≤ us := by
      obtain ⟨tot, _, e1, e2⟩ := w.2.2.2.2.2.2.2.2.2.2.2
      have := xL_le (S := S) hl
      have h3 : (fl S).length = tot := by
        have := p.tot
        rw [fl_r, e2]
        congr 1
        unfold flr
        refine fm_cg _ (fun l hl' => ?_)
        have := List.mem_range'_1.mp hl'
        show _ = ((K l).map Prod.snd).map (fun x => (l, x))
        rw [hK l (by omega)]
      omega
    have ll := u.2.1
    have l18 := u.2.2.2.1
    by_cases c : a < mI M d6 (nI y.1).toNatClampNeg
    · refine ⟨0, op _ ?_, Or.inl rfl⟩
      rw [if_neg (show ¬ nI (xL S (16 * f + g)).length ≤ (0 : Int32) from nI_ge (a := 0) pos (by omega)), w.1.1.2.1, bnd_e, chk_t w.1.2.1.2.1, cs_r2 q, bnd_e, cs_a2 q, cs_i2 q hl, show mI M (h + 2) (nI (16 * f + g)).toNatClampNeg = nI y.1 by rw [mI_c (by omega)]; exact hx, w.1.2.2.1.2.1, chk_t (inB_n (by omega) (by omega)), if_pos c]
    · refine ⟨1, op _ ?_, Or.inr ne⟩
      rw [if_neg (show ¬ nI (xL S (16 * f + g)).length ≤ (0 : Int32) from nI_ge (a := 0) pos (by omega)), w.1.1.2.1, bnd_e, chk_t w.1.2.1.2.1, cs_r2 q, bnd_e, cs_a2 q, cs_i2 q hl, show mI M (h + 2) (nI (16 * f + g)).toNatClampNeg = nI y.1 by rw [mI_c (by omega)]; exact hx, w.1.2.2.1.2.1, chk_t (inB_n (by omega) (by omega)), if_neg c]
theorem nI_d1 (c : Nat) : nI (c + 1) + (-1 : Int32) = nI c := by
  rw [← Int32.sub_eq_add_neg]; exact nI_pred c
section
variable {X Y N A : Nat} {Q : Nat → Int32} {pb pt : List Row4} {P : Nat → Nat} {S0 : St}
theorem clw (h16 : N ≤ 16) (hP : smN P 16 + N ≤ 9000) (v2 : Int32) : ∀ (d i n : Nat) (M : Mem) (S : St) (t : Int32), i + d = N → HV M 63 X Y t N Q S pb pt → GI N A P S0 S → d + 30 ≤ n → ∃ M' S', f_X0_leaveWhoCameBy_2 n 63 v2 (nI i) M = some M' ∧ HV M' 63 X Y t N Q S' pb pt ∧ GI N A P S0 S' ∧ FrH M M' 63 := by
  intro d
  induction d with
  | zero =>
    intro i n M S t hi p hI hn
    obtain ⟨n, rfl⟩ : ∃ m, n = m + 1 := ⟨n - 1, by omega⟩
    have q := p.1
    exact ⟨M, S, by rw [f_X0_leaveWhoCameBy_2, cs_f q, cs_h0 q, bnd_e, cs_s q, p.2.2.2.2.2.1, if_pos (nI_le (by omega) (by omega))], p, hI, FrH.rf _ _⟩
  | succ d ih =>
    intro i n M S t hi p hI hn
    obtain ⟨n, rfl⟩ : ∃ m, n = m + 1 := ⟨n - 1, by omega⟩
    have q := p.1
    have i6 : i < 16 := by omega
    have hl := hI.tfl
    rw [f_X0_leaveWhoCameBy_2, cs_f q, cs_h0 q, bnd_e, cs_s q, p.2.2.2.2.2.1, if_neg (nI_ge (by omega) (by omega)), p.h7 i6, obd_s]
    by_cases c : xR S 0 i = 2
    · rw [if_pos c, if_neg ne10, cs_h2 q, bnd_e, cs_a10 q, cs_i10 q i6, cs_rpc q i6, bnd_e, cs_po q i6]
      by_cases z : v2 < mI M (63 + 17 + 2 * i) 15
      · rw [if_pos z, bnd_e, nI_1]
        exact ih (i + 1) n M S t (by omega) p hI (by omega)
      · obtain ⟨M1, e1, p1, f1⟩ := p.tlv h16 i6 (by omega) (n := n) (by omega)
        obtain ⟨M', S', e', p', hI', f'⟩ := ih (i + 1) n M1 _ t (by omega) p1 (hI.tl h16 (by omega) c t) (by omega)
        exact ⟨M', S', by rw [if_neg z, e1, obd_s, bnd_e, nI_1]; exact e', p', hI', f1.tr f'⟩
    · rw [if_neg c, if_pos rfl, bnd_e, nI_1]
      exact ih (i + 1) n M S t (by omega) p hI (by omega)
theorem cb89 (h2 : 2 ≤ N) (h16 : N ≤ 16) (hA : A < 1048576) (hP : smN P 16 + N ≤ 9000) {t v2 v3 : Int32} {f g : Nat} (hf : f < N) (hg : g < N) {K3 : Nat → Nat → Int32 → Int32 → Int32 → Mem → Option Mem} {K : Nat → Nat → Int32 → Int32 → Int32 → Int32 → Mem → Option Mem} (hK : ∀ (M : Mem) (S : St), HV M 63 X Y t N Q S pb pt → GI N A P S0 S → XK M → ∃ M' S', K 112 63 v2 v3 (nI f) (nI (g + 1)) M = some M' ∧ HV M' 63 X Y t N Q S' pb pt ∧ GI N A P S0 S' ∧ FrE M M') : ∀ (c n : Nat) (M : Mem) (S : St), c ≤ 9000 → HV M 63 X Y t N Q S pb pt → GI N A P S0 S → XK M → c + 30 ≤ n → ∃ M' S', f_X0_bringDue_89 K3 K n 112 63 v2 v3 (nI f) (nI g) (nI c) M = some M' ∧ HV M' 63 X Y t N Q S' pb pt ∧ GI N A P S0 S' ∧ FrE M M' := by
  intro c
  induction c with
  | zero =>
    intro n M S h9 p hI xk hn
    obtain ⟨n, rfl⟩ : ∃ m, n = m + 1 := ⟨n - 1, by omega⟩
    rw [f_X0_bringDue_89, if_pos (show nI 0 ≤ (0 : Int32) from Int32.le_refl _), bnd_e, nI_1]
    exact hK M S p hI xk
  | succ c ih =>
    intro n M S h9 p hI xk hn
    obtain ⟨n, rfl⟩ : ∃ m, n = m + 1 := ⟨n - 1, by omega⟩
    have q := p.1
    have hl := hI.tfl
    obtain ⟨r, er, hr⟩ := p.hg (show f < 16 by omega) (show g < 16 by omega) v3
    rw [f_X0_bringDue_89, if_neg (show ¬ nI (c + 1) ≤ (0 : Int32) from nI_ge (a := 0) (by omega) (by omega)), cs_f q, cs_h1 q, bnd_e, cs_p q, er, obd_s]
    by_cases z : r = 0
    · rw [if_pos z, bnd_e, nI_d1]
      exact ih n M S (by omega) p hI xk (by omega)
    · obtain ⟨x, rr, hx⟩ := List.exists_cons_of_ne_nil (hr.resolve_left z)
      obtain ⟨M1, e1, p1, f1⟩ := p.tbr hI.1 hA h2 h16 hf hg hx (by omega) (n := n) (by omega)
      obtain ⟨M', S', e', p', hI', f'⟩ := ih n M1 _ (by omega) p1 (hI.tb h16 hA hf hg t) (xk.fe f1.E) (by omega)
      exact ⟨M', S', by rw [if_neg z, e1, obd2_s, bnd_e, nI_d1]; exact e', p', hI', f1.E.tr f'⟩
theorem cb18 (h2 : 2 ≤ N) (h16 : N ≤ 16) (hA : A < 1048576) (hP : smN P 16 + N ≤ 9000) {t v2 v3 : Int32} {f : Nat} (hf : f < N) {K3 : Nat → Nat → Int32 → Int32 → Int32 → Mem → Option Mem} (hK : ∀ (M : Mem) (S : St), HV M 63 X Y t N Q S pb pt → GI N A P S0 S → XK M → ∃ M' S', K3 112 63 v2 v3 (nI (f + 1)) M = some M' ∧ HV M' 63 X Y t N Q S' pb pt ∧ GI N A P S0 S' ∧ FrE M M') : ∀ (e g n : Nat) (M : Mem) (S : St), g + e = N → HV M 63 X Y t N Q S pb pt → GI N A P S0 S → XK M → e + 9100 ≤ n → ∃ M' S', f_X0_bringDue_18 K3 n 112 63 v2 v3 (nI f) (nI g) M = some M' ∧ HV M' 63 X Y t N Q S' pb pt ∧ GI N A P S0 S' ∧ FrE M M' := by
  intro e
  induction e with
  | zero =>
    intro g n M S hg p hI xk hn
    obtain ⟨n, rfl⟩ : ∃ m, n = m + 1 := ⟨n - 1, by omega⟩
    have q := p.1
    rw [f_X0_bringDue_18, cs_f q, cs_h0 q, bnd_e, cs_s q, p.2.2.2.2.2.1, if_pos (nI_le (by omega) (by omega)), bnd_e, nI_1]
    exact hK M S p hI xk
  | succ e ih =>
    intro g n M S hg p hI xk hn
    obtain ⟨n, rfl⟩ : ∃ m, n = m + 1 := ⟨n - 1, by omega⟩
    have q := p.1
    have f6 : f < 16 := by omega
    have hl : 16 * f + g < 256 := by omega
    have hfl := hI.tfl
    have hx := xL_le (S := S) hl
    rw [f_X0_bringDue_18, cs_f q, cs_h0 q, bnd_e, cs_s q, p.2.2.2.2.2.1, if_neg (nI_ge (by omega) (by omega)), cs_h1 q, bnd_e, cs_p q, cs_r5 q, bnd_e, cs_a5 q, cs_i5 q f6]
    by_cases z : mI M (63 + 5) (nI f).toNatClampNeg = 0
    · rw [if_pos z, bnd_e, nI_1]
      exact hK M S p hI xk
    · rw [if_neg z, chk_t xk.1, xk.2.1, bnd_e, chk_t xk.2.2.1, c16', xk.2.2.2, chk_t (inB_n hl (by decide))]
      have nx : ∀ (M : Mem) (S : St), HV M 63 X Y t N Q S pb pt → GI N A P S0 S → XK M → ∃ M' S', f_X0_bringDue_18 K3 n 112 63 v2 v3 (nI f) (nI (g + 1)) M = some M' ∧ HV M' 63 X Y t N Q S' pb pt ∧ GI N A P S0 S' ∧ FrE M M' := fun M S p hI xk => ih (g + 1) n M S (by omega) p hI xk (by omega)
      by_cases y : mI M 113 (nI (16 * f + g)).toNatClampNeg = v2
      · rw [if_pos y, f_X0_bringDue_65, if_neg ne10, cs_f q, cs_h1 q, bnd_e, cs_p q, f_X5_countOn, cs_p q, cs_r4 q, bnd_e, cs_a4 q, c16', cs_i4 q hl, obd_s, show mI M (63 + 4) (nI (16 * f + g)).toNatClampNeg = nI (xL S (16 * f + g)).length by rw [mI_c (by omega)]; exact p.cn hl]
        exact cb89 h2 h16 hA hP hf (by omega) nx (xL S (16 * f + g)).length n M S (by omega) p hI xk (by omega)
      · rw [if_neg y, f_X0_bringDue_65, if_pos rfl]
        exact cb89 h2 h16 hA hP hf (by omega) nx 0 n M S (by omega) p hI xk (by omega)
theorem cb3 (h2 : 2 ≤ N) (h16 : N ≤ 16) (hA : A < 1048576) (hP : smN P 16 + N ≤ 9000) {t v2 v3 : Int32} : ∀ (e f n : Nat) (M : Mem) (S : St), f + e = N → HV M 63 X Y t N Q S pb pt → GI N A P S0 S → XK M → e + 9200 ≤ n → ∃ M' S', f_X0_bringDue_3 n 112 63 v2 v3 (nI f) M = some M' ∧ HV M' 63 X Y t N Q S' pb pt ∧ GI N A P S0 S' ∧ FrE M M' := by
  intro e
  induction e with
  | zero =>
    intro f n M S hf p hI xk hn
    obtain ⟨n, rfl⟩ : ∃ m, n = m + 1 := ⟨n - 1, by omega⟩
    have q := p.1
    exact ⟨M, S, by rw [f_X0_bringDue_3, cs_f q, cs_h0 q, bnd_e, cs_s q, p.2.2.2.2.2.1, if_pos (nI_le (by omega) (by omega))], p, hI, FrE.rf _⟩
  | succ e ih =>
    intro f n M S hf p hI xk hn
    obtain ⟨n, rfl⟩ : ∃ m, n = m + 1 := ⟨n - 1, by omega⟩
    have q := p.1
    rw [f_X0_bringDue_3, cs_f q, cs_h0 q, bnd_e, cs_s q, p.2.2.2.2.2.1, if_neg (nI_ge (by omega) (by omega))]
    exact cb18 h2 h16 hA hP (by omega) (fun M S p hI xk => ih (f + 1) n M S (by omega) p hI xk (by omega)) N 0 n M S (by omega) p hI xk (by omega)
/-- what a time's end leaves to do -/
theorem cb107 {t v2 u0 : Int32} {τ n : Nat} {K : Nat → Nat → Int32 → Int32 → Mem → Option Mem} (hK : ∀ (M : Mem) (S : St), HV M 63 X Y t N Q S pb pt → GI N A P S0 S → XK M → ∃ M' S' t', K 112 63 v2 (nI (τ + 1)) M = some M' ∧ HV M' 63 X Y t' N Q S' pb pt ∧ FrE M M') {M : Mem} {S : St} (p : HV M 63 X Y t N Q S pb pt) (hI : GI N A P S0 S) (xk : XK M) : ∃ M' S' t', f_X0_run_107 K n 112 63 v2 (nI τ) u0 112 M = some M' ∧ HV M' 63 X Y t' N Q S' pb pt ∧ FrE M M' := by
  have f1 : FrE M (sI M 112 2 u0) := FrE.sI (by omega)
  have p1 := p.w112 (k := 2) (x := u0)
  have x1 := xk.fe f1
  rw [f_X0_run_107, chk_t xk.1, bnd_e]
  generalize sI M 112 2 u0 = M1 at f1 p1 x1
  have r127 : ∀ y z : Int32, ∃ M' S' t', f_X0_run_127 K n 112 63 v2 (nI τ) y z 112 M1 = some M' ∧ HV M' 63 X Y t' N Q S' pb pt ∧ FrE M1 M' := by
    intro y z
    have f2 : FrE M1 (sI M1 112 3 (z + y)) := FrE.sI (by omega)
    have p2 := p1.w112 (k := 3) (x := z + y)
    have x2 := x1.fe f2
    rw [f_X0_run_127, chk_t x1.1, bnd_e]
    generalize sI M1 112 3 (z + y) = M2 at f2 p2 x2
    rw [cs_f p2.1]
    by_cases c : mI M2 63 7 = 0
    · rw [if_pos c, cs_h1 p2.1, bnd_e, cs_p p2.1]
      by_cases c2 : mI M2 (63 + 1) 10 = 0
      · have f3 : FrE M2 (sI M2 112 1 (nI τ)) := FrE.sI (by omega)
        obtain ⟨M', S', t', e', p', f'⟩ := hK (sI M2 112 1 (nI τ)) S p2.w112 hI (x2.fe f3)
        exact ⟨M', S', t', by rw [if_pos c2, chk_t x2.1, bnd_e, bnd_e, nI_1]; exact e', p', f2.tr (f3.tr f')⟩
      · obtain ⟨M', S', t', e', p', f'⟩ := hK M2 S p2 hI x2
        exact ⟨M', S', t', by rw [if_neg c2, bnd_e, nI_1]; exact e', p', f2.tr f'⟩
    · obtain ⟨M', S', t', e', p', f'⟩ := hK M2 S p2 hI x2
      exact ⟨M', S', t', by rw [if_neg c, bnd_e, nI_1]; exact e', p', f2.tr f'⟩
  by_cases c : mI M1 63 7 = 0
  · obtain ⟨M', S', t', e', p', f'⟩ := r127 1 (mI M1 112 3)
    exact ⟨M', S', t', by rw [chk_t x1.1, cs_f p1.1, if_pos c]; exact e', p', f1.tr f'⟩
  · obtain ⟨M', S', t', e', p', f'⟩ := r127 0 (mI M1 112 3)
    exact ⟨M', S', t', by rw [chk_t x1.1, cs_f p1.1, if_neg c]; exact e', p', f1.tr f'⟩
theorem cb66 (h2 : 2 ≤ N) (h16 : N ≤ 16) (hA : A < 1048576) (hP : smN P 16 + N ≤ 9000) {t v2 v4 : Int32} {τ : Nat} {K : Nat → Nat → Int32 → Int32 → Mem → Option Mem} (hK : ∀ (M : Mem) (S : St), HV M 63 X Y t N Q S pb pt → GI N A P S0 S → XK M → ∃ M' S' t', K 112 63 v2 (nI (τ + 1)) M = some M' ∧ HV M' 63 X Y t' N Q S' pb pt ∧ FrE M M') : ∀ (k n : Nat) (M : Mem) (S : St), k ≤ 9 → HV M 63 X Y t N Q S pb pt → GI N A P S0 S → XK M → k + 9300 ≤ n → ∃ M' S' t', f_X0_run_66 K n 112 63 v2 (nI τ) v4 (nI k) M = some M' ∧ HV M' 63 X Y t' N Q S' pb pt ∧ FrE M M' := by
  intro k
  induction k with
  | zero =>
    intro n M S hk p hI xk hn
    obtain ⟨n, rfl⟩ : ∃ m, n = m + 1 := ⟨n - 1, by omega⟩
    rw [f_X0_run_66, if_pos (show nI 0 < (1 : Int32) by decide), cs_f p.1]
    by_cases c : mI M 63 11 ≤ v4
    · rw [if_pos c, chk_t xk.1]; exact cb107 hK p hI xk
    · rw [if_neg c]; exact cb107 hK p hI xk
  | succ k ih =>
    intro n M S hk p hI xk hn
    obtain ⟨n, rfl⟩ : ∃ m, n = m + 1 := ⟨n - 1, by omega⟩
    obtain ⟨M1, S1, e1, p1, hI1, f1⟩ := cb3 h2 h16 hA hP (v2 := nI (k + 1)) (v3 := nI τ - nI (k + 1)) N 0 n M S (by omega) p hI xk (by omega)
    obtain ⟨M', S', t', e', p', f'⟩ := ih n M1 S1 (by omega) p1 hI1 (xk.fe f1) (by omega)
    exact ⟨M', S', t', by rw [f_X0_run_66, if_neg (show ¬ nI (k + 1) < (1 : Int32) from nI_nl (a := k + 1) (b := 1) (by omega) (by omega)), chk_t xk.1, f_X0_bringDue, show f_X0_bringDue_3 n 112 63 (nI (k + 1)) (nI τ - nI (k + 1)) 0 M = some M1 from e1, obd_s, bnd_e, nI_d1]; exact e', p', f1.tr f'⟩
theorem cb19 (h2 : 2 ≤ N) (h16 : N ≤ 16) (hA : A < 1048576) (hP : smN P 16 + N ≤ 9000) (v2 : Int32) : ∀ (d τ n : Nat) (M : Mem) (S : St) (t : Int32), τ + d = 300 → HV M 63 X Y t N Q S pb pt → GI N A P S0 S → XK M → d + 9400 ≤ n → ∃ M' S' t', f_X0_run_19 n 112 63 v2 (nI τ) M = some M' ∧ HV M' 63 X Y t' N Q S' pb pt ∧ FrE M M' := by
  intro d
  induction d with
  | zero =>
    intro τ n M S t hi p hI xk hn
    obtain ⟨n, rfl⟩ : ∃ m, n = m + 1 := ⟨n - 1, by omega⟩
    exact ⟨M, S, t, by rw [f_X0_run_19, if_pos (show (300 : Int32) ≤ nI τ from nI_le (a := 300) (by omega) (by omega))], p, FrE.rf M⟩
  | succ d ih =>
    intro τ n M S t hi p hI xk hn
    obtain ⟨n, rfl⟩ : ∃ m, n = m + 1 := ⟨n - 1, by omega⟩
    rw [f_X0_run_19, if_neg (show ¬ (300 : Int32) ≤ nI τ from nI_ge (b := 300) (by omega) (by decide)), chk_t xk.1]
    by_cases c : mI M 112 1 = 300
    · rw [if_pos c, cs_f p.1, bnd_e, cs_h1 p.1, bnd_e, cs_p p.1, bnd_e]
      have f1 : FrE M (sI M (63 + 1) 11 (nI τ)) := FrE.sI (by omega)
      have p1 := p.tt (nI τ)
      have x1 := xk.fe f1
      generalize sI M (63 + 1) 11 (nI τ) = M1 at f1 p1 x1
      obtain ⟨M2, S2, e2, p2, hI2, f2⟩ := clw h16 hP (nI τ - v2) N 0 n M1 S (nI τ) (by omega) p1 hI (by omega)
      have x2 := x1.fe f2.E
      have em : (if nI τ < (9 : Int32) then nI τ else (9 : Int32)) = nI (min τ 9) := by
        by_cases z : τ < 9
        · rw [if_pos (show nI τ < (9 : Int32) from nI_lt (b := 9) z (by decide)), Nat.min_eq_left (by omega)]
        · rw [if_neg (show ¬ nI τ < (9 : Int32) from nI_nl (a := τ) (b := 9) (by omega) (by omega)), Nat.min_eq_right (by omega)]
          rfl
      obtain ⟨M', S', t', e', p', f'⟩ := cb66 h2 h16 hA hP (t := nI τ) (v2 := v2) (v4 := mI M 63 11) (τ := τ) (K := f_X0_run_19 n) (fun M S p hI xk => ih (τ + 1) n M S (nI τ) (by omega) p hI xk (by omega)) (min τ 9) n M2 S2 (Nat.min_le_right _ _) p2 hI2 x2 (by have := Nat.min_le_right τ 9; omega)
      exact ⟨M', S', t', by rw [f_X0_leaveWhoCameBy, show f_X0_leaveWhoCameBy_2 n 63 (nI τ - v2) 0 M1 = some M2 from e2, obd_s, em, bnd_e]; exact e', p', f1.tr (f2.E.tr f')⟩
    · exact ⟨M, S, t, by rw [if_neg c], p, FrE.rf M⟩
theorem cbrun (h2 : 2 ≤ N) (h16 : N ≤ 16) (hA : A < 1048576) (hP : smN P 16 + N ≤ 9000) (v2 : Int32) {n : Nat} {M : Mem} {S : St} {t : Int32} (p : HV M 63 X Y t N Q S pb pt) (hI : GI N A P S0 S) (xk : XK M) (hn : 10000 ≤ n) : ∃ M' S' t', f_X0_run n 112 63 v2 M = some M' ∧ HV M' 63 X Y t' N Q S' pb pt ∧ FrE M M' := by
  have f1 : FrE M (sI M 112 1 300) := FrE.sI (by omega)
  have f2 : FrE (sI M 112 1 300) (sI (sI M 112 1 300) 112 2 (-1)) := FrE.sI (by omega)
  have f3 : FrE (sI (sI M 112 1 300) 112 2 (-1)) (sI (sI (sI M 112 1 300) 112 2 (-1)) 112 3 0) := FrE.sI (by omega)
  have fx := f1.tr (f2.tr f3)
  obtain ⟨M', S', t', e', p', f'⟩ := cb19 h2 h16 hA hP v2 300 0 n _ S t rfl ((p.w112.w112).w112) hI (xk.fe fx) (by omega)
  exact ⟨M', S', t', by rw [f_X0_run, chk_t xk.1, bnd_e, bnd_e, bnd_e]; exact e', p', fx.tr f'⟩
end
/-- the class stands, but for the clock's own numbers -/
theorem CW.k112 {M M' : Mem} {N : Nat} {Q : Nat → Int32} {S : St} (h : CW M N Q S) (e : M'.1 = M.1) (hI : ∀ o, o ≠ 112 → ∀ b, mI M' o b = mI M o b) : CW M' N Q S := by
  obtain ⟨X, Y, L, p, sb, xg, xc, xv, xs, g, hL⟩ := h
  have s1 : Shp1 M M' := Shp1.e e
  exact ⟨X, Y, L, p.kp6 e (fun o ho b => hI o (by omega) b), sb.e e (hI 1 (by decide)) (hI 2 (by decide)), xg.s s1, xc.s s1 (hI 113 (by decide)) (fun _ _ => rfl), xv.s s1 (hI 5 (by decide)) (hI 6 (by decide)) (hI 8 (by decide)), xs.e e (fun o ho b => hI o (by omega) b), g.e e, hL⟩
theorem FrE.cw {M M' : Mem} {N X0 Y0 : Nat} {Q Q' : Nat → Int32} {S S' : St} {t : Int32} {pb pt : List Row4} (f : FrE M M') (p : HV M' 63 X0 Y0 t N Q' S' pb pt) (fin : ∀ (M' : Mem) (t : Int32) (Q' : Nat → Int32) (S' : St) (pb' pt' : List Row4), FrD M M' 63 → HV M' 63 X0 Y0 t N Q' S' pb' pt' → CW M' N Q S) : CW M' N Q S := by
  obtain ⟨f1, f2, f3, f4, f5, f6⟩ := f
  have o : ∀ o, o ≠ 112 → ∀ b, mI (M'.1, (fun a b => if a = 112 then mI M 112 b else mI M' a b), M'.2.2) o b = mI M' o b := fun o n b => if_neg n
  have fh : FrH M (M'.1, (fun a b => if a = 112 then mI M 112 b else mI M' a b), M'.2.2) 63 := by
    refine ⟨f1, f2, f3, fun a ha h1 h5 h6 h7 b => ?_, f5, f6⟩
    by_cases c : a = 112
    · rw [c]
      show (if 112 = 112 then mI M 112 b else mI M' 112 b) = mI M 112 b
      rw [if_pos rfl]
    · rw [o a c]; exact f4 a ha (by omega) h5 h6 h7 b
  have p2 := p.kp (M' := (M'.1, (fun a b => if a = 112 then mI M 112 b else mI M' a b), M'.2.2)) rfl (fun a ha b => o a (by omega) b)
  exact (fin _ t Q' S' pb pt fh.D p2).k112 rfl (fun a n b => (o a n b).symm)
/-! ===== the reference's clock ===== -/
theorem RV.cf {M M' : Mem} {t : Int32} {S : St} {pb pt : List Row4} (h : RV M false t S pb pt) (e1 : M'.1 = M.1) (e2 : mI M' 120 3 = mI M 120 3) (e3 : ∀ b, mI M' 121 b = mI M 121 b) : RV M' false t S pb pt := by
  obtain ⟨hS, ht, hA, hw, hl, hb1, hb2⟩ := h
  exact ⟨hS.e e1, e2.trans ht, fun k i hv => (e3 _).trans (hA k i hv), hw.cg (fun b _ _ => e3 b) rfl, ⟨(e3 _).trans hl.1, hl.2.1, fun i q hq => ⟨(e3 _).trans (hl.2.2 i q hq).1, fun z => by cases z⟩⟩, hb1.cg (e3 _) (fun b _ _ => e3 b), hb2.cg (e3 _) (fun b _ _ => e3 b)⟩
def P123 (o : Nat) : Prop := o = 123
theorem gz_l {t a b x : Int32} {S : St} {pb pt : List Row4} : ∀ (d i n : Nat) (M : Mem), i + d = (fl S).length → RV M false t S pb pt → (∀ j, j < i → mI M 123 j = 0) → d + 1 ≤ n → ∃ M' n', f_X10_goClock_12 n 120 a b x (nI i) M = f_X10_goClock_42 n' 120 a b x 0 M' ∧ n ≤ n' + d + 1 ∧ RV M' false t S pb pt ∧ (∀ j, j < (fl S).length → mI M' 123 j = 0) ∧ Fr P123 M M' := by
  intro d
  induction d with
  | zero =>
    intro i n M hi r hz hn
    obtain ⟨n, rfl⟩ : ∃ m, n = m + 1 := ⟨n - 1, by omega⟩
    have h9 := r.2.2.2.2.1.2.1
    refine ⟨M, n, ?_, by omega, r, fun j hj => hz j (by omega), Fr.rf _ _⟩
    rw [f_X10_goClock_12, rs_f r.1, rs_0 r.1, bnd_e, rs_fa r.1, l850, rs_c r.1 (by decide), cl_n (by decide), r.2.2.2.2.1.1, if_pos (nI_le (by omega) (by omega))]
  | succ d ih =>
    intro i n M hi r hz hn
    obtain ⟨n, rfl⟩ : ∃ m, n = m + 1 := ⟨n - 1, by omega⟩
    have h9 := r.2.2.2.2.1.2.1
    have fa : Fr P123 M (sI M 123 i 0) := Fr.tsI (show P123 123 from rfl)
    have ra : RV (sI M 123 i 0) false t S pb pt := r.cf rfl (mI_o _ _ _ _ _ (by decide)) (fun b => mI_o _ _ _ _ _ (by decide))
    obtain ⟨M', n', e', hn', r', z', f'⟩ := ih (i + 1) n _ (by omega) ra (fun j hj => by
      by_cases c : j = i
      · rw [c, mI_s]
      · rw [mI_n _ _ _ _ c]; exact hz j (by omega)) (by omega)
    refine ⟨M', n', ?_, by omega, r', z', fa.tr f'⟩
    rw [f_X10_goClock_12, rs_f r.1, rs_0 r.1, bnd_e, rs_fa r.1, l850, rs_c r.1 (by decide), cl_n (by decide), r.2.2.2.2.1.1, if_neg (nI_ge (by omega) (by omega)), rs_2 r.1, bnd_e, rs_fw r.1, rs_cw r.1 (by omega), sI_c (by omega), bnd_e, bnd_e, nI_1]
    exact e'
theorem fl_fS (S : St) : fl (fS 0 S S) = (fl S).map fun q => (q.1, wn 0 q.2) := by
  unfold fl
  rw [List.map_flatMap]
  refine fm_cg _ (fun l _ => ?_)
  show ((xL S l).map (wn 0)).map (fun x => (l, x)) = ((xL S l).map fun x => (l, x)).map fun q => (q.1, wn 0 q.2)
  rw [List.map_map, List.map_map]
  rfl
theorem zs_of {M : Mem} {t : Int32} {S : St} {pb pt : List Row4} (r : RV M false t S pb pt) (hz : ∀ j, j < (fl S).length → mI M 123 j = 0) : RV M true t (fS 0 S S) pb pt := by
  obtain ⟨hS, ht, hA, hw, hl, hb1, hb2⟩ := r
  refine ⟨hS, ht, fun k i hv => hA k i hv, hw, ⟨by rw [fl_fS, List.length_map]; exact hl.1, by rw [fl_fS, List.length_map]; exact hl.2.1, fun i q hq => ?_⟩, hb1, hb2⟩
  rw [fl_fS, List.getElem?_map] at hq
  cases e : (fl S)[i]? with
  | none => rw [e] at hq; cases hq
  | some q0 =>
    rw [e] at hq
    have hq' : (q0.1, wn 0 q0.2) = q := Option.some.inj hq
    rw [← hq']
    exact ⟨(hl.2.2 i q0 e).1, fun _ => by rw [Nat.zero_add, hz i (gl_lt e)]; rfl⟩
theorem RV.s120 {M : Mem} {tw : Bool} {t : Int32} {S : St} {pb pt : List Row4} (r : RV M tw t S pb pt) {k : Nat} (hk : k ≠ 3) (x : Int32) : RV (sI M 120 k x) tw t S pb pt :=
  r.cg rfl (mI_n _ _ _ _ (fun z => hk z.symm)) (fun b => mI_o _ _ _ _ _ (by decide)) (fun b => mI_o _ _ _ _ _ (by decide))
theorem RV.s130 {M : Mem} {tw : Bool} {t : Int32} {S : St} {pb pt : List Row4} (r : RV M tw t S pb pt) (k : Nat) (x : Int32) : RV (sI M 130 k x) tw t S pb pt :=
  r.cg rfl (mI_o _ _ _ _ _ (by decide)) (fun b => mI_o _ _ _ _ _ (by decide)) (fun b => mI_o _ _ _ _ _ (by decide))
theorem RV.st3 {M : Mem} {tw : Bool} {t : Int32} {S : St} {pb pt : List Row4} (r : RV M tw t S pb pt) (x : Int32) : RV (sI M 120 3 x) tw x S pb pt := by
  obtain ⟨hS, ht, hA, hw, hl, hb1, hb2⟩ := r
  have e : ∀ b, mI (sI M 120 3 x) 121 b = mI M 121 b := fun b => mI_o _ _ _ _ _ (by decide)
  have e3 : ∀ b, mI (sI M 120 3 x) 123 b = mI M 123 b := fun b => mI_o _ _ _ _ _ (by decide)
  exact ⟨hS.e rfl, mI_s _ _ _ _, fun k i hv => (e _).trans (hA k i hv), hw.cg (fun b _ _ => e b) rfl, ⟨(e _).trans hl.1, hl.2.1, hl.2.2.cg fun j _ _ => ⟨e _, e3 _⟩⟩, hb1.cg (e _) (fun b _ _ => e b), hb2.cg (e _) (fun b _ _ => e b)⟩
theorem fl_at {S : St} {a k : Nat} {x : Ltr} (ha : a < 256) (hk : (xL S a)[k]? = some x) : (fl S)[(flr (xL S) 0 a).length + k]? = some (a, x) := by
  have hk2 := gl_lt hk
  rw [fl_r, flr_split _ a ha, List.append_assoc, List.getElem?_append_right (by omega), Nat.add_sub_cancel_left, List.getElem?_append_left (by rw [List.length_map]; exact hk2), List.getElem?_map, hk]
  rfl
theorem fL_s (S : St) (a : Nat) : (flr (xL S) 0 (a + 1)).length = (flr (xL S) 0 a).length + (xL S a).length := by
  rw [fl_smN, fl_smN]; rfl
/-- none is due, or where one lies that is -/
def DP (t : Int32) (dl : Nat → Int32) (S : St) (v : Int32) : Prop := v = -1 ∨ ∃ l x r, l < 256 ∧ xL S l = x :: r ∧ v = nI (flr (xL S) 0 l).length ∧ due t dl l x = true
section
variable {t : Int32} {S : St} {pb pt : List Row4} {M : Mem}
theorem due_k (r : RV M true t S pb pt) {a : Nat} (ha : a < 256) (v1 : Int32) : ∀ (e k n : Nat), k + e = (xL S a).length → f_X10_dueLetter_6 M (n + e) 120 v1 (nI a) (nI ((flr (xL S) 0 a).length + k)) = f_X10_dueLetter_6 M n 120 v1 (nI a) (nI ((flr (xL S) 0 a).length + (xL S a).length)) := by
  intro e
  induction e with
  | zero => intro k n hk; rw [show k = (xL S a).length by omega]; rfl
  | succ e ih =>
    intro k n hk
    have h9 := r.2.2.2.2.1.2.1
    obtain ⟨x, hx⟩ : ∃ x, (xL S a)[k]? = some x := ⟨_, List.getElem?_eq_getElem (show k < (xL S a).length by omega)⟩
    have hq := fl_at ha hx
    have hlt := gl_lt hq
    have g := r.2.2.2.2.1.2.2 _ _ hq
    rw [Nat.zero_add] at g
    rw [show n + (e + 1) = (n + e) + 1 by omega, f_X10_dueLetter_6, rs_f r.1, rs_0 r.1, bnd_e, rs_fa r.1, l850, rs_c r.1 (by decide), cl_n (by decide), r.2.2.2.2.1.1, if_neg (nI_ge (by omega) (by omega)), bnd_e, rs_fa r.1, c851, rs_c r.1 (by omega), f_X10_pairOf, mI_c (by omega), g.1, enc_pair ha, obd_s, if_pos rfl, bnd_e, nI_1, Nat.add_assoc]
    exact ih (k + 1) n (by omega)
theorem due_l (r : RV M true t S pb pt) {dl : Nat → Int32} (hdl : ∀ l, l < 256 → xR S 19 l = dl l) : ∀ (d a n : Nat) (v1 : Int32) (o : Option Nat), a + d = 256 → (∀ l, o = some l → l < a) → DP t dl S v1 → (flr (xL S) a d).length + 1 ≤ n → ∃ v, f_X10_dueLetter_6 M n 120 v1 (lastI o) (nI (flr (xL S) 0 a).length) = some v ∧ DP t dl S v := by
  have h9 := r.2.2.2.2.1.2.1
  intro d
  induction d with
  | zero =>
    intro a n v1 o ha ho hd hn
    obtain ⟨n, rfl⟩ : ∃ m, n = m + 1 := ⟨n - 1, by omega⟩
    have e : (flr (xL S) 0 a).length = (fl S).length := by rw [fl_r, show a = 256 by omega]
    exact ⟨v1, by rw [f_X10_dueLetter_6, rs_f r.1, rs_0 r.1, bnd_e, rs_fa r.1, l850, rs_c r.1 (by decide), cl_n (by decide), r.2.2.2.2.1.1, e, if_pos (Int32.le_refl _)], hd⟩
  | succ d ih =>
    intro a n v1 o ha ho hd hn
    have a256 : a < 256 := by omega
    rw [flr_len_s] at hn
    cases hL : xL S a with
    | nil =>
      have e : (flr (xL S) 0 (a + 1)).length = (flr (xL S) 0 a).length := by rw [fL_s, hL]; rfl
      rw [← e]
      rw [hL] at hn
      exact ih (a + 1) n v1 o (by omega) (fun l q => by have := ho l q; omega) hd (by simp at hn; omega)
    | cons x rr =>
      have len : (xL S a).length = rr.length + 1 := by rw [hL]; rfl
      have hx : (xL S a)[0]? = some x := by rw [hL]; rfl
      have hq := fl_at a256 hx
      rw [Nat.add_zero] at hq
      have hlt := gl_lt hq
      have g := r.2.2.2.2.1.2.2 _ _ hq
      rw [Nat.zero_add] at g
      obtain ⟨g1, g2⟩ := g
      have g2 := g2 rfl
      have ne : ¬ nI a = lastI o := by
        cases o with
        | none => exact fun q => m1_ne' a a256 q.symm
        | some l =>
          intro q
          have h5 := ho l rfl
          have h6 := (nI_eq (a := a) (b := l) (by omega) (by omega)).mp q
          omega
      have h19 : mI M 121 (10209 + a) = dl a := (r.rg (k := 19) (i := a) (by unfold vk; omega)).trans (hdl a a256)
      obtain ⟨m, hm⟩ : ∃ m, n = (m + rr.length) + 1 := ⟨n - 1 - rr.length, by rw [len] at hn; omega⟩
      have go : ∀ v, DP t dl S v → ∃ v', f_X10_dueLetter_6 M (m + rr.length) 120 v (nI a) (nI ((flr (xL S) 0 a).length + 1)) = some v' ∧ DP t dl S v' := by
        intro v hv
        rw [due_k r a256 v rr.length 1 m (by omega), ← fL_s]
        exact ih (a + 1) m v (some a) (by omega) (fun l q => by cases q; omega) hv (by rw [len] at hn; omega)
      have op : ∀ y, (if t < x.2.2 + dl a then f_X10_dueLetter_6 M (m + rr.length) 120 v1 (nI a) (nI ((flr (xL S) 0 a).length + 1)) else if v1 = (-1 : Int32) then f_X10_dueLetter_6 M (m + rr.length) 120 (nI (flr (xL S) 0 a).length) (nI a) (nI ((flr (xL S) 0 a).length + 1)) else chk (inB v1 (mLn M 123)) <| if mI M 123 v1.toNatClampNeg ≤ mI M 123 (nI (flr (xL S) 0 a).length).toNatClampNeg then f_X10_dueLetter_6 M (m + rr.length) 120 v1 (nI a) (nI ((flr (xL S) 0 a).length + 1)) else f_X10_dueLetter_6 M (m + rr.length) 120 (nI (flr (xL S) 0 a).length) (nI a) (nI ((flr (xL S) 0 a).length + 1))) = y → f_X10_dueLetter_6 M n 120 v1 (lastI o) (nI (flr (xL S) 0 a).length) = y := by
        intro y hy
        rw [hm, f_X10_dueLetter_6, rs_f r.1, rs_0 r.1, bnd_e, rs_fa r.1, l850, rs_c r.1 (by decide), cl_n (by decide), r.2.2.2.2.1.1, if_neg (nI_ge hlt (by omega)), bnd_e, rs_fa r.1, c851, rs_c r.1 (by omega), f_X10_pairOf, mI_c (by omega), g1, enc_pair a256, obd_s, if_neg ne, rs_2 r.1, bnd_e, rs_fw r.1, rs_cw r.1 (by omega), bnd_e, rs_fa r.1, show (10209 : Int32) + nI (a, x).1 = nI (10209 + a) by rw [show (10209 : Int32) = nI 10209 from rfl, nI_add], rs_c r.1 (by omega), r.2.1, show mI M 123 (nI (flr (xL S) 0 a).length).toNatClampNeg = x.2.2 by rw [mI_c (by omega)]; exact g2, show mI M 121 (nI (10209 + a)).toNatClampNeg = dl a by rw [mI_c (by omega)]; exact h19]
        by_cases c : t < x.2.2 + dl a
        · rw [if_pos c] at hy ⊢
          rw [bnd_e, nI_1]; exact hy
        · rw [if_neg c] at hy ⊢
          by_cases c1 : v1 = (-1 : Int32)
          · rw [if_pos c1] at hy ⊢
            rw [bnd_e, nI_1]; exact hy
          · rw [if_neg c1] at hy ⊢
            rw [bnd_e, rs_fw r.1, rs_cw r.1 (by omega), bnd_e, rs_fw r.1, bnd_e, nI_1, bnd_e]
            exact hy
      have dp : ¬ t < x.2.2 + dl a → DP t dl S (nI (flr (xL S) 0 a).length) := fun c => Or.inr ⟨a, x, rr, a256, hL, rfl, by unfold due; rw [decide_eq_false c]; rfl⟩
      by_cases c : t < x.2.2 + dl a
      · obtain ⟨v', e', d'⟩ := go v1 hd
        exact ⟨v', op _ (by rw [if_pos c]; exact e'), d'⟩
      · obtain ⟨v', e', d'⟩ := go _ (dp c)
        by_cases c1 : v1 = (-1 : Int32)
        · exact ⟨v', op _ (by rw [if_neg c, if_pos c1]; exact e'), d'⟩
        · obtain ⟨l, y, rl, hl, ey, ev, _⟩ := hd.resolve_left c1
          have hql := fl_at hl (show (xL S l)[0]? = some y by rw [ey]; rfl)
          rw [Nat.add_zero] at hql
          have hlt2 := gl_lt hql
          have ci : chk (inB v1 (mLn M 123)) = fun x : Option Int32 => x := by
            funext x
            rw [ev]; exact rs_cw r.1 (by omega) x
          by_cases c2 : mI M 123 v1.toNatClampNeg ≤ mI M 123 (nI (flr (xL S) 0 a).length).toNatClampNeg
          · obtain ⟨v2, e2, d2⟩ := go v1 hd
            exact ⟨v2, op _ (by rw [if_neg c, if_neg c1, ci, if_pos c2]; exact e2), d2⟩
          · exact ⟨v', op _ (by rw [if_neg c, if_neg c1, ci, if_neg c2]; exact e'), d'⟩
theorem RV.due (r : RV M true t S pb pt) {dl : Nat → Int32} (hdl : ∀ l, l < 256 → xR S 19 l = dl l) {n : Nat} (hn : 9100 ≤ n) : ∃ v, f_X10_dueLetter n 120 M = some v ∧ DP t dl S v := by
  have h9 := r.2.2.2.2.1.2.1
  rw [fl_r] at h9
  obtain ⟨v, e, d⟩ := due_l r hdl 256 0 n (-1) none rfl (fun l q => by cases q) (Or.inl rfl) (by omega)
  exact ⟨v, e, d⟩
end
/-! ===== the reference's clock: a time, and all times ===== -/
def FrY (M M' : Mem) : Prop := M'.1 = M.1 ∧ (∀ o, (o < 120 ∨ 130 < o) ∨ o = 126 → ∀ b, mI M' o b = mI M o b) ∧ ∀ b, b < 22 → b ≠ 3 → mI M' 120 b = mI M 120 b
theorem FrY.rf (M : Mem) : FrY M M := ⟨rfl, fun _ _ _ => rfl, fun _ _ _ => rfl⟩
theorem FrY.tr {M M' M'' : Mem} (h : FrY M M') (h' : FrY M' M'') : FrY M M'' := ⟨h'.1.trans h.1, fun o n b => (h'.2.1 o n b).trans (h.2.1 o n b), fun b n n' => (h'.2.2 b n n').trans (h.2.2 b n n')⟩
theorem FrY.pa {M M' : Mem} (f : Fr PA M M') : FrY M M' := ⟨f.1, fun o n b => f.2.1 o (by unfold PA; omega) b, fun b _ _ => f.2.1 120 (by unfold PA; omega) b⟩
theorem FrY.s120 {M : Mem} {k : Nat} {x : Int32} (h : k = 3 ∨ 22 ≤ k) : FrY M (sI M 120 k x) := ⟨rfl, fun o n b => mI_o _ _ _ _ _ (by omega), fun b n n' => mI_n _ _ _ _ (by omega)⟩
theorem FrY.s130 {M : Mem} {k : Nat} {x : Int32} : FrY M (sI M 130 k x) := ⟨rfl, fun o n b => mI_o _ _ _ _ _ (by omega), fun b n n' => mI_o _ _ _ _ _ (by decide)⟩
section
variable {N A : Nat} {P : Nat → Nat} {S0 : St} {pb pt : List Row4} {dl : Nat → Int32}
theorem rt53 (h2 : 2 ≤ N) (h16 : N ≤ 16) (hA : A < 1048576) (hP : smN P 16 + N ≤ 9000) (hN : xR S0 20 0 = nI N) (hdl : ∀ l, l < 256 → xR S0 19 l = dl l) {t v2 : Int32} (hd : ∀ l, l < 256 → t < t + dl l) : ∀ (c n : Nat) (M : Mem) (S : St) (v3 : Int32), cnt t dl S ≤ c → RV M true t S pb pt → GI N A P S0 S → DP t dl S v3 → c + 9300 ≤ n → ∃ M' S', f_X10_goTime_53 n 120 v2 v3 M = some M' ∧ RV M' true t S' pb pt ∧ GI N A P S0 S' ∧ FrY M M' := by
  intro c
  have stop : ∀ (n : Nat) (M : Mem) (S : St), RV M true t S pb pt → GI N A P S0 S → 100 ≤ n → ∃ M' S', f_X10_goTime_53 n 120 v2 (-1) M = some M' ∧ RV M' true t S' pb pt ∧ GI N A P S0 S' ∧ FrY M M' := by
    intro n M S r hI hn
    obtain ⟨n, rfl⟩ : ∃ m, n = m + 1 := ⟨n - 1, by omega⟩
    have hN' : xR S 20 0 = nI N := by rw [hI.2.2.2.2 20 0 (by omega)]; exact hN
    obtain ⟨y, ey, _⟩ := r.insd hN' h16 (n := n) (by omega)
    rw [f_X10_goTime_53, if_pos rfl, rs_f r.1, ey, obd_s]
    by_cases z : y = 0
    · rw [if_pos z, bnd_e]
      exact ⟨_, S, rfl, r.s120 (by decide) _, hI, FrY.s120 (by omega)⟩
    · rw [if_neg z, bnd_e]
      exact ⟨_, S, rfl, r.s120 (by decide) _, hI, FrY.s120 (by omega)⟩
  induction c with
  | zero =>
    intro n M S v3 hc r hI hv hn
    rcases hv with hv | ⟨l, x, rr, hl, hx, ev, hu⟩
    · rw [hv]; exact stop n M S r hI (by omega)
    · exfalso
      have := cnt_br (N := N) (f := l / 16) (g := l % 16) (S := S) (t := t) (dl := dl) (by omega) (by rw [show 16 * (l / 16) + l % 16 = l by omega]; exact hx) hd (by rw [show 16 * (l / 16) + l % 16 = l by omega]; exact hu)
      omega
  | succ c ih =>
    intro n M S v3 hc r hI hv hn
    rcases hv with hv | ⟨l, x, rr, hl, hx, ev, hu⟩
    · rw [hv]; exact stop n M S r hI (by omega)
    · obtain ⟨n, rfl⟩ : ∃ m, n = m + 1 := ⟨n - 1, by omega⟩
      have el : 16 * (l / 16) + l % 16 = l := by omega
      have hcb := cnt_br (N := N) (f := l / 16) (g := l % 16) (S := S) (t := t) (dl := dl) (by omega) (by rw [el]; exact hx) hd (by rw [el]; exact hu)
      have hN' : xR S 20 0 = nI N := by rw [hI.2.2.2.2 20 0 (by omega)]; exact hN
      have hfl := hI.tfl
      have h9 := r.2.2.2.2.1.2.1
      have hq := fl_at hl (show (xL S l)[0]? = some x by rw [hx]; rfl)
      rw [Nat.add_zero] at hq
      have hlt := gl_lt hq
      have g := r.2.2.2.2.1.2.2 _ _ hq
      rw [Nat.zero_add] at g
      have hfg : l / 16 < N ∧ l % 16 < N := by
        apply Classical.byContradiction
        intro q
        have := (hI.1.2.2.2.2.1 l hl).2 q
        rw [hx] at this; cases this
      obtain ⟨M1, e1, r1, f1⟩ := r.tbr hN' h2 h16 (f := l / 16) (g := l % 16) (by omega) (by omega) (by rw [el]; exact hx) (Lok_of hI.1 hA hl (by rw [hx]; simp)) (Hok_of hI.1 h16 (by omega) _) (by omega) (n := n) (by omega)
      rw [el] at e1
      have hI1 := hI.tb h16 hA hfg.1 hfg.2 t
      have y1 := FrY.pa f1
      have gt : ∀ M2, RV M2 true t (br t N (l / 16) (l % 16) S) pb pt → FrY M M2 → ∃ M' S', f_X10_goTime_150 (f_X10_goTime_53 n) n 120 v2 M2 = some M' ∧ RV M' true t S' pb pt ∧ GI N A P S0 S' ∧ FrY M M' := by
        intro M2 r2 y2
        have hdl2 : ∀ l', l' < 256 → xR (br t N (l / 16) (l % 16) S) 19 l' = dl l' := fun l' hl' => by rw [hI1.2.2.2.2 19 l' (by omega)]; exact hdl l' hl'
        obtain ⟨v, e2, d2⟩ := r2.due hdl2 (n := n) (by omega)
        obtain ⟨M', S', e', r', hI', y'⟩ := ih n M2 _ v (by omega) r2 hI1 d2 (by omega)
        exact ⟨M', S', by rw [f_X10_goTime_150, rs_f r2.1, e2, obd_s]; exact e', r', hI', y2.tr y'⟩
      have op : ∀ y, (if mI M1 121 9851 = mI M 121 9851 then f_X10_goTime_150 (f_X10_goTime_53 n) n 120 v2 M1 else (if nI (l % 16) = v2 then (if mI (sI (sI M1 130 (l % 16) t) 120 22 t) 120 23 = (-1 : Int32) then f_X10_goTime_150 (f_X10_goTime_53 n) n 120 v2 (sI (sI (sI M1 130 (l % 16) t) 120 22 t) 120 23 t) else f_X10_goTime_150 (f_X10_goTime_53 n) n 120 v2 (sI (sI M1 130 (l % 16) t) 120 22 t)) else f_X10_goTime_150 (f_X10_goTime_53 n) n 120 v2 (sI (sI M1 130 (l % 16) t) 120 22 t))) = y → f_X10_goTime_53 (n + 1) 120 v2 v3 M = y := by
        intro y hy
        have n1 : ¬ nI (flr (xL S) 0 l).length = (-1 : Int32) := fun q => by
          have h1 := nI_pos (n := (flr (xL S) 0 l).length) (by omega)
          rw [q] at h1
          exact h1 (by decide)
        have t1 : mI M1 120 3 = t := r1.2.1
        have t2 : mI (sI M1 130 (l % 16) t) 120 3 = t := by rw [mI_o _ _ _ _ _ (by decide)]; exact t1
        have t3 : mI (sI (sI M1 130 (l % 16) t) 120 22 t) 120 3 = t := by rw [mI_n _ _ _ _ (by decide)]; exact t2
        rw [ev, f_X10_goTime_53, if_neg n1, rs_f r.1, rs_0 r.1, bnd_e, rs_fa r.1, c851, rs_c r.1 (by omega), f_X10_pairOf, mI_c (by omega), g.1, enc_pair hl, obd_s, chk_t (by decide), show nI (l, x).1 - nI (l, x).1 / (16 : Int32) * (16 : Int32) = nI (l % 16) from (f_pairs l hl).2, bnd_e, bnd_e, rs_fa r.1, show (9851 : Int32) = nI 9851 from rfl, rs_c r.1 (by decide), mI_c (k := 9851) (by decide), bnd_e, e1, obd2_s, rs_f r1.1, rs_0 r1.1, bnd_e, rs_fa r1.1, rs_c r1.1 (by decide), mI_c (k := 9851) (by decide)]
        by_cases c1 : mI M1 121 9851 = mI M 121 9851
        · rw [if_pos c1] at hy ⊢; exact hy
        · rw [if_neg c1] at hy ⊢
          rw [rs_19 r1.1, bnd_e, rs_f19 r1.1, rs_c19 r1.1 (by omega), bnd_e, nI_clamp (by omega), t1, bnd_e, t2]
          by_cases c2 : nI (l % 16) = v2
          · rw [if_pos c2] at hy ⊢
            by_cases c3 : mI (sI (sI M1 130 (l % 16) t) 120 22 t) 120 23 = (-1 : Int32)
            · rw [if_pos c3] at hy ⊢
              rw [t3, bnd_e]; exact hy
            · rw [if_neg c3] at hy ⊢; exact hy
          · rw [if_neg c2] at hy ⊢; exact hy
      have r3 : RV (sI (sI M1 130 (l % 16) t) 120 22 t) true t (br t N (l / 16) (l % 16) S) pb pt := (r1.s130 _ _).s120 (by decide) _
      have y3 : FrY M (sI (sI M1 130 (l % 16) t) 120 22 t) := y1.tr (FrY.tr FrY.s130 (FrY.s120 (by omega)))
      by_cases c1 : mI M1 121 9851 = mI M 121 9851
      · obtain ⟨M', S', e', R⟩ := gt M1 r1 y1
        exact ⟨M', S', op _ (by rw [if_pos c1]; exact e'), R⟩
      · by_cases c2 : nI (l % 16) = v2
        · by_cases c3 : mI (sI (sI M1 130 (l % 16) t) 120 22 t) 120 23 = (-1 : Int32)
          · obtain ⟨M', S', e', R⟩ := gt (sI (sI (sI M1 130 (l % 16) t) 120 22 t) 120 23 t) (r3.s120 (by decide) _) (y3.tr (FrY.s120 (by omega)))
            exact ⟨M', S', op _ (by rw [if_neg c1, if_pos c2, if_pos c3]; exact e'), R⟩
          · obtain ⟨M', S', e', R⟩ := gt _ r3 y3
            exact ⟨M', S', op _ (by rw [if_neg c1, if_pos c2, if_neg c3]; exact e'), R⟩
        · obtain ⟨M', S', e', R⟩ := gt _ r3 y3
          exact ⟨M', S', op _ (by rw [if_neg c1, if_neg c2]; exact e'), R⟩
theorem rt2 (h2 : 2 ≤ N) (h16 : N ≤ 16) (hA : A < 1048576) (hP : smN P 16 + N ≤ 9000) (hN : xR S0 20 0 = nI N) (hdl : ∀ l, l < 256 → xR S0 19 l = dl l) {t v1 v2 : Int32} (hd : ∀ l, l < 256 → t < t + dl l) : ∀ (d i n : Nat) (M : Mem) (S : St), i + d = N → RV M true t S pb pt → GI N A P S0 S → d + 18500 ≤ n → ∃ M' S', f_X10_goTime_2 n 120 v1 v2 (nI i) M = some M' ∧ RV M' true t S' pb pt ∧ GI N A P S0 S' ∧ FrY M M' := by
  intro d
  induction d with
  | zero =>
    intro i n M S hi r hI hn
    obtain ⟨n, rfl⟩ : ∃ m, n = m + 1 := ⟨n - 1, by omega⟩
    have hN' : xR S 20 0 = nI N := by rw [hI.2.2.2.2 20 0 (by omega)]; exact hN
    have hfl := hI.tfl
    have hc := cnt_le t dl S
    obtain ⟨v, e2, d2⟩ := r.due (dl := dl) (fun l hl => by rw [hI.2.2.2.2 19 l (by omega)]; exact hdl l hl) (n := n) (by omega)
    obtain ⟨M', S', e', R⟩ := rt53 h2 h16 hA hP hN hdl (v2 := v2) hd (cnt t dl S) n M S v (Nat.le_refl _) r hI d2 (by omega)
    exact ⟨M', S', by rw [f_X10_goTime_2, rs_f r.1, rs_0 r.1, bnd_e, rs_fa r.1, rs_c0 r.1, cl0, r.N hN', if_pos (nI_le (by omega) (by omega)), e2, obd_s]; exact e', R⟩
  | succ d ih =>
    intro i n M S hi r hI hn
    obtain ⟨n, rfl⟩ : ∃ m, n = m + 1 := ⟨n - 1, by omega⟩
    have hN' : xR S 20 0 = nI N := by rw [hI.2.2.2.2 20 0 (by omega)]; exact hN
    have hfl := hI.tfl
    have i6 : i < 16 := by omega
    rw [f_X10_goTime_2, rs_f r.1, rs_0 r.1, bnd_e, rs_fa r.1, rs_c0 r.1, cl0, r.N hN', if_neg (nI_ge (by omega) (by omega)), r.get0 i6, obd_s]
    by_cases c : xR S 0 i = 2
    · rw [if_pos c, rs_19 r.1, bnd_e, rs_f19 r.1, rs_c19 r.1 i6]
      by_cases z : mI M 120 3 - mI M 130 (nI i).toNatClampNeg < v1
      · rw [if_pos z, bnd_e, nI_1]
        exact ih (i + 1) n M S (by omega) r hI (by omega)
      · obtain ⟨M1, e1, r1, f1⟩ := r.tlv hN' h16 i6 (by omega) (n := n) (by omega)
        obtain ⟨M', S', e', r', hI', y'⟩ := ih (i + 1) n M1 _ (by omega) r1 (hI.tl h16 (by omega) c t) (by omega)
        exact ⟨M', S', by rw [if_neg z, e1, obd_s, bnd_e, nI_1]; exact e', r', hI', (FrY.pa f1).tr y'⟩
    · rw [if_neg c, bnd_e, nI_1]
      exact ih (i + 1) n M S (by omega) r hI (by omega)
def FrV (M M' : Mem) : Prop := M'.1 = M.1 ∧ (∀ o, (o < 120 ∨ 130 < o) ∨ o = 126 → ∀ b, mI M' o b = mI M o b) ∧ ∀ b, b < 20 → b ≠ 3 → mI M' 120 b = mI M 120 b
theorem FrV.rf (M : Mem) : FrV M M := ⟨rfl, fun _ _ _ => rfl, fun _ _ _ => rfl⟩
theorem FrV.tr {M M' M'' : Mem} (h : FrV M M') (h' : FrV M' M'') : FrV M M'' := ⟨h'.1.trans h.1, fun o n b => (h'.2.1 o n b).trans (h.2.1 o n b), fun b n n' => (h'.2.2 b n n').trans (h.2.2 b n n')⟩
theorem FrY.v {M M' : Mem} (h : FrY M M') : FrV M M' := ⟨h.1, h.2.1, fun b n n' => h.2.2 b (by omega) n'⟩
theorem FrV.s120 {M : Mem} {k : Nat} {x : Int32} (h : k = 3 ∨ 20 ≤ k) : FrV M (sI M 120 k x) := ⟨rfl, fun o n b => mI_o _ _ _ _ _ (by omega), fun b n n' => mI_n _ _ _ _ (by omega)⟩
theorem rc104 (h2 : 2 ≤ N) (h16 : N ≤ 16) (hA : A < 1048576) (hP : smN P 16 + N ≤ 9000) (hN : xR S0 20 0 = nI N) (hdl : ∀ l, l < 256 → xR S0 19 l = dl l) (hD : ∀ l, l < 256 → ∃ k, 1 ≤ k ∧ k ≤ 9 ∧ dl l = nI k) {v1 v2 v3 : Int32} : ∀ (d τ E n : Nat) (M : Mem) (S : St), τ + d = 300 → E ≤ 300 → mI M 120 20 = nI E → RV M true (nI τ) S pb pt → GI N A P S0 S → d + 19000 ≤ n → ∃ M', f_X10_goClock_104 n 120 v1 v2 v3 M = some M' ∧ RS M' ∧ mI M' 120 3 = 0 ∧ FrV M M' := by
  intro d
  have stop : ∀ (τ E n : Nat) (M : Mem) (S : St), E ≤ τ → τ ≤ 300 → mI M 120 20 = nI E → RV M true (nI τ) S pb pt → 1 ≤ n → ∃ M', f_X10_goClock_104 n 120 v1 v2 v3 M = some M' ∧ RS M' ∧ mI M' 120 3 = 0 ∧ FrV M M' := by
    intro τ E n M S hE hτ h20 r hn
    obtain ⟨n, rfl⟩ : ∃ m, n = m + 1 := ⟨n - 1, by omega⟩
    have r1 := r.st3 0
    refine ⟨sI (sI M 120 3 0) 120 21 (mI (sI M 120 3 0) 121 (nI 9851).toNatClampNeg - v3), by rw [f_X10_goClock_104, rs_f r.1, h20, r.2.1, if_pos (nI_le hE (by omega)), bnd_e, rs_0 r1.1, bnd_e, rs_fa r1.1, show (9851 : Int32) = nI 9851 from rfl, rs_c r1.1 (by decide), bnd_e], r1.1.e rfl, ?_, FrV.tr (FrV.s120 (by omega)) (FrV.s120 (by omega))⟩
    rw [mI_n _ _ _ _ (by decide), mI_s]
  induction d with
  | zero =>
    intro τ E n M S hτ hE h20 r hI hn
    exact stop τ E n M S (by omega) (by omega) h20 r (by omega)
  | succ d ih =>
    intro τ E n M S hτ hE h20 r hI hn
    by_cases hE2 : E ≤ τ
    · exact stop τ E n M S hE2 (by omega) h20 r (by omega)
    · obtain ⟨n, rfl⟩ : ∃ m, n = m + 1 := ⟨n - 1, by omega⟩
      have hd : ∀ l, l < 256 → nI τ < nI τ + dl l := fun l hl => by
        obtain ⟨k, k1, k9, ek⟩ := hD l hl
        rw [ek, nI_add]
        exact nI_lt (by omega) (by omega)
      obtain ⟨M1, S1, e1, r1, hI1, y1⟩ := rt2 h2 h16 hA hP hN hdl (v1 := v1) (v2 := v2) hd N 0 n M S (by omega) r hI (by omega)
      have e20 : mI M1 120 20 = nI E := (y1.2.2 20 (by decide) (by decide)).trans h20
      have t1 : mI M1 120 3 = nI τ := r1.2.1
      have hN' : xR S1 20 0 = nI N := by rw [hI1.2.2.2.2 20 0 (by omega)]; exact hN
      obtain ⟨y, ey, _⟩ := r1.insd hN' h16 (n := n) (by omega)
      have nx : ∃ M', f_X10_goClock_104 n 120 v1 v2 v3 (sI M1 120 3 (nI (τ + 1))) = some M' ∧ RS M' ∧ mI M' 120 3 = 0 ∧ FrV M M' := by
        obtain ⟨M', e', a, b, f'⟩ := ih (τ + 1) E n (sI M1 120 3 (nI (τ + 1))) S1 (by omega) hE (by rw [mI_n _ _ _ _ (by decide)]; exact e20) (r1.st3 _) hI1 (by omega)
        exact ⟨M', e', a, b, y1.v.tr (FrV.tr (FrV.s120 (by omega)) f')⟩
      have nq : ∃ M', f_X10_goClock_104 n 120 v1 v2 v3 (sI (sI M1 120 20 (nI τ)) 120 3 (nI (τ + 1))) = some M' ∧ RS M' ∧ mI M' 120 3 = 0 ∧ FrV M M' := by
        obtain ⟨M', e', a, b, f'⟩ := ih (τ + 1) τ n (sI (sI M1 120 20 (nI τ)) 120 3 (nI (τ + 1))) S1 (by omega) (by omega) (by rw [mI_n _ _ _ _ (by decide), mI_s]) ((r1.s120 (by decide) _).st3 _) hI1 (by omega)
        exact ⟨M', e', a, b, y1.v.tr (FrV.tr (FrV.s120 (by omega)) (FrV.tr (FrV.s120 (by omega)) f'))⟩
      have t20 : mI (sI M1 120 20 (nI τ)) 120 3 = nI τ := by rw [mI_n _ _ _ _ (by decide)]; exact t1
      rw [f_X10_goClock_104, rs_f r.1, h20, r.2.1, if_neg (nI_ge (by omega) (by omega)), f_X10_goTime, show f_X10_goTime_2 n 120 v1 v2 0 M = some M1 from e1, obd_s, rs_f r1.1, rs_0 r1.1, bnd_e, rs_fa r1.1, l850, rs_c r1.1 (by decide), t1, nI_1]
      by_cases c : mI M1 121 (nI 850).toNatClampNeg = 0
      · rw [if_pos c, ey, obd_s]
        by_cases c2 : y = 0
        · rw [if_pos c2, bnd_e, t20, nI_1, bnd_e]; exact nq
        · rw [if_neg c2, bnd_e]; exact nx
      · rw [if_neg c, bnd_e]; exact nx
theorem rclock (h2 : 2 ≤ N) (h16 : N ≤ 16) (hA : A < 1048576) (hP : smN P 16 + N ≤ 9000) {S : St} {t : Int32} (hI : GI N A P S S) (hN : xR S 20 0 = nI N) (hD : ∀ l, l < 256 → ∃ k, 1 ≤ k ∧ k ≤ 9 ∧ xR S 19 l = nI k) {v : Nat} (hv : v < N) (v1 : Int32) {n : Nat} {M : Mem} (r : RV M false t S pb pt) (hn : 40000 ≤ n) : ∃ M', f_X10_goClock n 120 v1 (nI v) M = some M' ∧ RS M' ∧ mI M' 120 3 = 0 ∧ FrV M M' := by
  have h9 := r.2.2.2.2.1.2.1
  obtain ⟨M1, n1, e1, hn1, r1, z1, f1⟩ := gz_l (a := v1) (b := nI v) (x := mI M 121 (nI 9851).toNatClampNeg) (fl S).length 0 n M (by omega) r (fun j hj => by omega) (by omega)
  have r1t := zs_of r1 z1
  have v1f : FrV M M1 := ⟨f1.1, fun o n b => f1.2.1 o (by unfold P123; omega) b, fun b _ _ => f1.2.1 120 (by unfold P123; omega) b⟩
  obtain ⟨M2, n2, e2, hn2, f2⟩ := z16_l v1 (nI v) (mI M 121 (nI 9851).toNatClampNeg) 16 0 n1 M1 rfl r1t (by omega)
  have r2 := r1t.ft f2
  have v2f : FrV M1 M2 := ⟨f2.1, fun o n b => f2.2.1 o (by omega) (by omega) b, fun b h _ => f2.2.2 b h⟩
  have r3 := r2.s120 (k := 22) (by decide) (-1)
  have hI' := hI.tz h16
  have fin : ∀ y : Int32, ∃ M', f_X10_goClock_104 n2 120 v1 (nI v) (mI M 121 (nI 9851).toNatClampNeg) (sI (sI (sI (sI (sI M2 120 22 (-1)) 120 23 y) 120 24 0) 120 20 300) 120 3 0) = some M' ∧ RS M' ∧ mI M' 120 3 = 0 ∧ FrV M M' := by
    intro y
    have r4 := (((r3.s120 (k := 23) (by decide) y).s120 (k := 24) (by decide) 0).s120 (k := 20) (by decide) 300).st3 0
    obtain ⟨M', e', a, b, f'⟩ := rc104 h2 h16 hA hP (S0 := S) (dl := fun l => xR S 19 l) hN (fun _ _ => rfl) hD (v1 := v1) (v2 := nI v) (v3 := mI M 121 (nI 9851).toNatClampNeg) 300 0 300 n2 _ (fS 0 S S) rfl (by decide) (by rw [mI_n _ _ _ _ (by decide), mI_s]; rfl) r4 hI' (by omega)
    exact ⟨M', e', a, b, v1f.tr (v2f.tr (FrV.tr (FrV.s120 (by omega)) (FrV.tr (FrV.s120 (by omega)) (FrV.tr (FrV.s120 (by omega)) (FrV.tr (FrV.s120 (by omega)) (FrV.tr (FrV.s120 (by omega)) f'))))))⟩
  have g0 : f_X10_get 120 (nI v) (0 : Int32) (sI M2 120 22 (-1)) = some (xR (fS 0 S S) 0 v) := r3.get0 (by omega)
  rw [f_X10_goClock, rs_f r.1, rs_0 r.1, bnd_e, rs_fa r.1, show (9851 : Int32) = nI 9851 from rfl, rs_c r.1 (by decide), bnd_e]
  rw [show f_X10_goClock_12 n 120 v1 (nI v) (mI M 121 (nI 9851).toNatClampNeg) 0 M = f_X10_goClock_42 n1 120 v1 (nI v) (mI M 121 (nI 9851).toNatClampNeg) 0 M1 from e1, show f_X10_goClock_42 n1 120 v1 (nI v) (mI M 121 (nI 9851).toNatClampNeg) 0 M1 = f_X10_goClock_42 (n2 + 1) 120 v1 (nI v) (mI M 121 (nI 9851).toNatClampNeg) (nI 16) M2 from e2, f_X10_goClock_42, if_pos (show (16 : Int32) ≤ nI 16 from Int32.le_refl _), rs_f r2.1, bnd_e, g0, obd_s]
  by_cases c : xR (fS 0 S S) 0 v = 2
  · rw [if_pos c, bnd_e, bnd_e, bnd_e, bnd_e]; exact fin 0
  · rw [if_neg c, bnd_e, bnd_e, bnd_e, bnd_e]; exact fin (-1)
end
/-! ===== timed, from any state between the calls ===== -/
theorem WJ.tre {M M2 : Mem} {N A i X0 Y0 : Nat} {Q : Nat → Int32} {S : St} {pb pt : List Row4} (w : WJ M N A i Q S) (tr : TR M 63 X0 Y0 pb pt) (f : FrE M M2) : RV M2 false 0 S [] [] ∧ mI M2 120 7 = 0 := by
  obtain ⟨X, Y, L, p, _⟩ := id w.1
  have hN := p.1.2.2.2.2.2.2
  have fo : ∀ o, 120 ≤ o → o < 131 → M2.1.2.1 o = M.1.2.1 o ∧ (∀ b, mR M2 o b = mR M o b) ∧ ∀ b, mI M2 o b = mI M o b := by
    have r57 : ∀ i, 5 ≤ i → i ≤ 7 → mR M 64 i = 63 + 2 + i ∨ 131 ≤ mR M 64 i := by
      obtain ⟨_, ⟨e5, e6, e7, len, ds, _⟩, _⟩ := tr
      obtain ⟨⟨y5, y6, y7⟩, _, _, x5, x6, x7, _⟩ := ds
      have y5' : mR M 64 5 = e5 := y5
      have y6' : mR M 64 6 = e6 := y6
      have y7' : mR M 64 7 = e7 := y7
      intro i a b
      rcases (show i = 5 ∨ i = 6 ∨ i = 7 by omega) with rfl | rfl | rfl
      · rw [y5']; exact x5
      · rw [y6']; exact x6
      · rw [y7']; exact x7
    have r5 := r57 5 (by decide) (by decide)
    have r6 := r57 6 (by decide) (by decide)
    have r7 := r57 7 (by decide) (by decide)
    intro o a b
    exact ⟨f.2.1 o (by omega), fun c => f.2.2.1 o c (by omega) (by omega), f.2.2.2.1 o (by omega) (by omega) (by omega) (by omega) (by omega)⟩
  exact ⟨w.2.1.mr f.1 fo, by rw [(fo 120 (by decide) (by decide)).2.2]; exact w.2.2.1⟩
theorem FrE.s1 {M M' : Mem} (f : FrE M M') : Shp1 M M' := ⟨f.1, f.2.1, fun a b ha n => f.2.2.1 a b ha (by omega)⟩
theorem fi_ex {M : Mem} {N X Y X' Y' v : Nat} {t : Int32} {Q Q' : Nat → Int32} {S S' : St} {pb pt : List Row4} (xg : XG M) (p14 : HV M 14 X Y 0 N Q S [] []) (p : HV M 63 X' Y' t N Q' S' pb pt) (hv : v < 16) : ∃ y, f_X9_firstInside 0 (nI v) M = some y := by
  have q := p.1
  have q0 := p14.1
  rw [f_X9_firstInside, chk_t xg.1, xg.2.2.2.1, bnd_e, cs_f q0, p14.h7 hv, obd_s]
  by_cases c : xR S 0 v = 2
  · rw [if_pos c, if_neg ne10]; exact ⟨_, rfl⟩
  · rw [if_neg c, if_pos rfl, xg.2.2.2.2.1, bnd_e, cs_f q, cs_h2 q, bnd_e, cs_a10 q, cs_i10 q hv, cs_rpc q hv, bnd_e, cs_po q hv, bnd_e, cs_f q0, cs_h2 q0, bnd_e, cs_a10 q0, cs_i10 q0 hv, cs_rpc q0 hv, bnd_e, cs_po q0 hv]
    by_cases d : mI M (63 + 17 + 2 * v) 11 ≤ mI M (14 + 17 + 2 * v) 11
    · rw [if_pos d, f_X9_firstInside_48, if_pos rfl]; exact ⟨_, rfl⟩
    · rw [if_neg d, f_X9_firstInside_48, if_neg ne10, chk_t xg.1, xg.2.2.2.2.1, bnd_e, cs_f q, cs_h2 q, bnd_e, cs_a10 q, cs_i10 q hv, cs_rpc q hv, bnd_e, cs_po q hv]
      exact ⟨_, rfl⟩
theorem op44 {M : Mem} {i n : Nat} (h : WI i M) (hi : i ≤ 511) (a b c : Int32) (hn : 100000 ≤ n) : Oks i (f_X9_timed n 0 a b c M) (fun M1 => f_X10_timed n 120 a b c M1) := by
  obtain ⟨N, A, Q, S, w⟩ := h
  obtain ⟨X, Y, L, p, sb, xg, xc, xr⟩ := id w.1
  obtain ⟨_, r, z7, sw, hQ⟩ := id w
  have h16 := sw.n16
  have h2 := sw.n2
  have hA := sw.a
  have ps := sw.ps hi
  rcases rng3 (L := 1) (N := 20) (by decide) (by decide) a with ha | ⟨m, h1, h20, rfl⟩
  · refine (Okk.same w (r := -1) ?_ ?_).ks
    · rw [f_X9_timed]
      by_cases q : a < 1
      · rw [if_pos q]
      · rw [if_neg q, if_pos (show (20 : Int32) < a from gt3 (N := 20) (by decide) (ha.resolve_left q))]
    · show f_X10_timed n 120 a b c M = _
      rw [f_X10_timed, show (20 : Int32) = nI 20 from rfl, show (1 : Int32) = nI 1 from rfl]
      rw [is_out3 (by decide) ha, obd_s, if_pos rfl]
  · have m1 : ¬ nI m < (1 : Int32) := nI_nl (a := m) (b := 1) h1 (by omega)
    have m2 : ¬ (20 : Int32) < nI m := nI_nl (a := 20) (b := m) h20 (by decide)
    have im : ∀ M, f_X10_isIn (nI m) (1 : Int32) (20 : Int32) M = some 1 := fun M => is_in3 (L := 1) (N := 20) (by decide) h1 h20
    rcases out_in (N := N) (by omega) b with hb | ⟨v, hv, rfl⟩
    · refine (Okk.same w (r := -1) ?_ ?_).ks
      · rw [f_X9_timed, if_neg m1, if_neg m2, chk_t xg.1, xg.2.1, bnd_e, sb.f, ndc0 sb hb, obd_s, if_pos rfl]
      · show f_X10_timed n 120 (nI m) b c M = _
        rw [f_X10_timed, im, obd_s, if_neg ne10, rs_f r.1, ndr0 r sw.n (by omega) h16 hb, obd_s, if_pos rfl]
    · rcases out_in (N := 5) (by decide) c with hc | ⟨u, hu, rfl⟩
      · refine (Okk.same w (r := -1) ?_ ?_).ks
        · rw [f_X9_timed, if_neg m1, if_neg m2, chk_t xg.1, xg.2.1, bnd_e, sb.f, ndc sb hv h16, obd_s, if_neg ne10]
          by_cases q : c < 0
          · rw [if_pos q]
          · rw [if_neg q, if_neg (show ¬ c ≤ (4 : Int32) from Int32.not_le.mpr (gt3 (N := 4) (by decide) (hc.resolve_left q)))]
        · show f_X10_timed n 120 (nI m) (nI v) c M = _
          have : f_X10_isIn c (0 : Int32) (4 : Int32) M = some 0 := by
            rw [f_X10_isIn]
            by_cases q : c < 0
            · rw [if_pos q]
            · rw [if_neg q, if_pos (show (4 : Int32) < c from gt3 (N := 4) (by decide) (hc.resolve_left q))]
          rw [f_X10_timed, im, obd_s, if_neg ne10, rs_f r.1, ndr r sw.n hv h16, obd_s, if_neg ne10, this, obd_s, if_pos rfl]
      · have hP : smN (fun a => Ph a S) 16 + N ≤ 9000 := by
          show PhS S + N ≤ 9000
          omega
        obtain ⟨X0, Y0, pb, pt, tr, dj, fin⟩ := w.1.tri
        obtain ⟨M1, e1, p1, f1⟩ := p.copy tr (by omega) h16 dj (fun v hv => (sw.inv.1 v hv).2.2.2) (fun v hv w hw => by have := ((sw.inv.2.2.2.2.2.1 v hv).1.2.2 w hw).1; omega) (n := n) (by omega)
        have xk : XK M := ⟨xc.1, xc.2.1, xc.2.2.1, xc.2.2.2.1⟩
        have xk1 := xk.fe f1.E
        have xg1 := xg.s f1.E.s1
        obtain ⟨M2, S2, t2, e2, p2, f2⟩ := cbrun (v2 := nI m) h2 h16 (show A < 1048576 by omega) hP p1 w.gc xk1 (n := n) (by omega)
        have fE := f1.E.tr f2
        have cw := fE.cw p2 fin
        have xk2 := xk.fe fE
        have xg2 := xg.s fE.s1
        obtain ⟨r2, z2⟩ := w.tre tr fE
        have cls : ∃ x M', f_X9_timed n 0 (nI m) (nI v) (nI u) M = some (x, M') ∧ M' = M2 := by
          obtain ⟨_, _, _, p14, _⟩ := id cw
          obtain ⟨y, ey⟩ := fi_ex (v := v) xg2 p14 p2 (by omega)
          have c9 : ∀ x : Option (Int32 × Mem), chk (isO M2 9 0) x = x := fun x => chk_t xg2.1
          have c0 : ∀ x : Option (Int32 × Mem), chk (isO M2 0 112) x = x := fun x => chk_t xk2.1
          have c63 : ∀ x : Option (Int32 × Mem), chk (isO M2 2 63) x = x := fun x => cs_f p2.1 x
          have c14 : ∀ x : Option (Int32 × Mem), chk (isO M2 2 14) x = x := fun x => cs_f p14.1 x
          rw [f_X9_timed, if_neg m1, if_neg m2, chk_t xg.1, xg.2.1, bnd_e, sb.f, ndc sb hv h16, obd_s, if_neg ne10, if_neg (show ¬ nI u < 0 from nI_nlt (b := 0) (by omega) (by omega)), if_pos (show nI u ≤ (4 : Int32) from nI_le (b := 4) (by omega) (by decide)), xg.2.2.2.2.1, bnd_e, cs_f tr.1, xg.2.2.2.1, bnd_e, cs_f p.1, e1, obd_s, chk_t xg1.1, xg1.2.2.2.2.2.1, bnd_e, chk_t xk1.1, xg1.2.2.2.2.1, bnd_e, cs_f p1.1, e2, obd_s]
          simp only [c9, c0, c63, c14, xg2.2.2.2.2.2.1, xg2.2.2.2.2.1, xg2.2.2.2.1, bnd_e, ey, obd_s]
          have z : ∀ x : Int32, ∃ x' M', some (x, M2) = some (x', M') ∧ M' = M2 := fun x => ⟨_, M2, rfl, rfl⟩
          exact ite_ex (z _) (ite_ex (z _) (ite_ex (z _) (ite_ex (z _) (z _))))
        obtain ⟨x, M', ec, rfl⟩ := cls
        -- the reference
        obtain ⟨Ma, ea, pa, sa, oa, ob, la⟩ := r2.as (n := n) (by omega)
        obtain ⟨M3, e3, S3, t3, f3⟩ := rclock (P := fun a => Ph a S) h2 h16 (show A < 1048576 by omega) hP w.gi sw.n (fun l hl => (xc.2.2.2.2 l hl).2) hv (nI m) pa (n := n) (by omega)
        have eb := f_back S3 (n := n) (by omega)
        have S4 : RS (cpF M3 126 121 0) := S3.e rfl
        have ref : ∃ y M4, f_X10_timed n 120 (nI m) (nI v) (nI u) M' = some (y, M4) ∧ M4 = cpF M3 126 121 0 := by
          have c10 : ∀ x : Option (Int32 × Mem), chk (isO (cpF M3 126 121 0) 10 120) x = x := fun x => rs_f S4 x
          rw [f_X10_timed, im, obd_s, if_neg ne10, rs_f r2.1, ndr r2 sw.n hv h16, obd_s, if_neg ne10, show (4 : Int32) = nI 4 from rfl, f_isI M' (show u ≤ 4 by omega) (by decide), obd_s, if_neg ne10, ea, obd_s, rs_f pa.1, e3, obd_s, rs_f S3, eb, obd_s]
          simp only [c10]
          have z : ∀ x : Int32, ∃ x' M4, some (x, cpF M3 126 121 0) = some (x', M4) ∧ M4 = cpF M3 126 121 0 := fun x => ⟨_, _, rfl, rfl⟩
          exact ite_ex (z _) (ite_ex (z _) (ite_ex (z _) (ite_ex (z _) (z _))))
        obtain ⟨y, M4, er, rfl⟩ := ref
        refine ⟨x, y, M', _, ec, r2.1.io (by decide) (by decide) (by decide), er, w.rfb cw r2 z2 (f3.1.trans sa) (fun o ho b => by rw [f3.2.1 o (by omega), oa o (by omega)]) (by rw [t3, r2.2.1]) (by rw [f3.2.2 7 (by decide) (by decide), oa 120 (by decide)]) (fun b hb => by rw [f3.2.1 126 (Or.inr rfl)]; exact ob b hb)⟩
/-! ===== the survey, the reference: each answers ===== -/
theorem pc_lj {x : Int32} {j : Nat} (hj : j ≤ 32) (h : ∀ i, j ≤ i → i < 32 → bt x i = false) : pc x ≤ j := by
  unfold pc
  have e : List.range 32 = List.range' 0 j ++ List.range' j (32 - j) := by
    have a := List.range'_append_1 (s := 0) (m := j) (n := 32 - j)
    rw [Nat.zero_add, show j + (32 - j) = 32 by omega] at a
    rw [List.range_eq_range', ← a]
  have z : (List.range' j (32 - j)).filter (fun i => bt x i) = [] := by
    rw [List.filter_eq_nil_iff]
    intro i hi
    have := List.mem_range'_1.mp hi
    rw [h i this.1 (by omega)]
    decide
  rw [e, List.filter_append, z, List.append_nil]
  have := List.length_filter_le (fun i => bt x i) (List.range' 0 j)
  rw [List.length_range'] at this
  exact this
theorem bt_hk {k j : Nat} (hk : k < 2 ^ j) : ∀ i, j ≤ i → i < 32 → bt (nI k) i = false := fun i a b => by
  rw [bt_nI k b]
  exact Nat.testBit_lt_two_pow (Nat.lt_of_lt_of_le hk (Nat.pow_le_pow_right (by decide) a))
theorem all_e : ∀ N, N < 17 → ((1 : Int32) <<< (nI N &&& 31)) - (1 : Int32) = nI (2 ^ N - 1) := by decide +kernel
theorem p16 {N : Nat} (h16 : N ≤ 16) : 1 ≤ 2 ^ N ∧ 2 ^ N ≤ 65536 := ⟨Nat.one_le_two_pow, Nat.pow_le_pow_right (n := 2) (by decide) h16⟩
section
variable {M : Mem} {N : Nat} {tw : Bool} {t : Int32} {S : St} {pb pt : List Row4}
theorem RV.al (r : RV M tw t S pb pt) (hN : xR S 20 0 = nI N) (h16 : N ≤ 16) : f_X10_all 120 M = some (nI (2 ^ N - 1)) := by
  rw [f_X10_all, rs_f r.1, rs_0 r.1, bnd_e, rs_fa r.1, rs_c0 r.1, cl0, r.N hN, all_e N (by omega)]
theorem mny_k {k n : Nat} (hk : k < 65536) (hn : 40 ≤ n) (M : Mem) : f_X10_many n (nI k) M = some (nI (pc (nI k))) :=
  f_many (fun i a b => bt_hk (j := 16) hk i (by omega) b) hn M
theorem pw_ex (M : Mem) (a : Int64) (e : Int32) (K : Nat) (he : e ≤ nI K) (hK : K < 1000) : ∀ (d i n : Nat) (c : Int64), i + d = K → d + 1 ≤ n → ∃ r, f_X10_power_5 M n a e c (nI i) = some r := by
  intro d
  induction d with
  | zero =>
    intro i n c hi hn
    obtain ⟨n, rfl⟩ : ∃ m, n = m + 1 := ⟨n - 1, by omega⟩
    exact ⟨c, by rw [f_X10_power_5, if_pos (by rw [show i = K by omega]; exact he)]⟩
  | succ d ih =>
    intro i n c hi hn
    obtain ⟨n, rfl⟩ : ∃ m, n = m + 1 := ⟨n - 1, by omega⟩
    by_cases z : e ≤ nI i
    · exact ⟨c, by rw [f_X10_power_5, if_pos z]⟩
    · rw [f_X10_power_5, if_neg z, bnd_e, bnd_e, nI_1]
      exact ih (i + 1) n _ (by omega) (by omega)
theorem RV.odds (r : RV M tw t S pb pt) (hN : xR S 20 0 = nI N) (h16 : N ≤ 16) {k n : Nat} (hk : k < 2 ^ N) (b : Int32) (hn : 100 ≤ n) : ∃ x, f_X10_oddsOf n 120 (nI k) b M = some x := by
  have p := p16 h16
  have pl := pc_lj (x := nI k) (j := N) (by omega) (bt_hk hk)
  obtain ⟨x1, e1⟩ := pw_ex M (b.toInt64) (nI (pc (nI k))) 16 (nI_le (by omega) (by decide)) (by decide) 16 0 n 1 rfl (by omega)
  obtain ⟨x2, e2⟩ := pw_ex M ((10 : Int64) - b.toInt64) (nI N - nI (pc (nI k))) 16 (by rw [nI_sb pl]; exact nI_le (by omega) (by decide)) (by decide) 16 0 n 1 rfl (by omega)
  refine ⟨x1 * x2, ?_⟩
  rw [f_X10_oddsOf, mny_k (by omega) (by omega), obd_s, f_X10_power, show f_X10_power_5 M n b.toInt64 (nI (pc (nI k))) 1 0 = some x1 from e1, obd_s, rs_f r.1, rs_0 r.1, bnd_e, rs_fa r.1, rs_c0 r.1, obd_s, cl0, r.N hN, f_X10_power, show f_X10_power_5 M n ((10 : Int64) - b.toInt64) (nI N - nI (pc (nI k))) 1 0 = some x2 from e2, obd_s]
/-- a power of ten is none -/
def pwv (a : Int64) : Nat → Int64 → Int64
  | 0, c => c
  | k + 1, c => pwv a k (c * a)
theorem pw_v (M : Mem) (a : Int64) (K : Nat) (hK : K < 1000) : ∀ (d i n : Nat) (c : Int64), i + d = K → d + 1 ≤ n → f_X10_power_5 M n a (nI K) c (nI i) = some (pwv a d c) := by
  intro d
  induction d with
  | zero =>
    intro i n c hi hn
    obtain ⟨n, rfl⟩ : ∃ m, n = m + 1 := ⟨n - 1, by omega⟩
    rw [f_X10_power_5, if_pos (nI_le (by omega) (by omega))]
    rfl
  | succ d ih =>
    intro i n c hi hn
    obtain ⟨n, rfl⟩ : ∃ m, n = m + 1 := ⟨n - 1, by omega⟩
    rw [f_X10_power_5, if_neg (nI_ge (by omega) (by omega)), bnd_e, bnd_e, nI_1]
    exact ih (i + 1) n _ (by omega) (by omega)
theorem pw10 : ∀ k, k < 11 → ¬ pwv 10 k 1 = 0 := by decide +kernel
theorem RV.mill (r : RV M tw t S pb pt) (hN : xR S 20 0 = nI N) (h16 : N ≤ 16) (a : Int64) {n : Nat} (hn : 100 ≤ n) : ∃ x, f_X10_millionths n 120 a M = some x := by
  have h0 : mI M 121 ((0 : Int32).toNatClampNeg) = nI N := by rw [cl0]; exact r.N hN
  by_cases c : N < 6
  · obtain ⟨x1, e1⟩ := pw_ex M 10 ((6 : Int32) - nI N) 6 (by rw [show (6 : Int32) = nI 6 from rfl, nI_sb (by omega)]; exact nI_le (by omega) (by decide)) (by decide) 6 0 n 1 rfl (by omega)
    exact ⟨_, by rw [f_X10_millionths, rs_f r.1, rs_0 r.1, bnd_e, rs_fa r.1, rs_c0 r.1, h0, if_pos (show nI N < (6 : Int32) from nI_lt (b := 6) c (by decide)), bnd_e, rs_fa r.1, rs_c0 r.1, h0, f_X10_power, show f_X10_power_5 M n 10 ((6 : Int32) - nI N) 1 0 = some x1 from e1, obd_s]⟩
  · have e1 := pw_v M 10 (N - 6) (by omega) (N - 6) 0 n 1 (by omega) (by omega)
    exact ⟨_, by rw [f_X10_millionths, rs_f r.1, rs_0 r.1, bnd_e, rs_fa r.1, rs_c0 r.1, h0, if_neg (show ¬ nI N < (6 : Int32) from nI_nl (a := N) (b := 6) (by omega) (by omega)), bnd_e, rs_fa r.1, rs_c0 r.1, h0, f_X10_power, show nI N - (6 : Int32) = nI (N - 6) by rw [show (6 : Int32) = nI 6 from rfl, nI_sb (by omega)], show f_X10_power_5 M n 10 (nI (N - 6)) 1 0 = some (pwv 10 (N - 6) 1) from e1, obd_s, chk_t (pw10 (N - 6) (by omega))]⟩
theorem rlv_l (r : RV M tw t S pb pt) (hN : xR S 20 0 = nI N) (h16 : N ≤ 16) (b : Int32) : ∀ (d i n : Nat), i + d = N → d + 1 ≤ n → ∃ x, f_X10_isLive_2 M n 120 b (nI i) = some x := by
  intro d
  induction d with
  | zero =>
    intro i n hi hn
    obtain ⟨n, rfl⟩ : ∃ m, n = m + 1 := ⟨n - 1, by omega⟩
    exact ⟨0, by rw [f_X10_isLive_2, rs_f r.1, rs_0 r.1, bnd_e, rs_fa r.1, rs_c0 r.1, cl0, r.N hN, if_pos (nI_le (by omega) (by omega))]⟩
  | succ d ih =>
    intro i n hi hn
    obtain ⟨n, rfl⟩ : ∃ m, n = m + 1 := ⟨n - 1, by omega⟩
    rw [f_X10_isLive_2, rs_f r.1, rs_0 r.1, bnd_e, rs_fa r.1, rs_c0 r.1, cl0, r.N hN, if_neg (nI_ge (by omega) (by omega)), r.base (by omega), obd_s]
    split
    · exact ⟨_, rfl⟩
    · rw [bnd_e, nI_1]; exact ih (i + 1) n (by omega) (by omega)
theorem rib_l (r : RV M tw t S pb pt) (hN : xR S 20 0 = nI N) (h16 : N ≤ 16) (b : Int32) : ∀ (d i n : Nat), i + d = N → d + 1 ≤ n → ∃ x, f_X10_isBetter_2 M n 120 b (nI i) = some x := by
  intro d
  induction d with
  | zero =>
    intro i n hi hn
    obtain ⟨n, rfl⟩ : ∃ m, n = m + 1 := ⟨n - 1, by omega⟩
    exact ⟨1, by rw [f_X10_isBetter_2, rs_f r.1, rs_0 r.1, bnd_e, rs_fa r.1, rs_c0 r.1, cl0, r.N hN, if_pos (nI_le (by omega) (by omega))]⟩
  | succ d ih =>
    intro i n hi hn
    obtain ⟨n, rfl⟩ : ∃ m, n = m + 1 := ⟨n - 1, by omega⟩
    rw [f_X10_isBetter_2, rs_f r.1, rs_0 r.1, bnd_e, rs_fa r.1, rs_c0 r.1, cl0, r.N hN, if_neg (nI_ge (by omega) (by omega)), r.base (by omega), obd_s, obd_s]
    split
    · exact ⟨_, rfl⟩
    · split
      · exact ⟨_, rfl⟩
      · rw [bnd_e, nI_1]; exact ih (i + 1) n (by omega) (by omega)
theorem rpv_l (r : RV M tw t S pb pt) (hN : xR S 20 0 = nI N) (h16 : N ≤ 16) {v : Nat} (hv : v < 32) : ∀ (d i n : Nat) (c : Int32), i + d = 2 ^ N → d + 101 ≤ n → ∃ x, f_X10_pivotal_14 M n 120 (nI v) c (nI i) = some x := by
  have p := p16 h16
  intro d
  induction d with
  | zero =>
    intro i n c hi hn
    obtain ⟨n, rfl⟩ : ∃ m, n = m + 1 := ⟨n - 1, by omega⟩
    exact ⟨c, by rw [f_X10_pivotal_14, rs_f r.1, r.al hN h16, obd_s, if_pos (nI_lt (by omega) (by omega))]⟩
  | succ d ih =>
    intro i n c hi hn
    obtain ⟨n, rfl⟩ : ∃ m, n = m + 1 := ⟨n - 1, by omega⟩
    obtain ⟨z, ez⟩ := has10_ex (nI i) hv M
    obtain ⟨y1, e1⟩ := rlv_l r hN h16 (nI i) N 0 n (by omega) (by omega)
    obtain ⟨y2, e2⟩ := rlv_l r hN h16 (nI i ||| ((1 : Int32) <<< (nI v &&& 31))) N 0 n (by omega) (by omega)
    have e1' : f_X10_isLive n 120 (nI i) M = some y1 := e1
    have e2' : f_X10_isLive n 120 (nI i ||| ((1 : Int32) <<< (nI v &&& 31))) M = some y2 := e2
    rw [f_X10_pivotal_14, rs_f r.1, r.al hN h16, obd_s, if_neg (nI_nl (by omega) (by omega)), ez, obd_s]
    split
    · rw [e1', obd_s]
      split
      · rw [e2', obd_s]
        split
        · rw [bnd_e, bnd_e, nI_1]; exact ih (i + 1) n _ (by omega) (by omega)
        · rw [bnd_e, bnd_e, nI_1]; exact ih (i + 1) n _ (by omega) (by omega)
      · rw [bnd_e, bnd_e, nI_1]; exact ih (i + 1) n _ (by omega) (by omega)
    · rw [bnd_e, bnd_e, nI_1]; exact ih (i + 1) n _ (by omega) (by omega)
theorem rbt_l (r : RV M tw t S pb pt) (hN : xR S 20 0 = nI N) (h16 : N ≤ 16) : ∀ (d i n : Nat), i + d = 2 ^ N → d + 101 ≤ n → ∃ x, f_X10_better_2 M n 120 (nI i) = some x := by
  have p := p16 h16
  intro d
  induction d with
  | zero =>
    intro i n hi hn
    obtain ⟨n, rfl⟩ : ∃ m, n = m + 1 := ⟨n - 1, by omega⟩
    exact ⟨-1, by rw [f_X10_better_2, rs_f r.1, r.al hN h16, obd_s, if_pos (nI_lt (by omega) (by omega))]⟩
  | succ d ih =>
    intro i n hi hn
    obtain ⟨n, rfl⟩ : ∃ m, n = m + 1 := ⟨n - 1, by omega⟩
    obtain ⟨y1, e1⟩ := rib_l r hN h16 (nI i) N 0 n (by omega) (by omega)
    have e1' : f_X10_isBetter n 120 (nI i) M = some y1 := e1
    rw [f_X10_better_2, rs_f r.1, r.al hN h16, obd_s, if_neg (nI_nl (by omega) (by omega)), e1', obd_s]
    split
    · rw [bnd_e, nI_1]; exact ih (i + 1) n (by omega) (by omega)
    · exact ⟨_, rfl⟩
end
section
variable {N : Nat} {tw : Bool} {t : Int32} {S : St} {pb pt : List Row4}
theorem RV.sb (hN : xR S 20 0 = nI N) (h16 : N ≤ 16) (ht : xR S 20 1 = 1 → N % 2 = 1) (b : Int32) {M : Mem} (r : RV M tw t S pb pt) {n : Nat} (hn : 100 ≤ n) : ∃ x M', f_X10_stopsBy n 120 b M = some (x, M') ∧ RV M' tw t S pb pt ∧ Fr P2 M M' := by
  obtain ⟨x, M', e, _, r', f'⟩ := rst_l hN h16 ht b N 0 n M r (by omega) (by omega)
  exact ⟨x, M', e, r', f'⟩
theorem rwk_0 {v1 : Int32} {M : Mem} {m n : Nat} (hm : m < 65536) (hn : 41 ≤ n) : ∃ x, f_X10_weakest_21 n 120 v1 (nI m) (-1) M = some (x, M) := by
  obtain ⟨n, rfl⟩ : ∃ j, n = j + 1 := ⟨n - 1, by omega⟩
  rw [f_X10_weakest_21, if_pos (show (-1 : Int32) < 0 by decide)]
  split
  · exact ⟨_, by rw [mny_k hm (by omega), obd_s]⟩
  · exact ⟨_, rfl⟩
theorem rwk_l (hN : xR S 20 0 = nI N) (h16 : N ≤ 16) (ht : xR S 20 1 = 1 → N % 2 = 1) (v1 : Int32) : ∀ (k m n : Nat) (M : Mem), RV M tw t S pb pt → k < 65536 → m < 65536 → k + 201 ≤ n → ∃ x M', f_X10_weakest_21 n 120 v1 (nI m) (nI k) M = some (x, M') ∧ RV M' tw t S pb pt ∧ Fr P2 M M' := by
  intro k
  induction k with
  | zero =>
    intro m n M r hk hm hn
    obtain ⟨n, rfl⟩ : ∃ j, n = j + 1 := ⟨n - 1, by omega⟩
    obtain ⟨y, M1, e1, r1, f1⟩ := r.sb hN h16 ht (nI 0) (n := n) (by omega)
    have d0 : nI 0 + (-1 : Int32) = -1 := by decide
    rw [f_X10_weakest_21, if_neg (show ¬ nI 0 < (0 : Int32) by decide), mny_k (by omega) (by omega), obd_s, mny_k hm (by omega), obd_s]
    split
    · obtain ⟨x, e⟩ := rwk_0 (v1 := v1) (M := M) (m := m) (n := n) hm (by omega)
      exact ⟨x, M, by rw [bnd_e, d0]; exact e, r, Fr.rf _ _⟩
    · rw [rs_f r.1, e1, obd2_s]
      split
      · obtain ⟨x, e⟩ := rwk_0 (v1 := v1) (M := M1) (m := m) (n := n) hm (by omega)
        exact ⟨x, M1, by rw [bnd_e, d0]; exact e, r1, f1⟩
      · obtain ⟨x, e⟩ := rwk_0 (v1 := v1) (M := M1) (m := 0) (n := n) (by omega) (by omega)
        exact ⟨x, M1, by rw [bnd_e, d0]; exact e, r1, f1⟩
  | succ k ih =>
    intro m n M r hk hm hn
    obtain ⟨n, rfl⟩ : ∃ j, n = j + 1 := ⟨n - 1, by omega⟩
    obtain ⟨y, M1, e1, r1, f1⟩ := r.sb hN h16 ht (nI (k + 1)) (n := n) (by omega)
    rw [f_X10_weakest_21, if_neg (show ¬ nI (k + 1) < (0 : Int32) from nI_nl (a := k + 1) (b := 0) (by omega) (by omega)), mny_k hk (by omega), obd_s, mny_k hm (by omega), obd_s]
    split
    · rw [bnd_e, nI_d1]; exact ih m n M r (by omega) hm (by omega)
    · rw [rs_f r.1, e1, obd2_s]
      split
      · obtain ⟨x, M', e', r', f'⟩ := ih m n M1 r1 (by omega) hm (by omega)
        exact ⟨x, M', by rw [bnd_e, nI_d1]; exact e', r', f1.tr f'⟩
      · obtain ⟨x, M', e', r', f'⟩ := ih (k + 1) n M1 r1 (by omega) hk (by omega)
        exact ⟨x, M', by rw [bnd_e, nI_d1]; exact e', r', f1.tr f'⟩
theorem rch_l (hN : xR S 20 0 = nI N) (h16 : N ≤ 16) (ht : xR S 20 1 = 1 → N % 2 = 1) (v1 : Int32) : ∀ (d i n : Nat) (c : Int64) (M : Mem), RV M tw t S pb pt → i + d = 2 ^ N → d + 201 ≤ n → ∃ x M', f_X10_chance_17 n 120 v1 c (nI i) M = some (x, M') ∧ RV M' tw t S pb pt ∧ Fr P2 M M' := by
  have p := p16 h16
  intro d
  induction d with
  | zero =>
    intro i n c M r hi hn
    obtain ⟨n, rfl⟩ : ∃ j, n = j + 1 := ⟨n - 1, by omega⟩
    obtain ⟨x, e⟩ := r.mill hN h16 c (n := n) (by omega)
    exact ⟨x, M, by rw [f_X10_chance_17, rs_f r.1, r.al hN h16, obd_s, if_pos (nI_lt (by omega) (by omega)), e, obd_s], r, Fr.rf _ _⟩
  | succ d ih =>
    intro i n c M r hi hn
    obtain ⟨n, rfl⟩ : ∃ j, n = j + 1 := ⟨n - 1, by omega⟩
    obtain ⟨y, M1, e1, r1, f1⟩ := r.sb hN h16 ht (nI i) (n := n) (by omega)
    obtain ⟨z, ez⟩ := r1.odds hN h16 (k := i) (n := n) (by omega) v1 (by omega)
    rw [f_X10_chance_17, rs_f r.1, r.al hN h16, obd_s, if_neg (nI_nl (by omega) (by omega)), e1, obd2_s]
    split
    · obtain ⟨x, M', e', r', f'⟩ := ih (i + 1) n (c + z) M1 r1 (by omega) (by omega)
      exact ⟨x, M', by rw [rs_f r1.1, ez, obd_s, bnd_e, bnd_e, nI_1]; exact e', r', f1.tr f'⟩
    · obtain ⟨x, M', e', r', f'⟩ := ih (i + 1) n c M1 r1 (by omega) (by omega)
      exact ⟨x, M', by rw [bnd_e, nI_1]; exact e', r', f1.tr f'⟩
theorem rco_l (hN : xR S 20 0 = nI N) (h16 : N ≤ 16) (ht : xR S 20 1 = 1 → N % 2 = 1) {v : Nat} (hv : v < 16) (v2 : Int32) : ∀ (d i n : Nat) (c : Int64) (M : Mem), RV M tw t S pb pt → i + d = 2 ^ N → d + 201 ≤ n → ∃ x M', f_X10_chanceOf_25 n 120 (nI v) v2 c (nI i) M = some (x, M') ∧ RV M' tw t S pb pt ∧ Fr P2 M M' := by
  have p := p16 h16
  intro d
  induction d with
  | zero =>
    intro i n c M r hi hn
    obtain ⟨n, rfl⟩ : ∃ j, n = j + 1 := ⟨n - 1, by omega⟩
    obtain ⟨x, e⟩ := r.mill hN h16 c (n := n) (by omega)
    exact ⟨x, M, by rw [f_X10_chanceOf_25, rs_f r.1, r.al hN h16, obd_s, if_pos (nI_lt (by omega) (by omega)), e, obd_s], r, Fr.rf _ _⟩
  | succ d ih =>
    intro i n c M r hi hn
    obtain ⟨n, rfl⟩ : ∃ j, n = j + 1 := ⟨n - 1, by omega⟩
    obtain ⟨w, ew⟩ := has10_ex (nI i) (v := v) (by omega) M
    obtain ⟨M1, e1, r1, f1⟩ := r.tqby (n := n) hN h16 ht hv (nI i) (by omega)
    obtain ⟨z, ez⟩ := r1.odds hN h16 (k := i) (n := n) (by omega) v2 (by omega)
    rw [f_X10_chanceOf_25, rs_f r.1, r.al hN h16, obd_s, if_neg (nI_nl (by omega) (by omega)), ew, obd_s]
    split
    · rw [e1, obd2_s]
      split
      · obtain ⟨x, M', e', r', f'⟩ := ih (i + 1) n c M1 r1 (by omega) (by omega)
        exact ⟨x, M', by rw [bnd_e, nI_1]; exact e', r', f1.tr f'⟩
      · obtain ⟨x, M', e', r', f'⟩ := ih (i + 1) n (c + z) M1 r1 (by omega) (by omega)
        exact ⟨x, M', by rw [rs_f r1.1, ez, obd_s, bnd_e, bnd_e, nI_1]; exact e', r', f1.tr f'⟩
    · obtain ⟨x, M', e', r', f'⟩ := ih (i + 1) n c M r (by omega) (by omega)
      exact ⟨x, M', by rw [bnd_e, nI_1]; exact e', r', f'⟩
end
/-! ===== the survey, the class: rows of long bits ===== -/
/-- long numbers alone have changed -/
def FrLg (M M' : Mem) : Prop := M'.1 = M.1 ∧ ∀ o b, mI M' o b = mI M o b
theorem FrLg.rf (M : Mem) : FrLg M M := ⟨rfl, fun _ _ => rfl⟩
theorem FrLg.tr {M M' M'' : Mem} (h : FrLg M M') (h' : FrLg M' M'') : FrLg M M'' := ⟨h'.1.trans h.1, fun o b => (h'.2 o b).trans (h.2 o b)⟩
theorem FrLg.s (M : Mem) (o k : Nat) (x : Int64) : FrLg M (sL M o k x) := ⟨rfl, fun _ _ => rfl⟩
def SO (x : Int32) : Prop := ∀ i, 16 ≤ i → i < 32 → bt x i = false
theorem SO.k {x : Int32} (h : SO x) : ∃ k, k < 65536 ∧ x = nI k := ⟨x.toBitVec.toNat, bt_hi (k := 16) (by decide) h, nI_tn x⟩
theorem SO.or {x y : Int32} (h : SO x) (h' : SO y) : SO (x ||| y) := fun i a b => by rw [b_or, h i a b, h' i a b]; rfl
theorem SO.one {v : Nat} (hv : v < 16) : SO ((1 : Int32) <<< (nI v &&& 31)) := fun i a b => by
  rw [b_one (by omega) b]; exact decide_eq_false (by omega)
theorem sh6 {k : Nat} (hk : k < 65536) : nI k >>> ((6 : Int32) &&& 31) = nI (k / 64) := by
  refine b_ext fun i hi => ?_
  rw [show (6 : Int32) = nI 6 from rfl, b_sshr 6 (by decide) _ hi, bt_nI _ hi]
  have e : (k / 64).testBit i = k.testBit (6 + i) := by
    rw [show 64 = 2 ^ 6 from rfl, ← Nat.shiftRight_eq_div_pow, Nat.testBit_shiftRight]
  rw [e]
  by_cases c : 6 + i < 32
  · rw [if_pos c, bt_nI _ c]
  · rw [if_neg c, bt_nI _ (by decide)]
    have big : ∀ j, 16 ≤ j → k.testBit j = false := fun j hj => Nat.testBit_lt_two_pow (Nat.lt_of_lt_of_le hk (Nat.pow_le_pow_right (n := 2) (by decide) hj))
    rw [big 31 (by decide), big (6 + i) (by omega)]
theorem j13 (x : Int64) (M : Mem) : ∃ r, f_J13_bitCount_95d88 x M = some r := ⟨_, rfl⟩
theorem j6 (x : Int32) (M : Mem) : ∃ r, f_J6_bitCount_0f7a4 x M = some r := ⟨_, rfl⟩
theorem low_ex (x : Int64) (M : Mem) : ∃ r, f_X9_lowest x M = some r := by
  rw [f_X9_lowest]
  split
  · exact ⟨_, rfl⟩
  · obtain ⟨r, e⟩ := j13 ((x &&& (-x)) - (1 : Int64)) M
    exact ⟨r, by rw [e, obd_s]⟩
theorem us_p {N : Nat} (h16 : N ≤ 16) : ∃ k, k ≤ 10 ∧ us6 N = 2 ^ k := by
  unfold us6
  by_cases c : 6 < N
  · exact ⟨N - 6, by omega, if_pos c⟩
  · exact ⟨0, by omega, if_neg c⟩
theorem us_b {N : Nat} (h16 : N ≤ 16) : 1 ≤ us6 N ∧ us6 N ≤ 1024 := by
  obtain ⟨k, hk, e⟩ := us_p h16
  rw [e]
  exact ⟨Nat.one_le_two_pow, show 2 ^ k ≤ 2 ^ 10 from Nat.pow_le_pow_right (by decide) hk⟩
/-- a row of bits by sets -/
def F1 (M : Mem) (o q N : Nat) : Prop := (isO M 1 o ∧ mR M o 0 = q ∧ isO M 101 q ∧ mLn M q = 1024) ∧ mI M o 1 = nI N ∧ mI M o 2 = nI (us6 N)
theorem F1.l {M M' : Mem} {o q N : Nat} (h : F1 M o q N) (f : FrLg M M') : F1 M' o q N := by
  obtain ⟨⟨a, b, c, d⟩, e, g⟩ := h
  have io : ∀ {c o}, isO M c o → isO M' c o := fun z => by unfold isO mN mC at *; rw [f.1]; exact z
  exact ⟨⟨io a, by rw [mR_e f.1]; exact b, io c, by rw [mLn_e f.1]; exact d⟩, by rw [f.2]; exact e, by rw [f.2]; exact g⟩
section
variable {M : Mem} {o q N : Nat}
theorem F1.add (f : F1 M o q N) {x : Int32} (hx : SO x) : ∃ M', f_X1_add o x M = some M' ∧ FrLg M M' := by
  obtain ⟨k, hk, rfl⟩ := hx.k
  refine ⟨_, ?_, FrLg.s M q (nI (k / 64)).toNatClampNeg (mL M q (nI (k / 64)).toNatClampNeg ||| ((1 : Int64) <<< (((nI k &&& (63 : Int32))).toInt64 &&& 63)))⟩
  rw [f_X1_add, chk_t f.1.1, f.1.2.1, bnd_e, chk_t f.1.2.2.1, sh6 hk, bnd_e, f.1.2.2.2, chk_t (inB_n (by omega) (by decide)), chk_t (inB_n (by omega) (by decide)), bnd_e]
theorem F1.hv (f : F1 M o q N) (h16 : N ≤ 16) {k : Nat} (hk : k < us6 N) {a : Int32} (ha : a = -1 ∨ ∃ v, v < 16 ∧ a = nI v) : ∃ r, f_X1_having o (nI k) a M = some r := by
  have u := us_b h16
  have ib : inB (nI k) 1024 := inB_n (by omega) (by decide)
  rcases ha with rfl | ⟨v, hv, rfl⟩
  · exact ⟨_, by rw [f_X1_having, if_neg (show ¬ (0 : Int32) ≤ -1 by decide), chk_t f.1.1, f.1.2.1, bnd_e, chk_t f.1.2.2.1, f.1.2.2.2, chk_t ib]⟩
  · rw [f_X1_having, if_pos (show (0 : Int32) ≤ nI v from nI_le (a := 0) (Nat.zero_le _) (by omega))]
    by_cases c : 6 ≤ v
    · rw [if_pos (show (6 : Int32) ≤ nI v from nI_le (a := 6) c (by omega))]
      split
      · exact ⟨_, rfl⟩
      · exact ⟨_, by rw [chk_t f.1.1, f.1.2.1, bnd_e, chk_t f.1.2.2.1, f.1.2.2.2, chk_t ib]⟩
    · rw [if_neg (show ¬ (6 : Int32) ≤ nI v from nI_ge (b := 6) (by omega) (by decide))]
      exact ⟨_, by rw [chk_t f.1.1, f.1.2.1, bnd_e, chk_t f.1.2.2.1, f.1.2.2.2, chk_t ib, chk_t (inB_n (show v < 6 by omega) (by decide))]⟩
theorem wr71 (f : F1 M o q N) (n : Nat) (x : Int64) : ∃ r, f_X1_withoutRest_71 M n o x = some r := by
  rw [f_X1_withoutRest_71, chk_t f.1.1]
  split
  · exact ⟨_, rfl⟩
  · exact ⟨_, rfl⟩
theorem wr17 (f : F1 M o q N) : ∀ (d i n : Nat) (x : Int64), i + d = 6 → d + 1 ≤ n → ∃ r, f_X1_withoutRest_17 M n o x (nI i) = some r := by
  intro d
  induction d with
  | zero =>
    intro i n x hi hn
    obtain ⟨n, rfl⟩ : ∃ m, n = m + 1 := ⟨n - 1, by omega⟩
    rw [f_X1_withoutRest_17, if_pos (show (6 : Int32) ≤ nI i from nI_le (a := 6) (by omega) (by omega))]
    exact wr71 f n x
  | succ d ih =>
    intro i n x hi hn
    obtain ⟨n, rfl⟩ : ∃ m, n = m + 1 := ⟨n - 1, by omega⟩
    rw [f_X1_withoutRest_17, if_neg (show ¬ (6 : Int32) ≤ nI i from nI_ge (b := 6) (by omega) (by decide)), chk_t f.1.1]
    split
    · exact wr71 f n x
    · rw [chk_t (inB_n (show i < 6 by omega) (by decide)), chk_t (inB_n (show i < 6 by omega) (by decide)), bnd_e, bnd_e, nI_1]
      exact ih (i + 1) n _ (by omega) (by omega)
theorem F1.wr (f : F1 M o q N) (h16 : N ≤ 16) {k n : Nat} (hk : k < us6 N) (hn : 10 ≤ n) : ∃ r, f_X1_withoutRest n o (nI k) M = some r := by
  have u := us_b h16
  obtain ⟨r, e⟩ := wr17 f 6 0 n (mL M q (nI (us6 N - 1 - k)).toNatClampNeg) rfl (by omega)
  refine ⟨r, ?_⟩
  rw [f_X1_withoutRest, chk_t f.1.1, f.1.2.1, bnd_e, chk_t f.1.2.2.1, f.2.2, nI_m1' u.1, nI_sb (by omega), f.1.2.2.2, chk_t (inB_n (by omega) (by decide)), bnd_e]
  exact e
theorem F1.tb (f : F1 M o q N) (h16 : N ≤ 16) {v : Nat} (hv : v < 16) : ∀ (d i n : Nat) (c : Int32), i + d = us6 N → d + 1 ≤ n → ∃ r, f_X1_turnedBy_4 M n o (nI v) c (nI i) = some r := by
  have u := us_b h16
  intro d
  induction d with
  | zero =>
    intro i n c hi hn
    obtain ⟨n, rfl⟩ : ∃ m, n = m + 1 := ⟨n - 1, by omega⟩
    exact ⟨c, by rw [f_X1_turnedBy_4, chk_t f.1.1, f.2.2, if_pos (nI_le (by omega) (by omega))]⟩
  | succ d ih =>
    intro i n c hi hn
    obtain ⟨n, rfl⟩ : ∃ m, n = m + 1 := ⟨n - 1, by omega⟩
    obtain ⟨x, ex⟩ := f.hv h16 (k := i) (by omega) (Or.inr ⟨v, hv, rfl⟩)
    obtain ⟨y, ey⟩ := j13 x M
    obtain ⟨z, ez⟩ := j13 (mL M q (nI i).toNatClampNeg) M
    rw [f_X1_turnedBy_4, chk_t f.1.1, f.2.2, if_neg (nI_ge (by omega) (by omega)), ex, obd_s, ey, obd_s, f.1.2.1, bnd_e, chk_t f.1.2.2.1, f.1.2.2.2, chk_t (inB_n (by omega) (by decide)), ez, obd_s, bnd_e, bnd_e, nI_1]
    exact ih (i + 1) n _ (by omega) (by omega)
theorem F1.lb (f : F1 M o q N) (h16 : N ≤ 16) : ∀ (d i n : Nat), i + d = us6 N → d + 20 ≤ n → ∃ r, f_X1_leastBetter_2 M n o (nI i) = some r := by
  have u := us_b h16
  intro d
  induction d with
  | zero =>
    intro i n hi hn
    obtain ⟨n, rfl⟩ : ∃ m, n = m + 1 := ⟨n - 1, by omega⟩
    exact ⟨-1, by rw [f_X1_leastBetter_2, chk_t f.1.1, f.2.2, if_pos (nI_le (by omega) (by omega))]⟩
  | succ d ih =>
    intro i n hi hn
    obtain ⟨n, rfl⟩ : ∃ m, n = m + 1 := ⟨n - 1, by omega⟩
    obtain ⟨x, ex⟩ := f.wr h16 (k := i) (n := n) (by omega) (by omega)
    rw [f_X1_leastBetter_2, chk_t f.1.1, f.2.2, if_neg (nI_ge (by omega) (by omega)), f.1.2.1, bnd_e, chk_t f.1.2.2.1, f.1.2.2.2, chk_t (inB_n (by omega) (by decide)), ex, obd_s, bnd_e]
    split
    · rw [bnd_e, nI_1]; exact ih (i + 1) n (by omega) (by omega)
    · obtain ⟨y, ey⟩ := low_ex ((mL M q (nI i).toNatClampNeg ^^^ (-1 : Int64)) &&& x) M
      exact ⟨_, by rw [ey, obd_s]⟩
theorem ls25 {K : Nat → Int32 → Int32 → Int32 → Option Int32} {i : Nat} {x : Int64} (hK : ∀ v1 v2, ∃ r, K o v1 v2 (nI (i + 1)) = some r) : ∀ (d j n : Nat) (v1 v2 : Int32), j + d = 7 → d + 1 ≤ n → ∃ r, f_X1_leastStop_25 K M n o v1 v2 (nI i) x (nI j) = some r := by
  intro d
  induction d with
  | zero =>
    intro j n v1 v2 hj hn
    obtain ⟨n, rfl⟩ : ∃ m, n = m + 1 := ⟨n - 1, by omega⟩
    rw [f_X1_leastStop_25, if_pos (show (6 : Int32) < nI j from nI_lt (a := 6) (by omega) (by omega)), bnd_e, nI_1]
    exact hK v1 v2
  | succ d ih =>
    intro j n v1 v2 hj hn
    obtain ⟨n, rfl⟩ : ∃ m, n = m + 1 := ⟨n - 1, by omega⟩
    obtain ⟨y, ey⟩ := j6 (nI i) M
    rw [f_X1_leastStop_25, if_neg (show ¬ (6 : Int32) < nI j from nI_nl (a := 6) (by omega) (by decide)), ey, obd_s, bnd_e]
    split
    · rw [bnd_e, nI_1]; exact ih (j + 1) n _ _ (by omega) (by omega)
    · rw [chk_t (inB_n (show j < 7 by omega) (by decide))]
      split
      · rw [bnd_e, nI_1]; exact ih (j + 1) n _ _ (by omega) (by omega)
      · obtain ⟨z, ez⟩ := low_ex (x &&& l_OS (nI j).toNatClampNeg) M
        rw [chk_t (inB_n (show j < 7 by omega) (by decide)), ez, obd_s, bnd_e, bnd_e, nI_1]
        exact ih (j + 1) n _ _ (by omega) (by omega)
theorem F1.ls (f : F1 M o q N) (h16 : N ≤ 16) : ∀ (d i n : Nat) (v1 v2 : Int32), i + d = us6 N → d + 20 ≤ n → ∃ r, f_X1_leastStop_7 M n o v1 v2 (nI i) = some r := by
  have u := us_b h16
  intro d
  induction d with
  | zero =>
    intro i n v1 v2 hi hn
    obtain ⟨n, rfl⟩ : ∃ m, n = m + 1 := ⟨n - 1, by omega⟩
    exact ⟨v1, by rw [f_X1_leastStop_7, chk_t f.1.1, f.2.2, if_pos (nI_le (by omega) (by omega))]⟩
  | succ d ih =>
    intro i n v1 v2 hi hn
    obtain ⟨n, rfl⟩ : ∃ m, n = m + 1 := ⟨n - 1, by omega⟩
    obtain ⟨x, ex⟩ := f.wr h16 (k := i) (n := n) (by omega) (by omega)
    rw [f_X1_leastStop_7, chk_t f.1.1, f.2.2, if_neg (nI_ge (by omega) (by omega)), ex, obd_s]
    exact ls25 (fun v1 v2 => ih (i + 1) n v1 v2 (by omega) (by omega)) 7 0 n v1 v2 rfl (by omega)
theorem wg26 {K : Nat → Int32 → Nat → Int64 → Int32 → Option Int64} {i w : Nat} {a : Int32} (hi : i < 1024) (hw : isO M 101 w) (hl : mLn M w = 17) (hK : ∀ c, ∃ r, K o a w c (nI (i + 1)) = some r) : ∀ (d j n : Nat) (c x : Int64), j + d = 7 → d + 1 ≤ n → ∃ r, f_X1_weigh_26 K M n o a w c (nI i) x (nI j) = some r := by
  have b16 : ∀ i', 16 ≤ i' → i' < 32 → bt (nI i) i' = false := bt_hk (j := 16) (by omega)
  have pl := pc_lj (x := nI i) (j := 10) (by decide) (bt_hk (j := 10) (by omega))
  intro d
  induction d with
  | zero =>
    intro j n c x hj hn
    obtain ⟨n, rfl⟩ : ∃ m, n = m + 1 := ⟨n - 1, by omega⟩
    rw [f_X1_weigh_26, if_pos (show (6 : Int32) < nI j from nI_lt (a := 6) (by omega) (by omega)), bnd_e, nI_1]
    exact hK c
  | succ d ih =>
    intro j n c x hj hn
    obtain ⟨n, rfl⟩ : ∃ m, n = m + 1 := ⟨n - 1, by omega⟩
    rw [f_X1_weigh_26, if_neg (show ¬ (6 : Int32) < nI j from nI_nl (a := 6) (by omega) (by decide))]
    split
    · rw [bnd_e, nI_1]; exact hK c
    · obtain ⟨y, ey⟩ := j13 (x &&& l_OS (nI j).toNatClampNeg) M
      rw [chk_t (inB_n (show j < 7 by omega) (by decide)), ey, obd_s, f_bcx b16 M, obd_s, chk_t hw, nI_add, hl, chk_t (inB_n (by omega) (by decide)), bnd_e, bnd_e, nI_1]
      exact ih (j + 1) n _ _ (by omega) (by omega)
theorem F1.wg (f : F1 M o q N) (h16 : N ≤ 16) {w : Nat} {a : Int32} (ha : a = -1 ∨ ∃ v, v < 16 ∧ a = nI v) (hw : isO M 101 w) (hl : mLn M w = 17) : ∀ (d i n : Nat) (c : Int64), i + d = us6 N → d + 20 ≤ n → ∃ r, f_X1_weigh_5 M n o a w c (nI i) = some r := by
  have u := us_b h16
  intro d
  induction d with
  | zero =>
    intro i n c hi hn
    obtain ⟨n, rfl⟩ : ∃ m, n = m + 1 := ⟨n - 1, by omega⟩
    exact ⟨c, by rw [f_X1_weigh_5, chk_t f.1.1, f.2.2, if_pos (nI_le (by omega) (by omega))]⟩
  | succ d ih =>
    intro i n c hi hn
    obtain ⟨n, rfl⟩ : ∃ m, n = m + 1 := ⟨n - 1, by omega⟩
    obtain ⟨x, ex⟩ := f.hv h16 (k := i) (by omega) ha
    rw [f_X1_weigh_5, chk_t f.1.1, f.2.2, if_neg (nI_ge (by omega) (by omega)), ex, obd_s]
    exact wg26 (by omega) hw hl (fun c => ih (i + 1) n c (by omega) (by omega)) 7 0 n c x rfl (by omega)
end
theorem p8_ex (M : Mem) (a e : Int32) (K : Nat) (he : e ≤ nI K) (hK : K < 1000) : ∀ (d i n : Nat) (c : Int64), i + d = K → d + 1 ≤ n → ∃ r, f_X8_power_5 M n a e c (nI i) = some r := by
  intro d
  induction d with
  | zero =>
    intro i n c hi hn
    obtain ⟨n, rfl⟩ : ∃ m, n = m + 1 := ⟨n - 1, by omega⟩
    exact ⟨c, by rw [f_X8_power_5, if_pos (by rw [show i = K by omega]; exact he)]⟩
  | succ d ih =>
    intro i n c hi hn
    obtain ⟨n, rfl⟩ : ∃ m, n = m + 1 := ⟨n - 1, by omega⟩
    by_cases z : e ≤ nI i
    · exact ⟨c, by rw [f_X8_power_5, if_pos z]⟩
    · rw [f_X8_power_5, if_neg z, bnd_e, bnd_e, nI_1]
      exact ih (i + 1) n _ (by omega) (by omega)
theorem p8 (M : Mem) (a : Int32) {k n : Nat} (hk : k ≤ 16) (hn : 20 ≤ n) : ∃ r, f_X8_power n a (nI k) M = some r :=
  p8_ex M a (nI k) 16 (nI_le hk (by decide)) (by decide) 16 0 n 1 rfl (by omega)
/-- the survey's shapes -/
def W5 (M : Mem) : Prop := (isO M 8 5 ∧ isO M 1 6 ∧ isO M 101 7 ∧ isO M 1 8 ∧ isO M 101 9 ∧ isO M 101 10 ∧ isO M 100 11 ∧ isO M 100 12 ∧ isO M 100 13) ∧ (mR M 5 0 = 6 ∧ mR M 5 1 = 8 ∧ mR M 5 2 = 10 ∧ mR M 5 3 = 11 ∧ mR M 5 4 = 12 ∧ mR M 5 5 = 13 ∧ mR M 6 0 = 7 ∧ mR M 8 0 = 9) ∧ (mLn M 7 = 1024 ∧ mLn M 9 = 1024 ∧ mLn M 10 = 17 ∧ mLn M 11 = 305 ∧ mLn M 12 = 16 ∧ mLn M 13 = 16)
theorem W5.e {M M' : Mem} (h : W5 M) (e : M'.1 = M.1) : W5 M' := by
  unfold W5 isO mN mC mR mLn at *
  rw [e]; exact h
theorem m8_l {N : Nat} (h16 : N ≤ 16) {a v2 : Int32} (ha : a = -1 ∨ ∃ v, v < 16 ∧ a = nI v) : ∀ (d i n : Nat) (M : Mem), i + d = N + 1 → W5 M → F1 M 8 9 N → d + 1100 ≤ n → ∃ x M', f_X8_millionths_3 n 5 a v2 (nI N) (nI i) M = some (x, M') ∧ FrLg M M' := by
  have u := us_b h16
  intro d
  induction d with
  | zero =>
    intro i n M hi w f hn
    obtain ⟨n, rfl⟩ : ∃ m, n = m + 1 := ⟨n - 1, by omega⟩
    obtain ⟨⟨w1, w2, w3, w4, w5, w6, w7, w8, w9⟩, ⟨y1, y2, y3, y4, y5, y6, y7, y8⟩, ⟨z1, z2, z3, z4, z5, z6⟩⟩ := w
    obtain ⟨x, ex⟩ := f.wg h16 ha w6 z3 (us6 N) 0 n 0 (by omega) (by omega)
    have ex' : f_X1_weigh n 8 a 10 M = some x := ex
    rw [f_X8_millionths_3, if_pos (nI_lt (by omega) (by omega)), chk_t w1, y2, bnd_e, chk_t w4, y3, bnd_e, chk_t w6, ex', obd_s]
    by_cases c : 6 ≤ N
    · obtain ⟨p, ep⟩ := p8 M (10 : Int32) (k := N - 6) (n := n) (by omega) (by omega)
      have nz : ¬ (if p < (1 : Int64) then (1 : Int64) else p) = 0 := by
        by_cases z : p < (1 : Int64)
        · rw [if_pos z]; decide
        · rw [if_neg z]
          intro h
          rw [h] at z
          exact z (by decide)
      exact ⟨_, M, by rw [if_pos (show (6 : Int32) ≤ nI N from nI_le (a := 6) c (by omega)), show nI N - (6 : Int32) = nI (N - 6) by rw [show (6 : Int32) = nI 6 from rfl, nI_sb c], ep, obd_s, chk_t nz], FrLg.rf M⟩
    · obtain ⟨p, ep⟩ := p8 M (10 : Int32) (k := 6 - N) (n := n) (by omega) (by omega)
      exact ⟨_, M, by rw [if_neg (show ¬ (6 : Int32) ≤ nI N from nI_ge (b := 6) (by omega) (by decide)), show (6 : Int32) - nI N = nI (6 - N) by rw [show (6 : Int32) = nI 6 from rfl, nI_sb (by omega)], ep, obd_s], FrLg.rf M⟩
  | succ d ih =>
    intro i n M hi w f hn
    obtain ⟨n, rfl⟩ : ∃ m, n = m + 1 := ⟨n - 1, by omega⟩
    obtain ⟨⟨w1, w2, w3, w4, w5, w6, w7, w8, w9⟩, ⟨y1, y2, y3, y4, y5, y6, y7, y8⟩, ⟨z1, z2, z3, z4, z5, z6⟩⟩ := id w
    obtain ⟨p, ep⟩ := p8 M ((10 : Int32) - v2) (k := i) (n := n) (by omega) (by omega)
    obtain ⟨p', ep'⟩ := p8 M v2 (k := N - i) (n := n) (by omega) (by omega)
    have fl := FrLg.s M 10 (nI i).toNatClampNeg (p * p')
    obtain ⟨x, M', e', f'⟩ := ih (i + 1) n (sL M 10 (nI i).toNatClampNeg (p * p')) (by omega) (w.e rfl) (f.l fl) (by omega)
    exact ⟨x, M', by rw [f_X8_millionths_3, if_neg (nI_nl (by omega) (by omega)), chk_t w1, y3, bnd_e, chk_t w6, ep, obd_s, nI_sb (by omega), ep', obd_s, z3, chk_t (inB_n (by omega) (by decide)), bnd_e, bnd_e, nI_1]; exact e', fl.tr f'⟩
/-! ===== the survey, the class: what is greater, and the tree's wholes ===== -/
theorem nx_xor (a b : Nat) : nI a ^^^ nI b = nI (a ^^^ b) := by
  refine b_ext fun i hi => ?_
  rw [b_xor, bt_nI _ hi, bt_nI _ hi, bt_nI _ hi, Nat.testBit_xor]
section
variable {o q N : Nat}
theorem ag18 (h16 : N ≤ 16) {K : Nat → Int32 → Mem → Option Mem} {i : Nat} (hi : i < 6) (hK : ∀ M, F1 M o q N → ∃ M', K o (nI (i + 1)) M = some M' ∧ FrLg M M') : ∀ (d j n : Nat) (M : Mem), j + d = us6 N → F1 M o q N → d + 1 ≤ n → ∃ M', f_X1_addGreater_18 K n o (nI i) (nI j) M = some M' ∧ FrLg M M' := by
  have u := us_b h16
  intro d
  induction d with
  | zero =>
    intro j n M hj f hn
    obtain ⟨n, rfl⟩ : ∃ m, n = m + 1 := ⟨n - 1, by omega⟩
    obtain ⟨M', e', f'⟩ := hK M f
    exact ⟨M', by rw [f_X1_addGreater_18, chk_t f.1.1, f.2.2, if_pos (nI_le (by omega) (by omega)), bnd_e, nI_1]; exact e', f'⟩
  | succ d ih =>
    intro j n M hj f hn
    obtain ⟨n, rfl⟩ : ∃ m, n = m + 1 := ⟨n - 1, by omega⟩
    have ib : inB (nI j) (mLn M q) := by rw [f.1.2.2.2]; exact inB_n (by omega) (by decide)
    rw [f_X1_addGreater_18, chk_t f.1.1, f.2.2, if_neg (nI_ge (by omega) (by omega)), f.1.2.1, bnd_e, chk_t f.1.2.2.1, chk_t ib, bnd_e, chk_t f.1.2.2.1, chk_t ib, chk_t (inB_n (show i < 6 from hi) (by decide)), chk_t ib, bnd_e, bnd_e, nI_1]
    generalize ((mL M q (nI j).toNatClampNeg) ||| (((mL M q (nI j).toNatClampNeg) &&& ((l_HV (nI i).toNatClampNeg) ^^^ (-1 : Int64))) <<< ((((1 : Int32) <<< (nI i &&& 31))).toInt64 &&& 63))) = y
    have fl := FrLg.s M q (nI j).toNatClampNeg y
    obtain ⟨M', e', f'⟩ := ih (j + 1) n _ (by omega) (f.l fl) (by omega)
    exact ⟨M', e', fl.tr f'⟩
theorem ag79 (h16 : N ≤ 16) {K : Nat → Int32 → Mem → Option Mem} {p k : Nat} (hk : us6 N = 2 ^ k) (hp : p < us6 N) (hK : ∀ M, F1 M o q N → ∃ M', K o (nI (p * 2)) M = some M' ∧ FrLg M M') : ∀ (d j n : Nat) (M : Mem), j + d = us6 N → F1 M o q N → d + 1 ≤ n → ∃ M', f_X1_addGreater_79 K n o (nI p) (nI j) M = some M' ∧ FrLg M M' := by
  have u := us_b h16
  intro d
  induction d with
  | zero =>
    intro j n M hj f hn
    obtain ⟨n, rfl⟩ : ∃ m, n = m + 1 := ⟨n - 1, by omega⟩
    obtain ⟨M', e', f'⟩ := hK M f
    exact ⟨M', by rw [f_X1_addGreater_79, chk_t f.1.1, f.2.2, if_pos (nI_le (by omega) (by omega)), bnd_e, show (2 : Int32) = nI 2 from rfl, pk_mul]; exact e', f'⟩
  | succ d ih =>
    intro j n M hj f hn
    obtain ⟨n, rfl⟩ : ∃ m, n = m + 1 := ⟨n - 1, by omega⟩
    rw [f_X1_addGreater_79, chk_t f.1.1, f.2.2, if_neg (nI_ge (by omega) (by omega))]
    by_cases c : nI j &&& nI p = 0
    · rw [if_pos c, bnd_e, nI_1]
      exact ih (j + 1) n M (by omega) f (by omega)
    · have ib : inB (nI j) (mLn M q) := by rw [f.1.2.2.2]; exact inB_n (by omega) (by decide)
      have hx : j ^^^ p < 2 ^ k := Nat.xor_lt_two_pow (by omega) (by omega)
      have ix : inB (nI (j ^^^ p)) (mLn M q) := by rw [f.1.2.2.2]; exact inB_n (by omega) (by decide)
      rw [if_neg c, f.1.2.1, bnd_e, chk_t f.1.2.2.1, chk_t ib, bnd_e, chk_t f.1.2.2.1, nx_xor, chk_t ix, chk_t ib, bnd_e, bnd_e, nI_1]
      generalize ((mL M q (nI j).toNatClampNeg) ||| (mL M q (nI (j ^^^ p)).toNatClampNeg)) = y
      have fl := FrLg.s M q (nI j).toNatClampNeg y
      obtain ⟨M', e', f'⟩ := ih (j + 1) n _ (by omega) (f.l fl) (by omega)
      exact ⟨M', e', fl.tr f'⟩
theorem ag69 (h16 : N ≤ 16) {k : Nat} (hk : us6 N = 2 ^ k) : ∀ (d e n : Nat) (M : Mem), e + d = k → F1 M o q N → d + 1030 ≤ n → ∃ M', f_X1_addGreater_69 n o (nI (2 ^ e)) M = some M' ∧ FrLg M M' := by
  have u := us_b h16
  intro d
  induction d with
  | zero =>
    intro e n M he f hn
    obtain ⟨n, rfl⟩ : ∃ m, n = m + 1 := ⟨n - 1, by omega⟩
    exact ⟨M, by rw [f_X1_addGreater_69, chk_t f.1.1, f.2.2, hk, show e = k by omega, if_pos (Int32.le_refl _)], FrLg.rf M⟩
  | succ d ih =>
    intro e n M he f hn
    obtain ⟨n, rfl⟩ : ∃ m, n = m + 1 := ⟨n - 1, by omega⟩
    have hp : 2 ^ e < us6 N := by rw [hk]; exact Nat.pow_lt_pow_right (by decide) (by omega)
    rw [f_X1_addGreater_69, chk_t f.1.1, f.2.2, if_neg (nI_ge hp (by omega))]
    exact ag79 h16 hk hp (fun M f => by rw [← Nat.pow_succ]; exact ih (e + 1) n M (by omega) f (by omega)) (us6 N) 0 n M (by omega) f (by omega)
theorem ag2 (h16 : N ≤ 16) : ∀ (d i n : Nat) (M : Mem), i + d = 6 → F1 M o q N → d + 1050 ≤ n → ∃ M', f_X1_addGreater_2 n o (nI i) M = some M' ∧ FrLg M M' := by
  have u := us_b h16
  obtain ⟨k, k10, hk⟩ := us_p h16
  intro d
  induction d with
  | zero =>
    intro i n M hi f hn
    obtain ⟨n, rfl⟩ : ∃ m, n = m + 1 := ⟨n - 1, by omega⟩
    rw [f_X1_addGreater_2, if_pos (show (6 : Int32) ≤ nI i from nI_le (a := 6) (by omega) (by omega))]
    exact ag69 h16 hk k 0 n M (by omega) f (by omega)
  | succ d ih =>
    intro i n M hi f hn
    obtain ⟨n, rfl⟩ : ∃ m, n = m + 1 := ⟨n - 1, by omega⟩
    rw [f_X1_addGreater_2, if_neg (show ¬ (6 : Int32) ≤ nI i from nI_ge (b := 6) (by omega) (by decide)), chk_t f.1.1]
    split
    · exact ag69 h16 hk k 0 n M (by omega) f (by omega)
    · exact ag18 h16 (by omega) (fun M f => ih (i + 1) n M (by omega) f (by omega)) (us6 N) 0 n M (by omega) f (by omega)
theorem F1.ag {M : Mem} (f : F1 M o q N) (h16 : N ≤ 16) {n : Nat} (hn : 1100 ≤ n) : ∃ M', f_X1_addGreater n o M = some M' ∧ FrLg M M' :=
  ag2 h16 6 0 n M rfl f (by omega)
theorem fl_l {q : Nat} (x : Int64) : ∀ (d i n : Nat) (M : Mem), i + d = 1024 → isO M 101 q → mLn M q = 1024 → d + 1 ≤ n → ∃ M', f_J7_fill_d0a16_6 n q x (nI i) (nI 1024) M = some M' ∧ FrLg M M' := by
  intro d
  induction d with
  | zero =>
    intro i n M hi a b hn
    obtain ⟨n, rfl⟩ : ∃ m, n = m + 1 := ⟨n - 1, by omega⟩
    exact ⟨M, by rw [f_J7_fill_d0a16_6, if_pos (nI_le (by omega) (by omega))], FrLg.rf M⟩
  | succ d ih =>
    intro i n M hi a b hn
    obtain ⟨n, rfl⟩ : ∃ m, n = m + 1 := ⟨n - 1, by omega⟩
    have fl := FrLg.s M q (nI i).toNatClampNeg x
    obtain ⟨M', e', f'⟩ := ih (i + 1) n (sL M q (nI i).toNatClampNeg x) (by omega) a b (by omega)
    exact ⟨M', by rw [f_J7_fill_d0a16_6, if_neg (nI_ge (by omega) (by decide)), chk_t a, b, chk_t (inB_n (by omega) (by decide)), bnd_e, bnd_e, nI_1]; exact e', fl.tr f'⟩
theorem us_N : ∀ N, N < 17 → ¬ N ≤ 6 → ((1 : Int32) <<< ((nI N - (6 : Int32)) &&& 31)) = nI (us6 N) := by decide +kernel
theorem bg_1 (h16 : N ≤ 16) {M : Mem} (s : isO M 1 o ∧ mR M o 0 = q ∧ isO M 101 q ∧ mLn M q = 1024) {n : Nat} (hn : 1100 ≤ n) : ∃ M', f_X1_begin n o (nI N) M = some M' ∧ F1 M' o q N ∧ M'.1 = M.1 ∧ ∀ a, a ≠ o → ∀ b, mI M' a b = mI M a b := by
  obtain ⟨s1, s2, s3, s4⟩ := s
  have b22 : ∃ M', f_X1_begin_22 n o (nI (us6 N)) o (sI M o 1 (nI N)) = some M' ∧ FrLg (sI (sI M o 1 (nI N)) o 2 (nI (us6 N))) M' := by
    obtain ⟨M', e', f'⟩ := fl_l (q := q) 0 1024 0 n (sI (sI M o 1 (nI N)) o 2 (nI (us6 N))) rfl s3 s4 (by omega)
    have l4 : mLn (sI (sI M o 1 (nI N)) o 2 (nI (us6 N))) q = 1024 := s4
    have r2 : mR (sI (sI M o 1 (nI N)) o 2 (nI (us6 N))) o 0 = q := s2
    refine ⟨M', ?_, f'⟩
    rw [f_X1_begin_22, chk_t (show isO (sI M o 1 (nI N)) 1 o from s1), bnd_e, chk_t (show isO (sI (sI M o 1 (nI N)) o 2 (nI (us6 N))) 1 o from s1), r2, bnd_e, chk_t (show isO (sI (sI M o 1 (nI N)) o 2 (nI (us6 N))) 101 q from s3), f_J7_fill_d0a16, chk_t (show isO (sI (sI M o 1 (nI N)) o 2 (nI (us6 N))) 101 q from s3), l4, bnd_e]
    rw [show f_J7_fill_d0a16_6 n q 0 0 (Int32.ofNat 1024) (sI (sI M o 1 (nI N)) o 2 (nI (us6 N))) = some M' from e', obd_s]
  obtain ⟨M', e', f'⟩ := b22
  have i1 : ∀ a, a ≠ o → ∀ b, mI M' a b = mI M a b := fun a n b => by rw [f'.2, mI_o _ _ _ _ _ n, mI_o _ _ _ _ _ n]
  refine ⟨M', ?_, ?_, f'.1, i1⟩
  · rw [f_X1_begin, chk_t s1, bnd_e]
    by_cases c : N ≤ 6
    · rw [if_pos (show nI N ≤ (6 : Int32) from nI_le (b := 6) c (by decide))]
      have : us6 N = 1 := by unfold us6; rw [if_neg (by omega)]
      rw [this] at e'
      exact e'
    · rw [if_neg (show ¬ nI N ≤ (6 : Int32) from nI_ge (a := 6) (by omega) (by omega)), us_N N (by omega) c]
      exact e'
  · have io : ∀ {c o}, isO M c o → isO M' c o := fun z => by unfold isO mN mC at *; rw [f'.1]; exact z
    exact ⟨⟨io s1, by rw [mR_e f'.1]; exact s2, io s3, by rw [mLn_e f'.1]; exact s4⟩, by rw [f'.2, mI_n _ _ _ _ (by decide), mI_s], by rw [f'.2, mI_s]⟩
end
/-! the tree's wholes -/
def TW (M : Mem) (c : Nat) : Prop := mI M 5 6 = nI c ∧ c ≤ 305 ∧ ∀ j, j < c → SO (mI M 11 j)
def Fw (M M' : Mem) : Prop := M'.1 = M.1 ∧ (∀ o, o ≠ 5 → o ≠ 11 → ∀ b, mI M' o b = mI M o b) ∧ ∀ b, b ≠ 6 → mI M' 5 b = mI M 5 b
theorem Fw.rf (M : Mem) : Fw M M := ⟨rfl, fun _ _ _ _ => rfl, fun _ _ => rfl⟩
theorem Fw.tr {M M' M'' : Mem} (h : Fw M M') (h' : Fw M' M'') : Fw M M'' := ⟨h'.1.trans h.1, fun o n n' b => (h'.2.1 o n n' b).trans (h.2.1 o n n' b), fun b n => (h'.2.2 b n).trans (h.2.2 b n)⟩
theorem lw1 {M : Mem} {c : Nat} {x : Int32} (w : W5 M) (h : TW M c) (hx : SO x) : ∃ M' c', f_X8_listWhole 5 x M = some M' ∧ TW M' c' ∧ c ≤ c' ∧ Fw M M' := by
  obtain ⟨⟨w1, w2, w3, w4, w5, w6, w7, w8, w9⟩, ⟨y1, y2, y3, y4, y5, y6, y7, y8⟩, ⟨z1, z2, z3, z4, z5, z6⟩⟩ := w
  obtain ⟨t1, t2, t3⟩ := h
  by_cases k : 305 ≤ c
  · exact ⟨M, c, by rw [f_X8_listWhole, chk_t w1, t1, if_pos (show (305 : Int32) ≤ nI c from nI_le (a := 305) k (by omega))], ⟨t1, t2, t3⟩, Nat.le_refl _, Fw.rf M⟩
  · have e5 : mI (sI M 11 c x) 5 6 = nI c := by rw [mI_o _ _ _ _ _ (by decide)]; exact t1
    refine ⟨sI (sI M 11 c x) 5 6 (nI (c + 1)), c + 1, ?_, ⟨mI_s _ _ _ _, by omega, fun j hj => ?_⟩, by omega, rfl, fun o n n' b => by rw [mI_o _ _ _ _ _ n, mI_o _ _ _ _ _ n'], fun b n => by rw [mI_n _ _ _ _ n, mI_o _ _ _ _ _ (by decide)]⟩
    · rw [f_X8_listWhole, chk_t w1, t1, if_neg (show ¬ (305 : Int32) ≤ nI c from nI_ge (b := 305) (by omega) (by decide)), y4, bnd_e, chk_t w7, z4, chk_t (inB_n (by omega) (by decide)), sI_c (by omega), bnd_e, e5, nI_1, bnd_e]
    · rw [mI_o _ _ _ _ _ (by decide)]
      by_cases e : j = c
      · rw [e, mI_s]; exact hx
      · rw [mI_n _ _ _ _ e]; exact t3 j (by omega)
theorem lw92 {v r b : Nat} (hv : v < 16) (hr : r < 16) : ∀ (d j n : Nat) (M : Mem) (c : Nat), j + d = b → W5 M → TW M c → mI M 13 r = nI b → b ≤ c → d + 1 ≤ n → ∃ M' c', f_X8_listWholes_92 n 5 (nI v) (nI r) (nI j) M = some M' ∧ TW M' c' ∧ c ≤ c' ∧ Fw M M' := by
  intro d
  induction d with
  | zero =>
    intro j n M c hj w h hb hc hn
    obtain ⟨n, rfl⟩ : ∃ m, n = m + 1 := ⟨n - 1, by omega⟩
    have h305 := h.2.1
    obtain ⟨⟨w1, w2, w3, w4, w5, w6, w7, w8, w9⟩, ⟨y1, y2, y3, y4, y5, y6, y7, y8⟩, ⟨z1, z2, z3, z4, z5, z6⟩⟩ := w
    exact ⟨M, c, by rw [f_X8_listWholes_92, chk_t w1, y6, bnd_e, chk_t w9, z6, chk_t (inB_n hr (by decide)), mI_c (by omega), hb, if_pos (nI_le (by omega) (by omega))], h, Nat.le_refl _, Fw.rf M⟩
  | succ d ih =>
    intro j n M c hj w h hb hc hn
    obtain ⟨n, rfl⟩ : ∃ m, n = m + 1 := ⟨n - 1, by omega⟩
    have h305 := h.2.1
    obtain ⟨⟨w1, w2, w3, w4, w5, w6, w7, w8, w9⟩, ⟨y1, y2, y3, y4, y5, y6, y7, y8⟩, ⟨z1, z2, z3, z4, z5, z6⟩⟩ := id w
    obtain ⟨M1, c1, e1, t1, k1, f1⟩ := lw1 w h ((SO.one hv).or (h.2.2 j (by omega)))
    obtain ⟨M', c', e', t', k', f'⟩ := ih (j + 1) n M1 c1 (by omega) (w.e f1.1) t1 (by rw [f1.2.1 13 (by decide) (by decide)]; exact hb) (by omega) (by omega)
    exact ⟨M', c', by rw [f_X8_listWholes_92, chk_t w1, y6, bnd_e, chk_t w9, z6, chk_t (inB_n hr (by decide)), mI_c (by omega), hb, if_neg (nI_ge (by omega) (by omega)), y4, bnd_e, chk_t w7, z4, chk_t (inB_n (by omega) (by decide)), mI_c (by omega), e1, obd_s, bnd_e, nI_1]; exact e', t', by omega, f1.tr f'⟩
theorem lw42 {v l r i ar br bl c0 : Nat} (hl : l < 16) (hr : r < 16) (hi : i < bl) (hbl : bl ≤ c0) (hbr : br ≤ c0) {K : Nat → Int32 → Int32 → Int32 → Int32 → Mem → Option Mem} (hK : ∀ (M : Mem) (c : Nat), W5 M → TW M c → c0 ≤ c → mI M 12 r = nI ar → mI M 13 r = nI br → mI M 13 l = nI bl → ∃ M' c', K 5 (nI v) (nI l) (nI r) (nI (i + 1)) M = some M' ∧ TW M' c' ∧ c ≤ c' ∧ Fw M M') : ∀ (d j n : Nat) (M : Mem) (c : Nat), j + d = br → W5 M → TW M c → c0 ≤ c → mI M 12 r = nI ar → mI M 13 r = nI br → mI M 13 l = nI bl → d + 1 ≤ n → ∃ M' c', f_X8_listWholes_42 K n 5 (nI v) (nI l) (nI r) (nI i) (nI j) M = some M' ∧ TW M' c' ∧ c ≤ c' ∧ Fw M M' := by
  intro d
  induction d with
  | zero =>
    intro j n M c hj w h hc ra rb lb hn
    obtain ⟨n, rfl⟩ : ∃ m, n = m + 1 := ⟨n - 1, by omega⟩
    have h305 := h.2.1
    obtain ⟨⟨w1, w2, w3, w4, w5, w6, w7, w8, w9⟩, ⟨y1, y2, y3, y4, y5, y6, y7, y8⟩, ⟨z1, z2, z3, z4, z5, z6⟩⟩ := id w
    rw [f_X8_listWholes_42, chk_t w1, y6, bnd_e, chk_t w9, z6, chk_t (inB_n hr (by decide)), mI_c (by omega), rb, if_pos (nI_le (by omega) (by omega)), bnd_e, nI_1]
    exact hK M c w h hc ra rb lb
  | succ d ih =>
    intro j n M c hj w h hc ra rb lb hn
    obtain ⟨n, rfl⟩ : ∃ m, n = m + 1 := ⟨n - 1, by omega⟩
    have h305 := h.2.1
    obtain ⟨⟨w1, w2, w3, w4, w5, w6, w7, w8, w9⟩, ⟨y1, y2, y3, y4, y5, y6, y7, y8⟩, ⟨z1, z2, z3, z4, z5, z6⟩⟩ := id w
    obtain ⟨M1, c1, e1, t1, k1, f1⟩ := lw1 w h ((h.2.2 i (by omega)).or (h.2.2 j (by omega)))
    have g : ∀ o, o = 12 ∨ o = 13 → ∀ b, mI M1 o b = mI M o b := fun o ho b => f1.2.1 o (by omega) (by omega) b
    obtain ⟨M', c', e', t', k', f'⟩ := ih (j + 1) n M1 c1 (by omega) (w.e f1.1) t1 (by omega) (by rw [g 12 (by omega)]; exact ra) (by rw [g 13 (by omega)]; exact rb) (by rw [g 13 (by omega)]; exact lb) (by omega)
    exact ⟨M', c', by rw [f_X8_listWholes_42, chk_t w1, y6, bnd_e, chk_t w9, z6, chk_t (inB_n hr (by decide)), mI_c (by omega), rb, if_neg (nI_ge (by omega) (by omega)), y4, bnd_e, chk_t w7, z4, chk_t (inB_n (by omega) (by decide)), bnd_e, chk_t w7, z4, chk_t (inB_n (by omega) (by decide)), mI_c (by omega), mI_c (by omega), e1, obd_s, bnd_e, nI_1]; exact e', t', by omega, f1.tr f'⟩
theorem lw8 {v l r ar br bl c0 : Nat} (hv : v < 16) (hl : l < 16) (hr : r < 16) (hab : ar ≤ br) (hbl : bl ≤ c0) (hbr : br ≤ c0) : ∀ (d i n : Nat) (M : Mem) (c : Nat), i + d = bl → W5 M → TW M c → c0 ≤ c → mI M 12 r = nI ar → mI M 13 r = nI br → mI M 13 l = nI bl → d + 400 ≤ n → ∃ M' c', f_X8_listWholes_8 n 5 (nI v) (nI l) (nI r) (nI i) M = some M' ∧ TW M' c' ∧ c ≤ c' ∧ Fw M M' := by
  intro d
  induction d with
  | zero =>
    intro i n M c hi w h hc ra rb lb hn
    obtain ⟨n, rfl⟩ : ∃ m, n = m + 1 := ⟨n - 1, by omega⟩
    have h305 := h.2.1
    obtain ⟨⟨w1, w2, w3, w4, w5, w6, w7, w8, w9⟩, ⟨y1, y2, y3, y4, y5, y6, y7, y8⟩, ⟨z1, z2, z3, z4, z5, z6⟩⟩ := id w
    rw [f_X8_listWholes_8, chk_t w1, y6, bnd_e, chk_t w9, z6, chk_t (inB_n hl (by decide)), mI_c (by omega), lb, if_pos (nI_le (by omega) (by omega)), y5, bnd_e, chk_t w8, z5, chk_t (inB_n hr (by decide)), mI_c (by omega), ra, bnd_e]
    exact lw92 hv hr (br - ar) ar n M c (by omega) w h rb (by omega) (by omega)
  | succ d ih =>
    intro i n M c hi w h hc ra rb lb hn
    obtain ⟨n, rfl⟩ : ∃ m, n = m + 1 := ⟨n - 1, by omega⟩
    have h305 := h.2.1
    obtain ⟨⟨w1, w2, w3, w4, w5, w6, w7, w8, w9⟩, ⟨y1, y2, y3, y4, y5, y6, y7, y8⟩, ⟨z1, z2, z3, z4, z5, z6⟩⟩ := id w
    obtain ⟨M1, c1, e1, t1, k1, f1⟩ := lw1 w h ((SO.one hv).or (h.2.2 i (by omega)))
    have g : ∀ o, o = 12 ∨ o = 13 → ∀ b, mI M1 o b = mI M o b := fun o ho b => f1.2.1 o (by omega) (by omega) b
    have ra1 : mI M1 12 r = nI ar := by rw [g 12 (by omega)]; exact ra
    have W1 := w.e f1.1
    obtain ⟨M', c', e', t', k', f'⟩ := lw42 hl hr (by omega) hbl hbr (K := f_X8_listWholes_8 n) (i := i) (v := v) (fun M c w h hc ra rb lb => ih (i + 1) n M c (by omega) w h hc ra rb lb (by omega)) (br - ar) ar n M1 c1 (by omega) W1 t1 (by omega) ra1 (by rw [g 13 (by omega)]; exact rb) (by rw [g 13 (by omega)]; exact lb) (by omega)
    exact ⟨M', c', by rw [f_X8_listWholes_8, chk_t w1, y6, bnd_e, chk_t w9, z6, chk_t (inB_n hl (by decide)), mI_c (by omega), lb, if_neg (nI_ge (by omega) (by omega)), y4, bnd_e, chk_t w7, z4, chk_t (inB_n (by omega) (by decide)), mI_c (by omega), e1, obd_s, chk_t W1.1.1, W1.2.1.2.2.2.2.1, bnd_e, chk_t W1.1.2.2.2.2.2.2.2.1, W1.2.2.2.2.2.2.1, chk_t (inB_n hr (by decide)), mI_c (by omega), ra1, bnd_e]; exact e', t', by omega, f1.tr f'⟩
/-! ===== the survey, the class, whole ===== -/
def Fx (M M' : Mem) : Prop := M'.1 = M.1 ∧ (∀ o, o ≠ 5 → ¬ (11 ≤ o ∧ o ≤ 13) → ∀ b, mI M' o b = mI M o b) ∧ ∀ b, b ≠ 6 → mI M' 5 b = mI M 5 b
theorem Fx.rf (M : Mem) : Fx M M := ⟨rfl, fun _ _ _ _ => rfl, fun _ _ => rfl⟩
theorem Fx.tr {M M' M'' : Mem} (h : Fx M M') (h' : Fx M' M'') : Fx M M'' := ⟨h'.1.trans h.1, fun o n n' b => (h'.2.1 o n n' b).trans (h.2.1 o n n' b), fun b n => (h'.2.2 b n).trans (h.2.2 b n)⟩
theorem Fw.x {M M' : Mem} (h : Fw M M') : Fx M M' := ⟨h.1, fun o n n' b => h.2.1 o n (by omega) b, h.2.2⟩
theorem FrLg.x {M M' : Mem} (h : FrLg M M') : Fx M M' := ⟨h.1, fun o _ _ b => h.2 o b, fun b _ => h.2 5 b⟩
theorem Fx.s {M : Mem} {o k : Nat} {x : Int32} (h : 11 ≤ o ∧ o ≤ 13) : Fx M (sI M o k x) := ⟨rfl, fun a n n' b => mI_o _ _ _ _ _ (by omega), fun b n => mI_o _ _ _ _ _ (by omega)⟩
theorem F1.x {M M' : Mem} {N : Nat} (h : F1 M 8 9 N) (f : Fx M M') : F1 M' 8 9 N := by
  obtain ⟨⟨a, b, c, d⟩, e, g⟩ := h
  have io : ∀ {c o}, isO M c o → isO M' c o := fun z => by unfold isO mN mC at *; rw [f.1]; exact z
  exact ⟨⟨io a, by rw [mR_e f.1]; exact b, io c, by rw [mLn_e f.1]; exact d⟩, by rw [f.2.1 8 (by decide) (by decide)]; exact e, by rw [f.2.1 8 (by decide) (by decide)]; exact g⟩
theorem aw80 {N b : Nat} : ∀ (d j n : Nat) (M : Mem) (c : Nat), j + d = b → W5 M → TW M c → F1 M 8 9 N → mI M 13 0 = nI b → b ≤ c → d + 1 ≤ n → ∃ M', f_X8_addWholes_80 n 5 (nI j) M = some M' ∧ FrLg M M' := by
  intro d
  induction d with
  | zero =>
    intro j n M c hj w h f hb hc hn
    obtain ⟨n, rfl⟩ : ∃ m, n = m + 1 := ⟨n - 1, by omega⟩
    have h305 := h.2.1
    obtain ⟨⟨w1, w2, w3, w4, w5, w6, w7, w8, w9⟩, ⟨y1, y2, y3, y4, y5, y6, y7, y8⟩, ⟨z1, z2, z3, z4, z5, z6⟩⟩ := w
    exact ⟨M, by rw [f_X8_addWholes_80, chk_t w1, y6, bnd_e, chk_t w9, z6, chk_t (show inB (0 : Int32) 16 by decide), show mI M 13 ((0 : Int32)).toNatClampNeg = nI b from hb, if_pos (nI_le (by omega) (by omega))], FrLg.rf M⟩
  | succ d ih =>
    intro j n M c hj w h f hb hc hn
    obtain ⟨n, rfl⟩ : ∃ m, n = m + 1 := ⟨n - 1, by omega⟩
    have h305 := h.2.1
    obtain ⟨⟨w1, w2, w3, w4, w5, w6, w7, w8, w9⟩, ⟨y1, y2, y3, y4, y5, y6, y7, y8⟩, ⟨z1, z2, z3, z4, z5, z6⟩⟩ := id w
    obtain ⟨M1, e1, f1⟩ := f.add (h.2.2 j (by omega))
    have t1 : TW M1 c := ⟨by rw [f1.2]; exact h.1, h.2.1, fun j hj => by rw [f1.2]; exact h.2.2 j hj⟩
    obtain ⟨M', e', f'⟩ := ih (j + 1) n M1 c (by omega) (w.e f1.1) t1 (f.l f1) (by rw [f1.2]; exact hb) hc (by omega)
    exact ⟨M', by rw [f_X8_addWholes_80, chk_t w1, y6, bnd_e, chk_t w9, z6, chk_t (show inB (0 : Int32) 16 by decide), show mI M 13 ((0 : Int32)).toNatClampNeg = nI b from hb, if_neg (nI_ge (by omega) (by omega)), y2, bnd_e, chk_t w4, y4, bnd_e, chk_t w7, z4, chk_t (inB_n (by omega) (by decide)), mI_c (by omega), e1, obd_s, bnd_e, nI_1]; exact e', f1.tr f'⟩
/-- the number before v -/
def nB : Nat → Int32
  | 0 => -1
  | k + 1 => nI k
theorem nB_s (k : Nat) : nI k + (-1 : Int32) = nB k := by
  cases k with
  | zero => decide
  | succ k => exact nI_d1 k
theorem aw9 {N : Nat} (h1 : 1 ≤ N) (h16 : N ≤ 16) : ∀ (k n : Nat) (M : Mem) (c : Nat), k ≤ N → W5 M → TW M c → F1 M 8 9 N → (∀ u, k ≤ u → u < N → ∃ a b, a ≤ b ∧ b ≤ c ∧ mI M 12 u = nI a ∧ mI M 13 u = nI b) → k + 1000 ≤ n → ∃ M', f_X8_addWholes_9 n 5 (nI N) (nB k) M = some M' ∧ Fx M M' := by
  intro k
  induction k with
  | zero =>
    intro n M c hk w h f pr hn
    obtain ⟨n, rfl⟩ : ∃ m, n = m + 1 := ⟨n - 1, by omega⟩
    have h305 := h.2.1
    obtain ⟨⟨w1, w2, w3, w4, w5, w6, w7, w8, w9⟩, ⟨y1, y2, y3, y4, y5, y6, y7, y8⟩, ⟨z1, z2, z3, z4, z5, z6⟩⟩ := id w
    obtain ⟨a, b, hab, hbc, ea, eb⟩ := pr 0 (Nat.zero_le _) (by omega)
    obtain ⟨M', e', f'⟩ := aw80 (b - a) a n M c (by omega) w h f eb hbc (by omega)
    exact ⟨M', by rw [f_X8_addWholes_9, if_pos (show nB 0 < (0 : Int32) by decide), chk_t w1, y5, bnd_e, chk_t w8, z5, chk_t (show inB (0 : Int32) 16 by decide), show mI M 12 ((0 : Int32)).toNatClampNeg = nI a from ea, bnd_e]; exact e', f'.x⟩
  | succ v ih =>
    intro n M c hk w h f pr hn
    obtain ⟨n, rfl⟩ : ∃ m, n = m + 1 := ⟨n - 1, by omega⟩
    have h305 := h.2.1
    have v16 : v < 16 := by omega
    obtain ⟨⟨w1, w2, w3, w4, w5, w6, w7, w8, w9⟩, ⟨y1, y2, y3, y4, y5, y6, y7, y8⟩, ⟨z1, z2, z3, z4, z5, z6⟩⟩ := id w
    have f0 : Fx M (sI M 12 v (nI c)) := Fx.s (by omega)
    generalize hM1 : sI M 12 v (nI c) = M1 at f0
    have W1 := w.e f0.1
    have t1 : TW M1 c := ⟨by rw [← hM1, mI_o _ _ _ _ _ (by decide)]; exact h.1, h.2.1, fun j hj => by rw [← hM1, mI_o _ _ _ _ _ (by decide)]; exact h.2.2 j hj⟩
    have r12 : ∀ u, u ≠ v → mI M1 12 u = mI M 12 u := fun u n => by rw [← hM1, mI_n _ _ _ _ n]
    have r12v : mI M1 12 v = nI c := by rw [← hM1, mI_s]
    have r13 : ∀ u, mI M1 13 u = mI M 13 u := fun u => by rw [← hM1, mI_o _ _ _ _ _ (by decide)]
    have rest : ∀ (M2 : Mem) (c2 : Nat), TW M2 c2 → c ≤ c2 → Fw M1 M2 → ∃ M', (chk (isO M2 8 5) <| bnd (mR M2 5 5) fun o24 => chk (isO M2 100 o24) <| chk (inB (nI v) (mLn M2 o24)) <| bnd (sI M2 o24 (nI v).toNatClampNeg (mI M2 5 6)) fun M28 => bnd (nI v + (-1 : Int32)) fun x32 => f_X8_addWholes_9 n 5 (nI N) x32 M28) = some M' ∧ Fx M M' := by
      intro M2 c2 t2 hc2 fw
      have W2 := W1.e fw.1
      obtain ⟨⟨u1, u2, u3, u4, u5, u6, u7, u8, u9⟩, ⟨x1, x2, x3, x4, x5, x6, x7, x8⟩, ⟨q1, q2, q3, q4, q5, q6⟩⟩ := id W2
      have f3 : Fx M2 (sI M2 13 v (nI c2)) := Fx.s (by omega)
      obtain ⟨M', e', f'⟩ := ih n (sI M2 13 v (nI c2)) c2 (by omega) (W2.e rfl) ⟨by rw [mI_o _ _ _ _ _ (by decide)]; exact t2.1, t2.2.1, fun j hj => by rw [mI_o _ _ _ _ _ (by decide)]; exact t2.2.2 j hj⟩ (((f.x f0).x fw.x).x f3) (fun u hu huN => by
        by_cases e : u = v
        · exact ⟨c, c2, hc2, Nat.le_refl _, by rw [e, mI_o _ _ _ _ _ (by decide), fw.2.1 12 (by decide) (by decide)]; exact r12v, by rw [e, mI_s]⟩
        · obtain ⟨a, b, hab, hbc, ea, eb⟩ := pr u (by omega) huN
          exact ⟨a, b, hab, by omega, by rw [mI_o _ _ _ _ _ (by decide), fw.2.1 12 (by decide) (by decide), r12 u e]; exact ea, by rw [mI_n _ _ _ _ e, fw.2.1 13 (by decide) (by decide), r13]; exact eb⟩) (by omega)
      exact ⟨M', by rw [chk_t u1, x6, bnd_e, chk_t u9, q6, chk_t (inB_n v16 (by decide)), t2.1, sI_c (by omega), bnd_e, nB_s, bnd_e]; exact e', (f0.tr fw.x).tr (f3.tr f')⟩
    have hd : ∀ y, (if nI N ≤ (((2 : Int32) * nI v) + (2 : Int32)) then (obd (f_X8_listWhole 5 ((1 : Int32) <<< (nI v &&& 31)) M1) fun M22 => chk (isO M22 8 5) <| bnd (mR M22 5 5) fun o24 => chk (isO M22 100 o24) <| chk (inB (nI v) (mLn M22 o24)) <| bnd (sI M22 o24 (nI v).toNatClampNeg (mI M22 5 6)) fun M28 => bnd (nI v + (-1 : Int32)) fun x32 => f_X8_addWholes_9 n 5 (nI N) x32 M28) else (obd (f_X8_listWholes n 5 (nI v) (((2 : Int32) * nI v) + (1 : Int32)) (((2 : Int32) * nI v) + (2 : Int32)) M1) fun M22 => chk (isO M22 8 5) <| bnd (mR M22 5 5) fun o24 => chk (isO M22 100 o24) <| chk (inB (nI v) (mLn M22 o24)) <| bnd (sI M22 o24 (nI v).toNatClampNeg (mI M22 5 6)) fun M28 => bnd (nI v + (-1 : Int32)) fun x32 => f_X8_addWholes_9 n 5 (nI N) x32 M28)) = y → f_X8_addWholes_9 (n + 1) 5 (nI N) (nB (v + 1)) M = y := by
      intro y hy
      rw [show nB (v + 1) = nI v from rfl, f_X8_addWholes_9, if_neg (show ¬ nI v < (0 : Int32) from nI_nlt (b := 0) (Nat.zero_le _) (by omega)), chk_t w1, y5, bnd_e, chk_t w8, z5, chk_t (inB_n v16 (by decide)), h.1, sI_c (by omega), hM1, bnd_e]
      exact hy
    have e22 : ((2 : Int32) * nI v) + (2 : Int32) = nI (2 * v + 2) := by rw [show (2 : Int32) = nI 2 from rfl, pk_mul, nI_add]
    have e21 : ((2 : Int32) * nI v) + (1 : Int32) = nI (2 * v + 1) := by rw [show (2 : Int32) = nI 2 from rfl, pk_mul, nI_1]
    by_cases leaf : N ≤ 2 * v + 2
    · obtain ⟨M2, c2, e2, t2, k2, fw⟩ := lw1 W1 t1 (SO.one v16)
      obtain ⟨M', e', f'⟩ := rest M2 c2 t2 k2 fw
      exact ⟨M', hd _ (by rw [e22, if_pos (nI_le leaf (by omega)), e2, obd_s]; exact e'), f'⟩
    · obtain ⟨al, bl, hl1, hl2, el1, el2⟩ := pr (2 * v + 1) (by omega) (by omega)
      obtain ⟨ar, br, hr1, hr2, er1, er2⟩ := pr (2 * v + 2) (by omega) (by omega)
      have a1 : mI M1 12 (2 * v + 1) = nI al := by rw [r12 _ (by omega)]; exact el1
      obtain ⟨M2, c2, e2, t2, k2, fw⟩ := lw8 (v := v) (l := 2 * v + 1) (r := 2 * v + 2) v16 (by omega) (by omega) hr1 hl2 hr2 (bl - al) al n M1 c (by omega) W1 t1 (Nat.le_refl _) (by rw [r12 _ (by omega)]; exact er1) (by rw [r13]; exact er2) (by rw [r13]; exact el2) (by omega)
      obtain ⟨M', e', f'⟩ := rest M2 c2 t2 k2 fw
      obtain ⟨⟨u1, u2, u3, u4, u5, u6, u7, u8, u9⟩, ⟨x1, x2, x3, x4, x5, x6, x7, x8⟩, ⟨q1, q2, q3, q4, q5, q6⟩⟩ := id W1
      have eW : f_X8_listWholes n 5 (nI v) (nI (2 * v + 1)) (nI (2 * v + 2)) M1 = some M2 := by
        rw [f_X8_listWholes, chk_t u1, x5, bnd_e, chk_t u8, q5, chk_t (inB_n (by omega) (by decide)), mI_c (by omega), a1, bnd_e]
        exact e2
      exact ⟨M', hd _ (by rw [e22, e21, if_neg (nI_ge (by omega) (by omega)), eW, obd_s]; exact e'), f'⟩
theorem awh {N : Nat} (h1 : 1 ≤ N) (h16 : N ≤ 16) {M : Mem} (w : W5 M) (f : F1 M 8 9 N) {n : Nat} (hn : 1100 ≤ n) : ∃ M', f_X8_addWholes n 5 (nI N) M = some M' ∧ Fx M M' := by
  obtain ⟨⟨w1, w2, w3, w4, w5, w6, w7, w8, w9⟩, _, _⟩ := id w
  have f0 : Fx M (sI M 5 6 0) := ⟨rfl, fun o n _ b => mI_o _ _ _ _ _ n, fun b n => mI_n _ _ _ _ n⟩
  obtain ⟨M', e', f'⟩ := aw9 h1 h16 N n (sI M 5 6 0) 0 (Nat.le_refl _) (w.e rfl) ⟨mI_s _ _ _ _, by decide, fun j hj => by omega⟩ (f.x f0) (fun u a b => by omega) (by omega)
  refine ⟨M', ?_, f0.tr f'⟩
  have eN : nI N - (1 : Int32) = nB N := by
    obtain ⟨m, rfl⟩ : ∃ m, N = m + 1 := ⟨N - 1, by omega⟩
    exact nI_pred m
  rw [f_X8_addWholes, chk_t w1, bnd_e, eN, bnd_e]
  exact e'
/-- what a survey changes -/
def Fs (M M' : Mem) : Prop := M'.1 = M.1 ∧ ∀ o, ¬ (5 ≤ o ∧ o ≤ 13) → ∀ b, mI M' o b = mI M o b
theorem Fs.rf (M : Mem) : Fs M M := ⟨rfl, fun _ _ _ => rfl⟩
theorem Fs.tr {M M' M'' : Mem} (h : Fs M M') (h' : Fs M' M'') : Fs M M'' := ⟨h'.1.trans h.1, fun o n b => (h'.2 o n b).trans (h.2 o n b)⟩
theorem Fx.f {M M' : Mem} (h : Fx M M') : Fs M M' := ⟨h.1, fun o n b => h.2.1 o (by omega) (by omega) b⟩
/-- after a survey -/
def SV5 (M : Mem) (N : Nat) : Prop := W5 M ∧ F1 M 6 7 N ∧ F1 M 8 9 N
theorem SV5.l {M M' : Mem} {N : Nat} (h : SV5 M N) (f : FrLg M M') : SV5 M' N := ⟨h.1.e f.1, h.2.1.l f, h.2.2.l f⟩
theorem tk79 {M : Mem} {N : Nat} (h16 : N ≤ 16) (h : SV5 M N) {n : Nat} (hn : 1100 ≤ n) : ∃ M', f_X8_take_79 n 5 M = some M' ∧ Fs M M' ∧ SV5 M' N ∧ mI M' 5 7 = 1 := by
  obtain ⟨w, f6, f8⟩ := h
  obtain ⟨M1, e1, l1⟩ := f6.ag h16 (n := n) hn
  have f81 := f8.l l1
  obtain ⟨M2, e2, l2⟩ := f81.ag h16 (n := n) hn
  have W1 := w.e l1.1
  have W2 := W1.e l2.1
  have l := l1.tr l2
  have fs : Fs M2 (sI M2 5 7 1) := ⟨rfl, fun o n b => mI_o _ _ _ _ _ (by omega)⟩
  have fl : Fs M M2 := ⟨l.1, fun o _ b => l.2 o b⟩
  have s6 : F1 (sI M2 5 7 1) 6 7 N := by
    obtain ⟨a, b, c⟩ := f6.l l
    exact ⟨a, by rw [mI_o _ _ _ _ _ (by decide)]; exact b, by rw [mI_o _ _ _ _ _ (by decide)]; exact c⟩
  have s8 : F1 (sI M2 5 7 1) 8 9 N := by
    obtain ⟨a, b, c⟩ := f8.l l
    exact ⟨a, by rw [mI_o _ _ _ _ _ (by decide)]; exact b, by rw [mI_o _ _ _ _ _ (by decide)]; exact c⟩
  exact ⟨sI M2 5 7 1, by rw [f_X8_take_79, chk_t w.1.1, w.2.1.1, bnd_e, chk_t w.1.2.1, e1, obd_s, chk_t W1.1.1, W1.2.1.2.1, bnd_e, chk_t W1.1.2.2.2.1, e2, obd_s, chk_t W2.1.1, chk_t (Or.inr rfl), bnd_e], fl.tr fs, ⟨W2.e rfl, s6, s8⟩, mI_s _ _ _ _⟩
theorem tk24 {N : Nat} {S : St} (h1 : 1 ≤ N) (h16 : N ≤ 16) (hB : ∀ v, v < N → SO (xR S 17 v)) : ∀ (d i n : Nat) (M : Mem), i + d = N → SB M N S → SV5 M N → d + 1200 ≤ n → ∃ M', f_X8_take_24 n 5 1 (nI i) M = some M' ∧ Fs M M' ∧ SV5 M' N ∧ mI M' 5 7 = 1 := by
  intro d
  induction d with
  | zero =>
    intro i n M hi sb h hn
    obtain ⟨n, rfl⟩ : ∃ m, n = m + 1 := ⟨n - 1, by omega⟩
    obtain ⟨w, f6, f8⟩ := id h
    rw [f_X8_take_24, sb.f, sb.n, if_pos (nI_le (by omega) (by omega))]
    by_cases c : mI M 1 4 = 0
    · rw [if_pos c]; exact tk79 h16 h (by omega)
    · obtain ⟨M1, e1, x1⟩ := awh h1 h16 w f8 (n := n) (by omega)
      have s6 : F1 M1 6 7 N := by
        obtain ⟨⟨a, b, c, d⟩, e, g⟩ := f6
        have io : ∀ {c o}, isO M c o → isO M1 c o := fun z => by unfold isO mN mC at *; rw [x1.1]; exact z
        exact ⟨⟨io a, by rw [mR_e x1.1]; exact b, io c, by rw [mLn_e x1.1]; exact d⟩, by rw [x1.2.1 6 (by decide) (by decide)]; exact e, by rw [x1.2.1 6 (by decide) (by decide)]; exact g⟩
      obtain ⟨M', e', f', R⟩ := tk79 h16 (show SV5 M1 N from ⟨w.e x1.1, s6, f8.x x1⟩) (n := n) (by omega)
      exact ⟨M', by rw [if_neg c, chk_t w.1.1, e1, obd_s]; exact e', x1.f.tr f', R⟩
  | succ d ih =>
    intro i n M hi sb h hn
    obtain ⟨n, rfl⟩ : ∃ m, n = m + 1 := ⟨n - 1, by omega⟩
    obtain ⟨w, f6, f8⟩ := id h
    have so : SO (mI M 2 (nI i).toNatClampNeg) := by rw [mI_c (by omega), sb.b (by omega)]; exact hB i (by omega)
    obtain ⟨M1, e1, l1⟩ := f6.add so
    have W1 := w.e l1.1
    have sb1 : SB M1 N S := sb.e l1.1 (fun b => l1.2 1 b) (fun b => l1.2 2 b)
    have so1 : SO (mI M1 2 (nI i).toNatClampNeg) := by rw [l1.2]; exact so
    obtain ⟨M2, e2, l2⟩ := (f8.l l1).add so1
    have l := l1.tr l2
    obtain ⟨M', e', f', R⟩ := ih (i + 1) n M2 (by omega) (sb.e l.1 (fun b => l.2 1 b) (fun b => l.2 2 b)) (h.l l) (by omega)
    exact ⟨M', by rw [f_X8_take_24, sb.f, sb.n, if_neg (nI_ge (by omega) (by omega)), chk_t w.1.1, w.2.1.1, bnd_e, chk_t w.1.2.1, sb.r2, bnd_e, sb.a2, sb.i2 (by omega), e1, obd_s, chk_t W1.1.1, W1.2.1.2.1, bnd_e, chk_t W1.1.2.2.2.1, sb1.f, sb1.r2, bnd_e, sb1.a2, sb1.i2 (by omega), e2, obd_s, bnd_e, nI_1]; exact e', Fs.tr ⟨l.1, fun o _ b => l.2 o b⟩ f', R⟩
theorem sv1 {M : Mem} {N : Nat} {S : St} (xg : XG M) (xv : XV M N) (sb : SB M N S) (h1 : 1 ≤ N) (h16 : N ≤ 16) (hB : ∀ v, v < N → SO (xR S 17 v)) {n : Nat} (hn : 1300 ≤ n) : ∃ M', f_X9_surveyOnce n 0 M = some M' ∧ Fs M M' ∧ SV5 M' N ∧ mI M' 5 7 = 1 := by
  obtain ⟨a, b, c, d⟩ := xv
  have w : W5 M := ⟨a, b, c⟩
  have q6 : isO M 1 6 ∧ mR M 6 0 = 7 ∧ isO M 101 7 ∧ mLn M 7 = 1024 := ⟨w.1.2.1, w.2.1.2.2.2.2.2.2.1, w.1.2.2.1, w.2.2.1⟩
  have q8 : isO M 1 8 ∧ mR M 8 0 = 9 ∧ isO M 101 9 ∧ mLn M 9 = 1024 := ⟨w.1.2.2.2.1, w.2.1.2.2.2.2.2.2.2, w.1.2.2.2.2.1, w.2.2.2.1⟩
  by_cases z : mI M 5 7 = 0
  · obtain ⟨M1, e1, f1, s1, o1⟩ := bg_1 (o := 6) (q := 7) h16 q6 (n := n) (by omega)
    have W1 := w.e s1
    have q81 : isO M1 1 8 ∧ mR M1 8 0 = 9 ∧ isO M1 101 9 ∧ mLn M1 9 = 1024 := ⟨W1.1.2.2.2.1, W1.2.1.2.2.2.2.2.2.2, W1.1.2.2.2.2.1, W1.2.2.2.1⟩
    have sb1 : SB M1 N S := sb.e s1 (o1 1 (by decide)) (o1 2 (by decide))
    obtain ⟨M2, e2, f2, s2, o2⟩ := bg_1 (o := 8) (q := 9) h16 q81 (n := n) (by omega)
    have sb2 : SB M2 N S := sb1.e s2 (o2 1 (by decide)) (o2 2 (by decide))
    have f12 : F1 M2 6 7 N := by
      obtain ⟨⟨a, b, c, d⟩, e, g⟩ := f1
      have io : ∀ {c o}, isO M1 c o → isO M2 c o := fun z => by unfold isO mN mC at *; rw [s2]; exact z
      exact ⟨⟨io a, by rw [mR_e s2]; exact b, io c, by rw [mLn_e s2]; exact d⟩, by rw [o2 6 (by decide)]; exact e, by rw [o2 6 (by decide)]; exact g⟩
    have W2 := W1.e s2
    obtain ⟨M', e', f', R⟩ := tk24 h1 h16 hB N 0 n M2 (by omega) sb2 ⟨W2, f12, f2⟩ (by omega)
    refine ⟨M', ?_, Fs.tr ⟨s2.trans s1, fun o n b => by rw [o2 o (by omega), o1 o (by omega)]⟩ f', R⟩
    rw [f_X9_surveyOnce, chk_t xg.1, xg.2.2.1, bnd_e, chk_t w.1.1, if_pos z, bnd_e, chk_t w.1.1, xg.2.1, bnd_e, sb.f, f_X8_take, chk_t w.1.1, w.2.1.1, bnd_e, chk_t w.1.2.1, sb.f, sb.n, e1, obd_s, chk_t W1.1.1, W1.2.1.2.1, bnd_e, chk_t W1.1.2.2.2.1, sb1.f, sb1.n, e2, obd_s]
    rw [show f_X8_take_24 n 5 1 0 M2 = some M' from e', obd_s]
  · obtain ⟨d1, d2, d3, d4, d5⟩ := d.resolve_left z
    exact ⟨M, by rw [f_X9_surveyOnce, chk_t xg.1, xg.2.2.1, bnd_e, chk_t w.1.1, if_neg z], Fs.rf M, ⟨w, ⟨q6, d2, d3⟩, ⟨q8, d4, d5⟩⟩, d1⟩
/-! ===== weakest, chance, chanceOf, pivotal, better: both answer ===== -/
theorem CW.sv {M M' : Mem} {N : Nat} {Q : Nat → Int32} {S : St} (h : CW M N Q S) (f : Fs M M') (v : SV5 M' N) (h1 : mI M' 5 7 = 1) : CW M' N Q S := by
  obtain ⟨X, Y, L, p, sb, xg, xc, xv, xs, g, hL⟩ := h
  obtain ⟨e, hI⟩ := f
  have s1 : Shp1 M M' := Shp1.e e
  exact ⟨X, Y, L, p.kp6 e (fun o ho b => hI o (by omega) b), sb.e e (hI 1 (by decide)) (hI 2 (by decide)), xg.s s1, xc.s s1 (hI 113 (by decide)) (fun _ _ => rfl), ⟨v.1.1, v.1.2.1, v.1.2.2, Or.inr ⟨h1, v.2.1.2.1, v.2.1.2.2, v.2.2.2.1, v.2.2.2.2⟩⟩, xs.e e (fun o ho b => hI o (by omega) b), g.e e, hL⟩
theorem FrLg.f {M M' : Mem} (h : FrLg M M') : Fs M M' := ⟨h.1, fun o _ b => h.2 o b⟩
/-- the class has surveyed -/
theorem WJ.sv {M : Mem} {N A i n : Nat} {Q : Nat → Int32} {S : St} (w : WJ M N A i Q S) (hn : 2000 ≤ n) : ∃ M1, f_X9_surveyOnce n 0 M = some M1 ∧ Fs M M1 ∧ SV5 M1 N ∧ mI M1 5 7 = 1 := by
  obtain ⟨X, Y, L, p, sb, xg, xc, xv, xr⟩ := id w.1
  have sw := w.2.2.2.1
  have h2 := sw.n2
  have h16 := sw.n16
  exact sv1 xg xv sb (by omega) h16 (fun v hv i a b => sw.bi v hv i (by omega) b) (by omega)
theorem WJ.sv2 {M M1 : Mem} {N A i : Nat} {Q : Nat → Int32} {S : St} (w : WJ M N A i Q S) (f : Fs M M1) (v : SV5 M1 N) (h1 : mI M1 5 7 = 1) : CW M1 N Q S ∧ XG M1 ∧ SB M1 N S ∧ RV M1 false 0 S [] [] ∧ mI M1 120 7 = 0 ∧ isO M1 10 120 := by
  have cw := w.1.sv f v h1
  obtain ⟨X, Y, L, p, sb, xg, _⟩ := id cw
  have r : RV M1 false 0 S [] [] := w.2.1.mr (by unfold mN; rw [f.1]; exact Nat.le_refl _) (fun o a b => ⟨by rw [f.1], fun b => mR_e f.1 o b, f.2 o (by omega)⟩)
  exact ⟨cw, xg, sb, r, by rw [f.2 120 (by decide)]; exact w.2.2.1, r.1.io (by decide) (by decide) (by decide)⟩
theorem WJ.p2 {M M1 M2 : Mem} {N A i : Nat} {Q : Nat → Int32} {S : St} (w : WJ M N A i Q S) (cw : CW M1 N Q S) (z1 : mI M1 120 7 = 0) (r2 : RV M2 false 0 S [] []) (f : Fr P2 M1 M2) : WI (i + 1) M2 :=
  ⟨N, A, Q, S, cw.ref f.1 (fun o ho b => f.2.1 o (fun z => ho (by unfold P2 at z; omega)) b), r2, by rw [f.2.1 120 (by unfold P2; decide)]; exact z1, w.2.2.2.1.mo, w.2.2.2.2⟩
theorem isI_o {a : Int32} {K : Nat} (hK : K < 999) (h : Out (K + 1) a) {M : Mem} : f_X10_isIn a (0 : Int32) (nI K) M = some 0 := by
  rw [f_X10_isIn]
  by_cases q : a < 0
  · rw [if_pos q]
  · rw [if_neg q, if_pos (gt3 (N := K) (by omega) (h.resolve_left q))]
theorem op13 {M : Mem} {i n : Nat} (h : WI i M) (a : Int32) (hn : 100000 ≤ n) : Oks i (f_X9_weakest n 0 a M) (fun M1 => f_X10_weakest n 120 a M1) := by
  obtain ⟨N, A, Q, S, w⟩ := h
  have sw := w.2.2.2.1
  have h16 := sw.n16
  obtain ⟨X, Y, L, p, sb, xg, xr⟩ := id w.1
  rcases out_in (N := 2) (by decide) a with ha | ⟨u, hu, rfl⟩
  · refine (Okk.same w (r := -1) ?_ ?_).ks
    · rw [f_X9_weakest]
      by_cases q : a < 0
      · rw [if_pos q]
      · rw [if_neg q, if_neg (show ¬ a ≤ (1 : Int32) from Int32.not_le.mpr (gt3 (N := 1) (by decide) (ha.resolve_left q)))]
    · show f_X10_weakest n 120 a M = _
      rw [f_X10_weakest, show f_X10_isIn a (0 : Int32) (1 : Int32) M = some 0 from isI_o (K := 1) (by decide) ha, obd_s, if_pos rfl]
  · obtain ⟨M1, e1, f1, v1, o1⟩ := w.sv (n := n) (by omega)
    obtain ⟨cw, xg1, sb1, r1, z1, io⟩ := w.sv2 f1 v1 o1
    have u1 := us_b h16
    obtain ⟨y, ey⟩ := v1.2.2.ls h16 (us6 N) 0 n (-1) 17 (by omega) (by omega)
    have ey' : f_X1_leastStop n 8 M1 = some y := ey
    have cls : ∃ x, f_X9_weakest n 0 (nI u) M = some (x, M1) := by
      rw [f_X9_weakest, if_neg (show ¬ nI u < 0 from nI_nlt (b := 0) (Nat.zero_le _) (by omega)), if_pos (show nI u ≤ (1 : Int32) from nI_le (b := 1) (by omega) (by decide)), chk_t xg.1, e1, obd_s, chk_t xg1.1, xg1.2.2.1, bnd_e, chk_t v1.1.1.1, v1.1.2.1.2.1, bnd_e, chk_t v1.1.1.2.2.2.1, ey', obd_s]
      obtain ⟨z, ez⟩ := j6 y M1
      split
      · exact ⟨_, by rw [ez, obd_s]⟩
      · exact ⟨_, rfl⟩
    obtain ⟨x, ec⟩ := cls
    have p := p16 h16
    obtain ⟨x', M2, e2, r2, f2⟩ := rwk_l sw.n h16 sw.t (nI u) (2 ^ N - 1) (2 ^ N - 1) n M1 r1 (by omega) (by omega) (by omega)
    refine ⟨x, x', M1, M2, ec, io, ?_, w.p2 cw z1 r2 f2⟩
    show f_X10_weakest n 120 (nI u) M1 = _
    have i1 : f_X10_isIn (nI u) (0 : Int32) (1 : Int32) M1 = some 1 := f_isI (b := 1) M1 (show u ≤ 1 by omega) (by decide)
    rw [f_X10_weakest, i1, obd_s, if_neg ne10, rs_f r1.1, r1.al sw.n h16, obd_s, obd_s]
    exact e2
theorem mil {M1 : Mem} {N n : Nat} (h16 : N ≤ 16) (v1 : SV5 M1 N) {a b : Int32} (ha : a = -1 ∨ ∃ v, v < 16 ∧ a = nI v) (hn : 2000 ≤ n) : ∃ x M2, f_X8_millionths n 5 a b (nI N) M1 = some (x, M2) ∧ FrLg M1 M2 := by
  obtain ⟨x, M2, e, f⟩ := m8_l h16 (v2 := b) ha (N + 1) 0 n M1 (by omega) v1.1 v1.2.2 (by omega)
  exact ⟨x, M2, e, f⟩
theorem op15 {M : Mem} {i n : Nat} (h : WI i M) (a : Int32) (hn : 100000 ≤ n) : Oks i (f_X9_chance n 0 a M) (fun M1 => f_X10_chance n 120 a M1) := by
  obtain ⟨N, A, Q, S, w⟩ := h
  have sw := w.2.2.2.1
  have h16 := sw.n16
  obtain ⟨X, Y, L, p, sb, xg, xr⟩ := id w.1
  rcases out_in (N := 11) (by decide) a with ha | ⟨u, hu, rfl⟩
  · refine (Okk.same w (r := -1) ?_ ?_).ks
    · rw [f_X9_chance]
      by_cases q : a < 0
      · rw [if_pos q]
      · rw [if_neg q, if_neg (show ¬ a ≤ (10 : Int32) from Int32.not_le.mpr (gt3 (N := 10) (by decide) (ha.resolve_left q)))]
    · show f_X10_chance n 120 a M = _
      rw [f_X10_chance, show f_X10_isIn a (0 : Int32) (10 : Int32) M = some 0 from isI_o (K := 10) (by decide) ha, obd_s, if_pos rfl]
  · obtain ⟨M1, e1, f1, v1, o1⟩ := w.sv (n := n) (by omega)
    obtain ⟨_, xg1, sb1, _⟩ := w.sv2 f1 v1 o1
    obtain ⟨x, M2, e2, l2⟩ := mil h16 v1 (a := -1) (b := nI u) (n := n) (Or.inl rfl) (by omega)
    obtain ⟨cw, xg2, sb2, r2, z2, io⟩ := w.sv2 (f1.tr l2.f) (v1.l l2) (by rw [l2.2]; exact o1)
    obtain ⟨x', M3, e3, r3, f3⟩ := rch_l sw.n h16 sw.t (nI u) (2 ^ N) 0 n 0 M2 r2 (by omega) (by have := p16 h16; omega)
    refine ⟨x, x', M2, M3, ?_, io, ?_, w.p2 cw z2 r3 f3⟩
    · rw [f_X9_chance, if_neg (show ¬ nI u < 0 from nI_nlt (b := 0) (Nat.zero_le _) (by omega)), if_pos (show nI u ≤ (10 : Int32) from nI_le (b := 10) (by omega) (by decide)), chk_t xg.1, e1, obd_s, chk_t xg1.1, xg1.2.2.1, bnd_e, chk_t v1.1.1.1, xg1.2.1, bnd_e, sb1.f, sb1.n, e2, obd2_s]
    · show f_X10_chance n 120 (nI u) M2 = _
      rw [f_X10_chance, show (10 : Int32) = nI 10 from rfl, f_isI M2 (show u ≤ 10 by omega) (by decide), obd_s, if_neg ne10]
      exact e3
theorem op16 {M : Mem} {i n : Nat} (h : WI i M) (a b : Int32) (hn : 100000 ≤ n) : Oks i (f_X9_chanceOf n 0 a b M) (fun M1 => f_X10_chanceOf n 120 a b M1) := by
  obtain ⟨N, A, Q, S, w⟩ := h
  have sw := w.2.2.2.1
  have h16 := sw.n16
  have h2 := sw.n2
  obtain ⟨X, Y, L, p, sb, xg, xr⟩ := id w.1
  have r := w.2.1
  rcases out_in (N := N) (by omega) a with ha | ⟨v, hv, rfl⟩
  · refine (Okk.same w (r := -1) ?_ ?_).ks
    · rw [f_X9_chanceOf, chk_t xg.1, xg.2.1, bnd_e, sb.f, ndc0 sb ha, obd_s, if_pos rfl]
    · show f_X10_chanceOf n 120 a b M = _
      rw [f_X10_chanceOf, rs_f r.1, ndr0 r sw.n (by omega) h16 ha, obd_s, if_pos rfl]
  · rcases out_in (N := 11) (by decide) b with hb | ⟨u, hu, rfl⟩
    · refine (Okk.same w (r := -1) ?_ ?_).ks
      · rw [f_X9_chanceOf, chk_t xg.1, xg.2.1, bnd_e, sb.f, ndc sb hv h16, obd_s, if_neg ne10]
        by_cases q : b < 0
        · rw [if_pos q]
        · rw [if_neg q, if_neg (show ¬ b ≤ (10 : Int32) from Int32.not_le.mpr (gt3 (N := 10) (by decide) (hb.resolve_left q)))]
      · show f_X10_chanceOf n 120 (nI v) b M = _
        rw [f_X10_chanceOf, rs_f r.1, ndr r sw.n hv h16, obd_s, if_neg ne10, show f_X10_isIn b (0 : Int32) (10 : Int32) M = some 0 from isI_o (K := 10) (by decide) hb, obd_s, if_pos rfl]
    · obtain ⟨M1, e1, f1, v1, o1⟩ := w.sv (n := n) (by omega)
      obtain ⟨_, xg1, sb1, _⟩ := w.sv2 f1 v1 o1
      obtain ⟨x, M2, e2, l2⟩ := mil h16 v1 (a := nI v) (b := nI u) (n := n) (Or.inr ⟨v, by omega, rfl⟩) (by omega)
      obtain ⟨cw, xg2, sb2, r2, z2, io⟩ := w.sv2 (f1.tr l2.f) (v1.l l2) (by rw [l2.2]; exact o1)
      obtain ⟨x', M3, e3, r3, f3⟩ := rco_l sw.n h16 sw.t (v := v) (by omega) (nI u) (2 ^ N) 0 n 0 M2 r2 (by omega) (by have := p16 h16; omega)
      refine ⟨x, x', M2, M3, ?_, io, ?_, w.p2 cw z2 r3 f3⟩
      · rw [f_X9_chanceOf, chk_t xg.1, xg.2.1, bnd_e, sb.f, ndc sb hv h16, obd_s, if_neg ne10, if_neg (show ¬ nI u < 0 from nI_nlt (b := 0) (Nat.zero_le _) (by omega)), if_pos (show nI u ≤ (10 : Int32) from nI_le (b := 10) (by omega) (by decide)), e1, obd_s, chk_t xg1.1, xg1.2.2.1, bnd_e, chk_t v1.1.1.1, xg1.2.1, bnd_e, sb1.f, sb1.n, e2, obd2_s]
      · show f_X10_chanceOf n 120 (nI v) (nI u) M2 = _
        rw [f_X10_chanceOf, rs_f r2.1, ndr r2 sw.n hv h16, obd_s, if_neg ne10, show (10 : Int32) = nI 10 from rfl, f_isI M2 (show u ≤ 10 by omega) (by decide), obd_s, if_neg ne10]
        exact e3
theorem op18 {M : Mem} {i n : Nat} (h : WI i M) (a : Int32) (hn : 100000 ≤ n) : ∃ x x' M1, f_X9_pivotal n 0 a M = some (x, M1) ∧ isO M1 10 120 ∧ f_X10_pivotal n 120 a M1 = some x' ∧ WI (i + 1) M1 := by
  obtain ⟨N, A, Q, S, w⟩ := h
  have sw := w.2.2.2.1
  have h16 := sw.n16
  have h2 := sw.n2
  obtain ⟨X, Y, L, p, sb, xg, xr⟩ := id w.1
  have r := w.2.1
  rcases out_in (N := N) (by omega) a with ha | ⟨v, hv, rfl⟩
  · exact ⟨-1, -1, M, by rw [f_X9_pivotal, chk_t xg.1, xg.2.1, bnd_e, sb.f, ndc0 sb ha, obd_s, if_pos rfl], r.1.io (by decide) (by decide) (by decide), by rw [f_X10_pivotal, rs_f r.1, ndr0 r sw.n (by omega) h16 ha, obd_s, if_pos rfl], w.mo⟩
  · obtain ⟨M1, e1, f1, v1, o1⟩ := w.sv (n := n) (by omega)
    obtain ⟨cw, xg1, sb1, r1, z1, io⟩ := w.sv2 f1 v1 o1
    have u1 := us_b h16
    obtain ⟨x, ex⟩ := v1.2.1.tb h16 (v := v) (by omega) (us6 N) 0 n 0 (by omega) (by omega)
    have ex' : f_X1_turnedBy n 6 (nI v) M1 = some x := ex
    obtain ⟨x', ey⟩ := rpv_l r1 sw.n h16 (v := v) (by omega) (2 ^ N) 0 n 0 (by omega) (by have := p16 h16; omega)
    refine ⟨x, x', M1, ?_, io, ?_, N, A, Q, S, cw, r1, z1, sw.mo, w.2.2.2.2⟩
    · rw [f_X9_pivotal, chk_t xg.1, xg.2.1, bnd_e, sb.f, ndc sb hv h16, obd_s, if_neg ne10, e1, obd_s, chk_t xg1.1, xg1.2.2.1, bnd_e, chk_t v1.1.1.1, v1.1.2.1.1, bnd_e, chk_t v1.1.1.2.1, ex', obd_s]
    · rw [f_X10_pivotal, rs_f r1.1, ndr r1 sw.n hv h16, obd_s, if_neg ne10]
      exact ey
theorem op20 {M : Mem} {i n : Nat} (h : WI i M) (hn : 100000 ≤ n) : ∃ x x' M1, f_X9_better n 0 M = some (x, M1) ∧ isO M1 10 120 ∧ f_X10_better n 120 M1 = some x' ∧ WI (i + 1) M1 := by
  obtain ⟨N, A, Q, S, w⟩ := h
  have sw := w.2.2.2.1
  have h16 := sw.n16
  have h2 := sw.n2
  obtain ⟨X, Y, L, p, sb, xg, xr⟩ := id w.1
  obtain ⟨M1, e1, f1, v1, o1⟩ := w.sv (n := n) (by omega)
  obtain ⟨cw, xg1, sb1, r1, z1, io⟩ := w.sv2 f1 v1 o1
  have u1 := us_b h16
  have p2 := p16 h16
  obtain ⟨x, ex⟩ := v1.2.1.lb h16 (us6 N) 0 n (by omega) (by omega)
  have ex' : f_X1_leastBetter n 6 M1 = some x := ex
  obtain ⟨x', ey⟩ := rbt_l r1 sw.n h16 (2 ^ N - 1) 1 n (by omega) (by omega)
  refine ⟨x, x', M1, ?_, io, ey, N, A, Q, S, cw, r1, z1, sw.mo, w.2.2.2.2⟩
  rw [f_X9_better, chk_t xg.1, e1, obd_s, chk_t xg1.1, xg1.2.2.1, bnd_e, chk_t v1.1.1.1, v1.1.2.1.1, bnd_e, chk_t v1.1.1.2.1, ex', obd_s]
/-! ===== rows for floats ===== -/
abbrev nq32 (r : UInt32) : Prop := r &&& 0x7fffffff ≤ 0x7f800000
abbrev nq64 (r : UInt64) : Prop := r &&& 0x7fffffffffffffff ≤ 0x7ff0000000000000
section
variable {p : Program} {l : Launch} {e : Env} {R : Room} {s : State} {m : MethodId} {args : Array Value} {below : List Frame} {meth : Method} {c : Code} {H : Heap} {locs : List Loc} {cells slots : Nat} {Q : State → Prop} {cc : ByteArray} {pc : Nat} {ls : Array Slot} {rest : List Value}
theorem lv_ldcwF (hexec : p.tables.exec = Jvm.exec) (hb : c.code = cc) {own : String} {index : Nat} {v : UInt32} (hown : s.vm.findClass own = some m.cls) (hconst : (Jvm.Cond.constantFloat own index v).before args s = true) (hdg : decode cc pc = .ok (.ldc_w index, 3)) (k : W p l e R s m args below meth c H locs cells slots Q (F0 m (pc + 3) ls (.float v :: rest))) : W p l e R s m args below meth c H locs cells slots Q (F0 m pc ls rest) := by
  intro T hT X
  obtain ⟨t, a, b⟩ := k T hT X
  refine ⟨t, ?_, b⟩
  obtain ⟨k, cf, hk, hcf, hcp⟩ := Cond.constantFloat_spec hown hconst
  obtain ⟨k', hk', he⟩ := X.warmed.alike.2.2 _ _ hk
  have hdg2 : decode c.code (F0 m pc ls rest).pc = .ok (.ldc_w index, 3) := by rw [hb]; exact hdg
  have hk2 : T.vm.classes[(F0 m pc ls rest).method.cls]? = some k' := hk'
  jvm_step X.here [hexec, hdg2, Op.ldc_w.wp_float (s := T) (f := F0 m pc ls rest) X.here.top hk2 (by rw [he]; exact hcf) hcp]
  exact a
end
section
variable {p : Program} {l : Launch} {e : Env} {R : Room} {s : State} {m : MethodId} {args : Array Value} {below : List Frame} {meth : Method} {c : Code} {Q : State → Prop}
variable {G : Gam} {M0 M : Mem} {cc : ByteArray} {own : String} {nL fr lo pc : Nat} {vs : List (Nat × Value)} {st : List Value}
theorem s_fconst1 (X : Cx p R s m args c G M0 cc own nL fr lo)  (hd : decode cc pc = .ok (.fconst 1, 1)) (k : Sg p l e R s m args below meth c Q G M0 nL (pc + 1) vs (.float FP.fconst1 :: st) M) : Sg p l e R s m args below meth c Q G M0 nL pc vs st M :=
  fun hk H locs ls hl hP hS => lv_fconst1 X.1 X.2.1 hd (k hk H locs ls hl hP hS)
theorem s_fconst2 (X : Cx p R s m args c G M0 cc own nL fr lo)  (hd : decode cc pc = .ok (.fconst 2, 1)) (k : Sg p l e R s m args below meth c Q G M0 nL (pc + 1) vs (.float FP.fconst2 :: st) M) : Sg p l e R s m args below meth c Q G M0 nL pc vs st M :=
  fun hk H locs ls hl hP hS => lv_fconst2 X.1 X.2.1 hd (k hk H locs ls hl hP hS)
theorem s_dconst0 (X : Cx p R s m args c G M0 cc own nL fr lo)  (hd : decode cc pc = .ok (.dconst 0, 1)) (k : Sg p l e R s m args below meth c Q G M0 nL (pc + 1) vs (.double FP.dconst0 :: st) M) : Sg p l e R s m args below meth c Q G M0 nL pc vs st M :=
  fun hk H locs ls hl hP hS => lv_dconst0 X.1 X.2.1 hd (k hk H locs ls hl hP hS)
theorem s_dconst1 (X : Cx p R s m args c G M0 cc own nL fr lo)  (hd : decode cc pc = .ok (.dconst 1, 1)) (k : Sg p l e R s m args below meth c Q G M0 nL (pc + 1) vs (.double FP.dconst1 :: st) M) : Sg p l e R s m args below meth c Q G M0 nL pc vs st M :=
  fun hk H locs ls hl hP hS => lv_dconst1 X.1 X.2.1 hd (k hk H locs ls hl hP hS)
theorem s_ldcwF (X : Cx p R s m args c G M0 cc own nL fr lo) {ix : Nat} {v : UInt32} (hd : decode cc pc = .ok (.ldc_w ix, 3)) (hw : Jvm.Cond.constantFloat own ix v ∈ lw_g) (k : Sg p l e R s m args below meth c Q G M0 nL (pc + 3) vs (.float v :: st) M) : Sg p l e R s m args below meth c Q G M0 nL pc vs st M :=
  fun hk H locs ls hl hP hS => lv_ldcwF X.1 X.2.1 X.2.2.1 (X.2.2.2.1 _ hw) hd (k hk H locs ls hl hP hS)
theorem s_ldc2D (X : Cx p R s m args c G M0 cc own nL fr lo) {ix : Nat} {v : UInt64} (hd : decode cc pc = .ok (.ldc2_w ix, 3)) (hw : Jvm.Cond.constantDouble own ix v ∈ lw_g) (k : Sg p l e R s m args below meth c Q G M0 nL (pc + 3) vs (.double v :: st) M) : Sg p l e R s m args below meth c Q G M0 nL pc vs st M :=
  fun hk H locs ls hl hP hS => lv_ldc2d X.1 X.2.1 X.2.2.1 (X.2.2.2.1 _ hw) hd (k hk H locs ls hl hP hS)
theorem s_fload_n (X : Cx p R s m args c G M0 cc own nL fr lo) {kk : Fin 4} {i : Nat} {x : UInt32} (j : Nat) (hd : decode cc pc = .ok (.fload_n kk, 1)) (hi : (kk : Nat) = i) (hj : vs[j]? = some (i, .float x)) (k : Sg p l e R s m args below meth c Q G M0 nL (pc + 1) vs (.float x :: st) M) : Sg p l e R s m args below meth c Q G M0 nL pc vs st M :=
  fun hk H locs ls hl hP hS => lv_fload_n X.1 X.2.1 hd hi (lv_at hl j hj) (k hk H locs ls hl hP hS)
theorem s_fload (X : Cx p R s m args c G M0 cc own nL fr lo) {i : Nat} {x : UInt32} (j : Nat) (hd : decode cc pc = .ok (.fload i, 2)) (hj : vs[j]? = some (i, .float x)) (k : Sg p l e R s m args below meth c Q G M0 nL (pc + 2) vs (.float x :: st) M) : Sg p l e R s m args below meth c Q G M0 nL pc vs st M :=
  fun hk H locs ls hl hP hS => lv_fload X.1 X.2.1 hd (lv_at hl j hj) (k hk H locs ls hl hP hS)
theorem s_dload_n (X : Cx p R s m args c G M0 cc own nL fr lo) {kk : Fin 4} {i : Nat} {x : UInt64} (j : Nat) (hd : decode cc pc = .ok (.dload_n kk, 1)) (hi : (kk : Nat) = i) (hj : vs[j]? = some (i, .double x)) (k : Sg p l e R s m args below meth c Q G M0 nL (pc + 1) vs (.double x :: st) M) : Sg p l e R s m args below meth c Q G M0 nL pc vs st M :=
  fun hk H locs ls hl hP hS => lv_dload_n X.1 X.2.1 hd hi (lv_at hl j hj) (k hk H locs ls hl hP hS)
theorem s_dload (X : Cx p R s m args c G M0 cc own nL fr lo) {i : Nat} {x : UInt64} (j : Nat) (hd : decode cc pc = .ok (.dload i, 2)) (hj : vs[j]? = some (i, .double x)) (k : Sg p l e R s m args below meth c Q G M0 nL (pc + 2) vs (.double x :: st) M) : Sg p l e R s m args below meth c Q G M0 nL pc vs st M :=
  fun hk H locs ls hl hP hS => lv_dload X.1 X.2.1 hd (lv_at hl j hj) (k hk H locs ls hl hP hS)
theorem s_fstore_n (X : Cx p R s m args c G M0 cc own nL fr lo) {kk : Fin 4} {i : Nat} {x : UInt32} {vs' : List (Nat × Value)} (hd : decode cc pc = .ok (.fstore_n kk, 1)) (hi : (kk : Nat) = i) (hn : i < nL) (ks : List Nat) (hq : lv_pick ((i, Value.float x) :: vs.filter (fun q => !(q.1 == i) && !(q.1 + 1 == i && q.2.category == 2))) ks = vs') (k : Sg p l e R s m args below meth c Q G M0 nL (pc + 1) vs' st M) : Sg p l e R s m args below meth c Q G M0 nL pc vs (Value.float x :: st) M :=
  fun hk H locs ls hl hP hS => lv_fstore_n X.1 X.2.1 hd hi hl hn rfl fun ls' hl' => k hk H locs ls' (lv_sub hl' ks hq) hP hS
theorem s_fstore (X : Cx p R s m args c G M0 cc own nL fr lo) {i : Nat} {x : UInt32} {vs' : List (Nat × Value)} (hd : decode cc pc = .ok (.fstore i, 2)) (hn : i < nL) (ks : List Nat) (hq : lv_pick ((i, Value.float x) :: vs.filter (fun q => !(q.1 == i) && !(q.1 + 1 == i && q.2.category == 2))) ks = vs') (k : Sg p l e R s m args below meth c Q G M0 nL (pc + 2) vs' st M) : Sg p l e R s m args below meth c Q G M0 nL pc vs (Value.float x :: st) M :=
  fun hk H locs ls hl hP hS => lv_fstore X.1 X.2.1 hd hl hn rfl fun ls' hl' => k hk H locs ls' (lv_sub hl' ks hq) hP hS
theorem s_dstore_n (X : Cx p R s m args c G M0 cc own nL fr lo) {kk : Fin 4} {i : Nat} {x : UInt64} {vs' : List (Nat × Value)} (hd : decode cc pc = .ok (.dstore_n kk, 1)) (hi : (kk : Nat) = i) (hn : i + 1 < nL) (ks : List Nat) (hq : lv_pick ((i, Value.double x) :: vs.filter (fun q => !(q.1 == i) && (!(q.1 == i + 1) && !(q.1 + 1 == i && q.2.category == 2)))) ks = vs') (k : Sg p l e R s m args below meth c Q G M0 nL (pc + 1) vs' st M) : Sg p l e R s m args below meth c Q G M0 nL pc vs (Value.double x :: st) M :=
  fun hk H locs ls hl hP hS => lv_dstore_n X.1 X.2.1 hd hi hl hn rfl fun ls' hl' => k hk H locs ls' (lv_sub hl' ks hq) hP hS
theorem s_dstore (X : Cx p R s m args c G M0 cc own nL fr lo) {i : Nat} {x : UInt64} {vs' : List (Nat × Value)} (hd : decode cc pc = .ok (.dstore i, 2)) (hn : i + 1 < nL) (ks : List Nat) (hq : lv_pick ((i, Value.double x) :: vs.filter (fun q => !(q.1 == i) && (!(q.1 == i + 1) && !(q.1 + 1 == i && q.2.category == 2)))) ks = vs') (k : Sg p l e R s m args below meth c Q G M0 nL (pc + 2) vs' st M) : Sg p l e R s m args below meth c Q G M0 nL pc vs (Value.double x :: st) M :=
  fun hk H locs ls hl hP hS => lv_dstore X.1 X.2.1 hd hl hn rfl fun ls' hl' => k hk H locs ls' (lv_sub hl' ks hq) hP hS
theorem s_fcmp (X : Cx p R s m args c G M0 cc own nL fr lo) {x y : UInt32} {op : CmpOp} (hd : decode cc pc = .ok (.fcmp op, 1)) (k : Sg p l e R s m args below meth c Q G M0 nL (pc + 1) vs (.int (Op.cmpValue (FP.fcmp x y) op) :: st) M) : Sg p l e R s m args below meth c Q G M0 nL pc vs (.float y :: .float x :: st) M :=
  fun hk H locs ls hl hP hS => lv_fcmp X.1 X.2.1 hd (k hk H locs ls hl hP hS)
theorem s_fdiv (X : Cx p R s m args c G M0 cc own nL fr lo) {x y : UInt32} (hd : decode cc pc = .ok (.fdiv, 1)) (hne : vf_n32 (FP.fdiv x y)) (k : Sg p l e R s m args below meth c Q G M0 nL (pc + 1) vs (.float (FP.fdiv x y) :: st) M) : Sg p l e R s m args below meth c Q G M0 nL pc vs (.float y :: .float x :: st) M :=
  fun hk H locs ls hl hP hS => lv_fdiv X.1 X.2.1 hd hne (k hk H locs ls hl hP hS)
theorem s_fmul (X : Cx p R s m args c G M0 cc own nL fr lo) {x y : UInt32} (hd : decode cc pc = .ok (.fmul, 1)) (hne : vf_n32 (FP.fmul x y)) (k : Sg p l e R s m args below meth c Q G M0 nL (pc + 1) vs (.float (FP.fmul x y) :: st) M) : Sg p l e R s m args below meth c Q G M0 nL pc vs (.float y :: .float x :: st) M :=
  fun hk H locs ls hl hP hS => lv_fmul X.1 X.2.1 hd hne (k hk H locs ls hl hP hS)
theorem s_fsub (X : Cx p R s m args c G M0 cc own nL fr lo) {x y : UInt32} (hd : decode cc pc = .ok (.fsub, 1)) (hne : vf_n32 (FP.fsub x y)) (k : Sg p l e R s m args below meth c Q G M0 nL (pc + 1) vs (.float (FP.fsub x y) :: st) M) : Sg p l e R s m args below meth c Q G M0 nL pc vs (.float y :: .float x :: st) M :=
  fun hk H locs ls hl hP hS => lv_fsub X.1 X.2.1 hd hne (k hk H locs ls hl hP hS)
theorem s_nmF {x t : UInt32} (h : x = t) (k : Sg p l e R s m args below meth c Q G M0 nL pc vs (.float x :: st) M) : Sg p l e R s m args below meth c Q G M0 nL pc vs (.float t :: st) M := h ▸ k
theorem s_dcmp (X : Cx p R s m args c G M0 cc own nL fr lo) {x y : UInt64} {op : CmpOp} (hd : decode cc pc = .ok (.dcmp op, 1)) (k : Sg p l e R s m args below meth c Q G M0 nL (pc + 1) vs (.int (Op.cmpValue (FP.dcmp x y) op) :: st) M) : Sg p l e R s m args below meth c Q G M0 nL pc vs (.double y :: .double x :: st) M :=
  fun hk H locs ls hl hP hS => lv_dcmp X.1 X.2.1 hd (k hk H locs ls hl hP hS)
theorem s_ddiv (X : Cx p R s m args c G M0 cc own nL fr lo) {x y : UInt64} (hd : decode cc pc = .ok (.ddiv, 1)) (hne : vf_n64 (FP.ddiv x y)) (k : Sg p l e R s m args below meth c Q G M0 nL (pc + 1) vs (.double (FP.ddiv x y) :: st) M) : Sg p l e R s m args below meth c Q G M0 nL pc vs (.double y :: .double x :: st) M :=
  fun hk H locs ls hl hP hS => lv_ddiv X.1 X.2.1 hd hne (k hk H locs ls hl hP hS)
theorem s_dmul (X : Cx p R s m args c G M0 cc own nL fr lo) {x y : UInt64} (hd : decode cc pc = .ok (.dmul, 1)) (hne : vf_n64 (FP.dmul x y)) (k : Sg p l e R s m args below meth c Q G M0 nL (pc + 1) vs (.double (FP.dmul x y) :: st) M) : Sg p l e R s m args below meth c Q G M0 nL pc vs (.double y :: .double x :: st) M :=
  fun hk H locs ls hl hP hS => lv_dmul X.1 X.2.1 hd hne (k hk H locs ls hl hP hS)
theorem s_dsub (X : Cx p R s m args c G M0 cc own nL fr lo) {x y : UInt64} (hd : decode cc pc = .ok (.dsub, 1)) (hne : vf_n64 (FP.dsub x y)) (k : Sg p l e R s m args below meth c Q G M0 nL (pc + 1) vs (.double (FP.dsub x y) :: st) M) : Sg p l e R s m args below meth c Q G M0 nL pc vs (.double y :: .double x :: st) M :=
  fun hk H locs ls hl hP hS => lv_dsub X.1 X.2.1 hd hne (k hk H locs ls hl hP hS)
theorem s_nmD {x t : UInt64} (h : x = t) (k : Sg p l e R s m args below meth c Q G M0 nL pc vs (.double x :: st) M) : Sg p l e R s m args below meth c Q G M0 nL pc vs (.double t :: st) M := h ▸ k
theorem s_i2f (X : Cx p R s m args c G M0 cc own nL fr lo) {x : Int32} (hd : decode cc pc = .ok (.i2f, 1)) (k : Sg p l e R s m args below meth c Q G M0 nL (pc + 1) vs (.float (FP.i2f x) :: st) M) : Sg p l e R s m args below meth c Q G M0 nL pc vs (.int x :: st) M :=
  fun hk H locs ls hl hP hS => lv_i2f X.1 X.2.1 hd (k hk H locs ls hl hP hS)
theorem s_i2d (X : Cx p R s m args c G M0 cc own nL fr lo) {x : Int32} (hd : decode cc pc = .ok (.i2d, 1)) (k : Sg p l e R s m args below meth c Q G M0 nL (pc + 1) vs (.double (FP.i2d x) :: st) M) : Sg p l e R s m args below meth c Q G M0 nL pc vs (.int x :: st) M :=
  fun hk H locs ls hl hP hS => lv_i2d X.1 X.2.1 hd (k hk H locs ls hl hP hS)
theorem s_l2d (X : Cx p R s m args c G M0 cc own nL fr lo) {x : Int64} (hd : decode cc pc = .ok (.l2d, 1)) (k : Sg p l e R s m args below meth c Q G M0 nL (pc + 1) vs (.double (FP.l2d x) :: st) M) : Sg p l e R s m args below meth c Q G M0 nL pc vs (.long x :: st) M :=
  fun hk H locs ls hl hP hS => lv_l2d X.1 X.2.1 hd (k hk H locs ls hl hP hS)
theorem s_f2i (X : Cx p R s m args c G M0 cc own nL fr lo) {x : UInt32} (hd : decode cc pc = .ok (.f2i, 1)) (k : Sg p l e R s m args below meth c Q G M0 nL (pc + 1) vs (.int (FP.f2i x) :: st) M) : Sg p l e R s m args below meth c Q G M0 nL pc vs (.float x :: st) M :=
  fun hk H locs ls hl hP hS => lv_f2i X.1 X.2.1 hd (k hk H locs ls hl hP hS)
theorem s_d2l (X : Cx p R s m args c G M0 cc own nL fr lo) {x : UInt64} (hd : decode cc pc = .ok (.d2l, 1)) (k : Sg p l e R s m args below meth c Q G M0 nL (pc + 1) vs (.long (FP.d2l x) :: st) M) : Sg p l e R s m args below meth c Q G M0 nL pc vs (.double x :: st) M :=
  fun hk H locs ls hl hP hS => lv_d2l X.1 X.2.1 hd (k hk H locs ls hl hP hS)
theorem s_d2i (X : Cx p R s m args c G M0 cc own nL fr lo) {x : UInt64} (hd : decode cc pc = .ok (.d2i, 1)) (k : Sg p l e R s m args below meth c Q G M0 nL (pc + 1) vs (.int (FP.d2i x) :: st) M) : Sg p l e R s m args below meth c Q G M0 nL pc vs (.double x :: st) M :=
  fun hk H locs ls hl hP hS => lv_d2i X.1 X.2.1 hd (k hk H locs ls hl hP hS)
theorem s_rawF (X : Cx p R s m args c G M0 cc own nL fr lo) {ix : Nat} {b : UInt32} (hlk : Cond.methodLink own ix ⟨"java/lang/Float", "floatToRawIntBits", "(F)I"⟩ ∈ lw_g) (hnat : Cond.native ⟨"java/lang/Float", "floatToRawIntBits", "(F)I"⟩ ∈ lw_g) (hstat : Cond.static ⟨"java/lang/Float", "floatToRawIntBits", "(F)I"⟩ ∈ lw_g) (hini : Cond.initialized "java/lang/Float" ∈ lw_g) (hR : 1 ≤ fr ∧ (st.map fun v => v.category).sum + 16 ≤ lo) (hd : decode cc pc = .ok (.invokestatic ix, 3)) (k : Sg p l e R s m args below meth c Q G M0 nL (pc + 3) vs (.int b.toInt32 :: st) M) : Sg p l e R s m args below meth c Q G M0 nL pc vs (.float b :: st) M := by
  intro hk H locs ls hl hP hS
  have r1 := X.2.2.2.2.2.1.2.2.1
  have r2 := X.2.2.2.2.2.1.2.2.2
  exact vn_f2i X.1 X.2.1 (X.2.2.2.2.2.2.2.1.trans hl.1.symm) X.2.2.1 (X.2.2.2.1 _ hlk) (X.2.2.2.1 _ hnat) (X.2.2.2.1 _ hstat) (X.2.2.2.1 _ hini) (Nat.le_trans hR.1 r1) (by have := hR.2; omega) hd (k hk H locs ls hl hP hS)
theorem s_rawD (X : Cx p R s m args c G M0 cc own nL fr lo) {ix : Nat} {b : UInt64} (hlk : Cond.methodLink own ix ⟨"java/lang/Double", "doubleToRawLongBits", "(D)J"⟩ ∈ lw_g) (hnat : Cond.native ⟨"java/lang/Double", "doubleToRawLongBits", "(D)J"⟩ ∈ lw_g) (hstat : Cond.static ⟨"java/lang/Double", "doubleToRawLongBits", "(D)J"⟩ ∈ lw_g) (hini : Cond.initialized "java/lang/Double" ∈ lw_g) (hR : 1 ≤ fr ∧ (st.map fun v => v.category).sum + 16 ≤ lo) (hd : decode cc pc = .ok (.invokestatic ix, 3)) (k : Sg p l e R s m args below meth c Q G M0 nL (pc + 3) vs (.long b.toInt64 :: st) M) : Sg p l e R s m args below meth c Q G M0 nL pc vs (.double b :: st) M := by
  intro hk H locs ls hl hP hS
  have r1 := X.2.2.2.2.2.1.2.2.1
  have r2 := X.2.2.2.2.2.1.2.2.2
  exact vn_d2l X.1 X.2.1 (X.2.2.2.2.2.2.2.1.trans hl.1.symm) X.2.2.1 (X.2.2.2.1 _ hlk) (X.2.2.2.1 _ hnat) (X.2.2.2.1 _ hstat) (X.2.2.2.1 _ hini) (Nat.le_trans hR.1 r1) (by have := hR.2; omega) hd (k hk H locs ls hl hP hS)
end
theorem Met.ofF {l : Launch} {y : MethodName} {ws ws' : List Cond} {rm : Room} {Pc : Array Value → State → Prop} {Qc : Array Value → State → Outcome → State → Prop} {mc ms : Nat} {free : Addr → Prop} {cc : ByteArray} {maxL : Nat} {ret : Option FieldType}
    (hy : plainFor y = true) (hw : ws = Cond.code y cc maxL ret :: ws')
    (body : ∀ p e s m args below meth c s₁, BodyLoose p l y (headSpec ws rm) cc maxL ret e s m args below meth c s₁ → c.maxLocals = maxL → Pc args s →
      W p l e (headSpec ws rm).room s m args below meth c s.heap [] 0 0 (MQ below Qc args s mc ms free) (entryFrame m args maxL)) : Met l y ws rm Pc Qc mc ms free := by
  refine MetFree.of_bodySF (code := cc) (maxLocals := maxL) (ret := ret) hy ?_ ?_
  · intro args s m h hn
    obtain ⟨meth, c, h1, h2, h3, h4, h5, h6, -, -⟩ := Cond.code_spec hn (atoms_spec (ws := ws) h _ (by rw [hw]; exact List.mem_cons_self))
    exact ⟨meth, c, h1, h2, h3, h4, h5, h6⟩
  · intro p e s m args below meth c s₁ B hml hP _
    have hh0 : s₁.heap = s.heap := by rw [B.state]; rfl
    obtain ⟨t, a1, o, b1, b2, b3⟩ := body p e s m args below meth c s₁ B hml hP s₁ hh0 (Stand.of_body B)
    exact ⟨t, o, a1, b1, b2, ⟨b3.1, b3.2⟩⟩
theorem Kt.ofF {y : MethodName} {bytes : ByteArray} {maxL : Nat} {ret : Option FieldType} {fr lo : Nat} {G : Gam} {av : List Value} {M M1 : Mem} {r : Option Value} (hy : plainFor y = true) (hlen : (lg_sl av).length ≤ maxL)
    (body : ∀ (p : Program) (l : Launch) (e : Env) (R : Room) (s : State) (m : MethodId) (args : Array Value) (below : List Frame) (meth : Method) (c : Code), Cx p R s m args c G M bytes y.cls maxL fr lo → meth.sig.returnType = ret → meth.locks = false → meth.name = y.name → Sg p l e R s m args below meth c (Qm below G args s r M M1) G M maxL 0 (lv_args 0 av) [] M) : Kt y bytes maxL ret fr lo G av M M1 r := by
  intro l
  refine Met.ofF (cc := bytes) (maxL := maxL) (ret := ret) hy rfl ?_
  intro p e s m args below meth c s₁ B hml hv
  obtain ⟨rfl, hz, c1, c2, hP, hK, hSt⟩ := hv
  have hts := atoms_spec (ws := Cond.code y bytes maxL ret :: lw_g) B.pre
  have hX : Cx p (headSpec (Cond.code y bytes maxL ret :: lw_g) (rmx fr lo M)).room s m av.toArray c G M bytes y.cls maxL fr lo :=
    ⟨B.exec, B.bytes, findClass_of_methodNamed B.named, fun w hw => hts w (List.mem_cons_of_mem _ hw), hK, ⟨rfl, rfl, Nat.le_refl _, Nat.le_refl _⟩, hSt, hml, hz⟩
  have hb := body p l e _ s m av.toArray below meth c hX B.returns B.notSynchronized (name_of_methodNamed B.named B.method).1
  have hl := lv_entry av (n := maxL) hlen
  rw [lg_entry_eq]
  have h2 := hb ⟨Nat.le_refl _, Nat.le_refl _, c1, c2⟩ s.heap [] _ hl hP va_S.rf
  rw [Nat.sub_self, Nat.sub_self] at h2
  exact h2
