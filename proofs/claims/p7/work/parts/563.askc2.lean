/-! ===== questions, the class: more ===== -/
theorem has_ex (x : Int32) {v : Nat} (hv : v < 32) (M : Mem) : ∃ r, f_X9_has x (nI v) M = some r := ⟨_, f_has9 x hv M⟩
theorem ahd_ex (s v s' v' : Int32) (M : Mem) : ∃ r, f_X9_isAhead s v s' v' M = some r := ⟨_, f_ah9 s v s' v' M⟩
section
variable {M : Mem} {h X Y N : Nat} {t : Int32} {Q : Nat → Int32} {S : St} {pb pt : List Row4}
theorem aw_l (p : HV M h X Y t N Q S pb pt) (h16 : N ≤ 16) {k : Nat} (hk : k < N) : ∀ (d i n : Nat) (c : Int32), i + d = N → d + 1 ≤ n → ∃ r, f_X2_awaitedBy_12 M n h (nI k) (h + 17 + 2 * k) c (nI i) = some r := by
  intro d
  have q := p.1
  induction d with
  | zero =>
    intro i n c hi hn
    obtain ⟨n, rfl⟩ : ∃ m, n = m + 1 := ⟨n - 1, by omega⟩
    exact ⟨_, by rw [f_X2_awaitedBy_12, cs_f q, cs_h0 q, bnd_e, cs_s q, p.2.2.2.2.2.1, if_pos (nI_le (by omega) (by omega))]⟩
  | succ d ih =>
    intro i n c hi hn
    obtain ⟨n, rfl⟩ : ∃ m, n = m + 1 := ⟨n - 1, by omega⟩
    obtain ⟨zh, eh⟩ := has_ex (mI M (h + 17 + 2 * k) 2 &&& (mI M (h + 17 + 2 * k) 3 ^^^ (-1 : Int32))) (v := i) (by omega) M
    rw [f_X2_awaitedBy_12, cs_f q, cs_h0 q, bnd_e, cs_s q, p.2.2.2.2.2.1, if_neg (nI_ge (by omega) (by omega)), cs_po q (show k < 16 by omega), eh, obd_s]
    split
    · rw [bnd_e, nI_1]; exact ih (i + 1) n _ (by omega) (by omega)
    · rw [cs_h2 q, bnd_e, cs_a10 q, cs_i10 q (by omega), cs_rpc q (by omega), bnd_e, cs_po q (by omega)]
      split
      · rw [bnd_e, nI_1]; exact ih (i + 1) n _ (by omega) (by omega)
      · rw [bnd_e, cs_a10 q, cs_i10 q (by omega), cs_rpc q (by omega), bnd_e, cs_po q (by omega), bnd_e, bnd_e, nI_1]
        exact ih (i + 1) n _ (by omega) (by omega)
theorem HV.aw (p : HV M h X Y t N Q S pb pt) (h16 : N ≤ 16) {k : Nat} (hk : k < N) {n : Nat} (hn : 20 ≤ n) : ∃ r, f_X2_awaitedBy n h (nI k) M = some r := by
  have q := p.1
  obtain ⟨r, e⟩ := aw_l p h16 hk N 0 n 0 (by omega) (by omega)
  exact ⟨r, by rw [f_X2_awaitedBy, cs_f q, cs_h2 q, bnd_e, cs_a10 q, cs_i10 q (by omega), cs_rpc q (by omega), bnd_e, cs_po q (by omega)]; exact e⟩
theorem ca_l (q : CS M h) {v u : Nat} (hv : v < 16) (hu : u < 16) : ∀ (d i n : Nat) (c : Int32), i + d = 16 → d + 1 ≤ n → ∃ r, f_X4_countAheadOf_4 M n (h + 17 + 2 * v) (nI u) c (nI i) = some r := by
  intro d
  induction d with
  | zero =>
    intro i n c hi hn
    obtain ⟨n, rfl⟩ : ∃ m, n = m + 1 := ⟨n - 1, by omega⟩
    exact ⟨_, by rw [f_X4_countAheadOf_4, if_pos (show (16 : Int32) ≤ nI i from nI_le (a := 16) (by omega) (by omega))]⟩
  | succ d ih =>
    intro i n c hi hn
    obtain ⟨n, rfl⟩ : ∃ m, n = m + 1 := ⟨n - 1, by omega⟩
    obtain ⟨zh, eh⟩ := has_ex (mI M (h + 17 + 2 * v) 9) (v := i) (by omega) M
    rw [f_X4_countAheadOf_4, if_neg (show ¬ (16 : Int32) ≤ nI i from nI_ge (b := 16) (by omega) (by decide)), cs_po q hv, eh, obd_s]
    split
    · rw [bnd_e, nI_1]; exact ih (i + 1) n _ (by omega) (by omega)
    · obtain ⟨za, ea⟩ := ahd_ex (mI M (h + 18 + 2 * v) (nI i).toNatClampNeg) (nI i) (mI M (h + 18 + 2 * v) (nI u).toNatClampNeg) (nI u) M
      rw [cs_pr q hv, bnd_e, cs_pa q hv, cs_pi q hv (by omega), bnd_e, cs_pa q hv, cs_pi q hv hu, ea, obd_s]
      split
      · rw [bnd_e, nI_1]; exact ih (i + 1) n _ (by omega) (by omega)
      · rw [bnd_e, bnd_e, nI_1]; exact ih (i + 1) n _ (by omega) (by omega)
theorem wa_l (q : CS M h) {v : Nat} (hv : v < 16) (a : Int32) : ∀ (d i n : Nat), i + d = 16 → d + 40 ≤ n → f_X4_waiterAt_2 M n (h + 17 + 2 * v) a (nI i) = some (-1) ∨ ∃ u, u < 16 ∧ f_X4_waiterAt_2 M n (h + 17 + 2 * v) a (nI i) = some (nI u) := by
  intro d
  induction d with
  | zero =>
    intro i n hi hn
    obtain ⟨n, rfl⟩ : ∃ m, n = m + 1 := ⟨n - 1, by omega⟩
    exact Or.inl (by rw [f_X4_waiterAt_2, if_pos (show (16 : Int32) ≤ nI i from nI_le (a := 16) (by omega) (by omega))])
  | succ d ih =>
    intro i n hi hn
    obtain ⟨n, rfl⟩ : ∃ m, n = m + 1 := ⟨n - 1, by omega⟩
    obtain ⟨r, e⟩ := ca_l q hv (u := i) (by omega) 16 0 n 0 (by omega) (by omega)
    obtain ⟨zh, eh⟩ := has_ex (mI M (h + 17 + 2 * v) 9) (v := i) (by omega) M
    have step : f_X4_waiterAt_2 M (n + 1) (h + 17 + 2 * v) a (nI i) = if zh = 0 then f_X4_waiterAt_2 M n (h + 17 + 2 * v) a (nI (i + 1)) else if r = a then some (nI i) else f_X4_waiterAt_2 M n (h + 17 + 2 * v) a (nI (i + 1)) := by
      rw [f_X4_waiterAt_2, if_neg (show ¬ (16 : Int32) ≤ nI i from nI_ge (b := 16) (by omega) (by decide)), cs_po q hv, eh, obd_s, bnd_e, nI_1, f_X4_countAheadOf, show f_X4_countAheadOf_4 M n (h + 17 + 2 * v) (nI i) 0 0 = some r from e, obd_s]
    have nx := ih (i + 1) n (by omega) (by omega)
    by_cases z0 : zh = 0
    · rw [step, if_pos z0]; exact nx
    · by_cases ra : r = a
      · exact Or.inr ⟨i, by omega, by rw [step, if_neg z0, if_pos ra]⟩
      · rw [step, if_neg z0, if_neg ra]; exact nx
theorem ka_l {d5 d6 d7 len us : Nat} (q : CS M h) (ds : DS M h d5 d6 d7 len) (hl : us ≤ len) (h9 : len ≤ 18000) : ∀ (e j n : Nat) (cs : List Nat) (x : Int32), Chn (mI M d7) x cs → (∀ c, c ∈ cs → c < us) → e < cs.length → j + e < 100000 → e + 1 ≤ n → ∃ r, f_X5_kindAt_37 M n (h + 1) (nI (j + e)) x (nI j) = some r := by
  intro e
  induction e with
  | zero =>
    intro j n cs x hc hb he hj hn
    obtain ⟨n, rfl⟩ : ∃ m, n = m + 1 := ⟨n - 1, by omega⟩
    cases cs with
    | nil => cases he
    | cons c cs =>
      have hx : x = nI c := hc.1
      have cu := hb c (by simp)
      refine ⟨_, by rw [f_X5_kindAt_37, if_pos (show nI (j + 0) ≤ nI j from Int32.le_refl _), cs_p q, ds.1.1, bnd_e, chk_t ds.2.1.1, hx, ds.2.2.1.1, chk_t (inB_n (by omega) (by omega)), f_X5_kindOf, obd_s]⟩
  | succ e ih =>
    intro j n cs x hc hb he hj hn
    obtain ⟨n, rfl⟩ : ∃ m, n = m + 1 := ⟨n - 1, by omega⟩
    cases cs with
    | nil => cases he
    | cons c cs =>
      have hx : x = nI c := hc.1
      have cu := hb c (by simp)
      rw [f_X5_kindAt_37, if_neg (nI_ge (by omega) (by omega)), cs_p q, ds.1.2.2, bnd_e, chk_t ds.2.1.2.2, hx, ds.2.2.1.2.2, chk_t (inB_n (by omega) (by omega)), bnd_e, mI_d (by omega), bnd_e, nI_1]
      have := ih (j + 1) n cs (mI M d7 c) hc.2 (fun c hc => hb c (by simp [hc])) (by simp at he; omega) (by omega) (by omega)
      rw [show j + 1 + e = j + (e + 1) by omega] at this
      exact this
theorem csi_l (q : CS M h) : ∀ (d i n : Nat) (c : Int32), i + d = 6 → d + 1 ≤ n → ∃ r, f_X5_sentInAll_4 M n (h + 1) c (nI i) = some r := by
  intro d
  induction d with
  | zero =>
    intro i n c hi hn
    obtain ⟨n, rfl⟩ : ∃ m, n = m + 1 := ⟨n - 1, by omega⟩
    exact ⟨c, by rw [f_X5_sentInAll_4, if_pos (show (6 : Int32) ≤ nI i from nI_le (a := 6) (by omega) (by omega))]⟩
  | succ d ih =>
    intro i n c hi hn
    obtain ⟨n, rfl⟩ : ∃ m, n = m + 1 := ⟨n - 1, by omega⟩
    rw [f_X5_sentInAll_4, if_neg (show ¬ (6 : Int32) ≤ nI i from nI_ge (b := 6) (by omega) (by decide)), cs_p q, cs_r6 q, bnd_e, cs_a6 q, cs_i6 q (by omega), bnd_e, bnd_e, nI_1]
    exact ih (i + 1) n _ (by omega) (by omega)
theorem te_l {l m : Nat} {xs : List Row4} (hm : m = 30 ∨ m = 40) (i1 : isO M 3 l) (r1 : mR M l 1 = l + 1) (i2 : isO M 100 (l + 1)) (n2 : mLn M (l + 1) = 4 * m) (g : LG M l m xs) (a b : Int32) : ∃ r, f_X3_tell l a b M = some r := by
  obtain ⟨g0, g2, g3, _⟩ := g
  have hh : xs.length % m < m := Nat.mod_lt _ (by omega)
  generalize xs.length % m = hd at g3 hh
  have hc : min xs.length m ≤ m := Nat.min_le_right _ _
  generalize min xs.length m = ct at g2 hc
  rw [f_X3_tell]
  split
  · exact ⟨_, by rw [chk_t i1]⟩
  · split
    · exact ⟨_, rfl⟩
    · rename_i ca
      obtain ⟨s, hs, rfl⟩ := nn_e ca
      rw [chk_t i1, g2]
      by_cases c1 : ct ≤ s
      · exact ⟨_, by rw [if_pos (nI_le c1 hs)]⟩
      · rw [if_neg (nI_ge (by omega) (by omega))]
        rcases out_in (N := 4) (by decide) b with hb | ⟨u, hu, rfl⟩
        · rcases hb with hb | hb
          · exact ⟨_, by rw [if_pos hb]⟩
          · by_cases c2 : b < 0
            · exact ⟨_, by rw [if_pos c2]⟩
            · exact ⟨_, by rw [if_neg c2, if_neg (show ¬ b < (4 : Int32) from Int32.not_lt.mpr hb)]⟩
        · rw [if_neg (show ¬ nI u < 0 from nI_nlt (b := 0) (Nat.zero_le _) (by omega)), if_pos (show nI u < (4 : Int32) from nI_lt (b := 4) hu (by decide)), g3, bnd_e, r1, bnd_e, chk_t i2]
          by_cases c2 : s + 1 ≤ hd
          · have e1 : nI hd - (1 : Int32) - nI s = nI (hd - 1 - s) := by
              rw [nI_m1' (by omega)]
              obtain ⟨z, hz⟩ : ∃ z, hd - 1 = z + s := ⟨hd - 1 - s, by omega⟩
              rw [hz, ← nI_add, show z + s - s = z by omega, Int32.add_sub_cancel]
            rw [e1, if_pos (show (0 : Int32) ≤ nI (hd - 1 - s) from nI_le (a := 0) (Nat.zero_le _) (by omega)), show (4 : Int32) = nI 4 from rfl, pk_mul, nI_add, n2, chk_t (inB_n (by omega) (by omega))]
            exact ⟨_, rfl⟩
          · have e1 : nI hd - (1 : Int32) - nI s + nI m = nI (hd + m - 1 - s) := by
              obtain ⟨z, hz⟩ : ∃ z, hd + m = z + 1 + s := ⟨hd + m - 1 - s, by omega⟩
              have e2 : nI hd + nI m = nI z + 1 + nI s := by rw [nI_add, hz, nI_1, nI_add]
              rw [show hd + m - 1 - s = z by omega]
              have e3 : nI hd - (1 : Int32) - nI s + nI m = (nI hd + nI m) - 1 - nI s := by
                simp only [Int32.sub_eq_add_neg]
                ac_rfl
              rw [e3, e2]
              simp only [Int32.sub_eq_add_neg]
              rw [show nI z + 1 + nI s + -1 + -nI s = nI z + (1 + -1) + (nI s + -nI s) by ac_rfl, show (1 : Int32) + -1 = 0 from rfl, Int32.add_right_neg, Int32.add_zero, Int32.add_zero]
            split
            · rename_i c3
              exfalso
              have : nI hd - (1 : Int32) - nI s < 0 := by
                obtain ⟨z, hz⟩ : ∃ z, s + 1 = z + hd := ⟨s + 1 - hd, by omega⟩
                have ez : 1 ≤ z := by omega
                have e4 : nI hd - (1 : Int32) - nI s = 0 - nI z := by
                  have : nI s + 1 = nI z + nI hd := by rw [nI_1, hz, nI_add]
                  have e5 : nI hd - (1 : Int32) - nI s = nI hd - (nI s + 1) := by
                    simp only [Int32.sub_eq_add_neg, Int32.neg_add]
                    ac_rfl
                  rw [e5, this]
                  simp only [Int32.sub_eq_add_neg, Int32.neg_add]
                  rw [show nI hd + (-nI z + -nI hd) = -nI z + (nI hd + -nI hd) by ac_rfl, Int32.add_right_neg, Int32.add_zero, Int32.zero_add]
                rw [e4]
                have zb : z < 64 := by omega
                have all : ∀ z, z < 64 → 1 ≤ z → (0 : Int32) - nI z < 0 := by decide +kernel
                exact all z zb ez
              exact absurd c3 (Int32.not_le.mpr this)
            · rw [g0, e1, show (4 : Int32) = nI 4 from rfl, pk_mul, nI_add, n2, chk_t (inB_n (by omega) (by omega))]
              exact ⟨_, rfl⟩
end
