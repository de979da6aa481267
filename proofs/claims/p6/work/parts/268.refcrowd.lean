/-! ===== the reference: a crowd's turns ===== -/
theorem FrG.ofA {M M' : Mem} (f : Fr PA M M') : FrG M M' := (FrM.ofA f).G
set_option maxHeartbeats 1000000 in
theorem RV.crl {N A P T : Nat} {tw : Bool} {t w e1 e2 e3 : Int32} {S0 : St} {pb pt : List Row4} (h2N : 2 ≤ N) (h16 : N ≤ 16) (hT : T ≤ 500) (hN0 : xR S0 20 0 = nI N) (ht0 : xR S0 20 1 = 1 → N % 2 = 1) (hQb : ∀ v, v < N → ∀ i, N ≤ i → i < 32 → bt (qm N S0 v) i = false) (hA : ∀ r, r ≤ T → A + N * (r + 1) < 1048576) (hP : ∀ r, r ≤ T → P + 2 * N * r + N * N + N ≤ 9000) : ∀ (d i n : Nat) (M : Mem) (S : St) (g : Int64) (b : Bool), i + d = T → RV M tw t S pb pt → mI M 120 7 = 0 → mL M 120 8 = g → Gk g → CJ N A P S0 S i → d + 12000 ≤ n → ∃ M' n', f_X10_crowd_102 n 120 (nI T) w e1 e2 e3 (if b then 1 else 0) (nI i) M = f_X10_crowd_129 n' 120 w e1 e2 e3 M' ∧ 11000 ≤ n' ∧ RV M' tw t (crn t N d (S, g, b)).1 pb pt ∧ FrG M M' := by
  intro d
  induction d with
  | zero =>
    intro i n M S g b hi p hk hg hG J hn
    obtain ⟨n, rfl⟩ : ∃ m, n = m + 1 := ⟨n - 1, by omega⟩
    refine ⟨M, n, ?_, by omega, p, FrG.rf _⟩
    rw [f_X10_crowd_102, if_pos (nI_le (by omega) (by omega))]
  | succ d ih =>
    intro i n M S g b hi p hk hg hG J hn
    obtain ⟨n, rfl⟩ : ∃ m, n = m + 1 := ⟨n - 1, by omega⟩
    have next := J.c1 h2N h16 (hA i (by omega)) hQb t g b
    cases b with
    | false =>
      have e : crn t N (d + 1) (S, g, false) = (S, g, false) := crn_f _ _ _ _ _
      rw [e]
      refine ⟨M, n, ?_, by omega, p, FrG.rf _⟩
      rw [f_X10_crowd_102, if_neg (nI_ge (by omega) (by omega)), if_neg (show ¬ false = true by decide), if_pos rfl]
    | true =>
      obtain ⟨a1, a2, a3, a4⟩ := J.aA h16 (hA i (by omega)) hQb t
      have hPi := hP i (by omega)
      have hps := J.2.1
      have hfl := Psi_fl (N := N) (S := S)
      have hfl1 := Psi_fl (N := N) (S := akA t N S)
      have hk20 := J.2.2.1 20 (by omega)
      obtain ⟨M1, e1', p1, f1⟩ := p.takA (N := N) (by rw [hk20]; exact hN0) h16 (by rw [hk20]; exact ht0) (by omega) (n := n) (by omega)
      have k1 : mI M1 120 7 = 0 := (f1.2.1 120 (by unfold PA; omega) 7).trans hk
      have g1 : mL M1 120 8 = g := (f1.2.2 120 8).trans hg
      have ka := a3 20 (by omega)
      obtain ⟨M2, s1, s2, f2⟩ := p1.goO (n := n) a1 (by rw [ka]; exact hN0) h2N h16 (by rw [ka]; exact ht0) (hA i (by omega)) (by omega) k1 g1 hG (by omega)
      have hd : ∀ y : Option (Int32 × Mem), (obd2 (f_X10_goOnce n 120 M1) fun r10 M11 => bnd (nI i + (1 : Int32)) fun x12 => f_X10_crowd_102 n 120 (nI T) w e1 e2 e3 r10 x12 M11) = y → f_X10_crowd_102 (n + 1) 120 (nI T) w e1 e2 e3 (if true = true then 1 else 0) (nI i) M = y := by
        intro y hy
        rw [f_X10_crowd_102, if_neg (nI_ge (by omega) (by omega)), if_pos rfl, if_neg ne10, rs_f p.1, e1', obd_s, rs_f p1.1]
        exact hy
      have ec : crn t N (d + 1) (S, g, true) = crn t N d (cr1 t N (S, g, true)) := rfl
      rw [ec]
      have k2 : mI M2 120 7 = 0 := (f2.2.2.1 7 (by decide)).trans k1
      by_cases c : mv0 N (akA t N S) = []
      · obtain ⟨em, p2, g2⟩ := s1 c
        rw [cr1_e c] at next ⊢
        obtain ⟨M', n', e', hn', p', f'⟩ := ih (i + 1) n M2 _ g false (by omega) p2 k2 g2 hG next (by omega)
        refine ⟨M', n', hd _ ?_, hn', p', FrG.tr (FrG.ofA f1) (FrG.tr f2 f')⟩
        rw [em, obd2_s, nI_1, bnd_e]
        exact e'
      · obtain ⟨k, hk', em, p2, g2⟩ := s2 c
        rw [cr1_s c hk'] at next ⊢
        obtain ⟨M', n', e', hn', p', f'⟩ := ih (i + 1) n M2 _ (drw g) true (by omega) p2 k2 g2 (Gk_drw hG) next (by omega)
        refine ⟨M', n', hd _ ?_, hn', p', FrG.tr (FrG.ofA f1) (FrG.tr f2 f')⟩
        rw [em, obd2_s, nI_1, bnd_e]
        exact e'
