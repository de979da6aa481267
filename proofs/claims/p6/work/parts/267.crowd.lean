/-! ===== the class: a crowd's turns ===== -/
def XT (M : Mem) : Prop := isO M 9 0 ∧ mR M 0 0 = 1 ∧ mR M 0 2 = 14 ∧ mR M 0 3 = 63 ∧ 131 ≤ mN M
theorem XT.fr {M M' : Mem} {h : Nat} (x : XT M) (f : FrH M M' h) : XT M' := by
  obtain ⟨⟨a1, a2⟩, b, c, d, e⟩ := x
  obtain ⟨f1, f2, f3, _⟩ := f
  refine ⟨⟨by omega, ?_⟩, ?_, ?_, ?_, by omega⟩
  · rw [mC, f2 0 a1]; exact a2
  · rw [f3 0 0 a1 (by omega)]; exact b
  · rw [f3 0 2 a1 (by omega)]; exact c
  · rw [f3 0 3 a1 (by omega)]; exact d
theorem XT.sL {M : Mem} (x : XT M) (o k : Nat) (y : Int64) : XT (sL M o k y) := x
theorem XT.frD {M M' : Mem} {h : Nat} (x : XT M) (f : FrD M M' h) : XT M' := by
  obtain ⟨y, f⟩ := f
  exact (x.sL h 16 y).fr f
theorem crn_f (t : Int32) (N : Nat) (S : St) (g : Int64) : ∀ n, crn t N n (S, g, false) = (S, g, false) := by
  intro n
  induction n with
  | zero => rfl
  | succ n ih => exact ih
theorem cr1_e {t : Int32} {N : Nat} {S : St} {g : Int64} (h : mv0 N (akA t N S) = []) : cr1 t N (S, g, true) = (akA t N S, g, false) := by
  unfold cr1
  simp only [if_true]
  rw [if_pos h]
theorem cr1_s {t : Int32} {N c : Nat} {S : St} {g : Int64} (h : mv0 N (akA t N S) ≠ []) (hc : (mv0 N (akA t N S))[dk g (mv0 N (akA t N S)).length]? = some c) : cr1 t N (S, g, true) = (dm t N c (akA t N S), drw g, true) := by
  unfold cr1
  simp only [if_true]
  rw [if_neg h, hc]
set_option maxHeartbeats 1000000 in
theorem HV.crl {N A P T X Y : Nat} {t w : Int32} {Q : Nat → Int32} {S0 : St} {pb pt : List Row4} (h2N : 2 ≤ N) (h16 : N ≤ 16) (hT : T ≤ 500) (hQ : ∀ v, v < N → qm N S0 v = Q v) (hQb : ∀ v, v < N → ∀ i, N ≤ i → i < 32 → bt (qm N S0 v) i = false) (hA : ∀ r, r ≤ T → A + N * (r + 1) < 1048576) (hP : ∀ r, r ≤ T → P + 2 * N * r + N * N + N ≤ 9000) : ∀ (d i n : Nat) (M : Mem) (S : St) (g : Int64) (b : Bool), i + d = T → HV M 63 X Y t N Q S pb pt → XT M → mL M 63 16 = g → Gk g → CJ N A P S0 S i → d + 60 ≤ n → ∃ M' n', f_X9_crowd_52 n 0 (nI T) w (if b then 1 else 0) (nI i) M = f_X9_crowd_85 n' 0 w M' ∧ 40 ≤ n' ∧ HV M' 63 X Y t N Q (crn t N d (S, g, b)).1 pb pt ∧ FrD M M' 63 ∧ CJ N A P S0 (crn t N d (S, g, b)).1 T := by
  intro d
  induction d with
  | zero =>
    intro i n M S g b hi p x hg hG J hn
    obtain ⟨n, rfl⟩ : ∃ m, n = m + 1 := ⟨n - 1, by omega⟩
    refine ⟨M, n, ?_, by omega, p, (FrH.rf _ _).D, by rw [show T = i by omega]; exact J⟩
    rw [f_X9_crowd_52, if_pos (nI_le (by omega) (by omega))]
  | succ d ih =>
    intro i n M S g b hi p x hg hG J hn
    obtain ⟨n, rfl⟩ : ∃ m, n = m + 1 := ⟨n - 1, by omega⟩
    have next := J.c1 h2N h16 (hA i (by omega)) hQb t g b
    cases b with
    | false =>
      have e : crn t N (d + 1) (S, g, false) = (S, g, false) := crn_f _ _ _ _ _
      rw [e]
      refine ⟨M, n, ?_, by omega, p, (FrH.rf _ _).D, ?_⟩
      · rw [f_X9_crowd_52, if_neg (nI_ge (by omega) (by omega)), if_neg (show ¬ false = true by decide), if_pos rfl]
      · have ad : ∀ d i, i + d = T → CJ N A P S0 S i → CJ N A P S0 S T := by
          intro d
          induction d with
          | zero => intro i hi J; rw [show T = i by omega]; exact J
          | succ d ih2 => intro i hi J; exact ih2 (i + 1) (by omega) (J.c1 h2N h16 (hA i (by omega)) hQb t g false)
        exact ad (d + 1) i hi J
    | true =>
      obtain ⟨a1, a2, a3, a4⟩ := J.aA h16 (hA i (by omega)) hQb t
      have hPi := hP i (by omega)
      have hps := J.2.1
      have hfl := Psi_fl (N := N) (S := S)
      have hfl1 := Psi_fl (N := N) (S := akA t N S)
      obtain ⟨M1, e1, p1, f1⟩ := p.takA h16 J.1.1 (fun v hv => by rw [J.2.2.1.m]; exact hQ v hv) (by omega) (n := n) (by omega)
      have x1 := x.fr f1
      have g1 : mL M1 63 16 = g := (f1.2.2.2.2.1 63 (by have := x.2.2.2.2; omega) 16).trans hg
      obtain ⟨s1, s2⟩ := p1.dr (n := n) a1 (hA i (by omega)) h2N h16 (by omega) (by have := x1.2.2.2.2; omega) g1 hG (by omega)
      have hd : ∀ y : Option (Int32 × Mem), (obd2 (f_X2_moveByDraw n 63 M1) fun r16 M17 => bnd (nI i + (1 : Int32)) fun x18 => f_X9_crowd_52 n 0 (nI T) w r16 x18 M17) = y → f_X9_crowd_52 (n + 1) 0 (nI T) w (if true = true then 1 else 0) (nI i) M = y := by
        intro y hy
        rw [f_X9_crowd_52, if_neg (nI_ge (by omega) (by omega)), if_pos rfl, if_neg ne10, chk_t x.1, x.2.2.2.1, bnd_e, cs_f p.1, e1, obd_s, chk_t x1.1, x1.2.2.2.1, bnd_e, cs_f p1.1]
        exact hy
      have ec : crn t N (d + 1) (S, g, true) = crn t N d (cr1 t N (S, g, true)) := rfl
      rw [ec]
      by_cases c : mv0 N (akA t N S) = []
      · have em := s1 c
        rw [cr1_e c] at next ⊢
        obtain ⟨M', n', e', hn', p', f', J'⟩ := ih (i + 1) n M1 _ g false (by omega) p1 x1 g1 hG next (by omega)
        refine ⟨M', n', hd _ ?_, hn', p', f1.D.tr f', J'⟩
        rw [em, obd2_s, nI_1, bnd_e]
        exact e'
      · obtain ⟨k, M2, hk, em, p2, g2, f2⟩ := s2 c
        rw [cr1_s c hk] at next ⊢
        obtain ⟨M', n', e', hn', p', f', J'⟩ := ih (i + 1) n M2 _ (drw g) true (by omega) p2 (x1.frD f2) g2 (Gk_drw hG) next (by omega)
        refine ⟨M', n', hd _ ?_, hn', p', (f1.D.tr f2).tr f', J'⟩
        rw [em, obd2_s, nI_1, bnd_e]
        exact e'
