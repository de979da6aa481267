/-! ===== weakest, chance, chanceOf, pivotal, better: both answer alike ===== -/
theorem CW.sv {M M' : Mem} {N : Nat} {Q : Nat → Int32} {S : St} (h : CW M N Q S) (f : Fs M M') (v : SV5 M' N) (h1 : mI M' 5 7 = 1) (ct : CT M' N S) : CW M' N Q S := by
  obtain ⟨X, Y, L, p, sb, xg, xc, xv, xs, g, hL⟩ := h
  obtain ⟨e, hI⟩ := f
  have s1 : Shp1 M M' := Shp1.e e
  exact ⟨X, Y, L, p.kp6 e (fun o ho b => hI o (by omega) b), sb.e e (hI 1 (by decide)) (hI 2 (by decide)), xg.s s1, xc.s s1 (hI 113 (by decide)) (fun _ _ => rfl), ⟨⟨v.1.1, v.1.2.1, v.1.2.2, Or.inr ⟨h1, v.2.1.2.1, v.2.1.2.2, v.2.2.2.1, v.2.2.2.2⟩⟩, fun _ => ct⟩, xs.e e (fun o ho b => hI o (by omega) b), g.e e, hL⟩
theorem FrLg.f {M M' : Mem} (h : FrLg M M') : Fs M M' := ⟨h.1, fun o _ b => h.2 o b⟩
/-- the class has surveyed -/
theorem WJ.sv {M : Mem} {N A i n : Nat} {Q : Nat → Int32} {S : St} (w : WJ M N A i Q S) (hn : 4000 ≤ n) : ∃ M1, f_X9_surveyOnce n 0 M = some M1 ∧ Fs M M1 ∧ SV5 M1 N ∧ mI M1 5 7 = 1 ∧ CT M1 N S := by
  obtain ⟨X, Y, L, p, sb, xg, xc, ⟨⟨a, b, c, d⟩, xt⟩, xr⟩ := id w.1
  have sw := w.2.2.2.1
  have h2 := sw.n2
  have h16 := sw.n16
  have w5 : W5 M := ⟨a, b, c⟩
  by_cases z : mI M 5 7 = 0
  · obtain ⟨M', e, f, s, o, _, ct⟩ := sv1v xg w5 z sb (by omega) h16 sw.bi sw.tb sw.t2 (n := n) (by omega)
    exact ⟨M', e, f, s, o, ct⟩
  · obtain ⟨d1, d2, d3, d4, d5⟩ := d.resolve_left z
    exact ⟨M, by rw [f_X9_surveyOnce, chk_t xg.1, xg.2.2.1, bnd_e, chk_t w5.1.1, if_neg z], Fs.rf M, ⟨w5, ⟨⟨w5.1.2.1, w5.2.1.2.2.2.2.2.2.1, w5.1.2.2.1, w5.2.2.1⟩, d2, d3⟩, ⟨⟨w5.1.2.2.2.1, w5.2.1.2.2.2.2.2.2.2, w5.1.2.2.2.2.1, w5.2.2.2.1⟩, d4, d5⟩⟩, d1, xt d1⟩
theorem WJ.sv2 {M M1 : Mem} {N A i : Nat} {Q : Nat → Int32} {S : St} (w : WJ M N A i Q S) (f : Fs M M1) (v : SV5 M1 N) (h1 : mI M1 5 7 = 1) (ct : CT M1 N S) : CW M1 N Q S ∧ XG M1 ∧ SB M1 N S ∧ RV M1 false 0 S [] [] ∧ mI M1 120 7 = 0 ∧ isO M1 10 120 := by
  have cw := w.1.sv f v h1 ct
  obtain ⟨X, Y, L, p, sb, xg, _⟩ := id cw
  have r : RV M1 false 0 S [] [] := w.2.1.mr (by unfold mN; rw [f.1]; exact Nat.le_refl _) (fun o a b => ⟨by rw [f.1], fun b => mR_e f.1 o b, f.2 o (by omega)⟩)
  exact ⟨cw, xg, sb, r, by rw [f.2 120 (by decide)]; exact w.2.2.1, r.1.io (by decide) (by decide) (by decide)⟩
theorem WJ.p2 {M M1 M2 : Mem} {N A i : Nat} {Q : Nat → Int32} {S : St} (w : WJ M N A i Q S) (cw : CW M1 N Q S) (z1 : mI M1 120 7 = 0) (r2 : RV M2 false 0 S [] []) (f : Fr P2 M1 M2) : WI (i + 1) M2 :=
  ⟨N, A, Q, S, cw.ref f.1 (fun o ho b => f.2.1 o (fun z => ho (by unfold P2 at z; omega)) b) (fun _ o _ b => f.2.2 o b), r2, by rw [f.2.1 120 (by unfold P2; decide)]; exact z1, w.2.2.2.1.mo, w.2.2.2.2⟩
theorem isI_o {a : Int32} {K : Nat} (hK : K < 999) (h : Out (K + 1) a) {M : Mem} : f_X10_isIn a (0 : Int32) (nI K) M = some 0 := by
  rw [f_X10_isIn]
  by_cases q : a < 0
  · rw [if_pos q]
  · rw [if_neg q, if_pos (gt3 (N := K) (by omega) (h.resolve_left q))]
theorem en_st {N : Nat} {S : St} {X : Nat} (hX : X < 2 ^ N) : enB N S (2 ^ N - 1 - X) = false ↔ stb N S X := by
  unfold enB stb
  rw [decide_eq_false_iff_not, Decidable.not_not, show 2 ^ N - 1 - (2 ^ N - 1 - X) = X by omega]
/-- all broken: no quorum -/
theorem stb_all {N A i : Nat} {S : St} (sw : SW N A i S) : stb N S (2 ^ N - 1) := by
  have h16 := sw.n16
  have h2 := sw.n2
  have al : ∀ j, j < N → bt (nI (2 ^ N - 1)) j = true := fun j hj => by
    have := nI_comp h16 (b := 0) (Nat.two_pow_pos N) (show j < 32 by omega)
    rw [Nat.sub_zero, show nI 0 = (0 : Int32) from rfl, b_0, decide_eq_true hj] at this
    exact this
  unfold stb cor
  by_cases t : xR S 20 1 = 1
  · rw [if_pos t]
    have hN := sw.t t
    have main : ∀ r u, N ≤ u + r → u < N → wh N (nI (2 ^ N - 1)) u = 0 := by
      intro r
      induction r with
      | zero => intro u h1 h2; omega
      | succ r ih =>
        intro u h1 h2
        apply Decidable.byContradiction
        intro c
        have := (wh_nz h2 h16 hN).mp c
        have au := al u h2
        by_cases l : N ≤ 2 * u + 2
        · rw [if_pos l, au] at this; cases this
        · rw [if_neg l, au] at this
          rcases this with ⟨z, _⟩ | ⟨z, _⟩ | ⟨z, _⟩
          · cases z
          · exact z (ih _ (by omega) (by omega))
          · cases z
    exact main N 0 (by omega) (by omega)
  · rw [if_neg t]
    apply Decidable.byContradiction
    intro c
    obtain ⟨v, hv, e⟩ := (fub_nz sw.tb.1 _).mp c
    apply sw.tb.1 v hv
    refine b_ext fun j hj => ?_
    rw [b_0]
    rcases Nat.lt_or_ge j N with q | q
    · have := b_and (xR S 17 v) (nI (2 ^ N - 1)) j
      rw [e, b_0, al j q, Bool.and_true] at this
      exact this.symm
    · exact sw.bi v hv j q hj
theorem isMin_e {M1 : Mem} {N : Nat} {S : St} (ct : CT M1 N S) {m m' : Nat} (h : isMin (mL M1 9) N m) (h' : isMinT N S m') : m = m' := by
  have st : ∀ X, sto (mL M1 9) N X ↔ X < 2 ^ N ∧ stb N S X := fun X => by
    unfold sto
    constructor
    · rintro ⟨a, b⟩
      rw [(ct.1 (2 ^ N - 1 - X) (by omega)).2, en_st a] at b
      exact ⟨a, b⟩
    · rintro ⟨a, b⟩
      refine ⟨a, ?_⟩
      rw [(ct.1 (2 ^ N - 1 - X) (by omega)).2, en_st a]
      exact b
  obtain ⟨a1, a2⟩ := (st m).mp h.1
  have k1 := h.2 m' ((st m').mpr h'.1)
  have k2 := h'.2 m a1 a2
  omega
theorem eq13 {M : Mem} {i n : Nat} (h : WI i M) (a : Int32) (hn : 100000 ≤ n) : Okk i (f_X9_weakest n 0 a M) (fun M1 => f_X10_weakest n 120 a M1) := by
  obtain ⟨N, A, Q, S, w⟩ := h
  have sw := w.2.2.2.1
  have h16 := sw.n16
  obtain ⟨X, Y, L, p, sb, xg, xr⟩ := id w.1
  rcases out_in (N := 2) (by decide) a with ha | ⟨u, hu, rfl⟩
  · refine Okk.same w (r := -1) ?_ ?_
    · rw [f_X9_weakest]
      by_cases q : a < 0
      · rw [if_pos q]
      · rw [if_neg q, if_neg (show ¬ a ≤ (1 : Int32) from Int32.not_le.mpr (gt3 (N := 1) (by decide) (ha.resolve_left q)))]
    · show f_X10_weakest n 120 a M = _
      rw [f_X10_weakest, show f_X10_isIn a (0 : Int32) (1 : Int32) M = some 0 from isI_o (K := 1) (by decide) ha, obd_s, if_pos rfl]
  · obtain ⟨M1, e1, f1, v1, o1, ct⟩ := w.sv (n := n) (by omega)
    obtain ⟨cw, xg1, sb1, r1, z1, io⟩ := w.sv2 f1 v1 o1 ct
    have p2 := p16 h16
    have sa := stb_all sw
    have ex : ∃ X, sto (mL M1 9) N X := ⟨2 ^ N - 1, by omega, by
      rw [(ct.1 _ (by omega)).2, en_st (show 2 ^ N - 1 < 2 ^ N by omega)]
      exact sa⟩
    obtain ⟨m, em, hm⟩ := v1.2.2.lsm h16 ex (n := n) (by omega)
    obtain ⟨m', M2, hm', e2, r2, f2⟩ := rwk_v (fun b => cor_q sw b) sw.n h16 sw.t (nI u) (2 ^ N) (2 ^ N - 1) n M1 r1 (by omega) (by omega) sa (fun X h1 h2 => by omega) (by omega) (by omega)
    obtain rfl := isMin_e ct hm hm'
    have m16 := hm.1.1
    refine ⟨if nI u = 0 then nI (pcN m) else nI m, M1, M2, ?_, io, ?_, w.p2 cw z1 r2 f2⟩
    · rw [f_X9_weakest, if_neg (show ¬ nI u < 0 from nI_nlt (b := 0) (Nat.zero_le _) (by omega)), if_pos (show nI u ≤ (1 : Int32) from nI_le (b := 1) (by omega) (by decide)), chk_t xg.1, e1, obd_s, chk_t xg1.1, xg1.2.2.1, bnd_e, chk_t v1.1.1.1, v1.1.2.1.2.1, bnd_e, chk_t v1.1.1.2.2.2.1, em, obd_s]
      have bc : f_J6_bitCount_0f7a4 (nI m) M1 = some (nI (pcN m)) := by
        rw [f_bcx (bt_hk (j := 16) (by omega)) M1, pc_N]
      by_cases z : nI u = 0
      · rw [if_pos z, if_pos z, bc, obd_s]
      · rw [if_neg z, if_neg z]
    · show f_X10_weakest n 120 (nI u) M1 = _
      have i1 : f_X10_isIn (nI u) (0 : Int32) (1 : Int32) M1 = some 1 := f_isI (b := 1) M1 (show u ≤ 1 by omega) (by decide)
      have e2' : f_X10_weakest_21 n 120 (nI u) (nI (2 ^ N - 1)) (nI (2 ^ N - 1)) M1 = some (if nI u = 0 then nI (pcN m) else nI m, M2) := by
        have : nI (2 ^ N) - (1 : Int32) = nI (2 ^ N - 1) := nI_m1' p2.1
        rw [this] at e2
        exact e2
      rw [f_X10_weakest, i1, obd_s, if_neg ne10, rs_f r1.1, r1.al sw.n h16, obd_s, obd_s]
      exact e2'
/-! chances -/
theorem p8_v (M : Mem) (a : Int32) (K : Nat) (hK : K < 1000) : ∀ (d i n : Nat) (c : Int64), i + d = K → d + 1 ≤ n → f_X8_power_5 M n a (nI K) c (nI i) = some (pwv a.toInt64 d c) := by
  intro d
  induction d with
  | zero =>
    intro i n c hi hn
    obtain ⟨n, rfl⟩ : ∃ m, n = m + 1 := ⟨n - 1, by omega⟩
    rw [f_X8_power_5, if_pos (nI_le (by omega) (by omega))]
    rfl
  | succ d ih =>
    intro i n c hi hn
    obtain ⟨n, rfl⟩ : ∃ m, n = m + 1 := ⟨n - 1, by omega⟩
    rw [f_X8_power_5, if_neg (nI_ge (by omega) (by omega)), bnd_e, bnd_e, nI_1]
    exact ih (i + 1) n _ (by omega) (by omega)
theorem p8v (M : Mem) (a : Int32) {k n : Nat} (hk : k ≤ 16) (hn : 20 ≤ n) : f_X8_power n a (nI k) M = some (pwv a.toInt64 k 1) :=
  p8_v M a k (by omega) k 0 n 1 (by omega) (by omega)
theorem pw10_k : ∀ k, k < 11 → (if pwv (10 : Int32).toInt64 k 1 < (1 : Int64) then (1 : Int64) else pwv (10 : Int32).toInt64 k 1) = pwv 10 k 1 ∧ pwv (10 : Int32).toInt64 k 1 = pwv 10 k 1 := by decide +kernel
/-- what a set weighs by its size -/
def wgt (u N k : Nat) : Int64 := pwv ((10 : Int32) - nI u).toInt64 k 1 * pwv (nI u).toInt64 (N - k) 1
theorem m8_v {N u : Nat} (h16 : N ≤ 16) {a : Int32} {h F : Nat → Bool} (ha : hvp a h) : ∀ (d i n : Nat) (M : Mem), i + d = N + 1 → W5 M → F1 M 8 9 N → (∀ X, X < 2 ^ N → fb (mL M 9) X = F X) → (∀ X, 2 ^ N ≤ X → X < 64 * us6 N → fb (mL M 9) X = false) → (∀ k, k < i → mL M 10 k = wgt u N k) → d + 1200 ≤ n → ∃ M', f_X8_millionths_3 n 5 a (nI u) (nI N) (nI i) M = some (mll N (smL (fun X => if (F X && h X) = true then wgt u N (pcN X) else 0) (2 ^ N)), M') ∧ FLq 10 M M' := by
  have us := us_b h16
  intro d
  induction d with
  | zero =>
    intro i n M hi w f hF h0 hw hn
    obtain ⟨n, rfl⟩ : ∃ m, n = m + 1 := ⟨n - 1, by omega⟩
    obtain ⟨⟨w1, w2, w3, w4, w5, w6, w7, w8, w9⟩, ⟨y1, y2, y3, y4, y5, y6, y7, y8⟩, ⟨z1, z2, z3, z4, z5, z6⟩⟩ := w
    have ex := f.wg_s h16 hF h0 ha w6 z3 (n := n) (by omega)
    have es : smL (fun X => if (F X && h X) = true then mL M 10 (pcN X) else 0) (2 ^ N) = smL (fun X => if (F X && h X) = true then wgt u N (pcN X) else 0) (2 ^ N) := smL_c _ (fun X hX => by
      rw [hw (pcN X) (by have := pcN_le h16 hX; omega)])
    rw [es] at ex
    generalize smL (fun X => if (F X && h X) = true then wgt u N (pcN X) else 0) (2 ^ N) = x at ex ⊢
    refine ⟨M, ?_, FLq.rf 10 M⟩
    unfold mll
    rw [f_X8_millionths_3, if_pos (nI_lt (by omega) (by omega)), chk_t w1, y2, bnd_e, chk_t w4, y3, bnd_e, chk_t w6, ex, obd_s]
    by_cases c : 6 ≤ N
    · obtain ⟨k1, k2⟩ := pw10_k (N - 6) (by omega)
      rw [if_pos (show (6 : Int32) ≤ nI N from nI_le (a := 6) c (by omega)), show nI N - (6 : Int32) = nI (N - 6) by rw [show (6 : Int32) = nI 6 from rfl, nI_sb c], p8v M (10 : Int32) (k := N - 6) (n := n) (by omega) (by omega), obd_s, k1, chk_t (pw10 (N - 6) (by omega)), if_neg (show ¬ N < 6 by omega)]
    · obtain ⟨k1, k2⟩ := pw10_k (6 - N) (by omega)
      rw [if_neg (show ¬ (6 : Int32) ≤ nI N from nI_ge (b := 6) (by omega) (by decide)), show (6 : Int32) - nI N = nI (6 - N) by rw [show (6 : Int32) = nI 6 from rfl, nI_sb (by omega)], p8v M (10 : Int32) (k := 6 - N) (n := n) (by omega) (by omega), obd_s, k2, if_pos (show N < 6 by omega)]
  | succ d ih =>
    intro i n M hi w f hF h0 hw hn
    obtain ⟨n, rfl⟩ : ∃ m, n = m + 1 := ⟨n - 1, by omega⟩
    obtain ⟨⟨w1, w2, w3, w4, w5, w6, w7, w8, w9⟩, ⟨y1, y2, y3, y4, y5, y6, y7, y8⟩, ⟨z1, z2, z3, z4, z5, z6⟩⟩ := id w
    have fl := FLq.s 10 M i (wgt u N i)
    have l9 : mL (sL M 10 i (wgt u N i)) 9 = mL M 9 := by
      funext b
      exact mL_o M 10 i _ (by omega)
    obtain ⟨M', e', f'⟩ := ih (i + 1) n (sL M 10 i (wgt u N i)) (by omega) (w.e rfl) (f.l fl.lg) (fun X hX => by rw [l9]; exact hF X hX) (fun X a b => by rw [l9]; exact h0 X a b) (fun k hk => by
      by_cases c : k = i
      · rw [c, mL_s]
      · rw [mL_o M 10 i _ (fun z => c z.2)]; exact hw k (by omega)) (by omega)
    refine ⟨M', ?_, fl.tr f'⟩
    rw [f_X8_millionths_3, if_neg (nI_nl (by omega) (by omega)), chk_t w1, y3, bnd_e, chk_t w6, p8v M ((10 : Int32) - nI u) (k := i) (n := n) (by omega) (by omega), obd_s, nI_sb (by omega), p8v M (nI u) (k := N - i) (n := n) (by omega) (by omega), obd_s, z3, chk_t (inB_n (by omega) (by decide)), bnd_e, bnd_e, nI_1, sL_c (by omega)]
    exact e'
theorem tn_k : ∀ u, u < 11 → ((10 : Int32) - nI u).toInt64 = (10 : Int64) - (nI u).toInt64 := by decide +kernel
theorem ch_e {N u : Nat} {S : St} {h : Nat → Bool} {h' : Nat → Bool} (h16 : N ≤ 16) (hu : u < 11) (hh : ∀ X, X < 2 ^ N → h X = !h' (2 ^ N - 1 - X)) : smL (fun X => if (enB N S X && h X) = true then wgt u N (pcN X) else 0) (2 ^ N) = smL (fun t => if h' t = true then 0 else if cor N S (nI t) = 0 then 0 else od N u t) (2 ^ N) := by
  rw [smL_rev (fun t => if h' t = true then 0 else if cor N S (nI t) = 0 then 0 else od N u t)]
  refine smL_c _ (fun X hX => ?_)
  have pc := pc_comp N h16 X hX
  have eo : od N u (2 ^ N - 1 - X) = wgt u N (pcN X) := by
    unfold od wgt
    rw [show pcN (2 ^ N - 1 - X) = N - pcN X by omega, show N - (N - pcN X) = pcN X by omega, tn_k u hu, Int64.mul_comm]
  show _ = if h' (2 ^ N - 1 - X) = true then 0 else if cor N S (nI (2 ^ N - 1 - X)) = 0 then 0 else od N u (2 ^ N - 1 - X)
  rw [eo, hh X hX]
  unfold enB
  by_cases a : h' (2 ^ N - 1 - X) = true
  · rw [if_pos a, a]
    simp
  · have a' : h' (2 ^ N - 1 - X) = false := by cases z : h' (2 ^ N - 1 - X) <;> first | rfl | exact absurd z a
    rw [if_neg a, a']
    by_cases b : cor N S (nI (2 ^ N - 1 - X)) = 0
    · rw [if_pos b]
      simp [b]
    · rw [if_neg b]
      simp [b]
theorem eq15 {M : Mem} {i n : Nat} (h : WI i M) (a : Int32) (hn : 100000 ≤ n) : Okk i (f_X9_chance n 0 a M) (fun M1 => f_X10_chance n 120 a M1) := by
  obtain ⟨N, A, Q, S, w⟩ := h
  have sw := w.2.2.2.1
  have h16 := sw.n16
  obtain ⟨X, Y, L, p, sb, xg, xr⟩ := id w.1
  rcases out_in (N := 11) (by decide) a with ha | ⟨u, hu, rfl⟩
  · refine Okk.same w (r := -1) ?_ ?_
    · rw [f_X9_chance]
      by_cases q : a < 0
      · rw [if_pos q]
      · rw [if_neg q, if_neg (show ¬ a ≤ (10 : Int32) from Int32.not_le.mpr (gt3 (N := 10) (by decide) (ha.resolve_left q)))]
    · show f_X10_chance n 120 a M = _
      rw [f_X10_chance, show f_X10_isIn a (0 : Int32) (10 : Int32) M = some 0 from isI_o (K := 10) (by decide) ha, obd_s, if_pos rfl]
  · obtain ⟨M1, e1, f1, v1, o1, ct⟩ := w.sv (n := n) (by omega)
    obtain ⟨_, xg1, sb1, _⟩ := w.sv2 f1 v1 o1 ct
    obtain ⟨M2, e2, l2⟩ := m8_v (u := u) h16 (a := -1) (h := fun _ => true) (F := enB N S) (Or.inl ⟨rfl, fun _ => rfl⟩) (N + 1) 0 n M1 (by omega) v1.1 v1.2.2 (fun X hX => (ct.1 X hX).2) (fun X a b => (ct.2 X a b).2) (fun k hk => by omega) (by omega)
    have ct2 : CT M2 N S := ct.cg (fun b => l2.2.2 7 (by decide) b) (fun b => l2.2.2 9 (by decide) b) (fun _ => rfl) rfl
    obtain ⟨cw, xg2, sb2, r2, z2, io⟩ := w.sv2 (f1.tr l2.lg.f) (v1.l l2.lg) (by rw [l2.2.1]; exact o1) ct2
    obtain ⟨M3, e3, r3, f3⟩ := rch_v (fun b => cor_q sw b) sw.n h16 sw.t u (2 ^ N) 0 n 0 M2 r2 (by omega) (by have := p16 h16; omega)
    have ee := ch_e (S := S) (h := fun _ => true) (h' := fun _ => false) h16 hu (fun _ _ => rfl)
    refine ⟨mll N (smL (fun X => if (enB N S X && true) = true then wgt u N (pcN X) else 0) (2 ^ N)), M2, M3, ?_, io, ?_, w.p2 cw z2 r3 f3⟩
    · rw [f_X9_chance, if_neg (show ¬ nI u < 0 from nI_nlt (b := 0) (Nat.zero_le _) (by omega)), if_pos (show nI u ≤ (10 : Int32) from nI_le (b := 10) (by omega) (by decide)), chk_t xg.1, e1, obd_s, chk_t xg1.1, xg1.2.2.1, bnd_e, chk_t v1.1.1.1, xg1.2.1, bnd_e, sb1.f, sb1.n, f_X8_millionths, show f_X8_millionths_3 n 5 (-1) (nI u) (nI N) 0 M1 = _ from e2, obd2_s]
    · show f_X10_chance n 120 (nI u) M2 = _
      rw [f_X10_chance, show (10 : Int32) = nI 10 from rfl, f_isI M2 (show u ≤ 10 by omega) (by decide), obd_s, if_neg ne10]
      refine Eq.trans e3 ?_
      rw [ee, Int64.zero_add]
      congr 3
      exact smL_c _ (fun t _ => by rw [Nat.zero_add]; simp)
theorem eq16 {M : Mem} {i n : Nat} (h : WI i M) (a b : Int32) (hn : 100000 ≤ n) : Okk i (f_X9_chanceOf n 0 a b M) (fun M1 => f_X10_chanceOf n 120 a b M1) := by
  obtain ⟨N, A, Q, S, w⟩ := h
  have sw := w.2.2.2.1
  have h16 := sw.n16
  have h2 := sw.n2
  obtain ⟨X, Y, L, p, sb, xg, xr⟩ := id w.1
  have r := w.2.1
  rcases out_in (N := N) (by omega) a with ha | ⟨v, hv, rfl⟩
  · refine Okk.same w (r := -1) ?_ ?_
    · rw [f_X9_chanceOf, chk_t xg.1, xg.2.1, bnd_e, sb.f, ndc0 sb ha, obd_s, if_pos rfl]
    · show f_X10_chanceOf n 120 a b M = _
      rw [f_X10_chanceOf, rs_f r.1, ndr0 r sw.n (by omega) h16 ha, obd_s, if_pos rfl]
  · rcases out_in (N := 11) (by decide) b with hb | ⟨u, hu, rfl⟩
    · refine Okk.same w (r := -1) ?_ ?_
      · rw [f_X9_chanceOf, chk_t xg.1, xg.2.1, bnd_e, sb.f, ndc sb hv h16, obd_s, if_neg ne10]
        by_cases q : b < 0
        · rw [if_pos q]
        · rw [if_neg q, if_neg (show ¬ b ≤ (10 : Int32) from Int32.not_le.mpr (gt3 (N := 10) (by decide) (hb.resolve_left q)))]
      · show f_X10_chanceOf n 120 (nI v) b M = _
        rw [f_X10_chanceOf, rs_f r.1, ndr r sw.n hv h16, obd_s, if_neg ne10, show f_X10_isIn b (0 : Int32) (10 : Int32) M = some 0 from isI_o (K := 10) (by decide) hb, obd_s, if_pos rfl]
    · obtain ⟨M1, e1, f1, v1, o1, ct⟩ := w.sv (n := n) (by omega)
      obtain ⟨_, xg1, sb1, _⟩ := w.sv2 f1 v1 o1 ct
      obtain ⟨M2, e2, l2⟩ := m8_v (u := u) h16 (a := nI v) (h := fun X => X.testBit v) (F := enB N S) (Or.inr ⟨v, by omega, rfl, fun _ => rfl⟩) (N + 1) 0 n M1 (by omega) v1.1 v1.2.2 (fun X hX => (ct.1 X hX).2) (fun X a b => (ct.2 X a b).2) (fun k hk => by omega) (by omega)
      have ct2 : CT M2 N S := ct.cg (fun b => l2.2.2 7 (by decide) b) (fun b => l2.2.2 9 (by decide) b) (fun _ => rfl) rfl
      obtain ⟨cw, xg2, sb2, r2, z2, io⟩ := w.sv2 (f1.tr l2.lg.f) (v1.l l2.lg) (by rw [l2.2.1]; exact o1) ct2
      have qc : ∀ b, qby N S v b = 0 ↔ cor N S b = 0 := fun b => by
        constructor
        · intro z
          unfold qby at z
          by_cases c : xR S 17 v &&& b = 0
          · rw [if_pos c] at z; exact absurd z (sw.tb.1 v hv)
          · rw [if_neg c] at z; exact z
        · intro z; exact (cor_q sw b).mp z v hv
      obtain ⟨M3, e3, r3, f3⟩ := rco_v sw.n h16 sw.t (v := v) (by omega) qc u (2 ^ N) 0 n 0 M2 r2 (by omega) (by have := p16 h16; omega)
      have ee := ch_e (S := S) (h := fun X => X.testBit v) (h' := fun X => X.testBit v) h16 hu (fun X hX => by
        show X.testBit v = !(2 ^ N - 1 - X).testBit v
        rw [show 2 ^ N - 1 - X = 2 ^ N - (X + 1) by omega, Nat.testBit_two_pow_sub_succ hX, decide_eq_true hv, Bool.true_and, Bool.not_not])
      refine ⟨mll N (smL (fun X => if (enB N S X && X.testBit v) = true then wgt u N (pcN X) else 0) (2 ^ N)), M2, M3, ?_, io, ?_, w.p2 cw z2 r3 f3⟩
      · rw [f_X9_chanceOf, chk_t xg.1, xg.2.1, bnd_e, sb.f, ndc sb hv h16, obd_s, if_neg ne10, if_neg (show ¬ nI u < 0 from nI_nlt (b := 0) (Nat.zero_le _) (by omega)), if_pos (show nI u ≤ (10 : Int32) from nI_le (b := 10) (by omega) (by decide)), e1, obd_s, chk_t xg1.1, xg1.2.2.1, bnd_e, chk_t v1.1.1.1, xg1.2.1, bnd_e, sb1.f, sb1.n, f_X8_millionths, show f_X8_millionths_3 n 5 (nI v) (nI u) (nI N) 0 M1 = _ from e2, obd2_s]
      · show f_X10_chanceOf n 120 (nI v) (nI u) M2 = _
        rw [f_X10_chanceOf, rs_f r2.1, ndr r2 sw.n hv h16, obd_s, if_neg ne10, show (10 : Int32) = nI 10 from rfl, f_isI M2 (show u ≤ 10 by omega) (by decide), obd_s, if_neg ne10]
        refine Eq.trans e3 ?_
        rw [ee, Int64.zero_add]
        congr 3
        exact smL_c _ (fun t _ => by rw [Nat.zero_add])
/-! pivotal -/
theorem smN_ad2 (f g : Nat → Nat) : ∀ n, smN f n + smN g n = smN (fun i => f i + g i) n := by
  intro n
  induction n with
  | zero => rfl
  | succ n ih =>
    show smN f n + f n + (smN g n + g n) = smN (fun i => f i + g i) n + (f n + g n)
    rw [← ih]; omega
theorem smN_xor (v : Nat) : ∀ (N : Nat) (f : Nat → Nat), v < N → smN (fun X => f (X ^^^ 2 ^ v)) (2 ^ N) = smN f (2 ^ N) := by
  intro N
  induction N with
  | zero => intro f h; omega
  | succ N ih =>
    intro f h
    rw [show 2 ^ (N + 1) = 2 ^ N + 2 ^ N by rw [Nat.pow_succ]; omega, smN_ap, smN_ap f]
    have hi : ∀ X, X < 2 ^ N → 2 ^ N + X = X ^^^ 2 ^ N := fun X hX => by
      apply Nat.eq_of_testBit_eq
      intro i
      have e := Nat.testBit_two_pow_mul_add (i := N) 1 hX i
      rw [Nat.mul_one] at e
      rw [e, Nat.testBit_xor, Nat.testBit_two_pow]
      by_cases c : i < N
      · rw [if_pos c, decide_eq_false (show ¬ N = i by omega), Bool.xor_false]
      · rw [if_neg c, tb_hi hX (show N ≤ i by omega), Bool.false_xor]
        by_cases d : N = i
        · rw [decide_eq_true d, ← d, Nat.sub_self]; rfl
        · rw [decide_eq_false d]
          have : (1 : Nat).testBit (i - N) = false := Nat.testBit_lt_two_pow (Nat.one_lt_two_pow (by omega))
          exact this
    by_cases c : v = N
    · have e1 : smN (fun X => f (X ^^^ 2 ^ v)) (2 ^ N) = smN (fun i => f (2 ^ N + i)) (2 ^ N) := smN_c _ (fun X hX => by rw [c, hi X hX])
      have e2 : smN (fun i => f ((2 ^ N + i) ^^^ 2 ^ v)) (2 ^ N) = smN f (2 ^ N) := smN_c _ (fun X hX => by rw [c, hi X hX, Nat.xor_assoc, Nat.xor_self, Nat.xor_zero])
      rw [e1]
      refine Eq.trans (congrArg (fun z => smN (fun i => f (2 ^ N + i)) (2 ^ N) + z) e2) ?_
      exact Nat.add_comm _ _
    · have e1 := ih f (by omega)
      have e2 : smN (fun i => f ((2 ^ N + i) ^^^ 2 ^ v)) (2 ^ N) = smN (fun i => f (2 ^ N + i)) (2 ^ N) := by
        rw [← ih (fun i => f (2 ^ N + i)) (by omega)]
        refine smN_c _ (fun X hX => ?_)
        have hx : X ^^^ 2 ^ v < 2 ^ N := Nat.xor_lt_two_pow hX (Nat.pow_lt_pow_right (by decide) (by omega))
        show f ((2 ^ N + X) ^^^ 2 ^ v) = f (2 ^ N + (X ^^^ 2 ^ v))
        rw [hi X hX, hi _ hx, Nat.xor_assoc, Nat.xor_comm (2 ^ N), ← Nat.xor_assoc]
      rw [e1]
      exact congrArg (fun z => smN f (2 ^ N) + z) e2
theorem lv_up {N v : Nat} {S : St} (h16 : N ≤ 16) (bi : BI N S) (hv : v < N) {X : Nat} (hX : X < 2 ^ N) (h : lvB N S X = true) : lvB N S (X ||| 2 ^ v) = true := by
  have hx : X ||| 2 ^ v < 2 ^ N := Nat.or_lt_two_pow hX (Nat.pow_lt_pow_right (by decide) hv)
  obtain ⟨u, hu, e⟩ := (lvs_sub h16 bi hX).mp h
  exact (lvs_sub h16 bi hx).mpr ⟨u, hu, fun i hi => by rw [Nat.testBit_or, e i hi]; rfl⟩
/-- who matters how much, counted -/
theorem pv_cnt {N v : Nat} {S : St} (h16 : N ≤ 16) (bi : BI N S) (hv : v < N) : smN (fun X => if pvt N S v X = true then 1 else 0) (2 ^ N) + cfm (lvB N S) (2 ^ N) = 2 * cfm (fun X => lvB N S X && X.testBit v) (2 ^ N) := by
  have ox : ∀ X : Nat, X.testBit v = false → X ||| 2 ^ v = X ^^^ 2 ^ v := fun X h => by
    apply Nat.eq_of_testBit_eq
    intro i
    rw [Nat.testBit_or, Nat.testBit_xor, Nat.testBit_two_pow]
    by_cases c : v = i
    · rw [decide_eq_true c, ← c, h]; rfl
    · rw [decide_eq_false c, Bool.or_false, Bool.xor_false]
  have xb : ∀ X : Nat, (X ^^^ 2 ^ v).testBit v = !X.testBit v := fun X => by
    rw [Nat.testBit_xor, Nat.testBit_two_pow, decide_eq_true (Eq.refl v)]
    cases X.testBit v <;> rfl
  -- of the sets without v: not live, live with v; live
  have e1 : ∀ X, X < 2 ^ N → (if pvt N S v X = true then 1 else 0) + (if (lvB N S X && !X.testBit v) = true then 1 else 0) = (if (lvB N S (X ^^^ 2 ^ v) && (X ^^^ 2 ^ v).testBit v) = true then 1 else 0 : Nat) := fun X hX => by
    rw [xb]
    unfold pvt
    cases t : X.testBit v
    · rw [ox X t]
      have up := lv_up h16 bi hv hX
      rw [ox X t] at up
      cases a : lvB N S X
      · cases b : lvB N S (X ^^^ 2 ^ v) <;> rfl
      · rw [up a]; rfl
    · cases a : lvB N S X <;> cases b : lvB N S (X ^^^ 2 ^ v) <;> rfl
  have s1 : smN (fun X => if pvt N S v X = true then 1 else 0) (2 ^ N) + smN (fun X => if (lvB N S X && !X.testBit v) = true then 1 else 0) (2 ^ N) = cfm (fun X => lvB N S X && X.testBit v) (2 ^ N) := by
    rw [smN_ad2, smN_c _ e1]
    exact smN_xor v N (fun X => if (lvB N S X && X.testBit v) = true then 1 else 0) hv
  have s2 : cfm (lvB N S) (2 ^ N) = smN (fun X => if (lvB N S X && !X.testBit v) = true then 1 else 0) (2 ^ N) + cfm (fun X => lvB N S X && X.testBit v) (2 ^ N) := by
    unfold cfm
    rw [smN_ad2]
    refine smN_c _ (fun X _ => ?_)
    show (if lvB N S X = true then 1 else 0) = (if (lvB N S X && !X.testBit v) = true then 1 else 0) + (if (lvB N S X && X.testBit v) = true then 1 else 0)
    cases lvB N S X <;> cases X.testBit v <;> rfl
  omega
theorem eq18 {M : Mem} {i n : Nat} (h : WI i M) (a : Int32) (hn : 100000 ≤ n) : ∃ x M1, f_X9_pivotal n 0 a M = some (x, M1) ∧ isO M1 10 120 ∧ f_X10_pivotal n 120 a M1 = some x ∧ WI (i + 1) M1 := by
  obtain ⟨N, A, Q, S, w⟩ := h
  have sw := w.2.2.2.1
  have h16 := sw.n16
  have h2 := sw.n2
  obtain ⟨X, Y, L, p, sb, xg, xr⟩ := id w.1
  have r := w.2.1
  rcases out_in (N := N) (by omega) a with ha | ⟨v, hv, rfl⟩
  · exact ⟨-1, M, by rw [f_X9_pivotal, chk_t xg.1, xg.2.1, bnd_e, sb.f, ndc0 sb ha, obd_s, if_pos rfl], r.1.io (by decide) (by decide) (by decide), by rw [f_X10_pivotal, rs_f r.1, ndr0 r sw.n (by omega) h16 ha, obd_s, if_pos rfl], w.mo⟩
  · obtain ⟨M1, e1, f1, v1, o1, ct⟩ := w.sv (n := n) (by omega)
    obtain ⟨cw, xg1, sb1, r1, z1, io⟩ := w.sv2 f1 v1 o1 ct
    obtain ⟨x, ex, hx⟩ := v1.2.1.tb_s h16 (F := lvB N S) (fun X hX => (ct.1 X hX).1) (fun X a b => (ct.2 X a b).1) (v := v) (by omega) (n := n) (by omega)
    have ey := rpv_v r1 sw.n h16 (v := v) (by omega) (2 ^ N) 0 n 0 (by omega) (by have := p16 h16; omega)
    have pc := pv_cnt (S := S) h16 sw.bi hv
    have es : smN (fun t => if pvt N S v (0 + t) = true then 1 else 0) (2 ^ N) = smN (fun X => if pvt N S v X = true then 1 else 0) (2 ^ N) := smN_c _ (fun t _ => by rw [Nat.zero_add])
    rw [es, Nat.zero_add] at ey
    have xe : x = nI (smN (fun X => if pvt N S v X = true then 1 else 0) (2 ^ N)) := by
      have e3 : x + nI (cfm (lvB N S) (2 ^ N)) = nI (smN (fun X => if pvt N S v X = true then 1 else 0) (2 ^ N)) + nI (cfm (lvB N S) (2 ^ N)) := by
        rw [hx, nI_add, pc]
      have e4 := congrArg (fun z : Int32 => z - nI (cfm (lvB N S) (2 ^ N))) e3
      simp only [Int32.add_sub_cancel] at e4
      exact e4
    refine ⟨x, M1, ?_, io, ?_, N, A, Q, S, cw, r1, z1, sw.mo, w.2.2.2.2⟩
    · rw [f_X9_pivotal, chk_t xg.1, xg.2.1, bnd_e, sb.f, ndc sb hv h16, obd_s, if_neg ne10, e1, obd_s, chk_t xg1.1, xg1.2.2.1, bnd_e, chk_t v1.1.1.1, v1.1.2.1.1, bnd_e, chk_t v1.1.1.2.1, ex, obd_s]
    · rw [f_X10_pivotal, rs_f r1.1, ndr r1 sw.n hv h16, obd_s, if_neg ne10, xe]
      exact ey
/-! better -/
theorem gd_btr {M1 : Mem} {N : Nat} {S : St} (h16 : N ≤ 16) (bi : BI N S) (ct : CT M1 N S) {X : Nat} (hX : X < 2 ^ N) : gd (mL M1 7) N X ↔ btr N S X := by
  have c1 := (ct.1 X hX).1
  have c2 := (ct.1 (2 ^ N - 1 - X) (by omega)).1
  have ec : ∀ v, v < N → xR S 17 v &&& (nI (2 ^ N - 1 - X) ^^^ (-1 : Int32)) = xR S 17 v &&& nI X := fun v hv => and_cg (fun i a b => bi v hv i a b) (fun i hi => by
    rw [b_not _ (show i < 32 by omega), nI_comp h16 hX (show i < 32 by omega), decide_eq_true hi, Bool.true_and, Bool.not_not])
  unfold gd btr
  rw [c1, c2]
  constructor
  · rintro ⟨a, b⟩ v hv
    refine ⟨fun z => ?_, fun z => ?_⟩
    · have := lvB_iff (S := S) (X := 2 ^ N - 1 - X) |>.mpr ⟨v, hv, by rw [ec v hv]; exact z⟩
      rw [b] at this; cases this
    · have := lvB_iff (S := S) (X := X) |>.mpr ⟨v, hv, z⟩
      rw [a] at this; cases this
  · intro h
    refine ⟨?_, ?_⟩
    · cases z : lvB N S X
      · rfl
      · obtain ⟨v, hv, e⟩ := lvB_iff.mp z
        exact absurd e (h v hv).2
    · cases z : lvB N S (2 ^ N - 1 - X)
      · rfl
      · obtain ⟨v, hv, e⟩ := lvB_iff.mp z
        rw [ec v hv] at e
        exact absurd e (h v hv).1
theorem eq20 {M : Mem} {i n : Nat} (h : WI i M) (hn : 100000 ≤ n) : ∃ x M1, f_X9_better n 0 M = some (x, M1) ∧ isO M1 10 120 ∧ f_X10_better n 120 M1 = some x ∧ WI (i + 1) M1 := by
  obtain ⟨N, A, Q, S, w⟩ := h
  have sw := w.2.2.2.1
  have h16 := sw.n16
  have h2 := sw.n2
  obtain ⟨X, Y, L, p, sb, xg, xr⟩ := id w.1
  obtain ⟨M1, e1, f1, v1, o1, ct⟩ := w.sv (n := n) (by omega)
  obtain ⟨cw, xg1, sb1, r1, z1, io⟩ := w.sv2 f1 v1 o1 ct
  have u1 := us_b h16
  have p2 := p16 h16
  have g := fun {X : Nat} (hX : X < 2 ^ N) => gd_btr (S := S) h16 sw.bi ct hX
  have b0 : ¬ btr N S 0 := fun z => (z 0 (by omega)).1 (by rw [show nI 0 = (0 : Int32) from rfl, Int32.and_zero])
  obtain ⟨x, ex, hx⟩ := v1.2.1.lbv h16 (us6 N) 0 n (by omega) (by omega)
  have ex' : f_X1_leastBetter n 6 M1 = some x := ex
  have ey : f_X10_better n 120 M1 = some x := by
    have ey := rbt_v r1 sw.n h16 (2 ^ N - 1) 1 n (by omega) (by omega)
    rcases hx with ⟨X1, a1, a2, a3, a4, a5⟩ | ⟨a1, a2⟩
    · rcases ey with ⟨X2, c1, c2, c3, c4, c5⟩ | ⟨c1, c2⟩
      · have : X1 = X2 := by
          rcases Nat.lt_trichotomy X1 X2 with q | q | q
          · have h1 : 1 ≤ X1 := by
              rcases Nat.eq_zero_or_pos X1 with z | z
              · rw [z] at a3; exact absurd ((g (Nat.two_pow_pos N)).mp a3) b0
              · exact z
            exact absurd ((g a2).mp a3) (c4 X1 h1 q)
          · exact q
          · exact absurd ((g c2).mpr c3) (a5 X2 (by omega) q)
        rw [a4, this]; exact c5
      · have h1 : 1 ≤ X1 := by
          rcases Nat.eq_zero_or_pos X1 with z | z
          · rw [z] at a3; exact absurd ((g (Nat.two_pow_pos N)).mp a3) b0
          · exact z
        exact absurd ((g a2).mp a3) (c1 X1 h1 a2)
    · rcases ey with ⟨X2, c1, c2, c3, c4, c5⟩ | ⟨c1, c2⟩
      · exact absurd ((g c2).mpr c3) (a2 X2 (by omega) c2)
      · rw [a1]; exact c2
  refine ⟨x, M1, ?_, io, ey, N, A, Q, S, cw, r1, z1, sw.mo, w.2.2.2.2⟩
  rw [f_X9_better, chk_t xg.1, e1, obd_s, chk_t xg1.1, xg1.2.2.1, bnd_e, chk_t v1.1.1.1, v1.1.2.1.1, bnd_e, chk_t v1.1.1.2.1, ex', obd_s]
theorem op13 {M : Mem} {i n : Nat} (h : WI i M) (a : Int32) (hn : 100000 ≤ n) : Oks i (f_X9_weakest n 0 a M) (fun M1 => f_X10_weakest n 120 a M1) := (eq13 h a hn).ks
theorem op15 {M : Mem} {i n : Nat} (h : WI i M) (a : Int32) (hn : 100000 ≤ n) : Oks i (f_X9_chance n 0 a M) (fun M1 => f_X10_chance n 120 a M1) := (eq15 h a hn).ks
theorem op16 {M : Mem} {i n : Nat} (h : WI i M) (a b : Int32) (hn : 100000 ≤ n) : Oks i (f_X9_chanceOf n 0 a b M) (fun M1 => f_X10_chanceOf n 120 a b M1) := (eq16 h a b hn).ks
theorem op18 {M : Mem} {i n : Nat} (h : WI i M) (a : Int32) (hn : 100000 ≤ n) : ∃ x x' M1, f_X9_pivotal n 0 a M = some (x, M1) ∧ isO M1 10 120 ∧ f_X10_pivotal n 120 a M1 = some x' ∧ WI (i + 1) M1 := by
  obtain ⟨x, M1, a, b, c, d⟩ := eq18 h a hn
  exact ⟨x, x, M1, a, b, c, d⟩
theorem op20 {M : Mem} {i n : Nat} (h : WI i M) (hn : 100000 ≤ n) : ∃ x x' M1, f_X9_better n 0 M = some (x, M1) ∧ isO M1 10 120 ∧ f_X10_better n 120 M1 = some x' ∧ WI (i + 1) M1 := by
  obtain ⟨x, M1, a, b, c, d⟩ := eq20 h hn
  exact ⟨x, x, M1, a, b, c, d⟩
