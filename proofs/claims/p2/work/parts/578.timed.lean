/-! ===== the reference's clock: a time, and all times ===== -/
def FrY (M M' : Mem) : Prop := M'.1 = M.1 ∧ (∀ o, (o < 120 ∨ 130 < o) ∨ o = 126 → ∀ b, mI M' o b = mI M o b) ∧ (∀ b, b < 22 → b ≠ 3 → mI M' 120 b = mI M 120 b) ∧ ∀ o b, mL M' o b = mL M o b
theorem FrY.rf (M : Mem) : FrY M M := ⟨rfl, fun _ _ _ => rfl, fun _ _ _ => rfl, fun _ _ => rfl⟩
theorem FrY.tr {M M' M'' : Mem} (h : FrY M M') (h' : FrY M' M'') : FrY M M'' := ⟨h'.1.trans h.1, fun o n b => (h'.2.1 o n b).trans (h.2.1 o n b), fun b n n' => (h'.2.2.1 b n n').trans (h.2.2.1 b n n'), fun o b => (h'.2.2.2 o b).trans (h.2.2.2 o b)⟩
theorem FrY.pa {M M' : Mem} (f : Fr PA M M') : FrY M M' := ⟨f.1, fun o n b => f.2.1 o (by unfold PA; omega) b, fun b _ _ => f.2.1 120 (by unfold PA; omega) b, f.2.2⟩
theorem FrY.s120 {M : Mem} {k : Nat} {x : Int32} (h : k = 3 ∨ 22 ≤ k) : FrY M (sI M 120 k x) := ⟨rfl, fun o n b => mI_o _ _ _ _ _ (by omega), fun b n n' => mI_n _ _ _ _ (by omega), fun _ _ => rfl⟩
theorem FrY.s130 {M : Mem} {k : Nat} {x : Int32} : FrY M (sI M 130 k x) := ⟨rfl, fun o n b => mI_o _ _ _ _ _ (by omega), fun b n n' => mI_o _ _ _ _ _ (by decide), fun _ _ => rfl⟩
section
variable {N A : Nat} {P : Nat → Nat} {S0 : St} {pb pt : List Row4} {dl : Nat → Int32}
theorem rt53 (h2 : 2 ≤ N) (h16 : N ≤ 16) (hA : A < 1048576) (hP : smN P 16 + N ≤ 9000) (hN : xR S0 20 0 = nI N) (hdl : ∀ l, l < 256 → xR S0 19 l = dl l) {t v2 : Int32} (hd : ∀ l, l < 256 → t < t + dl l) : ∀ (c n : Nat) (M : Mem) (S : St) (v3 : Int32), cnt t dl S ≤ c → RV M true t S pb pt → GI N A P S0 S → DP t dl S v3 → c + 9300 ≤ n → ∃ M' S', f_X10_goTime_53 n 120 v2 v3 M = some M' ∧ RV M' true t S' pb pt ∧ GI N A P S0 S' ∧ FrY M M' := by
  intro c
  have stop : ∀ (n : Nat) (M : Mem) (S : St), RV M true t S pb pt → GI N A P S0 S → 100 ≤ n → ∃ M' S', f_X10_goTime_53 n 120 v2 (-1) M = some M' ∧ RV M' true t S' pb pt ∧ GI N A P S0 S' ∧ FrY M M' := by
    intro n M S r hI hn
    obtain ⟨n, rfl⟩ : ∃ m, n = m + 1 := ⟨n - 1, by omega⟩
    have hN' : xR S 20 0 = nI N := by rw [hI.2.2.2.2 20 0 (by omega)]; exact hN
    obtain ⟨y, ey, _⟩ := r.insd hN' h16 (n := n) (by omega)
    rw [f_X10_goTime_53, if_pos rfl, rs_f r.1, ey, obd_s]
    by_cases z : y = 0
    · rw [if_pos z, bnd_e]
      exact ⟨_, S, rfl, r.s120 (by decide) _, hI, FrY.s120 (by omega)⟩
    · rw [if_neg z, bnd_e]
      exact ⟨_, S, rfl, r.s120 (by decide) _, hI, FrY.s120 (by omega)⟩
  induction c with
  | zero =>
    intro n M S v3 hc r hI hv hn
    rcases hv with hv | ⟨l, x, rr, hl, hx, ev, hu⟩
    · rw [hv]; exact stop n M S r hI (by omega)
    · exfalso
      have := cnt_br (N := N) (f := l / 16) (g := l % 16) (S := S) (t := t) (dl := dl) (by omega) (by rw [show 16 * (l / 16) + l % 16 = l by omega]; exact hx) hd (by rw [show 16 * (l / 16) + l % 16 = l by omega]; exact hu)
      omega
  | succ c ih =>
    intro n M S v3 hc r hI hv hn
    rcases hv with hv | ⟨l, x, rr, hl, hx, ev, hu⟩
    · rw [hv]; exact stop n M S r hI (by omega)
    · obtain ⟨n, rfl⟩ : ∃ m, n = m + 1 := ⟨n - 1, by omega⟩
      have el : 16 * (l / 16) + l % 16 = l := by omega
      have hcb := cnt_br (N := N) (f := l / 16) (g := l % 16) (S := S) (t := t) (dl := dl) (by omega) (by rw [el]; exact hx) hd (by rw [el]; exact hu)
      have hN' : xR S 20 0 = nI N := by rw [hI.2.2.2.2 20 0 (by omega)]; exact hN
      have hfl := hI.tfl
      have h9 := r.2.2.2.2.1.2.1
      have hq := fl_at hl (show (xL S l)[0]? = some x by rw [hx]; rfl)
      rw [Nat.add_zero] at hq
      have hlt := gl_lt hq
      have g := r.2.2.2.2.1.2.2 _ _ hq
      rw [Nat.zero_add] at g
      have hfg : l / 16 < N ∧ l % 16 < N := by
        apply Classical.byContradiction
        intro q
        have := (hI.1.2.2.2.2.1 l hl).2 q
        rw [hx] at this; cases this
      obtain ⟨M1, e1, r1, f1⟩ := r.tbr hN' h2 h16 (f := l / 16) (g := l % 16) (by omega) (by omega) (by rw [el]; exact hx) (Lok_of hI.1 hA hl (by rw [hx]; simp)) (Hok_of hI.1 h16 (by omega) _) (by omega) (n := n) (by omega)
      rw [el] at e1
      have hI1 := hI.tb h16 hA hfg.1 hfg.2 t
      have y1 := FrY.pa f1
      have gt : ∀ M2, RV M2 true t (br t N (l / 16) (l % 16) S) pb pt → FrY M M2 → ∃ M' S', f_X10_goTime_150 (f_X10_goTime_53 n) n 120 v2 M2 = some M' ∧ RV M' true t S' pb pt ∧ GI N A P S0 S' ∧ FrY M M' := by
        intro M2 r2 y2
        have hdl2 : ∀ l', l' < 256 → xR (br t N (l / 16) (l % 16) S) 19 l' = dl l' := fun l' hl' => by rw [hI1.2.2.2.2 19 l' (by omega)]; exact hdl l' hl'
        obtain ⟨v, e2, d2⟩ := r2.due hdl2 (n := n) (by omega)
        obtain ⟨M', S', e', r', hI', y'⟩ := ih n M2 _ v (by omega) r2 hI1 d2 (by omega)
        exact ⟨M', S', by rw [f_X10_goTime_150, rs_f r2.1, e2, obd_s]; exact e', r', hI', y2.tr y'⟩
      have op : ∀ y, (if mI M1 121 9851 = mI M 121 9851 then f_X10_goTime_150 (f_X10_goTime_53 n) n 120 v2 M1 else (if nI (l % 16) = v2 then (if mI (sI (sI M1 130 (l % 16) t) 120 22 t) 120 23 = (-1 : Int32) then f_X10_goTime_150 (f_X10_goTime_53 n) n 120 v2 (sI (sI (sI M1 130 (l % 16) t) 120 22 t) 120 23 t) else f_X10_goTime_150 (f_X10_goTime_53 n) n 120 v2 (sI (sI M1 130 (l % 16) t) 120 22 t)) else f_X10_goTime_150 (f_X10_goTime_53 n) n 120 v2 (sI (sI M1 130 (l % 16) t) 120 22 t))) = y → f_X10_goTime_53 (n + 1) 120 v2 v3 M = y := by
        intro y hy
        have n1 : ¬ nI (flr (xL S) 0 l).length = (-1 : Int32) := fun q => by
          have h1 := nI_pos (n := (flr (xL S) 0 l).length) (by omega)
          rw [q] at h1
          exact h1 (by decide)
        have t1 : mI M1 120 3 = t := r1.2.1
        have t2 : mI (sI M1 130 (l % 16) t) 120 3 = t := by rw [mI_o _ _ _ _ _ (by decide)]; exact t1
        have t3 : mI (sI (sI M1 130 (l % 16) t) 120 22 t) 120 3 = t := by rw [mI_n _ _ _ _ (by decide)]; exact t2
        rw [ev, f_X10_goTime_53, if_neg n1, rs_f r.1, rs_0 r.1, bnd_e, rs_fa r.1, c851, rs_c r.1 (by omega), f_X10_pairOf, mI_c (by omega), g.1, enc_pair hl, obd_s, chk_t (by decide), show nI (l, x).1 - nI (l, x).1 / (16 : Int32) * (16 : Int32) = nI (l % 16) from (f_pairs l hl).2, bnd_e, bnd_e, rs_fa r.1, show (9851 : Int32) = nI 9851 from rfl, rs_c r.1 (by decide), mI_c (k := 9851) (by decide), bnd_e, e1, obd2_s, rs_f r1.1, rs_0 r1.1, bnd_e, rs_fa r1.1, rs_c r1.1 (by decide), mI_c (k := 9851) (by decide)]
        by_cases c1 : mI M1 121 9851 = mI M 121 9851
        · rw [if_pos c1] at hy ⊢; exact hy
        · rw [if_neg c1] at hy ⊢
          rw [rs_19 r1.1, bnd_e, rs_f19 r1.1, rs_c19 r1.1 (by omega), bnd_e, nI_clamp (by omega), t1, bnd_e, t2]
          by_cases c2 : nI (l % 16) = v2
          · rw [if_pos c2] at hy ⊢
            by_cases c3 : mI (sI (sI M1 130 (l % 16) t) 120 22 t) 120 23 = (-1 : Int32)
            · rw [if_pos c3] at hy ⊢
              rw [t3, bnd_e]; exact hy
            · rw [if_neg c3] at hy ⊢; exact hy
          · rw [if_neg c2] at hy ⊢; exact hy
      have r3 : RV (sI (sI M1 130 (l % 16) t) 120 22 t) true t (br t N (l / 16) (l % 16) S) pb pt := (r1.s130 _ _).s120 (by decide) _
      have y3 : FrY M (sI (sI M1 130 (l % 16) t) 120 22 t) := y1.tr (FrY.tr FrY.s130 (FrY.s120 (by omega)))
      by_cases c1 : mI M1 121 9851 = mI M 121 9851
      · obtain ⟨M', S', e', R⟩ := gt M1 r1 y1
        exact ⟨M', S', op _ (by rw [if_pos c1]; exact e'), R⟩
      · by_cases c2 : nI (l % 16) = v2
        · by_cases c3 : mI (sI (sI M1 130 (l % 16) t) 120 22 t) 120 23 = (-1 : Int32)
          · obtain ⟨M', S', e', R⟩ := gt (sI (sI (sI M1 130 (l % 16) t) 120 22 t) 120 23 t) (r3.s120 (by decide) _) (y3.tr (FrY.s120 (by omega)))
            exact ⟨M', S', op _ (by rw [if_neg c1, if_pos c2, if_pos c3]; exact e'), R⟩
          · obtain ⟨M', S', e', R⟩ := gt _ r3 y3
            exact ⟨M', S', op _ (by rw [if_neg c1, if_pos c2, if_neg c3]; exact e'), R⟩
        · obtain ⟨M', S', e', R⟩ := gt _ r3 y3
          exact ⟨M', S', op _ (by rw [if_neg c1, if_neg c2]; exact e'), R⟩
theorem rt2 (h2 : 2 ≤ N) (h16 : N ≤ 16) (hA : A < 1048576) (hP : smN P 16 + N ≤ 9000) (hN : xR S0 20 0 = nI N) (hdl : ∀ l, l < 256 → xR S0 19 l = dl l) {t v1 v2 : Int32} (hd : ∀ l, l < 256 → t < t + dl l) : ∀ (d i n : Nat) (M : Mem) (S : St), i + d = N → RV M true t S pb pt → GI N A P S0 S → d + 18500 ≤ n → ∃ M' S', f_X10_goTime_2 n 120 v1 v2 (nI i) M = some M' ∧ RV M' true t S' pb pt ∧ GI N A P S0 S' ∧ FrY M M' := by
  intro d
  induction d with
  | zero =>
    intro i n M S hi r hI hn
    obtain ⟨n, rfl⟩ : ∃ m, n = m + 1 := ⟨n - 1, by omega⟩
    have hN' : xR S 20 0 = nI N := by rw [hI.2.2.2.2 20 0 (by omega)]; exact hN
    have hfl := hI.tfl
    have hc := cnt_le t dl S
    obtain ⟨v, e2, d2⟩ := r.due (dl := dl) (fun l hl => by rw [hI.2.2.2.2 19 l (by omega)]; exact hdl l hl) (n := n) (by omega)
    obtain ⟨M', S', e', R⟩ := rt53 h2 h16 hA hP hN hdl (v2 := v2) hd (cnt t dl S) n M S v (Nat.le_refl _) r hI d2 (by omega)
    exact ⟨M', S', by rw [f_X10_goTime_2, rs_f r.1, rs_0 r.1, bnd_e, rs_fa r.1, rs_c0 r.1, cl0, r.N hN', if_pos (nI_le (by omega) (by omega)), e2, obd_s]; exact e', R⟩
  | succ d ih =>
    intro i n M S hi r hI hn
    obtain ⟨n, rfl⟩ : ∃ m, n = m + 1 := ⟨n - 1, by omega⟩
    have hN' : xR S 20 0 = nI N := by rw [hI.2.2.2.2 20 0 (by omega)]; exact hN
    have hfl := hI.tfl
    have i6 : i < 16 := by omega
    rw [f_X10_goTime_2, rs_f r.1, rs_0 r.1, bnd_e, rs_fa r.1, rs_c0 r.1, cl0, r.N hN', if_neg (nI_ge (by omega) (by omega)), r.get0 i6, obd_s]
    by_cases c : xR S 0 i = 2
    · rw [if_pos c, rs_19 r.1, bnd_e, rs_f19 r.1, rs_c19 r.1 i6]
      by_cases z : mI M 120 3 - mI M 130 (nI i).toNatClampNeg < v1
      · rw [if_pos z, bnd_e, nI_1]
        exact ih (i + 1) n M S (by omega) r hI (by omega)
      · obtain ⟨M1, e1, r1, f1⟩ := r.tlv hN' h16 i6 (by omega) (n := n) (by omega)
        obtain ⟨M', S', e', r', hI', y'⟩ := ih (i + 1) n M1 _ (by omega) r1 (hI.tl h16 (by omega) c t) (by omega)
        exact ⟨M', S', by rw [if_neg z, e1, obd_s, bnd_e, nI_1]; exact e', r', hI', (FrY.pa f1).tr y'⟩
    · rw [if_neg c, bnd_e, nI_1]
      exact ih (i + 1) n M S (by omega) r hI (by omega)
def FrV (M M' : Mem) : Prop := M'.1 = M.1 ∧ (∀ o, (o < 120 ∨ 130 < o) ∨ o = 126 → ∀ b, mI M' o b = mI M o b) ∧ (∀ b, b < 20 → b ≠ 3 → mI M' 120 b = mI M 120 b) ∧ ∀ o b, mL M' o b = mL M o b
theorem FrV.rf (M : Mem) : FrV M M := ⟨rfl, fun _ _ _ => rfl, fun _ _ _ => rfl, fun _ _ => rfl⟩
theorem FrV.tr {M M' M'' : Mem} (h : FrV M M') (h' : FrV M' M'') : FrV M M'' := ⟨h'.1.trans h.1, fun o n b => (h'.2.1 o n b).trans (h.2.1 o n b), fun b n n' => (h'.2.2.1 b n n').trans (h.2.2.1 b n n'), fun o b => (h'.2.2.2 o b).trans (h.2.2.2 o b)⟩
theorem FrY.v {M M' : Mem} (h : FrY M M') : FrV M M' := ⟨h.1, h.2.1, fun b n n' => h.2.2.1 b (by omega) n', h.2.2.2⟩
theorem FrV.s120 {M : Mem} {k : Nat} {x : Int32} (h : k = 3 ∨ 20 ≤ k) : FrV M (sI M 120 k x) := ⟨rfl, fun o n b => mI_o _ _ _ _ _ (by omega), fun b n n' => mI_n _ _ _ _ (by omega), fun _ _ => rfl⟩
theorem rc104 (h2 : 2 ≤ N) (h16 : N ≤ 16) (hA : A < 1048576) (hP : smN P 16 + N ≤ 9000) (hN : xR S0 20 0 = nI N) (hdl : ∀ l, l < 256 → xR S0 19 l = dl l) (hD : ∀ l, l < 256 → ∃ k, 1 ≤ k ∧ k ≤ 9 ∧ dl l = nI k) {v1 v2 v3 : Int32} : ∀ (d τ E n : Nat) (M : Mem) (S : St), τ + d = 300 → E ≤ 300 → mI M 120 20 = nI E → RV M true (nI τ) S pb pt → GI N A P S0 S → d + 19000 ≤ n → ∃ M', f_X10_goClock_104 n 120 v1 v2 v3 M = some M' ∧ RS M' ∧ mI M' 120 3 = 0 ∧ FrV M M' := by
  intro d
  have stop : ∀ (τ E n : Nat) (M : Mem) (S : St), E ≤ τ → τ ≤ 300 → mI M 120 20 = nI E → RV M true (nI τ) S pb pt → 1 ≤ n → ∃ M', f_X10_goClock_104 n 120 v1 v2 v3 M = some M' ∧ RS M' ∧ mI M' 120 3 = 0 ∧ FrV M M' := by
    intro τ E n M S hE hτ h20 r hn
    obtain ⟨n, rfl⟩ : ∃ m, n = m + 1 := ⟨n - 1, by omega⟩
    have r1 := r.st3 0
    refine ⟨sI (sI M 120 3 0) 120 21 (mI (sI M 120 3 0) 121 (nI 9851).toNatClampNeg - v3), by rw [f_X10_goClock_104, rs_f r.1, h20, r.2.1, if_pos (nI_le hE (by omega)), bnd_e, rs_0 r1.1, bnd_e, rs_fa r1.1, show (9851 : Int32) = nI 9851 from rfl, rs_c r1.1 (by decide), bnd_e], r1.1.e rfl, ?_, FrV.tr (FrV.s120 (by omega)) (FrV.s120 (by omega))⟩
    rw [mI_n _ _ _ _ (by decide), mI_s]
  induction d with
  | zero =>
    intro τ E n M S hτ hE h20 r hI hn
    exact stop τ E n M S (by omega) (by omega) h20 r (by omega)
  | succ d ih =>
    intro τ E n M S hτ hE h20 r hI hn
    by_cases hE2 : E ≤ τ
    · exact stop τ E n M S hE2 (by omega) h20 r (by omega)
    · obtain ⟨n, rfl⟩ : ∃ m, n = m + 1 := ⟨n - 1, by omega⟩
      have hd : ∀ l, l < 256 → nI τ < nI τ + dl l := fun l hl => by
        obtain ⟨k, k1, k9, ek⟩ := hD l hl
        rw [ek, nI_add]
        exact nI_lt (by omega) (by omega)
      obtain ⟨M1, S1, e1, r1, hI1, y1⟩ := rt2 h2 h16 hA hP hN hdl (v1 := v1) (v2 := v2) hd N 0 n M S (by omega) r hI (by omega)
      have e20 : mI M1 120 20 = nI E := (y1.2.2.1 20 (by decide) (by decide)).trans h20
      have t1 : mI M1 120 3 = nI τ := r1.2.1
      have hN' : xR S1 20 0 = nI N := by rw [hI1.2.2.2.2 20 0 (by omega)]; exact hN
      obtain ⟨y, ey, _⟩ := r1.insd hN' h16 (n := n) (by omega)
      have nx : ∃ M', f_X10_goClock_104 n 120 v1 v2 v3 (sI M1 120 3 (nI (τ + 1))) = some M' ∧ RS M' ∧ mI M' 120 3 = 0 ∧ FrV M M' := by
        obtain ⟨M', e', a, b, f'⟩ := ih (τ + 1) E n (sI M1 120 3 (nI (τ + 1))) S1 (by omega) hE (by rw [mI_n _ _ _ _ (by decide)]; exact e20) (r1.st3 _) hI1 (by omega)
        exact ⟨M', e', a, b, y1.v.tr (FrV.tr (FrV.s120 (by omega)) f')⟩
      have nq : ∃ M', f_X10_goClock_104 n 120 v1 v2 v3 (sI (sI M1 120 20 (nI τ)) 120 3 (nI (τ + 1))) = some M' ∧ RS M' ∧ mI M' 120 3 = 0 ∧ FrV M M' := by
        obtain ⟨M', e', a, b, f'⟩ := ih (τ + 1) τ n (sI (sI M1 120 20 (nI τ)) 120 3 (nI (τ + 1))) S1 (by omega) (by omega) (by rw [mI_n _ _ _ _ (by decide), mI_s]) ((r1.s120 (by decide) _).st3 _) hI1 (by omega)
        exact ⟨M', e', a, b, y1.v.tr (FrV.tr (FrV.s120 (by omega)) (FrV.tr (FrV.s120 (by omega)) f'))⟩
      have t20 : mI (sI M1 120 20 (nI τ)) 120 3 = nI τ := by rw [mI_n _ _ _ _ (by decide)]; exact t1
      rw [f_X10_goClock_104, rs_f r.1, h20, r.2.1, if_neg (nI_ge (by omega) (by omega)), f_X10_goTime, show f_X10_goTime_2 n 120 v1 v2 0 M = some M1 from e1, obd_s, rs_f r1.1, rs_0 r1.1, bnd_e, rs_fa r1.1, l850, rs_c r1.1 (by decide), t1, nI_1]
      by_cases c : mI M1 121 (nI 850).toNatClampNeg = 0
      · rw [if_pos c, ey, obd_s]
        by_cases c2 : y = 0
        · rw [if_pos c2, bnd_e, t20, nI_1, bnd_e]; exact nq
        · rw [if_neg c2, bnd_e]; exact nx
      · rw [if_neg c, bnd_e]; exact nx
theorem rclock (h2 : 2 ≤ N) (h16 : N ≤ 16) (hA : A < 1048576) (hP : smN P 16 + N ≤ 9000) {S : St} {t : Int32} (hI : GI N A P S S) (hN : xR S 20 0 = nI N) (hD : ∀ l, l < 256 → ∃ k, 1 ≤ k ∧ k ≤ 9 ∧ xR S 19 l = nI k) {v : Nat} (hv : v < N) (v1 : Int32) {n : Nat} {M : Mem} (r : RV M false t S pb pt) (hn : 40000 ≤ n) : ∃ M', f_X10_goClock n 120 v1 (nI v) M = some M' ∧ RS M' ∧ mI M' 120 3 = 0 ∧ FrV M M' := by
  have h9 := r.2.2.2.2.1.2.1
  obtain ⟨M1, n1, e1, hn1, r1, z1, f1⟩ := gz_l (a := v1) (b := nI v) (x := mI M 121 (nI 9851).toNatClampNeg) (fl S).length 0 n M (by omega) r (fun j hj => by omega) (by omega)
  have r1t := zs_of r1 z1
  have v1f : FrV M M1 := ⟨f1.1, fun o n b => f1.2.1 o (by unfold P123; omega) b, fun b _ _ => f1.2.1 120 (by unfold P123; omega) b, f1.2.2⟩
  obtain ⟨M2, n2, e2, hn2, f2⟩ := z16_l v1 (nI v) (mI M 121 (nI 9851).toNatClampNeg) 16 0 n1 M1 rfl r1t (by omega)
  have r2 := r1t.ft f2
  have v2f : FrV M1 M2 := ⟨f2.1, fun o n b => f2.2.1 o (by omega) (by omega) b, fun b h _ => f2.2.2.1 b h, f2.2.2.2⟩
  have r3 := r2.s120 (k := 22) (by decide) (-1)
  have hI' := hI.tz h16
  have fin : ∀ y : Int32, ∃ M', f_X10_goClock_104 n2 120 v1 (nI v) (mI M 121 (nI 9851).toNatClampNeg) (sI (sI (sI (sI (sI M2 120 22 (-1)) 120 23 y) 120 24 0) 120 20 300) 120 3 0) = some M' ∧ RS M' ∧ mI M' 120 3 = 0 ∧ FrV M M' := by
    intro y
    have r4 := (((r3.s120 (k := 23) (by decide) y).s120 (k := 24) (by decide) 0).s120 (k := 20) (by decide) 300).st3 0
    obtain ⟨M', e', a, b, f'⟩ := rc104 h2 h16 hA hP (S0 := S) (dl := fun l => xR S 19 l) hN (fun _ _ => rfl) hD (v1 := v1) (v2 := nI v) (v3 := mI M 121 (nI 9851).toNatClampNeg) 300 0 300 n2 _ (fS 0 S S) rfl (by decide) (by rw [mI_n _ _ _ _ (by decide), mI_s]; rfl) r4 hI' (by omega)
    exact ⟨M', e', a, b, v1f.tr (v2f.tr (FrV.tr (FrV.s120 (by omega)) (FrV.tr (FrV.s120 (by omega)) (FrV.tr (FrV.s120 (by omega)) (FrV.tr (FrV.s120 (by omega)) (FrV.tr (FrV.s120 (by omega)) f'))))))⟩
  have g0 : f_X10_get 120 (nI v) (0 : Int32) (sI M2 120 22 (-1)) = some (xR (fS 0 S S) 0 v) := r3.get0 (by omega)
  rw [f_X10_goClock, rs_f r.1, rs_0 r.1, bnd_e, rs_fa r.1, show (9851 : Int32) = nI 9851 from rfl, rs_c r.1 (by decide), bnd_e]
  rw [show f_X10_goClock_12 n 120 v1 (nI v) (mI M 121 (nI 9851).toNatClampNeg) 0 M = f_X10_goClock_42 n1 120 v1 (nI v) (mI M 121 (nI 9851).toNatClampNeg) 0 M1 from e1, show f_X10_goClock_42 n1 120 v1 (nI v) (mI M 121 (nI 9851).toNatClampNeg) 0 M1 = f_X10_goClock_42 (n2 + 1) 120 v1 (nI v) (mI M 121 (nI 9851).toNatClampNeg) (nI 16) M2 from e2, f_X10_goClock_42, if_pos (show (16 : Int32) ≤ nI 16 from Int32.le_refl _), rs_f r2.1, bnd_e, g0, obd_s]
  by_cases c : xR (fS 0 S S) 0 v = 2
  · rw [if_pos c, bnd_e, bnd_e, bnd_e, bnd_e]; exact fin 0
  · rw [if_neg c, bnd_e, bnd_e, bnd_e, bnd_e]; exact fin (-1)
end
