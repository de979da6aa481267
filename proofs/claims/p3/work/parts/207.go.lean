/-! ===== one goes from those that wait; the first one is granted ===== -/
theorem c4n (j : Nat) : (4 : Int32) + nI j = nI (4 + j) := by rw [show (4 : Int32) = nI 4 from rfl, nI_add]
theorem c4n2 (j : Nat) : ((4 : Int32) + nI j) + (2 : Int32) = nI (6 + j) := by rw [c4n, show (2 : Int32) = nI 2 from rfl, nI_add]; congr 1; omega
theorem c2n (j : Nat) : (2 : Int32) * nI j = nI (2 * j) := by rw [show (2 : Int32) = nI 2 from rfl, pk_mul]
set_option maxHeartbeats 1000000 in
theorem go_l {a m : Nat} (ha : a < 16) (hm : m < 20) : ∀ (d k : Nat) (M : Mem) (n : Nat), k + d = 2 * m → RK M 120 121 → d + 1 ≤ n → ∃ M1, f_X10_goWaiting_14 n 120 (nI a) (nI m) (nI k) M = some M1 ∧ FrW a M M1 ∧ mI M1 121 (149 + 44 * a) = nI m ∧ (∀ j, j < 40 → mI M1 121 (150 + 44 * a + j) = if k ≤ j ∧ j < 2 * m then mI M 121 (150 + 44 * a + (j + 2)) else if j = 2 * m ∨ j = 2 * m + 1 then 0 else mI M 121 (150 + 44 * a + j)) := by
  intro d
  induction d with
  | zero =>
    intro k M n hk hK hn
    obtain ⟨n, rfl⟩ : ∃ m, n = m + 1 := ⟨n - 1, by omega⟩
    have hk2 : k = 2 * m := by omega
    subst hk2
    generalize hMa : sI M 121 (150 + 44 * a + 2 * m) 0 = Ma
    generalize hMb : sI Ma 121 (151 + 44 * a + 2 * m) 0 = Mb
    generalize hMc : sI Mb 121 (149 + 44 * a) (nI m) = Mc
    have hKa : RK Ma 120 121 := by subst hMa; exact hK
    have hKb : RK Mb 120 121 := by subst hMb; exact hKa
    have p3 := f_put (w := 3) (x := nI m) hKb ha (by decide)
    rw [show (nI 3) = (3 : Int32) from rfl, show 146 + 44 * a + 3 = 149 + 44 * a by omega, hMc] at p3
    refine ⟨Mc, ?_, ?_, ?_, fun j hj => ?_⟩
    · rw [f_X10_goWaiting_14, c2n, if_pos (nI_le (Nat.le_refl _) (by omega)), chk_t hK.1, ← c2n, pn_K hK ha hm, obd_s, hMa, chk_t hKa.1, ps_K hKa ha hm, obd_s, hMb, chk_t hKb.1, p3, obd_s]
    · refine FrW.tr (M' := Ma) ?_ (FrW.tr (M' := Mb) ?_ ?_)
      · rw [← hMa]; exact FrW.s (by omega) (by omega)
      · rw [← hMb]; exact FrW.s (by omega) (by omega)
      · rw [← hMc]; exact FrW.s (by omega) (by omega)
    · rw [← hMc, mI_s]
    · rw [if_neg (by omega), ← hMc, mI_n _ _ _ _ (by omega)]
      by_cases e : j = 2 * m
      · rw [if_pos (Or.inl e), ← hMb, mI_n _ _ _ _ (by omega), ← hMa, e, mI_s]
      · by_cases e2 : j = 2 * m + 1
        · rw [if_pos (Or.inr e2), ← hMb, e2, show 150 + 44 * a + (2 * m + 1) = 151 + 44 * a + 2 * m by omega, mI_s]
        · rw [if_neg (by omega), ← hMb, mI_n _ _ _ _ (by omega), ← hMa, mI_n _ _ _ _ (by omega)]
  | succ d ih =>
    intro k M n hk hK hn
    obtain ⟨n, rfl⟩ : ∃ m, n = m + 1 := ⟨n - 1, by omega⟩
    generalize hMa : sI M 121 (150 + 44 * a + k) (mI M 121 (150 + 44 * a + (k + 2))) = Ma
    have hKa : RK Ma 120 121 := by subst hMa; exact hK
    obtain ⟨M1, i1, i2, i3, i4⟩ := ih (k + 1) Ma n (by omega) hKa (by omega)
    have o1 := f_of (w := 6 + k) hK ha (by omega)
    have p1 := f_put (w := 4 + k) (x := mI M 121 (150 + 44 * a + (k + 2))) hK ha (by omega)
    rw [show 146 + 44 * a + (6 + k) = 150 + 44 * a + (k + 2) by omega] at o1
    rw [show 146 + 44 * a + (4 + k) = 150 + 44 * a + k by omega, hMa] at p1
    refine ⟨M1, ?_, FrW.tr ?_ i2, i3, fun j hj => ?_⟩
    · rw [← i1, f_X10_goWaiting_14, c2n, if_neg (nI_ge (by omega) (by omega)), chk_t hK.1, c4n2, o1, obd_s, c4n, p1, obd_s, nI_1, bnd_e]
    · rw [← hMa]; exact FrW.s (by omega) (by omega)
    · rw [i4 j hj]
      by_cases e : j = k
      · subst e
        rw [if_neg (by omega), if_neg (by omega), if_pos (by omega), ← hMa, mI_s]
      · have x1 : mI Ma 121 (150 + 44 * a + (j + 2)) = mI M 121 (150 + 44 * a + (j + 2)) ∨ j + 2 = k := by
          by_cases q : j + 2 = k
          · exact Or.inr q
          · exact Or.inl (by rw [← hMa, mI_n _ _ _ _ (by omega)])
        have x2 : mI Ma 121 (150 + 44 * a + j) = mI M 121 (150 + 44 * a + j) := by rw [← hMa, mI_n _ _ _ _ (by omega)]
        by_cases c1 : k + 1 ≤ j ∧ j < 2 * m
        · rw [if_pos c1, if_pos (by omega)]
          rcases x1 with x1 | x1
          · exact x1
          · omega
        · rw [if_neg c1, if_neg (show ¬ (k ≤ j ∧ j < 2 * m) by omega), x2]
/-- the i-th goes -/
theorem RV.go {M : Mem} {tw : Bool} {t : Int32} {S : St} {pb pt : List Row4} (h : RV M tw t S pb pt) {a : Nat} (ha : a < 16) {p q : List Wtr} {x : Wtr} (hw : xW S a = p ++ x :: q) {n : Nat} (hn : 50 ≤ n) : ∃ M', f_X10_goWaiting n 120 (nI a) (nI p.length) M = some M' ∧ RV M' tw t (uW S a (p ++ q)) pb pt ∧ FrW a M M' := by
  have hW := h.2.2.2.1 a ha
  have hlen : (xW S a).length = p.length + q.length + 1 := by rw [hw]; simp; omega
  have h20 := hW.2.1
  obtain ⟨M1, i1, i2, i3, i4⟩ := go_l (a := a) (m := p.length + q.length) ha (by omega) (2 * q.length) (2 * p.length) M n (by omega) h.toRK (by omega)
  refine ⟨M1, ?_, h.wst ha i2 ?_ (by simp; omega) (fun i z hi => ?_) (fun b hb1 hb2 => ?_), i2⟩
  · rw [f_X10_goWaiting, rs_f h.1, h.of3 ha, obd_s, hlen, nI_pred, bnd_e, c2n, bnd_e, i1]
  · rw [i3, List.length_append]
  · have hl := (List.getElem?_eq_some_iff.mp hi).1
    rw [List.length_append] at hl
    rw [Nat.zero_add]
    have y1 := i4 (2 * i) (by omega)
    have y2 := i4 (2 * i + 1) (by omega)
    rw [show 150 + 44 * a + (2 * i + 1) = 151 + 44 * a + 2 * i by omega] at y2
    by_cases c : i < p.length
    · rw [List.getElem?_append_left c] at hi
      have g := hW.2.2.1 i z (by rw [hw, List.getElem?_append_left c, hi])
      rw [y1, y2, if_neg (by omega), if_neg (by omega), if_neg (by omega), if_neg (by omega)]
      exact g
    · rw [List.getElem?_append_right (by omega)] at hi
      have g := hW.2.2.1 (i + 1) z (by rw [hw, List.getElem?_append_right (by omega), show i + 1 - p.length = (i - p.length) + 1 by omega, List.getElem?_cons_succ, hi])
      rw [y1, y2, if_pos (by omega), if_pos (by omega), show 150 + 44 * a + (2 * i + 2) = 150 + 44 * a + 2 * (i + 1) by omega, show 150 + 44 * a + (2 * i + 1 + 2) = 151 + 44 * a + 2 * (i + 1) by omega]
      exact g
  · rw [List.length_append] at hb1
    have y := i4 (b - (150 + 44 * a)) (by omega)
    rw [show 150 + 44 * a + (b - (150 + 44 * a)) = b by omega] at y
    rw [y, if_neg (by omega)]
    by_cases c : b - (150 + 44 * a) = 2 * (p.length + q.length) ∨ b - (150 + 44 * a) = 2 * (p.length + q.length) + 1
    · rw [if_pos c]
    · rw [if_neg c]
      have hz := hW.2.2.2 ((b - (150 + 44 * a)) / 2) (by omega) (by omega)
      rcases Nat.mod_two_eq_zero_or_one (b - (150 + 44 * a)) with e | e
      · have : b = 150 + 44 * a + 2 * ((b - (150 + 44 * a)) / 2) := by omega
        rw [this]; exact hz.1
      · have : b = 151 + 44 * a + 2 * ((b - (150 + 44 * a)) / 2) := by omega
        rw [this]; exact hz.2
/-- nobody is granted by a -/
def nob (a : Nat) (S : St) : St := uR (uR (uR S 8 a (-1)) 9 a 0) 10 a 0
def gF (t : Int32) (a : Nat) (S : St) : St := match xW S a with
  | [] => nob a S
  | w :: r => sn t 1 a w.1 w.2 (uW (uR (uR (nob a S) 8 a (nI w.1)) 9 a w.2) a r)
theorem uR_uR (S : St) (k i : Nat) (x y : Int32) : uR (uR S k i x) k i y = uR S k i y := by
  unfold uR
  refine Prod.ext ?_ rfl
  funext a b
  simp only [up2]
  by_cases e : a = k ∧ b = i
  · rw [if_pos e, if_pos e]
  · rw [if_neg e, if_neg e, if_neg e]
theorem uR_cm (S : St) {k i k' i' : Nat} (x y : Int32) (h : ¬ (k = k' ∧ i = i')) : uR (uR S k i x) k' i' y = uR (uR S k' i' y) k i x := by
  unfold uR
  refine Prod.ext ?_ rfl
  funext a b
  simp only [up2]
  by_cases e : a = k ∧ b = i
  · by_cases e' : a = k' ∧ b = i'
    · exact absurd ⟨e.1.symm.trans e'.1, e.2.symm.trans e'.2⟩ h
    · rw [if_neg e', if_pos e, if_pos e]
  · by_cases e' : a = k' ∧ b = i'
    · rw [if_pos e', if_neg e, if_pos e']
    · rw [if_neg e', if_neg e, if_neg e, if_neg e']
theorem uR_uW (S : St) (k i : Nat) (x : Int32) (a : Nat) (w : List Wtr) : uR (uW S a w) k i x = uW (uR S k i x) a w := rfl
theorem fl_uW (S : St) (a : Nat) (w : List Wtr) : fl (uW S a w) = fl S := rfl
theorem fl_uR (S : St) (k i : Nat) (x : Int32) : fl (uR S k i x) = fl S := rfl
theorem RV.tnob {M : Mem} {tw : Bool} {t : Int32} {S : St} {pb pt : List Row4} (h : RV M tw t S pb pt) {a : Nat} (ha : a < 16) : ∃ M', f_X10_nobody 120 (nI a) M = some M' ∧ RV M' tw t (nob a S) pb pt ∧ Fr PA M M' := by
  have h1 := h.st (vk_n (k := 8) (by decide) ha) (-1)
  have h2 := h1.st (vk_n (k := 9) (by decide) ha) 0
  have h3 := h2.st (vk_n (k := 10) (by decide) ha) 0
  refine ⟨_, ?_, h3, Fr.tr Fr.tad (Fr.tr Fr.tad Fr.tad)⟩
  rw [f_X10_nobody, rs_f h.1, h.put0 ha, obd_s, rs_f h1.1, h1.put1 ha, obd_s, rs_f h2.1, h2.put2 ha, obd_s]
theorem RV.wn0 {M : Mem} {tw : Bool} {t : Int32} {S : St} {pb pt : List Row4} (h : RV M tw t S pb pt) {a : Nat} (ha : a < 16) : f_X10_waitNode 120 (nI a) (0 : Int32) M = some (mI M 121 (150 + 44 * a)) := h.wn (i := 0) ha (by decide)
theorem RV.ws0 {M : Mem} {tw : Bool} {t : Int32} {S : St} {pb pt : List Row4} (h : RV M tw t S pb pt) {a : Nat} (ha : a < 16) : f_X10_waitStamp 120 (nI a) (0 : Int32) M = some (mI M 121 (151 + 44 * a)) := h.ws (i := 0) ha (by decide)
theorem RV.w0 {M : Mem} {tw : Bool} {t : Int32} {S : St} {pb pt : List Row4} (h : RV M tw t S pb pt) {a : Nat} (ha : a < 16) {w : Wtr} {r : List Wtr} (hw : xW S a = w :: r) : mI M 121 (150 + 44 * a) = nI w.1 ∧ mI M 121 (151 + 44 * a) = w.2 := (h.2.2.2.1 a ha).2.2.1 0 w (by rw [hw]; rfl)
theorem RV.wl {M : Mem} {tw : Bool} {t : Int32} {S : St} {pb pt : List Row4} (h : RV M tw t S pb pt) {a : Nat} (ha : a < 16) : (xW S a).length ≤ 20 := (h.2.2.2.1 a ha).2.1
theorem RV.tgF {M : Mem} {tw : Bool} {t : Int32} {S : St} {pb pt : List Row4} (h : RV M tw t S pb pt) {a : Nat} (ha : a < 16) (hlen : (fl S).length < 9000) (hw : ∀ w, w ∈ xW S a → w.1 < 16) {n : Nat} (hn : 9100 ≤ n) : ∃ M', f_X10_grantFirst n 120 (nI a) M = some M' ∧ RV M' tw t (gF t a S) pb pt ∧ Fr PA M M' := by
  obtain ⟨M1, e1, h1, f1⟩ := h.tnob ha
  cases hc : xW S a with
  | nil =>
    refine ⟨M1, ?_, ?_, f1⟩
    · rw [f_X10_grantFirst, rs_f h.1, e1, obd_s, rs_f h1.1, h1.of3 ha, obd_s, show xW (nob a S) a = [] from hc, if_pos (by rfl)]
    · unfold gF; rw [hc]; exact h1
  | cons w r =>
    have hc1 : xW (nob a S) a = w :: r := hc
    have hwl := h.wl ha
    have hwl2 : (xW S a).length = r.length + 1 := by rw [hc]; rfl
    have hw16 : w.1 < 16 := hw w (by rw [hc]; simp)
    have h2 := h1.st (vk_n (k := 8) (by decide) ha) (nI w.1)
    have h3 := h2.st (vk_n (k := 9) (by decide) ha) w.2
    obtain ⟨M4, e4, h4, f4⟩ := h3.go (p := []) (q := r) (x := w) ha hc (n := n) (by omega)
    obtain ⟨M5, e5, h5, f5⟩ := h4.send (k := 1) (f := a) (g := w.1) (s := w.2) ha hw16 (by decide) hlen hn
    have w01 := h1.w0 ha hc1
    have w02 := h2.w0 ha hc1
    have r8 : xR (uW (uR (uR (nob a S) 8 a (nI w.1)) 9 a w.2) a ([] ++ r)) 8 a = nI w.1 := by
      rw [xR_uW, xR_uR, if_neg (by omega), xR_uR, if_pos ⟨rfl, rfl⟩]
    have r9 : xR (uW (uR (uR (nob a S) 8 a (nI w.1)) 9 a w.2) a ([] ++ r)) 9 a = w.2 := by
      rw [xR_uW, xR_uR, if_pos ⟨rfl, rfl⟩]
    refine ⟨M5, ?_, ?_, Fr.tr f1 (Fr.tr Fr.tad (Fr.tr Fr.tad (Fr.tr f4.toFr f5)))⟩
    · rw [f_X10_grantFirst, rs_f h.1, e1, obd_s, rs_f h1.1, h1.of3 ha, obd_s, hc1, if_neg (by rw [show (0 : Int32) = nI 0 from rfl]; exact fun q => by have := (nI_eq (by simp; omega) (by decide)).mp q; simp at this), h1.wn0 ha, obd_s, w01.1, h1.put0 ha, obd_s, rs_f h2.1, h2.ws0 ha, obd_s, w02.2, h2.put1 ha, obd_s, rs_f h3.1, show (0 : Int32) = nI ([] : List Wtr).length from rfl, e4, obd_s, rs_f h4.1]
      rw [show (nI ([] : List Wtr).length) = (0 : Int32) from rfl, h4.of0 ha, obd_s, h4.of1 ha, obd_s, r8, r9, show (1 : Int32) = nI 1 from rfl, e5, obd_s]
    · unfold gF; rw [hc]; exact h5
