/-! ===== GRANT, FAIL, INQUIRE at one that asks; a letter is brought, by the reference ===== -/
def yT (t : Int32) (v a : Nat) (S : St) : St := let S1 := sn t 4 v a (xR S 2 v) S; uR (uR S1 4 v (bof (xR S 4 v) a)) 6 v (bon (xR S 6 v) a)
theorem RV.tyT {M : Mem} {tw : Bool} {t : Int32} {S : St} {pb pt : List Row4} (h : RV M tw t S pb pt) {v a : Nat} (hv : v < 16) (ha : a < 16) (hl : (fl S).length < 9000) {n : Nat} (hn : 9100 ≤ n) : ∃ M', f_X10_yieldTo n 120 (nI v) (nI a) M = some M' ∧ RV M' tw t (yT t v a S) pb pt ∧ Fr PA M M' := by
  obtain ⟨M1, e1, h1, f1⟩ := h.send (k := 4) (f := v) (g := a) (s := xR S 2 v) hv ha (by decide) hl hn
  have r4 : xR (sn t 4 v a (xR S 2 v) S) 4 v = xR S 4 v := sn_R _ _ _ _ _ _ (by decide)
  have r6 : xR (sn t 4 v a (xR S 2 v) S) 6 v = xR S 6 v := sn_R _ _ _ _ _ _ (by decide)
  have h2 := h1.st (vk_n (k := 4) (by decide) hv) (bof (xR S 4 v) a)
  have r6' : xR (uR (sn t 4 v a (xR S 2 v) S) 4 v (bof (xR S 4 v) a)) 6 v = xR S 6 v := by rw [xR_uR, if_neg (by omega), r6]
  have h3 := h2.st (vk_n (k := 6) (by decide) hv) (bon (xR S 6 v) a)
  refine ⟨_, ?_, h3, Fr.tr f1 (Fr.tr Fr.tad Fr.tad)⟩
  rw [f_X10_yieldTo, rs_f h.1, h.get2 hv, obd_s, show (4 : Int32) = nI 4 from rfl, e1, obd_s, rs_f h1.1, show nI 4 = (4 : Int32) from rfl, h1.get4 hv, obd_s, r4, f_without, obd_s, h1.let4 hv, obd_s, rs_f h2.1, h2.get6 hv, obd_s, r6', f_with, obd_s, h2.let6 hv, obd_s]
def fdl (t : Int32) (v : Nat) (d : Int32) (ws : List Nat) (S : St) : St := ws.foldl (fun S w => if bt d w then yT t v w S else S) S
def fd (t : Int32) (N v a : Nat) (S : St) : St := uR (fdl t v (xR S 5 v) (List.range N) (uR S 6 v (bon (xR S 6 v) a))) 5 v 0
theorem yT_20 (t : Int32) (v a : Nat) (S : St) (b : Nat) : xR (yT t v a S) 20 b = xR S 20 b := by
  unfold yT
  simp only []
  rw [xR_uR, if_neg (by omega), xR_uR, if_neg (by omega), sn_R _ _ _ _ _ _ (by decide)]
theorem yT_len {t : Int32} {v a : Nat} (S : St) (h : 16 * v + a < 256) : (fl (yT t v a S)).length = (fl S).length + 1 := fl_sn_len h
theorem RV.fd28 {tw : Bool} {t : Int32} {pb pt : List Row4} {N : Nat} (h16 : N ≤ 16) {v : Nat} (hv : v < 16) (db : Int32) : ∀ (d i n : Nat) (M : Mem) (S : St), RV M tw t S pb pt → xR S 20 0 = nI N → i + d = N → (fl S).length + d ≤ 9000 → d + 9101 ≤ n → ∃ M', f_X10_failed_28 n 120 (nI v) db (nI i) M = some M' ∧ RV M' tw t (uR (fdl t v db (List.range' i d) S) 5 v 0) pb pt ∧ Fr PA M M' := by
  intro d
  induction d with
  | zero =>
    intro i n M S h hN hi hl hn
    obtain ⟨n, rfl⟩ : ∃ m, n = m + 1 := ⟨n - 1, by omega⟩
    refine ⟨_, ?_, h.st (vk_n (k := 5) (by decide) hv) 0, Fr.tad⟩
    rw [f_X10_failed_28, rs_f h.1, rs_0 h.1, bnd_e, rs_fa h.1, rs_c0 h.1, cl0, h.N hN, if_pos (nI_le (by omega) (by omega)), h.let5 hv, obd_s]
  | succ d ih =>
    intro i n M S h hN hi hl hn
    obtain ⟨n, rfl⟩ : ∃ m, n = m + 1 := ⟨n - 1, by omega⟩
    have start : ∀ y, (if bt db i = true then obd (f_X10_yieldTo n 120 (nI v) (nI i) M) (fun M15 => f_X10_failed_28 n 120 (nI v) db (nI (i + 1)) M15) else f_X10_failed_28 n 120 (nI v) db (nI (i + 1)) M) = y → f_X10_failed_28 (n + 1) 120 (nI v) db (nI i) M = y := by
      intro y hy
      rw [f_X10_failed_28, rs_f h.1, rs_0 h.1, bnd_e, rs_fa h.1, rs_c0 h.1, cl0, h.N hN, if_neg (nI_ge (by omega) (by omega)), f_has10 _ (by omega), obd_s]
      simp only [bnd_e, nI_1]
      cases hb : bt db i
      · rw [hb] at hy; simpa using hy
      · rw [hb] at hy; simpa [ne10] using hy
    have el : fdl t v db (List.range' i (d + 1)) S = fdl t v db (List.range' (i + 1) d) (if bt db i then yT t v i S else S) := by
      unfold fdl
      rw [List.range'_succ, List.foldl_cons]
    rw [el]
    by_cases c : bt db i = true
    · obtain ⟨M1, e1, h1, f1⟩ := h.tyT (v := v) (a := i) hv (by omega) (by omega) (n := n) (by omega)
      obtain ⟨M2, e2, h2, f2⟩ := ih (i + 1) n M1 _ h1 ((yT_20 _ _ _ _ _).trans hN) (by omega) (by rw [yT_len _ (by omega)]; omega) (by omega)
      rw [if_pos c] at start ⊢
      exact ⟨M2, start _ (by rw [e1, obd_s, e2]), h2, Fr.tr f1 f2⟩
    · obtain ⟨M2, e2, h2, f2⟩ := ih (i + 1) n M S h hN (by omega) (by omega) (by omega)
      rw [if_neg c] at start ⊢
      exact ⟨M2, start _ e2, h2, f2⟩
theorem RV.tfd {M : Mem} {tw : Bool} {t : Int32} {S : St} {pb pt : List Row4} (h : RV M tw t S pb pt) {N : Nat} (hN : xR S 20 0 = nI N) (h16 : N ≤ 16) {v a : Nat} (hv : v < 16) (hl : (fl S).length + N ≤ 9000) {n : Nat} (hn : 9200 ≤ n) : ∃ M', f_X10_failed n 120 (nI v) (nI a) M = some M' ∧ RV M' tw t (fd t N v a S) pb pt ∧ Fr PA M M' := by
  have h1 := h.st (vk_n (k := 6) (by decide) hv) (bon (xR S 6 v) a)
  have r5 : xR (uR S 6 v (bon (xR S 6 v) a)) 5 v = xR S 5 v := by rw [xR_uR, if_neg (by omega)]
  obtain ⟨M2, e2, h2, f2⟩ := RV.fd28 (tw := tw) (t := t) (pb := pb) (pt := pt) h16 hv (xR S 5 v) N 0 n _ _ h1 (by simpa [xR_uR] using hN) (by omega) hl (by omega)
  refine ⟨M2, ?_, ?_, Fr.tr Fr.tad f2⟩
  · rw [f_X10_failed, rs_f h.1, h.get6 hv, obd_s, f_with, obd_s, h.let6 hv, obd_s, rs_f h1.1, h1.get5 hv, obd_s, r5]
    exact e2
  · unfold fd; rw [List.range_eq_range']; exact h2
def iq (t : Int32) (v a : Nat) (S : St) : St := if bt (xR S 4 v) a then (if xR S 6 v = 0 then uR S 5 v (bon (xR S 5 v) a) else yT t v a S) else S
theorem RV.tiq {M : Mem} {tw : Bool} {t : Int32} {S : St} {pb pt : List Row4} (h : RV M tw t S pb pt) {v a : Nat} (hv : v < 16) (ha : a < 16) (hl : (fl S).length < 9000) {n : Nat} (hn : 9100 ≤ n) : ∃ M', f_X10_inquired n 120 (nI v) (nI a) M = some M' ∧ RV M' tw t (iq t v a S) pb pt ∧ Fr PA M M' := by
  unfold iq
  cases hb : bt (xR S 4 v) a
  · refine ⟨M, ?_, by simpa using h, Fr.rf _ _⟩
    rw [f_X10_inquired, rs_f h.1, h.get4 hv, obd_s, f_has10 _ (by omega), obd_s, hb]
    simp
  · rw [if_pos rfl]
    by_cases c : xR S 6 v = 0
    · rw [if_pos c]
      refine ⟨_, ?_, h.st (vk_n (k := 5) (by decide) hv) (bon (xR S 5 v) a), Fr.tad⟩
      rw [f_X10_inquired, rs_f h.1, h.get4 hv, obd_s, f_has10 _ (by omega), obd_s, hb, if_pos rfl, if_neg ne10, h.get6 hv, obd_s, if_pos c, h.get5 hv, obd_s, f_with, obd_s, h.let5 hv, obd_s]
    · rw [if_neg c]
      obtain ⟨M2, e2, h2, f2⟩ := h.tyT (v := v) (a := a) hv ha hl hn
      refine ⟨M2, ?_, h2, f2⟩
      rw [f_X10_inquired, rs_f h.1, h.get4 hv, obd_s, f_has10 _ (by omega), obd_s, hb, if_pos rfl, if_neg ne10, h.get6 hv, obd_s, if_neg c, e2, obd_s]
def gr (t : Int32) (N v a : Nat) (S : St) : St :=
  let S1 := uR (uR (uR S 4 v (bon (xR S 4 v) a)) 5 v (bof (xR S 5 v) a)) 6 v (bof (xR S 6 v) a)
  if xR S 3 v &&& ((bon (xR S 4 v) a) ^^^ (-1 : Int32)) = 0 then en t N v S1 else S1
theorem RV.tgr {M : Mem} {tw : Bool} {t : Int32} {S : St} {pb pt : List Row4} (h : RV M tw t S pb pt) {N : Nat} (hN : xR S 20 0 = nI N) (h16 : N ≤ 16) {v a : Nat} (hv : v < 16) {n : Nat} (hn : 200 ≤ n) : ∃ M', f_X10_granted n 120 (nI v) (nI a) M = some M' ∧ RV M' tw t (gr t N v a S) pb pt ∧ Fr PA M M' := by
  have h1 := h.st (vk_n (k := 4) (by decide) hv) (bon (xR S 4 v) a)
  have h2 := h1.st (vk_n (k := 5) (by decide) hv) (bof (xR S 5 v) a)
  have h3 := h2.st (vk_n (k := 6) (by decide) hv) (bof (xR S 6 v) a)
  have q5 : xR (uR S 4 v (bon (xR S 4 v) a)) 5 v = xR S 5 v := by simp [xR_uR]
  have q6 : xR (uR (uR S 4 v (bon (xR S 4 v) a)) 5 v (bof (xR S 5 v) a)) 6 v = xR S 6 v := by simp [xR_uR]
  have q3 : xR (uR (uR (uR S 4 v (bon (xR S 4 v) a)) 5 v (bof (xR S 5 v) a)) 6 v (bof (xR S 6 v) a)) 3 v = xR S 3 v := by simp [xR_uR]
  have q4 : xR (uR (uR (uR S 4 v (bon (xR S 4 v) a)) 5 v (bof (xR S 5 v) a)) 6 v (bof (xR S 6 v) a)) 4 v = bon (xR S 4 v) a := by simp [xR_uR]
  have F : Fr PA M (sI (sI (sI M 121 (ad 4 v) (bon (xR S 4 v) a)) 121 (ad 5 v) (bof (xR S 5 v) a)) 121 (ad 6 v) (bof (xR S 6 v) a)) := Fr.tr Fr.tad (Fr.tr Fr.tad Fr.tad)
  have start : ∀ y, (if xR S 3 v &&& ((bon (xR S 4 v) a) ^^^ (-1 : Int32)) = 0 then obd (f_X10_enter n 120 (nI v) (sI (sI (sI M 121 (ad 4 v) (bon (xR S 4 v) a)) 121 (ad 5 v) (bof (xR S 5 v) a)) 121 (ad 6 v) (bof (xR S 6 v) a))) (fun M30 => some M30) else some (sI (sI (sI M 121 (ad 4 v) (bon (xR S 4 v) a)) 121 (ad 5 v) (bof (xR S 5 v) a)) 121 (ad 6 v) (bof (xR S 6 v) a))) = y → f_X10_granted n 120 (nI v) (nI a) M = y := by
    intro y hy
    rw [f_X10_granted, rs_f h.1, h.get4 hv, obd_s, f_with, obd_s, h.let4 hv, obd_s, rs_f h1.1, h1.get5 hv, obd_s, q5, f_without, obd_s, h1.let5 hv, obd_s, rs_f h2.1, h2.get6 hv, obd_s, q6, f_without, obd_s, h2.let6 hv, obd_s, rs_f h3.1, h3.get3 hv, obd_s, q3, h3.get4 hv, obd_s, q4]
    exact hy
  unfold gr
  simp only []
  by_cases c : xR S 3 v &&& ((bon (xR S 4 v) a) ^^^ (-1 : Int32)) = 0
  · rw [if_pos c] at start ⊢
    obtain ⟨M', e', h', f'⟩ := h3.ten (by simpa [xR_uR] using hN) h16 hv hn
    exact ⟨M', start _ (by rw [e', obd_s]), h', Fr.tr F f'⟩
  · rw [if_neg c] at start ⊢
    exact ⟨_, start _ rfl, h3, F⟩
/-! ===== what is written down of a bringing ===== -/
def wtl (f g : Nat) (ws : List Nat) (S : St) : St := ws.foldl (fun S w => if xR S 0 w = 1 ∧ (w = f ∨ w = g) then uR S 14 w (xR S 14 w + 1) else S) S
def wt (N k f g : Nat) (s : Int32) (S : St) : St := wtl f g (List.range N) (uR (uR (uT S (nI k, nI f, nI g, s)) 15 1 (xR S 15 1 + 1)) 18 g (xR S 18 g + 1))
theorem RV.w156 {tw : Bool} {t : Int32} {pb pt : List Row4} {N : Nat} (h16 : N ≤ 16) {f g : Nat} (hf : f < 16) (hg : g < 16) : ∀ (d i n : Nat) (M : Mem) (S : St), RV M tw t S pb pt → xR S 20 0 = nI N → i + d = N → d + 1 ≤ n → ∃ M', f_X10_writeTrace_156 n 120 (nI f) (nI g) (nI i) M = some M' ∧ RV M' tw t (wtl f g (List.range' i d) S) pb pt ∧ Fr PA M M' := by
  intro d
  induction d with
  | zero =>
    intro i n M S h hN hi hn
    obtain ⟨n, rfl⟩ : ∃ m, n = m + 1 := ⟨n - 1, by omega⟩
    refine ⟨M, ?_, h, Fr.rf _ _⟩
    rw [f_X10_writeTrace_156, rs_f h.1, rs_0 h.1, bnd_e, rs_fa h.1, rs_c0 h.1, cl0, h.N hN, if_pos (nI_le (by omega) (by omega))]
  | succ d ih =>
    intro i n M S h hN hi hn
    obtain ⟨n, rfl⟩ : ∃ m, n = m + 1 := ⟨n - 1, by omega⟩
    have v14 : vk 14 i := by unfold vk; omega
    have ad14 : ad 14 i = 9865 + 3 * i + 2 := by have := ad_cases v14; omega
    have a14 : mI M 121 (9865 + 3 * i + 2) = xR S 14 i := by rw [← ad14]; exact h.rg v14
    have one : f_X10_writeTrace_190 (f_X10_writeTrace_156 n) n 120 (nI f) (nI g) (nI i) M = f_X10_writeTrace_156 n 120 (nI f) (nI g) (nI (i + 1)) (sI M 121 (ad 14 i) (xR S 14 i + 1)) := by
      rw [f_X10_writeTrace_190, rs_f h.1, rs_0 h.1, bnd_e, rs_fa h.1, c9865, show nI (9865 + 3 * i) + (2 : Int32) = nI (9865 + 3 * i + 2) by rw [show (2 : Int32) = nI 2 from rfl, nI_add], bnd_e, rs_c h.1 (by omega), rs_c h.1 (by omega), bnd_e, cl_n (by omega), a14, ← ad14, nI_1, bnd_e]
    have start : ∀ y, (if xR S 0 i = 1 ∧ (i = f ∨ i = g) then f_X10_writeTrace_156 n 120 (nI f) (nI g) (nI (i + 1)) (sI M 121 (ad 14 i) (xR S 14 i + 1)) else f_X10_writeTrace_156 n 120 (nI f) (nI g) (nI (i + 1)) M) = y → f_X10_writeTrace_156 (n + 1) 120 (nI f) (nI g) (nI i) M = y := by
      intro y hy
      rw [f_X10_writeTrace_156, rs_f h.1, rs_0 h.1, bnd_e, rs_fa h.1, rs_c0 h.1, cl0, h.N hN, if_neg (nI_ge (by omega) (by omega)), h.get0 (by omega), obd_s, one]
      simp only [bnd_e, nI_1]
      by_cases c : xR S 0 i = 1
      · rw [if_pos c]
        by_cases c1 : i = f
        · rw [if_pos ⟨c, Or.inl c1⟩] at hy
          rw [if_pos (by rw [c1])]; exact hy
        · rw [if_neg (fun q => c1 ((nI_eq (by omega) (by omega)).mp q))]
          by_cases c2 : i = g
          · rw [if_pos ⟨c, Or.inr c2⟩] at hy
            rw [if_pos (by rw [c2])]; exact hy
          · rw [if_neg (fun q => c2 ((nI_eq (by omega) (by omega)).mp q))]
            rw [if_neg (fun q => q.2.elim c1 c2)] at hy
            exact hy
      · rw [if_neg c]
        rw [if_neg (fun q => c q.1)] at hy
        exact hy
    have el : wtl f g (List.range' i (d + 1)) S = wtl f g (List.range' (i + 1) d) (if xR S 0 i = 1 ∧ (i = f ∨ i = g) then uR S 14 i (xR S 14 i + 1) else S) := by
      unfold wtl
      rw [List.range'_succ, List.foldl_cons]
    rw [el]
    by_cases c : xR S 0 i = 1 ∧ (i = f ∨ i = g)
    · rw [if_pos c] at start ⊢
      have h1 := h.st v14 (xR S 14 i + 1)
      obtain ⟨M2, e2, h2, f2⟩ := ih (i + 1) n _ _ h1 (by simpa [xR_uR] using hN) (by omega) (by omega)
      exact ⟨M2, start _ e2, h2, Fr.tr Fr.tad f2⟩
    · rw [if_neg c] at start ⊢
      obtain ⟨M2, e2, h2, f2⟩ := ih (i + 1) n M S h hN (by omega) (by omega)
      exact ⟨M2, start _ e2, h2, f2⟩
set_option maxHeartbeats 2000000 in
theorem RV.w60 {M : Mem} {tw : Bool} {t : Int32} {S : St} {pb pt : List Row4} (hS : RS M) {m : Nat} (hm : m < 40) (hA : mI M 121 9858 = nI m) {k f g : Nat} (hf : f < 16) (hg : g < 16) (s : Int32) {N : Nat} (h16 : N ≤ 16) (h : RV (sI (put4 M 10033 m (nI k, nI f, nI g, s)) 121 9858 (nI (m + 1))) tw t S pb pt) (hN : xR S 20 0 = nI N) {n : Nat} (hn : 20 ≤ n) : ∃ M', f_X10_writeTrace_60 n 120 (nI k) (nI f) (nI g) s M = some M' ∧ RV M' tw t (wtl f g (List.range N) (uR (uR S 15 1 (xR S 15 1 + 1)) 18 g (xR S 18 g + 1))) pb pt ∧ Fr PA (sI (put4 M 10033 m (nI k, nI f, nI g, s)) 121 9858 (nI (m + 1))) M' := by
  have v15 : vk 15 1 := by unfold vk; omega
  have v18 : vk 18 g := by unfold vk; omega
  have ad18 : ad 18 g = 10193 + g := by have := ad_cases v18; omega
  generalize hMa : sI M 121 (10033 + 4 * m) (nI k) = Ma
  generalize hMb : sI Ma 121 (10033 + 4 * m + 1) (nI f) = Mb
  generalize hMc : sI Mb 121 (10033 + 4 * m + 2) (nI g) = Mc
  generalize hMd : sI Mc 121 (10033 + 4 * m + 3) s = Md
  have hSa : RS Ma := by subst hMa; exact hS.e rfl
  have hSb : RS Mb := by subst hMb; exact hSa.e rfl
  have hSc : RS Mc := by subst hMc; exact hSb.e rfl
  have hSd : RS Md := by subst hMd; exact hSc.e rfl
  have hp : put4 M 10033 m (nI k, nI f, nI g, s) = Md := by
    unfold put4
    rw [hMa, hMb, hMc, hMd]
  have hB : mI Md 121 9858 = nI m := by
    rw [← hMd, mI_n _ _ _ _ (by omega), ← hMc, mI_n _ _ _ _ (by omega), ← hMb, mI_n _ _ _ _ (by omega), ← hMa, mI_n _ _ _ _ (by omega)]
    exact hA
  rw [hp] at h ⊢
  generalize hMe : sI Md 121 9858 (nI (m + 1)) = Me at h ⊢
  have h1 := h.st v15 (xR S 15 1 + 1)
  have e15 : mI Me 121 9852 = xR S 15 1 := h.rg v15
  generalize hMf : sI Me 121 (ad 15 1) (xR S 15 1 + 1) = Mf' at h1
  have e18 : mI Mf' 121 (10193 + g) = xR S 18 g := by
    have := h1.rg v18
    rw [ad18] at this
    rw [this]; simp [xR_uR]
  have h2 := h1.st v18 (xR S 18 g + 1)
  generalize hMg : sI Mf' 121 (ad 18 g) (xR S 18 g + 1) = Mg at h2
  obtain ⟨M3, e3, h3, f3⟩ := RV.w156 (tw := tw) (t := t) (pb := pb) (pt := pt) h16 hf hg N 0 n Mg _ h2 (by simpa [xR_uR] using hN) (by omega) (by omega)
  refine ⟨M3, ?_, ?_, Fr.tr (M' := Mf') ?_ (Fr.tr (M' := Mg) ?_ f3)⟩
  · rw [f_X10_writeTrace_60, rs_f hS, rs_0 hS, bnd_e, rs_fa hS, show (9858 : Int32) = nI 9858 from rfl, rs_c hS (by decide), mI_c (by decide), hA, show (10033 : Int32) = nI 10033 from rfl, c4i, bnd_e, bnd_e, rs_fa hS, rs_c hS (by omega), bnd_e, cl_n (by omega), hMa, rs_0 hSa, bnd_e, rs_fa hSa, nI_1, rs_c hSa (by omega), bnd_e, cl_n (by omega), hMb, rs_0 hSb, bnd_e, rs_fa hSb, show nI (10033 + 4 * m) + (2 : Int32) = nI (10033 + 4 * m + 2) by rw [show (2 : Int32) = nI 2 from rfl, nI_add], rs_c hSb (by omega), bnd_e, cl_n (by omega), hMc, rs_0 hSc, bnd_e, rs_fa hSc, show nI (10033 + 4 * m) + (3 : Int32) = nI (10033 + 4 * m + 3) by rw [show (3 : Int32) = nI 3 from rfl, nI_add], rs_c hSc (by omega), bnd_e, cl_n (by omega), hMd, rs_0 hSd, bnd_e, rs_fa hSd, rs_c hSd (by decide), rs_c hSd (by decide), bnd_e, cl_n (by decide), hB, nI_1, hMe, rs_0 h.1, bnd_e, rs_fa h.1, show (9852 : Int32) = nI 9852 from rfl, rs_c h.1 (by decide), rs_c h.1 (by decide), bnd_e, cl_n (by decide), e15, show (9852 : Nat) = ad 15 1 from rfl, hMf, rs_0 h1.1, bnd_e, rs_fa h1.1, show (10193 : Int32) + nI g = nI (10193 + g) by rw [show (10193 : Int32) = nI 10193 from rfl, nI_add], bnd_e, rs_c h1.1 (by omega), rs_c h1.1 (by omega), bnd_e, cl_n (by omega), e18, ← ad18, hMg]
    exact e3
  · rw [List.range_eq_range']; exact h3
  · rw [← hMf]; exact Fr.tad
  · rw [← hMg]; exact Fr.tad
set_option maxHeartbeats 1000000 in
theorem RV.twt {M : Mem} {tw : Bool} {t : Int32} {S : St} {pb pt : List Row4} (h : RV M tw t S pb pt) {N : Nat} (hN : xR S 20 0 = nI N) (h16 : N ≤ 16) {k f g : Nat} (hf : f < 16) (hg : g < 16) (s : Int32) {n : Nat} (hn : 200 ≤ n) : ∃ M', f_X10_writeTrace n 120 (nI k) (nI f) (nI g) s M = some M' ∧ RV M' tw t (wt N k f g s S) pb pt ∧ Fr PA M M' := by
  have hB := h.2.2.2.2.2.2
  have hle := lastn_le 40 (pt ++ xT S)
  have open1 : ∀ y, (if mI M 121 9858 = (40 : Int32) then f_X10_writeTrace_18 n 120 (nI k) (nI f) (nI g) s (10033 : Int32) M else f_X10_writeTrace_60 n 120 (nI k) (nI f) (nI g) s M) = y → f_X10_writeTrace n 120 (nI k) (nI f) (nI g) s M = y := by
    intro y hy
    rw [f_X10_writeTrace, rs_f h.1, rs_0 h.1, bnd_e, rs_fa h.1, show (9858 : Int32) = nI 9858 from rfl, rs_c h.1 (by decide), cl_n (by decide)]
    exact hy
  by_cases c : (lastn 40 (pt ++ xT S)).length = 40
  · have hc : mI M 121 9858 = (40 : Int32) := by rw [hB.1, c]; rfl
    rw [if_pos hc] at open1
    obtain ⟨M1, n', i0, i1, i2, i3, i4, i5⟩ := shift_T (v1 := nI k) (v2 := nI f) (v3 := nI g) (v4 := s) 156 M n h.1 (by decide) (by omega)
    rw [show nI (10189 - 156) = (10033 : Int32) from rfl] at i1
    generalize hMa : sI M1 121 9858 (nI 39) = Ma
    have hS1 : RS M1 := h.1.e i2.1
    have hSa : RS Ma := by subst hMa; exact hS1.e rfl
    have Fa : FrB 9858 10033 40 M Ma := FrB.tr i2 (by rw [← hMa]; exact FrB.s (Or.inl rfl))
    have hT : RV (sI (put4 Ma 10033 39 (nI k, nI f, nI g, s)) 121 9858 (nI (39 + 1))) tw t (uT S (nI k, nI f, nI g, s)) pb pt := by
      refine h.bookT _ (FrB.tr Fa (FrB.tr (put4_F (n := 40) (m := 39) Ma _ (by decide)) (FrB.s (Or.inl rfl)))) ?_
      rw [← List.append_assoc]
      refine RVb.push (M := M) (Ma := Ma) (by decide) (Or.inl (by decide)) hB _ 39 (by rw [if_pos c]) ?_ rfl
      rw [if_pos c]
      refine hB.2.sh fun b h1 h2 => ?_
      rw [c] at h2
      rw [← hMa, mI_n _ _ _ _ (by omega), i4 b (by omega) (by omega)]
    obtain ⟨M', e', h', f'⟩ := RV.w60 (tw := tw) (t := t) (pb := pb) (pt := pt) hSa (m := 39) (by decide) (by rw [← hMa, mI_s]) hf hg s h16 hT hN (n := n') (by omega)
    refine ⟨M', open1 _ ?_, h', Fr.tr (Fr.tr Fa.toFr (Fr.tr (put4_F (A := 9858) (n := 40) (m := 39) Ma _ (by decide)).toFr (Fr.tsI ⟨by decide, by decide⟩))) f'⟩
    rw [i1, f_X10_writeTrace_18, if_pos (by rw [show (10189 : Int32) = nI 10189 from rfl]; exact nI_le (Nat.le_refl _) (by decide)), rs_f hS1, rs_0 hS1, bnd_e, rs_fa hS1, show (9858 : Int32) = nI 9858 from rfl, rs_c hS1 (by decide), rs_c hS1 (by decide), bnd_e, cl_n (by decide), i3, hc, show (40 : Int32) - 1 = nI 39 from rfl, hMa, e']
  · have hc : ¬ mI M 121 9858 = (40 : Int32) := by
      rw [hB.1, show (40 : Int32) = nI 40 from rfl]
      exact fun q => c ((nI_eq (by omega) (by decide)).mp q)
    rw [if_neg hc] at open1
    have hT : RV (sI (put4 M 10033 (lastn 40 (pt ++ xT S)).length (nI k, nI f, nI g, s)) 121 9858 (nI ((lastn 40 (pt ++ xT S)).length + 1))) tw t (uT S (nI k, nI f, nI g, s)) pb pt := by
      refine h.bookT _ (FrB.tr (put4_F (n := 40) M _ (by omega)) (FrB.s (Or.inl rfl))) ?_
      rw [← List.append_assoc]
      refine RVb.push (M := M) (Ma := M) (by decide) (Or.inl (by decide)) hB _ _ (by rw [if_neg c]) ?_ rfl
      rw [if_neg c]
      exact hB.2
    obtain ⟨M', e', h', f'⟩ := RV.w60 (tw := tw) (t := t) (pb := pb) (pt := pt) h.1 (m := (lastn 40 (pt ++ xT S)).length) (by omega) hB.1 hf hg s h16 hT hN (n := n) (by omega)
    exact ⟨M', open1 _ e', h', Fr.tr (Fr.tr (put4_F (A := 9858) (n := 40) M _ (by omega)).toFr (Fr.tsI ⟨by decide, by decide⟩)) f'⟩
