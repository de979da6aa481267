/-! ===== one enters; a bringing is written down ===== -/
set_option maxHeartbeats 1000000 in
theorem RV.e217 {M : Mem} {tw : Bool} {t : Int32} {S : St} {pb pt : List Row4} (h : RV M tw t S pb pt) {v : Nat} (hv : v < 16) (x y : Int32) {n : Nat} (hn : 130 ≤ n) : ∃ M', (if mI M 121 9857 = (30 : Int32) then f_X10_enter_237 n 120 (nI v) x y (9913 : Int32) M else f_X10_enter_279 n 120 (nI v) x y M) = some M' ∧ RV M' tw t (uE S (nI v, xR S 2 v, x, y)) pb pt ∧ Fr PA M M' := by
  have hB := h.2.2.2.2.2.1
  have hle := lastn_le 30 (pb ++ xE S)
  have g2 : mI M 121 (18 + 8 * v + 2) = xR S 2 v := h.rg (vk_n (k := 2) (by decide) hv)
  by_cases c : (lastn 30 (pb ++ xE S)).length = 30
  · have hc : mI M 121 9857 = (30 : Int32) := by rw [hB.1, c]; rfl
    rw [if_pos hc]
    obtain ⟨M1, n', i1, i2, i3, i4, i5⟩ := shift_E (v1 := 0) (v2 := x) (v3 := y) (nI v) 116 M n h.1 (by decide) (by omega)
    rw [show nI (10029 - 116) = (9913 : Int32) from rfl] at i1
    generalize hMa : sI M1 121 9857 (nI 29) = Ma
    have hS1 : RS M1 := h.1.e i2.1
    have hSa : RS Ma := by subst hMa; exact hS1.e rfl
    have q279 := RV.w279 hSa hv (m := 29) (by decide) (by rw [← hMa, mI_s]) x y n'
    have ga : mI Ma 121 (18 + 8 * v + 2) = xR S 2 v := by
      rw [← hMa, mI_n _ _ _ _ (by omega), i5 _ (by omega)]; exact g2
    rw [ga] at q279
    refine ⟨sI (put4 Ma 9913 29 (nI v, xR S 2 v, x, y)) 121 9857 (nI (29 + 1)), ?_, h.bookE _ (FrB.tr i2 (FrB.tr (M' := Ma) ?_ (FrB.tr (put4_F (n := 30) (m := 29) Ma _ (by decide)) (FrB.s (Or.inl rfl))))) ?_, ?_⟩
    · rw [i1, f_X10_enter_237, if_pos (by rw [show (10029 : Int32) = nI 10029 from rfl]; exact nI_le (Nat.le_refl _) (by decide)), rs_f hS1, rs_0 hS1, bnd_e, rs_fa hS1, show (9857 : Int32) = nI 9857 from rfl, rs_c hS1 (by decide), rs_c hS1 (by decide), bnd_e, cl_n (by decide), i3, hc, show (30 : Int32) - 1 = nI 29 from rfl, hMa, q279]
    · rw [← hMa]; exact FrB.s (Or.inl rfl)
    · rw [← List.append_assoc]
      refine RVb.push (M := M) (Ma := Ma) (by decide) (Or.inl (by decide)) hB _ 29 (by rw [if_pos c]) ?_ rfl
      rw [if_pos c]
      refine hB.2.sh fun b h1 h2 => ?_
      rw [c] at h2
      rw [← hMa, mI_n _ _ _ _ (by omega), i4 b (by omega) (by omega)]
    · refine Fr.tr i2.toFr (Fr.tr (M' := Ma) ?_ (Fr.tr (put4_F (A := 9857) (n := 30) (m := 29) Ma _ (by decide)).toFr (Fr.tsI ⟨by decide, by decide⟩)))
      rw [← hMa]; exact Fr.tsI ⟨by decide, by decide⟩
  · have hc : ¬ mI M 121 9857 = (30 : Int32) := by
      rw [hB.1, show (30 : Int32) = nI 30 from rfl]
      exact fun q => c ((nI_eq (by omega) (by decide)).mp q)
    rw [if_neg hc]
    have q279 := RV.w279 h.1 hv (m := (lastn 30 (pb ++ xE S)).length) (by omega) hB.1 x y n
    rw [g2] at q279
    refine ⟨_, q279, h.bookE _ (FrB.tr (put4_F (n := 30) M _ (by omega)) (FrB.s (Or.inl rfl))) ?_, Fr.tr (put4_F (A := 9857) (n := 30) M _ (by omega)).toFr (Fr.tsI ⟨by decide, by decide⟩)⟩
    rw [← List.append_assoc]
    refine RVb.push (M := M) (Ma := M) (by decide) (Or.inl (by decide)) hB _ _ (by rw [if_neg c]) ?_ rfl
    rw [if_neg c]
    exact hB.2
/-- somebody asks that is ahead of v -/
def ovr (N v : Nat) (S : St) : Bool := (List.range N).any fun w => decide (xR S 0 w = 1) && ahd (xR S 2 w) (nI w) (xR S 2 v) (nI v)
def ovr' (i d v : Nat) (S : St) : Bool := (List.range' i d).any fun w => decide (xR S 0 w = 1) && ahd (xR S 2 w) (nI w) (xR S 2 v) (nI v)
theorem RV.e136 {M : Mem} {tw : Bool} {t : Int32} {S : St} {pb pt : List Row4} (h : RV M tw t S pb pt) {N : Nat} (hN : xR S 20 0 = nI N) (h16 : N ≤ 16) {v : Nat} (hv : v < 16) (x y : Int32) : ∀ (d i : Nat) (b : Bool) (n : Nat), i + d = N → d + 131 ≤ n → ∃ n', 130 ≤ n' ∧ f_X10_enter_136 n 120 (nI v) x y (if b then 1 else 0) (nI i) M = f_X10_enter_217 n' 120 (nI v) x y (if b || ovr' i d v S then 1 else 0) (xR S 15 5) (9856 : Int32) 121 M := by
  intro d
  induction d with
  | zero =>
    intro i b n hi hn
    obtain ⟨n, rfl⟩ : ∃ m, n = m + 1 := ⟨n - 1, by omega⟩
    have hi2 : i = N := by omega
    subst hi2
    refine ⟨n, by omega, ?_⟩
    have e5 : mI M 121 9856 = xR S 15 5 := h.rg (k := 15) (i := 5) (by unfold vk; omega)
    rw [f_X10_enter_136, rs_f h.1, rs_0 h.1, bnd_e, rs_fa h.1, rs_c0 h.1, cl0, h.N hN, if_pos (nI_le (Nat.le_refl _) (by omega)), bnd_e, rs_fa h.1, show (9856 : Int32) = nI 9856 from rfl, rs_c h.1 (by decide), mI_c (by decide), e5]
    have : ovr' i 0 v S = false := rfl
    rw [this, Bool.or_false]
    cases b
    · rfl
    · rfl
  | succ d ih =>
    intro i b n hi hn
    obtain ⟨n, rfl⟩ : ∃ m, n = m + 1 := ⟨n - 1, by omega⟩
    have eo : ovr' i (d + 1) v S = ((decide (xR S 0 i = 1) && ahd (xR S 2 i) (nI i) (xR S 2 v) (nI v)) || ovr' (i + 1) d v S) := by
      unfold ovr'
      rw [List.range'_succ, List.any_cons]
    obtain ⟨n', h1, h2⟩ := ih (i + 1) (b || (decide (xR S 0 i = 1) && ahd (xR S 2 i) (nI i) (xR S 2 v) (nI v))) n (by omega) (by omega)
    refine ⟨n', h1, ?_⟩
    rw [eo, ← Bool.or_assoc, ← h2, f_X10_enter_136, rs_f h.1, rs_0 h.1, bnd_e, rs_fa h.1, rs_c0 h.1, cl0, h.N hN, if_neg (nI_ge (by omega) (by omega))]
    simp only [bnd_e, nI_1]
    cases b with
    | true => rw [if_neg (by decide)]; rfl
    | false =>
      rw [if_pos (by rfl), h.get0 (by omega), obd_s, Bool.false_or]
      by_cases c : xR S 0 i = 1
      · rw [if_pos c, h.get2 (by omega), obd_s, h.get2 hv, obd_s, f_ah10, obd_s]
        cases ha : ahd (xR S 2 i) (nI i) (xR S 2 v) (nI v)
        · simp [c]
        · simp [c, ne10]
      · rw [if_neg c]; simp [c]
def en0 (t : Int32) (N v : Nat) (S : St) : St :=
  let S1 := uR (uR (uR (uR S 0 v 2) 5 v 0) 15 0 (xR S 15 0 + 1)) 12 v (xR S 12 v + 1)
  let x := xR S 15 1 - xR S 13 v
  let y := xR S 14 v
  let S2 := if x ≤ xR S 15 4 then S1 else uR S1 15 4 x
  let S3 := if y ≤ xR S 15 3 then S2 else uR S2 15 3 y
  let S4 := if pcI N S3 ≤ 1 then S3 else uR S3 15 2 (xR S3 15 2 + 1)
  let S5 := uR S4 15 5 (xR S4 15 5 + (if ovr N v S4 then 1 else 0))
  uE S5 (nI v, xR S5 2 v, x, y)
theorem c9865 (v : Nat) : (9865 : Int32) + ((3 : Int32) * nI v) = nI (9865 + 3 * v) := by rw [show (9865 : Int32) = nI 9865 from rfl, show (3 : Int32) = nI 3 from rfl, pk_mul, nI_add]
theorem RV.cnt {M : Mem} {tw : Bool} {t : Int32} {S : St} {pb pt : List Row4} (h : RV M tw t S pb pt) {v w : Nat} (hv : v < 16) (hw : w < 3) : f_X10_countOf 120 (nI v) (nI w) M = some (xR S (12 + w) v) := by
  have e : mI M 121 (9865 + 3 * v + w) = xR S (12 + w) v := by
    have hk : vk (12 + w) v := by unfold vk; omega
    have := h.rg hk
    rwa [show ad (12 + w) v = 9865 + 3 * v + w by have := ad_cases hk; omega] at this
  rw [f_X10_countOf, rs_f h.1, rs_0 h.1, bnd_e, rs_fa h.1, c9865, nI_add, rs_c h.1 (by omega), cl_n (by omega), e]
theorem pcI_uR {N : Nat} {S : St} {k i : Nat} {x : Int32} (hk : k ≠ 0) : pcI N (uR S k i x) = pcI N S := by
  unfold pcI
  congr 1
  apply List.filter_congr
  intro w _
  rw [xR_uR, if_neg (fun q => hk q.1.symm)]
set_option maxHeartbeats 2000000 in
theorem RV.ten0 {M : Mem} {tw : Bool} {t : Int32} {S : St} {pb pt : List Row4} (h : RV M tw t S pb pt) {N : Nat} (hN : xR S 20 0 = nI N) (h16 : N ≤ 16) {v : Nat} (hv : v < 16) {n : Nat} (hn : 200 ≤ n) : ∃ M', f_X10_enter n 120 (nI v) M = some M' ∧ RV M' tw t (en0 t N v S) pb pt ∧ Fr PA M M' := by
  have v15 : ∀ i, i < 6 → vk 15 i := fun i hi => by unfold vk; omega
  have v12 : vk 12 v := by unfold vk; omega
  have h1 := h.st (vk_n (k := 0) (by decide) hv) 2
  have h2 := h1.st (vk_n (k := 5) (by decide) hv) 0
  have h3 := h2.st (v15 0 (by decide)) (xR S 15 0 + 1)
  have h4 := h3.st v12 (xR S 12 v + 1)
  generalize hM1 : sI M 121 (ad 0 v) 2 = M1 at h1 h2 h3 h4
  generalize hM2 : sI M1 121 (ad 5 v) 0 = M2 at h2 h3 h4
  generalize hM3 : sI M2 121 (ad 15 0) (xR S 15 0 + 1) = M3 at h3 h4
  generalize hM4 : sI M3 121 (ad 12 v) (xR S 12 v + 1) = M4 at h4
  have F1 : Fr PA M M1 := by rw [← hM1]; exact Fr.tad
  have F2 : Fr PA M1 M2 := by rw [← hM2]; exact Fr.tad
  have F3 : Fr PA M2 M3 := by rw [← hM3]; exact Fr.tad
  have F4 : Fr PA M3 M4 := by rw [← hM4]; exact Fr.tad
  generalize hS4 : uR (uR (uR (uR S 0 v 2) 5 v 0) 15 0 (xR S 15 0 + 1)) 12 v (xR S 12 v + 1) = S4 at h4
  have r151 : xR S4 15 1 = xR S 15 1 := by subst hS4; simp [xR_uR]
  have r154 : xR S4 15 4 = xR S 15 4 := by subst hS4; simp [xR_uR]
  have r153 : xR S4 15 3 = xR S 15 3 := by subst hS4; simp [xR_uR]
  have r13 : xR S4 13 v = xR S 13 v := by subst hS4; simp [xR_uR]
  have r14 : xR S4 14 v = xR S 14 v := by subst hS4; simp [xR_uR]
  have hN4 : xR S4 20 0 = nI N := by subst hS4; simpa [xR_uR] using hN
  have a150 : mI M2 121 9851 = xR S 15 0 := by
    have := h2.rg (v15 0 (by decide))
    rw [show ad 15 0 = 9851 from rfl] at this
    rw [this]; simp [xR_uR]
  have a12 : mI M3 121 (9865 + 3 * v) = xR S 12 v := by
    have := h3.rg v12
    rw [show ad 12 v = 9865 + 3 * v by have := ad_cases v12; omega] at this
    rw [this]; simp [xR_uR]
  have a151 : mI M4 121 9852 = xR S 15 1 := (h4.rg (v15 1 (by decide))).trans r151
  have a154 : mI M4 121 9855 = xR S 15 4 := (h4.rg (v15 4 (by decide))).trans r154
  -- the tail
  have tail : ∀ {M : Mem} {S : St} (_ : RV M tw t S pb pt) (_ : xR S 20 0 = nI N) (x y : Int32) (n : Nat), 190 ≤ n → ∃ M', f_X10_enter_107 n 120 (nI v) x y M = some M' ∧ RV M' tw t (let S4 := if pcI N S ≤ 1 then S else uR S 15 2 (xR S 15 2 + 1); let S5 := uR S4 15 5 (xR S4 15 5 + (if ovr N v S4 then 1 else 0)); uE S5 (nI v, xR S5 2 v, x, y)) pb pt ∧ Fr PA M M' := by
    intro M S h hN x y n hn
    obtain ⟨msk, g1, g2⟩ := h.insd hN h16 (n := n) (by omega)
    have hm := f_many (x := msk) (fun i hi1 hi2 => by rw [g2 i hi2]; simp; omega) (n := n) (by omega) M
    have hpc := pc_mask g2
    have p32 := pc_le msk
    have last : ∀ {M : Mem} {S : St} (_ : RV M tw t S pb pt) (_ : xR S 20 0 = nI N) (n : Nat), 190 ≤ n → ∃ M', f_X10_enter_136 n 120 (nI v) x y 0 0 M = some M' ∧ RV M' tw t (let S5 := uR S 15 5 (xR S 15 5 + (if ovr N v S then 1 else 0)); uE S5 (nI v, xR S5 2 v, x, y)) pb pt ∧ Fr PA M M' := by
      intro M S h hN n hn
      obtain ⟨n', q1, q2⟩ := h.e136 hN h16 hv x y N 0 false n (by omega) (by omega)
      have eo : ovr' 0 N v S = ovr N v S := by
        unfold ovr' ovr
        rw [List.range_eq_range']
      rw [Bool.false_or, eo] at q2
      have q2' : f_X10_enter_136 n 120 (nI v) x y 0 0 M = f_X10_enter_217 n' 120 (nI v) x y (if ovr N v S then 1 else 0) (xR S 15 5) (9856 : Int32) 121 M := q2
      have h5 := h.st (v15 5 (by decide)) (xR S 15 5 + (if ovr N v S then 1 else 0))
      generalize hM5 : sI M 121 (ad 15 5) (xR S 15 5 + (if ovr N v S then 1 else 0)) = M5 at h5
      obtain ⟨M6, e6, h6, f6⟩ := h5.e217 hv x y (n := n') (by omega)
      refine ⟨M6, ?_, h6, Fr.tr (M' := M5) ?_ f6⟩
      · rw [q2', f_X10_enter_217, rs_fa h.1, show (9856 : Int32) = nI 9856 from rfl, rs_c h.1 (by decide), bnd_e, cl_n (by decide), show (9856 : Nat) = ad 15 5 from rfl, hM5, rs_f h5.1, rs_0 h5.1, bnd_e, rs_fa h5.1, show (9857 : Int32) = nI 9857 from rfl, rs_c h5.1 (by decide), cl_n (by decide)]
        exact e6
      · rw [← hM5]; exact Fr.tad
    by_cases c : pcI N S ≤ 1
    · obtain ⟨M', e', h', f'⟩ := last h hN n hn
      refine ⟨M', ?_, ?_, f'⟩
      · rw [f_X10_enter_107, rs_f h.1, g1, obd_s, hm, obd_s, hpc, if_pos (by rw [show (1 : Int32) = nI 1 from rfl]; exact nI_le c (by decide)), e']
      · rw [if_pos c]; exact h'
    · have h5 := h.st (v15 2 (by decide)) (xR S 15 2 + 1)
      generalize hM5 : sI M 121 (ad 15 2) (xR S 15 2 + 1) = M5 at h5
      have a152 : mI M 121 9853 = xR S 15 2 := h.rg (v15 2 (by decide))
      obtain ⟨M', e', h', f'⟩ := last h5 (by simpa [xR_uR] using hN) n hn
      refine ⟨M', ?_, ?_, Fr.tr (M' := M5) ?_ f'⟩
      · rw [f_X10_enter_107, rs_f h.1, g1, obd_s, hm, obd_s, hpc, if_neg (by rw [show (1 : Int32) = nI 1 from rfl]; exact nI_ge (by omega) (by omega)), rs_0 h.1, bnd_e, rs_fa h.1, show (9853 : Int32) = nI 9853 from rfl, rs_c h.1 (by decide), rs_c h.1 (by decide), bnd_e, cl_n (by decide), a152, show (9853 : Nat) = ad 15 2 from rfl, hM5, e']
      · rw [if_neg c]; exact h'
      · rw [← hM5]; exact Fr.tad
  have mid : ∀ {M : Mem} {S : St} (_ : RV M tw t S pb pt) (_ : xR S 20 0 = nI N) (x y : Int32) (n : Nat), 190 ≤ n → ∃ M', f_X10_enter_86 n 120 (nI v) x y M = some M' ∧ RV M' tw t (let S3 := if y ≤ xR S 15 3 then S else uR S 15 3 y; let S4 := if pcI N S3 ≤ 1 then S3 else uR S3 15 2 (xR S3 15 2 + 1); let S5 := uR S4 15 5 (xR S4 15 5 + (if ovr N v S4 then 1 else 0)); uE S5 (nI v, xR S5 2 v, x, y)) pb pt ∧ Fr PA M M' := by
    intro M S h hN x y n hn
    have a153 : mI M 121 9854 = xR S 15 3 := h.rg (v15 3 (by decide))
    by_cases c : y ≤ xR S 15 3
    · obtain ⟨M', e', h', f'⟩ := tail h hN x y n hn
      refine ⟨M', ?_, ?_, f'⟩
      · rw [f_X10_enter_86, rs_f h.1, rs_0 h.1, bnd_e, rs_fa h.1, show (9854 : Int32) = nI 9854 from rfl, rs_c h.1 (by decide), mI_c (by decide), a153, if_pos c, e']
      · rw [if_pos c]; exact h'
    · have h5 := h.st (v15 3 (by decide)) y
      generalize hM5 : sI M 121 (ad 15 3) y = M5 at h5
      obtain ⟨M', e', h', f'⟩ := tail h5 (by simpa [xR_uR] using hN) x y n hn
      refine ⟨M', ?_, ?_, Fr.tr (M' := M5) ?_ f'⟩
      · rw [f_X10_enter_86, rs_f h.1, rs_0 h.1, bnd_e, rs_fa h.1, show (9854 : Int32) = nI 9854 from rfl, rs_c h.1 (by decide), mI_c (by decide), a153, if_neg c, bnd_e, rs_fa h.1, rs_c h.1 (by decide), bnd_e, sI_c (by decide), show (9854 : Nat) = ad 15 3 from rfl, hM5, e']
      · rw [if_neg c]; exact h'
      · rw [← hM5]; exact Fr.tad
  have c1 := h4.cnt (w := 1) hv (by decide)
  have c2 := h4.cnt (w := 2) hv (by decide)
  rw [show 12 + 1 = 13 from rfl, r13, show nI 1 = (1 : Int32) from rfl] at c1
  rw [show 12 + 2 = 14 from rfl, r14, show nI 2 = (2 : Int32) from rfl] at c2
  have open1 : ∀ z, (if xR S 15 1 - xR S 13 v ≤ xR S 15 4 then f_X10_enter_86 n 120 (nI v) (xR S 15 1 - xR S 13 v) (xR S 14 v) M4 else f_X10_enter_86 n 120 (nI v) (xR S 15 1 - xR S 13 v) (xR S 14 v) (sI M4 121 (ad 15 4) (xR S 15 1 - xR S 13 v))) = z → f_X10_enter n 120 (nI v) M = z := by
    intro z hz
    rw [f_X10_enter, rs_f h.1, h.let0 hv, obd_s, hM1, rs_f h1.1, h1.let5 hv, obd_s, hM2, rs_f h2.1, rs_0 h2.1, bnd_e, rs_fa h2.1, show (9851 : Int32) = nI 9851 from rfl, rs_c h2.1 (by decide), rs_c h2.1 (by decide), bnd_e, cl_n (by decide), a150, show (9851 : Nat) = ad 15 0 from rfl, hM3, rs_0 h3.1, bnd_e, rs_fa h3.1, c9865, bnd_e, rs_c h3.1 (by omega), rs_c h3.1 (by omega), bnd_e, cl_n (by omega), a12, show 9865 + 3 * v = ad 12 v by have := ad_cases v12; omega, hM4, rs_0 h4.1, bnd_e, rs_fa h4.1, show (9852 : Int32) = nI 9852 from rfl, rs_c h4.1 (by decide), c1, obd_s, mI_c (by decide), a151, bnd_e, c2, obd_s, bnd_e, rs_fa h4.1, show (9855 : Int32) = nI 9855 from rfl, rs_c h4.1 (by decide), mI_c (by decide), a154]
    by_cases c : xR S 15 1 - xR S 13 v ≤ xR S 15 4
    · rw [if_pos c] at hz ⊢
      exact hz
    · rw [if_neg c] at hz ⊢
      rw [bnd_e, rs_fa h4.1, rs_c h4.1 (by decide), bnd_e, sI_c (by decide)]
      exact hz
  by_cases c : xR S 15 1 - xR S 13 v ≤ xR S 15 4
  · obtain ⟨M', e', h', f'⟩ := mid h4 hN4 (xR S 15 1 - xR S 13 v) (xR S 14 v) n (by omega)
    rw [if_pos c] at open1
    refine ⟨M', open1 _ e', ?_, Fr.tr F1 (Fr.tr F2 (Fr.tr F3 (Fr.tr F4 f')))⟩
    unfold en0
    simp only [hS4]
    rw [if_pos c]
    rw [r153] at h'
    exact h'
  · have h5 := h4.st (v15 4 (by decide)) (xR S 15 1 - xR S 13 v)
    rw [if_neg c] at open1
    generalize hM5 : sI M4 121 (ad 15 4) (xR S 15 1 - xR S 13 v) = M5 at h5 open1
    obtain ⟨M', e', h', f'⟩ := mid h5 (by simpa [xR_uR] using hN4) (xR S 15 1 - xR S 13 v) (xR S 14 v) n (by omega)
    refine ⟨M', open1 _ e', ?_, Fr.tr F1 (Fr.tr F2 (Fr.tr F3 (Fr.tr F4 (Fr.tr (M' := M5) ?_ f'))))⟩
    · unfold en0
      simp only [hS4]
      rw [if_neg c]
      rw [show xR (uR S4 15 4 (xR S 15 1 - xR S 13 v)) 15 3 = xR S 15 3 by rw [xR_uR, if_neg (by omega), r153]] at h'
      exact h'
    · rw [← hM5]; exact Fr.tad
/-- since when it is inside, by the clock of the letters: the class alone holds it -/
def en (t : Int32) (N v : Nat) (S : St) : St := uR (en0 t N v S) 21 v t
theorem RV.r21 {M : Mem} {tw : Bool} {t : Int32} {S : St} {pb pt : List Row4} (h : RV M tw t S pb pt) (i : Nat) (x : Int32) : RV M tw t (uR S 21 i x) pb pt := by
  obtain ⟨h1, h2, h3, h4⟩ := h
  refine ⟨h1, h2, fun k j hk => ?_, h4⟩
  rw [xR_uR, if_neg (fun z => by unfold vk at hk; omega)]
  exact h3 k j hk
theorem RV.ten {M : Mem} {tw : Bool} {t : Int32} {S : St} {pb pt : List Row4} (h : RV M tw t S pb pt) {N : Nat} (hN : xR S 20 0 = nI N) (h16 : N ≤ 16) {v : Nat} (hv : v < 16) {n : Nat} (hn : 200 ≤ n) : ∃ M', f_X10_enter n 120 (nI v) M = some M' ∧ RV M' tw t (en t N v S) pb pt ∧ Fr PA M M' := by
  obtain ⟨M', e, h', f⟩ := h.ten0 hN h16 hv hn
  exact ⟨M', e, h'.r21 v t, f⟩
