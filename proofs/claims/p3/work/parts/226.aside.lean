/-! ===== what would be is gone through and laid back, by the reference ===== -/
theorem rs_9 {M : Mem} (h : RS M) : mR M 120 9 = 126 := h.r (by decide)
theorem rs_f9 {α : Type} {M : Mem} (h : RS M) (x : Option α) : chk (isO M 100 126) x = x := chk_t (h.io (by decide) (by decide) (by decide))
theorem rs_c9 {α : Type} {M : Mem} (h : RS M) {k : Nat} (hk : k < 10465) (x : Option α) : chk (inB (nI k) (mLn M 126)) x = x := by
  refine chk_t ?_
  rw [h.ln (c := 10465) (by decide) (by decide) (by decide)]; exact inB_n hk (by decide)
/-- the first cells of o are as those of p were -/
def cpF (M : Mem) (p o lo : Nat) : Mem := (M.1, (fun a b => if a = o ∧ lo ≤ b ∧ b < 10465 then M.2.1 p b else M.2.1 a b), M.2.2)
theorem cpF_0 (M : Mem) (p o : Nat) : cpF M p o 10465 = M := by
  refine Prod.ext rfl (Prod.ext ?_ rfl)
  funext a b
  show (if a = o ∧ 10465 ≤ b ∧ b < 10465 then M.2.1 p b else M.2.1 a b) = M.2.1 a b
  rw [if_neg (by omega)]
theorem cpF_s (M : Mem) {p o d : Nat} (hpo : p ≠ o) (hd : d + 1 ≤ 10465) : cpF (sI M o (10465 - (d + 1)) (mI M p (10465 - (d + 1)))) p o (10465 - d) = cpF M p o (10465 - (d + 1)) := by
  refine Prod.ext rfl (Prod.ext ?_ rfl)
  funext a b
  show (if a = o ∧ 10465 - d ≤ b ∧ b < 10465 then up2 M.2.1 o (10465 - (d + 1)) (M.2.1 p (10465 - (d + 1))) p b else up2 M.2.1 o (10465 - (d + 1)) (M.2.1 p (10465 - (d + 1))) a b) = if a = o ∧ 10465 - (d + 1) ≤ b ∧ b < 10465 then M.2.1 p b else M.2.1 a b
  by_cases h1 : a = o ∧ 10465 - d ≤ b ∧ b < 10465
  · rw [if_pos h1, if_pos (by omega), up2_o _ _ _ _ hpo]
  · rw [if_neg h1]
    unfold up2
    by_cases h2 : a = o ∧ b = 10465 - (d + 1)
    · rw [if_pos h2, if_pos (by omega), h2.2]
    · rw [if_neg h2, if_neg (by omega)]
set_option maxHeartbeats 1000000 in
theorem aside_l : ∀ (d : Nat) (M : Mem) (n : Nat), RS M → d ≤ 10465 → d + 1 ≤ n → f_X10_putAside_2 n 120 (nI (10465 - d)) M = some (cpF M 121 126 (10465 - d)) := by
  intro d
  induction d with
  | zero =>
    intro M n hS _ hn
    obtain ⟨n, rfl⟩ : ∃ m, n = m + 1 := ⟨n - 1, by omega⟩
    rw [f_X10_putAside_2, Nat.sub_zero, if_pos (by rw [show (10465 : Int32) = nI 10465 from rfl]; exact nI_le (Nat.le_refl _) (by decide)), cpF_0]
  | succ d ih =>
    intro M n hS hd hn
    obtain ⟨n, rfl⟩ : ∃ m, n = m + 1 := ⟨n - 1, by omega⟩
    have hi := ih (sI M 126 (10465 - (d + 1)) (mI M 121 (10465 - (d + 1)))) n (hS.e rfl) (by omega) (by omega)
    rw [cpF_s M (by decide) hd] at hi
    rw [f_X10_putAside_2, if_neg (by rw [show (10465 : Int32) = nI 10465 from rfl]; exact nI_ge (by omega) (by decide)), rs_f hS, rs_9 hS, bnd_e, rs_f9 hS, rs_0 hS, bnd_e, rs_fa hS, rs_c hS (by omega), rs_c9 hS (by omega), bnd_e, cl_n (by omega), nI_1, bnd_e, show 10465 - (d + 1) + 1 = 10465 - d by omega, hi]
set_option maxHeartbeats 1000000 in
theorem back_l : ∀ (d : Nat) (M : Mem) (n : Nat), RS M → d ≤ 10465 → d + 1 ≤ n → f_X10_bringBack_2 n 120 (nI (10465 - d)) M = some (cpF M 126 121 (10465 - d)) := by
  intro d
  induction d with
  | zero =>
    intro M n hS _ hn
    obtain ⟨n, rfl⟩ : ∃ m, n = m + 1 := ⟨n - 1, by omega⟩
    rw [f_X10_bringBack_2, Nat.sub_zero, if_pos (by rw [show (10465 : Int32) = nI 10465 from rfl]; exact nI_le (Nat.le_refl _) (by decide)), cpF_0]
  | succ d ih =>
    intro M n hS hd hn
    obtain ⟨n, rfl⟩ : ∃ m, n = m + 1 := ⟨n - 1, by omega⟩
    have hi := ih (sI M 121 (10465 - (d + 1)) (mI M 126 (10465 - (d + 1)))) n (hS.e rfl) (by omega) (by omega)
    rw [cpF_s M (by decide) hd] at hi
    rw [f_X10_bringBack_2, if_neg (by rw [show (10465 : Int32) = nI 10465 from rfl]; exact nI_ge (by omega) (by decide)), rs_f hS, rs_0 hS, bnd_e, rs_fa hS, rs_9 hS, bnd_e, rs_f9 hS, rs_c9 hS (by omega), rs_c hS (by omega), bnd_e, cl_n (by omega), nI_1, bnd_e, show 10465 - (d + 1) + 1 = 10465 - d by omega, hi]
theorem f_aside {M : Mem} (hS : RS M) {n : Nat} (hn : 10466 ≤ n) : f_X10_putAside n 120 M = some (cpF M 121 126 0) := by
  have := aside_l 10465 M n hS (Nat.le_refl _) hn
  rw [f_X10_putAside]
  exact this
theorem f_back {M : Mem} (hS : RS M) {n : Nat} (hn : 10466 ≤ n) : f_X10_bringBack n 120 M = some (cpF M 126 121 0) := by
  have := back_l 10465 M n hS (Nat.le_refl _) hn
  rw [f_X10_bringBack]
  exact this
/-- all that can ask do -/
def akl (t : Int32) (N : Nat) (ws : List Nat) (S : St) : St := ws.foldl (fun S v => if mayA N v S then ak t N v S else S) S
theorem RV.aal {tw : Bool} {t : Int32} {pb pt : List Row4} {N : Nat} (h16 : N ≤ 16) : ∀ (d i n : Nat) (M : Mem) (S : St), RV M tw t S pb pt → xR S 20 0 = nI N → (xR S 20 1 = 1 → N % 2 = 1) → i + d = N → (fl S).length + N * d ≤ 9000 → d + 9201 ≤ n → ∃ M', f_X10_askAll_2 n 120 (nI i) M = some M' ∧ RV M' tw t (akl t N (List.range' i d) S) pb pt ∧ Fr PA M M' := by
  intro d
  induction d with
  | zero =>
    intro i n M S h hN ht hi hl hn
    obtain ⟨n, rfl⟩ : ∃ m, n = m + 1 := ⟨n - 1, by omega⟩
    refine ⟨M, ?_, h, Fr.rf _ _⟩
    rw [f_X10_askAll_2, rs_f h.1, rs_0 h.1, bnd_e, rs_fa h.1, rs_c0 h.1, cl0, h.N hN, if_pos (nI_le (by omega) (by omega))]
  | succ d ih =>
    intro i n M S h hN ht hi hl hn
    obtain ⟨n, rfl⟩ : ∃ m, n = m + 1 := ⟨n - 1, by omega⟩
    rw [Nat.mul_succ] at hl
    obtain ⟨M1, e1, h1, f1⟩ := h.can hN h16 ht (v := i) (by omega) (n := n) (by omega)
    have el : akl t N (List.range' i (d + 1)) S = akl t N (List.range' (i + 1) d) (if mayA N i S then ak t N i S else S) := by
      unfold akl
      rw [List.range'_succ, List.foldl_cons]
    have open1 : ∀ y, (if mayA N i S = true then obd (f_X10_askNow n 120 (nI i) M1) (fun M17 => f_X10_askAll_2 n 120 (nI (i + 1)) M17) else f_X10_askAll_2 n 120 (nI (i + 1)) M1) = y → f_X10_askAll_2 (n + 1) 120 (nI i) M = y := by
      intro y hy
      rw [f_X10_askAll_2, rs_f h.1, rs_0 h.1, bnd_e, rs_fa h.1, rs_c0 h.1, cl0, h.N hN, if_neg (nI_ge (by omega) (by omega)), e1, obd2_s]
      cases b : mayA N i S
      · rw [b] at hy
        simp only [Bool.false_eq_true, if_false, if_true, bnd_e, nI_1] at hy ⊢
        exact hy
      · rw [b] at hy
        simp only [if_true, ne10, if_false] at hy ⊢
        rw [rs_f h1.1]
        simp only [bnd_e, nI_1]
        exact hy
    rw [el]
    by_cases c : mayA N i S = true
    · rw [if_pos c] at open1 ⊢
      obtain ⟨M2, e2, h2, f2⟩ := h1.tak hN h16 ht (v := i) (by omega) (by omega) (n := n) (by omega)
      have hlen := ak_len (N := N) (v := i) (S := S) h16 (by omega) t
      have r20 : ∀ j, xR (ak t N i S) 20 j = xR S 20 j := fun j => by
        rw [ak_R (by decide)]
        by_cases q : j = i
        · rw [if_pos q]; rfl
        · rw [if_neg q]
      obtain ⟨M3, e3, h3, f3⟩ := ih (i + 1) n M2 _ h2 ((r20 0).trans hN) (by rw [r20 1]; exact ht) (by omega) (by omega) (by omega)
      exact ⟨M3, open1 _ (by rw [e2, obd_s, e3]), h3, Fr.tr (f1.mo P2_A) (Fr.tr f2 f3)⟩
    · rw [if_neg c] at open1 ⊢
      obtain ⟨M3, e3, h3, f3⟩ := ih (i + 1) n M1 S h1 hN ht (by omega) (by omega) (by omega)
      exact ⟨M3, open1 _ e3, h3, Fr.tr (f1.mo P2_A) f3⟩
def akA (t : Int32) (N : Nat) (S : St) : St := akl t N (List.range N) S
theorem RV.takA {M : Mem} {tw : Bool} {t : Int32} {S : St} {pb pt : List Row4} (h : RV M tw t S pb pt) {N : Nat} (hN : xR S 20 0 = nI N) (h16 : N ≤ 16) (ht : xR S 20 1 = 1 → N % 2 = 1) (hl : (fl S).length + N * N ≤ 9000) {n : Nat} (hn : 9300 ≤ n) : ∃ M', f_X10_askAll n 120 M = some M' ∧ RV M' tw t (akA t N S) pb pt ∧ Fr PA M M' := by
  obtain ⟨M', e, h', f'⟩ := RV.aal (tw := tw) (t := t) (pb := pb) (pt := pt) h16 N 0 n M S h hN ht (by omega) hl (by omega)
  refine ⟨M', ?_, ?_, f'⟩
  · rw [f_X10_askAll]; exact e
  · unfold akA; rw [List.range_eq_range']; exact h'
/-- a turn of a crowd: the state, the seed, whether it goes on -/
def cr1 (t : Int32) (N : Nat) (q : St × Int64 × Bool) : St × Int64 × Bool :=
  if q.2.2 then
    (let S := akA t N q.1
     if mv0 N S = [] then (S, q.2.1, false)
     else (match (mv0 N S)[dk q.2.1 (mv0 N S).length]? with
      | none => (S, q.2.1, false)
      | some c => (dm t N c S, drw q.2.1, true)))
  else q
def crn (t : Int32) (N : Nat) : Nat → St × Int64 × Bool → St × Int64 × Bool
  | 0, q => q
  | n + 1, q => crn t N n (cr1 t N q)
