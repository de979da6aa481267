/-! ===== the reference keeps a state, lays it, looks whether it is it ===== -/
theorem rs_11 {M : Mem} (h : RS M) : mR M 120 11 = 128 := h.r (by decide)
theorem rs_f11 {α : Type} {M : Mem} (h : RS M) (x : Option α) : chk (isO M 100 128) x = x := chk_t (h.io (by decide) (by decide) (by decide))
theorem rs_c11 {α : Type} {M : Mem} (h : RS M) {k : Nat} (hk : k < 393320) (x : Option α) : chk (inB (nI k) (mLn M 128)) x = x := by
  refine chk_t ?_
  rw [h.ln (c := 393320) (by decide) (by decide) (by decide)]; exact inB_n hk (by decide)
theorem c9833 (i k : Nat) : ((9833 : Int32) * nI i) + nI k = nI (9833 * i + k) := by
  rw [show (9833 : Int32) = nI 9833 from rfl, pk_mul, nI_add]
theorem c18 (k : Nat) : (18 : Int32) + nI k = nI (18 + k) := by rw [show (18 : Int32) = nI 18 from rfl, nI_add]
def KS (M : Mem) (i : Nat) (S : St) : Prop := ∃ Mx t pb pt, RV Mx false t S pb pt ∧ ∀ k, k < 833 + (fl S).length → mI M 128 (9833 * i + k) = mI Mx 121 (18 + k)
theorem KS.cg {M M' : Mem} {i : Nat} {S : St} (h : KS M i S) (e : ∀ b, 9833 * i ≤ b → b < 9833 * (i + 1) → mI M' 128 b = mI M 128 b) : KS M' i S := by
  obtain ⟨Mx, t, pb, pt, p, q⟩ := h
  have := p.2.2.2.2.1.2.1
  exact ⟨Mx, t, pb, pt, p, fun k hk => by rw [e _ (by omega) (by omega)]; exact q k hk⟩
section
variable {M : Mem} {t : Int32} {S : St} {pb pt : List Row4}
theorem RV.size (p : RV M false t S pb pt) : f_X10_sizeNow 120 M = some (nI (833 + (fl S).length)) := by
  rw [f_X10_sizeNow, rs_f p.1, rs_0 p.1, bnd_e, rs_fa p.1, show (850 : Int32) = nI 850 from rfl, rs_c p.1 (by decide), cl_n (by decide), p.2.2.2.2.1.1, show (833 : Int32) = nI 833 from rfl, nI_add]
end
theorem kp_l {i sz : Nat} (hi : i < 40) (hs : sz ≤ 9833) : ∀ (d k n : Nat) (M : Mem), k + d = sz → RS M → d + 1 ≤ n → ∃ M', f_X10_keepState_7 n 120 (nI i) (nI sz) (nI k) M = some M' ∧ M'.1 = M.1 ∧ (∀ o, o ≠ 128 → ∀ b, mI M' o b = mI M o b) ∧ (∀ b, mI M' 128 b = if 9833 * i + k ≤ b ∧ b < 9833 * i + sz then mI M 121 (18 + (b - 9833 * i)) else mI M 128 b) ∧ ∀ o b, mL M' o b = mL M o b := by
  intro d
  induction d with
  | zero =>
    intro k n M hk hS hn
    obtain ⟨n, rfl⟩ : ∃ m, n = m + 1 := ⟨n - 1, by omega⟩
    refine ⟨M, ?_, rfl, fun _ _ _ => rfl, fun b => by rw [if_neg (by omega)], fun _ _ => rfl⟩
    rw [f_X10_keepState_7, if_pos (nI_le (by omega) (by omega))]
  | succ d ih =>
    intro k n M hk hS hn
    obtain ⟨n, rfl⟩ : ∃ m, n = m + 1 := ⟨n - 1, by omega⟩
    obtain ⟨M', e, s, o1, o2, o3⟩ := ih (k + 1) n (sI M 128 (9833 * i + k) (mI M 121 (18 + k))) (by omega) (hS.e rfl) (by omega)
    refine ⟨M', ?_, s, fun o n b => by rw [o1 o n, mI_o _ _ _ _ _ n], fun b => ?_, fun o b => o3 o b⟩
    · rw [f_X10_keepState_7, if_neg (nI_ge (by omega) (by omega)), rs_f hS, rs_11 hS, bnd_e, rs_f11 hS, rs_0 hS, bnd_e, rs_fa hS, c18, c9833, rs_c hS (by omega), rs_c11 hS (by omega), nI_clamp (by omega), nI_clamp (by omega), bnd_e, nI_1, bnd_e, e]
    · rw [o2]
      by_cases c : 9833 * i + (k + 1) ≤ b ∧ b < 9833 * i + sz
      · rw [if_pos c, if_pos (by omega), mI_o _ _ _ _ _ (by decide)]
      · rw [if_neg c]
        by_cases c2 : b = 9833 * i + k
        · rw [c2, mI_s, if_pos (by omega), show 9833 * i + k - 9833 * i = k by omega]
        · rw [mI_n _ _ _ _ c2, if_neg (by omega)]
theorem is_l {i sz : Nat} {M : Mem} (hi : i < 40) (hs : sz ≤ 9833) (hS : RS M) : ∀ (d k n : Nat), k + d = sz → d + 1 ≤ n → ∃ b : Bool, f_X10_isState_7 M n 120 (nI i) (nI sz) (nI k) = some (if b then 1 else 0) ∧ (b = true ↔ ∀ j, k ≤ j → j < sz → mI M 128 (9833 * i + j) = mI M 121 (18 + j)) := by
  intro d
  induction d with
  | zero =>
    intro k n hk hn
    obtain ⟨n, rfl⟩ : ∃ m, n = m + 1 := ⟨n - 1, by omega⟩
    refine ⟨true, ?_, ⟨fun _ j a b => by omega, fun _ => rfl⟩⟩
    rw [f_X10_isState_7, if_pos (nI_le (by omega) (by omega)), if_pos rfl]
  | succ d ih =>
    intro k n hk hn
    obtain ⟨n, rfl⟩ : ∃ m, n = m + 1 := ⟨n - 1, by omega⟩
    obtain ⟨b, e, hb⟩ := ih (k + 1) n (by omega) (by omega)
    have hd : ∀ y : Option Int32, (if mI M 128 (9833 * i + k) = mI M 121 (18 + k) then f_X10_isState_7 M n 120 (nI i) (nI sz) (nI (k + 1)) else some 0) = y → f_X10_isState_7 M (n + 1) 120 (nI i) (nI sz) (nI k) = y := by
      intro y hy
      rw [f_X10_isState_7, if_neg (nI_ge (by omega) (by omega)), rs_f hS, rs_11 hS, bnd_e, rs_f11 hS, c9833, rs_c11 hS (by omega), rs_0 hS, bnd_e, rs_fa hS, c18, rs_c hS (by omega), nI_clamp (by omega), nI_clamp (by omega), nI_1, bnd_e]
      exact hy
    by_cases c : mI M 128 (9833 * i + k) = mI M 121 (18 + k)
    · refine ⟨b, hd _ (by rw [if_pos c, e]), ?_⟩
      rw [hb]
      constructor
      · intro h j a a'
        by_cases z : j = k
        · rw [z]; exact c
        · exact h j (by omega) a'
      · intro h j a a'
        exact h j (by omega) a'
    · refine ⟨false, hd _ (by rw [if_neg c]; rfl), ⟨fun z => absurd z (by decide), fun h => absurd (h k (Nat.le_refl _) (by omega)) c⟩⟩
theorem la_l {i sz : Nat} (hi : i < 40) (hs : sz ≤ 9833) : ∀ (d k n : Nat) (M : Mem), k + d = sz → RS M → d + 1 ≤ n → ∃ M', f_X10_laysState_24 n 120 (nI i) (nI sz) (nI k) M = some M' ∧ M'.1 = M.1 ∧ (∀ o, o ≠ 121 → ∀ b, mI M' o b = mI M o b) ∧ (∀ b, mI M' 121 b = if 18 + k ≤ b ∧ b < 18 + sz then mI M 128 (9833 * i + (b - 18)) else mI M 121 b) ∧ ∀ o b, mL M' o b = mL M o b := by
  intro d
  induction d with
  | zero =>
    intro k n M hk hS hn
    obtain ⟨n, rfl⟩ : ∃ m, n = m + 1 := ⟨n - 1, by omega⟩
    refine ⟨M, ?_, rfl, fun _ _ _ => rfl, fun b => by rw [if_neg (by omega)], fun _ _ => rfl⟩
    rw [f_X10_laysState_24, if_pos (nI_le (by omega) (by omega))]
  | succ d ih =>
    intro k n M hk hS hn
    obtain ⟨n, rfl⟩ : ∃ m, n = m + 1 := ⟨n - 1, by omega⟩
    obtain ⟨M', e, s, o1, o2, o3⟩ := ih (k + 1) n (sI M 121 (18 + k) (mI M 128 (9833 * i + k))) (by omega) (hS.e rfl) (by omega)
    refine ⟨M', ?_, s, fun o n b => by rw [o1 o n, mI_o _ _ _ _ _ n], fun b => ?_, fun o b => o3 o b⟩
    · rw [f_X10_laysState_24, if_neg (nI_ge (by omega) (by omega)), rs_f hS, rs_0 hS, bnd_e, rs_fa hS, rs_11 hS, bnd_e, rs_f11 hS, c18, c9833, rs_c11 hS (by omega), rs_c hS (by omega), nI_clamp (by omega), nI_clamp (by omega), bnd_e, nI_1, bnd_e, e]
    · rw [o2]
      by_cases c : 18 + (k + 1) ≤ b ∧ b < 18 + sz
      · rw [if_pos c, if_pos (by omega), mI_o _ _ _ _ _ (by decide)]
      · rw [if_neg c]
        by_cases c2 : b = 18 + k
        · rw [c2, mI_s, if_pos (by omega), show 18 + k - 18 = k by omega]
        · rw [mI_n _ _ _ _ c2, if_neg (by omega)]
/-- a state laid over another -/
def mix (Si S : St) : St := (fun k i => if k < 11 then xR Si k i else xR S k i, Si.2.1, Si.2.2.1, S.2.2.2)
theorem mix_SE {Si S : St} (h : Qk Si S) : SE (mix Si S) Si := by
  refine ⟨fun k i hk _ => ?_, fun _ _ => rfl, fun _ _ => rfl⟩
  show (if k < 11 then xR Si k i else xR S k i) = xR Si k i
  by_cases c : k < 11
  · rw [if_pos c]
  · rw [if_neg c]; exact h k (by omega) i
theorem mix_R {Si S : St} {k i : Nat} : xR (mix Si S) k i = if k < 11 then xR Si k i else xR S k i := rfl
theorem fl_mix {Si S : St} : fl (mix Si S) = fl Si := rfl
section
variable {M : Mem} {t : Int32} {S Si : St} {pb pt : List Row4}
theorem RV.kept (p : RV M false t S pb pt) {i n : Nat} (hi : i < 40) (hn : 9900 ≤ n) : ∃ M', f_X10_keepState n 120 (nI i) M = some M' ∧ RV M' false t S pb pt ∧ KS M' i S ∧ M'.1 = M.1 ∧ (∀ o, o ≠ 128 → ∀ b, mI M' o b = mI M o b) ∧ (∀ j, j ≠ i → ∀ b, 9833 * j ≤ b → b < 9833 * (j + 1) → mI M' 128 b = mI M 128 b) ∧ ∀ o b, mL M' o b = mL M o b := by
  have l9 := p.2.2.2.2.1.2.1
  obtain ⟨M', e, s, o1, o2, o3⟩ := kp_l (sz := 833 + (fl S).length) hi (by omega) (833 + (fl S).length) 0 n M (by omega) p.1 (by omega)
  refine ⟨M', ?_, p.cg s (o1 120 (by decide) 3) (o1 121 (by decide)) (o1 123 (by decide)), ⟨M, t, pb, pt, p, fun k hk => ?_⟩, s, o1, fun j hj b h1 h2 => ?_, o3⟩
  · rw [f_X10_keepState, rs_f p.1, p.size, obd_s]; exact e
  · rw [o2, if_pos (by omega), show 9833 * i + k - 9833 * i = k by omega]
  · rw [o2, if_neg (by
      rcases Nat.lt_or_gt_of_ne hj with z | z
      · have : 9833 * (j + 1) ≤ 9833 * i := Nat.mul_le_mul_left _ z
        omega
      · have : 9833 * (i + 1) ≤ 9833 * j := Nat.mul_le_mul_left _ z
        omega)]
theorem RV.isS (p : RV M false t S pb pt) {N A A' : Nat} (h16 : N ≤ 16) (hI : Inv N A S) (hI' : Inv N A' Si) (hA : A < 1048576) (hA' : A' < 1048576) (hq : Qk Si S) {i n : Nat} (hk : KS M i Si) (hi : i < 40) (hn : 9900 ≤ n) : ∃ b : Bool, f_X10_isState n 120 (nI i) M = some (if b then 1 else 0) ∧ (b = true ↔ SE Si S) := by
  have l9 := p.2.2.2.2.1.2.1
  obtain ⟨b, e, hb⟩ := is_l (M := M) (sz := 833 + (fl S).length) hi (by omega) p.1 (833 + (fl S).length) 0 n (by omega) (by omega)
  refine ⟨b, by rw [f_X10_isState, rs_f p.1, p.size, obd_s]; exact e, ?_⟩
  rw [hb]
  obtain ⟨Mx, tx, px, qx, r, hr⟩ := hk
  constructor
  · intro h
    have hL : (fl Si).length = (fl S).length := by
      have z := h 832 (by omega) (by omega)
      rw [hr 832 (by omega)] at z
      have l1 := r.2.2.2.2.1
      exact (nI_eq (by have := l1.2.1; omega) (by omega)).mp (l1.1.symm.trans (z.trans p.2.2.2.2.1.1))
    exact SE_of_cells h16 r p hI' hI hA' hA hq (fun k hk => by rw [← hr k (by omega)]; exact h k (by omega) hk)
  · intro h j _ hj
    have hL := len_lq (fl_lk.mp h.2.2)
    rw [hr j (by omega)]
    exact cells_of_SE r p h j hj
theorem RV.lays (p : RV M false t S pb pt) {i n : Nat} (hk : KS M i Si) (hi : i < 40) (hn : 9900 ≤ n) : ∃ M', f_X10_laysState n 120 (nI i) M = some M' ∧ RV M' false t (mix Si S) pb pt ∧ M'.1 = M.1 ∧ (∀ o, o ≠ 121 → ∀ b, mI M' o b = mI M o b) ∧ ∀ o b, mL M' o b = mL M o b := by
  obtain ⟨Mx, tx, px, qx, r, hr⟩ := hk
  have lx := r.2.2.2.2.1
  have e832 : mI M 128 (9833 * i + 832) = nI (fl Si).length := by
    rw [hr 832 (by omega)]; exact lx.1
  obtain ⟨M', e, s, o1, o2, o3⟩ := la_l (sz := 833 + (fl Si).length) hi (by have := lx.2.1; omega) (833 + (fl Si).length) 0 n M (by omega) p.1 (by have := lx.2.1; omega)
  have cell : ∀ b, 18 ≤ b → b < 851 + (fl Si).length → mI M' 121 b = mI Mx 121 b := fun b h1 h2 => by
    rw [o2, if_pos (by omega), hr _ (by omega), show 18 + (b - 18) = b by omega]
  have far : ∀ b, b < 18 ∨ 9851 ≤ b → mI M' 121 b = mI M 121 b := fun b h => by
    rw [o2, if_neg (by have := lx.2.1; omega)]
  refine ⟨M', ?_, ⟨p.1.e s, by rw [o1 120 (by decide)]; exact p.2.1, fun k j hv => ?_, ?_, ⟨?_, lx.2.1, fun j q hj => ⟨?_, fun z => by cases z⟩⟩, ?_, ?_⟩, s, o1, o3⟩
  · have c : (((9833 : Int32) * nI i) + (850 : Int32)) - (18 : Int32) = nI (9833 * i + 832) := by
      rw [show (9833 : Int32) = nI 9833 from rfl, pk_mul, show (850 : Int32) = nI 850 from rfl, nI_add, show (18 : Int32) = nI 18 from rfl, nI_sb (by omega)]
      congr 1
    rw [f_X10_laysState, rs_f p.1, rs_11 p.1, bnd_e, rs_f11 p.1, c, rs_c11 p.1 (by omega), nI_clamp (by omega), e832, show (833 : Int32) = nI 833 from rfl, nI_add, bnd_e]
    exact e
  · have a := ad_cases hv
    rw [mix_R]
    by_cases c : k < 11
    · rw [if_pos c, cell _ (by omega) (by omega)]
      exact r.rg hv
    · rw [if_neg c, far _ (by omega)]
      exact p.rg hv
  · exact (r.2.2.2.1).cg (fun b h1 h2 => cell b (by omega) (by omega)) rfl
  · rw [cell 850 (by decide) (by omega)]
    exact lx.1
  · have hj' : j < (fl Si).length := by
      have hj2 : (fl Si)[j]? = some q := hj
      rcases Nat.lt_or_ge j (fl Si).length with z | z
      · exact z
      · rw [List.getElem?_eq_none z] at hj2; cases hj2
    rw [cell _ (by omega) (by omega)]
    exact (lx.2.2 j q hj).1
  · exact p.2.2.2.2.2.1.cg (far _ (by omega)) (fun b h1 h2 => far b (by omega))
  · exact p.2.2.2.2.2.2.cg (far _ (by omega)) (fun b h1 h2 => far b (by omega))
end
