/-! ===== alike states have like rows ===== -/
def lq (q : Nat × Ltr) : Nat × (Int32 × Int32) := (q.1, lk q.2)
theorem fl_fm (L : Nat → List Ltr) (m : Nat) : ∀ n, ((List.range n).flatMap fun l => (L l).map fun x => (l, x)).filterMap (fun q => if q.1 = m then some (lk q.2) else none) = if m < n then (L m).map lk else [] := by
  have one : ∀ (n : Nat) (l : List Ltr), (l.map fun x => (n, x)).filterMap (fun q => if q.1 = m then some (lk q.2) else none) = if n = m then l.map lk else [] := by
    intro n l
    induction l with
    | nil => split <;> rfl
    | cons x r ih =>
      rw [List.map_cons, List.filterMap_cons]
      by_cases c : n = m
      · rw [if_pos c] at ih ⊢
        simp only [c, if_true]
        rw [List.map_cons, ← ih, c]
      · rw [if_neg c] at ih ⊢
        simp only [c, if_false]
        exact ih
  intro n
  induction n with
  | zero => rfl
  | succ n ih =>
    rw [List.range_succ, List.flatMap_append, List.filterMap_append, ih, List.flatMap_cons, List.flatMap_nil, List.append_nil, one]
    by_cases c : n = m
    · subst c
      rw [if_neg (Nat.lt_irrefl _), if_pos rfl, if_pos (by omega)]
      rfl
    · rw [if_neg c, List.append_nil]
      by_cases d : m < n
      · rw [if_pos d, if_pos (by omega)]
      · rw [if_neg d, if_neg (by omega)]
theorem fl_lk {S S' : St} : (∀ l, l < 256 → (xL S l).map lk = (xL S' l).map lk) ↔ (fl S).map lq = (fl S').map lq := by
  constructor
  · intro h
    unfold fl
    rw [List.map_flatMap, List.map_flatMap]
    refine fm_cg _ (fun l hl => ?_)
    have := h l (List.mem_range.mp hl)
    rw [List.map_map, List.map_map]
    have e : ∀ L : List Ltr, L.map (lq ∘ fun x => (l, x)) = (L.map lk).map (fun y => (l, y)) := fun L => by rw [List.map_map]; rfl
    rw [e, e, this]
  · intro h l hl
    have g : ∀ S : St, (xL S l).map lk = ((fl S).map lq).filterMap (fun q => if q.1 = l then some q.2 else none) := fun S => by
      rw [List.filterMap_map]
      have := fl_fm (xL S) l 256
      rw [if_pos hl] at this
      rw [← this]
      rfl
    rw [g S, g S', h]
theorem fl_mm {S : St} {q : Nat × Ltr} (h : q ∈ fl S) : q.1 < 256 ∧ q.2 ∈ xL S q.1 := by
  unfold fl at h
  obtain ⟨l, hl, hq⟩ := List.mem_flatMap.mp h
  obtain ⟨x, hx, rfl⟩ := List.mem_map.mp hq
  exact ⟨List.mem_range.mp hl, hx⟩
theorem enc_inj {q q' : Nat × Ltr} (h : q.1 < 256) (h' : q'.1 < 256) (l : Lok q.2) (l' : Lok q'.2) (e : enc q = enc q') : lq q = lq q' := by
  obtain ⟨⟨k, hk, ek⟩, s, hs, es⟩ := l
  obtain ⟨⟨k', hk', ek'⟩, s', hs', es'⟩ := l'
  have a := enc_pair h
  have a' := enc_pair h'
  have b := enc_kind h (show k < 8 by omega) ek
  have b' := enc_kind h' (show k' < 8 by omega) ek'
  have c := enc_stamp h (show k < 8 by omega) ek hs es
  have c' := enc_stamp h' (show k' < 8 by omega) ek' hs' es'
  rw [e] at a b c
  have e1 := (nI_eq (by omega) (by omega)).mp (a.symm.trans a')
  have e2 := b.symm.trans b'
  have e3 := c.symm.trans c'
  unfold lq lk
  rw [e1, ek, ek', e2, es, es', e3]
theorem enc_c {q q' : Nat × Ltr} (e : lq q = lq q') : enc q = enc q' := by
  unfold lq lk at e
  obtain ⟨e1, e2⟩ := Prod.mk.inj e
  obtain ⟨e3, e4⟩ := Prod.mk.inj e2
  unfold enc
  rw [e1, e3, e4]
theorem len_lq {S S' : St} (h : (fl S).map lq = (fl S').map lq) : (fl S).length = (fl S').length := by
  have := congrArg List.length h
  rwa [List.length_map, List.length_map] at this
section
variable {M M' : Mem} {tw tw' : Bool} {t t' : Int32} {S S' : St} {pb pt pb' pt' : List Row4}
theorem SE_of_cells {N A A' : Nat} (h16 : N ≤ 16) (p : RV M tw t S pb pt) (p' : RV M' tw' t' S' pb' pt') (hI : Inv N A S) (hI' : Inv N A' S') (hA : A < 1048576) (hA' : A' < 1048576) (hq : Qk S S') (h : ∀ k, k < 833 + (fl S').length → mI M 121 (18 + k) = mI M' 121 (18 + k)) : SE S S' := by
  have l1 := p.2.2.2.2.1
  have l2 := p'.2.2.2.2.1
  have hL : (fl S).length = (fl S').length := by
    have := h 832 (by omega)
    exact (nI_eq (by have := l1.2.1; omega) (by have := l2.2.1; omega)).mp (l1.1.symm.trans (this.trans l2.1))
  refine ⟨fun k i hk hi => ?_, fun a ha => ?_, fl_lk.mpr ?_⟩
  · by_cases c : k < 11
    · have hv : vk k i := by unfold vk; omega
      have a := ad_cases hv
      have e1 := p.rg hv
      have e2 := p'.rg hv
      rw [← e1, ← e2]
      have := h (ad k i - 18) (by omega)
      rwa [show 18 + (ad k i - 18) = ad k i by omega] at this
    · exact (hq k (by omega) i).symm
  · obtain ⟨a1, a2, a3, _⟩ := p.2.2.2.1 a ha
    obtain ⟨b1, b2, b3, _⟩ := p'.2.2.2.1 a ha
    have el : (xW S a).length = (xW S' a).length := by
      have := h (131 + 44 * a) (by omega)
      rw [show 18 + (131 + 44 * a) = 149 + 44 * a by omega, a1, b1] at this
      exact (nI_eq (by omega) (by omega)).mp this
    apply List.ext_getElem?
    intro i
    cases e1 : (xW S a)[i]? with
    | none =>
      have : (xW S' a)[i]? = none := by
        rw [List.getElem?_eq_none_iff] at e1 ⊢
        omega
      rw [this]
    | some q =>
      cases e2 : (xW S' a)[i]? with
      | none =>
        rw [List.getElem?_eq_none_iff] at e2
        have : (xW S a)[i]? = none := by rw [List.getElem?_eq_none_iff]; omega
        rw [this] at e1; cases e1
      | some q' =>
        have hi : i < (xW S a).length := by
          rcases Nat.lt_or_ge i (xW S a).length with z | z
          · exact z
          · rw [List.getElem?_eq_none z] at e1; cases e1
        have w1 := (hI.2.2.2.2.2.1 a ha).1.2.2 q (List.mem_of_getElem? e1)
        have w2 := (hI'.2.2.2.2.2.1 a ha).1.2.2 q' (List.mem_of_getElem? e2)
        obtain ⟨c1, c2⟩ := a3 i q e1
        obtain ⟨d1, d2⟩ := b3 i q' e2
        have f1 := h (132 + 44 * a + 2 * i) (by omega)
        have f2 := h (133 + 44 * a + 2 * i) (by omega)
        rw [show 18 + (132 + 44 * a + 2 * i) = 150 + 44 * a + 2 * i by omega, c1, d1] at f1
        rw [show 18 + (133 + 44 * a + 2 * i) = 151 + 44 * a + 2 * i by omega, c2, d2] at f2
        have := (nI_eq (by have := w1.1; omega) (by have := w2.1; omega)).mp f1
        rw [Prod.ext this f2]
  · apply List.ext_getElem?
    intro i
    rw [List.getElem?_map, List.getElem?_map]
    cases e1 : (fl S)[i]? with
    | none =>
      have : (fl S')[i]? = none := by
        rw [List.getElem?_eq_none_iff] at e1 ⊢
        omega
      rw [this]
    | some q =>
      cases e2 : (fl S')[i]? with
      | none =>
        rw [List.getElem?_eq_none_iff] at e2
        have : (fl S)[i]? = none := by rw [List.getElem?_eq_none_iff]; omega
        rw [this] at e1; cases e1
      | some q' =>
        have hi : i < (fl S').length := by
          rcases Nat.lt_or_ge i (fl S').length with z | z
          · exact z
          · rw [List.getElem?_eq_none z] at e2; cases e2
        have c1 := (l1.2.2 i q e1).1
        have c2 := (l2.2.2 i q' e2).1
        have f1 := h (833 + i) (by omega)
        rw [show 18 + (833 + i) = 851 + (0 + i) by omega, c1, c2] at f1
        have m1 := fl_mm (List.mem_of_getElem? e1)
        have m2 := fl_mm (List.mem_of_getElem? e2)
        show some (lq q) = some (lq q')
        rw [enc_inj m1.1 m2.1 (Lok_of hI hA m1.1 m1.2) (Lok_of hI' hA' m2.1 m2.2) f1]
theorem cells_of_SE (p : RV M tw t S pb pt) (p' : RV M' tw' t' S' pb' pt') (h : SE S S') : ∀ k, k < 833 + (fl S').length → mI M 121 (18 + k) = mI M' 121 (18 + k) := by
  intro k hk
  have hm := fl_lk.mp h.2.2
  have hL := len_lq hm
  have l1 := p.2.2.2.2.1
  have l2 := p'.2.2.2.2.1
  have reg : ∀ k' i, k' < 11 → i < 16 → mI M 121 (ad k' i) = mI M' 121 (ad k' i) := fun k' i a b => by
    have hv : vk k' i := by unfold vk; omega
    rw [p.rg hv, p'.rg hv, h.1 k' i (Or.inl a) b]
  by_cases c1 : k < 128
  · have e : 18 + k = ad (k % 8) (k / 8) := by
      have a := ad_cases (k := k % 8) (i := k / 8) (by unfold vk; omega)
      omega
    rw [e]
    exact reg _ _ (by omega) (by omega)
  · by_cases c2 : k < 832
    · generalize ha : (k - 128) / 44 = a
      generalize hr : (k - 128) % 44 = r
      have a16 : a < 16 := by omega
      have ek : 18 + k = 146 + 44 * a + r := by omega
      rw [ek]
      obtain ⟨a1, a2, a3, a4⟩ := p.2.2.2.1 a a16
      obtain ⟨b1, b2, b3, b4⟩ := p'.2.2.2.1 a a16
      have eW := h.2.1 a a16
      by_cases d1 : r < 3
      · have e : 146 + 44 * a + r = ad (8 + r) a := by
          have z := ad_cases (k := 8 + r) (i := a) (by unfold vk; omega)
          omega
        rw [e]
        exact reg _ _ (by omega) a16
      · by_cases d2 : r = 3
        · rw [d2, show 146 + 44 * a + 3 = 149 + 44 * a by omega, a1, b1, eW]
        · generalize hm' : (r - 4) / 2 = m
          have r44 : r < 44 := by omega
          have m20 : m < 20 := by omega
          have both : mI M 121 (150 + 44 * a + 2 * m) = mI M' 121 (150 + 44 * a + 2 * m) ∧ mI M 121 (151 + 44 * a + 2 * m) = mI M' 121 (151 + 44 * a + 2 * m) := by
            cases e1 : (xW S a)[m]? with
            | none =>
              have z := List.getElem?_eq_none_iff.mp e1
              have z' : (xW S' a).length ≤ m := by rw [← eW]; exact z
              rw [(a4 m z m20).1, (a4 m z m20).2, (b4 m z' m20).1, (b4 m z' m20).2]
              exact ⟨rfl, rfl⟩
            | some q =>
              have e2 : (xW S' a)[m]? = some q := by rw [← eW]; exact e1
              rw [(a3 m q e1).1, (a3 m q e1).2, (b3 m q e2).1, (b3 m q e2).2]
              exact ⟨rfl, rfl⟩
          by_cases d3 : (r - 4) % 2 = 0
          · rw [show 146 + 44 * a + r = 150 + 44 * a + 2 * m by omega]; exact both.1
          · rw [show 146 + 44 * a + r = 151 + 44 * a + 2 * m by omega]; exact both.2
    · by_cases c3 : k = 832
      · rw [c3]
        exact l1.1.trans ((congrArg nI hL).trans l2.1.symm)
      · have hi : k - 833 < (fl S').length := by omega
        obtain ⟨q', e2⟩ : ∃ q', (fl S')[k - 833]? = some q' := ⟨_, List.getElem?_eq_getElem hi⟩
        obtain ⟨q, e1⟩ : ∃ q, (fl S)[k - 833]? = some q := ⟨_, List.getElem?_eq_getElem (by omega)⟩
        have f : some (lq q) = some (lq q') := by
          have := congrArg (fun l => l[k - 833]?) hm
          simp only [List.getElem?_map] at this
          rw [e1, e2] at this
          exact this
        have c1' := (l1.2.2 _ q e1).1
        have c2' := (l2.2.2 _ q' e2).1
        rw [show 18 + k = 851 + (0 + (k - 833)) by omega, c1', c2', enc_c (Option.some.inj f)]
end
/-! ===== the reference keeps a state, lays it, looks whether it is it ===== -/
theorem rs_11 {M : Mem} (h : RS M) : mR M 120 11 = 128 := h.r (by decide)
theorem rs_f11 {α : Type} {M : Mem} (h : RS M) (x : Option α) : chk (isO M 100 128) x = x := chk_t (h.io (by decide) (by decide) (by decide))
theorem rs_c11 {α : Type} {M : Mem} (h : RS M) {k : Nat} (hk : k < 393320) (x : Option α) : chk (inB (nI k) (mLn M 128)) x = x := by
  refine chk_t ?_
  rw [h.ln (c := 393320) (by decide) (by decide) (by decide)]; exact inB_n hk (by decide)
theorem c9833 (i k : Nat) : ((9833 : Int32) * nI i) + nI k = nI (9833 * i + k) := by
  rw [show (9833 : Int32) = nI 9833 from rfl, pk_mul, nI_add]
theorem c18 (k : Nat) : (18 : Int32) + nI k = nI (18 + k) := by rw [show (18 : Int32) = nI 18 from rfl, nI_add]
def KS (M : Mem) (i : Nat) (S : St) : Prop := ∃ Mx t pb pt, RV Mx false t S pb pt ∧ ∀ k, k < 833 + (fl S).length → mI M 128 (9833 * i + k) = mI Mx 121 (18 + k)
theorem KS.cg {M M' : Mem} {i : Nat} {S : St} (h : KS M i S) (e : ∀ b, 9833 * i ≤ b → b < 9833 * (i + 1) → mI M' 128 b = mI M 128 b) : KS M' i S := by
  obtain ⟨Mx, t, pb, pt, p, q⟩ := h
  have := p.2.2.2.2.1.2.1
  exact ⟨Mx, t, pb, pt, p, fun k hk => by rw [e _ (by omega) (by omega)]; exact q k hk⟩
section
variable {M : Mem} {t : Int32} {S : St} {pb pt : List Row4}
theorem RV.size (p : RV M false t S pb pt) : f_X10_sizeNow 120 M = some (nI (833 + (fl S).length)) := by
  rw [f_X10_sizeNow, rs_f p.1, rs_0 p.1, bnd_e, rs_fa p.1, show (850 : Int32) = nI 850 from rfl, rs_c p.1 (by decide), cl_n (by decide), p.2.2.2.2.1.1, show (833 : Int32) = nI 833 from rfl, nI_add]
end
theorem kp_l {i sz : Nat} (hi : i < 40) (hs : sz ≤ 9833) : ∀ (d k n : Nat) (M : Mem), k + d = sz → RS M → d + 1 ≤ n → ∃ M', f_X10_keepState_7 n 120 (nI i) (nI sz) (nI k) M = some M' ∧ M'.1 = M.1 ∧ (∀ o, o ≠ 128 → ∀ b, mI M' o b = mI M o b) ∧ (∀ b, mI M' 128 b = if 9833 * i + k ≤ b ∧ b < 9833 * i + sz then mI M 121 (18 + (b - 9833 * i)) else mI M 128 b) ∧ ∀ o b, mL M' o b = mL M o b := by
  intro d
  induction d with
  | zero =>
    intro k n M hk hS hn
    obtain ⟨n, rfl⟩ : ∃ m, n = m + 1 := ⟨n - 1, by omega⟩
    refine ⟨M, ?_, rfl, fun _ _ _ => rfl, fun b => by rw [if_neg (by omega)], fun _ _ => rfl⟩
    rw [f_X10_keepState_7, if_pos (nI_le (by omega) (by omega))]
  | succ d ih =>
    intro k n M hk hS hn
    obtain ⟨n, rfl⟩ : ∃ m, n = m + 1 := ⟨n - 1, by omega⟩
    obtain ⟨M', e, s, o1, o2, o3⟩ := ih (k + 1) n (sI M 128 (9833 * i + k) (mI M 121 (18 + k))) (by omega) (hS.e rfl) (by omega)
    refine ⟨M', ?_, s, fun o n b => by rw [o1 o n, mI_o _ _ _ _ _ n], fun b => ?_, fun o b => o3 o b⟩
    · rw [f_X10_keepState_7, if_neg (nI_ge (by omega) (by omega)), rs_f hS, rs_11 hS, bnd_e, rs_f11 hS, rs_0 hS, bnd_e, rs_fa hS, c18, c9833, rs_c hS (by omega), rs_c11 hS (by omega), nI_clamp (by omega), nI_clamp (by omega), bnd_e, nI_1, bnd_e, e]
    · rw [o2]
      by_cases c : 9833 * i + (k + 1) ≤ b ∧ b < 9833 * i + sz
      · rw [if_pos c, if_pos (by omega), mI_o _ _ _ _ _ (by decide)]
      · rw [if_neg c]
        by_cases c2 : b = 9833 * i + k
        · rw [c2, mI_s, if_pos (by omega), show 9833 * i + k - 9833 * i = k by omega]
        · rw [mI_n _ _ _ _ c2, if_neg (by omega)]
theorem is_l {i sz : Nat} {M : Mem} (hi : i < 40) (hs : sz ≤ 9833) (hS : RS M) : ∀ (d k n : Nat), k + d = sz → d + 1 ≤ n → ∃ b : Bool, f_X10_isState_7 M n 120 (nI i) (nI sz) (nI k) = some (if b then 1 else 0) ∧ (b = true ↔ ∀ j, k ≤ j → j < sz → mI M 128 (9833 * i + j) = mI M 121 (18 + j)) := by
  intro d
  induction d with
  | zero =>
    intro k n hk hn
    obtain ⟨n, rfl⟩ : ∃ m, n = m + 1 := ⟨n - 1, by omega⟩
    refine ⟨true, ?_, ⟨fun _ j a b => by omega, fun _ => rfl⟩⟩
    rw [f_X10_isState_7, if_pos (nI_le (by omega) (by omega)), if_pos rfl]
  | succ d ih =>
    intro k n hk hn
    obtain ⟨n, rfl⟩ : ∃ m, n = m + 1 := ⟨n - 1, by omega⟩
    obtain ⟨b, e, hb⟩ := ih (k + 1) n (by omega) (by omega)
    have hd : ∀ y : Option Int32, (if mI M 128 (9833 * i + k) = mI M 121 (18 + k) then f_X10_isState_7 M n 120 (nI i) (nI sz) (nI (k + 1)) else some 0) = y → f_X10_isState_7 M (n + 1) 120 (nI i) (nI sz) (nI k) = y := by
      intro y hy
      rw [f_X10_isState_7, if_neg (nI_ge (by omega) (by omega)), rs_f hS, rs_11 hS, bnd_e, rs_f11 hS, c9833, rs_c11 hS (by omega), rs_0 hS, bnd_e, rs_fa hS, c18, rs_c hS (by omega), nI_clamp (by omega), nI_clamp (by omega), nI_1, bnd_e]
      exact hy
    by_cases c : mI M 128 (9833 * i + k) = mI M 121 (18 + k)
    · refine ⟨b, hd _ (by rw [if_pos c, e]), ?_⟩
      rw [hb]
      constructor
      · intro h j a a'
        by_cases z : j = k
        · rw [z]; exact c
        · exact h j (by omega) a'
      · intro h j a a'
        exact h j (by omega) a'
    · refine ⟨false, hd _ (by rw [if_neg c]; rfl), ⟨fun z => absurd z (by decide), fun h => absurd (h k (Nat.le_refl _) (by omega)) c⟩⟩
theorem la_l {i sz : Nat} (hi : i < 40) (hs : sz ≤ 9833) : ∀ (d k n : Nat) (M : Mem), k + d = sz → RS M → d + 1 ≤ n → ∃ M', f_X10_laysState_24 n 120 (nI i) (nI sz) (nI k) M = some M' ∧ M'.1 = M.1 ∧ (∀ o, o ≠ 121 → ∀ b, mI M' o b = mI M o b) ∧ (∀ b, mI M' 121 b = if 18 + k ≤ b ∧ b < 18 + sz then mI M 128 (9833 * i + (b - 18)) else mI M 121 b) ∧ ∀ o b, mL M' o b = mL M o b := by
  intro d
  induction d with
  | zero =>
    intro k n M hk hS hn
    obtain ⟨n, rfl⟩ : ∃ m, n = m + 1 := ⟨n - 1, by omega⟩
    refine ⟨M, ?_, rfl, fun _ _ _ => rfl, fun b => by rw [if_neg (by omega)], fun _ _ => rfl⟩
    rw [f_X10_laysState_24, if_pos (nI_le (by omega) (by omega))]
  | succ d ih =>
    intro k n M hk hS hn
    obtain ⟨n, rfl⟩ : ∃ m, n = m + 1 := ⟨n - 1, by omega⟩
    obtain ⟨M', e, s, o1, o2, o3⟩ := ih (k + 1) n (sI M 121 (18 + k) (mI M 128 (9833 * i + k))) (by omega) (hS.e rfl) (by omega)
    refine ⟨M', ?_, s, fun o n b => by rw [o1 o n, mI_o _ _ _ _ _ n], fun b => ?_, fun o b => o3 o b⟩
    · rw [f_X10_laysState_24, if_neg (nI_ge (by omega) (by omega)), rs_f hS, rs_0 hS, bnd_e, rs_fa hS, rs_11 hS, bnd_e, rs_f11 hS, c18, c9833, rs_c11 hS (by omega), rs_c hS (by omega), nI_clamp (by omega), nI_clamp (by omega), bnd_e, nI_1, bnd_e, e]
    · rw [o2]
      by_cases c : 18 + (k + 1) ≤ b ∧ b < 18 + sz
      · rw [if_pos c, if_pos (by omega), mI_o _ _ _ _ _ (by decide)]
      · rw [if_neg c]
        by_cases c2 : b = 18 + k
        · rw [c2, mI_s, if_pos (by omega), show 18 + k - 18 = k by omega]
        · rw [mI_n _ _ _ _ c2, if_neg (by omega)]
/-- a state laid over another -/
def mix (Si S : St) : St := (fun k i => if k < 11 then xR Si k i else xR S k i, Si.2.1, Si.2.2.1, S.2.2.2)
theorem mix_SE {Si S : St} (h : Qk Si S) : SE (mix Si S) Si := by
  refine ⟨fun k i hk _ => ?_, fun _ _ => rfl, fun _ _ => rfl⟩
  show (if k < 11 then xR Si k i else xR S k i) = xR Si k i
  by_cases c : k < 11
  · rw [if_pos c]
  · rw [if_neg c]; exact h k (by omega) i
theorem mix_R {Si S : St} {k i : Nat} : xR (mix Si S) k i = if k < 11 then xR Si k i else xR S k i := rfl
theorem fl_mix {Si S : St} : fl (mix Si S) = fl Si := rfl
section
variable {M : Mem} {t : Int32} {S Si : St} {pb pt : List Row4}
theorem RV.kept (p : RV M false t S pb pt) {i n : Nat} (hi : i < 40) (hn : 9900 ≤ n) : ∃ M', f_X10_keepState n 120 (nI i) M = some M' ∧ RV M' false t S pb pt ∧ KS M' i S ∧ M'.1 = M.1 ∧ (∀ o, o ≠ 128 → ∀ b, mI M' o b = mI M o b) ∧ (∀ j, j ≠ i → ∀ b, 9833 * j ≤ b → b < 9833 * (j + 1) → mI M' 128 b = mI M 128 b) ∧ ∀ o b, mL M' o b = mL M o b := by
  have l9 := p.2.2.2.2.1.2.1
  obtain ⟨M', e, s, o1, o2, o3⟩ := kp_l (sz := 833 + (fl S).length) hi (by omega) (833 + (fl S).length) 0 n M (by omega) p.1 (by omega)
  refine ⟨M', ?_, p.cg s (o1 120 (by decide) 3) (o1 121 (by decide)) (o1 123 (by decide)), ⟨M, t, pb, pt, p, fun k hk => ?_⟩, s, o1, fun j hj b h1 h2 => ?_, o3⟩
  · rw [f_X10_keepState, rs_f p.1, p.size, obd_s]; exact e
  · rw [o2, if_pos (by omega), show 9833 * i + k - 9833 * i = k by omega]
  · rw [o2, if_neg (by
      rcases Nat.lt_or_gt_of_ne hj with z | z
      · have : 9833 * (j + 1) ≤ 9833 * i := Nat.mul_le_mul_left _ z
        omega
      · have : 9833 * (i + 1) ≤ 9833 * j := Nat.mul_le_mul_left _ z
        omega)]
theorem RV.isS (p : RV M false t S pb pt) {N A A' : Nat} (h16 : N ≤ 16) (hI : Inv N A S) (hI' : Inv N A' Si) (hA : A < 1048576) (hA' : A' < 1048576) (hq : Qk Si S) {i n : Nat} (hk : KS M i Si) (hi : i < 40) (hn : 9900 ≤ n) : ∃ b : Bool, f_X10_isState n 120 (nI i) M = some (if b then 1 else 0) ∧ (b = true ↔ SE Si S) := by
  have l9 := p.2.2.2.2.1.2.1
  obtain ⟨b, e, hb⟩ := is_l (M := M) (sz := 833 + (fl S).length) hi (by omega) p.1 (833 + (fl S).length) 0 n (by omega) (by omega)
  refine ⟨b, by rw [f_X10_isState, rs_f p.1, p.size, obd_s]; exact e, ?_⟩
  rw [hb]
  obtain ⟨Mx, tx, px, qx, r, hr⟩ := hk
  constructor
  · intro h
    have hL : (fl Si).length = (fl S).length := by
      have z := h 832 (by omega) (by omega)
      rw [hr 832 (by omega)] at z
      have l1 := r.2.2.2.2.1
      exact (nI_eq (by have := l1.2.1; omega) (by omega)).mp (l1.1.symm.trans (z.trans p.2.2.2.2.1.1))
    exact SE_of_cells h16 r p hI' hI hA' hA hq (fun k hk => by rw [← hr k (by omega)]; exact h k (by omega) hk)
  · intro h j _ hj
    have hL := len_lq (fl_lk.mp h.2.2)
    rw [hr j (by omega)]
    exact cells_of_SE r p h j hj
theorem RV.lays (p : RV M false t S pb pt) {i n : Nat} (hk : KS M i Si) (hi : i < 40) (hn : 9900 ≤ n) : ∃ M', f_X10_laysState n 120 (nI i) M = some M' ∧ RV M' false t (mix Si S) pb pt ∧ M'.1 = M.1 ∧ (∀ o, o ≠ 121 → ∀ b, mI M' o b = mI M o b) ∧ ∀ o b, mL M' o b = mL M o b := by
  obtain ⟨Mx, tx, px, qx, r, hr⟩ := hk
  have lx := r.2.2.2.2.1
  have e832 : mI M 128 (9833 * i + 832) = nI (fl Si).length := by
    rw [hr 832 (by omega)]; exact lx.1
  obtain ⟨M', e, s, o1, o2, o3⟩ := la_l (sz := 833 + (fl Si).length) hi (by have := lx.2.1; omega) (833 + (fl Si).length) 0 n M (by omega) p.1 (by have := lx.2.1; omega)
  have cell : ∀ b, 18 ≤ b → b < 851 + (fl Si).length → mI M' 121 b = mI Mx 121 b := fun b h1 h2 => by
    rw [o2, if_pos (by omega), hr _ (by omega), show 18 + (b - 18) = b by omega]
  have far : ∀ b, b < 18 ∨ 9851 ≤ b → mI M' 121 b = mI M 121 b := fun b h => by
    rw [o2, if_neg (by have := lx.2.1; omega)]
  refine ⟨M', ?_, ⟨p.1.e s, by rw [o1 120 (by decide)]; exact p.2.1, fun k j hv => ?_, ?_, ⟨?_, lx.2.1, fun j q hj => ⟨?_, fun z => by cases z⟩⟩, ?_, ?_⟩, s, o1, o3⟩
  · have c : (((9833 : Int32) * nI i) + (850 : Int32)) - (18 : Int32) = nI (9833 * i + 832) := by
      rw [show (9833 : Int32) = nI 9833 from rfl, pk_mul, show (850 : Int32) = nI 850 from rfl, nI_add, show (18 : Int32) = nI 18 from rfl, nI_sb (by omega)]
      congr 1
    rw [f_X10_laysState, rs_f p.1, rs_11 p.1, bnd_e, rs_f11 p.1, c, rs_c11 p.1 (by omega), nI_clamp (by omega), e832, show (833 : Int32) = nI 833 from rfl, nI_add, bnd_e]
    exact e
  · have a := ad_cases hv
    rw [mix_R]
    by_cases c : k < 11
    · rw [if_pos c, cell _ (by omega) (by omega)]
      exact r.rg hv
    · rw [if_neg c, far _ (by omega)]
      exact p.rg hv
  · exact (r.2.2.2.1).cg (fun b h1 h2 => cell b (by omega) (by omega)) rfl
  · rw [cell 850 (by decide) (by omega)]
    exact lx.1
  · have hj' : j < (fl Si).length := by
      have hj2 : (fl Si)[j]? = some q := hj
      rcases Nat.lt_or_ge j (fl Si).length with z | z
      · exact z
      · rw [List.getElem?_eq_none z] at hj2; cases hj2
    rw [cell _ (by omega) (by omega)]
    exact (lx.2.2 j q hj).1
  · exact p.2.2.2.2.2.1.cg (far _ (by omega)) (fun b h1 h2 => far b (by omega))
  · exact p.2.2.2.2.2.2.cg (far _ (by omega)) (fun b h1 h2 => far b (by omega))
end
/-! ===== the reference meets a state ===== -/
theorem rs_12 {M : Mem} (h : RS M) : mR M 120 12 = 129 := h.r (by decide)
theorem rs_f12 {α : Type} {M : Mem} (h : RS M) (x : Option α) : chk (isO M 100 129) x = x := chk_t (h.io (by decide) (by decide) (by decide))
theorem rs_c12 {α : Type} {M : Mem} (h : RS M) {k : Nat} (hk : k < 40) (x : Option α) : chk (inB (nI k) (mLn M 129)) x = x := by
  refine chk_t ?_
  rw [h.ln (c := 40) (by decide) (by decide) (by decide)]; exact inB_n hk (by decide)
theorem Qk.ss {S0 S S' : St} (h : Qk S0 S) (h' : Qk S0 S') : Qk S S' := fun k hk i => (h' k hk i).trans (h k hk i).symm
theorem GS.tmx {N A P d d' : Nat} {S0 Si S : St} (h16 : N ≤ 16) (h : GS N A P S0 Si d) (h' : GS N A P S0 S d') : GS N A P S0 (mix Si S) d := by
  obtain ⟨a1, a2, a3, a4⟩ := h
  have se : SE Si (mix Si S) := (mix_SE (a3.ss h'.2.2.1)).sy
  refine ⟨a1.reg ⟨rfl, fun k hk _ i => by rw [mix_R, if_pos hk]⟩ rfl, ⟨se.tix h16 a2.1, a2.2.1.k (fun k hk i => ?_), by rw [← se.tPhS]; exact a2.2.2⟩, fun k hk i => ?_, fun k hk i hi => ?_⟩
  · rw [mix_R]
    by_cases c : k < 11
    · rw [if_pos c]
    · rw [if_neg c]; exact a3.ss h'.2.2.1 k hk i
  · rw [mix_R]
    by_cases c : k < 11
    · rw [if_pos c]; exact a3 k hk i
    · rw [if_neg c]; exact h'.2.2.1 k hk i
  · rw [mix_R, if_pos hk]; exact a4 k hk i hi
/-- the states met, as the reference holds them -/
def RQ (N A P : Nat) (S0 : St) (M : Mem) (q : Bq) : Prop := mI M 120 13 = nI q.1.length ∧ mI M 120 14 = (if q.2 then 1 else 0) ∧ ∀ (i : Nat) (p : St × Nat), q.1[i]? = some p → (∃ Si, SE Si p.1 ∧ KS M i Si ∧ GS N A P S0 Si p.2) ∧ mI M 129 i = nI p.2
def FrR (M M' : Mem) : Prop := M'.1 = M.1 ∧ (∀ o, o ≠ 120 → o ≠ 128 → o ≠ 129 → ∀ b, mI M' o b = mI M o b) ∧ (∀ b, b ≠ 13 → b ≠ 14 → mI M' 120 b = mI M 120 b) ∧ ∀ o b, mL M' o b = mL M o b
theorem FrR.rf (M : Mem) : FrR M M := ⟨rfl, fun _ _ _ _ _ => rfl, fun _ _ _ => rfl, fun _ _ => rfl⟩
set_option maxHeartbeats 1000000 in
theorem rmeet_l {N A P most dd : Nat} {S0 S Sm : St} {M : Mem} {t : Int32} {pb pt : List Row4} {q : Bq} (h16 : N ≤ 16) (hA : A + 50 < 1048576) (h40 : most ≤ 40) (p : RV M false t S pb pt) (g : GS N A P S0 S dd) (hdd : dd ≤ 40) (hm : SE S Sm) (hq : RQ N A P S0 M q) (gq : GQ N A P most S0 q) : ∀ (d i n : Nat), i + d = q.1.length → d + 9910 ≤ n → (∀ j pj, j < i → q.1[j]? = some pj → ¬ SE pj.1 Sm) → ∃ M', f_X10_meet_2 n 120 (nI most) (nI dd) (nI i) M = some M' ∧ RV M' false t S pb pt ∧ RQ N A P S0 M' (met1 most q Sm dd) ∧ FrR M M' := by
  intro d
  obtain ⟨q13, q14, qs⟩ := id hq
  have hl := gq.1
  induction d with
  | zero =>
    intro i n hi hn hno
    obtain ⟨n, rfl⟩ : ∃ m, n = m + 1 := ⟨n - 1, by omega⟩
    have hk : knw q.1 Sm = false := by
      cases e : knw q.1 Sm with
      | false => rfl
      | true =>
        obtain ⟨pj, h1, h2⟩ := knw_t.mp e
        obtain ⟨j, hj⟩ := List.getElem?_of_mem h1
        have : j < q.1.length := by
          rcases Nat.lt_or_ge j q.1.length with z | z
          · exact z
          · rw [List.getElem?_eq_none z] at hj; cases hj
        exact absurd h2 (hno j pj (by omega) hj)
    have em : met1 most q Sm dd = if q.1.length < most then (q.1 ++ [(Sm, dd)], q.2) else (q.1, true) := by
      unfold met1
      rw [if_neg (by rw [hk]; decide)]
    rw [em]
    have head : ∀ y : Option Mem, (if nI q.1.length = nI most then (bnd (sI M 120 14 (1 : Int32)) fun M21 => some M21) else (obd (f_X10_keepState n 120 (nI q.1.length) M) fun M7 => chk (isO M7 10 120) <| bnd (mR M7 120 12) fun o9 => chk (isO M7 100 o9) <| chk (inB (mI M7 120 13) (mLn M7 o9)) <| bnd (sI M7 o9 ((mI M7 120 13)).toNatClampNeg (nI dd)) fun M13 => bnd (sI M13 120 13 ((mI M13 120 13) + (1 : Int32))) fun M17 => some M17)) = y → f_X10_meet_2 (n + 1) 120 (nI most) (nI dd) (nI i) M = y := by
      intro y hy
      rw [f_X10_meet_2, rs_f p.1, q13, if_pos (nI_le (by omega) (by omega)), chk_t (Or.inr rfl)]
      exact hy
    by_cases c : q.1.length < most
    · rw [if_pos c]
      obtain ⟨M1, e1, p1, k1, s1, o1, f1, L1⟩ := p.kept (i := q.1.length) (n := n) (by omega) (by omega)
      have m13 : mI M1 120 13 = nI q.1.length := (o1 120 (by decide) 13).trans q13
      generalize hMa : sI M1 129 q.1.length (nI dd) = Ma
      generalize hMb : sI Ma 120 13 (nI (q.1.length + 1)) = Mb
      have sb : Mb.1 = M.1 := by rw [← hMb, ← hMa]; exact s1
      have oM : ∀ o, o ≠ 120 → o ≠ 128 → o ≠ 129 → ∀ b, mI Mb o b = mI M o b := fun o n0 n8 n9 b => by
        rw [← hMb, mI_o _ _ _ _ _ n0, ← hMa, mI_o _ _ _ _ _ n9, o1 o n8]
      have o120 : ∀ b, b ≠ 13 → mI Mb 120 b = mI M 120 b := fun b n => by
        rw [← hMb, mI_n _ _ _ _ n, ← hMa, mI_o _ _ _ _ _ (by decide), o1 120 (by decide)]
      have o128 : ∀ b, mI Mb 128 b = mI M1 128 b := fun b => by
        rw [← hMb, mI_o _ _ _ _ _ (by decide), ← hMa, mI_o _ _ _ _ _ (by decide)]
      have pb' : RV Mb false t S pb pt := p.cg sb (o120 3 (by decide)) (oM 121 (by decide) (by decide) (by decide)) (oM 123 (by decide) (by decide) (by decide))
      refine ⟨Mb, head _ ?_, pb', ⟨?_, ?_, fun j pj hj => ?_⟩, sb, oM, fun b n3 _ => o120 b n3, fun o b => by rw [← hMb, ← hMa]; exact L1 o b⟩
      · rw [if_neg (nI_ne (by omega) (by omega) (by omega)), e1, obd_s, rs_f p1.1, rs_12 p1.1, bnd_e, rs_f12 p1.1, m13, rs_c12 p1.1 (by omega), sI_c (by omega), hMa, bnd_e, show mI Ma 120 13 = nI q.1.length by rw [← hMa, mI_o _ _ _ _ _ (by decide)]; exact m13, nI_1, hMb, bnd_e]
      · rw [← hMb, mI_s, List.length_append, List.length_singleton]
      · rw [o120 14 (by decide)]; exact q14
      · by_cases k : j < q.1.length
        · have hj' : q.1[j]? = some pj := by rwa [List.getElem?_append_left k] at hj
          obtain ⟨⟨Si, a1, a2, a3⟩, a4⟩ := qs j pj hj'
          refine ⟨⟨Si, a1, a2.cg (fun b z1 z2 => by rw [o128]; exact f1 j (by omega) b z1 z2), a3⟩, ?_⟩
          rw [← hMb, mI_o _ _ _ _ _ (by decide), ← hMa, mI_n _ _ _ _ (by omega), o1 129 (by decide)]
          exact a4
        · have hj2 := hj
          rw [List.getElem?_append_right (by omega)] at hj
          have e0 : j - q.1.length = 0 := by
            cases e : j - q.1.length with
            | zero => rfl
            | succ n => rw [e] at hj; simp at hj
          rw [e0] at hj
          have ep : pj = (Sm, dd) := by simpa using hj.symm
          have ej : j = q.1.length := by omega
          rw [ep, ej]
          refine ⟨⟨S, hm, k1.cg (fun b _ _ => o128 b), g⟩, ?_⟩
          rw [← hMb, mI_o _ _ _ _ _ (by decide), ← hMa, mI_s]
    · rw [if_neg c]
      have el : q.1.length = most := by omega
      refine ⟨sI M 120 14 1, head _ ?_, p.cg rfl (by rw [mI_n _ _ _ _ (by decide)]) (fun b => by rw [mI_o _ _ _ _ _ (by decide)]) (fun b => by rw [mI_o _ _ _ _ _ (by decide)]), ⟨by rw [mI_n _ _ _ _ (by decide)]; exact q13, by rw [mI_s]; rfl, fun j pj hj => ?_⟩, rfl, fun o n _ _ b => mI_o _ _ _ _ _ n, fun b _ n => mI_n _ _ _ _ n, fun _ _ => rfl⟩
      · rw [if_pos (by rw [el]), bnd_e]
      · obtain ⟨⟨Si, a1, a2, a3⟩, a4⟩ := qs j pj hj
        exact ⟨⟨Si, a1, a2.cg (fun b _ _ => mI_o _ _ _ _ _ (by decide)), a3⟩, by rw [mI_o _ _ _ _ _ (by decide)]; exact a4⟩
  | succ d ih =>
    intro i n hi hn hno
    obtain ⟨n, rfl⟩ : ∃ m, n = m + 1 := ⟨n - 1, by omega⟩
    obtain ⟨pi, hpi⟩ : ∃ pi, q.1[i]? = some pi := ⟨_, List.getElem?_eq_getElem (by omega)⟩
    obtain ⟨⟨Si, a1, a2, a3⟩, a4⟩ := qs i pi hpi
    have dp := (gq.2.2 i pi hpi).1
    obtain ⟨b, eb, hb⟩ := p.isS (n := n) h16 g.1 a3.1 (by omega) (by omega) (a3.2.2.1.ss g.2.2.1) a2 (by omega) (by omega)
    have hb' : b = true ↔ SE pi.1 Sm := hb.trans ⟨fun z => (a1.sy.tr z).tr hm, fun z => (a1.tr z).tr hm.sy⟩
    have step : f_X10_meet_2 (n + 1) 120 (nI most) (nI dd) (nI i) M = if (if b then (1 : Int32) else 0) = 0 then f_X10_meet_2 n 120 (nI most) (nI dd) (nI (i + 1)) M else some M := by
      rw [f_X10_meet_2, rs_f p.1, q13, if_neg (nI_ge (by omega) (by omega)), eb, obd_s, nI_1, bnd_e]
    cases b with
    | true =>
      rw [if_neg (by decide)] at step
      have hk : knw q.1 Sm = true := knw_t.mpr ⟨pi, List.mem_of_getElem? hpi, hb'.mp rfl⟩
      have em : met1 most q Sm dd = q := by unfold met1; rw [if_pos hk]
      rw [em]
      exact ⟨M, step, p, hq, FrR.rf M⟩
    | false =>
      rw [if_pos (by decide)] at step
      obtain ⟨M', e', r⟩ := ih (i + 1) n (by omega) (by omega) (fun j pj hj hpj => by
        by_cases z : j = i
        · rw [z, hpi] at hpj
          have : pi = pj := Option.some.inj hpj
          rw [← this]
          intro y
          exact absurd (hb'.mpr y) (by decide)
        · exact hno j pj (by omega) hpj)
      exact ⟨M', step.trans e', r⟩
theorem RV.meet {N A P most dd n : Nat} {S0 S Sm : St} {M : Mem} {t : Int32} {pb pt : List Row4} {q : Bq} (p : RV M false t S pb pt) (h16 : N ≤ 16) (hA : A + 50 < 1048576) (h40 : most ≤ 40) (g : GS N A P S0 S dd) (hdd : dd ≤ 40) (hm : SE S Sm) (hq : RQ N A P S0 M q) (gq : GQ N A P most S0 q) (hn : 10000 ≤ n) : ∃ M', f_X10_meet n 120 (nI most) (nI dd) M = some M' ∧ RV M' false t S pb pt ∧ RQ N A P S0 M' (met1 most q Sm dd) ∧ FrR M M' := by
  have := rmeet_l h16 hA h40 p g hdd hm hq gq q.1.length 0 n (by omega) (by have := gq.1; omega) (fun j pj hj => by omega)
  rw [f_X10_meet]
  exact this
/-! ===== the reference looks at a state, and moves on from it ===== -/
def sTwo (N : Nat) (S : St) : Bool := !decide (pcI N S ≤ 1)
def sStk (N : Nat) (ask : Int32) (sn : Nat → Int32) (S : St) : Bool := (mvl N S ask sn).isEmpty && (List.range N).any fun v => decide (xR S 0 v = 1)
def cTwo (N : Nat) (l : List (St × Nat)) : Nat := (l.filter fun p => sTwo N p.1).length
def cStk (N : Nat) (ask : Int32) (sn : Nat → Int32) (l : List (St × Nat)) : Nat := (l.filter fun p => sStk N ask sn p.1).length
def cMx (l : List (St × Nat)) : Nat := l.foldl (fun m p => max m (fl p.1).length) 0
def cSon (v : Nat) (l : List (St × Nat)) : Int32 := l.foldl (fun x p => if x = -1 then (if xR p.1 0 v = 2 then nI p.2 else -1) else x) (-1)
def nodI : Option Nat → Int32
  | none => -1
  | some v => nI v
def cNod (nd : Option Nat) (l : List (St × Nat)) : Int32 := match nd with
  | none => -1
  | some v => cSon v l
theorem pcI_s {N : Nat} {S S' : St} (h : ∀ w, w < N → xR S' 0 w = xR S 0 w) : pcI N S' = pcI N S := by
  unfold pcI
  congr 1
  apply List.filter_congr
  intro w _
  by_cases c : w < N
  · rw [h w c]
  · simp [c]
section
variable {S S' : St}
theorem SE.two (h : SE S S') {N : Nat} (h16 : N ≤ 16) : sTwo N S = sTwo N S' := by
  unfold sTwo
  rw [pcI_s (S := S') (S' := S) (fun w hw => h.1 0 w (by omega) (by omega))]
theorem SE.ask0 (h : SE S S') {N : Nat} (h16 : N ≤ 16) : ((List.range N).any fun v => decide (xR S 0 v = 1)) = (List.range N).any fun v => decide (xR S' 0 v = 1) := by
  rw [Bool.eq_iff_iff, List.any_eq_true, List.any_eq_true]
  constructor
  · rintro ⟨v, hv, z⟩
    exact ⟨v, hv, by rw [← h.1 0 v (by omega) (by have := List.mem_range.mp hv; omega)]; exact z⟩
  · rintro ⟨v, hv, z⟩
    exact ⟨v, hv, by rw [h.1 0 v (by omega) (by have := List.mem_range.mp hv; omega)]; exact z⟩
end
theorem ct_s {l : List (St × Nat)} {p : St × Nat} (f : St × Nat → Bool) : ((l ++ [p]).filter f).length = (l.filter f).length + (if f p then 1 else 0) := by
  rw [List.filter_append, List.length_append]
  congr 1
  cases e : f p
  · rw [List.filter_cons_of_neg (by rw [e]; decide)]; rfl
  · rw [List.filter_cons_of_pos e]; rfl
theorem cMx_s (l : List (St × Nat)) (p : St × Nat) : cMx (l ++ [p]) = max (cMx l) (fl p.1).length := by
  unfold cMx
  rw [List.foldl_append]
  rfl
theorem cSon_s (v : Nat) (l : List (St × Nat)) (p : St × Nat) : cSon v (l ++ [p]) = if cSon v l = -1 then (if xR p.1 0 v = 2 then nI p.2 else -1) else cSon v l := by
  unfold cSon
  rw [List.foldl_append]
  rfl
theorem take_s {l : List (St × Nat)} {i : Nat} {p : St × Nat} (h : l[i]? = some p) : l.take (i + 1) = l.take i ++ [p] := by
  rw [List.take_succ, h]
  rfl
/-- what the reference has counted of the first i states -/
def RC (N : Nat) (ask : Int32) (sn : Nat → Int32) (nd : Option Nat) (M : Mem) (l : List (St × Nat)) : Prop := mI M 120 15 = nI (cTwo N l) ∧ mI M 120 16 = nI (cStk N ask sn l) ∧ mI M 120 17 = nI (cMx l) ∧ mI M 120 18 = cNod nd l
theorem RC.cg {N : Nat} {ask : Int32} {sn : Nat → Int32} {nd : Option Nat} {M M' : Mem} {l : List (St × Nat)} (h : RC N ask sn nd M l) (e : ∀ b, 15 ≤ b → b ≤ 18 → mI M' 120 b = mI M 120 b) : RC N ask sn nd M' l := by
  obtain ⟨a, b, c, d⟩ := h
  exact ⟨by rw [e 15 (by decide) (by decide)]; exact a, by rw [e 16 (by decide) (by decide)]; exact b, by rw [e 17 (by decide) (by decide)]; exact c, by rw [e 18 (by decide) (by decide)]; exact d⟩
theorem RQ.cg {N A P : Nat} {S0 : St} {M M' : Mem} {q : Bq} (h : RQ N A P S0 M q) (e13 : mI M' 120 13 = mI M 120 13) (e14 : mI M' 120 14 = mI M 120 14) (e8 : ∀ b, mI M' 128 b = mI M 128 b) (e9 : ∀ b, mI M' 129 b = mI M 129 b) : RQ N A P S0 M' q := by
  obtain ⟨a, b, c⟩ := h
  refine ⟨by rw [e13]; exact a, by rw [e14]; exact b, fun i p hp => ?_⟩
  obtain ⟨⟨Si, z1, z2, z3⟩, z4⟩ := c i p hp
  exact ⟨⟨Si, z1, z2.cg (fun b _ _ => e8 b), z3⟩, by rw [e9]; exact z4⟩
/-- the reference's numbers and the row of moves alone have changed -/
def FrK (M M' : Mem) : Prop := M'.1 = M.1 ∧ (∀ o, ¬ (120 ≤ o ∧ o ≤ 124) → ∀ b, mI M' o b = mI M o b) ∧ (∀ b, b ≠ 6 → b < 15 ∨ 18 < b → mI M' 120 b = mI M 120 b) ∧ ∀ o b, mL M' o b = mL M o b
theorem FrK.ofM {M M' : Mem} (f : FrM M M') : FrK M M' := ⟨f.1, f.2.1, fun b h _ => f.2.2.1 b h, f.2.2.2⟩
theorem FrK.tr {M M' M'' : Mem} (h : FrK M M') (h' : FrK M' M'') : FrK M M'' :=
  ⟨h'.1.trans h.1, fun o q k => (h'.2.1 o q k).trans (h.2.1 o q k), fun k a b => (h'.2.2.1 k a b).trans (h.2.2.1 k a b), fun o k => (h'.2.2.2 o k).trans (h.2.2.2 o k)⟩
theorem FrK.sI {M : Mem} {k : Nat} {x : Int32} (h : 15 ≤ k ∧ k ≤ 18) : FrK M (sI M 120 k x) :=
  ⟨rfl, fun o n b => mI_o _ _ _ _ _ (by omega), fun b _ h2 => mI_n _ _ _ _ (by omega), fun _ _ => rfl⟩
theorem FrK.rf (M : Mem) : FrK M M := ⟨rfl, fun _ _ _ => rfl, fun _ _ _ => rfl, fun _ _ => rfl⟩
theorem RV.fk {M : Mem} {t : Int32} {S : St} {pb pt : List Row4} (p : RV M false t S pb pt) {k : Nat} {x : Int32} (h : 15 ≤ k ∧ k ≤ 18) : RV (sI M 120 k x) false t S pb pt :=
  p.cg rfl (mI_n _ _ _ _ (by omega)) (fun b => mI_o _ _ _ _ _ (by decide)) (fun b => mI_o _ _ _ _ _ (by decide))
theorem RV.mvN {M : Mem} {t : Int32} {S : St} {pb pt : List Row4} (p : RV M false t S pb pt) {N n : Nat} (hN : xR S 20 0 = nI N) (h16 : N ≤ 16) (ht : xR S 20 1 = 1 → N % 2 = 1) {ask : Int32} {sn : Nat → Int32} (hask : mI M 120 7 = ask) (hsn : ∀ v, v < N → mI M 125 v = sn v) (hn : 9200 ≤ n) : ∃ M', f_X10_movesNow n 120 M = some (nI (mvl N S ask sn).length, M') ∧ RV M' false t S pb pt ∧ FrM M M' := by
  obtain ⟨M1, e1, p1, m1, f1⟩ := p.lay hN h16 ht hask hsn hn
  refine ⟨M1, ?_, p1, f1⟩
  rw [f_X10_movesNow, rs_f p.1, e1, obd_s, rs_f p1.1, m1.1, mvc_e h16, List.length_map]
set_option maxHeartbeats 1000000 in
theorem RV.look {N n i d : Nat} {M : Mem} {t : Int32} {S : St} {pb pt : List Row4} {q : Bq} {p0 : St × Nat} {ask : Int32} {sn : Nat → Int32} {nd : Option Nat} (p : RV M false t S pb pt) (h2N : 2 ≤ N) (hN : xR S 20 0 = nI N) (h16 : N ≤ 16) (ht : xR S 20 1 = 1 → N % 2 = 1) (hask : mI M 120 7 = ask) (hsn : ∀ v, v < N → mI M 125 v = sn v) (hS : SE S p0.1) (hp : q.1[i]? = some p0) (hi : i < 40) (hd : mI M 129 i = nI p0.2) (hnd : ∀ v, nd = some v → v < N) (hc : RC N ask sn nd M (q.1.take i)) (hc32 : cTwo N (q.1.take i) < 100 ∧ cStk N ask sn (q.1.take i) < 100) (hmx : cMx (q.1.take i) ≤ 9000) (hn : 9300 ≤ n) : ∃ M', f_X10_look n 120 (nodI nd) (nI i) M = some M' ∧ RV M' false t S pb pt ∧ RC N ask sn nd M' (q.1.take (i + 1)) ∧ FrK M M' := by
  obtain ⟨c15, c16, c17, c18⟩ := hc
  rw [take_s hp]
  obtain ⟨y, ey, hy⟩ := p.insd hN h16 (n := n) (by omega)
  have em := f_many (x := y) (fun j hj1 hj2 => by rw [hy j hj2]; simp; omega) (n := n) (by omega) M
  have hpc := pc_mask hy
  have p32 := pc_le y
  have lenS : (fl S).length = (fl p0.1).length := len_lq (fl_lk.mp hS.2.2)
  -- the last two
  have e45 : ∀ {M : Mem}, RV M false t S pb pt → mI M 129 i = nI p0.2 → mI M 120 17 = nI (cMx (q.1.take i)) → mI M 120 18 = cNod nd (q.1.take i) → ∃ M', f_X10_look_45 n 120 (nodI nd) (nI i) M = some M' ∧ RV M' false t S pb pt ∧ mI M' 120 17 = nI (cMx (q.1.take i ++ [p0])) ∧ mI M' 120 18 = cNod nd (q.1.take i ++ [p0]) ∧ mI M' 120 15 = mI M 120 15 ∧ mI M' 120 16 = mI M 120 16 ∧ FrK M M' := by
    intro M p hd c17 c18
    have e72 : ∀ {M : Mem}, RV M false t S pb pt → mI M 129 i = nI p0.2 → mI M 120 18 = cNod nd (q.1.take i) → ∃ M', f_X10_look_72 n 120 (nodI nd) (nI i) M = some M' ∧ RV M' false t S pb pt ∧ mI M' 120 18 = cNod nd (q.1.take i ++ [p0]) ∧ (∀ b, b ≠ 18 → mI M' 120 b = mI M 120 b) ∧ FrK M M' := by
      intro M p hd c18
      cases nd with
      | none =>
        refine ⟨M, ?_, p, c18, fun _ _ => rfl, FrK.rf M⟩
        rw [f_X10_look_72, if_pos (show nodI none = (-1 : Int32) from rfl)]
      | some v =>
        have hv := hnd v rfl
        have e0 : f_X10_get 120 (nI v) (0 : Int32) M = some (xR p0.1 0 v) := by rw [p.get0 (by omega), hS.1 0 v (by omega) (by omega)]
        have c18' : mI M 120 18 = cSon v (q.1.take i) := c18
        have s := cSon_s v (q.1.take i) p0
        have hne : ¬ nodI (some v) = (-1 : Int32) := nI_m1 (by omega)
        by_cases d1 : cSon v (q.1.take i) = -1
        · rw [if_pos d1] at s
          by_cases d2 : xR p0.1 0 v = 2
          · rw [if_pos d2] at s
            refine ⟨sI M 120 18 (nI p0.2), ?_, p.fk (by decide), by rw [mI_s]; exact s.symm, fun b n => mI_n _ _ _ _ n, FrK.sI (by decide)⟩
            rw [f_X10_look_72, if_neg hne, rs_f p.1, c18', if_pos d1, show f_X10_get 120 (nodI (some v)) 0 M = _ from e0, obd_s, if_pos d2, rs_12 p.1, bnd_e, rs_f12 p.1, rs_c12 p.1 hi, mI_c (by omega), hd, bnd_e]
          · rw [if_neg d2] at s
            refine ⟨M, ?_, p, by rw [c18']; exact d1.trans s.symm, fun _ _ => rfl, FrK.rf M⟩
            rw [f_X10_look_72, if_neg hne, rs_f p.1, c18', if_pos d1, show f_X10_get 120 (nodI (some v)) 0 M = _ from e0, obd_s, if_neg d2]
        · rw [if_neg d1] at s
          refine ⟨M, ?_, p, by rw [c18']; exact s.symm, fun _ _ => rfl, FrK.rf M⟩
          rw [f_X10_look_72, if_neg hne, rs_f p.1, c18', if_neg d1]
    have l850 := p.2.2.2.2.1
    have g850 : mI M 121 850 = nI (fl p0.1).length := by rw [← lenS]; exact l850.1
    have g850' : mI M 121 (nI 850).toNatClampNeg = nI (fl p0.1).length := by rw [mI_c (by decide)]; exact g850
    have l9 : (fl p0.1).length ≤ 9000 := by rw [← lenS]; exact l850.2.1
    by_cases c : (fl p0.1).length ≤ cMx (q.1.take i)
    · obtain ⟨M', e', p', h18, ho, f'⟩ := e72 p hd c18
      refine ⟨M', ?_, p', by rw [ho 17 (by decide), c17, cMx_s, Nat.max_eq_left c], h18, ho 15 (by decide), ho 16 (by decide), f'⟩
      rw [f_X10_look_45, rs_f p.1, rs_0 p.1, bnd_e, rs_fa p.1, show (850 : Int32) = nI 850 from rfl, rs_c p.1 (by decide), g850', c17, if_pos (nI_le c (by omega)), e']
    · have pk := p.fk (k := 17) (x := nI (fl p0.1).length) (by decide)
      obtain ⟨M', e', p', h18, ho, f'⟩ := e72 pk (by rw [mI_o _ _ _ _ _ (by decide)]; exact hd) (by rw [mI_n _ _ _ _ (by decide)]; exact c18)
      refine ⟨M', ?_, p', by rw [ho 17 (by decide), mI_s, cMx_s, Nat.max_eq_right (by omega)], h18, by rw [ho 15 (by decide), mI_n _ _ _ _ (by decide)], by rw [ho 16 (by decide), mI_n _ _ _ _ (by decide)], (FrK.sI (by decide)).tr f'⟩
      rw [f_X10_look_45, rs_f p.1, rs_0 p.1, bnd_e, rs_fa p.1, show (850 : Int32) = nI 850 from rfl, rs_c p.1 (by decide), g850', c17, if_neg (nI_ge (by omega) (by omega)), bnd_e, rs_fa p.1, rs_c p.1 (by decide), g850', bnd_e, e']
  have e21 : ∀ {M : Mem}, RV M false t S pb pt → mI M 120 7 = ask → (∀ v, v < N → mI M 125 v = sn v) → mI M 129 i = nI p0.2 → mI M 120 16 = nI (cStk N ask sn (q.1.take i)) → mI M 120 17 = nI (cMx (q.1.take i)) → mI M 120 18 = cNod nd (q.1.take i) → ∃ M', f_X10_look_21 n 120 (nodI nd) (nI i) M = some M' ∧ RV M' false t S pb pt ∧ mI M' 120 16 = nI (cStk N ask sn (q.1.take i ++ [p0])) ∧ mI M' 120 17 = nI (cMx (q.1.take i ++ [p0])) ∧ mI M' 120 18 = cNod nd (q.1.take i ++ [p0]) ∧ mI M' 120 15 = mI M 120 15 ∧ FrK M M' := by
    intro M p hask hsn hd c16 c17 c18
    obtain ⟨M1, e1, p1, f1⟩ := p.mvN hN h16 ht hask hsn (n := n) (by omega)
    have k1 : ∀ b, b ≠ 6 → mI M1 120 b = mI M 120 b := f1.2.2.1
    have hd1 : mI M1 129 i = nI p0.2 := (f1.2.1 129 (by decide) i).trans hd
    have hmv : mvl N S ask sn = mvl N p0.1 ask sn := hS.sy.tmv h16 ask (fun _ _ => rfl)
    have hml := mvl_len (N := N) S ask sn
    have cs : cStk N ask sn (q.1.take i ++ [p0]) = cStk N ask sn (q.1.take i) + (if sStk N ask sn p0.1 then 1 else 0) := ct_s (fun p => sStk N ask sn p.1)
    have no : sStk N ask sn p0.1 = false → ∃ M', f_X10_look_45 n 120 (nodI nd) (nI i) M1 = some M' ∧ RV M' false t S pb pt ∧ mI M' 120 16 = nI (cStk N ask sn (q.1.take i ++ [p0])) ∧ mI M' 120 17 = nI (cMx (q.1.take i ++ [p0])) ∧ mI M' 120 18 = cNod nd (q.1.take i ++ [p0]) ∧ mI M' 120 15 = mI M 120 15 ∧ FrK M M' := by
      intro z
      obtain ⟨M', e', p', h17, h18, h15, h16', f'⟩ := e45 p1 hd1 ((k1 17 (by decide)).trans c17) ((k1 18 (by decide)).trans c18)
      refine ⟨M', e', p', ?_, h17, h18, by rw [h15, k1 15 (by decide)], (FrK.ofM f1).tr f'⟩
      rw [h16', k1 16 (by decide), c16, cs, z]
      rfl
    by_cases c : mvl N S ask sn = []
    · obtain ⟨z, ez, hz⟩ := p1.askg hN h16 (n := n) (by omega)
      by_cases c2 : z = 0
      · have hs : sStk N ask sn p0.1 = false := by
          unfold sStk
          have : ((List.range N).any fun v => decide (xR p0.1 0 v = 1)) = false := by
            rw [← hS.ask0 h16]
            rw [Bool.eq_false_iff]
            intro w
            obtain ⟨v, hv, hw⟩ := List.any_eq_true.mp w
            have hv' := List.mem_range.mp hv
            have := bt_z.mp c2 v (by omega)
            rw [hz v (by omega)] at this
            have := of_decide_eq_false this
            exact this ⟨hv', of_decide_eq_true hw⟩
          rw [this, Bool.and_false]
        obtain ⟨M', e', r⟩ := no hs
        refine ⟨M', ?_, r⟩
        rw [f_X10_look_21, rs_f p.1, e1, obd2_s, c, if_pos (show nI ([] : List Nat).length = 0 from rfl), rs_f p1.1, ez, obd_s, if_pos c2, e']
      · have hs : sStk N ask sn p0.1 = true := by
          unfold sStk
          rw [← hmv, c]
          have : ((List.range N).any fun v => decide (xR p0.1 0 v = 1)) = true := by
            rw [← hS.ask0 h16]
            cases e : (List.range N).any fun v => decide (xR S 0 v = 1) with
            | true => rfl
            | false =>
              exfalso
              apply c2
              rw [bt_z]
              intro v hv
              rw [hz v hv]
              by_cases w : v < N ∧ xR S 0 v = 1
              · have := List.any_eq_false.mp e v (List.mem_range.mpr w.1)
                exact absurd (decide_eq_true w.2) this
              · exact decide_eq_false w
          rw [this]
          rfl
        have pk := p1.fk (k := 16) (x := nI (cStk N ask sn (q.1.take i) + 1)) (by decide)
        obtain ⟨M', e', p', h17, h18, h15, h16', f'⟩ := e45 pk (by rw [mI_o _ _ _ _ _ (by decide)]; exact hd1) (by rw [mI_n _ _ _ _ (by decide), k1 17 (by decide)]; exact c17) (by rw [mI_n _ _ _ _ (by decide), k1 18 (by decide)]; exact c18)
        refine ⟨M', ?_, p', ?_, h17, h18, by rw [h15, mI_n _ _ _ _ (by decide), k1 15 (by decide)], ((FrK.ofM f1).tr (FrK.sI (by decide))).tr f'⟩
        · rw [f_X10_look_21, rs_f p.1, e1, obd2_s, c, if_pos (show nI ([] : List Nat).length = 0 from rfl), rs_f p1.1, ez, obd_s, if_neg c2, k1 16 (by decide), c16, nI_1, bnd_e, e']
        · rw [h16', mI_s, cs, hs]
          rfl
    · have hs : sStk N ask sn p0.1 = false := by
        unfold sStk
        rw [← hmv]
        cases e : mvl N S ask sn with
        | nil => exact absurd e c
        | cons a b => rfl
      have hpos : 0 < (mvl N S ask sn).length := List.length_pos_iff.mpr c
      obtain ⟨M', e', r⟩ := no hs
      refine ⟨M', ?_, r⟩
      rw [f_X10_look_21, rs_f p.1, e1, obd2_s, if_neg (nI_ne0 hpos (by omega)), e']
  have ct : cTwo N (q.1.take i ++ [p0]) = cTwo N (q.1.take i) + (if sTwo N p0.1 then 1 else 0) := ct_s (fun p => sTwo N p.1)
  have h2 := hS.two h16
  by_cases c : pcI N S ≤ 1
  · obtain ⟨M', e', p', h16', h17, h18, h15, f'⟩ := e21 p hask hsn hd c16 c17 c18
    refine ⟨M', ?_, p', ⟨?_, h16', h17, h18⟩, f'⟩
    · rw [f_X10_look, rs_f p.1, ey, obd_s, em, obd_s, hpc, if_pos (show nI (pcI N S) ≤ (1 : Int32) from nI_le (b := 1) c (by decide)), e']
    · have : sTwo N p0.1 = false := by rw [← h2]; unfold sTwo; rw [decide_eq_true c]; rfl
      rw [h15, c15, ct, this]
      rfl
  · have pk := p.fk (k := 15) (x := nI (cTwo N (q.1.take i) + 1)) (by decide)
    obtain ⟨M', e', p', h16', h17, h18, h15, f'⟩ := e21 pk (by rw [mI_n _ _ _ _ (by decide)]; exact hask) (fun v hv => by rw [mI_o _ _ _ _ _ (by decide)]; exact hsn v hv) (by rw [mI_o _ _ _ _ _ (by decide)]; exact hd) (by rw [mI_n _ _ _ _ (by decide)]; exact c16) (by rw [mI_n _ _ _ _ (by decide)]; exact c17) (by rw [mI_n _ _ _ _ (by decide)]; exact c18)
    refine ⟨M', ?_, p', ⟨?_, h16', h17, h18⟩, (FrK.sI (by decide)).tr f'⟩
    · rw [f_X10_look, rs_f p.1, ey, obd_s, em, obd_s, hpc, if_neg (show ¬ nI (pcI N S) ≤ (1 : Int32) from nI_ge (a := 1) (b := pcI N S) (by omega) (by omega)), c15, nI_1, bnd_e, e']
    · have : sTwo N p0.1 = true := by rw [← h2]; unfold sTwo; rw [decide_eq_false c]; rfl
      rw [h15, mI_s, ct, this]
      rfl
/-! ===== the reference's search ===== -/
/-- how the reference stands in the midst of a search -/
def RM (N A P : Nat) (S0 : St) (t : Int32) (pb pt : List Row4) (ask : Int32) (sn : Nat → Int32) (nd : Option Nat) (M : Mem) (q : Bq) (l : List (St × Nat)) : Prop := (∃ S d, RV M false t S pb pt ∧ GS N A P S0 S d) ∧ RQ N A P S0 M q ∧ RC N ask sn nd M l ∧ mI M 120 7 = ask ∧ ∀ v, v < N → mI M 125 v = sn v
/-- what a search rests on -/
def SK (N A P most : Nat) (S0 : St) : Prop := 2 ≤ N ∧ N ≤ 16 ∧ most ≤ 40 ∧ A + 60 < 1048576 ∧ P + N * 42 + N ≤ 9000 ∧ xR S0 20 0 = nI N ∧ (xR S0 20 1 = 1 → N % 2 = 1) ∧ ∀ v, v < N → ∀ i, N ≤ i → i < 32 → bt (qm N S0 v) i = false
theorem GS.fl {N A P d : Nat} {S0 S : St} {most : Nat} (g : GS N A P S0 S d) (k : SK N A P most S0) (hd : d ≤ 41) : (fl S).length + N ≤ 9000 := by
  have a := fl_PhS S
  have b := g.2.1.2.2
  have c := k.2.2.2.2.1
  have : N * d ≤ N * 42 := Nat.mul_le_mul_left _ (by omega)
  omega
theorem GS.tR {N A P d : Nat} {S0 S : St} {most : Nat} (g : GS N A P S0 S d) (k : SK N A P most S0) : xR S 20 0 = nI N ∧ (xR S 20 1 = 1 → N % 2 = 1) := by
  have := g.2.2.1 20 (by omega)
  rw [this, this]
  exact ⟨k.2.2.2.2.2.1, k.2.2.2.2.2.2.1⟩
theorem exl_c (N most : Nat) (S : St) (d c : Nat) (cs : List Nat) (q : Bq) : exl N most S d (c :: cs) q = exl N most S d cs (met1 most q (dm 0 N c S) (d + 1)) := rfl
theorem exl_pre {N most : Nat} {S : St} {d i : Nat} {p : St × Nat} : ∀ (cs : List Nat) (q : Bq), q.1[i]? = some p → (exl N most S d cs q).1[i]? = some p ∧ (exl N most S d cs q).1.take (i + 1) = q.1.take (i + 1) := by
  intro cs
  induction cs with
  | nil => intro q h; exact ⟨h, rfl⟩
  | cons c cs ih =>
    intro q h
    rw [exl_c]
    obtain ⟨a, b⟩ := ih (met1 most q (dm 0 N c S) (d + 1)) (met1_pre h)
    refine ⟨a, b.trans ?_⟩
    have hi : i < q.1.length := by
      rcases Nat.lt_or_ge i q.1.length with z | z
      · exact z
      · rw [List.getElem?_eq_none z] at h; cases h
    unfold met1
    split
    · rfl
    · split
      · show (q.1 ++ [_]).take (i + 1) = _
        rw [List.take_append_of_le_length (by omega)]
      · rfl
section
variable {N A P most : Nat} {S0 : St} {t : Int32} {pb pt : List Row4} {ask : Int32} {sn : Nat → Int32} {nd : Option Nat}
set_option maxHeartbeats 1000000 in
theorem s100_l (k : SK N A P most S0) (K : Nat → Int32 → Int32 → Int32 → Mem → Option Mem) {i : Nat} {p : St × Nat} {l : List (St × Nat)} (hi : i < most) (v2 : Int32) : ∀ (e j n : Nat) (M : Mem) (q : Bq), j + e = (mvl N p.1 ask sn).length → q.1[i]? = some p → GQ N A P most S0 q → RM N A P S0 t pb pt ask sn nd M q l → e + 20100 ≤ n → ∃ M', f_X10_search_100 K n 120 (nI most) v2 (nI i) (nI (mvl N p.1 ask sn).length) (nI j) M = K 120 (nI most) v2 (nI (i + 1)) M' ∧ GQ N A P most S0 (exl N most p.1 p.2 ((mvl N p.1 ask sn).drop j) q) ∧ RM N A P S0 t pb pt ask sn nd M' (exl N most p.1 p.2 ((mvl N p.1 ask sn).drop j) q) l := by
  obtain ⟨h2, h16, h40, hA, hP, hN0, ht0, hQ⟩ := id k
  intro e
  induction e with
  | zero =>
    intro j n M q hj hp gq hM hn
    obtain ⟨n, rfl⟩ : ∃ m, n = m + 1 := ⟨n - 1, by omega⟩
    have hml := mvl_len (N := N) p.1 ask sn
    rw [List.drop_of_length_le (by omega)]
    refine ⟨M, ?_, gq, hM⟩
    rw [f_X10_search_100, if_pos (nI_le (by omega) (by omega)), nI_1, bnd_e]
  | succ e ih =>
    intro j n M q hj hp gq hM hn
    obtain ⟨n, rfl⟩ : ∃ m, n = m + 1 := ⟨n - 1, by omega⟩
    have hml := mvl_len (N := N) p.1 ask sn
    obtain ⟨⟨S, d, r, g⟩, hq, hc, hask, hsn⟩ := hM
    obtain ⟨⟨Si, a1, a2, a3⟩, a4⟩ := hq.2.2 i p hp
    obtain ⟨dp, gp⟩ := gq.2.2 i p hp
    have g2 := a3.tmx k.2.1 g
    obtain ⟨M1, e1, r1, s1, o1, L1⟩ := r.lays a2 (show i < 40 by omega) (n := n) (by omega)
    have sp : SE (mix Si S) p.1 := (mix_SE (a3.2.2.1.ss g.2.2.1)).tr a1
    have tR := g2.tR k
    obtain ⟨M2, e2, r2, m2, f2⟩ := r1.lay tR.1 h16 tR.2 (ask := ask) (sn := sn) ((o1 120 (by decide) 7).trans hask) (fun v hv => (o1 125 (by decide) v).trans (hsn v hv)) (n := n) (by omega)
    have hmv : mvl N (mix Si S) ask sn = mvl N p.1 ask sn := sp.sy.tmv h16 ask (fun _ _ => rfl)
    have hjl : j < (mvl N p.1 ask sn).length := by omega
    have hcj : (mvl N (mix Si S) ask sn)[j]? = some ((mvl N p.1 ask sn)[j]) := by rw [hmv]; exact List.getElem?_eq_getElem hjl
    generalize hcc : (mvl N p.1 ask sn)[j] = c at hcj
    have hcm : c ∈ mvl N p.1 ask sn := by rw [← hcc]; exact List.getElem_mem hjl
    have hcm2 : c ∈ mvl N (mix Si S) ask sn := by rw [hmv]; exact hcm
    have ok := mvl_ok gp.1 h16 hcm
    have ok2 := mvl_ok g2.1 h16 hcm2
    obtain ⟨M3, e3, r3, f3⟩ := r2.tdm g2.1 tR.1 h2 h16 tR.2 (by omega) (g2.fl k (by omega)) m2 hcj (n := n) (by omega)
    have g3 := g2.mv h2 h16 (by omega) hQ ok2 t
    have gm := gp.mv h2 h16 (by omega) hQ ok 0
    have sm : SE (dm t N c (mix Si S)) (dm 0 N c p.1) := sp.tdm g2.1 h16 (by
      rcases ok2 with z | z | z
      · exact Or.inl z
      · exact Or.inr (Or.inl ⟨z.1, z.2.1, z.2.2.1⟩)
      · exact Or.inr (Or.inr ⟨z.1, z.2.1⟩))
    have pa : ∀ o, ¬ PA o → ∀ b, mI M3 o b = mI M2 o b := f3.2.1
    have n120 : ¬ PA 120 := by unfold PA; decide
    have n125 : ¬ PA 125 := by unfold PA; decide
    have n128 : ¬ PA 128 := by unfold PA; decide
    have n129 : ¬ PA 129 := by unfold PA; decide
    have k3 : ∀ b, b ≠ 6 → mI M3 120 b = mI M 120 b := fun b hb => by rw [pa 120 n120, f2.2.2.1 b hb, o1 120 (by decide)]
    have far3 : ∀ o, 125 ≤ o → ∀ b, mI M3 o b = mI M o b := fun o ho b => by
      rw [pa o (by unfold PA; omega), f2.2.1 o (by omega), o1 o (by omega)]
    have hq3 : RQ N A P S0 M3 q := hq.cg (k3 13 (by decide)) (k3 14 (by decide)) (far3 128 (by decide)) (far3 129 (by decide))
    obtain ⟨M4, e4, r4, hq4, f4⟩ := r3.meet h16 (by omega) h40 g3 (by omega) sm hq3 gq (n := n) (by omega)
    have k4 : ∀ b, b ≠ 6 → b ≠ 13 → b ≠ 14 → mI M4 120 b = mI M 120 b := fun b h6 h13 h14 => (f4.2.2.1 b h13 h14).trans (k3 b h6)
    have hM4 : RM N A P S0 t pb pt ask sn nd M4 (met1 most q (dm 0 N c p.1) (p.2 + 1)) l :=
      ⟨⟨_, _, r4, g3⟩, hq4, hc.cg (fun b z1 z2 => k4 b (by omega) (by omega) (by omega)), (k4 7 (by decide) (by decide) (by decide)).trans hask, fun v hv => by rw [f4.2.1 125 (by decide) (by decide) (by decide), far3 125 (by decide)]; exact hsn v hv⟩
    have hiq : i < q.1.length := by
      rcases Nat.lt_or_ge i q.1.length with z | z
      · exact z
      · rw [List.getElem?_eq_none z] at hp; cases hp
    obtain ⟨M', e', gq', hM'⟩ := ih (j + 1) n M4 (met1 most q (dm 0 N c p.1) (p.2 + 1)) (by omega) (met1_pre hp) (gq.m hiq (by omega) gm) hM4 (by omega)
    have ed : (mvl N p.1 ask sn).drop j = c :: (mvl N p.1 ask sn).drop (j + 1) := by rw [List.drop_eq_getElem_cons hjl, hcc]
    rw [ed, exl_c]
    refine ⟨M', ?_, gq', hM'⟩
    rw [f_X10_search_100, if_neg (nI_ge (by omega) (by omega)), rs_f r.1, e1, obd_s, rs_f r1.1, e2, obd_s, rs_f r2.1, e3, obd_s, rs_f r3.1, rs_12 r3.1, bnd_e, rs_f12 r3.1, rs_c12 r3.1 (show i < 40 by omega), mI_c (by omega), far3 129 (by decide), a4, nI_1, e4, obd_s, nI_1, bnd_e]
    exact e'
set_option maxHeartbeats 1000000 in
theorem s72_l (k : SK N A P most S0) (hnd : ∀ v, nd = some v → v < N) : ∀ (d i m n : Nat) (M : Mem) (q : Bq), i + d = most → d + 1 ≤ m → i ≤ q.1.length → GQ N A P most S0 q → RM N A P S0 t pb pt ask sn nd M q (q.1.take i) → d + 20900 ≤ n → ∃ M', f_X10_search_72 n 120 (nI most) (nodI nd) (nI i) M = some M' ∧ RS M' ∧ GQ N A P most S0 (bfs N most ask sn m i q) ∧ RQ N A P S0 M' (bfs N most ask sn m i q) ∧ RC N ask sn nd M' (bfs N most ask sn m i q).1 := by
  obtain ⟨h2, h16, h40, hA, hP, hN0, ht0, hQ⟩ := id k
  have stop : ∀ (i m n : Nat) (M : Mem) (q : Bq), i = q.1.length → GQ N A P most S0 q → RM N A P S0 t pb pt ask sn nd M q (q.1.take i) → 1 ≤ m → 10600 ≤ n → ∃ M', f_X10_search_72 n 120 (nI most) (nodI nd) (nI i) M = some M' ∧ RS M' ∧ GQ N A P most S0 (bfs N most ask sn m i q) ∧ RQ N A P S0 M' (bfs N most ask sn m i q) ∧ RC N ask sn nd M' (bfs N most ask sn m i q).1 := by
    intro i m n M q hi gq hM hm hn
    obtain ⟨n, rfl⟩ : ∃ j, n = j + 1 := ⟨n - 1, by omega⟩
    obtain ⟨m, rfl⟩ : ∃ j, m = j + 1 := ⟨m - 1, by omega⟩
    obtain ⟨⟨S, d, r, g⟩, hq, hc, hask, hsn⟩ := hM
    have eb : bfs N most ask sn (m + 1) i q = q := by
      unfold bfs
      rw [List.getElem?_eq_none (by omega)]
    rw [eb]
    rw [hi, List.take_length] at hc
    have hl := gq.1
    have S1 : RS (sI M 120 7 0) := r.1.e rfl
    have ef := f_back S1 (n := n) (by omega)
    have fin : ∀ o, o ≠ 121 → ∀ b, mI (cpF (sI M 120 7 0) 126 121 0) o b = mI (sI M 120 7 0) o b := fun o n b => by
      show (if o = 121 ∧ 0 ≤ b ∧ b < 10465 then (sI M 120 7 0).2.1 126 b else (sI M 120 7 0).2.1 o b) = (sI M 120 7 0).2.1 o b
      rw [if_neg (fun z => n z.1)]
    have f120 : ∀ b, b ≠ 7 → mI (cpF (sI M 120 7 0) 126 121 0) 120 b = mI M 120 b := fun b n => by rw [fin 120 (by decide), mI_n _ _ _ _ n]
    have fO : ∀ o, o ≠ 121 → o ≠ 120 → ∀ b, mI (cpF (sI M 120 7 0) 126 121 0) o b = mI M o b := fun o n1 n2 b => by rw [fin o n1, mI_o _ _ _ _ _ n2]
    refine ⟨cpF (sI M 120 7 0) 126 121 0, ?_, S1.e rfl, gq, hq.cg (f120 13 (by decide)) (f120 14 (by decide)) (fO 128 (by decide) (by decide)) (fO 129 (by decide) (by decide)), hc.cg (fun b z1 z2 => f120 b (by omega))⟩
    rw [f_X10_search_72, rs_f r.1, hq.1, if_pos (by rw [hi]; exact Int32.le_refl _), bnd_e, ef, obd_s]
  intro d
  induction d with
  | zero =>
    intro i m n M q hi hm hil gq hM hn
    exact stop i m n M q (by have := gq.1; omega) gq hM (by omega) (by omega)
  | succ d ih =>
    intro i m n M q hi hm hil gq hM hn
    by_cases c : i = q.1.length
    · exact stop i m n M q c gq hM (by omega) (by omega)
    · obtain ⟨n, rfl⟩ : ∃ j, n = j + 1 := ⟨n - 1, by omega⟩
      obtain ⟨m, rfl⟩ : ∃ j, m = j + 1 := ⟨m - 1, by omega⟩
      have hlt : i < q.1.length := by omega
      have hl := gq.1
      obtain ⟨p, hp⟩ : ∃ p, q.1[i]? = some p := ⟨_, List.getElem?_eq_getElem hlt⟩
      obtain ⟨⟨S, dS, r, g⟩, hq, hc, hask, hsn⟩ := id hM
      obtain ⟨⟨Si, a1, a2, a3⟩, a4⟩ := hq.2.2 i p hp
      obtain ⟨dp, gp⟩ := gq.2.2 i p hp
      have g2 := a3.tmx k.2.1 g
      obtain ⟨M1, e1, r1, s1, o1, L1⟩ := r.lays a2 (show i < 40 by omega) (n := n) (by omega)
      have sp : SE (mix Si S) p.1 := (mix_SE (a3.2.2.1.ss g.2.2.1)).tr a1
      have tR := g2.tR k
      have hq1 : RQ N A P S0 M1 q := hq.cg (o1 120 (by decide) 13) (o1 120 (by decide) 14) (o1 128 (by decide)) (o1 129 (by decide))
      have hc1 : RC N ask sn nd M1 (q.1.take i) := hc.cg (fun b _ _ => o1 120 (by decide) b)
      have len : (q.1.take i).length ≤ 40 := by rw [List.length_take]; omega
      have c2 : cTwo N (q.1.take i) < 100 := by
        have := List.length_filter_le (fun p => sTwo N p.1) (q.1.take i)
        unfold cTwo; omega
      have c3 : cStk N ask sn (q.1.take i) < 100 := by
        have := List.length_filter_le (fun p => sStk N ask sn p.1) (q.1.take i)
        unfold cStk; omega
      have mx : ∀ l : List (St × Nat), (∀ p, p ∈ l → (fl p.1).length ≤ 9000) → cMx l ≤ 9000 := by
        have gen : ∀ (l : List (St × Nat)) (x : Nat), x ≤ 9000 → (∀ p, p ∈ l → (fl p.1).length ≤ 9000) → l.foldl (fun m p => max m (fl p.1).length) x ≤ 9000 := by
          intro l
          induction l with
          | nil => intro x hx _; exact hx
          | cons p l ihl =>
            intro x hx h
            rw [List.foldl_cons]
            exact ihl _ (Nat.max_le.mpr ⟨hx, h p (by simp)⟩) (fun q hq => h q (List.mem_cons_of_mem _ hq))
        intro l h
        exact gen l 0 (by omega) h
      have c4 : cMx (q.1.take i) ≤ 9000 := mx _ (fun p' hp' => by
        obtain ⟨j, hj⟩ := List.getElem?_of_mem (List.mem_of_mem_take hp')
        obtain ⟨dj, gj⟩ := gq.2.2 j p' hj
        have hjl : j < q.1.length := by
          rcases Nat.lt_or_ge j q.1.length with z | z
          · exact z
          · rw [List.getElem?_eq_none z] at hj; cases hj
        have := gj.fl k (by omega)
        omega)
      obtain ⟨M2, e2, r2, hc2, f2⟩ := r1.look (d := 0) (q := q) (p0 := p) (i := i) (ask := ask) (sn := sn) (nd := nd) h2 tR.1 h16 tR.2 ((o1 120 (by decide) 7).trans hask) (fun v hv => (o1 125 (by decide) v).trans (hsn v hv)) sp hp (by omega) ((o1 129 (by decide) i).trans a4) hnd hc1 ⟨c2, c3⟩ c4 (n := n) (by omega)
      have hq2 : RQ N A P S0 M2 q := hq1.cg (f2.2.2.1 13 (by decide) (by decide)) (f2.2.2.1 14 (by decide) (by decide)) (f2.2.1 128 (by decide)) (f2.2.1 129 (by decide))
      have ask2 : mI M2 120 7 = ask := (f2.2.2.1 7 (by decide) (by decide)).trans ((o1 120 (by decide) 7).trans hask)
      have sn2 : ∀ v, v < N → mI M2 125 v = sn v := fun v hv => (f2.2.1 125 (by decide) v).trans ((o1 125 (by decide) v).trans (hsn v hv))
      obtain ⟨M3, e3, r3, f3⟩ := r2.mvN tR.1 h16 tR.2 ask2 sn2 (n := n) (by omega)
      have hmv : mvl N (mix Si S) ask sn = mvl N p.1 ask sn := sp.sy.tmv h16 ask (fun _ _ => rfl)
      rw [hmv] at e3
      have hM3 : RM N A P S0 t pb pt ask sn nd M3 q (q.1.take (i + 1)) := ⟨⟨_, _, r3, g2⟩, hq2.cg (f3.2.2.1 13 (by decide)) (f3.2.2.1 14 (by decide)) (f3.2.1 128 (by decide)) (f3.2.1 129 (by decide)), hc2.cg (fun b z1 z2 => f3.2.2.1 b (by omega)), (f3.2.2.1 7 (by decide)).trans ask2, fun v hv => (f3.2.1 125 (by decide) v).trans (sn2 v hv)⟩
      have hml := mvl_len (N := N) p.1 ask sn
      obtain ⟨M4, e4, gq4, hM4⟩ := s100_l (t := t) (pb := pb) (pt := pt) (ask := ask) (sn := sn) (nd := nd) k (f_X10_search_72 n) (i := i) (p := p) (l := q.1.take (i + 1)) (by omega) (nodI nd) (mvl N p.1 ask sn).length 0 n M3 q (by omega) hp gq hM3 (by omega)
      rw [List.drop_zero] at gq4 hM4
      obtain ⟨b1, b2⟩ := exl_pre (N := N) (most := most) (S := p.1) (d := p.2) (mvl N p.1 ask sn) q hp
      have eb : bfs N most ask sn (m + 1) i q = bfs N most ask sn m (i + 1) (exl N most p.1 p.2 (mvl N p.1 ask sn) q) := by
        show (match q.1[i]? with
          | none => q
          | some p => bfs N most ask sn m (i + 1) (exl N most p.1 p.2 (mvl N p.1 ask sn) q)) = _
        rw [hp]
      rw [eb]
      rw [← b2] at hM4
      have hi1 : i + 1 ≤ (exl N most p.1 p.2 (mvl N p.1 ask sn) q).1.length := by
        rcases Nat.lt_or_ge i (exl N most p.1 p.2 (mvl N p.1 ask sn) q).1.length with z | z
        · exact z
        · rw [List.getElem?_eq_none z] at b1; cases b1
      obtain ⟨M', e', R⟩ := ih (i + 1) m n M4 _ (by omega) (by omega) hi1 gq4 hM4 (by omega)
      refine ⟨M', ?_, R⟩
      rw [f_X10_search_72, rs_f r.1, hq.1, if_neg (nI_ge hlt (by omega)), e1, obd_s, rs_f r1.1, e2, obd_s, rs_f r2.1, e3, obd2_s]
      exact e4.trans e'
end
/-! ===== the reference's search, whole ===== -/
noncomputable def bfq (N most : Nat) (ask : Int32) (S0 : St) : Bq := bfs N most ask (fun v => xR S0 2 v) (most + 1) 0 ([(S0, 0)], false)
theorem s6_l {t : Int32} {S0 : St} {pb pt : List Row4} {N most : Nat} {v2 : Int32} (hN : xR S0 20 0 = nI N) (h16 : N ≤ 16) : ∀ (d i n : Nat) (M : Mem), i + d = N → RV M false t S0 pb pt → (∀ v, v < i → mI M 125 v = xR S0 2 v) → d + 1 ≤ n → ∃ M' n', f_X10_search_6 n 120 (nI most) v2 (nI i) M = f_X10_search_6 (n' + 1) 120 (nI most) v2 (nI N) M' ∧ n ≤ n' + 1 + d ∧ RV M' false t S0 pb pt ∧ (∀ v, v < N → mI M' 125 v = xR S0 2 v) ∧ ∀ b, mI M' 120 b = mI M 120 b := by
  intro d
  induction d with
  | zero =>
    intro i n M hi p hs hn
    exact ⟨M, n - 1, by rw [show i = N by omega, show n - 1 + 1 = n by omega], by omega, p, fun v hv => hs v (by omega), fun _ => rfl⟩
  | succ d ih =>
    intro i n M hi p hs hn
    obtain ⟨n, rfl⟩ : ∃ m, n = m + 1 := ⟨n - 1, by omega⟩
    generalize hMa : sI M 125 i (xR S0 2 i) = Ma
    have pa : RV Ma false t S0 pb pt := p.cg (by rw [← hMa]; rfl) (by rw [← hMa, mI_o _ _ _ _ _ (by decide)]) (fun b => by rw [← hMa, mI_o _ _ _ _ _ (by decide)]) (fun b => by rw [← hMa, mI_o _ _ _ _ _ (by decide)])
    obtain ⟨M', n', e, hn', p', s', k'⟩ := ih (i + 1) n Ma (by omega) pa (fun v hv => by
      rw [← hMa]
      by_cases c : v = i
      · rw [c, mI_s]
      · rw [mI_n _ _ _ _ c]; exact hs v (by omega)) (by omega)
    refine ⟨M', n', ?_, by omega, p', s', fun b => by rw [k', ← hMa, mI_o _ _ _ _ _ (by decide)]⟩
    rw [f_X10_search_6, rs_f p.1, rs_0 p.1, bnd_e, rs_fa p.1, rs_c0 p.1, cl0, p.N hN, if_neg (nI_ge (by omega) (by omega)), rs_5 p.1, bnd_e, rs_f5 p.1, p.get2 (by omega), obd_s, rs_c5 p.1 (by omega), sI_c (by omega), hMa, bnd_e, nI_1, bnd_e]
    exact e
theorem SK_Q0 {N A P most : Nat} {S0 : St} (g : GS N A P S0 S0 0) (h : 0 < most) : GQ N A P most S0 ([(S0, 0)], false) := by
  refine ⟨h, fun z => Bool.noConfusion z, fun i p hp => ?_⟩
  cases i with
  | zero =>
    have : p = (S0, 0) := by simpa using hp.symm
    rw [this]
    exact ⟨Nat.le_refl _, g⟩
  | succ i => simp at hp
set_option maxHeartbeats 1000000 in
theorem RV.srch {N A P most n : Nat} {S0 : St} {M : Mem} {t : Int32} {pb pt : List Row4} {ask : Int32} {nd : Option Nat} (p : RV M false t S0 pb pt) (k : SK N A P most S0) (hm : 0 < most) (g : GS N A P S0 S0 0) (hask : mI M 120 7 = ask) (hnd : ∀ v, nd = some v → v < N) (hn : 30000 ≤ n) : ∃ M', f_X10_search n 120 (nI most) (nodI nd) M = some M' ∧ RS M' ∧ GQ N A P most S0 (bfq N most ask S0) ∧ RQ N A P S0 M' (bfq N most ask S0) ∧ RC N ask (fun v => xR S0 2 v) nd M' (bfq N most ask S0).1 := by
  obtain ⟨h2, h16, h40, hA, hP, hN0, ht0, hQ⟩ := id k
  have ea := f_aside p.1 (n := n) (by omega)
  generalize hMa : cpF M 121 126 0 = Ma at ea
  have oa : ∀ o, o ≠ 126 → ∀ b, mI Ma o b = mI M o b := fun o n b => by
    rw [← hMa]
    show (if o = 126 ∧ 0 ≤ b ∧ b < 10465 then M.2.1 121 b else M.2.1 o b) = M.2.1 o b
    rw [if_neg (fun z => n z.1)]
  have pa : RV Ma false t S0 pb pt := p.cg (by rw [← hMa]; rfl) (oa 120 (by decide) 3) (oa 121 (by decide)) (oa 123 (by decide))
  obtain ⟨M1, n1, e1, hn1, p1, s1, k1⟩ := s6_l (most := most) (v2 := nodI nd) hN0 h16 N 0 n Ma (by omega) pa (fun v hv => by omega) (by omega)
  generalize hMb : sI (sI (sI (sI (sI (sI M1 120 13 (0 : Int32)) 120 14 (0 : Int32)) 120 15 (0 : Int32)) 120 16 (0 : Int32)) 120 17 (0 : Int32)) 120 18 (-1 : Int32) = Mb
  have b13 : mI Mb 120 13 = 0 := by rw [← hMb, mI_n _ _ _ _ (by decide), mI_n _ _ _ _ (by decide), mI_n _ _ _ _ (by decide), mI_n _ _ _ _ (by decide), mI_n _ _ _ _ (by decide), mI_s]
  have b14 : mI Mb 120 14 = 0 := by rw [← hMb, mI_n _ _ _ _ (by decide), mI_n _ _ _ _ (by decide), mI_n _ _ _ _ (by decide), mI_n _ _ _ _ (by decide), mI_s]
  have b15 : mI Mb 120 15 = 0 := by rw [← hMb, mI_n _ _ _ _ (by decide), mI_n _ _ _ _ (by decide), mI_n _ _ _ _ (by decide), mI_s]
  have b16 : mI Mb 120 16 = 0 := by rw [← hMb, mI_n _ _ _ _ (by decide), mI_n _ _ _ _ (by decide), mI_s]
  have b17 : mI Mb 120 17 = 0 := by rw [← hMb, mI_n _ _ _ _ (by decide), mI_s]
  have b18 : mI Mb 120 18 = -1 := by rw [← hMb, mI_s]
  have bo : ∀ o, o ≠ 120 → ∀ b, mI Mb o b = mI M1 o b := fun o n b => by rw [← hMb, mI_o _ _ _ _ _ n, mI_o _ _ _ _ _ n, mI_o _ _ _ _ _ n, mI_o _ _ _ _ _ n, mI_o _ _ _ _ _ n, mI_o _ _ _ _ _ n]
  have bk : ∀ b, b < 13 → mI Mb 120 b = mI M1 120 b := fun b hb => by rw [← hMb, mI_n _ _ _ _ (by omega), mI_n _ _ _ _ (by omega), mI_n _ _ _ _ (by omega), mI_n _ _ _ _ (by omega), mI_n _ _ _ _ (by omega), mI_n _ _ _ _ (by omega)]
  have pb' : RV Mb false t S0 pb pt := p1.cg (by rw [← hMb]; rfl) (bk 3 (by decide)) (bo 121 (by decide)) (bo 123 (by decide))
  have q0 : RQ N A P S0 Mb ([], false) := ⟨b13, b14, fun i p hp => by simp at hp⟩
  have g0 : GQ N A P most S0 ([], false) := ⟨Nat.zero_le _, fun z => absurd z (by decide), fun i p hp => by simp at hp⟩
  obtain ⟨M2, e2, p2, q2, f2⟩ := pb'.meet (dd := 0) h16 (by omega) h40 g (by omega) (SE.rf S0) q0 g0 (n := n1) (by omega)
  have em : met1 most ([], false) S0 0 = ([(S0, 0)], false) := by
    unfold met1
    have : knw ([] : List (St × Nat)) S0 = false := by
      cases e : knw ([] : List (St × Nat)) S0 with
      | false => rfl
      | true =>
        obtain ⟨q, hq, _⟩ := knw_t.mp e
        simp at hq
    rw [show (([], false) : Bq).1 = [] from rfl, this, if_neg (by decide), if_pos (by simpa using hm)]
    rfl
  rw [em] at q2
  have o2 : ∀ b, b ≠ 13 → b ≠ 14 → mI M2 120 b = mI Mb 120 b := f2.2.2.1
  have hM2 : RM N A P S0 t pb pt ask (fun v => xR S0 2 v) nd M2 ([(S0, 0)], false) ((([(S0, 0)], false) : Bq).1.take 0) := by
    refine ⟨⟨S0, 0, p2, g⟩, q2, ⟨?_, ?_, ?_, ?_⟩, ?_, fun v hv => ?_⟩
    · rw [o2 15 (by decide) (by decide)]; exact b15
    · rw [o2 16 (by decide) (by decide)]; exact b16
    · rw [o2 17 (by decide) (by decide)]; exact b17
    · rw [o2 18 (by decide) (by decide), b18]
      cases nd <;> rfl
    · rw [o2 7 (by decide) (by decide), bk 7 (by decide), k1, oa 120 (by decide)]
      exact hask
    · rw [f2.2.1 125 (by decide) (by decide) (by decide), bo 125 (by decide)]
      exact s1 v hv
  obtain ⟨M3, e3, S3, G3, Q3, C3⟩ := s72_l (t := t) (pb := pb) (pt := pt) (ask := ask) (sn := fun v => xR S0 2 v) (nd := nd) k hnd most 0 (most + 1) n1 M2 ([(S0, 0)], false) (by omega) (by omega) (Nat.zero_le _) (SK_Q0 g hm) hM2 (by omega)
  refine ⟨M3, ?_, S3, G3, Q3, C3⟩
  rw [f_X10_search, rs_f p.1, ea, obd_s, show (0 : Int32) = nI 0 from rfl, e1, f_X10_search_6, rs_f p1.1, rs_0 p1.1, bnd_e, rs_fa p1.1, rs_c0 p1.1, cl0, p1.N hN0, if_pos (Int32.le_refl _), bnd_e, chk_t (Or.inl rfl), bnd_e, bnd_e, bnd_e, bnd_e, bnd_e, hMb, show (0 : Int32) = nI 0 from rfl, e2, obd_s]
  exact e3
/-- what is told of a search -/
def cSe (N : Nat) (ask : Int32) (sn : Nat → Int32) (q : Bq) (w : Nat) : Int32 :=
  if w = 0 then nI q.1.length else if w = 1 then nI (cTwo N q.1) else if w = 2 then nI (cStk N ask sn q.1) else if w = 3 then nI (cMx q.1) else if w = 4 then (if q.2 then 0 else 1) else (match q.1[q.1.length - 1]? with
    | none => 0
    | some p => nI p.2)
theorem bfs_le (N most : Nat) (ask : Int32) (sn : Nat → Int32) : ∀ (n i : Nat) (q : Bq), q.1.length ≤ (bfs N most ask sn n i q).1.length := by
  intro n
  induction n with
  | zero => intro i q; exact Nat.le_refl _
  | succ n ih =>
    intro i q
    unfold bfs
    split
    · exact Nat.le_refl _
    · refine Nat.le_trans ?_ (ih _ _)
      have gen : ∀ (cs : List Nat) (S : St) (d : Nat) (q : Bq), q.1.length ≤ (exl N most S d cs q).1.length := by
        intro cs
        induction cs with
        | nil => intro S d q; exact Nat.le_refl _
        | cons c cs ihc => intro S d q; rw [exl_c]; exact Nat.le_trans (met1_le _ _ _ _) (ihc _ _ _)
      exact gen _ _ _ _
theorem bfq_pos (N most : Nat) (ask : Int32) (S0 : St) : 1 ≤ (bfq N most ask S0).1.length := bfs_le N most ask (fun v => xR S0 2 v) (most + 1) 0 ([(S0, 0)], false)
theorem f_all {M : Mem} {t : Int32} {S : St} {pb pt : List Row4} {N : Nat} (p : RV M false t S pb pt) (hN : xR S 20 0 = nI N) : f_X10_all 120 M = some (((1 : Int32) <<< (nI N &&& 31)) - 1) := by
  rw [f_X10_all, rs_f p.1, rs_0 p.1, bnd_e, rs_fa p.1, rs_c0 p.1, cl0, p.N hN]
set_option maxHeartbeats 1000000 in
theorem RV.sby {N A P most n w : Nat} {S0 : St} {M : Mem} {t : Int32} {pb pt : List Row4} {ask : Int32} (p : RV M false t S0 pb pt) (k : SK N A P most S0) (hm : 0 < most) (g : GS N A P S0 S0 0) (ha : ask &&& ((((1 : Int32) <<< (nI N &&& 31)) - 1) ^^^ (-1 : Int32)) = 0) (hw : w < 6) (hn : 30000 ≤ n) : ∃ M', f_X10_searchedBy n 120 ask (nI most) (nI w) M = some (cSe N ask (fun v => xR S0 2 v) (bfq N most ask S0) w, M') := by
  obtain ⟨h2, h16, h40, hA, hP, hN0, ht0, hQ⟩ := id k
  have pa : RV (sI M 120 7 ask) false t S0 pb pt := p.cg rfl (mI_n _ _ _ _ (by decide)) (fun b => mI_o _ _ _ _ _ (by decide)) (fun b => mI_o _ _ _ _ _ (by decide))
  obtain ⟨M1, e1, S1, G1, Q1, C1⟩ := pa.srch (nd := none) k hm g (mI_s _ _ _ _) (fun v z => by cases z) hn
  have hpos := bfq_pos N most ask S0
  generalize bfq N most ask S0 = q at G1 Q1 C1 hpos ⊢
  have hl := G1.1
  refine ⟨M1, ?_⟩
  have i1 : f_X10_isIn (nI most) (1 : Int32) (40 : Int32) M = some 1 := is_in3 (L := 1) (N := 40) (by decide) hm h40
  rw [f_X10_searchedBy, rs_f p.1, f_all p hN0, obd_s, if_pos ha, i1, obd_s, if_neg ne10, show (5 : Int32) = nI 5 from rfl, f_isI M (show w ≤ 5 by omega) (by decide), obd_s, if_neg ne10, bnd_e, show f_X10_search n 120 (nI most) (-1) (sI M 120 7 ask) = some M1 from e1, obd_s]
  unfold cSe
  rcases (show w = 0 ∨ w = 1 ∨ w = 2 ∨ w = 3 ∨ w = 4 ∨ w = 5 by omega) with rfl | rfl | rfl | rfl | rfl | rfl
  · rw [if_pos (show nI 0 = (0 : Int32) from rfl), if_pos rfl, rs_f S1, Q1.1]
  · rw [if_neg (show ¬ nI 1 = (0 : Int32) by decide), if_pos (show nI 1 = (1 : Int32) from rfl), if_neg (show ¬ (1 : Nat) = 0 by decide), if_pos rfl, rs_f S1, C1.1]
  · rw [if_neg (show ¬ nI 2 = (0 : Int32) by decide), if_neg (show ¬ nI 2 = (1 : Int32) by decide), if_pos (show nI 2 = (2 : Int32) from rfl), if_neg (show ¬ (2 : Nat) = 0 by decide), if_neg (show ¬ (2 : Nat) = 1 by decide), if_pos rfl, rs_f S1, C1.2.1]
  · rw [if_neg (show ¬ nI 3 = (0 : Int32) by decide), if_neg (show ¬ nI 3 = (1 : Int32) by decide), if_neg (show ¬ nI 3 = (2 : Int32) by decide), if_pos (show nI 3 = (3 : Int32) from rfl), if_neg (show ¬ (3 : Nat) = 0 by decide), if_neg (show ¬ (3 : Nat) = 1 by decide), if_neg (show ¬ (3 : Nat) = 2 by decide), if_pos rfl, rs_f S1, C1.2.2.1]
  · rw [if_neg (show ¬ nI 4 = (0 : Int32) by decide), if_neg (show ¬ nI 4 = (1 : Int32) by decide), if_neg (show ¬ nI 4 = (2 : Int32) by decide), if_neg (show ¬ nI 4 = (3 : Int32) by decide), if_pos (show nI 4 = (4 : Int32) from rfl), if_neg (show ¬ (4 : Nat) = 0 by decide), if_neg (show ¬ (4 : Nat) = 1 by decide), if_neg (show ¬ (4 : Nat) = 2 by decide), if_neg (show ¬ (4 : Nat) = 3 by decide), if_pos rfl, rs_f S1, Q1.2.1]
    cases q.2
    · rfl
    · rfl
  · obtain ⟨p5, h5⟩ : ∃ p5, q.1[q.1.length - 1]? = some p5 := ⟨_, List.getElem?_eq_getElem (by omega)⟩
    have d5 := (Q1.2.2 _ p5 h5).2
    have e1 : nI q.1.length - (1 : Int32) = nI (q.1.length - 1) := by rw [show (1 : Int32) = nI 1 from rfl, nI_sb hpos]
    rw [if_neg (show ¬ nI 5 = (0 : Int32) by decide), if_neg (show ¬ nI 5 = (1 : Int32) by decide), if_neg (show ¬ nI 5 = (2 : Int32) by decide), if_neg (show ¬ nI 5 = (3 : Int32) by decide), if_neg (show ¬ nI 5 = (4 : Int32) by decide), if_neg (show ¬ (5 : Nat) = 0 by decide), if_neg (show ¬ (5 : Nat) = 1 by decide), if_neg (show ¬ (5 : Nat) = 2 by decide), if_neg (show ¬ (5 : Nat) = 3 by decide), if_neg (show ¬ (5 : Nat) = 4 by decide), rs_f S1, rs_12 S1, bnd_e, rs_f12 S1, Q1.1, e1, rs_c12 S1 (by omega), mI_c (by omega), d5, h5]
theorem RV.ssn {N A P most n v : Nat} {S0 : St} {M : Mem} {t : Int32} {pb pt : List Row4} (p : RV M false t S0 pb pt) (k : SK N A P most S0) (hm : 0 < most) (g : GS N A P S0 S0 0) (h7 : mI M 120 7 = 0) (hv : v < N) (hnd : f_X10_isNode 120 (nI v) M = some 1) (hn : 30000 ≤ n) : ∃ M', f_X10_soonest n 120 (nI v) (nI most) M = some (cSon v (bfq N most 0 S0).1, M') := by
  obtain ⟨h2, h16, h40, hA, hP, hN0, ht0, hQ⟩ := id k
  obtain ⟨M1, e1, S1, G1, Q1, C1⟩ := p.srch (nd := some v) k hm g h7 (fun u z => by cases z; exact hv) hn
  refine ⟨M1, ?_⟩
  have i1 : f_X10_isIn (nI most) (1 : Int32) (40 : Int32) M = some 1 := is_in3 (L := 1) (N := 40) (by decide) hm h40
  rw [f_X10_soonest, rs_f p.1, hnd, obd_s, if_neg ne10, i1, obd_s, if_neg ne10, show f_X10_search n 120 (nI most) (nI v) M = some M1 from e1, obd_s, rs_f S1, C1.2.2.2]
  rfl
/-! ===== the class's search: its cells ===== -/
def SX (M : Mem) : Prop := isO M 6 114 ∧ (mR M 114 0 = 63 ∧ mR M 114 1 = 115 ∧ mR M 114 2 = 116 ∧ mR M 114 3 = 117 ∧ mR M 114 4 = 118) ∧ (isO M 100 115 ∧ isO M 100 116 ∧ isO M 100 117 ∧ isO M 100 118) ∧ (mLn M 115 = 41 ∧ mLn M 116 = 40 ∧ mLn M 117 = 40 ∧ mLn M 118 = 16) ∧ 131 ≤ mN M
def CL (M : Mem) (dC L e : Nat) : Prop := mR M 114 5 = dC ∧ isO M 100 dC ∧ mLn M dC = L ∧ (dC = 119 ∨ 131 ≤ dC) ∧ mI M 114 6 = nI e ∧ e ≤ L ∧ 1024 ≤ L ∧ L ≤ 1520000 ∧ dC ≠ mR M 64 5 ∧ dC ≠ mR M 64 6 ∧ dC ≠ mR M 64 7
/-- the cells, or another row for them, and the end alone have changed -/
def FrC (M M' : Mem) (dC dC' : Nat) : Prop := mN M ≤ mN M' ∧ (∀ o, o < mN M → M'.1.2.1 o = M.1.2.1 o) ∧ (∀ o b, o < mN M → ¬ (o = 114 ∧ b = 5) → mR M' o b = mR M o b) ∧ (∀ o, o < mN M → o ≠ 114 → o ≠ dC → ∀ b, mI M' o b = mI M o b) ∧ (∀ b, b ≠ 6 → mI M' 114 b = mI M 114 b) ∧ (∀ o, o < mN M → ∀ b, mL M' o b = mL M o b) ∧ (dC' = dC ∨ mN M ≤ dC')
theorem FrC.rf (M : Mem) (dC : Nat) : FrC M M dC dC := ⟨Nat.le_refl _, fun _ _ => rfl, fun _ _ _ _ => rfl, fun _ _ _ _ _ => rfl, fun _ _ => rfl, fun _ _ _ => rfl, Or.inl rfl⟩
theorem FrC.tr {M M' M'' : Mem} {a b c : Nat} (h : FrC M M' a b) (h' : FrC M' M'' b c) : FrC M M'' a c := by
  obtain ⟨a1, a2, a3, a4, a5, a6, a7⟩ := h
  obtain ⟨b1, b2, b3, b4, b5, b6, b7⟩ := h'
  refine ⟨Nat.le_trans a1 b1, fun o ho => (b2 o (by omega)).trans (a2 o ho), fun o k ho n => (b3 o k (by omega) n).trans (a3 o k ho n), fun o ho n1 n2 k => (b4 o (by omega) n1 (by omega) k).trans (a4 o ho n1 n2 k), fun k n => (b5 k n).trans (a5 k n), fun o ho k => (b6 o (by omega) k).trans (a6 o ho k), by omega⟩
theorem SX.fr {M M' : Mem} {a b : Nat} (x : SX M) (f : FrC M M' a b) : SX M' := by
  obtain ⟨⟨i1, i2⟩, ⟨r0, r1, r2, r3, r4⟩, ⟨j1, j2, j3, j4⟩, ⟨l1, l2, l3, l4⟩, hN⟩ := x
  obtain ⟨f1, f2, f3, _⟩ := f
  have io : ∀ c o, isO M c o → isO M' c o := fun c o z => ⟨by have := z.1; omega, by rw [mC, f2 o z.1]; exact z.2⟩
  have ln : ∀ o, o < 131 → mLn M' o = mLn M o := fun o ho => by rw [mLn, f2 o (by omega)]; rfl
  refine ⟨io _ _ ⟨i1, i2⟩, ⟨?_, ?_, ?_, ?_, ?_⟩, ⟨io _ _ j1, io _ _ j2, io _ _ j3, io _ _ j4⟩, ⟨?_, ?_, ?_, ?_⟩, by omega⟩
  · rw [f3 114 0 i1 (by decide)]; exact r0
  · rw [f3 114 1 i1 (by decide)]; exact r1
  · rw [f3 114 2 i1 (by decide)]; exact r2
  · rw [f3 114 3 i1 (by decide)]; exact r3
  · rw [f3 114 4 i1 (by decide)]; exact r4
  · rw [ln 115 (by decide)]; exact l1
  · rw [ln 116 (by decide)]; exact l2
  · rw [ln 117 (by decide)]; exact l3
  · rw [ln 118 (by decide)]; exact l4
theorem HV.frC {M M' : Mem} {X Y X' Y' N a b : Nat} {t : Int32} {Q : Nat → Int32} {S : St} {pb pt : List Row4} (p : HV M 63 X Y t N Q S pb pt) (f : FrC M M' a b) (ha : (a = 119 ∨ 131 ≤ a) ∧ a ≠ mR M 64 5 ∧ a ≠ mR M 64 6 ∧ a ≠ mR M 64 7) (rm' : Rm M' 63 X' Y') : HV M' 63 X' Y' t N Q S pb pt := by
  obtain ⟨q, ⟨d5, d6, d7, len, K, fr, us, ow, w, hK⟩, hp, rm, ⟨lb, lt⟩, hN, hQ⟩ := p
  obtain ⟨f1, f2, f3, f4, f5, f6, f7⟩ := f
  obtain ⟨ha0, ha5, ha6, ha7⟩ := ha
  have hq := q.2.2.2.2
  obtain ⟨⟨w5, w6, w7⟩, ⟨j5, j6, j7⟩, ⟨n5, n6, n7⟩, y⟩ := id w.1
  have io : ∀ c o, isO M c o → isO M' c o := fun c o z => ⟨by have := z.1; omega, by rw [mC, f2 o z.1]; exact z.2⟩
  have ln : ∀ o, o < mN M → mLn M' o = mLn M o := fun o ho => by rw [mLn, f2 o ho]; rfl
  have r64 : ∀ b, mR M' 64 b = mR M 64 b := fun b => f3 64 b (by omega) (by omega)
  have oI : ∀ o, o < 114 → ∀ k, mI M' o k = mI M o k := fun o ho k => f4 o (by omega) (by omega) (by omega) k
  have oD : ∀ o, o < mN M → o ≠ 114 → o ≠ a → ∀ k, mI M' o k = mI M o k := fun o ho n1 n2 k => f4 o ho n1 n2 k
  have cs' : CS M' 63 := by
    refine ⟨fun i hi hn => ?_, fun z hz => ?_, ?_, io _ _ q.2.2.2.1, hq.1, hq.2.1, by omega⟩
    · rw [f2 (63 + i) (by omega)]; exact q.1 i hi hn
    · have hb : ∀ z, z ∈ tH → z.1 < 49 := by decide
      have := hb z hz
      rw [f3 (63 + z.1) z.2.1 (by omega) (by omega)]; exact q.2.1 z hz
    · rw [f3 63 0 (by omega) (by omega)]; exact q.2.2.1
  have ds' : DS M' 63 d5 d6 d7 len := by
    refine ⟨⟨?_, ?_, ?_⟩, ⟨io _ _ j5, io _ _ j6, io _ _ j7⟩, ⟨by rw [ln _ j5.1]; exact n5, by rw [ln _ j6.1]; exact n6, by rw [ln _ j7.1]; exact n7⟩, y⟩
    · show mR M' 64 5 = d5; rw [r64]; exact w5
    · show mR M' 64 6 = d6; rw [r64]; exact w6
    · show mR M' 64 7 = d7; rw [r64]; exact w7
  have e5 : d5 = mR M 64 5 := w5.symm
  have e6 : d6 = mR M 64 6 := w6.symm
  have e7 : d7 = mR M 64 7 := w7.symm
  have hl := w.2.2.2.2.2.2.2.2.2.1
  refine ⟨cs', ⟨d5, d6, d7, len, K, fr, us, ow, w.cg ds' (Nat.le_refl _) (by omega) (fun i i1 i6 k => oI _ (by omega) k) (fun k _ => oD d5 j5.1 (by omega) (by omega) k) (fun k _ => oD d6 j6.1 (by omega) (by omega) k) (fun k _ => oD d7 j7.1 (by omega) (by omega) k), hK⟩, hp.cg (fun o ho k => oI o (by omega) k) (fun _ _ _ => rfl) rfl, rm', ⟨lb.cg (oI _ (by omega)) (oI _ (by omega)), lt.cg (oI _ (by omega)) (oI _ (by omega))⟩, by rw [oI 1 (by omega)]; exact hN, fun v hv => by rw [oI _ (by omega)]; exact hQ v hv⟩
theorem Rm.mo {M : Mem} {h X Y X' Y' : Nat} (r : Rm M h X Y) (a : X ≤ X') (b : Y ≤ Y') (c : X' ≤ 2000000) (d : Y' ≤ 6000000) : Rm M h X' Y' := ⟨by have := r.1; omega, by have := r.2.1; omega, c, d, r.2.2.2.2⟩
section
variable {M : Mem} {X0 Y0 N dC L e : Nat} {t : Int32} {Q : Nat → Int32} {S : St} {pb pt : List Row4}
set_option maxHeartbeats 1000000 in
theorem push1 (sx : SX M) (c : CL M dC L e) (p : HV M 63 (X0 + L / 16) (Y0 + 2 * L) t N Q S pb pt) (hX : X0 ≤ 100000) (hY : Y0 ≤ 1000000) (he : e < 760000) (x : Int32) : ∃ M' dC' L', f_X6_push 114 x M = some M' ∧ SX M' ∧ CL M' dC' L' (e + 1) ∧ HV M' 63 (X0 + L' / 16) (Y0 + 2 * L') t N Q S pb pt ∧ (∀ j, j < e → mI M' dC' j = mI M dC j) ∧ mI M' dC' e = x ∧ FrC M M' dC dC' := by
  obtain ⟨c1, c2, c3, c4, c5, c6, c7, c8, c9, c10, c11⟩ := id c
  have hN := sx.2.2.2.2
  have ha : (dC = 119 ∨ 131 ≤ dC) ∧ dC ≠ mR M 64 5 ∧ dC ≠ mR M 64 6 ∧ dC ≠ mR M 64 7 := ⟨c4, c9, c10, c11⟩
  have d114 : dC ≠ 114 := by omega
  by_cases g : e = L
  · -- a longer row
    have rm := p.2.2.2.1
    have hlen : mLn M (mR M (63 + 1) 5) ≤ 18000 := by
      obtain ⟨d5, d6, d7, len, K, fr, us, ow, w, _⟩ := p.2.1
      rw [w.1.1.1, w.1.2.2.1.1]
      exact w.2.2.2.2.2.2.2.2.2.1.2.2.2.1
    have cap : mN M + 1 ≤ CAP ∧ mU M + 2 * L ≤ CAPU := by
      have a := rm.1
      have b := rm.2.1
      unfold CAP CAPU
      omega
    have ec := f_copyOf c2 c3 (by omega) (by omega) cap.1 cap.2
    generalize hM1 : gw1 M dC 114 5 L = M1
    have io1 : ∀ c o, isO M c o → isO M1 c o := fun c o z => by rw [← hM1]; exact gw1_io z
    have hne : dC ≠ mN M := by have := c2.1; omega
    have i1 : ∀ o, o < mN M → ∀ b, mI M1 o b = mI M o b := fun o ho b => by rw [← hM1]; exact gw1_I _ _ _ _ _ _ (by omega)
    have r1 : ∀ o b, o < mN M → mR M1 o b = if o = 114 ∧ b = 5 then mN M else mR M o b := fun o b ho => by rw [← hM1]; exact gw1_R _ _ _ _ _ _ (by omega)
    have n1 : mN M1 = mN M + 1 := by rw [← hM1]; rfl
    have u1 : mU M1 = mU M + 2 * L := by rw [← hM1]; rfl
    have t1 : ∀ o, o < mN M → M1.1.2.1 o = M.1.2.1 o := fun o ho => by rw [← hM1, gw1_C, if_neg (by omega)]
    have w1 : isO M1 100 (mN M) := by rw [← hM1]; exact gw1_new _ _ _ _ _
    have l1 : mLn M1 (mN M) = 2 * L := by rw [← hM1]; exact gw1_ln' _ _ _ _ _
    have j1 : ∀ b, b < L → mI M1 (mN M) b = mI M dC b := fun b hb => by rw [← hM1]; exact gw1_J _ _ _ _ _ hne hb
    have L1 : ∀ o, o < mN M → ∀ b, mL M1 o b = mL M o b := fun o ho b => by rw [← hM1]; exact gw1_L _ _ _ _ _ _ (by omega)
    generalize hM2 : sI M1 (mN M) e x = M2
    generalize hM3 : sI M2 114 6 (nI (e + 1)) = M3
    have s3 : M3.1 = M1.1 := by rw [← hM3, ← hM2]; rfl
    have i3 : ∀ o, o < mN M → o ≠ 114 → ∀ b, mI M3 o b = mI M o b := fun o ho n b => by
      rw [← hM3, mI_o _ _ _ _ _ n, ← hM2, mI_o _ _ _ _ _ (by omega), i1 o ho]
    have i114 : ∀ b, b ≠ 6 → mI M3 114 b = mI M 114 b := fun b n => by
      rw [← hM3, mI_n _ _ _ _ n, ← hM2, mI_o _ _ _ _ _ (by omega), i1 114 (by omega)]
    have R3 : ∀ o b, mR M3 o b = mR M1 o b := fun o b => by unfold mR; rw [s3]
    have I3 : ∀ c o, isO M1 c o → isO M3 c o := fun c o z => by
      unfold isO mN mC at *
      rw [s3]; exact z
    have N3 : mN M3 = mN M + 1 := by unfold mN at *; rw [s3]; exact n1
    have U3 : mU M3 = mU M + 2 * L := by unfold mU at *; rw [s3]; exact u1
    have ln3 : ∀ o, mLn M3 o = mLn M1 o := fun o => by unfold mLn; rw [s3]
    have F : FrC M M3 dC (mN M) := by
      refine ⟨by omega, fun o ho => by rw [s3]; exact t1 o ho, fun o b ho n => ?_, fun o ho n _ b => i3 o ho n b, i114, fun o ho b => ?_, Or.inr (Nat.le_refl _)⟩
      · rw [R3, r1 o b ho, if_neg n]
      · rw [← hM3, ← hM2]; exact L1 o ho b
    have e64 : ∀ b, mR M3 64 b = mR M 64 b := fun b => by rw [R3, r1 64 b (by omega), if_neg (by omega)]
    have rm3 : Rm M3 63 (X0 + 2 * L / 16) (Y0 + 2 * (2 * L)) := by
      have a := rm.1
      have b := rm.2.1
      have l5 : mLn M3 (mR M3 (63 + 1) 5) = mLn M (mR M (63 + 1) 5) := by
        rw [show mR M3 (63 + 1) 5 = mR M (63 + 1) 5 from e64 5]
        obtain ⟨d5, d6, d7, len, K, fr, us, ow, w, _⟩ := p.2.1
        rw [w.1.1.1]
        rw [mLn, s3, t1 d5 w.1.2.1.1.1]; rfl
      refine ⟨?_, ?_, by omega, by omega, by rw [l5]; exact rm.2.2.2.2⟩
      · rw [l5, N3]; omega
      · rw [l5, U3]; omega
    have d57 : ∀ j, 5 ≤ j → j ≤ 7 → mR M 64 j < mN M := fun j a b => by
      obtain ⟨d5, d6, d7, len, K, fr, us, ow, w, _⟩ := p.2.1
      obtain ⟨⟨z5, z6, z7⟩, ⟨k5, k6, k7⟩, _⟩ := w.1
      have z5' : mR M 64 5 = d5 := z5
      have z6' : mR M 64 6 = d6 := z6
      have z7' : mR M 64 7 = d7 := z7
      have := k5.1
      have := k6.1
      have := k7.1
      rcases (show j = 5 ∨ j = 6 ∨ j = 7 by omega) with rfl | rfl | rfl <;> omega
    refine ⟨M3, mN M, 2 * L, ?_, sx.fr F, ⟨?_, I3 _ _ w1, by rw [ln3]; exact l1, Or.inr hN, ?_, by omega, by omega, by omega, ?_, ?_, ?_⟩, p.frC F ha rm3, fun j hj => ?_, ?_, F⟩
    · rw [f_X6_push, chk_t sx.1, c1, bnd_e, chk_t c2, c5, c3, n32, if_pos (by rw [g]), bnd_e, chk_t c2, show nI e * (2 : Int32) = nI (2 * L) by rw [show (2 : Int32) = nI 2 from rfl, pk_mul, g, Nat.mul_comm], ec, obd2_s]
      rw [chk_t (cp_io sx.1), chk_t (cp_new M dC L)]
      rw [show sR (cpI (nw M 100 (2 * L) (2 * L)) dC 0 (mN M) 0 L) 114 5 (mN M) = M1 from hM1, bnd_e, r1 114 5 (by omega), if_pos ⟨rfl, rfl⟩, bnd_e, chk_t w1, i1 114 (by omega), c5, l1, chk_t (inB_n (by omega) (by omega)), sI_d (by omega), hM2, bnd_e, show mI M2 114 6 = nI e by rw [← hM2, mI_o _ _ _ _ _ (by omega), i1 114 (by omega), c5], nI_1, hM3, bnd_e]
    · rw [R3, r1 114 5 (by omega), if_pos ⟨rfl, rfl⟩]
    · rw [← hM3, mI_s]
    · rw [e64]; have := d57 5 (by decide) (by decide); omega
    · rw [e64]; have := d57 6 (by decide) (by decide); omega
    · rw [e64]; have := d57 7 (by decide) (by decide); omega
    · rw [← hM3, mI_o _ _ _ _ _ (by omega), ← hM2, mI_n _ _ _ _ (by omega), j1 j (by omega)]
    · rw [← hM3, mI_o _ _ _ _ _ (by omega), ← hM2, mI_s]
  · generalize hM2 : sI M dC e x = M2
    generalize hM3 : sI M2 114 6 (nI (e + 1)) = M3
    have s3 : M3.1 = M.1 := by rw [← hM3, ← hM2]; rfl
    have F : FrC M M3 dC dC := by
      refine ⟨by unfold mN; rw [s3]; exact Nat.le_refl _, fun o _ => by rw [s3], fun o b _ _ => by unfold mR; rw [s3], fun o _ n1 n2 b => by rw [← hM3, mI_o _ _ _ _ _ n1, ← hM2, mI_o _ _ _ _ _ n2], fun b n => by rw [← hM3, mI_n _ _ _ _ n, ← hM2, mI_o _ _ _ _ _ (Ne.symm d114)], fun o _ b => by rw [← hM3, ← hM2]; rfl, Or.inl rfl⟩
    have R3 : ∀ o b, mR M3 o b = mR M o b := fun o b => by unfold mR; rw [s3]
    have rm3 : Rm M3 63 (X0 + L / 16) (Y0 + 2 * L) := by
      have rm := p.2.2.2.1
      unfold Rm mN mU mLn mR at rm ⊢
      rw [s3]; exact rm
    refine ⟨M3, dC, L, ?_, sx.fr F, ⟨by rw [R3]; exact c1, ?_, by unfold mLn at *; rw [s3]; exact c3, c4, by rw [← hM3, mI_s], by omega, c7, c8, by rw [R3]; exact c9, by rw [R3]; exact c10, by rw [R3]; exact c11⟩, p.frC F ha rm3, fun j hj => ?_, ?_, F⟩
    · rw [f_X6_push, chk_t sx.1, c1, bnd_e, chk_t c2, c5, c3, n32, if_neg (nI_ne (by omega) (by omega) g), bnd_e, chk_t c2, chk_t (inB_n (by omega) (by omega)), sI_d (by omega), hM2, bnd_e, show mI M2 114 6 = nI e by rw [← hM2, mI_o _ _ _ _ _ (Ne.symm d114), c5], nI_1, hM3, bnd_e]
    · unfold isO mN mC at *
      rw [s3]; exact c2
    · rw [← hM3, mI_o _ _ _ _ _ d114, ← hM2, mI_n _ _ _ _ (by omega)]
    · rw [← hM3, mI_o _ _ _ _ _ d114, ← hM2, mI_s]
end
/-! ===== the class keeps a state: a place ===== -/
def wms (S : St) (v : Nat) : Int32 := (xW S v).foldl (fun m w => bon m w.1) 0
theorem fb_b : ∀ (l : List Wtr) (m : Int32) (u : Nat), u < 32 → (∀ w, w ∈ l → w.1 < 32) → bt (l.foldl (fun m w => bon m w.1) m) u = (bt m u || decide (u ∈ l.map Prod.fst)) := by
  intro l
  induction l with
  | nil => intro m u _ _; simp
  | cons w l ih =>
    intro m u hu hw
    rw [List.foldl_cons, ih _ u hu (fun x hx => hw x (List.mem_cons_of_mem _ hx)), bt_on _ (hw w (by simp)) hu, List.map_cons]
    have e : decide (u ∈ w.1 :: l.map Prod.fst) = (decide (u = w.1) || decide (u ∈ l.map Prod.fst)) := by
      rw [← Bool.decide_or]
      congr 1
      rw [List.mem_cons]
    rw [e, Bool.or_assoc]
theorem wms_b {S : St} {v u : Nat} (hu : u < 32) (hw : ∀ w, w ∈ xW S v → w.1 < 16) : bt (wms S v) u = decide (u ∈ (xW S v).map Prod.fst) := by
  unfold wms
  rw [fb_b _ _ _ hu (fun w z => by have := hw w z; omega), b_0, Bool.false_or]
def wst (S : St) (v u : Nat) : Int32 := match (xW S v).find? (fun w => w.1 == u) with
  | none => 0
  | some w => w.2
def serP (S : St) (v : Nat) : List Int32 := [xR S 1 v, xR S 2 v, xR S 3 v, xR S 4 v, xR S 5 v, xR S 6 v, xR S 8 v, (if xR S 8 v = -1 then -1 else xR S 9 v), xR S 10 v, wms S v] ++ (ms (wms S v)).map (wst S v)
def SV (X0 Y0 : Nat) (t : Int32) (N : Nat) (Q : Nat → Int32) (pb pt : List Row4) (S : St) (M : Mem) (e dC : Nat) : Prop := ∃ L, SX M ∧ CL M dC L e ∧ HV M 63 (X0 + L / 16) (Y0 + 2 * L) t N Q S pb pt
def WS (X0 Y0 : Nat) (t : Int32) (N : Nat) (Q : Nat → Int32) (pb pt : List Row4) (S : St) (M : Mem) (e dC : Nat) (M' : Mem) (dC' : Nat) (xs : List Int32) : Prop := SV X0 Y0 t N Q pb pt S M' (e + xs.length) dC' ∧ (∀ j, j < e → mI M' dC' j = mI M dC j) ∧ (∀ i x, xs[i]? = some x → mI M' dC' (e + i) = x) ∧ FrC M M' dC dC'
section
variable {X0 Y0 N : Nat} {t : Int32} {Q : Nat → Int32} {S : St} {pb pt : List Row4} {M : Mem} {e dC : Nat}
theorem SV.ws (h : SV X0 Y0 t N Q pb pt S M e dC) : WS X0 Y0 t N Q pb pt S M e dC M dC [] := ⟨h, fun _ _ => rfl, fun i x hx => by simp at hx, FrC.rf M dC⟩
theorem WS.tr {M1 M2 : Mem} {d1 d2 : Nat} {xs ys : List Int32} (h : WS X0 Y0 t N Q pb pt S M e dC M1 d1 xs) (h' : WS X0 Y0 t N Q pb pt S M1 (e + xs.length) d1 M2 d2 ys) : WS X0 Y0 t N Q pb pt S M e dC M2 d2 (xs ++ ys) := by
  obtain ⟨a1, a2, a3, a4⟩ := h
  obtain ⟨b1, b2, b3, b4⟩ := h'
  refine ⟨by rw [List.length_append, ← Nat.add_assoc]; exact b1, fun j hj => (b2 j (by omega)).trans (a2 j hj), fun i x hx => ?_, a4.tr b4⟩
  by_cases c : i < xs.length
  · rw [List.getElem?_append_left c] at hx
    rw [b2 _ (by omega)]; exact a3 i x hx
  · rw [List.getElem?_append_right (by omega)] at hx
    have := b3 _ x hx
    rwa [show e + xs.length + (i - xs.length) = e + i by omega] at this
theorem SV.push (h : SV X0 Y0 t N Q pb pt S M e dC) (hX : X0 ≤ 100000) (hY : Y0 ≤ 1000000) (he : e < 760000) (x : Int32) : ∃ M' dC', f_X6_push 114 x M = some M' ∧ WS X0 Y0 t N Q pb pt S M e dC M' dC' [x] := by
  obtain ⟨L, sx, c, p⟩ := h
  obtain ⟨M', dC', L', e1, sx', c', p', a1, a2, f⟩ := push1 sx c p hX hY he x
  refine ⟨M', dC', e1, ⟨L', sx', c', p'⟩, a1, fun i y hy => ?_, f⟩
  cases i with
  | zero =>
    have : x = y := by simpa using hy
    rw [← this]; exact a2
  | succ i => simp at hy
theorem wst_e {v u : Nat} (hu : u ∈ (xW S v).map Prod.fst) : ∃ w, w ∈ xW S v ∧ w.1 = u ∧ wst S v u = w.2 := by
  obtain ⟨w, hw, rfl⟩ := List.mem_map.mp hu
  unfold wst
  cases e : (xW S v).find? (fun x => x.1 == w.1) with
  | none =>
    have := List.find?_eq_none.mp e w hw
    simp at this
  | some x =>
    have h1 := List.mem_of_find?_eq_some e
    have h2 := List.find?_some e
    exact ⟨x, h1, by simpa using h2, rfl⟩
theorem sp_l {v : Nat} (hX : X0 ≤ 100000) (hY : Y0 ≤ 1000000) (hv : v < 16) (hw : ∀ w, w ∈ xW S v → w.1 < 16) : ∀ (d j n : Nat) (M : Mem) (e dC : Nat), j + d = 16 → SV X0 Y0 t N Q pb pt S M e dC → e + d < 760000 → d + 1 ≤ n → ∃ M' dC', f_X6_savePlace_90 n 114 (63 + 17 + 2 * v) (nI j) M = some M' ∧ WS X0 Y0 t N Q pb pt S M e dC M' dC' (((List.range' j d).filter fun u => bt (wms S v) u).map (wst S v)) := by
  intro d
  induction d with
  | zero =>
    intro j n M e dC hj h he hn
    obtain ⟨n, rfl⟩ : ∃ m, n = m + 1 := ⟨n - 1, by omega⟩
    refine ⟨M, dC, ?_, h.ws⟩
    rw [f_X6_savePlace_90, if_pos (show (16 : Int32) ≤ nI j from nI_le (a := 16) (by omega) (by omega))]
  | succ d ih =>
    intro j n M e dC hj h he hn
    obtain ⟨n, rfl⟩ : ∃ m, n = m + 1 := ⟨n - 1, by omega⟩
    obtain ⟨L, sx, c, p⟩ := id h
    have q := p.1
    obtain ⟨a1, a2, a3, a4, a5⟩ := p.2.2.1.1 v hv
    have b9 : bt (mI M (63 + 17 + 2 * v) 9) j = bt (wms S v) j := by rw [a4 j (by omega), wms_b (by omega) hw]
    rw [List.range'_succ, List.filter_cons]
    have hd : ∀ y : Option Mem, (if (if bt (wms S v) j = true then (1 : Int32) else 0) = 0 then f_X6_savePlace_90 n 114 (63 + 17 + 2 * v) (nI (j + 1)) M else obd (f_X6_push 114 (mI M (63 + 18 + 2 * v) j) M) fun M16 => f_X6_savePlace_90 n 114 (63 + 17 + 2 * v) (nI (j + 1)) M16) = y → f_X6_savePlace_90 (n + 1) 114 (63 + 17 + 2 * v) (nI j) M = y := by
      intro y hy
      rw [f_X6_savePlace_90, if_neg (show ¬ (16 : Int32) ≤ nI j from nI_ge (a := j) (b := 16) (by omega) (by decide)), cs_po q hv, f_has9 _ (by omega), obd_s, b9, nI_1, bnd_e, cs_pr q hv, bnd_e, cs_pa q hv, cs_pi q hv (by omega), chk_t sx.1, mI_c (by omega)]
      exact hy
    by_cases z : bt (wms S v) j = true
    · rw [if_pos z]
      have hm : j ∈ (xW S v).map Prod.fst := by
        have := wms_b (S := S) (v := v) (u := j) (by omega) hw
        rw [z] at this
        exact of_decide_eq_true this.symm
      obtain ⟨w, w1, w2, w3⟩ := wst_e hm
      have r5 : mI M (63 + 18 + 2 * v) j = wst S v j := by rw [w3, ← w2]; exact a5 w w1
      obtain ⟨M1, d1, e1, W1⟩ := h.push hX hY (by omega) (wst S v j)
      obtain ⟨M2, d2, e2, W2⟩ := ih (j + 1) n M1 (e + 1) d1 (by omega) W1.1 (by omega) (by omega)
      refine ⟨M2, d2, hd _ ?_, W1.tr W2⟩
      rw [if_pos z, if_neg ne10, r5, e1, obd_s, e2]
    · rw [if_neg z]
      obtain ⟨M2, d2, e2, W2⟩ := ih (j + 1) n M e dC (by omega) h (by omega) (by omega)
      refine ⟨M2, d2, hd _ ?_, W2⟩
      rw [if_neg z, if_pos rfl, e2]
set_option maxHeartbeats 2000000 in
theorem SV.place (h : SV X0 Y0 t N Q pb pt S M e dC) (hX : X0 ≤ 100000) (hY : Y0 ≤ 1000000) {v n : Nat} (hv : v < 16) (hw : ∀ w, w ∈ xW S v → w.1 < 16) (h10 : xR S 10 v = 0 ∨ xR S 10 v = 1) (he : e + 30 < 760000) (hn : 20 ≤ n) : ∃ M' dC', f_X6_savePlace n 114 (63 + 17 + 2 * v) M = some M' ∧ WS X0 Y0 t N Q pb pt S M e dC M' dC' (serP S v) := by
  have st : ∀ {M : Mem} {e dC : Nat} (_ : SV X0 Y0 t N Q pb pt S M e dC), isO M 6 114 ∧ (∀ x : Option Mem, chk (isO M 4 (63 + 17 + 2 * v)) x = x) ∧ (∀ a k, (a, k) ∈ ft → mI M (63 + 17 + 2 * v) a = xR S k v) ∧ mI M (63 + 17 + 2 * v) 7 = (if xR S 8 v = -1 then -1 else xR S 9 v) ∧ mI M (63 + 17 + 2 * v) 9 = wms S v := fun h => by
    obtain ⟨L, sx, c, p⟩ := h
    obtain ⟨a1, a2, a3, a4, a5⟩ := p.2.2.1.1 v hv
    refine ⟨sx.1, fun x => cs_po p.1 hv x, fun a k z => a1 (a, k) z, a2, b_ext (fun i hi => ?_)⟩
    rw [a4 i hi, wms_b hi hw]
  obtain ⟨i0, c0, f0, _, _⟩ := st h
  obtain ⟨M1, d1, e1, W1⟩ := h.push hX hY (by omega) (xR S 1 v)
  obtain ⟨i1, c1, f1, _, _⟩ := st W1.1
  obtain ⟨M2, d2, e2, W2⟩ := W1.1.push hX hY (by show e + 1 < 760000; omega) (xR S 2 v)
  obtain ⟨i2, c2, f2, _, _⟩ := st W2.1
  obtain ⟨M3, d3, e3, W3⟩ := W2.1.push hX hY (by show e + 1 + 1 < 760000; omega) (xR S 3 v)
  obtain ⟨i3, c3, f3, _, _⟩ := st W3.1
  obtain ⟨M4, d4, e4, W4⟩ := W3.1.push hX hY (by show e + 1 + 1 + 1 < 760000; omega) (xR S 4 v)
  obtain ⟨i4, c4, f4, _, _⟩ := st W4.1
  obtain ⟨M5, d5, e5, W5⟩ := W4.1.push hX hY (by show e + 1 + 1 + 1 + 1 < 760000; omega) (xR S 5 v)
  obtain ⟨i5, c5, f5, _, _⟩ := st W5.1
  obtain ⟨M6, d6, e6, W6⟩ := W5.1.push hX hY (by show e + 1 + 1 + 1 + 1 + 1 < 760000; omega) (xR S 6 v)
  obtain ⟨i6, c6, f6, _, _⟩ := st W6.1
  obtain ⟨M7, d7, e7, W7⟩ := W6.1.push hX hY (by show e + 1 + 1 + 1 + 1 + 1 + 1 < 760000; omega) (xR S 8 v)
  obtain ⟨i7, c7, f7, g7, _⟩ := st W7.1
  obtain ⟨M8, d8, e8, W8⟩ := W7.1.push hX hY (by show e + 1 + 1 + 1 + 1 + 1 + 1 + 1 < 760000; omega) (if xR S 8 v = -1 then -1 else xR S 9 v)
  obtain ⟨i8, c8, f8, _, _⟩ := st W8.1
  obtain ⟨M9, d9, e9, W9⟩ := W8.1.push hX hY (by show e + 1 + 1 + 1 + 1 + 1 + 1 + 1 + 1 < 760000; omega) (xR S 10 v)
  obtain ⟨i9, c9, f9, _, g9⟩ := st W9.1
  obtain ⟨M10, d10, e10, W10⟩ := W9.1.push hX hY (by show e + 1 + 1 + 1 + 1 + 1 + 1 + 1 + 1 + 1 < 760000; omega) (wms S v)
  obtain ⟨M11, d11, e11, W11⟩ := sp_l hX hY hv hw 16 0 n M10 _ d10 rfl W10.1 (by show e + 1 + 1 + 1 + 1 + 1 + 1 + 1 + 1 + 1 + 1 + 16 < 760000; omega) (by omega)
  have W := (((((((((W1.tr W2).tr W3).tr W4).tr W5).tr W6).tr W7).tr W8).tr W9).tr W10).tr W11
  refine ⟨M11, d11, ?_, ?_⟩
  · have f77 : f_X6_savePlace_77 n 114 (63 + 17 + 2 * v) (xR S 10 v) 114 M8 = some M11 := by
      rw [f_X6_savePlace_77, chk_t i8, e9, obd_s, c9, chk_t i9, g9, e10, obd_s]
      exact e11
    rw [f_X6_savePlace, c0, chk_t i0, f0 0 1 (by decide), e1, obd_s, c1, chk_t i1, f1 1 2 (by decide), e2, obd_s, c2, chk_t i2, f2 2 3 (by decide), e3, obd_s, c3, chk_t i3, f3 3 4 (by decide), e4, obd_s, c4, chk_t i4, f4 4 5 (by decide), e5, obd_s, c5, chk_t i5, f5 5 6 (by decide), e6, obd_s, c6, chk_t i6, f6 6 8 (by decide), e7, obd_s, c7, chk_t i7, g7, e8, obd_s, c8, f8 8 10 (by decide)]
    rcases h10 with z | z
    · rw [z] at f77 ⊢
      rw [if_pos rfl]; exact f77
    · rw [z] at f77 ⊢
      rw [if_neg ne10]; exact f77
  · unfold serP ms
    rw [List.range_eq_range']
    exact W
end
