/-! ===== alike states have like rows ===== -/
def lq (q : Nat × Ltr) : Nat × (Int32 × Int32) := (q.1, lk q.2)
theorem fl_fm (L : Nat → List Ltr) (m : Nat) : ∀ n, ((List.range n).flatMap fun l => (L l).map fun x => (l, x)).filterMap (fun q => if q.1 = m then some (lk q.2) else none) = if m < n then (L m).map lk else [] := by
  have one : ∀ (n : Nat) (l : List Ltr), (l.map fun x => (n, x)).filterMap (fun q => if q.1 = m then some (lk q.2) else none) = if n = m then l.map lk else [] := by
    intro n l
    induction l with
    | nil => split <;> rfl
    | cons x r ih =>
      rw [List.map_cons, List.filterMap_cons]
      by_cases c : n = m
      · rw [if_pos c] at ih ⊢
        simp only [c, if_true]
        rw [List.map_cons, ← ih, c]
      · rw [if_neg c] at ih ⊢
        simp only [c, if_false]
        exact ih
  intro n
  induction n with
  | zero => rfl
  | succ n ih =>
    rw [List.range_succ, List.flatMap_append, List.filterMap_append, ih, List.flatMap_cons, List.flatMap_nil, List.append_nil, one]
    by_cases c : n = m
    · subst c
      rw [if_neg (Nat.lt_irrefl _), if_pos rfl, if_pos (by omega)]
      rfl
    · rw [if_neg c, List.append_nil]
      by_cases d : m < n
      · rw [if_pos d, if_pos (by omega)]
      · rw [if_neg d, if_neg (by omega)]
theorem fl_lk {S S' : St} : (∀ l, l < 256 → (xL S l).map lk = (xL S' l).map lk) ↔ (fl S).map lq = (fl S').map lq := by
  constructor
  · intro h
    unfold fl
    rw [List.map_flatMap, List.map_flatMap]
    refine fm_cg _ (fun l hl => ?_)
    have := h l (List.mem_range.mp hl)
    rw [List.map_map, List.map_map]
    have e : ∀ L : List Ltr, L.map (lq ∘ fun x => (l, x)) = (L.map lk).map (fun y => (l, y)) := fun L => by rw [List.map_map]; rfl
    rw [e, e, this]
  · intro h l hl
    have g : ∀ S : St, (xL S l).map lk = ((fl S).map lq).filterMap (fun q => if q.1 = l then some q.2 else none) := fun S => by
      rw [List.filterMap_map]
      have := fl_fm (xL S) l 256
      rw [if_pos hl] at this
      rw [← this]
      rfl
    rw [g S, g S', h]
theorem fl_mm {S : St} {q : Nat × Ltr} (h : q ∈ fl S) : q.1 < 256 ∧ q.2 ∈ xL S q.1 := by
  unfold fl at h
  obtain ⟨l, hl, hq⟩ := List.mem_flatMap.mp h
  obtain ⟨x, hx, rfl⟩ := List.mem_map.mp hq
  exact ⟨List.mem_range.mp hl, hx⟩
theorem enc_inj {q q' : Nat × Ltr} (h : q.1 < 256) (h' : q'.1 < 256) (l : Lok q.2) (l' : Lok q'.2) (e : enc q = enc q') : lq q = lq q' := by
  obtain ⟨⟨k, hk, ek⟩, s, hs, es⟩ := l
  obtain ⟨⟨k', hk', ek'⟩, s', hs', es'⟩ := l'
  have a := enc_pair h
  have a' := enc_pair h'
  have b := enc_kind h (show k < 8 by omega) ek
  have b' := enc_kind h' (show k' < 8 by omega) ek'
  have c := enc_stamp h (show k < 8 by omega) ek hs es
  have c' := enc_stamp h' (show k' < 8 by omega) ek' hs' es'
  rw [e] at a b c
  have e1 := (nI_eq (by omega) (by omega)).mp (a.symm.trans a')
  have e2 := b.symm.trans b'
  have e3 := c.symm.trans c'
  unfold lq lk
  rw [e1, ek, ek', e2, es, es', e3]
theorem enc_c {q q' : Nat × Ltr} (e : lq q = lq q') : enc q = enc q' := by
  unfold lq lk at e
  obtain ⟨e1, e2⟩ := Prod.mk.inj e
  obtain ⟨e3, e4⟩ := Prod.mk.inj e2
  unfold enc
  rw [e1, e3, e4]
theorem len_lq {S S' : St} (h : (fl S).map lq = (fl S').map lq) : (fl S).length = (fl S').length := by
  have := congrArg List.length h
  rwa [List.length_map, List.length_map] at this
section
variable {M M' : Mem} {tw tw' : Bool} {t t' : Int32} {S S' : St} {pb pt pb' pt' : List Row4}
theorem SE_of_cells {N A A' : Nat} (h16 : N ≤ 16) (p : RV M tw t S pb pt) (p' : RV M' tw' t' S' pb' pt') (hI : Inv N A S) (hI' : Inv N A' S') (hA : A < 1048576) (hA' : A' < 1048576) (hq : Qk S S') (h : ∀ k, k < 833 + (fl S').length → mI M 121 (18 + k) = mI M' 121 (18 + k)) : SE S S' := by
  have l1 := p.2.2.2.2.1
  have l2 := p'.2.2.2.2.1
  have hL : (fl S).length = (fl S').length := by
    have := h 832 (by omega)
    exact (nI_eq (by have := l1.2.1; omega) (by have := l2.2.1; omega)).mp (l1.1.symm.trans (this.trans l2.1))
  refine ⟨fun k i hk hi => ?_, fun a ha => ?_, fl_lk.mpr ?_⟩
  · by_cases c : k < 11
    · have hv : vk k i := by unfold vk; omega
      have a := ad_cases hv
      have e1 := p.rg hv
      have e2 := p'.rg hv
      rw [← e1, ← e2]
      have := h (ad k i - 18) (by omega)
      rwa [show 18 + (ad k i - 18) = ad k i by omega] at this
    · exact (hq k (by omega) i).symm
  · obtain ⟨a1, a2, a3, _⟩ := p.2.2.2.1 a ha
    obtain ⟨b1, b2, b3, _⟩ := p'.2.2.2.1 a ha
    have el : (xW S a).length = (xW S' a).length := by
      have := h (131 + 44 * a) (by omega)
      rw [show 18 + (131 + 44 * a) = 149 + 44 * a by omega, a1, b1] at this
      exact (nI_eq (by omega) (by omega)).mp this
    apply List.ext_getElem?
    intro i
    cases e1 : (xW S a)[i]? with
    | none =>
      have : (xW S' a)[i]? = none := by
        rw [List.getElem?_eq_none_iff] at e1 ⊢
        omega
      rw [this]
    | some q =>
      cases e2 : (xW S' a)[i]? with
      | none =>
        rw [List.getElem?_eq_none_iff] at e2
        have : (xW S a)[i]? = none := by rw [List.getElem?_eq_none_iff]; omega
        rw [this] at e1; cases e1
      | some q' =>
        have hi : i < (xW S a).length := by
          rcases Nat.lt_or_ge i (xW S a).length with z | z
          · exact z
          · rw [List.getElem?_eq_none z] at e1; cases e1
        have w1 := (hI.2.2.2.2.2.1 a ha).1.2.2 q (List.mem_of_getElem? e1)
        have w2 := (hI'.2.2.2.2.2.1 a ha).1.2.2 q' (List.mem_of_getElem? e2)
        obtain ⟨c1, c2⟩ := a3 i q e1
        obtain ⟨d1, d2⟩ := b3 i q' e2
        have f1 := h (132 + 44 * a + 2 * i) (by omega)
        have f2 := h (133 + 44 * a + 2 * i) (by omega)
        rw [show 18 + (132 + 44 * a + 2 * i) = 150 + 44 * a + 2 * i by omega, c1, d1] at f1
        rw [show 18 + (133 + 44 * a + 2 * i) = 151 + 44 * a + 2 * i by omega, c2, d2] at f2
        have := (nI_eq (by have := w1.1; omega) (by have := w2.1; omega)).mp f1
        rw [Prod.ext this f2]
  · apply List.ext_getElem?
    intro i
    rw [List.getElem?_map, List.getElem?_map]
    cases e1 : (fl S)[i]? with
    | none =>
      have : (fl S')[i]? = none := by
        rw [List.getElem?_eq_none_iff] at e1 ⊢
        omega
      rw [this]
    | some q =>
      cases e2 : (fl S')[i]? with
      | none =>
        rw [List.getElem?_eq_none_iff] at e2
        have : (fl S)[i]? = none := by rw [List.getElem?_eq_none_iff]; omega
        rw [this] at e1; cases e1
      | some q' =>
        have hi : i < (fl S').length := by
          rcases Nat.lt_or_ge i (fl S').length with z | z
          · exact z
          · rw [List.getElem?_eq_none z] at e2; cases e2
        have c1 := (l1.2.2 i q e1).1
        have c2 := (l2.2.2 i q' e2).1
        have f1 := h (833 + i) (by omega)
        rw [show 18 + (833 + i) = 851 + (0 + i) by omega, c1, c2] at f1
        have m1 := fl_mm (List.mem_of_getElem? e1)
        have m2 := fl_mm (List.mem_of_getElem? e2)
        show some (lq q) = some (lq q')
        rw [enc_inj m1.1 m2.1 (Lok_of hI hA m1.1 m1.2) (Lok_of hI' hA' m2.1 m2.2) f1]
theorem cells_of_SE (p : RV M tw t S pb pt) (p' : RV M' tw' t' S' pb' pt') (h : SE S S') : ∀ k, k < 833 + (fl S').length → mI M 121 (18 + k) = mI M' 121 (18 + k) := by
  intro k hk
  have hm := fl_lk.mp h.2.2
  have hL := len_lq hm
  have l1 := p.2.2.2.2.1
  have l2 := p'.2.2.2.2.1
  have reg : ∀ k' i, k' < 11 → i < 16 → mI M 121 (ad k' i) = mI M' 121 (ad k' i) := fun k' i a b => by
    have hv : vk k' i := by unfold vk; omega
    rw [p.rg hv, p'.rg hv, h.1 k' i (Or.inl a) b]
  by_cases c1 : k < 128
  · have e : 18 + k = ad (k % 8) (k / 8) := by
      have a := ad_cases (k := k % 8) (i := k / 8) (by unfold vk; omega)
      omega
    rw [e]
    exact reg _ _ (by omega) (by omega)
  · by_cases c2 : k < 832
    · generalize ha : (k - 128) / 44 = a
      generalize hr : (k - 128) % 44 = r
      have a16 : a < 16 := by omega
      have ek : 18 + k = 146 + 44 * a + r := by omega
      rw [ek]
      obtain ⟨a1, a2, a3, a4⟩ := p.2.2.2.1 a a16
      obtain ⟨b1, b2, b3, b4⟩ := p'.2.2.2.1 a a16
      have eW := h.2.1 a a16
      by_cases d1 : r < 3
      · have e : 146 + 44 * a + r = ad (8 + r) a := by
          have z := ad_cases (k := 8 + r) (i := a) (by unfold vk; omega)
          omega
        rw [e]
        exact reg _ _ (by omega) a16
      · by_cases d2 : r = 3
        · rw [d2, show 146 + 44 * a + 3 = 149 + 44 * a by omega, a1, b1, eW]
        · generalize hm' : (r - 4) / 2 = m
          have r44 : r < 44 := by omega
          have m20 : m < 20 := by omega
          have both : mI M 121 (150 + 44 * a + 2 * m) = mI M' 121 (150 + 44 * a + 2 * m) ∧ mI M 121 (151 + 44 * a + 2 * m) = mI M' 121 (151 + 44 * a + 2 * m) := by
            cases e1 : (xW S a)[m]? with
            | none =>
              have z := List.getElem?_eq_none_iff.mp e1
              have z' : (xW S' a).length ≤ m := by rw [← eW]; exact z
              rw [(a4 m z m20).1, (a4 m z m20).2, (b4 m z' m20).1, (b4 m z' m20).2]
              exact ⟨rfl, rfl⟩
            | some q =>
              have e2 : (xW S' a)[m]? = some q := by rw [← eW]; exact e1
              rw [(a3 m q e1).1, (a3 m q e1).2, (b3 m q e2).1, (b3 m q e2).2]
              exact ⟨rfl, rfl⟩
          by_cases d3 : (r - 4) % 2 = 0
          · rw [show 146 + 44 * a + r = 150 + 44 * a + 2 * m by omega]; exact both.1
          · rw [show 146 + 44 * a + r = 151 + 44 * a + 2 * m by omega]; exact both.2
    · by_cases c3 : k = 832
      · rw [c3]
        exact l1.1.trans ((congrArg nI hL).trans l2.1.symm)
      · have hi : k - 833 < (fl S').length := by omega
        obtain ⟨q', e2⟩ : ∃ q', (fl S')[k - 833]? = some q' := ⟨_, List.getElem?_eq_getElem hi⟩
        obtain ⟨q, e1⟩ : ∃ q, (fl S)[k - 833]? = some q := ⟨_, List.getElem?_eq_getElem (by omega)⟩
        have f : some (lq q) = some (lq q') := by
          have := congrArg (fun l => l[k - 833]?) hm
          simp only [List.getElem?_map] at this
          rw [e1, e2] at this
          exact this
        have c1' := (l1.2.2 _ q e1).1
        have c2' := (l2.2.2 _ q' e2).1
        rw [show 18 + k = 851 + (0 + (k - 833)) by omega, c1', c2', enc_c (Option.some.inj f)]
end
