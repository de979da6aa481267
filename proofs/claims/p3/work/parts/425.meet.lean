/-! ===== the class meets a state ===== -/
theorem offs_mono {N : Nat} {l : List (St × Nat)} : ∀ (d i : Nat), offs N l i ≤ offs N l (i + d) := by
  intro d
  induction d with
  | zero => intro i; exact Nat.le_refl _
  | succ d ih =>
    intro i
    refine Nat.le_trans (ih i) ?_
    rw [show i + (d + 1) = i + d + 1 by omega]
    cases e : l[i + d]? with
    | none =>
      have z := List.getElem?_eq_none_iff.mp e
      unfold offs
      rw [List.take_of_length_le z, List.take_of_length_le (by omega)]
      exact Nat.le_refl _
    | some p => rw [offs_s e]; omega
theorem offs_ap {N : Nat} {l : List (St × Nat)} {p : St × Nat} {i : Nat} (h : i ≤ l.length) : offs N (l ++ [p]) i = offs N l i := by
  unfold offs
  rw [List.take_append_of_le_length h]
def cDp (l : List (St × Nat)) : Nat := l.foldl (fun m p => max m p.2) 0
theorem cDp_s (l : List (St × Nat)) (p : St × Nat) : cDp (l ++ [p]) = max (cDp l) p.2 := by
  unfold cDp
  rw [List.foldl_append]
  rfl
theorem cMx_le {l : List (St × Nat)} {m : Nat} (h : ∀ p, p ∈ l → (fl p.1).length ≤ m) : cMx l ≤ m := by
  unfold cMx
  have : ∀ (l : List (St × Nat)) (a : Nat), a ≤ m → (∀ p, p ∈ l → (fl p.1).length ≤ m) → l.foldl (fun m p => max m (fl p.1).length) a ≤ m := by
    intro l
    induction l with
    | nil => intro a ha _; exact ha
    | cons x l ih =>
      intro a ha hl
      rw [List.foldl_cons]
      exact ih _ (Nat.max_le.mpr ⟨ha, hl x (by simp)⟩) (fun p hp => hl p (List.mem_cons_of_mem _ hp))
  exact this l 0 (Nat.zero_le _) h
theorem cDp_le {l : List (St × Nat)} {m : Nat} (h : ∀ p, p ∈ l → p.2 ≤ m) : cDp l ≤ m := by
  unfold cDp
  have : ∀ (l : List (St × Nat)) (a : Nat), a ≤ m → (∀ p, p ∈ l → p.2 ≤ m) → l.foldl (fun m p => max m p.2) a ≤ m := by
    intro l
    induction l with
    | nil => intro a ha _; exact ha
    | cons x l ih =>
      intro a ha hl
      rw [List.foldl_cons]
      exact ih _ (Nat.max_le.mpr ⟨ha, hl x (by simp)⟩) (fun p hp => hl p (List.mem_cons_of_mem _ hp))
  exact this l 0 (Nat.zero_le _) h
/-- the states met and what is counted of them, as the class holds them -/
def SQ (N : Nat) (ask : Int32) (sn : Nat → Int32) (most : Nat) (M : Mem) (e dC : Nat) (q : Bq) : Prop := XQ N M dC q.1 ∧ offs N q.1 q.1.length ≤ e ∧ mI M 114 10 = nI q.1.length ∧ mI M 114 8 = nI most ∧ mI M 114 9 = ask ∧ (∀ v, v < N → mI M 118 v = sn v) ∧ mI M 114 11 = nI (cTwo N q.1) ∧ mI M 114 12 = nI (cStk N ask sn q.1) ∧ mI M 114 13 = nI (cMx q.1) ∧ mI M 114 14 = nI (cDp q.1) ∧ mI M 114 15 = (if q.2 then 1 else 0) ∧ ∀ (i : Nat) (p : St × Nat), q.1[i]? = some p → mI M 117 i = mkS p.1 2
/-- the search alone has changed -/
def FrQ (M M' : Mem) (dC dC' : Nat) : Prop := mN M ≤ mN M' ∧ (∀ o, o < mN M → M'.1.2.1 o = M.1.2.1 o) ∧ (∀ o b, o < mN M → ¬ (o = 114 ∧ b = 5) → mR M' o b = mR M o b) ∧ (∀ o, o < mN M → ¬ (114 ≤ o ∧ o ≤ 118) → o ≠ dC → ∀ b, mI M' o b = mI M o b) ∧ (∀ o, o < mN M → ∀ b, mL M' o b = mL M o b) ∧ (dC' = dC ∨ mN M ≤ dC')
theorem FrC.q {M M' : Mem} {a b : Nat} (f : FrC M M' a b) : FrQ M M' a b := by
  obtain ⟨f1, f2, f3, f4, f5, f6, f7⟩ := f
  exact ⟨f1, f2, f3, fun o ho n1 n2 => f4 o ho (by omega) n2, f6, f7⟩
theorem FrQ.tr {M M' M'' : Mem} {a b c : Nat} (h : FrQ M M' a b) (h' : FrQ M' M'' b c) : FrQ M M'' a c := by
  obtain ⟨a1, a2, a3, a4, a6, a7⟩ := h
  obtain ⟨b1, b2, b3, b4, b6, b7⟩ := h'
  refine ⟨Nat.le_trans a1 b1, fun o ho => (b2 o (by omega)).trans (a2 o ho), fun o k ho n => (b3 o k (by omega) n).trans (a3 o k ho n), fun o ho n1 n2 k => (b4 o (by omega) n1 (by omega) k).trans (a4 o ho n1 n2 k), fun o ho k => (b6 o (by omega) k).trans (a6 o ho k), by omega⟩
theorem FrQ.of {M M' : Mem} {dC : Nat} (s : M'.1 = M.1) (hI : ∀ o, ¬ (114 ≤ o ∧ o ≤ 118) → ∀ b, mI M' o b = mI M o b) (hL : ∀ o b, mL M' o b = mL M o b) : FrQ M M' dC dC :=
  ⟨by unfold mN; rw [s]; exact Nat.le_refl _, fun o _ => by rw [s], fun o b _ _ => by unfold mR; rw [s], fun o _ n _ b => hI o n b, fun o _ b => hL o b, Or.inl rfl⟩
theorem knw_ser {N A P most : Nat} {S0 S Sm : St} {q : Bq} (h16 : N ≤ 16) (hA : A + 50 < 1048576) (h40 : most ≤ 40) (hP : P + 40 * N < 9000) {dd : Nat} (hdd : dd ≤ 40) (gq : GQ N A P most S0 q) (g : GS N A P S0 S dd) (hm : SE S Sm) : knw q.1 Sm = true ↔ ∃ j p, 0 ≤ j ∧ q.1[j]? = some p ∧ ser N p.1 = ser N S := by
  have hfl : ∀ {T : St} {d : Nat}, GS N A P S0 T d → d ≤ 40 → (fl T).length < 9000 := fun {T d} gT hd => by
    have := gT.2.1.2.2
    have : N * d ≤ N * 40 := Nat.mul_le_mul_left _ hd
    have := fl_PhS T
    omega
  rw [knw_t]
  constructor
  · rintro ⟨p, hp, se⟩
    obtain ⟨j, hj, ej⟩ := List.mem_iff_getElem.mp hp
    exact ⟨j, p, Nat.zero_le _, by rw [List.getElem?_eq_getElem hj, ej], ser_c (se.tr hm.sy) h16⟩
  · rintro ⟨j, p, _, hj, es⟩
    refine ⟨p, List.mem_of_getElem? hj, ?_⟩
    obtain ⟨g1, g2⟩ := gq.2.2 j p hj
    have hl := gl_lt hj
    have := gq.1
    have l1 := hfl g2 (by omega)
    have l2 := hfl g hdd
    exact (ser_i es h16 g2.1 g.1 (by omega) (by omega) (g2.2.2.1.ss g.2.2.1) (fun k hk i hi => (g.2.2.2 k hk i hi).trans (g2.2.2.2 k hk i hi).symm) (fun l c => by
      have a := ln_l (S := p.1) c (by omega)
      have b := ln_l (S := S) c (by omega)
      exact ⟨by omega, by omega⟩)).tr hm
