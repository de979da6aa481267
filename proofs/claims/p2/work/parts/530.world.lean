/-! ===== the class's objects, all of them ===== -/
/-- the gate's own references -/
def XG (M : Mem) : Prop := isO M 9 0 ∧ mR M 0 0 = 1 ∧ mR M 0 1 = 5 ∧ mR M 0 2 = 14 ∧ mR M 0 3 = 63 ∧ mR M 0 4 = 112 ∧ mR M 0 5 = 114
/-- the clock's ways -/
def XC (M : Mem) (S : St) : Prop := isO M 0 112 ∧ mR M 112 0 = 113 ∧ isO M 100 113 ∧ mLn M 113 = 256 ∧ ∀ l, l < 256 → mI M 113 l = xR S 19 l ∧ ∃ d, 1 ≤ d ∧ d ≤ 9 ∧ xR S 19 l = nI d
/-- the survey's rows -/
def XV0 (M : Mem) (N : Nat) : Prop := (isO M 8 5 ∧ isO M 1 6 ∧ isO M 101 7 ∧ isO M 1 8 ∧ isO M 101 9 ∧ isO M 101 10 ∧ isO M 100 11 ∧ isO M 100 12 ∧ isO M 100 13) ∧ (mR M 5 0 = 6 ∧ mR M 5 1 = 8 ∧ mR M 5 2 = 10 ∧ mR M 5 3 = 11 ∧ mR M 5 4 = 12 ∧ mR M 5 5 = 13 ∧ mR M 6 0 = 7 ∧ mR M 8 0 = 9) ∧ (mLn M 7 = 1024 ∧ mLn M 9 = 1024 ∧ mLn M 10 = 17 ∧ mLn M 11 = 305 ∧ mLn M 12 = 16 ∧ mLn M 13 = 16) ∧ (mI M 5 7 = 0 ∨ (mI M 5 7 = 1 ∧ mI M 6 1 = nI N ∧ mI M 6 2 = nI (us6 N) ∧ mI M 8 1 = nI N ∧ mI M 8 2 = nI (us6 N)))
def XV (M : Mem) (N : Nat) (S : St) : Prop := XV0 M N ∧ (mI M 5 7 = 1 → CT M N S)
/-- the rooms: objects and slots, by the rows that grow -/
def GR (M : Mem) (L : Nat) : Prop := mN M * 64 ≤ 8384 + 3 * mLn M (mR M 15 5) + 3 * mLn M (mR M 64 5) + L / 16 ∧ mU M ≤ 900000 + 6 * mLn M (mR M 15 5) + 6 * mLn M (mR M 64 5) + 2 * L ∧ (∃ z, mLn M (mR M 15 5) = 64 * 2 ^ z) ∧ (∃ z, mLn M (mR M 64 5) = 64 * 2 ^ z) ∧ mLn M (mR M 15 5) ≤ 18000 ∧ mLn M (mR M 64 5) ≤ 18000
theorem GR.r14 {M : Mem} {L : Nat} (g : GR M L) (hL : L ≤ 1520000) : Rm M 14 (8384 + 3 * mLn M (mR M 64 5) + L / 16) (900000 + 6 * mLn M (mR M 64 5) + 2 * L) := by
  obtain ⟨a, b, c, d, e, f⟩ := g
  exact ⟨by show mN M * 64 ≤ _ + 3 * mLn M (mR M 15 5); omega, by show mU M ≤ _ + 6 * mLn M (mR M 15 5); omega, by omega, by omega, c⟩
theorem GR.r63 {M : Mem} {L : Nat} (g : GR M L) (hL : L ≤ 1520000) : Rm M 63 (8384 + 3 * mLn M (mR M 15 5) + L / 16) (900000 + 6 * mLn M (mR M 15 5) + 2 * L) := by
  obtain ⟨a, b, c, d, e, f⟩ := g
  exact ⟨by show mN M * 64 ≤ _ + 3 * mLn M (mR M 64 5); omega, by show mU M ≤ _ + 6 * mLn M (mR M 64 5); omega, by omega, by omega, d⟩
theorem HV.rm {M : Mem} {h X Y X' Y' N : Nat} {t : Int32} {Q : Nat → Int32} {S : St} {pb pt : List Row4} (p : HV M h X Y t N Q S pb pt) (r : Rm M h X' Y') : HV M h X' Y' t N Q S pb pt :=
  ⟨p.1, p.2.1, p.2.2.1, r, p.2.2.2.2⟩
/-- the trial and the search, between calls -/
def XS (M : Mem) (L : Nat) : Prop := ∃ e dC e5 e6 e7 len pb pt, SX M ∧ CL M dC L e ∧ CS M 63 ∧ (DS M 63 e5 e6 e7 len ∧ 64 ≤ len ∧ len ≤ 18000) ∧ (LG M 74 30 pb ∧ LG M 76 40 pt) ∧ mI M 115 0 = 0 ∧ ∀ j, 5 ≤ j → j ≤ 7 → dC ≠ mR M 15 j ∧ ∀ i, 5 ≤ i → i ≤ 7 → mR M 64 i ≠ mR M 15 j
def CW (M : Mem) (N : Nat) (Q : Nat → Int32) (S : St) : Prop := ∃ X Y L, HV M 14 X Y 0 N Q S [] [] ∧ SB M N S ∧ XG M ∧ XC M S ∧ XV M N S ∧ XS M L ∧ GR M L ∧ L ≤ 1520000
/-- shapes and references stay, but of the letters' rows and the cells -/
def Shp1 (M M' : Mem) : Prop := mN M ≤ mN M' ∧ (∀ i, i < mN M → M'.1.2.1 i = M.1.2.1 i) ∧ ∀ a b, a < mN M → ¬ ((a = 15 ∨ a = 64 ∨ a = 114) ∧ 5 ≤ b ∧ b ≤ 7) → mR M' a b = mR M a b
theorem Shp1.io {M M' : Mem} (s : Shp1 M M') {c o : Nat} (h : isO M c o) : isO M' c o := ⟨by have := s.1; have := h.1; omega, by rw [mC, s.2.1 o h.1]; exact h.2⟩
theorem Shp1.ln {M M' : Mem} (s : Shp1 M M') {o : Nat} (h : o < mN M) : mLn M' o = mLn M o := by rw [mLn, s.2.1 o h]; rfl
theorem XG.s {M M' : Mem} (h : XG M) (s : Shp1 M M') : XG M' := by
  obtain ⟨a, b, c, d, e, f, g⟩ := h
  have := a.1
  have r : ∀ k, mR M' 0 k = mR M 0 k := fun k => s.2.2 0 k (by omega) (by omega)
  exact ⟨s.io a, by rw [r]; exact b, by rw [r]; exact c, by rw [r]; exact d, by rw [r]; exact e, by rw [r]; exact f, by rw [r]; exact g⟩
theorem XC.s {M M' : Mem} {S S' : St} (h : XC M S) (s : Shp1 M M') (hi : ∀ b, mI M' 113 b = mI M 113 b) (h19 : ∀ l, l < 256 → xR S' 19 l = xR S 19 l) : XC M' S' := by
  obtain ⟨a, b, c, d, e⟩ := h
  have := a.1
  have := c.1
  exact ⟨s.io a, by rw [s.2.2 112 0 (by omega) (by omega)]; exact b, s.io c, by rw [s.ln (by omega)]; exact d, fun l hl => ⟨by rw [hi, h19 l hl]; exact (e l hl).1, by rw [h19 l hl]; exact (e l hl).2⟩⟩
theorem XV0.s {M M' : Mem} {N : Nat} (h : XV0 M N) (s : Shp1 M M') (h5 : ∀ b, mI M' 5 b = mI M 5 b) (h6 : ∀ b, mI M' 6 b = mI M 6 b) (h8 : ∀ b, mI M' 8 b = mI M 8 b) : XV0 M' N := by
  obtain ⟨⟨a1, a2, a3, a4, a5, a6, a7, a8, a9⟩, ⟨b1, b2, b3, b4, b5, b6, b7, b8⟩, ⟨c1, c2, c3, c4, c5, c6⟩, d⟩ := h
  have := a9.1
  have r : ∀ o k, o < 14 → mR M' o k = mR M o k := fun o k ho => s.2.2 o k (by omega) (by omega)
  have l : ∀ o, o < 14 → mLn M' o = mLn M o := fun o ho => s.ln (by omega)
  refine ⟨⟨s.io a1, s.io a2, s.io a3, s.io a4, s.io a5, s.io a6, s.io a7, s.io a8, s.io a9⟩, ⟨?_, ?_, ?_, ?_, ?_, ?_, ?_, ?_⟩, ⟨?_, ?_, ?_, ?_, ?_, ?_⟩, by rw [h5, h6, h6, h8, h8]; exact d⟩
  · rw [r _ _ (by decide)]; exact b1
  · rw [r _ _ (by decide)]; exact b2
  · rw [r _ _ (by decide)]; exact b3
  · rw [r _ _ (by decide)]; exact b4
  · rw [r _ _ (by decide)]; exact b5
  · rw [r _ _ (by decide)]; exact b6
  · rw [r _ _ (by decide)]; exact b7
  · rw [r _ _ (by decide)]; exact b8
  · rw [l _ (by decide)]; exact c1
  · rw [l _ (by decide)]; exact c2
  · rw [l _ (by decide)]; exact c3
  · rw [l _ (by decide)]; exact c4
  · rw [l _ (by decide)]; exact c5
  · rw [l _ (by decide)]; exact c6
theorem XV.s {M M' : Mem} {N : Nat} {S S' : St} (h : XV M N S) (s : Shp1 M M') (h5 : ∀ b, mI M' 5 b = mI M 5 b) (h6 : ∀ b, mI M' 6 b = mI M 6 b) (h8 : ∀ b, mI M' 8 b = mI M 8 b) (hl : mI M 5 7 = 1 → ∀ o, o = 7 ∨ o = 9 → ∀ b, mL M' o b = mL M o b) (hR : ∀ v, xR S' 17 v = xR S 17 v) (ht : xR S' 20 1 = xR S 20 1) : XV M' N S' :=
  ⟨h.1.s s h5 h6 h8, fun z => by
    rw [h5] at z
    exact (h.2 z).cg (hl z 7 (Or.inl rfl)) (hl z 9 (Or.inr rfl)) hR ht⟩
theorem FrW4.s1 {M M' : Mem} (f : FrW4 M M' 14) : Shp1 M M' := ⟨f.1, f.2.1, fun a b ha n => f.2.2.1 a b ha (by omega)⟩
/-- where the hall's letters lie -/
theorem HV.d57 {M : Mem} {h X Y N : Nat} {t : Int32} {Q : Nat → Int32} {S : St} {pb pt : List Row4} (p : HV M h X Y t N Q S pb pt) : ∀ i, 5 ≤ i → i ≤ 7 → (mR M (h + 1) i = h + 2 + i ∨ 131 ≤ mR M (h + 1) i) ∧ mR M (h + 1) i < mN M ∧ 64 ≤ mLn M (mR M (h + 1) 5) ∧ mLn M (mR M (h + 1) 5) ≤ 18000 := by
  obtain ⟨d5, d6, d7, len, K, fr, us, ow, w, _⟩ := p.2.1
  obtain ⟨⟨z5, z6, z7⟩, ⟨k5, k6, k7⟩, ⟨l5, _, _⟩, y5, y6, y7, _⟩ := w.1
  have u := w.2.2.2.2.2.2.2.2.2.1
  intro i a b
  refine ⟨?_, ?_, by rw [z5, l5]; exact u.2.2.2.2, by rw [z5, l5]; exact u.2.2.2.1⟩
  · rcases (show i = 5 ∨ i = 6 ∨ i = 7 by omega) with rfl | rfl | rfl
    · rw [z5]; omega
    · rw [z6]; omega
    · rw [z7]; omega
  · rcases (show i = 5 ∨ i = 6 ∨ i = 7 by omega) with rfl | rfl | rfl
    · rw [z5]; exact k5.1
    · rw [z6]; exact k6.1
    · rw [z7]; exact k7.1
/-- a step of the hall's own: the rest of the class stands -/
theorem CW.hall {M M' : Mem} {N : Nat} {Q Q' : Nat → Int32} {S S' : St} (h : CW M N Q S) (f : FrW4 M M' 14) (p' : ∀ X Y, HV M 14 X Y 0 N Q S [] [] → HV M' 14 X Y 0 N Q' S' [] []) (h20 : xR S' 20 1 = xR S 20 1) (h17 : ∀ v, xR S' 17 v = xR S 17 v) (h19 : ∀ l, l < 256 → xR S' 19 l = xR S 19 l) : CW M' N Q' S' := by
  obtain ⟨X, Y, L, p, sb, xg, xc, xv, xs, g, hL⟩ := h
  obtain ⟨e, dC, e5, e6, e7, len, pb, pt, sx, cl, q, ⟨ds, d64, d18⟩, ⟨lb, lt⟩, z0, dj⟩ := xs
  have hN := q.2.2.2.2.2.2
  have s1 := f.s1
  have d14 := p.d57
  have r15 : ∀ i, 5 ≤ i → i ≤ 7 → mR M 15 i = 14 + 2 + i ∨ 131 ≤ mR M 15 i := fun i a b => (d14 i a b).1
  have lo : ∀ o, o < 131 → o ≠ 4 → ¬ (14 ≤ o ∧ o < 63) → ∀ b, mI M' o b = mI M o b := fun o h1 h2 h3 b => f.2.2.2.1 o (by omega) h2 (by omega) (by have := r15 5 (by decide) (by decide); show o ≠ mR M 15 5; omega) (by have := r15 6 (by decide) (by decide); show o ≠ mR M 15 6; omega) (by have := r15 7 (by decide) (by decide); show o ≠ mR M 15 7; omega) b
  have p0 := p.rm (g.r14 hL)
  have q' := p' _ _ p0
  have rm' := q'.2.2.2.1
  have d14' := q'.d57
  have R64 : ∀ b, mR M' 64 b = mR M 64 b := fun b => f.2.2.1 64 b (by omega) (by omega)
  have L64 : mLn M' (mR M' 64 5) = mLn M (mR M 64 5) := by
    rw [R64]
    refine s1.ln ?_
    rw [show mR M 64 5 = e5 from ds.1.1]; exact ds.2.1.1.1
  have R114 : ∀ b, mR M' 114 b = mR M 114 b := fun b => f.2.2.1 114 b (by omega) (by omega)
  refine ⟨_, _, L, q', sb.cg f.1 (fun o ho => f.2.1 o (by omega)) (fun b => f.2.2.1 1 b (by omega) (by omega)) (fun b => lo 1 (by omega) (by omega) (by omega) b) (fun b => lo 2 (by omega) (by omega) (by omega) b) h20 h17, xg.s s1, xc.s s1 (fun b => lo 113 (by omega) (by omega) (by omega) b) h19, xv.s s1 (fun b => lo 5 (by omega) (by omega) (by omega) b) (fun b => lo 6 (by omega) (by omega) (by omega) b) (fun b => lo 8 (by omega) (by omega) (by omega) b) (fun _ o ho b => f.2.2.2.2.1 o (by omega) (by omega) b) h17 h20, ?_, ?_, hL⟩
  · obtain ⟨x1, ⟨x2, x3, x4, x5, x6⟩, ⟨x7, x8, x9, x10⟩, ⟨x11, x12, x13, x14⟩, x15⟩ := sx
    obtain ⟨c1, c2, c3, c4, c5, c6, c7, c8, c9, c10, c11⟩ := cl
    have dl := c2.1
    refine ⟨e, dC, e5, e6, e7, len, pb, pt, ⟨s1.io x1, ⟨by rw [R114]; exact x2, by rw [R114]; exact x3, by rw [R114]; exact x4, by rw [R114]; exact x5, by rw [R114]; exact x6⟩, ⟨s1.io x7, s1.io x8, s1.io x9, s1.io x10⟩, ⟨by rw [s1.ln (by omega)]; exact x11, by rw [s1.ln (by omega)]; exact x12, by rw [s1.ln (by omega)]; exact x13, by rw [s1.ln (by omega)]; exact x14⟩, by have := f.1; omega⟩, ⟨by rw [R114]; exact c1, s1.io c2, by rw [s1.ln dl]; exact c3, c4, by rw [lo 114 (by omega) (by omega) (by omega)]; exact c5, c6, c7, c8, by rw [R64]; exact c9, by rw [R64]; exact c10, by rw [R64]; exact c11⟩, ?_, ⟨⟨⟨by rw [R64]; exact ds.1.1, by rw [R64]; exact ds.1.2.1, by rw [R64]; exact ds.1.2.2⟩, ⟨s1.io ds.2.1.1, s1.io ds.2.1.2.1, s1.io ds.2.1.2.2⟩, ⟨by rw [s1.ln ds.2.1.1.1]; exact ds.2.2.1.1, by rw [s1.ln ds.2.1.2.1.1]; exact ds.2.2.1.2.1, by rw [s1.ln ds.2.1.2.2.1]; exact ds.2.2.1.2.2⟩, ds.2.2.2⟩, d64, d18⟩, ⟨lb.cg (fun b => lo 74 (by omega) (by omega) (by omega) b) (fun b => lo 75 (by omega) (by omega) (by omega) b), lt.cg (fun b => lo 76 (by omega) (by omega) (by omega) b) (fun b => lo 77 (by omega) (by omega) (by omega) b)⟩, by rw [lo 115 (by omega) (by omega) (by omega)]; exact z0, fun j a b => ?_⟩
    · obtain ⟨k1, k2, k3, k4, k5, k6, k7⟩ := q
      refine ⟨fun i hi hn => by rw [f.2.1 _ (by omega)]; exact k1 i hi hn, fun z hz => ?_, by rw [f.2.2.1 63 0 (by omega) (by omega)]; exact k3, s1.io k4, k5, k6, by have := f.1; omega⟩
      have hb : z.1 < 49 := by
        have : ∀ z, z ∈ tH → z.1 < 49 := by decide
        exact this z hz
      rw [f.2.2.1 _ _ (by omega) (by omega)]; exact k2 z hz
    · have dd := dj j a b
      have e15 : mR M' 15 j = mR M 15 j ∨ mN M ≤ mR M' 15 j := f.2.2.2.2.2 j a b
      refine ⟨?_, fun i c d => ?_⟩
      · rcases e15 with z | z
        · rw [z]; exact dd.1
        · omega
      · rw [R64]
        rcases e15 with z | z
        · rw [z]; exact dd.2 i c d
        · have : mR M 64 i < mN M := by
            rcases (show i = 5 ∨ i = 6 ∨ i = 7 by omega) with rfl | rfl | rfl
            · rw [show mR M 64 5 = e5 from ds.1.1]; exact ds.2.1.1.1
            · rw [show mR M 64 6 = e6 from ds.1.2.1]; exact ds.2.1.2.1.1
            · rw [show mR M 64 7 = e7 from ds.1.2.2]; exact ds.2.1.2.2.1
          omega
  · obtain ⟨ga, gb, gc, gd, ge, gf⟩ := g
    have r1 := rm'.1
    have r2 := rm'.2.1
    refine ⟨?_, ?_, rm'.2.2.2.2, by rw [L64]; exact gd, (d14' 5 (by decide) (by decide)).2.2.2, by rw [L64]; exact gf⟩
    · rw [L64]
      have : mN M' * 64 ≤ 8384 + 3 * mLn M (mR M 64 5) + L / 16 + 3 * mLn M' (mR M' 15 5) := r1
      omega
    · rw [L64]
      have : mU M' ≤ 900000 + 6 * mLn M (mR M 64 5) + 2 * L + 6 * mLn M' (mR M' 15 5) := r2
      omega
