/-! ===== the memory: (cells, slots), of each cell its kind and length, its references; its ints; its longs. Kinds: 0 .. 10 a class of kcl; 100 ints, 101 longs, 102 places ===== -/
abbrev Shp : Type := (Nat × Nat) × (Nat → Nat × Nat) × (Nat → Nat → Nat)
abbrev Mem : Type := Shp × (Nat → Nat → Int32) × (Nat → Nat → Int64)
def mN (M : Mem) : Nat := M.1.1.1
def mU (M : Mem) : Nat := M.1.1.2
def mC (M : Mem) (o : Nat) : Nat := (M.1.2.1 o).1
def mLn (M : Mem) (o : Nat) : Nat := (M.1.2.1 o).2
def mR (M : Mem) (o k : Nat) : Nat := M.1.2.2 o k
def mI (M : Mem) (o k : Nat) : Int32 := M.2.1 o k
def mL (M : Mem) (o k : Nat) : Int64 := M.2.2 o k
def up2 {α : Type} (f : Nat → Nat → α) (o k : Nat) (x : α) : Nat → Nat → α := fun a b => if a = o ∧ b = k then x else f a b
def sI (M : Mem) (o k : Nat) (x : Int32) : Mem := (M.1, up2 M.2.1 o k x, M.2.2)
def sL (M : Mem) (o k : Nat) (x : Int64) : Mem := (M.1, M.2.1, up2 M.2.2 o k x)
def sR (M : Mem) (o k r : Nat) : Mem := ((M.1.1, M.1.2.1, up2 M.1.2.2 o k r), M.2)
def NUL : Nat := 1000000000
def CAP : Nat := 600000
def CAPU : Nat := 7302250
def nw (M : Mem) (tag ln sz : Nat) : Mem := (((mN M + 1, mU M + sz), (fun a => if a = mN M then (tag, ln) else M.1.2.1 a), (fun a b => if a = mN M then NUL else M.1.2.2 a b)), (fun a b => if a = mN M then 0 else M.2.1 a b), (fun a b => if a = mN M then 0 else M.2.2 a b))
abbrev isO (M : Mem) (c o : Nat) : Prop := o < mN M ∧ mC M o = c
theorem up2_s {α : Type} (f : Nat → Nat → α) (o k : Nat) (x : α) : up2 f o k x o k = x := by simp [up2]
theorem up2_o {α : Type} (f : Nat → Nat → α) (o k : Nat) (x : α) {a : Nat} (h : a ≠ o) (b : Nat) : up2 f o k x a b = f a b := by simp [up2, h]
def kcl : List vw_C := [(RX0, TX0, 4), (RX1, TX1, 3), (RX2, TX2, 17), (RX3, TX3, 4), (RX4, TX4, 16), (RX5, TX5, 12), (RX6, TX6, 16), (RX7, TX7, 5), (RX8, TX8, 8), (RX9, TX9, 6), (RX10, TX10, 25)]
def fN (c : Nat) : Nat := match c with
  | 0 => 4
  | 1 => 3
  | 2 => 17
  | 3 => 4
  | 4 => 16
  | 5 => 12
  | 6 => 16
  | 7 => 5
  | 8 => 8
  | 9 => 6
  | 10 => 25
  | _ => 0
def ftyp (c k : Nat) : FieldType := match c with
  | 0 => tyX0 k
  | 1 => tyX1 k
  | 2 => tyX2 k
  | 3 => tyX3 k
  | 4 => tyX4 k
  | 5 => tyX5 k
  | 6 => tyX6 k
  | 7 => tyX7 k
  | 8 => tyX8 k
  | 9 => tyX9 k
  | 10 => tyX10 k
  | _ => .int
theorem kcl_N {c : Nat} {C : String} {T : u_T} {N : Nat} (h : kcl[c]? = some (C, T, N)) : N = fN c ∧ (∀ k, k < N → parseFieldDescriptor (T k).2.2.1 = some (ftyp c k)) ∧ (∀ a, a < N → ∀ b, b < N → a ≠ b → (T a).2.1 ≠ (T b).2.1) := by
  match c with
  | 0 => cases h; exact ⟨rfl, tyX0_ok, nmX0⟩
  | 1 => cases h; exact ⟨rfl, tyX1_ok, nmX1⟩
  | 2 => cases h; exact ⟨rfl, tyX2_ok, nmX2⟩
  | 3 => cases h; exact ⟨rfl, tyX3_ok, nmX3⟩
  | 4 => cases h; exact ⟨rfl, tyX4_ok, nmX4⟩
  | 5 => cases h; exact ⟨rfl, tyX5_ok, nmX5⟩
  | 6 => cases h; exact ⟨rfl, tyX6_ok, nmX6⟩
  | 7 => cases h; exact ⟨rfl, tyX7_ok, nmX7⟩
  | 8 => cases h; exact ⟨rfl, tyX8_ok, nmX8⟩
  | 9 => cases h; exact ⟨rfl, tyX9_ok, nmX9⟩
  | 10 => cases h; exact ⟨rfl, tyX10_ok, nmX10⟩
  | n + 11 => simp [kcl] at h
abbrev Gam : Type := va_G × (ClassId × ClassId × ClassId) × Nat × (Nat × Nat × Nat)
def gD (G : Gam) : va_G := G.1
def gI (G : Gam) : ClassId := G.2.1.1
def gJ (G : Gam) : ClassId := G.2.1.2.1
def gP (G : Gam) : ClassId := G.2.1.2.2
def gB (G : Gam) : Nat := G.2.2.1
def gS (G : Gam) : Nat × Nat × Nat := G.2.2.2
def gT (G : Gam) : List (ClassId × FieldType) := [(gI G, .int), (gJ G, .long), (gP G, .object RX4)]
def gA (G : Gam) : Nat → Prop := fun q => gB G ≤ q
def rO (B r : Nat) : Option Nat := if r = NUL then none else some (B + r)
def fval (B : Nat) (M : Mem) (c o k : Nat) : Value := match ftyp c k with
  | .long => .long (mL M o k)
  | .object _ => va_rf (rO B (mR M o k))
  | .array _ => va_rf (rO B (mR M o k))
  | _ => .int (mI M o k)
def ent (G : Gam) (M : Mem) (o : Nat) : va_E :=
  if mC M o = 100 then .inl (gI G, mLn M o, .inl (mI M o))
  else if mC M o = 101 then .inl (gJ G, mLn M o, .inr (.inl (mL M o)))
  else if mC M o = 102 then .inl (gP G, mLn M o, .inr (.inr (.inr (.inr (fun j => rO (gB G) (mR M o j))))))
  else .inr (mC M o, (List.range (fN (mC M o))).map (fval (gB G) M (mC M o) o))
def ren (G : Gam) (M : Mem) : va_W := (List.range (mN M)).map fun i => (gB G + i, ent G M i)
theorem ren_at {G : Gam} {M : Mem} {o : Nat} (h : o < mN M) : (ren G M)[o]? = some (gB G + o, ent G M o) := by
  simp [ren, h]
theorem ren_inv {G : Gam} {M : Mem} {o : Nat} {q : Nat × va_E} (h : (ren G M)[o]? = some q) : o < mN M ∧ q = (gB G + o, ent G M o) := by
  have h1 : o < (ren G M).length := (List.getElem?_eq_some_iff.mp h).1
  have h2 : o < mN M := by simpa [ren] using h1
  rw [ren_at h2] at h
  exact ⟨h2, (Option.some.inj h).symm⟩
theorem ren_D (G : Gam) (M : Mem) : va_D (gA G) (ren G M) := by
  refine ⟨fun i j p q hi hj h => ?_, fun k q h => ?_⟩
  · obtain ⟨-, rfl⟩ := ren_inv hi
    obtain ⟨-, rfl⟩ := ren_inv hj
    have h1 : gB G + i = gB G + j := h
    omega
  · obtain ⟨-, rfl⟩ := ren_inv h
    show gB G ≤ gB G + k
    omega
theorem ent_c {G : Gam} {M M' : Mem} {i : Nat} (h1 : M'.1.2.1 i = M.1.2.1 i) (h2 : ∀ b, M'.1.2.2 i b = M.1.2.2 i b) (h3 : ∀ b, M'.2.1 i b = M.2.1 i b) (h4 : ∀ b, M'.2.2 i b = M.2.2 i b) : ent G M' i = ent G M i := by
  have e1 : mC M' i = mC M i := by simp [mC, h1]
  have e2 : mLn M' i = mLn M i := by simp [mLn, h1]
  have e3 : mI M' i = mI M i := funext h3
  have e4 : mL M' i = mL M i := funext h4
  have e5 : mR M' i = mR M i := funext h2
  have e6 : ∀ c, fval (gB G) M' c i = fval (gB G) M c i := fun c => funext fun k => by simp only [fval, e3, e4, e5]
  simp only [ent, e1, e2, e3, e4, e5, e6]
theorem ren_set {G : Gam} {M M' : Mem} {o : Nat} {e : va_E} (hn : mN M' = mN M) (ho : o < mN M) (hx : ∀ i, i ≠ o → ent G M' i = ent G M i) (he : ent G M' o = e) : ren G M' = (ren G M).set o (gB G + o, e) := by
  apply List.ext_getElem?
  intro i
  by_cases hi : i < mN M
  · by_cases h : i = o
    · subst h
      rw [ren_at (by omega), List.getElem?_set_self (by simpa [ren] using hi), he]
    · rw [ren_at (by omega), List.getElem?_set_ne (Ne.symm h), ren_at hi, hx i h]
  · have h1 : (ren G M')[i]? = none := by simp [ren]; omega
    have h2 : ((ren G M).set o (gB G + o, e))[i]? = none := by simp [ren]; omega
    rw [h1, h2]
theorem ren_push {G : Gam} {M M' : Mem} {e : va_E} (hn : mN M' = mN M + 1) (hx : ∀ i, i < mN M → ent G M' i = ent G M i) (he : ent G M' (mN M) = e) : ren G M' = ren G M ++ [(gB G + mN M, e)] := by
  apply List.ext_getElem?
  intro i
  have hl : (ren G M).length = mN M := by simp [ren]
  by_cases hi : i < mN M
  · rw [ren_at (by omega), List.getElem?_append_left (by omega), ren_at hi, hx i hi]
  · rw [List.getElem?_append_right (by omega), hl]
    by_cases h : i = mN M
    · subst h
      rw [ren_at (by omega), Nat.sub_self, he]
      rfl
    · have h1 : (ren G M')[i]? = none := by simp [ren]; omega
      rw [h1]
      have h2 : i - mN M ≠ 0 := by omega
      cases hz : i - mN M with
      | zero => exact absurd hz h2
      | succ j => simp
theorem ent_I {G : Gam} {M : Mem} {o : Nat} (h : mC M o = 100) : ent G M o = .inl (gI G, mLn M o, .inl (mI M o)) := by simp [ent, h]
theorem ent_J {G : Gam} {M : Mem} {o : Nat} (h : mC M o = 101) : ent G M o = .inl (gJ G, mLn M o, .inr (.inl (mL M o))) := by simp [ent, h]
theorem ent_P {G : Gam} {M : Mem} {o : Nat} (h : mC M o = 102) : ent G M o = .inl (gP G, mLn M o, .inr (.inr (.inr (.inr (fun j => rO (gB G) (mR M o j)))))) := by simp [ent, h]
theorem ent_O {G : Gam} {M : Mem} {o c : Nat} (h : mC M o = c) (hc : c < 11) : ent G M o = .inr (c, (List.range (fN c)).map (fval (gB G) M c o)) := by
  subst h
  have h1 : ¬ mC M o = 100 := by omega
  have h2 : ¬ mC M o = 101 := by omega
  have h3 : ¬ mC M o = 102 := by omega
  simp [ent, h1, h2, h3]
theorem ren_sI {G : Gam} {M : Mem} {o k : Nat} {x : Int32} {i : Nat} (h : i ≠ o) : ent G (sI M o k x) i = ent G M i :=
  ent_c rfl (fun _ => rfl) (fun b => up2_o _ _ _ _ h b) (fun _ => rfl)
theorem ren_sL {G : Gam} {M : Mem} {o k : Nat} {x : Int64} {i : Nat} (h : i ≠ o) : ent G (sL M o k x) i = ent G M i :=
  ent_c rfl (fun _ => rfl) (fun _ => rfl) (fun b => up2_o _ _ _ _ h b)
theorem ren_sR {G : Gam} {M : Mem} {o k r : Nat} {i : Nat} (h : i ≠ o) : ent G (sR M o k r) i = ent G M i :=
  ent_c rfl (fun b => up2_o _ _ _ _ h b) (fun _ => rfl) (fun _ => rfl)
theorem ren_nw {G : Gam} {M : Mem} {t n z : Nat} {i : Nat} (h : i < mN M) : ent G (nw M t n z) i = ent G M i := by
  have h1 : ¬ i = mN M := by omega
  exact ent_c (by simp [nw, h1]) (fun b => by simp [nw, h1]) (fun b => by simp [nw, h1]) (fun b => by simp [nw, h1])
