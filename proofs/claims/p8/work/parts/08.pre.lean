abbrev inB (i : Int32) (n : Nat) : Prop := ¬ (i < 0 ∨ n ≤ i.toNatClampNeg)
def chk {α : Type} (c : Prop) [Decidable c] (x : Option α) : Option α := if c then x else none
def bnd {α β : Type} (a : α) (f : α → Option β) : Option β := f a
def obd {α β : Type} (x : Option α) (k : α → Option β) : Option β := match x with
  | none => none
  | some a => k a
def obd2 {α β : Type} (x : Option (α × Mem)) (k : α → Mem → Option β) : Option β := match x with
  | none => none
  | some a => k a.1 a.2
theorem pk_chk {α : Type} {c : Prop} [Decidable c] {x : Option α} {r : α} (h : chk c x = some r) : c ∧ x = some r := by
  unfold chk at h
  by_cases hc : c
  · rw [if_pos hc] at h; exact ⟨hc, h⟩
  · rw [if_neg hc] at h; cases h
theorem pk_bnd {α β : Type} {a : α} {f : α → Option β} {r : β} (h : bnd a f = some r) : ∃ x, x = a ∧ f x = some r := ⟨a, rfl, h⟩
theorem pk_obd {α β : Type} {x : Option α} {k : α → Option β} {r : β} (h : obd x k = some r) : ∃ a, x = some a ∧ k a = some r := by
  cases x with
  | none => cases h
  | some a => exact ⟨a, rfl, h⟩
theorem pk_obd2 {α β : Type} {x : Option (α × Mem)} {k : α → Mem → Option β} {r : β} (h : obd2 x k = some r) : ∃ a M, x = some (a, M) ∧ k a M = some r := by
  cases x with
  | none => cases h
  | some a => exact ⟨a.1, a.2, rfl, h⟩
theorem pk_ite {α : Type} {c : Prop} [Decidable c] {a b : Option α} {r : α} (h : (if c then a else b) = some r) : (c → a = some r) ∧ (¬ c → b = some r) :=
  ⟨fun hc => by rwa [if_pos hc] at h, fun hc => by rwa [if_neg hc] at h⟩
theorem pk_none {α : Type} {r : α} (h : (none : Option α) = some r) : False := by cases h
abbrev bz (x : Int32) : Prop := x = 0 ∨ x = 1
theorem bz_n {x : Int32} (h : bz x) : narrow .boolean (.int x) = .int x := by rcases h with rfl | rfl <;> rfl
theorem bz_f {x : Int32} (h : bz x) : fits .boolean (.int x) = true := by rcases h with rfl | rfl <;> rfl
theorem io_sI {M M1 : Mem} {o k c a : Nat} {x : Int32} (e : M1 = sI M o k x) (h : isO M c a) : isO M1 c a := by subst e; exact h
theorem io_sL {M M1 : Mem} {o k c a : Nat} {x : Int64} (e : M1 = sL M o k x) (h : isO M c a) : isO M1 c a := by subst e; exact h
theorem io_sR {M M1 : Mem} {o k c a r : Nat} (e : M1 = sR M o k r) (h : isO M c a) : isO M1 c a := by subst e; exact h
theorem io_cp {M M1 : Mem} {x sp y dp n c a : Nat} (e : M1 = cpI M x sp y dp n) (h : isO M c a) : isO M1 c a := by subst e; exact h
theorem io_nw {M M1 : Mem} {t n z c a : Nat} (e : M1 = nw M t n z) (h : isO M c a) : isO M1 c a := by
  subst e
  have h1 := h.1
  refine ⟨Nat.lt_succ_of_lt h.1, ?_⟩
  have h2 : ¬ a = mN M := by omega
  have h3 := h.2
  simp only [mC] at h3
  simp [mC, nw, h2, h3]
theorem io_nwn {M M1 : Mem} {t n z a : Nat} (e : M1 = nw M t n z) (h : a = mN M) : isO M1 t a := by
  subst e; subst h
  exact ⟨Nat.lt_succ_self _, by simp [mC, nw]⟩
abbrev cp_ok (sp dp n : Int32) (_ : Nat) (la lb : Nat) : Prop := ¬ sp < 0 ∧ ¬ dp < 0 ∧ ¬ n < 0 ∧ sp.toNatClampNeg + n.toNatClampNeg ≤ la ∧ dp.toNatClampNeg + n.toNatClampNeg ≤ lb
theorem sw_ne {x v : Int32} {z : Int} (h : ¬ x = v) (hz : v.toInt = z) : x.toInt ≠ z := fun e => h (Int32.toInt_inj.mp (e.trans hz.symm))
def l_PS (j : Nat) : Int32 := ([0, 1, 3, 9] : List Int32).getD j 0
section
variable {p : Program} {l : Launch} {e : Env} {R : Room} {s : State} {m : MethodId} {args : Array Value} {below : List Frame} {meth : Method} {c : Code} {Q : State → Prop}
variable {G : Gam} {M0 M : Mem} {cc : ByteArray} {own : String} {nL fr lo pc : Nat} {vs : List (Nat × Value)} {st : List Value}
theorem s_nmI {x t : Int32} (h : x = t) (k : Sg p l e R s m args below meth c Q G M0 nL pc vs (.int x :: st) M) : Sg p l e R s m args below meth c Q G M0 nL pc vs (.int t :: st) M := h ▸ k
theorem s_nmL {x t : Int64} (h : x = t) (k : Sg p l e R s m args below meth c Q G M0 nL pc vs (.long x :: st) M) : Sg p l e R s m args below meth c Q G M0 nL pc vs (.long t :: st) M := h ▸ k
theorem s_swC (X : Cx p R s m args c G M0 cc own nL fr lo) {dflt lo2 hi : Int} {offs : Array Int} {len : Nat} {x v : Int32} {off : Int} {tgt : Nat} (hd : decode cc pc = .ok (.tableswitch dflt lo2 hi offs, len)) (hx : x = v) (h1 : ¬ v.toInt < lo2) (h2 : ¬ hi < v.toInt) (ho : offs[(v.toInt - lo2).toNat]? = some off) (ht : (pc : Int) + off = (tgt : Int)) (k : Sg p l e R s m args below meth c Q G M0 nL tgt vs st M) : Sg p l e R s m args below meth c Q G M0 nL pc vs (.int x :: st) M := by
  subst hx
  exact s_swIn X hd h1 h2 ho ht k
end
