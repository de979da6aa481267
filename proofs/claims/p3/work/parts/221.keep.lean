/-! ===== the model's steps keep it ===== -/
theorem sn_L {t : Int32} {k f g : Nat} {s : Int32} {S : St} (l : Nat) : xL (sn t k f g s S) l = if l = 16 * f + g then xL S (16 * f + g) ++ [(nI k, s, t)] else xL S l := rfl
theorem sn_W (t : Int32) (k f g : Nat) (s : Int32) (S : St) : xW (sn t k f g s S) = xW S := rfl
theorem Zok.cg {S S' : St} {v a : Nat} {s : Int32} (h : Zok S v a s) (e2 : xR S' 2 v = xR S 2 v) (e0 : xR S' 0 v = 1 → xR S 0 v = 1 ∧ (bt (xR S 3 v) a = true → bt (xR S' 3 v) a = true)) : Zok S' v a s := by
  obtain ⟨n, m, h1, h2, h3, h4, h5⟩ := h
  exact ⟨n, m, h1, e2.trans h2, h3, h4, fun q1 q2 => (e0 q2).2 (h5 q1 (e0 q2).1)⟩
theorem Zok.ex {S S' : St} {v a : Nat} {s : Int32} (h : Zok S v a s) (e2 : xR S' 2 v = xR S 2 v) (e0 : xR S' 0 v = xR S 0 v) (e3 : xR S' 3 v = xR S 3 v) : Zok S' v a s :=
  h.cg e2 (fun q => ⟨e0 ▸ q, fun z => e3.symm ▸ z⟩)
theorem nI_ne {a b : Nat} (ha : a < 2 ^ 31) (hb : b < 2 ^ 31) (h : a ≠ b) : ¬ nI a = nI b := fun q => h ((nI_eq ha hb).mp q)
/-- who waits and the registers that are read are as they were -/
def Sam (S S' : St) : Prop := xW S' = xW S ∧ ∀ k, k < 11 → k ≠ 6 → ∀ i, xR S' k i = xR S k i
theorem Sam.topn {S S' : St} (h : Sam S S') (v a : Nat) : opn S' v a = opn S v a := by
  unfold opn; rw [h.2 0 (by decide) (by decide), h.2 3 (by decide) (by decide), h.2 2 (by decide) (by decide)]
theorem Sam.toe {S S' : St} (h : Sam S S') (v0 a0 : Nat) (e0 : Option Int32) (v a : Nat) : oe S' v0 a0 e0 v a = oe S v0 a0 e0 v a := by
  unfold oe eng; rw [h.2 8 (by decide) (by decide), h.2 9 (by decide) (by decide), h.1]
theorem Sam.z {S S' : St} (h : Sam S S') {v a : Nat} {s : Int32} (z : Zok S v a s) : Zok S' v a s :=
  z.ex (h.2 2 (by decide) (by decide) v) (h.2 0 (by decide) (by decide) v) (h.2 3 (by decide) (by decide) v)
theorem Sam.inv {N A : Nat} {S S' : St} {v0 a0 : Nat} {e0 : Option Int32} (q : Sam S S') (h : InvG N A S v0 a0 e0) (hE : IE N A S') (hG : IG N S' v0 a0 e0) (hH : IH N S' v0 a0 e0) : InvG N A S' v0 a0 e0 := by
  obtain ⟨a, b, c, d, f, g, i, j⟩ := h
  have r : ∀ k, (k = 0 ∨ k = 1 ∨ k = 2 ∨ k = 3 ∨ k = 4 ∨ k = 5 ∨ k = 7 ∨ k = 8 ∨ k = 9 ∨ k = 10) → xR S' k = xR S k := fun k hk => funext fun i => q.2 k (by omega) (by omega) i
  have r0 := r 0 (by omega); have r1 := r 1 (by omega); have r2 := r 2 (by omega); have r3 := r 3 (by omega); have r4 := r 4 (by omega); have r5 := r 5 (by omega); have r7 := r 7 (by omega); have r8 := r 8 (by omega); have r9 := r 9 (by omega); have r10 := r 10 (by omega)
  refine ⟨?_, ?_, ?_, ?_, hE, ?_, hG, hH⟩
  · unfold IA; rw [r0, r7, r10]; exact a
  · unfold IB; rw [r3]; exact b
  · unfold IC; rw [r0, r3, r4, r5]; exact c
  · unfold ID; rw [r1, r2]; exact d
  · unfold IF; rw [q.1, r8, r9, r10]; exact g
theorem InvG.reg {N A : Nat} {S S' : St} {v0 a0 : Nat} {e0 : Option Int32} (h : InvG N A S v0 a0 e0) (q : Sam S S') (hL : xL S' = xL S) : InvG N A S' v0 a0 e0 := by
  refine q.inv h ?_ ?_ ?_
  · unfold IE; rw [hL]; exact h.2.2.2.2.1
  · intro v hv a ha; rw [q.toe, q.topn, hL]; exact h.2.2.2.2.2.2.1 v hv a ha
  · intro v hv a ha
    rw [hL]
    obtain ⟨j1, j2, j3⟩ := h.2.2.2.2.2.2.2 v hv a ha
    exact ⟨fun s z => q.z (j1 s (by rw [← q.toe]; exact z)), fun x q1 q2 => q.z (j2 x q1 q2), fun x q1 q2 => q.z (j3 x q1 q2)⟩
/-- GRANT, FAIL, INQUIRE, YIELD are sent -/
theorem InvG.tsn {N A : Nat} {S : St} {v0 a0 : Nat} {e0 : Option Int32} (h : InvG N A S v0 a0 e0) (h16 : N ≤ 16) {t s : Int32} {k f g : Nat} (hk : 1 ≤ k ∧ k ≤ 4) (hf : f < N) (hg : g < N) (hs : ∃ n, n ≤ A ∧ s = nI n) (hz : k ≤ 3 → Zok S g f s) : InvG N A (sn t k f g s S) v0 a0 e0 := by
  have q : Sam S (sn t k f g s S) := ⟨rfl, fun k' hk' _ i => sn_R _ _ _ _ _ _ (by omega)⟩
  have n0 : ¬ nI k = nI 0 := nI_ne (by omega) (by decide) (by omega)
  have n5 : ¬ nI k = nI 5 := nI_ne (by omega) (by decide) (by omega)
  refine q.inv h ?_ ?_ ?_
  · intro l hl
    rw [sn_L]
    by_cases c : l = 16 * f + g
    · rw [if_pos c]
      refine ⟨fun x hx => ?_, fun z => absurd ⟨by omega, by omega⟩ z⟩
      rcases List.mem_append.mp hx with hx | hx
      · exact (h.2.2.2.2.1 _ (by omega)).1 x hx
      · rw [List.mem_singleton] at hx
        subst hx
        exact ⟨⟨k, by omega, rfl⟩, hs⟩
    · rw [if_neg c]; exact h.2.2.2.2.1 l hl
  · intro v hv a ha
    rw [q.toe, q.topn, sn_L]
    have i := h.2.2.2.2.2.2.1 v hv a ha
    by_cases c : 16 * v + a = 16 * f + g
    · rw [if_pos c, ← c, run_ap, i, Option.bind_some, run_other n0 n5]
    · rw [if_neg c]; exact i
  · intro v hv a ha
    obtain ⟨j1, j2, j3⟩ := h.2.2.2.2.2.2.2 v hv a ha
    refine ⟨fun s z => q.z (j1 s (by rw [← q.toe]; exact z)), fun x q1 q2 => q.z ?_, fun x q1 q2 => q.z ?_⟩
    · rw [sn_L] at q1
      by_cases c : 16 * v + a = 16 * f + g
      · rw [if_pos c, ← c] at q1
        rcases List.mem_append.mp q1 with q1 | q1
        · exact j2 x q1 q2
        · rw [List.mem_singleton] at q1
          subst q1
          exact absurd q2 n0
      · rw [if_neg c] at q1; exact j2 x q1 q2
    · rw [sn_L] at q1
      by_cases c : 16 * a + v = 16 * f + g
      · rw [if_pos c, ← c] at q1
        rcases List.mem_append.mp q1 with q1 | q1
        · exact j3 x q1 q2
        · rw [List.mem_singleton] at q1
          subst q1
          have e1 : a = f := by omega
          have e2 : v = g := by omega
          rw [e1, e2]
          refine hz ?_
          rcases q2 with q2 | q2 | q2
          · have := (nI_eq (a := k) (by omega) (by decide)).mp q2; omega
          · have := (nI_eq (a := k) (by omega) (by decide)).mp q2; omega
          · have := (nI_eq (a := k) (by omega) (by decide)).mp q2; omega
      · rw [if_neg c] at q1; exact j3 x q1 q2
theorem Option.bind_x {α β : Type} (a : α) (f : α → Option β) : (some a).bind f = f a := rfl
/-- the head of a lane is taken: what its REQUEST or RELEASE says is put aside -/
def popE (S : St) (f g : Nat) (x : Ltr) : Option Int32 := if x.1 = nI 0 then some x.2.1 else if x.1 = nI 5 then none else eng S g f
theorem Inv.pop {N A : Nat} {S : St} (h : Inv N A S) (h16 : N ≤ 16) {f g : Nat} (hf : f < N) (hg : g < N) {x : Ltr} {r : List Ltr} (hx : xL S (16 * f + g) = x :: r) : InvG N A (uL S (16 * f + g) r) f g (popE S f g x) ∧ (x.1 = nI 0 → eng S g f = none) ∧ (x.1 = nI 5 → eng S g f = some x.2.1) ∧ ((x.1 = nI 1 ∨ x.1 = nI 2 ∨ x.1 = nI 3) → Zok S g f x.2.1) := by
  have q : Sam S (uL S (16 * f + g) r) := ⟨rfl, fun _ _ _ _ => rfl⟩
  have i := h.2.2.2.2.2.2.1 f hf g hg
  have j := h.2.2.2.2.2.2.2 f hf g hg
  rw [oe_99 (by omega), hx] at i
  have ei : run (popE S f g x) r = some (opn S f g) ∧ (x.1 = nI 0 → eng S g f = none) ∧ (x.1 = nI 5 → eng S g f = some x.2.1) := by
    unfold run at i
    unfold popE
    by_cases c0 : x.1 = nI 0
    · rw [if_pos c0] at i ⊢
      by_cases c : eng S g f = none
      · rw [if_pos c] at i
        exact ⟨i, fun _ => c, fun z => absurd (c0.symm.trans z) (by decide)⟩
      · rw [if_neg c] at i; cases i
    · rw [if_neg c0] at i ⊢
      by_cases c5 : x.1 = nI 5
      · rw [if_pos c5] at i ⊢
        by_cases c : eng S g f = some x.2.1
        · rw [if_pos c] at i
          exact ⟨i, fun z => absurd z c0, fun _ => c⟩
        · rw [if_neg c] at i; cases i
      · rw [if_neg c5] at i ⊢
        exact ⟨i, fun z => absurd z c0, fun z => absurd z c5⟩
  have mem : ∀ l y, y ∈ xL (uL S (16 * f + g) r) l → y ∈ xL S l := by
    intro l y hy
    rw [xL_uL] at hy
    by_cases c : l = 16 * f + g
    · rw [if_pos c] at hy
      rw [c, hx]; exact List.mem_cons_of_mem _ hy
    · rw [if_neg c] at hy; exact hy
  refine ⟨?_, ei.2.1, ei.2.2, fun z => (h.2.2.2.2.2.2.2 g hg f hf).2.2 x (by rw [hx]; simp) z⟩
  obtain ⟨a, b, c, d, e, ff, ig, ih⟩ := h
  refine ⟨a, b, c, d, ?_, ff, ?_, ?_⟩
  · intro l hl
    refine ⟨fun y hy => (e l hl).1 y (mem l y hy), fun z => ?_⟩
    have e2 := (e l hl).2 z
    rw [xL_uL]
    by_cases c : l = 16 * f + g
    · rw [c, hx] at e2; cases e2
    · rw [if_neg c]; exact e2
  · intro v hv a ha
    rw [q.topn, xL_uL]
    by_cases c : 16 * v + a = 16 * f + g
    · have e1 : v = f := by omega
      have e2 : a = g := by omega
      rw [if_pos c, e1, e2]
      unfold oe
      rw [if_pos ⟨rfl, rfl⟩]
      exact ei.1
    · rw [if_neg c]
      have := ig v hv a ha
      rw [oe_99 (by omega)] at this
      unfold oe
      rw [if_neg (fun z => c (by rw [z.1, z.2]))]
      exact this
  · intro v hv a ha
    obtain ⟨j1, j2, j3⟩ := ih v hv a ha
    refine ⟨fun s z => q.z ?_, fun y q1 q2 => q.z (j2 y (mem _ y q1) q2), fun y q1 q2 => q.z (j3 y (mem _ y q1) q2)⟩
    unfold oe at z
    by_cases c : v = f ∧ a = g
    · rw [if_pos c] at z
      rw [c.1, c.2]
      unfold popE at z
      by_cases c0 : x.1 = nI 0
      · rw [if_pos c0] at z
        rw [← Option.some.inj z]
        exact j.2.1 x (by rw [hx]; simp) c0
      · rw [if_neg c0] at z
        by_cases c5 : x.1 = nI 5
        · rw [if_pos c5] at z; cases z
        · rw [if_neg c5] at z
          exact j.1 s (by rw [oe_99 (by omega)]; exact z)
    · rw [if_neg c] at z
      exact j1 s (by rw [oe_99 (by omega)]; exact z)
