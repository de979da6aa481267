/-! ===== the model's steps keep it ===== -/
theorem sn_L {t : Int32} {k f g : Nat} {s : Int32} {S : St} (l : Nat) : xL (sn t k f g s S) l = if l = 16 * f + g then xL S (16 * f + g) ++ [(nI k, s, t)] else xL S l := rfl
theorem sn_W (t : Int32) (k f g : Nat) (s : Int32) (S : St) : xW (sn t k f g s S) = xW S := rfl
theorem Zok.cg {S S' : St} {v a : Nat} {s : Int32} (h : Zok S v a s) (e2 : xR S' 2 v = xR S 2 v) (e0 : xR S' 0 v = 1 → xR S 0 v = 1 ∧ (bt (xR S 3 v) a = true → bt (xR S' 3 v) a = true)) : Zok S' v a s := by
  obtain ⟨n, m, h1, h2, h3, h4, h5⟩ := h
  exact ⟨n, m, h1, e2.trans h2, h3, h4, fun q1 q2 => (e0 q2).2 (h5 q1 (e0 q2).1)⟩
theorem Zok.ex {S S' : St} {v a : Nat} {s : Int32} (h : Zok S v a s) (e2 : xR S' 2 v = xR S 2 v) (e0 : xR S' 0 v = xR S 0 v) (e3 : xR S' 3 v = xR S 3 v) : Zok S' v a s :=
  h.cg e2 (fun q => ⟨e0 ▸ q, fun z => e3.symm ▸ z⟩)
theorem nI_ne {a b : Nat} (ha : a < 2 ^ 31) (hb : b < 2 ^ 31) (h : a ≠ b) : ¬ nI a = nI b := fun q => h ((nI_eq ha hb).mp q)
/-- who waits and the registers that are read are as they were -/
def Sam (S S' : St) : Prop := xW S' = xW S ∧ ∀ k, k < 11 → k ≠ 6 → ∀ i, xR S' k i = xR S k i
theorem Sam.topn {S S' : St} (h : Sam S S') (v a : Nat) : opn S' v a = opn S v a := by
  unfold opn; rw [h.2 0 (by decide) (by decide), h.2 3 (by decide) (by decide), h.2 2 (by decide) (by decide)]
theorem Sam.toe {S S' : St} (h : Sam S S') (v0 a0 : Nat) (e0 : Option Int32) (v a : Nat) : oe S' v0 a0 e0 v a = oe S v0 a0 e0 v a := by
  unfold oe eng; rw [h.2 8 (by decide) (by decide), h.2 9 (by decide) (by decide), h.1]
theorem Sam.z {S S' : St} (h : Sam S S') {v a : Nat} {s : Int32} (z : Zok S v a s) : Zok S' v a s :=
  z.ex (h.2 2 (by decide) (by decide) v) (h.2 0 (by decide) (by decide) v) (h.2 3 (by decide) (by decide) v)
theorem Sam.inv {N A : Nat} {S S' : St} {v0 a0 : Nat} {e0 : Option Int32} (q : Sam S S') (h : InvG N A S v0 a0 e0) (hE : IE N A S') (hG : IG N S' v0 a0 e0) (hH : IH N S' v0 a0 e0) : InvG N A S' v0 a0 e0 := by
  obtain ⟨a, b, c, d, f, g, i, j⟩ := h
  have r : ∀ k, (k = 0 ∨ k = 1 ∨ k = 2 ∨ k = 3 ∨ k = 4 ∨ k = 5 ∨ k = 7 ∨ k = 8 ∨ k = 9 ∨ k = 10) → xR S' k = xR S k := fun k hk => funext fun i => q.2 k (by omega) (by omega) i
  have r0 := r 0 (by omega); have r1 := r 1 (by omega); have r2 := r 2 (by omega); have r3 := r 3 (by omega); have r4 := r 4 (by omega); have r5 := r 5 (by omega); have r7 := r 7 (by omega); have r8 := r 8 (by omega); have r9 := r 9 (by omega); have r10 := r 10 (by omega)
  refine ⟨?_, ?_, ?_, ?_, hE, ?_, hG, hH⟩
  · unfold IA; rw [r0, r7, r10]; exact a
  · unfold IB; rw [r3]; exact b
  · unfold IC; rw [r0, r3, r4, r5]; exact c
  · unfold ID; rw [r1, r2]; exact d
  · unfold IF; rw [q.1, r8, r9, r10]; exact g
theorem InvG.reg {N A : Nat} {S S' : St} {v0 a0 : Nat} {e0 : Option Int32} (h : InvG N A S v0 a0 e0) (q : Sam S S') (hL : xL S' = xL S) : InvG N A S' v0 a0 e0 := by
  refine q.inv h ?_ ?_ ?_
  · unfold IE; rw [hL]; exact h.2.2.2.2.1
  · intro v hv a ha; rw [q.toe, q.topn, hL]; exact h.2.2.2.2.2.2.1 v hv a ha
  · intro v hv a ha
    rw [hL]
    obtain ⟨j1, j2, j3⟩ := h.2.2.2.2.2.2.2 v hv a ha
    exact ⟨fun s z => q.z (j1 s (by rw [← q.toe]; exact z)), fun x q1 q2 => q.z (j2 x q1 q2), fun x q1 q2 => q.z (j3 x q1 q2)⟩
/-- GRANT, FAIL, INQUIRE, YIELD are sent -/
theorem InvG.tsn {N A : Nat} {S : St} {v0 a0 : Nat} {e0 : Option Int32} (h : InvG N A S v0 a0 e0) (h16 : N ≤ 16) {t s : Int32} {k f g : Nat} (hk : 1 ≤ k ∧ k ≤ 4) (hf : f < N) (hg : g < N) (hs : ∃ n, n ≤ A ∧ s = nI n) (hz : k ≤ 3 → Zok S g f s) : InvG N A (sn t k f g s S) v0 a0 e0 := by
  have q : Sam S (sn t k f g s S) := ⟨rfl, fun k' hk' _ i => sn_R _ _ _ _ _ _ (by omega)⟩
  have n0 : ¬ nI k = nI 0 := nI_ne (by omega) (by decide) (by omega)
  have n5 : ¬ nI k = nI 5 := nI_ne (by omega) (by decide) (by omega)
  refine q.inv h ?_ ?_ ?_
  · intro l hl
    rw [sn_L]
    by_cases c : l = 16 * f + g
    · rw [if_pos c]
      refine ⟨fun x hx => ?_, fun z => absurd ⟨by omega, by omega⟩ z⟩
      rcases List.mem_append.mp hx with hx | hx
      · exact (h.2.2.2.2.1 _ (by omega)).1 x hx
      · rw [List.mem_singleton] at hx
        subst hx
        exact ⟨⟨k, by omega, rfl⟩, hs⟩
    · rw [if_neg c]; exact h.2.2.2.2.1 l hl
  · intro v hv a ha
    rw [q.toe, q.topn, sn_L]
    have i := h.2.2.2.2.2.2.1 v hv a ha
    by_cases c : 16 * v + a = 16 * f + g
    · rw [if_pos c, ← c, run_ap, i, Option.bind_some, run_other n0 n5]
    · rw [if_neg c]; exact i
  · intro v hv a ha
    obtain ⟨j1, j2, j3⟩ := h.2.2.2.2.2.2.2 v hv a ha
    refine ⟨fun s z => q.z (j1 s (by rw [← q.toe]; exact z)), fun x q1 q2 => q.z ?_, fun x q1 q2 => q.z ?_⟩
    · rw [sn_L] at q1
      by_cases c : 16 * v + a = 16 * f + g
      · rw [if_pos c, ← c] at q1
        rcases List.mem_append.mp q1 with q1 | q1
        · exact j2 x q1 q2
        · rw [List.mem_singleton] at q1
          subst q1
          exact absurd q2 n0
      · rw [if_neg c] at q1; exact j2 x q1 q2
    · rw [sn_L] at q1
      by_cases c : 16 * a + v = 16 * f + g
      · rw [if_pos c, ← c] at q1
        rcases List.mem_append.mp q1 with q1 | q1
        · exact j3 x q1 q2
        · rw [List.mem_singleton] at q1
          subst q1
          have e1 : a = f := by omega
          have e2 : v = g := by omega
          rw [e1, e2]
          refine hz ?_
          rcases q2 with q2 | q2 | q2
          · have := (nI_eq (a := k) (by omega) (by decide)).mp q2; omega
          · have := (nI_eq (a := k) (by omega) (by decide)).mp q2; omega
          · have := (nI_eq (a := k) (by omega) (by decide)).mp q2; omega
      · rw [if_neg c] at q1; exact j3 x q1 q2
theorem Option.bind_x {α β : Type} (a : α) (f : α → Option β) : (some a).bind f = f a := rfl
/-- the head of a lane is taken: what its REQUEST or RELEASE says is put aside -/
def popE (S : St) (f g : Nat) (x : Ltr) : Option Int32 := if x.1 = nI 0 then some x.2.1 else if x.1 = nI 5 then none else eng S g f
theorem Inv.pop {N A : Nat} {S : St} (h : Inv N A S) (h16 : N ≤ 16) {f g : Nat} (hf : f < N) (hg : g < N) {x : Ltr} {r : List Ltr} (hx : xL S (16 * f + g) = x :: r) : InvG N A (uL S (16 * f + g) r) f g (popE S f g x) ∧ (x.1 = nI 0 → eng S g f = none) ∧ (x.1 = nI 5 → eng S g f = some x.2.1) ∧ ((x.1 = nI 1 ∨ x.1 = nI 2 ∨ x.1 = nI 3) → Zok S g f x.2.1) := by
  have q : Sam S (uL S (16 * f + g) r) := ⟨rfl, fun _ _ _ _ => rfl⟩
  have i := h.2.2.2.2.2.2.1 f hf g hg
  have j := h.2.2.2.2.2.2.2 f hf g hg
  rw [oe_99 (by omega), hx] at i
  have ei : run (popE S f g x) r = some (opn S f g) ∧ (x.1 = nI 0 → eng S g f = none) ∧ (x.1 = nI 5 → eng S g f = some x.2.1) := by
    unfold run at i
    unfold popE
    by_cases c0 : x.1 = nI 0
    · rw [if_pos c0] at i ⊢
      by_cases c : eng S g f = none
      · rw [if_pos c] at i
        exact ⟨i, fun _ => c, fun z => absurd (c0.symm.trans z) (by decide)⟩
      · rw [if_neg c] at i; cases i
    · rw [if_neg c0] at i ⊢
      by_cases c5 : x.1 = nI 5
      · rw [if_pos c5] at i ⊢
        by_cases c : eng S g f = some x.2.1
        · rw [if_pos c] at i
          exact ⟨i, fun z => absurd z c0, fun _ => c⟩
        · rw [if_neg c] at i; cases i
      · rw [if_neg c5] at i ⊢
        exact ⟨i, fun z => absurd z c0, fun z => absurd z c5⟩
  have mem : ∀ l y, y ∈ xL (uL S (16 * f + g) r) l → y ∈ xL S l := by
    intro l y hy
    rw [xL_uL] at hy
    by_cases c : l = 16 * f + g
    · rw [if_pos c] at hy
      rw [c, hx]; exact List.mem_cons_of_mem _ hy
    · rw [if_neg c] at hy; exact hy
  refine ⟨?_, ei.2.1, ei.2.2, fun z => (h.2.2.2.2.2.2.2 g hg f hf).2.2 x (by rw [hx]; simp) z⟩
  obtain ⟨a, b, c, d, e, ff, ig, ih⟩ := h
  refine ⟨a, b, c, d, ?_, ff, ?_, ?_⟩
  · intro l hl
    refine ⟨fun y hy => (e l hl).1 y (mem l y hy), fun z => ?_⟩
    have e2 := (e l hl).2 z
    rw [xL_uL]
    by_cases c : l = 16 * f + g
    · rw [c, hx] at e2; cases e2
    · rw [if_neg c]; exact e2
  · intro v hv a ha
    rw [q.topn, xL_uL]
    by_cases c : 16 * v + a = 16 * f + g
    · have e1 : v = f := by omega
      have e2 : a = g := by omega
      rw [if_pos c, e1, e2]
      unfold oe
      rw [if_pos ⟨rfl, rfl⟩]
      exact ei.1
    · rw [if_neg c]
      have := ig v hv a ha
      rw [oe_99 (by omega)] at this
      unfold oe
      rw [if_neg (fun z => c (by rw [z.1, z.2]))]
      exact this
  · intro v hv a ha
    obtain ⟨j1, j2, j3⟩ := ih v hv a ha
    refine ⟨fun s z => q.z ?_, fun y q1 q2 => q.z (j2 y (mem _ y q1) q2), fun y q1 q2 => q.z (j3 y (mem _ y q1) q2)⟩
    unfold oe at z
    by_cases c : v = f ∧ a = g
    · rw [if_pos c] at z
      rw [c.1, c.2]
      unfold popE at z
      by_cases c0 : x.1 = nI 0
      · rw [if_pos c0] at z
        rw [← Option.some.inj z]
        exact j.2.1 x (by rw [hx]; simp) c0
      · rw [if_neg c0] at z
        by_cases c5 : x.1 = nI 5
        · rw [if_pos c5] at z; cases z
        · rw [if_neg c5] at z
          exact j.1 s (by rw [oe_99 (by omega)]; exact z)
    · rw [if_neg c] at z
      exact j1 s (by rw [oe_99 (by omega)]; exact z)
/-! ===== the arbiter's steps keep it ===== -/
def gF' (t : Int32) (a : Nat) (S : St) : St := match xW S a with
  | [] => S
  | w :: r => sn t 1 a w.1 w.2 (uW (uR (uR S 8 a (nI w.1)) 9 a w.2) a r)
theorem gF_e (t : Int32) (a : Nat) (S : St) : gF t a S = gF' t a (nob a S) := by
  unfold gF gF'
  rw [show xW (nob a S) a = xW S a from rfl]
  cases xW S a with
  | nil => rfl
  | cons w r => rfl
theorem nob_R {a : Nat} {S : St} {k i : Nat} (h : i ≠ a ∨ k < 8 ∨ 10 < k) : xR (nob a S) k i = xR S k i := by
  unfold nob
  rw [xR_uR, if_neg (by omega), xR_uR, if_neg (by omega), xR_uR, if_neg (by omega)]
theorem nob_8 (a : Nat) (S : St) : xR (nob a S) 8 a = -1 ∧ xR (nob a S) 9 a = 0 ∧ xR (nob a S) 10 a = 0 := by
  unfold nob
  refine ⟨?_, ?_, ?_⟩ <;> simp [xR_uR]
theorem oe_n {S : St} {v0 a0 : Nat} {e0 : Option Int32} {v a : Nat} (h : v ≠ v0) : oe S v0 a0 e0 v a = eng S a v := by
  unfold oe
  rw [if_neg (fun z => h z.1)]
theorem oe_y {S : St} {v0 a0 : Nat} {e0 : Option Int32} : oe S v0 a0 e0 v0 a0 = e0 := by
  unfold oe
  rw [if_pos ⟨rfl, rfl⟩]
/-- only what a knows has changed: whom it granted, who waits -/
def Arb (a : Nat) (S S' : St) : Prop := xL S' = xL S ∧ (∀ b, b ≠ a → xW S' b = xW S b) ∧ ∀ k i, (i ≠ a ∨ k < 8) → k < 11 → xR S' k i = xR S k i
theorem Arb.inv {N A a : Nat} {S S' : St} {v0 v1 : Nat} {e0 e1 : Option Int32} (q : Arb a S S') (h16 : N ≤ 16) (ha : a < N) (h : InvG N A S v0 a e0) (hF : Wok N A (xW S' a) ∧ ((xR S' 8 a = -1 ∧ xR S' 9 a = 0 ∧ xR S' 10 a = 0) ∨ ∃ g, g < N ∧ xR S' 8 a = nI g ∧ g ∉ (xW S' a).map Prod.fst ∧ ∃ s, s ≤ A ∧ xR S' 9 a = nI s)) (h10 : xR S' 10 a = 0 ∨ xR S' 10 a = 1) (he : ∀ v, v < N → oe S' v1 a e1 v a = oe S v0 a e0 v a) : InvG N A S' v1 a e1 := by
  obtain ⟨qL, qW, qR⟩ := q
  obtain ⟨ja, jb, jc, jd, je, jf, jg, jh⟩ := h
  have r : ∀ k, k < 8 → xR S' k = xR S k := fun k hk => funext fun i => qR k i (Or.inr hk) (by omega)
  have ro : ∀ v b, opn S' v b = opn S v b := fun v b => by unfold opn; rw [r 0 (by decide), r 3 (by decide), r 2 (by decide)]
  have rz : ∀ {v b s}, Zok S v b s → Zok S' v b s := fun z => z.ex (by rw [r 2 (by decide)]) (by rw [r 0 (by decide)]) (by rw [r 3 (by decide)])
  have re : ∀ v, v < N → ∀ b, b < N → oe S' v1 a e1 v b = oe S v0 a e0 v b := by
    intro v hv b hb
    by_cases c : b = a
    · rw [c]; exact he v hv
    · unfold oe
      rw [if_neg (fun z => c z.2), if_neg (fun z => c z.2)]
      unfold eng
      rw [qR 8 b (Or.inl c) (by decide), qR 9 b (Or.inl c) (by decide), qW b c]
  refine ⟨?_, ?_, ?_, ?_, ?_, ?_, ?_, ?_⟩
  · intro v hv
    rw [r 0 (by decide), r 7 (by decide)]
    obtain ⟨x1, x2, x3, x4⟩ := ja v hv
    refine ⟨x1, x2, x3, ?_⟩
    by_cases c : v = a
    · rw [c]; exact h10
    · rw [qR 10 v (Or.inl c) (by decide)]; exact x4
  · unfold IB; rw [r 3 (by decide)]; exact jb
  · unfold IC; rw [r 0 (by decide), r 3 (by decide), r 4 (by decide), r 5 (by decide)]; exact jc
  · unfold ID; rw [r 1 (by decide), r 2 (by decide)]; exact jd
  · unfold IE; rw [qL]; exact je
  · intro b hb
    by_cases c : b = a
    · rw [c]; exact ⟨hF.1, fun z => absurd ha (by omega), hF.2⟩
    · rw [qW b c, qR 8 b (Or.inl c) (by decide), qR 9 b (Or.inl c) (by decide), qR 10 b (Or.inl c) (by decide)]; exact jf b hb
  · intro v hv b hb
    rw [re v hv b hb, ro, qL]; exact jg v hv b hb
  · intro v hv b hb
    rw [qL]
    obtain ⟨j1, j2, j3⟩ := jh v hv b hb
    exact ⟨fun s z => rz (j1 s (by rw [← re v hv b hb]; exact z)), fun x q1 q2 => rz (j2 x q1 q2), fun x q1 q2 => rz (j3 x q1 q2)⟩
theorem nob_A (a : Nat) (S : St) : Arb a S (nob a S) := ⟨rfl, fun _ _ => rfl, fun k i h _ => nob_R (by omega)⟩
theorem m1_ne {v : Nat} (h : v < 16) : ¬ (-1 : Int32) = nI v := fun q => nI_m1 h q.symm
theorem eng_nob {a : Nat} {S : St} {v : Nat} (hv : v < 16) : eng (nob a S) a v = engW (xW S a) v := by
  unfold eng
  rw [(nob_8 a S).1, if_neg (m1_ne hv)]
  rfl
theorem InvG.tnob {N A a v0 : Nat} {S : St} {e0 : Option Int32} (h : InvG N A S v0 a e0) (h16 : N ≤ 16) (ha : a < N) (ho : ∀ v, v < N → v ≠ v0 → eng S a v = engW (xW S a) v) : InvG N A (nob a S) v0 a e0 := by
  refine (nob_A a S).inv h16 ha h ⟨(h.2.2.2.2.2.1 a (by omega)).1, Or.inl (nob_8 a S)⟩ (Or.inl (nob_8 a S).2.2) (fun v hv => ?_)
  unfold oe
  by_cases c : v = v0 ∧ a = a
  · rw [if_pos c, if_pos c]
  · rw [if_neg c, if_neg c, eng_nob (by omega)]
    exact (ho v hv (fun e => c ⟨e, rfl⟩)).symm
theorem Inv.a {N A a : Nat} {S : St} (h16 : N ≤ 16) : InvG N A S 99 a none ↔ Inv N A S := by
  have e : ∀ v, v < N → ∀ b, oe S 99 a none v b = oe S 99 99 none v b := fun v hv b => by
    unfold oe; rw [if_neg (by omega), if_neg (by omega)]
  unfold Inv InvG IG IH
  constructor
  · rintro ⟨x1, x2, x3, x4, x5, x6, i, j⟩
    exact ⟨x1, x2, x3, x4, x5, x6, fun v hv a ha => (e v hv a) ▸ i v hv a ha, fun v hv a ha => (e v hv a) ▸ j v hv a ha⟩
  · rintro ⟨x1, x2, x3, x4, x5, x6, i, j⟩
    exact ⟨x1, x2, x3, x4, x5, x6, fun v hv a ha => (e v hv a).symm ▸ i v hv a ha, fun v hv a ha => (e v hv a).symm ▸ j v hv a ha⟩
theorem Inv.tgF' {N A a : Nat} {S : St} (h : Inv N A S) (h16 : N ≤ 16) (ha : a < N) (h8 : xR S 8 a = -1) (t : Int32) : Inv N A (gF' t a S) := by
  unfold gF'
  have hF := h.2.2.2.2.2.1 a (by omega)
  have hr : xR S 9 a = 0 ∧ xR S 10 a = 0 := by
    rcases hF.2.2 with z | ⟨g, z1, z2, _⟩
    · exact z.2
    · rw [h8] at z2; exact absurd z2 (m1_ne (by omega))
  cases hw : xW S a with
  | nil => exact h
  | cons w r =>
    simp only []
    rw [hw] at hF
    obtain ⟨hw1, s, hs, es⟩ := hF.1.2.2 w (by simp)
    have hd := hF.1.2.1
    rw [List.map_cons] at hd
    have hd2 := List.nodup_cons.mp hd
    have e8 : xR (uW (uR (uR S 8 a (nI w.1)) 9 a w.2) a r) 8 a = nI w.1 := by simp [xR_uR, xR_uW]
    have e9 : xR (uW (uR (uR S 8 a (nI w.1)) 9 a w.2) a r) 9 a = w.2 := by simp [xR_uR, xR_uW]
    have e10 : xR (uW (uR (uR S 8 a (nI w.1)) 9 a w.2) a r) 10 a = 0 := by simp [xR_uR, xR_uW, hr.2]
    have eW : xW (uW (uR (uR S 8 a (nI w.1)) 9 a w.2) a r) a = r := by rw [xW_uW, if_pos rfl]
    have q : Arb a S (uW (uR (uR S 8 a (nI w.1)) 9 a w.2) a r) := ⟨rfl, fun b hb => by rw [xW_uW, if_neg hb]; rfl, fun k i hk hk2 => by
      rw [xR_uW, xR_uR, if_neg (by omega), xR_uR, if_neg (by omega)]⟩
    have h1 : Inv N A (uW (uR (uR S 8 a (nI w.1)) 9 a w.2) a r) := by
      rw [← Inv.a (a := a) h16]
      refine q.inv (v0 := 99) (e0 := none) h16 ha ((Inv.a h16).mpr h) ⟨by rw [eW]; exact hF.1.tl, Or.inr ⟨w.1, hw1, e8, by rw [eW]; exact hd2.1, s, hs, by rw [e9]; exact es⟩⟩ (Or.inl e10) (fun v hv => ?_)
      unfold oe
      rw [if_neg (by omega), if_neg (by omega)]
      unfold eng
      rw [e8, e9, eW, h8, if_neg (m1_ne (show v < 16 by omega)), hw]
      unfold engW
      by_cases c : w.1 = v
      · rw [if_pos (by rw [c]), if_pos c]
      · rw [if_neg (nI_ne (by omega) (by omega) c), if_neg c]
        cases r <;> rfl
    refine InvG.tsn h1 h16 (by decide) ha hw1 ⟨s, hs, es⟩ (fun _ => ?_)
    have := (h1.2.2.2.2.2.2.2 w.1 hw1 a ha).1 w.2
    rw [oe_99 (by omega)] at this
    refine this ?_
    unfold eng
    rw [e8, e9, if_pos rfl]
/-- one comes waiting of whom a knew nothing -/
theorem InvG.tins {N A a v n : Nat} {S : St} (h : InvG N A S v a (some (nI n))) (h16 : N ≤ 16) (ha : a < N) (hv : v < N) (hn : n ≤ A) (he : eng S a v = none) : Inv N A (uW S a (ins v (nI n) (xW S a))) := by
  have hF := h.2.2.2.2.2.1 a (by omega)
  have h8 : ¬ xR S 8 a = nI v := fun c => by unfold eng at he; rw [if_pos c] at he; cases he
  have hW : v ∉ (xW S a).map Prod.fst := by
    unfold eng at he
    rw [if_neg h8] at he
    exact engW_none.mp he
  have eW : xW (uW S a (ins v (nI n) (xW S a))) a = ins v (nI n) (xW S a) := by rw [xW_uW, if_pos rfl]
  have q : Arb a S (uW S a (ins v (nI n) (xW S a))) := ⟨rfl, fun b hb => by rw [xW_uW, if_neg hb], fun _ _ _ _ => rfl⟩
  rw [← Inv.a (a := a) h16]
  refine q.inv (v0 := v) (e0 := some (nI n)) h16 ha h ⟨by rw [eW]; exact ins_Wok hF.1 hv h16 hn hW, ?_⟩ (h.1 a (by omega)).2.2.2 (fun u hu => ?_)
  · rcases hF.2.2 with z | ⟨g, z1, z2, z3, z4⟩
    · exact Or.inl z
    · refine Or.inr ⟨g, z1, z2, ?_, z4⟩
      rw [eW]
      intro m
      obtain ⟨w, hw, e⟩ := List.mem_map.mp m
      rcases ins_mem hw with rfl | hw
      · exact h8 (by rw [z2, ← e])
      · exact z3 (by rw [← e]; exact List.mem_map_of_mem hw)
  · rw [oe_n (by omega)]
    by_cases c : u = v
    · subst c
      rw [oe_y]
      unfold eng
      rw [eW, engW_ins hF.1 hv h16 hn hW, xR_uW, if_neg h8, if_pos rfl]
    · rw [oe_n c]
      unfold eng
      rw [eW, engW_ins hF.1 hv h16 hn hW, xR_uW, if_neg c]
theorem eng_z {N A a v : Nat} {S : St} (h : Inv N A S) (h16 : N ≤ 16) (ha : a < N) (hv : v < N) {s : Int32} (e : eng S a v = some s) : Zok S v a s := by
  have := (h.2.2.2.2.2.2.2 v hv a ha).1 s
  rw [oe_99 (by omega)] at this
  exact this e
theorem rq2_R {t : Int32} {a : Nat} {old : List Wtr} {S : St} {k i : Nat} (hk : k ≠ 16) : xR (rq2 t a old S) k i = xR S k i := by
  unfold rq2
  split
  · rfl
  · split
    · exact sn_R _ _ _ _ _ _ hk
    · rfl
theorem rq2_n {t : Int32} {a : Nat} {old : List Wtr} {S : St} (h : old = []) : rq2 t a old S = S := by subst h; rfl
theorem rq2_c {t : Int32} {a : Nat} {old : List Wtr} {S : St} {y : Wtr} {ys : List Wtr} (h : old = y :: ys) : rq2 t a old S = if ahd y.2 (nI y.1) (xR S 9 a) (xR S 8 a) then sn t 2 a y.1 y.2 S else S := by subst h; rfl
theorem rq2_W {t : Int32} {a : Nat} {old : List Wtr} {S : St} : xW (rq2 t a old S) = xW S := by
  unfold rq2
  split
  · rfl
  · split
    · rfl
    · rfl
theorem InvG.trq {N A a v n : Nat} {S : St} (h : InvG N A S v a (some (nI n))) (h16 : N ≤ 16) (ha : a < N) (hv : v < N) (hn : n ≤ A) (he : eng S a v = none) (t : Int32) : Inv N A (rq t a v (nI n) S) := by
  have h1 := h.tins h16 ha hv hn he
  have hF := h1.2.2.2.2.2.1 a (by omega)
  have hFo := h.2.2.2.2.2.1 a (by omega)
  have eW : xW (uW S a (ins v (nI n) (xW S a))) a = ins v (nI n) (xW S a) := by rw [xW_uW, if_pos rfl]
  unfold rq
  by_cases c8 : xR S 8 a = -1
  · rw [if_pos c8, gF_e]
    refine Inv.tgF' ?_ h16 ha (nob_8 _ _).1 t
    rw [← Inv.a (a := a) h16]
    refine InvG.tnob ((Inv.a h16).mpr h1) h16 ha (fun u hu _ => ?_)
    unfold eng
    rw [xR_uW, c8, if_neg (m1_ne (by omega))]
  · rw [if_neg c8]
    obtain ⟨g, hg, e8, hgW, sg, hsg, e9⟩ := hF.2.2.resolve_left (fun z => c8 z.1)
    have e8' : xR S 8 a = nI g := e8
    have e9' : xR S 9 a = nI sg := e9
    have gnS : ∀ S', xR S' 8 a = xR S 8 a → gn S' a = g := fun S' z => gn_e (z.trans e8') (by omega)
    split
    · have h2 : Inv N A (rq2 t a (xW S a) (uW S a (ins v (nI n) (xW S a)))) := by
        by_cases hc : xW S a = []
        · rw [rq2_n hc]; exact h1
        · obtain ⟨y, ys, hy⟩ := List.exists_cons_of_ne_nil hc
          rw [rq2_c hy]
          split
          · obtain ⟨hy1, sy, hsy, ey⟩ := hFo.1.2.2 y (by rw [hy]; simp)
            refine InvG.tsn h1 h16 (by decide) ha hy1 ⟨sy, hsy, ey⟩ (fun _ => eng_z h1 h16 ha hy1 ?_)
            have hm : y ∈ ins v (nI n) (xW S a) := ins_perm.mpr (Or.inr (by rw [hy]; simp))
            unfold eng
            rw [eW, if_neg]
            · exact (engW_some (by rw [eW] at hF; exact hF.1.2.1)).mpr hm
            · intro z
              have : g = y.1 := (nI_eq (by omega) (by omega)).mp (e8.symm.trans z)
              exact hgW (by rw [eW, this]; exact List.mem_map_of_mem hm)
          · exact h1
      unfold rq3
      have k8 : xR (rq2 t a (xW S a) (uW S a (ins v (nI n) (xW S a)))) 8 a = nI g := by rw [rq2_R (by decide)]; exact e8
      have k9 : xR (rq2 t a (xW S a) (uW S a (ins v (nI n) (xW S a)))) 9 a = nI sg := by rw [rq2_R (by decide)]; exact e9
      split
      · exact h2
      · rw [gn_e k8 (by omega), k9]
        have h3 : Inv N A (uR (rq2 t a (xW S a) (uW S a (ins v (nI n) (xW S a)))) 10 a 1) := by
          rw [← Inv.a (a := a) h16]
          have hF2 := h2.2.2.2.2.2.1 a (by omega)
          have q : Arb a (rq2 t a (xW S a) (uW S a (ins v (nI n) (xW S a)))) (uR (rq2 t a (xW S a) (uW S a (ins v (nI n) (xW S a)))) 10 a 1) := ⟨rfl, fun _ _ => rfl, fun k i hk _ => by rw [xR_uR, if_neg (by omega)]⟩
          refine q.inv (v0 := 99) (e0 := none) h16 ha ((Inv.a h16).mpr h2) ⟨hF2.1, Or.inr ⟨g, hg, ?_, ?_, sg, hsg, ?_⟩⟩ (Or.inr (by rw [xR_uR, if_pos ⟨rfl, rfl⟩])) (fun u hu => ?_)
          · rw [xR_uR, if_neg (by omega)]; exact k8
          · rw [xW_uR, rq2_W]; exact hgW
          · rw [xR_uR, if_neg (by omega)]; exact k9
          · rw [oe_n (by omega), oe_n (by omega)]
            unfold eng
            rw [xR_uR, if_neg (show ¬ (8 = 10 ∧ a = a) by omega), xR_uR, if_neg (show ¬ (9 = 10 ∧ a = a) by omega), xW_uR]
        refine InvG.tsn h3 h16 (by decide) ha hg ⟨sg, hsg, rfl⟩ (fun _ => eng_z h3 h16 ha hg ?_)
        unfold eng
        rw [xR_uR, if_neg (show ¬ (8 = 10 ∧ a = a) by omega), k8, if_pos rfl, xR_uR, if_neg (show ¬ (9 = 10 ∧ a = a) by omega), k9]
    · refine InvG.tsn h1 h16 (by decide) ha hv ⟨n, hn, rfl⟩ (fun _ => eng_z h1 h16 ha hv ?_)
      unfold eng
      rw [eW, if_neg]
      · exact (engW_some (by rw [eW] at hF; exact hF.1.2.1)).mpr (ins_perm.mpr (Or.inl rfl))
      · intro z
        have : g = v := (nI_eq (by omega) (by omega)).mp (e8.symm.trans z)
        exact hgW (by rw [eW, this]; exact List.mem_map_of_mem (f := Prod.fst) (ins_perm.mpr (Or.inl rfl)))
theorem Inv.tyl {N A a v n : Nat} {S : St} (h : Inv N A S) (h16 : N ≤ 16) (ha : a < N) (hv : v < N) (hn : n ≤ A) (t : Int32) : Inv N A (yl t a v (nI n) S) := by
  have hF := h.2.2.2.2.2.1 a (by omega)
  unfold yl
  split
  · rename_i c
    obtain ⟨g, hg, e8, hgW, _⟩ := hF.2.2.resolve_left (fun z => m1_ne (show v < 16 by omega) (z.1.symm.trans c.1))
    have egv : g = v := (nI_eq (by omega) (by omega)).mp (e8.symm.trans c.1)
    subst egv
    have he : eng S a g = some (nI n) := by unfold eng; rw [if_pos c.1, c.2]
    have h0 : InvG N A S g a (some (nI n)) := by rw [← he]; exact (InvG.id h16).mpr h
    have h1 := h0.tnob h16 ha (fun u hu hne => by
      unfold eng
      rw [e8, if_neg (nI_ne (by omega) (by omega) (fun z => hne z.symm))])
    have h2 := h1.tins h16 ha hg hn (by rw [eng_nob (by omega)]; exact engW_none.mpr hgW)
    rw [gF_e]
    exact Inv.tgF' h2 h16 ha (nob_8 _ _).1 t
  · exact h
theorem InvG.trl {N A a v n : Nat} {S : St} (h : InvG N A S v a none) (h16 : N ≤ 16) (ha : a < N) (hv : v < N) (he : eng S a v = some (nI n)) (t : Int32) : Inv N A (rl t a v (nI n) S) := by
  have hF := h.2.2.2.2.2.1 a (by omega)
  unfold rl
  split
  · rename_i c
    obtain ⟨g, hg, e8, hgW, _⟩ := hF.2.2.resolve_left (fun z => m1_ne (show v < 16 by omega) (z.1.symm.trans c.1))
    have egv : g = v := (nI_eq (by omega) (by omega)).mp (e8.symm.trans c.1)
    subst egv
    have h1 := h.tnob h16 ha (fun u hu hne => by
      unfold eng
      rw [e8, if_neg (nI_ne (by omega) (by omega) (fun z => hne z.symm))])
    have h2 : Inv N A (nob a S) := by
      have e : eng (nob a S) a g = none := by rw [eng_nob (by omega)]; exact engW_none.mpr hgW
      rw [← e] at h1
      exact (InvG.id h16).mp h1
    rw [gF_e]
    exact Inv.tgF' h2 h16 ha (nob_8 _ _).1 t
  · rename_i c
    have h8 : ¬ xR S 8 a = nI v := by
      intro z
      unfold eng at he
      rw [if_pos z] at he
      exact c ⟨z, Option.some.inj he⟩
    have hW : engW (xW S a) v = some (nI n) := by
      unfold eng at he
      rwa [if_neg h8] at he
    have eW : xW (uW S a (gone v (nI n) (xW S a))) a = gone v (nI n) (xW S a) := by rw [xW_uW, if_pos rfl]
    have q : Arb a S (uW S a (gone v (nI n) (xW S a))) := ⟨rfl, fun b hb => by rw [xW_uW, if_neg hb], fun _ _ _ _ => rfl⟩
    rw [← Inv.a (a := a) h16]
    refine q.inv (v0 := v) (e0 := none) h16 ha h ⟨by rw [eW]; exact hF.1.sub gone_sub, ?_⟩ (h.1 a (by omega)).2.2.2 (fun u hu => ?_)
    · rcases hF.2.2 with z | ⟨g, z1, z2, z3, z4⟩
      · exact Or.inl z
      · refine Or.inr ⟨g, z1, z2, ?_, z4⟩
        rw [eW]
        intro m
        exact z3 ((gone_sub.map _).subset m)
    · rw [oe_n (by omega)]
      by_cases c2 : u = v
      · subst c2
        rw [oe_y]
        unfold eng
        rw [eW, engW_gone hF.1.2.1 hW, xR_uW, if_neg h8, if_pos rfl]
      · rw [oe_n c2]
        unfold eng
        rw [eW, engW_gone hF.1.2.1 hW, xR_uW, if_neg c2]
/-! ===== the asker's steps keep it ===== -/
def Asr (v : Nat) (S S' : St) : Prop := xW S' = xW S ∧ ∀ k i, (i ≠ v ∨ k = 1 ∨ k = 2 ∨ k = 3 ∨ 7 ≤ k) → k < 11 → k ≠ 6 → xR S' k i = xR S k i
theorem Asr.inv {N A v : Nat} {S S' : St} (q : Asr v S S') (h16 : N ≤ 16) (hv : v < N) (h : Inv N A S) (hL : xL S' = xL S) (hA : xR S' 0 v = 1 ∨ xR S' 0 v = 2) (ho : xR S 0 v = 1) (hC : xR S' 0 v = 1 → ∀ i, i < 32 → (bt (xR S' 4 v) i = true → bt (xR S 3 v) i = true) ∧ (bt (xR S' 5 v) i = true → bt (xR S 3 v) i = true)) : Inv N A S' := by
  obtain ⟨qW, qR⟩ := q
  obtain ⟨ja, jb, jc, jd, je, jf, jg, jh⟩ := h
  have r : ∀ k, (k = 1 ∨ k = 2 ∨ k = 3 ∨ k = 7 ∨ k = 8 ∨ k = 9 ∨ k = 10) → xR S' k = xR S k := fun k hk => funext fun i => qR k i (by omega) (by omega) (by omega)
  have r1 := r 1 (by omega); have r2 := r 2 (by omega); have r3 := r 3 (by omega); have r7 := r 7 (by omega); have r8 := r 8 (by omega); have r9 := r 9 (by omega); have r10 := r 10 (by omega)
  have n1 : ¬ xR S 0 v = 0 := by rw [ho]; exact ne10
  have n1' : ¬ xR S' 0 v = 0 := by rcases hA with z | z <;> rw [z] <;> decide
  have ro : ∀ u b, opn S' u b = opn S u b := fun u b => by
    unfold opn
    rw [r3, r2]
    by_cases c : u = v
    · subst c
      by_cases d : bt (xR S 3 u) b = true
      · rw [if_pos ⟨n1', d⟩, if_pos ⟨n1, d⟩]
      · rw [if_neg (fun z => d z.2), if_neg (fun z => d z.2)]
    · rw [qR 0 u (Or.inl c) (by decide) (by decide)]
  have re : ∀ u b, oe S' 99 99 none u b = oe S 99 99 none u b := fun u b => by unfold oe eng; rw [r8, r9, qW]
  have rz : ∀ {u b s}, Zok S u b s → Zok S' u b s := fun {u b s} z => z.cg (by rw [r2]) (fun q1 => by
    by_cases c : u = v
    · subst c; exact ⟨ho, fun d => by rw [r3]; exact d⟩
    · rw [qR 0 u (Or.inl c) (by decide) (by decide)] at q1
      exact ⟨q1, fun d => by rw [r3]; exact d⟩)
  refine ⟨?_, ?_, ?_, ?_, ?_, ?_, ?_, ?_⟩
  · intro u hu
    rw [r7, r10]
    obtain ⟨x1, x2, x3, x4⟩ := ja u hu
    by_cases c : u = v
    · subst c
      exact ⟨Or.inr hA, fun z => absurd hv (by omega), x3, x4⟩
    · rw [qR 0 u (Or.inl c) (by decide) (by decide)]; exact ⟨x1, x2, x3, x4⟩
  · unfold IB; rw [r3]; exact jb
  · intro u hu h1 i hi
    rw [r3]
    by_cases c : u = v
    · subst c; exact hC h1 i hi
    · rw [qR 0 u (Or.inl c) (by decide) (by decide)] at h1
      rw [qR 4 u (Or.inl c) (by decide) (by decide), qR 5 u (Or.inl c) (by decide) (by decide)]
      exact jc u hu h1 i hi
  · unfold ID; rw [r1, r2]; exact jd
  · unfold IE; rw [hL]; exact je
  · unfold IF; rw [qW, r8, r9, r10]; exact jf
  · intro u hu b hb
    rw [re, ro, hL]; exact jg u hu b hb
  · intro u hu b hb
    rw [hL]
    obtain ⟨j1, j2, j3⟩ := jh u hu b hb
    exact ⟨fun s z => rz (j1 s (by rw [← re]; exact z)), fun x q1 q2 => rz (j2 x q1 q2), fun x q1 q2 => rz (j3 x q1 q2)⟩
theorem en0_R {t : Int32} {N v : Nat} {S : St} {k i : Nat} (hk : k < 11) : xR (en0 t N v S) k i = if k = 0 ∧ i = v then 2 else if k = 5 ∧ i = v then 0 else xR S k i := by
  have n15 : ∀ {S : St} {j : Nat} {x : Int32}, xR (uR S 15 j x) k i = xR S k i := fun {S j x} => by rw [xR_uR, if_neg (by omega)]
  have n12 : ∀ {S : St} {j : Nat} {x : Int32}, xR (uR S 12 j x) k i = xR S k i := fun {S j x} => by rw [xR_uR, if_neg (by omega)]
  have ni : ∀ (c : Prop) [Decidable c] (A B : St), xR (if c then A else B) k i = if c then xR A k i else xR B k i := fun c _ A B => by split <;> rfl
  unfold en0
  simp only []
  rw [xR_uE, n15, ni, n15, ite_self, ni, n15, ite_self, ni, n15, ite_self, n12, n15, xR_uR, xR_uR]
  by_cases c5 : k = 5 ∧ i = v
  · rw [if_pos c5, if_neg (by omega), if_pos c5]
  · rw [if_neg c5]
    by_cases c0 : k = 0 ∧ i = v
    · rw [if_pos c0, if_pos c0]
    · rw [if_neg c0, if_neg c0, if_neg c5]
theorem en0_WL {t : Int32} {N v : Nat} {S : St} : xW (en0 t N v S) = xW S ∧ xL (en0 t N v S) = xL S := by
  have nW : ∀ (c : Prop) [Decidable c] (A B : St), xW (if c then A else B) = if c then xW A else xW B := fun c _ A B => by split <;> rfl
  have nL : ∀ (c : Prop) [Decidable c] (A B : St), xL (if c then A else B) = if c then xL A else xL B := fun c _ A B => by split <;> rfl
  unfold en0
  simp only []
  constructor
  · simp only [xW_uE, xW_uR, nW, ite_self]
  · simp only [xL_uE, xL_uR, nL, ite_self]
theorem en_R {t : Int32} {N v : Nat} {S : St} {k i : Nat} (hk : k < 11) : xR (en t N v S) k i = if k = 0 ∧ i = v then 2 else if k = 5 ∧ i = v then 0 else xR S k i := by
  unfold en
  rw [xR_uR, if_neg (by omega)]
  exact en0_R hk
theorem en_WL {t : Int32} {N v : Nat} {S : St} : xW (en t N v S) = xW S ∧ xL (en t N v S) = xL S := ⟨(en0_WL (t := t)).1, (en0_WL (t := t)).2⟩
theorem Inv.ten {N A v : Nat} {S : St} (h : Inv N A S) (h16 : N ≤ 16) (hv : v < N) (h1 : xR S 0 v = 1) (t : Int32) : Inv N A (en t N v S) := by
  refine Asr.inv (v := v) (S := S) ⟨en_WL.1, fun k i hk hk2 _ => ?_⟩ h16 hv h en_WL.2 (Or.inr ?_) h1 (fun z => ?_)
  · rw [en_R hk2, if_neg (by omega), if_neg (by omega)]
  · rw [en_R (by decide), if_pos ⟨rfl, rfl⟩]
  · rw [en_R (by decide), if_pos ⟨rfl, rfl⟩] at z
    exact absurd z (by decide)
theorem Inv.tgr {N A v a : Nat} {S : St} (h : Inv N A S) (h16 : N ≤ 16) (hv : v < N) (ha : a < N) (h1 : xR S 0 v = 1) (hb : bt (xR S 3 v) a = true) (t : Int32) : Inv N A (gr t N v a S) := by
  have hs : Inv N A (uR (uR (uR S 4 v (bon (xR S 4 v) a)) 5 v (bof (xR S 5 v) a)) 6 v (bof (xR S 6 v) a)) := by
    refine Asr.inv (v := v) (S := S) ⟨rfl, fun k i hk hk2 hk3 => ?_⟩ h16 hv h rfl (Or.inl ?_) h1 (fun _ i hi => ⟨fun z => ?_, fun z => ?_⟩)
    · rw [xR_uR, if_neg (by omega), xR_uR, if_neg (by omega), xR_uR, if_neg (by omega)]
    · simpa [xR_uR] using h1
    · have e : xR (uR (uR (uR S 4 v (bon (xR S 4 v) a)) 5 v (bof (xR S 5 v) a)) 6 v (bof (xR S 6 v) a)) 4 v = bon (xR S 4 v) a := by simp [xR_uR]
      rw [e, bt_on _ (by omega) hi] at z
      rcases Bool.or_eq_true _ _ |>.mp z with z | z
      · exact (h.2.2.1 v (by omega) h1 i hi).1 z
      · rw [of_decide_eq_true z]; exact hb
    · have e : xR (uR (uR (uR S 4 v (bon (xR S 4 v) a)) 5 v (bof (xR S 5 v) a)) 6 v (bof (xR S 6 v) a)) 5 v = bof (xR S 5 v) a := by simp [xR_uR]
      rw [e, bt_off _ (by omega) hi] at z
      exact (h.2.2.1 v (by omega) h1 i hi).2 (Bool.and_eq_true _ _ |>.mp z).1
  unfold gr
  simp only []
  split
  · exact hs.ten h16 hv (by simpa [xR_uR] using h1) t
  · exact hs
theorem stampA {N A v : Nat} {S : St} (h : Inv N A S) (hv : v < 16) : ∃ n, n ≤ A ∧ xR S 2 v = nI n := by
  obtain ⟨c, m, h1, h2, _, h4⟩ := h.2.2.2.1 v hv
  exact ⟨m, by omega, h4⟩
theorem Inv.tyT {N A v a : Nat} {S : St} (h : Inv N A S) (h16 : N ≤ 16) (hv : v < N) (ha : a < N) (h1 : xR S 0 v = 1) (t : Int32) : Inv N A (yT t v a S) := by
  have hs := InvG.tsn h h16 (t := t) (k := 4) (f := v) (g := a) (by decide) hv ha (stampA (v := v) h (by omega)) (fun z => absurd z (by decide))
  have e1 : xR (sn t 4 v a (xR S 2 v) S) 0 v = 1 := by rw [sn_R _ _ _ _ _ _ (by decide)]; exact h1
  unfold yT
  simp only []
  refine Asr.inv (v := v) (S := sn t 4 v a (xR S 2 v) S) ⟨rfl, fun k i hk hk2 hk3 => ?_⟩ h16 hv hs rfl (Or.inl ?_) e1 (fun _ i hi => ⟨fun z => ?_, fun z => ?_⟩)
  · rw [xR_uR, if_neg (by omega), xR_uR, if_neg (by omega)]
  · rw [xR_uR, if_neg (by omega), xR_uR, if_neg (by omega)]; exact e1
  · rw [xR_uR, if_neg (by omega), xR_uR, if_pos ⟨rfl, rfl⟩, bt_off _ (by omega) hi] at z
    rw [sn_R _ _ _ _ _ _ (by decide)]
    exact (h.2.2.1 v (by omega) h1 i hi).1 (Bool.and_eq_true _ _ |>.mp z).1
  · rw [xR_uR, if_neg (by omega), xR_uR, if_neg (by omega), sn_R _ _ _ _ _ _ (by decide)] at z
    rw [sn_R _ _ _ _ _ _ (by decide)]
    exact (h.2.2.1 v (by omega) h1 i hi).2 z
theorem yT_R0 (t : Int32) (v a : Nat) (S : St) (i : Nat) : xR (yT t v a S) 0 i = xR S 0 i := by
  unfold yT
  simp only []
  rw [xR_uR, if_neg (by omega), xR_uR, if_neg (by omega), sn_R _ _ _ _ _ _ (by decide)]
theorem Inv.tfdl {N A v : Nat} (h16 : N ≤ 16) (hv : v < N) (t : Int32) (db : Int32) : ∀ (ws : List Nat) (S : St), Inv N A S → xR S 0 v = 1 → (∀ w, w ∈ ws → w < N) → Inv N A (fdl t v db ws S) ∧ xR (fdl t v db ws S) 0 v = 1 := by
  intro ws
  induction ws with
  | nil => intro S h h1 _; exact ⟨h, h1⟩
  | cons w ws ih =>
    intro S h h1 hw
    unfold fdl
    rw [List.foldl_cons]
    have := ih (if bt db w then yT t v w S else S) (by
      split
      · exact h.tyT h16 hv (hw w (by simp)) h1 t
      · exact h) (by
      split
      · rw [yT_R0]; exact h1
      · exact h1) (fun x hx => hw x (by simp [hx]))
    unfold fdl at this
    exact this
theorem Inv.tfd {N A v a : Nat} {S : St} (h : Inv N A S) (h16 : N ≤ 16) (hv : v < N) (h1 : xR S 0 v = 1) (t : Int32) : Inv N A (fd t N v a S) := by
  have h0 : Inv N A (uR S 6 v (bon (xR S 6 v) a)) := InvG.reg h ⟨rfl, fun k _ hk i => by rw [xR_uR, if_neg (fun z => hk z.1)]⟩ rfl
  obtain ⟨h2, h3⟩ := Inv.tfdl h16 hv t (xR S 5 v) (List.range N) _ h0 (by rw [xR_uR, if_neg (by omega)]; exact h1) (fun w hw => List.mem_range.mp hw)
  unfold fd
  refine Asr.inv (v := v) (S := fdl t v (xR S 5 v) (List.range N) (uR S 6 v (bon (xR S 6 v) a))) ⟨rfl, fun k i hk hk2 hk3 => ?_⟩ h16 hv h2 rfl (Or.inl ?_) h3 (fun _ i hi => ⟨fun z => ?_, fun z => ?_⟩)
  · rw [xR_uR, if_neg (by omega)]
  · rw [xR_uR, if_neg (by omega)]; exact h3
  · rw [xR_uR, if_neg (by omega)] at z
    exact (h2.2.2.1 v (by omega) h3 i hi).1 z
  · rw [xR_uR, if_pos ⟨rfl, rfl⟩, b_0] at z
    exact absurd z (by decide)
theorem Inv.tiq {N A v a : Nat} {S : St} (h : Inv N A S) (h16 : N ≤ 16) (hv : v < N) (ha : a < N) (h1 : xR S 0 v = 1) (t : Int32) : Inv N A (iq t v a S) := by
  unfold iq
  split
  · rename_i hb
    split
    · refine Asr.inv (v := v) (S := S) ⟨rfl, fun k i hk hk2 hk3 => ?_⟩ h16 hv h rfl (Or.inl ?_) h1 (fun _ i hi => ⟨fun z => ?_, fun z => ?_⟩)
      · rw [xR_uR, if_neg (by omega)]
      · rw [xR_uR, if_neg (by omega)]; exact h1
      · rw [xR_uR, if_neg (by omega)] at z
        exact (h.2.2.1 v (by omega) h1 i hi).1 z
      · rw [xR_uR, if_pos ⟨rfl, rfl⟩, bt_on _ (by omega) hi] at z
        rcases Bool.or_eq_true _ _ |>.mp z with z | z
        · exact (h.2.2.1 v (by omega) h1 i hi).2 z
        · rw [of_decide_eq_true z]
          exact (h.2.2.1 v (by omega) h1 a (by omega)).1 hb
    · exact h.tyT h16 hv ha h1 t
  · exact h
theorem sAl_L {t : Int32} {k f : Nat} (hf : f < 16) (set s : Int32) : ∀ (d i : Nat) (S : St) (l : Nat), l < 256 → i + d ≤ 16 → xL (sAl t k f set s (List.range' i d) S) l = if l / 16 = f ∧ i ≤ l % 16 ∧ l % 16 < i + d ∧ bt set (l % 16) = true then xL S l ++ [(nI k, s, t)] else xL S l := by
  intro d
  induction d with
  | zero =>
    intro i S l hl hi
    rw [if_neg (by omega)]; rfl
  | succ d ih =>
    intro i S l hl hi
    unfold sAl
    rw [List.range'_succ, List.foldl_cons]
    have := ih (i + 1) (if bt set i then sn t k f i s S else S) l hl (by omega)
    unfold sAl at this
    rw [this]
    have e1 : xL (if bt set i then sn t k f i s S else S) l = if l = 16 * f + i ∧ bt set i = true then xL S l ++ [(nI k, s, t)] else xL S l := by
      by_cases c : bt set i = true
      · rw [if_pos c, sn_L]
        by_cases c2 : l = 16 * f + i
        · rw [if_pos c2, if_pos ⟨c2, c⟩, c2]
        · rw [if_neg c2, if_neg (fun z => c2 z.1)]
      · rw [if_neg c, if_neg (fun z => c z.2)]
    rw [e1]
    by_cases c : l = 16 * f + i ∧ bt set i = true
    · have q1 : l % 16 = i := by omega
      have q2 : l / 16 = f := by omega
      rw [if_pos c, if_neg (by omega), if_pos ⟨q2, by omega, by omega, by rw [q1]; exact c.2⟩]
    · rw [if_neg c]
      by_cases c2 : l / 16 = f ∧ i + 1 ≤ l % 16 ∧ l % 16 < i + 1 + d ∧ bt set (l % 16) = true
      · rw [if_pos c2, if_pos ⟨c2.1, by omega, by omega, c2.2.2.2⟩]
      · rw [if_neg c2, if_neg]
        rintro ⟨z1, z2, z3, z4⟩
        by_cases c3 : l % 16 = i
        · exact c ⟨by omega, by rw [← c3]; exact z4⟩
        · exact c2 ⟨z1, by omega, by omega, z4⟩
theorem sA_L {t : Int32} {N k f : Nat} (h16 : N ≤ 16) (hf : f < 16) (set s : Int32) (S : St) {l : Nat} (hl : l < 256) : xL (sA t N k f set s S) l = if l / 16 = f ∧ l % 16 < N ∧ bt set (l % 16) = true then xL S l ++ [(nI k, s, t)] else xL S l := by
  unfold sA
  rw [List.range_eq_range', sAl_L hf set s N 0 S l hl (by omega)]
  by_cases c : l / 16 = f ∧ l % 16 < N ∧ bt set (l % 16) = true
  · rw [if_pos c, if_pos ⟨c.1, by omega, by omega, c.2.2⟩]
  · rw [if_neg c, if_neg (fun z => c ⟨z.1, by omega, z.2.2.2⟩)]
theorem sAl_W (t : Int32) (k f : Nat) (set s : Int32) : ∀ (ws : List Nat) (S : St), xW (sAl t k f set s ws S) = xW S := by
  intro ws
  induction ws with
  | nil => intro S; rfl
  | cons w ws ih =>
    intro S
    unfold sAl
    rw [List.foldl_cons]
    have := ih (if bt set w then sn t k f w s S else S)
    unfold sAl at this
    rw [this]
    split <;> rfl
theorem sA_R {t : Int32} {N k f : Nat} {set s : Int32} {S : St} {a b : Nat} (h : a ≠ 16) : xR (sA t N k f set s S) a b = xR S a b := sAl_R t k f set s h _ S
theorem sA_W {t : Int32} {N k f : Nat} {set s : Int32} {S : St} : xW (sA t N k f set s S) = xW S := sAl_W t k f set s _ S
theorem rst_R {v : Nat} {S : St} {k i : Nat} : xR (rst v S) k i = if i = v ∧ (k = 0 ∨ (3 ≤ k ∧ k ≤ 6)) then 0 else xR S k i := by
  unfold rst
  simp only [xR_uR]
  by_cases c : i = v ∧ (k = 0 ∨ (3 ≤ k ∧ k ≤ 6))
  · rw [if_pos c]
    obtain ⟨c1, c2⟩ := c
    rcases (show k = 0 ∨ k = 3 ∨ k = 4 ∨ k = 5 ∨ k = 6 by omega) with rfl | rfl | rfl | rfl | rfl <;> simp [c1]
  · rw [if_neg c, if_neg (by omega), if_neg (by omega), if_neg (by omega), if_neg (by omega), if_neg (by omega)]
theorem Inv.tlv {N A v : Nat} {S : St} (h : Inv N A S) (h16 : N ≤ 16) (hv : v < N) (h1 : xR S 0 v ≠ 0) (t : Int32) : Inv N A (lv t N v S) := by
  have st := stampA h (show v < 16 by omega)
  obtain ⟨ja, jb, jc, jd, je, jf, jg, jh⟩ := h
  have eR : ∀ k i, k ≠ 16 → xR (lv t N v S) k i = if i = v ∧ (k = 0 ∨ (3 ≤ k ∧ k ≤ 6)) then 0 else xR S k i := fun k i hk => by
    unfold lv; rw [sA_R hk, rst_R]
  have r : ∀ k, (k = 1 ∨ k = 2 ∨ k = 7 ∨ k = 8 ∨ k = 9 ∨ k = 10) → xR (lv t N v S) k = xR S k := fun k hk => funext fun i => by rw [eR k i (by omega), if_neg (by omega)]
  have r1 := r 1 (by omega); have r2 := r 2 (by omega); have r7 := r 7 (by omega); have r8 := r 8 (by omega); have r9 := r 9 (by omega); have r10 := r 10 (by omega)
  have eW : xW (lv t N v S) = xW S := by unfold lv; rw [sA_W]; rfl
  have eL : ∀ l, l < 256 → xL (lv t N v S) l = if l / 16 = v ∧ l % 16 < N ∧ bt (xR S 3 v) (l % 16) = true then xL S l ++ [(nI 5, xR S 2 v, t)] else xL S l := fun l hl => by
    unfold lv; rw [sA_L h16 (by omega) _ _ _ hl]; rfl
  have e0 : xR (lv t N v S) 0 v = 0 := by rw [eR 0 v (by decide), if_pos ⟨rfl, Or.inl rfl⟩]
  have e0' : ∀ u, u ≠ v → ∀ k, k ≠ 16 → xR (lv t N v S) k u = xR S k u := fun u hu k hk => by rw [eR k u hk, if_neg (fun z => hu z.1)]
  have re : ∀ u b, oe (lv t N v S) 99 99 none u b = oe S 99 99 none u b := fun u b => by unfold oe eng; rw [r8, r9, eW]
  have rz : ∀ {u b s}, Zok S u b s → Zok (lv t N v S) u b s := fun {u b s} z => z.cg (by rw [r2]) (fun q1 => by
    by_cases c : u = v
    · subst c; rw [e0] at q1; exact absurd q1 ne01
    · rw [e0' u c 0 (by decide)] at q1
      exact ⟨q1, fun d => by rw [e0' u c 3 (by decide)]; exact d⟩)
  refine ⟨?_, ?_, ?_, ?_, ?_, ?_, ?_, ?_⟩
  · intro u hu
    rw [r7, r10]
    obtain ⟨x1, x2, x3, x4⟩ := ja u hu
    by_cases c : u = v
    · subst c; exact ⟨Or.inl e0, fun _ => e0, x3, x4⟩
    · rw [e0' u c 0 (by decide)]; exact ⟨x1, x2, x3, x4⟩
  · intro u hu i hi hi2
    by_cases c : u = v
    · subst c; rw [eR 3 u (by decide), if_pos ⟨rfl, Or.inr (by omega)⟩, b_0]
    · rw [e0' u c 3 (by decide)]; exact jb u hu i hi hi2
  · intro u hu q1 i hi
    by_cases c : u = v
    · subst c; rw [e0] at q1; exact absurd q1 ne01
    · rw [e0' u c 0 (by decide)] at q1
      rw [e0' u c 3 (by decide), e0' u c 4 (by decide), e0' u c 5 (by decide)]
      exact jc u hu q1 i hi
  · unfold ID; rw [r1, r2]; exact jd
  · intro l hl
    rw [eL l hl]
    by_cases c : l / 16 = v ∧ l % 16 < N ∧ bt (xR S 3 v) (l % 16) = true
    · rw [if_pos c]
      refine ⟨fun x hx => ?_, fun z => absurd ⟨by omega, c.2.1⟩ z⟩
      rcases List.mem_append.mp hx with hx | hx
      · exact (je l hl).1 x hx
      · rw [List.mem_singleton] at hx
        subst hx
        exact ⟨⟨5, by decide, rfl⟩, st⟩
    · rw [if_neg c]; exact je l hl
  · unfold IF; rw [eW, r8, r9, r10]; exact jf
  · intro u hu b hb
    rw [re, eL _ (by omega)]
    have i := jg u hu b hb
    by_cases c : u = v
    · subst c
      have o : opn (lv t N u S) u b = none := by unfold opn; rw [if_neg (fun z => z.1 e0)]
      rw [o, show (16 * u + b) % 16 = b by omega]
      by_cases c2 : bt (xR S 3 u) b = true
      · rw [if_pos ⟨by omega, hb, c2⟩, run_ap, i]
        unfold opn
        rw [if_pos ⟨h1, c2⟩, Option.bind_some, run_rel]
      · rw [if_neg (fun z => c2 z.2.2), i]
        unfold opn
        rw [if_neg (fun z => c2 z.2)]
    · have o : opn (lv t N v S) u b = opn S u b := by
        unfold opn; rw [e0' u c 0 (by decide), e0' u c 3 (by decide), r2]
      rw [o, if_neg (by omega)]; exact i
  · intro u hu b hb
    obtain ⟨j1, j2, j3⟩ := jh u hu b hb
    refine ⟨fun s z => rz (j1 s (by rw [← re]; exact z)), fun x q1 q2 => rz ?_, fun x q1 q2 => rz ?_⟩
    · rw [eL _ (by omega)] at q1
      split at q1
      · rcases List.mem_append.mp q1 with q1 | q1
        · exact j2 x q1 q2
        · rw [List.mem_singleton] at q1
          subst q1
          exact absurd (show nI 5 = nI 0 from q2) (by decide)
      · exact j2 x q1 q2
    · rw [eL _ (by omega)] at q1
      split at q1
      · rcases List.mem_append.mp q1 with q1 | q1
        · exact j3 x q1 q2
        · rw [List.mem_singleton] at q1
          subst q1
          exact absurd (show nI 5 = nI 1 ∨ nI 5 = nI 2 ∨ nI 5 = nI 3 from q2) (by decide)
      · exact j3 x q1 q2
/-! ===== to ask, to bring: they keep it ===== -/
theorem Wok.mo {N A A' : Nat} {l : List Wtr} (h : Wok N A l) (q : A ≤ A') : Wok N A' l :=
  ⟨h.1, h.2.1, fun w hw => ⟨(h.2.2 w hw).1, by obtain ⟨s, z1, z2⟩ := (h.2.2 w hw).2; exact ⟨s, by omega, z2⟩⟩⟩
theorem Inv.mo {N A A' : Nat} {S : St} (h : Inv N A S) (q : A ≤ A') : Inv N A' S := by
  obtain ⟨ja, jb, jc, jd, je, jf, jg, jh⟩ := h
  refine ⟨ja, jb, jc, ?_, ?_, ?_, jg, jh⟩
  · intro v hv
    obtain ⟨c, m, z1, z2, z3⟩ := jd v hv
    exact ⟨c, m, by omega, z2, z3⟩
  · intro l hl
    refine ⟨fun x hx => ?_, (je l hl).2⟩
    obtain ⟨z1, s, z2, z3⟩ := (je l hl).1 x hx
    exact ⟨z1, s, by omega, z3⟩
  · intro a ha
    obtain ⟨z1, z2, z3⟩ := jf a ha
    refine ⟨z1.mo q, z2, ?_⟩
    rcases z3 with z3 | ⟨g, y1, y2, y3, s, y4, y5⟩
    · exact Or.inl z3
    · exact Or.inr ⟨g, y1, y2, y3, s, by omega, y5⟩
theorem ak_R {t : Int32} {N v : Nat} {S : St} {k i : Nat} (hk : k ≠ 16) : xR (ak t N v S) k i = if i = v then (if k = 0 then 1 else if k = 1 then xR S 1 v + 1 else if k = 2 then xR S 1 v + 1 else if k = 3 then qm N S v else if k = 4 then 0 else if k = 5 then 0 else if k = 6 then 0 else if k = 13 then xR S 15 1 else if k = 14 then 0 else xR S k i) else xR S k i := by
  unfold ak
  simp only []
  rw [sA_R hk]
  simp only [xR_uR]
  by_cases c : i = v
  · subst c
    simp only [and_true, if_true]
    by_cases k14 : k = 14
    · simp [k14]
    · by_cases k13 : k = 13
      · simp [k13]
      · by_cases k0 : k = 0
        · simp [k0]
        · by_cases k6 : k = 6
          · simp [k6]
          · by_cases k5 : k = 5
            · simp [k5]
            · by_cases k4 : k = 4
              · simp [k4]
              · by_cases k3 : k = 3
                · simp [k3]
                · by_cases k2 : k = 2
                  · simp [k2]
                  · by_cases k1 : k = 1
                    · simp [k1]
                    · simp [k14, k13, k0, k6, k5, k4, k3, k2, k1]
  · simp [c]
theorem ak_L {t : Int32} {N v : Nat} {S : St} (h16 : N ≤ 16) (hv : v < 16) {l : Nat} (hl : l < 256) : xL (ak t N v S) l = if l / 16 = v ∧ l % 16 < N ∧ bt (qm N S v) (l % 16) = true then xL S l ++ [(nI 0, xR S 1 v + 1, t)] else xL S l := by
  unfold ak
  simp only []
  rw [sA_L h16 hv _ _ _ hl]
  rfl
theorem ak_W {t : Int32} {N v : Nat} {S : St} : xW (ak t N v S) = xW S := by
  unfold ak
  simp only []
  rw [sA_W]; rfl
theorem Inv.tak {N A v : Nat} {S : St} (h : Inv N A S) (h16 : N ≤ 16) (hv : v < N) (h0 : xR S 0 v = 0) (hA : A + 1 < 1048576) (hQ : ∀ i, N ≤ i → i < 32 → bt (qm N S v) i = false) (t : Int32) : Inv N (A + 1) (ak t N v S) := by
  obtain ⟨c, m, hc, hm, e1, e2⟩ := h.2.2.2.1 v (by omega)
  obtain ⟨ja, jb, jc, jd, je, jf, jg, jh⟩ := h.mo (Nat.le_succ A)
  have eR : ∀ k i, k ≠ 16 → i ≠ v → xR (ak t N v S) k i = xR S k i := fun k i hk hi => by rw [ak_R hk, if_neg hi]
  have r : ∀ k, (k = 7 ∨ k = 8 ∨ k = 9 ∨ k = 10) → xR (ak t N v S) k = xR S k := fun k hk => funext fun i => by
    rw [ak_R (by omega)]
    by_cases d : i = v
    · rw [if_pos d, if_neg (by omega), if_neg (by omega), if_neg (by omega), if_neg (by omega), if_neg (by omega), if_neg (by omega), if_neg (by omega), if_neg (by omega), if_neg (by omega)]
    · rw [if_neg d]
  have r7 := r 7 (by omega); have r8 := r 8 (by omega); have r9 := r 9 (by omega); have r10 := r 10 (by omega)
  have n0 : xR (ak t N v S) 0 v = 1 := by rw [ak_R (by decide), if_pos rfl]; rfl
  have n1 : xR (ak t N v S) 1 v = nI (c + 1) := by rw [ak_R (by decide), if_pos rfl, e1, nI_1]; rfl
  have n2 : xR (ak t N v S) 2 v = nI (c + 1) := by rw [ak_R (by decide), if_pos rfl, e1, nI_1]; rfl
  have n3 : xR (ak t N v S) 3 v = qm N S v := by rw [ak_R (by decide), if_pos rfl]; rfl
  have n4 : xR (ak t N v S) 4 v = 0 := by rw [ak_R (by decide), if_pos rfl]; rfl
  have n5 : xR (ak t N v S) 5 v = 0 := by rw [ak_R (by decide), if_pos rfl]; rfl
  have eL : ∀ l, l < 256 → xL (ak t N v S) l = if l / 16 = v ∧ l % 16 < N ∧ bt (qm N S v) (l % 16) = true then xL S l ++ [(nI 0, nI (c + 1), t)] else xL S l := fun l hl => by
    rw [ak_L h16 (by omega) hl, e1, nI_1]
  have re : ∀ u b, oe (ak t N v S) 99 99 none u b = oe S 99 99 none u b := fun u b => by unfold oe eng; rw [r8, r9, ak_W]
  have rz : ∀ {u b s}, Zok S u b s → Zok (ak t N v S) u b s := fun {u b s} z => by
    by_cases d : u = v
    · subst d
      obtain ⟨n, m', z1, z2, z3, z4, z5⟩ := z
      have em : m' = m := (nI_eq (by omega) (by omega)).mp (z2.symm.trans e2)
      exact ⟨n, c + 1, z1, n2, by omega, by omega, fun q => by omega⟩
    · exact z.ex (eR 2 u (by decide) d) (eR 0 u (by decide) d) (eR 3 u (by decide) d)
  refine ⟨?_, ?_, ?_, ?_, ?_, ?_, ?_, ?_⟩
  · intro u hu
    rw [r7, r10]
    obtain ⟨x1, x2, x3, x4⟩ := ja u hu
    by_cases d : u = v
    · subst d; exact ⟨Or.inr (Or.inl n0), fun z => absurd hv (by omega), x3, x4⟩
    · rw [eR 0 u (by decide) d]; exact ⟨x1, x2, x3, x4⟩
  · intro u hu i hi hi2
    by_cases d : u = v
    · subst d; rw [n3]; exact hQ i hi hi2
    · rw [eR 3 u (by decide) d]; exact jb u hu i hi hi2
  · intro u hu q1 i hi
    by_cases d : u = v
    · subst d
      rw [n4, n5, b_0]
      exact ⟨fun z => absurd z (by decide), fun z => absurd z (by decide)⟩
    · rw [eR 0 u (by decide) d] at q1
      rw [eR 3 u (by decide) d, eR 4 u (by decide) d, eR 5 u (by decide) d]
      exact jc u hu q1 i hi
  · intro u hu
    by_cases d : u = v
    · subst d; exact ⟨c + 1, c + 1, by omega, Nat.le_refl _, n1, n2⟩
    · rw [eR 1 u (by decide) d, eR 2 u (by decide) d]; exact jd u hu
  · intro l hl
    rw [eL l hl]
    by_cases d : l / 16 = v ∧ l % 16 < N ∧ bt (qm N S v) (l % 16) = true
    · rw [if_pos d]
      refine ⟨fun x hx => ?_, fun z => absurd ⟨by omega, d.2.1⟩ z⟩
      rcases List.mem_append.mp hx with hx | hx
      · exact (je l hl).1 x hx
      · rw [List.mem_singleton] at hx
        subst hx
        exact ⟨⟨0, by decide, rfl⟩, c + 1, by omega, rfl⟩
    · rw [if_neg d]; exact je l hl
  · unfold IF; rw [ak_W, r8, r9, r10]; exact jf
  · intro u hu b hb
    rw [re, eL _ (by omega)]
    have i := jg u hu b hb
    by_cases d : u = v
    · subst d
      have o : opn S u b = none := by unfold opn; rw [if_neg (fun z => z.1 h0)]
      rw [o] at i
      rw [show (16 * u + b) % 16 = b by omega]
      by_cases c2 : bt (qm N S u) b = true
      · have o2 : opn (ak t N u S) u b = some (nI (c + 1)) := by unfold opn; rw [n0, n3, n2, if_pos ⟨ne10, c2⟩]
        rw [if_pos ⟨by omega, hb, c2⟩, run_ap, i, Option.bind_some, run_req, o2]
      · have o2 : opn (ak t N u S) u b = none := by unfold opn; rw [n3, if_neg (fun z => c2 z.2)]
        rw [if_neg (fun z => c2 z.2.2), i, o2]
    · have o : opn (ak t N v S) u b = opn S u b := by
        unfold opn; rw [eR 0 u (by decide) d, eR 3 u (by decide) d, eR 2 u (by decide) d]
      rw [o, if_neg (by omega)]; exact i
  · intro u hu b hb
    obtain ⟨j1, j2, j3⟩ := jh u hu b hb
    refine ⟨fun s z => rz (j1 s (by rw [← re]; exact z)), fun x q1 q2 => ?_, fun x q1 q2 => ?_⟩
    · rw [eL _ (by omega)] at q1
      by_cases d : (16 * u + b) / 16 = v ∧ (16 * u + b) % 16 < N ∧ bt (qm N S v) ((16 * u + b) % 16) = true
      · rw [if_pos d] at q1
        rcases List.mem_append.mp q1 with q1 | q1
        · exact rz (j2 x q1 q2)
        · rw [List.mem_singleton] at q1
          subst q1
          have d1 : u = v := by omega
          subst d1
          exact ⟨c + 1, c + 1, rfl, n2, Nat.le_refl _, by omega, fun _ _ => by rw [n3]; have := d.2.2; rwa [show (16 * u + b) % 16 = b by omega] at this⟩
      · rw [if_neg d] at q1; exact rz (j2 x q1 q2)
    · rw [eL _ (by omega)] at q1
      split at q1
      · rcases List.mem_append.mp q1 with q1 | q1
        · exact rz (j3 x q1 q2)
        · rw [List.mem_singleton] at q1
          subst q1
          exact absurd (show nI 0 = nI 1 ∨ nI 0 = nI 2 ∨ nI 0 = nI 3 from q2) (by decide)
      · exact rz (j3 x q1 q2)
/-- a letter's stamp puts the clock on -/
theorem InvG.clk {N A : Nat} {S : St} {v0 a0 : Nat} {e0 : Option Int32} (h : InvG N A S v0 a0 e0) (h16 : N ≤ 16) (hA : A < 1048576) {g s : Nat} (hg : g < 16) (hs : s ≤ A) : InvG N A (if nI s ≤ xR S 1 g then S else uR S 1 g (nI s)) v0 a0 e0 := by
  split
  · exact h
  · rename_i c
    obtain ⟨ja, jb, jc, jd, je, jf, jg, jh⟩ := h
    have r : ∀ k, k ≠ 1 → xR (uR S 1 g (nI s)) k = xR S k := fun k hk => funext fun i => by rw [xR_uR, if_neg (fun z => hk z.1)]
    have ro : ∀ u b, opn (uR S 1 g (nI s)) u b = opn S u b := fun u b => rfl
    have re : ∀ u b, oe (uR S 1 g (nI s)) v0 a0 e0 u b = oe S v0 a0 e0 u b := fun u b => rfl
    have rz : ∀ {u b s'}, Zok S u b s' → Zok (uR S 1 g (nI s)) u b s' := fun z => z
    refine ⟨ja, jb, jc, ?_, je, jf, jg, jh⟩
    intro u hu
    obtain ⟨c', m, z1, z2, z3, z4⟩ := jd u hu
    by_cases d : u = g
    · subst d
      refine ⟨s, m, hs, ?_, by rw [xR_uR, if_pos ⟨rfl, rfl⟩], by rw [r 2 (by decide)]; exact z4⟩
      have : ¬ s ≤ c' := fun q => c (by rw [z3]; exact nI_le q (by omega))
      omega
    · exact ⟨c', m, z1, z2, by rw [xR_uR, if_neg (fun q => d q.2)]; exact z3, by rw [r 2 (by decide)]; exact z4⟩
theorem wt_S (N k f g : Nat) (s : Int32) (S : St) : Sam S (wt N k f g s S) := ⟨(wt_WL N k f g s S).1, fun k' hk _ i => wt_R (by omega) (by omega) (by omega) i⟩
theorem popE_cg {S S' : St} {f g : Nat} {x : Ltr} (h : eng S' g f = eng S g f) : popE S' f g x = popE S f g x := by
  unfold popE; rw [h]
/-- what a reading rests on -/
theorem Hok_of {N A : Nat} {S : St} {v0 a0 : Nat} {e0 : Option Int32} (h : InvG N A S v0 a0 e0) (h16 : N ≤ 16) {f g : Nat} (hg : g < N) (x : Int32) : Hok S f g x := by
  have hF := h.2.2.2.2.2.1 g (by omega)
  have hl := hF.1.len
  refine ⟨fun w hw => by have := (hF.1.2.2 w hw).1; omega, by omega, Srt_of hF.1.1, ?_⟩
  rcases hF.2.2 with z | ⟨y, z1, z2, _⟩
  · exact Or.inl z.1
  · exact Or.inr ⟨y, by omega, z2⟩
theorem clk_R {S : St} {g : Nat} {s : Int32} {k i : Nat} (hk : k ≠ 1) : xR (if s ≤ xR S 1 g then S else uR S 1 g s) k i = xR S k i := by
  split
  · rfl
  · rw [xR_uR, if_neg (fun z => hk z.1)]
theorem clk_2 {S : St} {g : Nat} {s : Int32} : (if s ≤ xR S 1 g then S else uR S 1 g s).2 = S.2 := by
  split <;> rfl
theorem Inv.tbr {N A : Nat} {S : St} (h : Inv N A S) (h16 : N ≤ 16) (hA : A < 1048576) {f g : Nat} (hf : f < N) (hg : g < N) (t : Int32) : Inv N A (br t N f g S) := by
  unfold br
  cases hx : xL S (16 * f + g) with
  | nil => exact h
  | cons x r =>
    simp only []
    obtain ⟨⟨k, hk, ek⟩, n, hn, en⟩ := (h.2.2.2.2.1 _ (show 16 * f + g < 256 by omega)).1 x (by rw [hx]; simp)
    have kk : x.1.toNatClampNeg = k := by rw [ek, nI_clamp (by omega)]
    rw [kk, en]
    obtain ⟨h1, p0, p5, pz⟩ := h.pop h16 hf hg hx
    have wl := wt_WL N k f g (nI n) (uL S (16 * f + g) r)
    have sm := wt_S N k f g (nI n) (uL S (16 * f + g) r)
    have h2 := h1.reg sm wl.2
    have h3 := h2.clk h16 hA (g := g) (s := n) (by omega) hn
    generalize hS2 : wt N k f g (nI n) (uL S (16 * f + g) r) = S2 at h2 h3 wl sm
    unfold rd
    simp only []
    have e2 : ∀ b u, eng S2 b u = eng S b u := fun b u => by
      unfold eng
      rw [sm.2 8 (by decide) (by decide), sm.2 9 (by decide) (by decide), sm.1]
      rfl
    have q2 : ∀ k, k < 11 → k ≠ 6 → ∀ i, xR S2 k i = xR S k i := fun k hk hk6 i => sm.2 k hk hk6 i
    generalize hS3 : (if nI n ≤ xR S2 1 g then S2 else uR S2 1 g (nI n)) = S3 at h3
    have r3 : ∀ k, k ≠ 1 → ∀ i, xR S3 k i = xR S2 k i := fun k hk i => by rw [← hS3]; exact clk_R hk
    have w3 : xW S3 = xW S2 := by rw [← hS3]; unfold xW; rw [clk_2]
    have e3 : ∀ b u, eng S3 b u = eng S b u := fun b u => by
      rw [← e2]
      unfold eng
      rw [r3 8 (by decide), r3 9 (by decide), w3]
    have other : ¬ k = 0 → ¬ k = 5 → Inv N A S3 := by
      intro k0 k5
      have : popE S f g x = eng S3 g f := by
        unfold popE
        rw [ek, if_neg (nI_ne (by omega) (by decide) k0), if_neg (nI_ne (by omega) (by decide) k5), e3]
      rw [this] at h3
      exact (InvG.id h16).mp h3
    by_cases k0 : k = 0
    · rw [if_pos k0]
      subst k0
      have : popE S f g x = some (nI n) := by unfold popE; rw [if_pos ek, en]
      rw [this] at h3
      exact h3.trq h16 hg hf hn (by rw [e3]; exact p0 ek) t
    · rw [if_neg k0]
      by_cases k4 : k = 4
      · rw [if_pos k4]
        exact (other k0 (by omega)).tyl h16 hg hf hn t
      · rw [if_neg k4]
        by_cases k5 : k = 5
        · rw [if_pos k5]
          subst k5
          have : popE S f g x = none := by unfold popE; rw [ek, if_neg (nI_ne (by decide) (by decide) (by decide)), if_pos rfl]
          rw [this] at h3
          exact h3.trl h16 hg hf (by rw [e3, p5 ek, en]) t
        · rw [if_neg k5]
          have h4 := other k0 k5
          split
          · rename_i c
            have z := pz (by rw [ek]; rcases (show k = 1 ∨ k = 2 ∨ k = 3 by omega) with rfl | rfl | rfl <;> simp)
            have hb : bt (xR S3 3 g) f = true := by
              obtain ⟨a, b, z1, z2, z3, z4, z5⟩ := z
              rw [r3 3 (by decide), q2 3 (by decide) (by decide)]
              have c1 := c.1
              have c2 := c.2
              rw [r3 0 (by decide), q2 0 (by decide) (by decide)] at c1
              rw [r3 2 (by decide), q2 2 (by decide) (by decide)] at c2
              refine z5 ?_ c1
              have : nI b = nI a := z2.symm.trans (c2.trans (en.symm.trans z1))
              exact ((nI_eq (by omega) (by omega)).mp this).symm
            split
            · exact h4.tgr h16 hg hf c.1 hb t
            · split
              · exact h4.tfd h16 hg c.1 t
              · exact h4.tiq h16 hg hf c.1 t
          · exact h4
/-! ===== how many letters ===== -/
theorem fl_uL_len (S : St) {l : Nat} (hl : l < 256) (r : List Ltr) : (fl (uL S l r)).length + (xL S l).length = (fl S).length + r.length := by
  have a1 := congrArg List.length (fl_split S hl)
  have a2 := congrArg List.length (fl_uL S hl r)
  simp only [List.length_append, List.length_map] at a1 a2
  omega
theorem fl_2 {S S' : St} (h : S'.2 = S.2) : fl S' = fl S := by
  apply fl_L
  unfold xL
  rw [h]
theorem gF_len {t : Int32} {a : Nat} {S : St} (ha : a < 16) (hW : ∀ w, w ∈ xW S a → w.1 < 16) : (fl (gF t a S)).length ≤ (fl S).length + 1 := by
  unfold gF
  cases hw : xW S a with
  | nil => exact Nat.le_succ _
  | cons w r =>
    simp only []
    rw [fl_sn_len (by have := hW w (by rw [hw]; simp); omega)]
    exact Nat.le_refl _
theorem en_fl {t : Int32} {N v : Nat} {S : St} : fl (en t N v S) = fl S := fl_L en_WL.2
theorem fdl_len {t : Int32} {v : Nat} (hv : v < 16) (db : Int32) : ∀ (ws : List Nat) (S : St), (∀ w, w ∈ ws → w < 16) → (fl (fdl t v db ws S)).length ≤ (fl S).length + ws.length := by
  intro ws
  induction ws with
  | nil => intro S _; exact Nat.le_refl _
  | cons w ws ih =>
    intro S hw
    have := hw w (by simp)
    unfold fdl
    rw [List.foldl_cons]
    have h2 := ih (if bt db w then yT t v w S else S) (fun w hx => hw w (by simp [hx]))
    unfold fdl at h2
    refine Nat.le_trans h2 ?_
    rw [List.length_cons]
    split
    · rw [yT_len _ (by omega)]; omega
    · omega
theorem rd_len {t : Int32} {N k f g : Nat} {s : Int32} {S : St} (h2 : 2 ≤ N) (h16 : N ≤ 16) (hf : f < 16) (hg : g < 16) (hH : Hok S f g s) : (fl (rd t N k f g s S)).length ≤ (fl S).length + N := by
  obtain ⟨hW, _, _, hG⟩ := hH
  unfold rd
  simp only []
  have c0 : fl (if s ≤ xR S 1 g then S else uR S 1 g s) = fl S := fl_2 clk_2
  have w0 : xW (if s ≤ xR S 1 g then S else uR S 1 g s) = xW S := by unfold xW; rw [clk_2]
  have r8 : xR (if s ≤ xR S 1 g then S else uR S 1 g s) 8 g = xR S 8 g := clk_R (by decide)
  generalize (if s ≤ xR S 1 g then S else uR S 1 g s) = S1 at c0 w0 r8
  have hW1 : ∀ w, w ∈ xW S1 g → w.1 < 16 := by rw [w0]; exact hW
  have hWi : ∀ w, w ∈ xW (uW S1 g (ins f s (xW S1 g))) g → w.1 < 16 := by
    intro w hw
    rw [xW_uW, if_pos rfl] at hw
    rcases ins_mem hw with rfl | hw
    · exact hf
    · exact hW1 w hw
  rw [← c0]
  have fW : ∀ l, fl (uW S1 g l) = fl S1 := fun _ => rfl
  split
  · unfold rq
    split
    · have := gF_len (t := t) hg hWi
      rw [fW] at this; omega
    · split
      · have hr2 : (fl (rq2 t g (xW S1 g) (uW S1 g (ins f s (xW S1 g))))).length ≤ (fl S1).length + 1 := by
          unfold rq2
          cases hc : xW S1 g with
          | nil => rw [fW]; exact Nat.le_succ _
          | cons y ys =>
            simp only []
            split
            · rw [fl_sn_len (by have := hW1 y (by rw [hc]; simp); omega), fW]; exact Nat.le_refl _
            · rw [fW]; exact Nat.le_succ _
        unfold rq3
        split
        · omega
        · have hgn : gn (rq2 t g (xW S1 g) (uW S1 g (ins f s (xW S1 g)))) g < 16 := by
            unfold gn
            rw [rq2_R (by decide), xR_uW, r8]
            rcases hG with z | ⟨y, hy, z⟩
            · rw [z]; decide
            · rw [z, nI_clamp (by omega)]; exact hy
          rw [fl_sn_len (by omega)]
          have : fl (uR (rq2 t g (xW S1 g) (uW S1 g (ins f s (xW S1 g)))) 10 g 1) = fl (rq2 t g (xW S1 g) (uW S1 g (ins f s (xW S1 g)))) := rfl
          rw [this]; omega
      · rw [fl_sn_len (by omega), fW]; omega
  · split
    · unfold yl
      split
      · have := gF_len (t := t) hg hWi
        rw [fW] at this; omega
      · omega
    · split
      · unfold rl
        split
        · have := gF_len (t := t) hg hW1
          omega
        · rw [fW]; omega
      · split
        · split
          · unfold gr
            simp only []
            split
            · rw [en_fl]; exact Nat.le_add_right _ _
            · exact Nat.le_add_right _ _
          · split
            · unfold fd
              have := fdl_len (t := t) hg (xR S1 5 g) (List.range N) (uR S1 6 g (bon (xR S1 6 g) f)) (fun w hw => by have := List.mem_range.mp hw; omega)
              rw [List.length_range] at this
              exact this
            · unfold iq
              split
              · split
                · exact Nat.le_add_right _ _
                · rw [yT_len _ (by omega)]; omega
              · omega
        · omega
theorem br_len {N A : Nat} {S : St} (h : Inv N A S) (h2 : 2 ≤ N) (h16 : N ≤ 16) {f g : Nat} (hf : f < N) (hg : g < N) (t : Int32) : (fl (br t N f g S)).length ≤ (fl S).length + N := by
  unfold br
  cases hx : xL S (16 * f + g) with
  | nil => exact Nat.le_add_right _ _
  | cons x r =>
    simp only []
    obtain ⟨h1, _, _, _⟩ := h.pop h16 hf hg hx
    have wl := wt_WL N x.1.toNatClampNeg f g x.2.1 (uL S (16 * f + g) r)
    have sm := wt_S N x.1.toNatClampNeg f g x.2.1 (uL S (16 * f + g) r)
    have h2' := h1.reg sm wl.2
    have a := rd_len (t := t) (k := x.1.toNatClampNeg) h2 h16 (show f < 16 by omega) (show g < 16 by omega) (Hok_of h2' h16 (f := f) hg x.2.1)
    have b := fl_uL_len S (show 16 * f + g < 256 by omega) r
    rw [fl_L wl.2] at a
    rw [hx, List.length_cons] at b
    omega
theorem lv_len {N v : Nat} {S : St} (h16 : N ≤ 16) (hv : v < 16) (t : Int32) : (fl (lv t N v S)).length ≤ (fl S).length + N := by
  have := sAl_len t (k := 5) hv (xR S 3 v) (xR S 2 v) (List.range N) (rst v S) (fun w hw => by have := List.mem_range.mp hw; omega)
  rw [List.length_range] at this
  exact this
theorem ak_len {N v : Nat} {S : St} (h16 : N ≤ 16) (hv : v < 16) (t : Int32) : (fl (ak t N v S)).length ≤ (fl S).length + N := by
  unfold ak
  simp only []
  have := sAl_len t (k := 0) hv (qm N S v) (xR S 1 v + 1) (List.range N) (uR (uR (uR (uR (uR (uR (uR (uR (uR S 1 v (xR S 1 v + 1)) 2 v (xR S 1 v + 1)) 3 v (qm N S v)) 4 v 0) 5 v 0) 6 v 0) 0 v 1) 13 v (xR S 15 1)) 14 v 0) (fun w hw => by have := List.mem_range.mp hw; omega)
  rw [List.length_range] at this
  exact this
/-! ===== a move of the reference, by a draw ===== -/
/-- a move's number: a lane; 256 + one that leaves; 272 + one that asks -/
def mvl (N : Nat) (S : St) (ask : Int32) (sn : Nat → Int32) : List Nat := lanes S ++ (inss N S).map (fun v => 256 + v) ++ (asks' 0 N N S ask sn).map (fun v => 272 + v)
def ci (c : Nat) : Int32 := if c < 256 then nI c else if c < 272 then lvc (c - 256) else akc (c - 272)
def dm (t : Int32) (N c : Nat) (S : St) : St := if c < 256 then br t N (c / 16) (c % 16) S else if c < 272 then lv t N (c - 256) S else ak t N (c - 272) S
theorem lanes_in {S : St} {l : Nat} (h : l ∈ lanes S) : l < 256 ∧ xL S l ≠ [] := by
  unfold lanes at h
  have := List.mem_filter.mp h
  refine ⟨List.mem_range.mp this.1, fun e => ?_⟩
  rw [e] at this
  exact absurd this.2 (by simp)
theorem inss_in {N : Nat} {S : St} {v : Nat} (h : v ∈ inss N S) : v < N ∧ xR S 0 v = 2 := by
  unfold inss at h
  have := List.mem_filter.mp h
  exact ⟨List.mem_range.mp this.1, of_decide_eq_true this.2⟩
theorem asks_in {N : Nat} {S : St} {ask : Int32} {sn : Nat → Int32} {v : Nat} (h : v ∈ asks' 0 N N S ask sn) : v < N ∧ bt ask v = true ∧ mayA N v S = true ∧ xR S 2 v = sn v := by
  unfold asks' at h
  have := List.mem_filter.mp h
  have h2 := List.mem_range'_1.mp this.1
  have h3 := Bool.and_eq_true _ _ |>.mp this.2
  have h4 := Bool.and_eq_true _ _ |>.mp h3.2
  exact ⟨by omega, h3.1, h4.1, of_decide_eq_true h4.2⟩
theorem mvc_e {N : Nat} (h16 : N ≤ 16) (S : St) (ask : Int32) (sn : Nat → Int32) : mvc N S ask sn = (mvl N S ask sn).map ci := by
  have e1 : (lanes S).map nI = (lanes S).map ci := by
    apply List.map_congr_left
    intro l hl
    unfold ci
    rw [if_pos (lanes_in hl).1]
  have e2 : (inss N S).map lvc = (inss N S).map (ci ∘ fun v => 256 + v) := by
    apply List.map_congr_left
    intro v hv
    have := (inss_in hv).1
    show lvc v = ci (256 + v)
    unfold ci
    rw [if_neg (by omega), if_pos (by omega), Nat.add_sub_cancel_left]
  have e3 : (asks' 0 N N S ask sn).map akc = (asks' 0 N N S ask sn).map (ci ∘ fun v => 272 + v) := by
    apply List.map_congr_left
    intro v hv
    show akc v = ci (272 + v)
    unfold ci
    rw [if_neg (by omega), if_neg (by omega), Nat.add_sub_cancel_left]
  unfold mvc mvl
  rw [List.map_append, List.map_append, List.map_map, List.map_map, e1, e2, e3]
theorem mvl_in {N : Nat} {S : St} {ask : Int32} {sn : Nat → Int32} {c : Nat} (h : c ∈ mvl N S ask sn) : (c < 256 ∧ xL S c ≠ []) ∨ (256 ≤ c ∧ c - 256 < N ∧ xR S 0 (c - 256) = 2) ∨ (272 ≤ c ∧ c - 272 < N ∧ mayA N (c - 272) S = true) := by
  unfold mvl at h
  rcases List.mem_append.mp h with h | h
  · rcases List.mem_append.mp h with h | h
    · exact Or.inl (lanes_in h)
    · obtain ⟨v, hv, rfl⟩ := List.mem_map.mp h
      have := inss_in hv
      rw [Nat.add_sub_cancel_left]
      exact Or.inr (Or.inl ⟨by omega, this.1, this.2⟩)
  · obtain ⟨v, hv, rfl⟩ := List.mem_map.mp h
    have := asks_in hv
    rw [Nat.add_sub_cancel_left]
    exact Or.inr (Or.inr ⟨by omega, this.1, this.2.2.1⟩)
theorem mvl_len {N : Nat} (S : St) (ask : Int32) (sn : Nat → Int32) : (mvl N S ask sn).length ≤ 256 + N + N := by
  have h1 := lanes_len S
  have h2 := inss_len N S
  have h3 : (asks' 0 N N S ask sn).length ≤ N := by
    unfold asks'
    have := List.length_filter_le (fun v => bt ask v && (mayA N v S && decide (xR S 2 v = sn v))) (List.range' 0 N)
    rw [List.length_range'] at this
    exact this
  unfold mvl
  simp only [List.length_append, List.length_map]
  omega
theorem Lok_of {N A : Nat} {S : St} (h : Inv N A S) (hA : A < 1048576) {l : Nat} (hl : l < 256) {x : Ltr} (hx : x ∈ xL S l) : Lok x := by
  obtain ⟨z1, s, z2, z3⟩ := (h.2.2.2.2.1 l hl).1 x hx
  exact ⟨z1, s, by omega, z3⟩
set_option maxHeartbeats 1000000 in
theorem RV.tdm {M : Mem} {tw : Bool} {t : Int32} {S : St} {pb pt : List Row4} (h : RV M tw t S pb pt) {N A : Nat} (hI : Inv N A S) (hN : xR S 20 0 = nI N) (h2N : 2 ≤ N) (h16 : N ≤ 16) (ht : xR S 20 1 = 1 → N % 2 = 1) (hA : A < 1048576) (hl : (fl S).length + N ≤ 9000) {ask : Int32} {sn : Nat → Int32} (hm : MV M (mvc N S ask sn)) {k c : Nat} (hc : (mvl N S ask sn)[k]? = some c) {n : Nat} (hn : 9200 ≤ n) : ∃ M', f_X10_doMove n 120 (nI k) M = some M' ∧ RV M' tw t (dm t N c S) pb pt ∧ Fr PA M M' := by
  have hk := (List.getElem?_eq_some_iff.mp hc).1
  have hkl := mvl_len (N := N) S ask sn
  have hcode : mI M 124 (nI k).toNatClampNeg = ci c := by rw [nI_clamp (by omega)]; exact hm.2 k (ci c) (by rw [mvc_e h16, List.getElem?_map, hc]; rfl)
  have hin := mvl_in (List.mem_of_getElem? hc)
  unfold dm
  by_cases c1 : c < 256
  · rw [if_pos c1]
    have hx : xL S c ≠ [] := by rcases hin with z | z | z <;> first | exact z.2 | omega
    obtain ⟨x, r, ex⟩ := List.exists_cons_of_ne_nil hx
    have hfg : c / 16 < N ∧ c % 16 < N := by
      apply Classical.byContradiction
      intro q
      exact hx ((hI.2.2.2.2.1 c c1).2 q)
    have ec : 16 * (c / 16) + c % 16 = c := by omega
    obtain ⟨M', e', h', f'⟩ := h.tbr hN h2N h16 (f := c / 16) (g := c % 16) (by omega) (by omega) (by rw [ec]; exact ex) (Lok_of hI hA c1 (by rw [ex]; simp)) (Hok_of hI h16 (by omega) _) hl hn
    rw [ec] at e'
    have e1 : ci c = nI c := by unfold ci; rw [if_pos c1]
    obtain ⟨p1, p2⟩ := f_pairs c c1
    have e2 := h.tat (f := c / 16) (g := c % 16) (by omega) (by omega) (by rw [ec]; exact ex) (n := n) (by omega)
    rw [ec] at e2
    refine ⟨M', ?_, h', f'⟩
    rw [f_X10_doMove, rs_f h.1, rs_4 h.1, bnd_e, rs_f4 h.1, rs_c4 h.1 (by omega), hcode, e1, if_pos (nI_pos' (by omega)), bnd_e, rs_f4 h.1, rs_c4 h.1 (by omega), hcode, e1, if_pos (by rw [show (256 : Int32) = nI 256 from rfl]; exact nI_lt c1 (by decide)), bnd_e, rs_f4 h.1, rs_c4 h.1 (by omega), hcode, e1, f_X10_takeFirst, chk_t (by decide), chk_t (by decide), rs_f h.1, p2, p1, e2, obd_s, e', obd2_s, obd_s]
  · rw [if_neg c1]
    by_cases c2 : c < 272
    · rw [if_pos c2]
      have hx : c - 256 < N := by rcases hin with z | z | z <;> omega
      obtain ⟨M', e', h', f'⟩ := h.tlv hN h16 (v := c - 256) (by omega) hl hn
      have e1 : ci c = lvc (c - 256) := by unfold ci; rw [if_neg c1, if_pos c2]
      have e3 : ∀ v, v < 16 → ¬ (0 : Int32) ≤ lvc v ∧ (-1 : Int32) - lvc v = nI v := by decide
      have e4 := e3 (c - 256) (by omega)
      refine ⟨M', ?_, h', f'⟩
      rw [f_X10_doMove, rs_f h.1, rs_4 h.1, bnd_e, rs_f4 h.1, rs_c4 h.1 (by omega), hcode, e1, if_neg e4.1, bnd_e, rs_f4 h.1, rs_c4 h.1 (by omega), hcode, e1, e4.2, e', obd_s]
    · rw [if_neg c2]
      have hx : c - 272 < N := by rcases hin with z | z | z <;> omega
      obtain ⟨M', e', h', f'⟩ := h.tak hN h16 ht (v := c - 272) (by omega) hl hn
      have e1 : ci c = nI (256 + (c - 272)) := by unfold ci; rw [if_neg c1, if_neg c2]; rfl
      have e3 : nI (256 + (c - 272)) - (256 : Int32) = nI (c - 272) := by
        rw [show (256 : Int32) = nI 256 from rfl, pk_sub (by omega), Nat.add_sub_cancel_left]
      refine ⟨M', ?_, h', f'⟩
      rw [f_X10_doMove, rs_f h.1, rs_4 h.1, bnd_e, rs_f4 h.1, rs_c4 h.1 (by omega), hcode, e1, if_pos (nI_pos' (by omega)), bnd_e, rs_f4 h.1, rs_c4 h.1 (by omega), hcode, e1, if_neg (by rw [show (256 : Int32) = nI 256 from rfl]; exact nI_nlt (by omega) (by omega)), bnd_e, rs_f4 h.1, rs_c4 h.1 (by omega), hcode, e1, e3, e', obd_s]
/-- a draw -/
def drw (g : Int64) : Int64 := ((g * (1103515245 : Int64)) + (12345 : Int64)) - ((g * (1103515245 : Int64)) + (12345 : Int64)) / (2147483648 : Int64) * (2147483648 : Int64)
def drk (g : Int64) (m : Int32) : Int32 := ((((drw g) / (65536 : Int64)) - ((drw g) / (65536 : Int64)) / (m.toInt64) * (m.toInt64))).toInt32
/-- the seed is one that draws leave at no negative number -/
def Gk (g : Int64) : Prop := ∃ x : Nat, x < 2147483648 ∧ g = lN x
theorem drw_e {x : Nat} (hx : x < 2147483648) : drw (lN x) = lN ((x * 1103515245 + 12345) % 2147483648) := by
  unfold drw
  rw [show (1103515245 : Int64) = lN 1103515245 from rfl, show (12345 : Int64) = lN 12345 from rfl, show (2147483648 : Int64) = lN 2147483648 from rfl, lN_mul, lN_add, pk_lRem (by omega) (by decide) (by decide)]
theorem Gk_drw {g : Int64} (h : Gk g) : Gk (drw g) := by
  obtain ⟨x, hx, rfl⟩ := h
  exact ⟨_, Nat.mod_lt _ (by decide), drw_e hx⟩
theorem drk_lt {g : Int64} (h : Gk g) {m : Nat} (h0 : 0 < m) (hm : m < 1000) : ∃ k, k < m ∧ drk g (nI m) = nI k := by
  obtain ⟨x, hx, rfl⟩ := h
  have hy : (x * 1103515245 + 12345) % 2147483648 < 2147483648 := Nat.mod_lt _ (by decide)
  refine ⟨(x * 1103515245 + 12345) % 2147483648 / 65536 % m, Nat.mod_lt _ h0, ?_⟩
  unfold drk
  rw [drw_e hx]
  generalize (x * 1103515245 + 12345) % 2147483648 = y at hy
  rw [show (65536 : Int64) = lN 65536 from rfl, pk_lDiv (by omega) (by decide) (by decide), nI_l (by omega), pk_lRem (by omega) h0 (by omega), lN_i]
theorem asks_0 (N : Nat) (S : St) (sn : Nat → Int32) : asks' 0 N N S 0 sn = [] := by
  unfold asks'
  rw [List.filter_eq_nil_iff]
  intro v _
  rw [b_0]
  simp
def mv0 (N : Nat) (S : St) : List Nat := lanes S ++ (inss N S).map (fun v => 256 + v)
theorem mvl_0 (N : Nat) (S : St) (sn : Nat → Int32) : mvl N S 0 sn = mv0 N S := by
  unfold mvl mv0
  rw [asks_0]
  simp
/-- which move a draw tells -/
def dk (g : Int64) (m : Nat) : Nat := (drk g (nI m)).toNatClampNeg
theorem RV.tsL {M : Mem} {tw : Bool} {t : Int32} {S : St} {pb pt : List Row4} (h : RV M tw t S pb pt) (o k : Nat) (x : Int64) : RV (sL M o k x) tw t S pb pt := h.cg rfl rfl (fun _ => rfl) (fun _ => rfl)
theorem mL_s (M : Mem) (o k : Nat) (x : Int64) : mL (sL M o k x) o k = x := by
  show up2 M.2.2 o k x o k = x
  exact up2_s _ _ _ _
theorem mL_o (M : Mem) (o k : Nat) (x : Int64) {a b : Nat} (h : ¬ (a = o ∧ b = k)) : mL (sL M o k x) a b = mL M a b := by
  show up2 M.2.2 o k x a b = M.2.2 a b
  unfold up2
  rw [if_neg h]
theorem sL_G (M : Mem) (x : Int64) : FrG M (sL M 120 8 x) := ⟨rfl, fun _ _ _ => rfl, fun _ _ => rfl, fun o k q => mL_o _ _ _ _ q⟩
set_option maxHeartbeats 1000000 in
theorem RV.goO {M : Mem} {tw : Bool} {t : Int32} {S : St} {pb pt : List Row4} (h : RV M tw t S pb pt) {N A : Nat} (hI : Inv N A S) (hN : xR S 20 0 = nI N) (h2N : 2 ≤ N) (h16 : N ≤ 16) (ht : xR S 20 1 = 1 → N % 2 = 1) (hA : A < 1048576) (hl : (fl S).length + N ≤ 9000) (hask : mI M 120 7 = 0) {g : Int64} (hg : mL M 120 8 = g) (hG : Gk g) {n : Nat} (hn : 9200 ≤ n) : ∃ M', (mv0 N S = [] → f_X10_goOnce n 120 M = some (0, M') ∧ RV M' tw t S pb pt ∧ mL M' 120 8 = g) ∧ (mv0 N S ≠ [] → ∃ c, (mv0 N S)[dk g (mv0 N S).length]? = some c ∧ f_X10_goOnce n 120 M = some (1, M') ∧ RV M' tw t (dm t N c S) pb pt ∧ mL M' 120 8 = drw g) ∧ FrG M M' := by
  obtain ⟨M1, e1, h1, m1, f1⟩ := h.lay hN h16 ht hask (sn := fun v => mI M 125 v) (fun v _ => rfl) hn
  have e0 : mvc N S 0 (fun v => mI M 125 v) = (mv0 N S).map ci := by rw [mvc_e h16, mvl_0]
  have len : mI M1 120 6 = nI (mv0 N S).length := by rw [m1.1, e0, List.length_map]
  have hml := mvl_len (N := N) S 0 (fun v => mI M 125 v)
  rw [mvl_0] at hml
  have g1 : mL M1 120 8 = g := (f1.2.2.2 120 8).trans hg
  by_cases c : mv0 N S = []
  · refine ⟨M1, fun _ => ⟨?_, h1, g1⟩, fun q => absurd c q, f1.G⟩
    rw [f_X10_goOnce, rs_f h.1, e1, obd_s, rs_f h1.1, len, c, if_pos (by rfl)]
  · have hpos : 0 < (mv0 N S).length := List.length_pos_iff.mpr c
    obtain ⟨k, hk, ek⟩ := drk_lt hG hpos (by omega)
    have edk : dk g (mv0 N S).length = k := by unfold dk; rw [ek, nI_clamp (by omega)]
    generalize hM2 : sL M1 120 8 (drw g) = M2
    have h2 : RV M2 tw t S pb pt := by rw [← hM2]; exact h1.tsL _ _ _
    have m2 : MV M2 (mvc N S 0 (fun v => mI M 125 v)) := by rw [← hM2]; exact m1
    have g2 : mL M2 120 8 = drw g := by rw [← hM2, mL_s]
    have f2 : FrG M1 M2 := by rw [← hM2]; exact sL_G _ _
    have hc : (mvl N S 0 (fun v => mI M 125 v))[k]? = some ((mv0 N S)[k]) := by rw [mvl_0]; exact List.getElem?_eq_getElem hk
    obtain ⟨M3, e3, h3, f3⟩ := h2.tdm hI hN h2N h16 ht hA hl m2 hc hn
    refine ⟨M3, fun q => absurd q c, fun _ => ⟨(mv0 N S)[k], by rw [edk]; exact List.getElem?_eq_getElem hk, ?_, h3, (f3.2.2 120 8).trans g2⟩, FrG.tr f1.G (FrG.tr f2 (FrM.ofA f3).G)⟩
    have nz : ¬ (nI (mv0 N S).length).toInt64 = 0 := by
      rw [nI_l (by omega), show (0 : Int64) = lN 0 from rfl]
      exact fun q => by have := (lN_eq (by omega) (by decide)).mp q; omega
    have ek2 : (((((drw g) / (65536 : Int64)) - ((drw g) / (65536 : Int64)) / ((nI (mv0 N S).length).toInt64) * ((nI (mv0 N S).length).toInt64))).toInt32) = nI k := ek
    rw [f_X10_goOnce, rs_f h.1, e1, obd_s, rs_f h1.1, len, if_neg (nI_ne0 hpos (by omega)), f_X10_draw, rs_f h1.1, chk_t (by decide), bnd_e, chk_t (by decide), chk_t nz, g1]
    rw [show ((g * (1103515245 : Int64)) + (12345 : Int64)) - ((g * (1103515245 : Int64)) + (12345 : Int64)) / (2147483648 : Int64) * (2147483648 : Int64) = drw g from rfl, hM2, g2, ek2, obd2_s, rs_f h2.1, e3, obd_s]
/-! ===== what would be is gone through and laid back, by the reference ===== -/
theorem rs_9 {M : Mem} (h : RS M) : mR M 120 9 = 126 := h.r (by decide)
theorem rs_f9 {α : Type} {M : Mem} (h : RS M) (x : Option α) : chk (isO M 100 126) x = x := chk_t (h.io (by decide) (by decide) (by decide))
theorem rs_c9 {α : Type} {M : Mem} (h : RS M) {k : Nat} (hk : k < 10465) (x : Option α) : chk (inB (nI k) (mLn M 126)) x = x := by
  refine chk_t ?_
  rw [h.ln (c := 10465) (by decide) (by decide) (by decide)]; exact inB_n hk (by decide)
/-- the first cells of o are as those of p were -/
def cpF (M : Mem) (p o lo : Nat) : Mem := (M.1, (fun a b => if a = o ∧ lo ≤ b ∧ b < 10465 then M.2.1 p b else M.2.1 a b), M.2.2)
theorem cpF_0 (M : Mem) (p o : Nat) : cpF M p o 10465 = M := by
  refine Prod.ext rfl (Prod.ext ?_ rfl)
  funext a b
  show (if a = o ∧ 10465 ≤ b ∧ b < 10465 then M.2.1 p b else M.2.1 a b) = M.2.1 a b
  rw [if_neg (by omega)]
theorem cpF_s (M : Mem) {p o d : Nat} (hpo : p ≠ o) (hd : d + 1 ≤ 10465) : cpF (sI M o (10465 - (d + 1)) (mI M p (10465 - (d + 1)))) p o (10465 - d) = cpF M p o (10465 - (d + 1)) := by
  refine Prod.ext rfl (Prod.ext ?_ rfl)
  funext a b
  show (if a = o ∧ 10465 - d ≤ b ∧ b < 10465 then up2 M.2.1 o (10465 - (d + 1)) (M.2.1 p (10465 - (d + 1))) p b else up2 M.2.1 o (10465 - (d + 1)) (M.2.1 p (10465 - (d + 1))) a b) = if a = o ∧ 10465 - (d + 1) ≤ b ∧ b < 10465 then M.2.1 p b else M.2.1 a b
  by_cases h1 : a = o ∧ 10465 - d ≤ b ∧ b < 10465
  · rw [if_pos h1, if_pos (by omega), up2_o _ _ _ _ hpo]
  · rw [if_neg h1]
    unfold up2
    by_cases h2 : a = o ∧ b = 10465 - (d + 1)
    · rw [if_pos h2, if_pos (by omega), h2.2]
    · rw [if_neg h2, if_neg (by omega)]
set_option maxHeartbeats 1000000 in
theorem aside_l : ∀ (d : Nat) (M : Mem) (n : Nat), RS M → d ≤ 10465 → d + 1 ≤ n → f_X10_putAside_2 n 120 (nI (10465 - d)) M = some (cpF M 121 126 (10465 - d)) := by
  intro d
  induction d with
  | zero =>
    intro M n hS _ hn
    obtain ⟨n, rfl⟩ : ∃ m, n = m + 1 := ⟨n - 1, by omega⟩
    rw [f_X10_putAside_2, Nat.sub_zero, if_pos (by rw [show (10465 : Int32) = nI 10465 from rfl]; exact nI_le (Nat.le_refl _) (by decide)), cpF_0]
  | succ d ih =>
    intro M n hS hd hn
    obtain ⟨n, rfl⟩ : ∃ m, n = m + 1 := ⟨n - 1, by omega⟩
    have hi := ih (sI M 126 (10465 - (d + 1)) (mI M 121 (10465 - (d + 1)))) n (hS.e rfl) (by omega) (by omega)
    rw [cpF_s M (by decide) hd] at hi
    rw [f_X10_putAside_2, if_neg (by rw [show (10465 : Int32) = nI 10465 from rfl]; exact nI_ge (by omega) (by decide)), rs_f hS, rs_9 hS, bnd_e, rs_f9 hS, rs_0 hS, bnd_e, rs_fa hS, rs_c hS (by omega), rs_c9 hS (by omega), bnd_e, cl_n (by omega), nI_1, bnd_e, show 10465 - (d + 1) + 1 = 10465 - d by omega, hi]
set_option maxHeartbeats 1000000 in
theorem back_l : ∀ (d : Nat) (M : Mem) (n : Nat), RS M → d ≤ 10465 → d + 1 ≤ n → f_X10_bringBack_2 n 120 (nI (10465 - d)) M = some (cpF M 126 121 (10465 - d)) := by
  intro d
  induction d with
  | zero =>
    intro M n hS _ hn
    obtain ⟨n, rfl⟩ : ∃ m, n = m + 1 := ⟨n - 1, by omega⟩
    rw [f_X10_bringBack_2, Nat.sub_zero, if_pos (by rw [show (10465 : Int32) = nI 10465 from rfl]; exact nI_le (Nat.le_refl _) (by decide)), cpF_0]
  | succ d ih =>
    intro M n hS hd hn
    obtain ⟨n, rfl⟩ : ∃ m, n = m + 1 := ⟨n - 1, by omega⟩
    have hi := ih (sI M 121 (10465 - (d + 1)) (mI M 126 (10465 - (d + 1)))) n (hS.e rfl) (by omega) (by omega)
    rw [cpF_s M (by decide) hd] at hi
    rw [f_X10_bringBack_2, if_neg (by rw [show (10465 : Int32) = nI 10465 from rfl]; exact nI_ge (by omega) (by decide)), rs_f hS, rs_0 hS, bnd_e, rs_fa hS, rs_9 hS, bnd_e, rs_f9 hS, rs_c9 hS (by omega), rs_c hS (by omega), bnd_e, cl_n (by omega), nI_1, bnd_e, show 10465 - (d + 1) + 1 = 10465 - d by omega, hi]
theorem f_aside {M : Mem} (hS : RS M) {n : Nat} (hn : 10466 ≤ n) : f_X10_putAside n 120 M = some (cpF M 121 126 0) := by
  have := aside_l 10465 M n hS (Nat.le_refl _) hn
  rw [f_X10_putAside]
  exact this
theorem f_back {M : Mem} (hS : RS M) {n : Nat} (hn : 10466 ≤ n) : f_X10_bringBack n 120 M = some (cpF M 126 121 0) := by
  have := back_l 10465 M n hS (Nat.le_refl _) hn
  rw [f_X10_bringBack]
  exact this
/-- all that can ask do -/
def akl (t : Int32) (N : Nat) (ws : List Nat) (S : St) : St := ws.foldl (fun S v => if mayA N v S then ak t N v S else S) S
theorem RV.aal {tw : Bool} {t : Int32} {pb pt : List Row4} {N : Nat} (h16 : N ≤ 16) : ∀ (d i n : Nat) (M : Mem) (S : St), RV M tw t S pb pt → xR S 20 0 = nI N → (xR S 20 1 = 1 → N % 2 = 1) → i + d = N → (fl S).length + N * d ≤ 9000 → d + 9201 ≤ n → ∃ M', f_X10_askAll_2 n 120 (nI i) M = some M' ∧ RV M' tw t (akl t N (List.range' i d) S) pb pt ∧ Fr PA M M' := by
  intro d
  induction d with
  | zero =>
    intro i n M S h hN ht hi hl hn
    obtain ⟨n, rfl⟩ : ∃ m, n = m + 1 := ⟨n - 1, by omega⟩
    refine ⟨M, ?_, h, Fr.rf _ _⟩
    rw [f_X10_askAll_2, rs_f h.1, rs_0 h.1, bnd_e, rs_fa h.1, rs_c0 h.1, cl0, h.N hN, if_pos (nI_le (by omega) (by omega))]
  | succ d ih =>
    intro i n M S h hN ht hi hl hn
    obtain ⟨n, rfl⟩ : ∃ m, n = m + 1 := ⟨n - 1, by omega⟩
    rw [Nat.mul_succ] at hl
    obtain ⟨M1, e1, h1, f1⟩ := h.can hN h16 ht (v := i) (by omega) (n := n) (by omega)
    have el : akl t N (List.range' i (d + 1)) S = akl t N (List.range' (i + 1) d) (if mayA N i S then ak t N i S else S) := by
      unfold akl
      rw [List.range'_succ, List.foldl_cons]
    have open1 : ∀ y, (if mayA N i S = true then obd (f_X10_askNow n 120 (nI i) M1) (fun M17 => f_X10_askAll_2 n 120 (nI (i + 1)) M17) else f_X10_askAll_2 n 120 (nI (i + 1)) M1) = y → f_X10_askAll_2 (n + 1) 120 (nI i) M = y := by
      intro y hy
      rw [f_X10_askAll_2, rs_f h.1, rs_0 h.1, bnd_e, rs_fa h.1, rs_c0 h.1, cl0, h.N hN, if_neg (nI_ge (by omega) (by omega)), e1, obd2_s]
      cases b : mayA N i S
      · rw [b] at hy
        simp only [Bool.false_eq_true, if_false, if_true, bnd_e, nI_1] at hy ⊢
        exact hy
      · rw [b] at hy
        simp only [if_true, ne10, if_false] at hy ⊢
        rw [rs_f h1.1]
        simp only [bnd_e, nI_1]
        exact hy
    rw [el]
    by_cases c : mayA N i S = true
    · rw [if_pos c] at open1 ⊢
      obtain ⟨M2, e2, h2, f2⟩ := h1.tak hN h16 ht (v := i) (by omega) (by omega) (n := n) (by omega)
      have hlen := ak_len (N := N) (v := i) (S := S) h16 (by omega) t
      have r20 : ∀ j, xR (ak t N i S) 20 j = xR S 20 j := fun j => by
        rw [ak_R (by decide)]
        by_cases q : j = i
        · rw [if_pos q]; rfl
        · rw [if_neg q]
      obtain ⟨M3, e3, h3, f3⟩ := ih (i + 1) n M2 _ h2 ((r20 0).trans hN) (by rw [r20 1]; exact ht) (by omega) (by omega) (by omega)
      exact ⟨M3, open1 _ (by rw [e2, obd_s, e3]), h3, Fr.tr (f1.mo P2_A) (Fr.tr f2 f3)⟩
    · rw [if_neg c] at open1 ⊢
      obtain ⟨M3, e3, h3, f3⟩ := ih (i + 1) n M1 S h1 hN ht (by omega) (by omega) (by omega)
      exact ⟨M3, open1 _ e3, h3, Fr.tr (f1.mo P2_A) f3⟩
def akA (t : Int32) (N : Nat) (S : St) : St := akl t N (List.range N) S
theorem RV.takA {M : Mem} {tw : Bool} {t : Int32} {S : St} {pb pt : List Row4} (h : RV M tw t S pb pt) {N : Nat} (hN : xR S 20 0 = nI N) (h16 : N ≤ 16) (ht : xR S 20 1 = 1 → N % 2 = 1) (hl : (fl S).length + N * N ≤ 9000) {n : Nat} (hn : 9300 ≤ n) : ∃ M', f_X10_askAll n 120 M = some M' ∧ RV M' tw t (akA t N S) pb pt ∧ Fr PA M M' := by
  obtain ⟨M', e, h', f'⟩ := RV.aal (tw := tw) (t := t) (pb := pb) (pt := pt) h16 N 0 n M S h hN ht (by omega) hl (by omega)
  refine ⟨M', ?_, ?_, f'⟩
  · rw [f_X10_askAll]; exact e
  · unfold akA; rw [List.range_eq_range']; exact h'
/-- a turn of a crowd: the state, the seed, whether it goes on -/
def cr1 (t : Int32) (N : Nat) (q : St × Int64 × Bool) : St × Int64 × Bool :=
  if q.2.2 then
    (let S := akA t N q.1
     if mv0 N S = [] then (S, q.2.1, false)
     else (match (mv0 N S)[dk q.2.1 (mv0 N S).length]? with
      | none => (S, q.2.1, false)
      | some c => (dm t N c S, drw q.2.1, true)))
  else q
def crn (t : Int32) (N : Nat) : Nat → St × Int64 × Bool → St × Int64 × Bool
  | 0, q => q
  | n + 1, q => crn t N n (cr1 t N q)
/-! ===== the class: letters in lanes ===== -/
def Chn (ne : Nat → Int32) : Int32 → List Nat → Prop
  | _, [] => True
  | x, c :: cs => x = nI c ∧ Chn ne (ne c) cs
def ChE (ne : Nat → Int32) : Int32 → List Nat → Prop
  | x, [] => x = -1
  | x, c :: cs => x = nI c ∧ ChE ne (ne c) cs
theorem Chn.cg {ne ne' : Nat → Int32} : ∀ {cs : List Nat} {x : Int32}, Chn ne x cs → (∀ c, c ∈ cs → ne' c = ne c) → Chn ne' x cs := by
  intro cs
  induction cs with
  | nil => intro x h _; exact h
  | cons c cs ih =>
    intro x h e
    refine ⟨h.1, ?_⟩
    rw [e c (by simp)]
    exact ih h.2 (fun d hd => e d (by simp [hd]))
theorem ChE.cg {ne ne' : Nat → Int32} : ∀ {cs : List Nat} {x : Int32}, ChE ne x cs → (∀ c, c ∈ cs → ne' c = ne c) → ChE ne' x cs := by
  intro cs
  induction cs with
  | nil => intro x h _; exact h
  | cons c cs ih =>
    intro x h e
    refine ⟨h.1, ?_⟩
    rw [e c (by simp)]
    exact ih h.2 (fun d hd => e d (by simp [hd]))
theorem Chn.app {ne ne' : Nat → Int32} {c : Nat} : ∀ {cs : List Nat} {x : Int32} {z : Nat}, Chn ne x (cs ++ [z]) → (cs ++ [z]).Nodup → (∀ d, d ∈ cs → ne' d = ne d) → ne' z = nI c → Chn ne' x (cs ++ [z] ++ [c]) := by
  intro cs
  induction cs with
  | nil =>
    intro x z h _ _ hz
    exact ⟨h.1, hz, trivial⟩
  | cons d cs ih =>
    intro x z h hd e hz
    rw [List.cons_append] at h hd
    refine ⟨h.1, ?_⟩
    rw [e d (by simp)]
    exact ih h.2 (List.nodup_cons.mp hd).2 (fun y hy => e y (by simp [hy])) hz
def tH : List (Nat × Nat × Nat) := [(0, 1, 1), (0, 2, 10), (0, 3, 11), (0, 4, 13), (0, 5, 15), (0, 6, 16), (1, 0, 2), (1, 1, 3), (1, 2, 4), (1, 3, 5), (1, 4, 6), (11, 1, 12), (13, 1, 14)] ++ ((List.range 16).map fun v => (10, v, 17 + 2 * v)) ++ ((List.range 16).map fun v => (17 + 2 * v, 10, 18 + 2 * v))
/-- a hall of the class: the shape of its cells but of the three rows of its letters -/
def CS (M : Mem) (h : Nat) : Prop := (∀ i, i < 49 → ¬ (7 ≤ i ∧ i ≤ 9) → M.1.2.1 (h + i) = tC.getD (14 + i) (0, 0)) ∧ (∀ q, q ∈ tH → mR M (h + q.1) q.2.1 = h + q.2.2) ∧ mR M h 0 = 1 ∧ isO M 7 1 ∧ h + 49 ≤ 131 ∧ 14 ≤ h ∧ 131 ≤ mN M
theorem CS.e {M M' : Mem} {h : Nat} (q : CS M h) (e : M'.1 = M.1) : CS M' h := by
  unfold CS mR mN at *
  have e2 : isO M 7 1 = isO M' 7 1 := by unfold isO mN mC; rw [e]
  rw [← e2, e]
  exact q
theorem CS.io {M : Mem} {h : Nat} (q : CS M h) {i c : Nat} (hi : i < 49) (hn : ¬ (7 ≤ i ∧ i ≤ 9)) (hc : (tC.getD (14 + i) (0, 0)).1 = c) : isO M c (h + i) := by
  refine ⟨by have := q.2.2.2.2; omega, ?_⟩
  rw [mC, q.1 i hi hn, hc]
theorem CS.ln {M : Mem} {h : Nat} (q : CS M h) {i c : Nat} (hi : i < 49) (hn : ¬ (7 ≤ i ∧ i ≤ 9)) (hc : (tC.getD (14 + i) (0, 0)).2 = c) : mLn M (h + i) = c := by
  rw [mLn, q.1 i hi hn, hc]
theorem CS.r {M : Mem} {h : Nat} (q : CS M h) {a b c : Nat} (z : (a, b, c) ∈ tH) : mR M (h + a) b = h + c := q.2.1 (a, b, c) z
def encC (x : Ltr) : Int32 := (x.2.1 <<< ((3 : Int32) &&& 31)) ||| x.1
theorem encC_kind {x : Ltr} {k : Nat} (hk : k < 8) (e : x.1 = nI k) : encC x &&& (7 : Int32) = nI k := by
  apply b_ext
  intro i hi
  rw [encC, b_and, b_or, b_shl03 _ hi, b_c7 i hi, e]
  by_cases h3 : i < 3
  · simp [h3, show ¬ 3 ≤ i by omega]
  · rw [bt_lt (k := 3) hk (by omega) hi]
    simp [h3]
theorem encC_stamp {x : Ltr} {k : Nat} (hk : k < 8) (e : x.1 = nI k) {s : Nat} (hs : s < 1048576) (es : x.2.1 = nI s) : encC x >>> ((3 : Int32) &&& 31) = nI s := by
  apply b_ext
  intro i hi
  rw [b_sshr03 _ hi]
  by_cases h3 : i < 29
  · rw [if_pos (by omega), encC, b_or, b_shl03 _ (by omega), e, es, bt_lt (k := 3) hk (by omega) (by omega)]
    simp
  · rw [if_neg (by omega), encC, b_or, b_shl03 _ (by omega), e, es, bt_lt (k := 3) hk (by omega) (by omega), bt_lt (k := 20) hs (by omega) (by omega), bt_lt (k := 20) hs (by omega) hi]
    simp
/-- the three rows of letters of a hall -/
def DS (M : Mem) (h d5 d6 d7 len : Nat) : Prop := (mR M (h + 1) 5 = d5 ∧ mR M (h + 1) 6 = d6 ∧ mR M (h + 1) 7 = d7) ∧ (isO M 100 d5 ∧ isO M 100 d6 ∧ isO M 100 d7) ∧ (mLn M d5 = len ∧ mLn M d6 = len ∧ mLn M d7 = len) ∧ ((d5 = h + 7 ∨ 131 ≤ d5) ∧ (d6 = h + 8 ∨ 131 ≤ d6) ∧ (d7 = h + 9 ∨ 131 ≤ d7) ∧ d5 ≠ d6 ∧ d5 ≠ d7 ∧ d6 ≠ d7)
theorem DS.e {M M' : Mem} {h d5 d6 d7 len : Nat} (q : DS M h d5 d6 d7 len) (e : M'.1 = M.1) : DS M' h d5 d6 d7 len := by
  have e2 : ∀ o, isO M' 100 o = isO M 100 o := fun o => by unfold isO mN mC; rw [e]
  unfold DS at *
  rw [e2, e2, e2]
  unfold mR mLn at *
  rw [e]
  exact q
/-- the letters of a hall: K the cells of each lane with their letters, fr the free ones, us how many were used, ow whose each is (256: free, 257: kept aside), e how many are kept aside -/
def PW (M : Mem) (h d5 d6 d7 len : Nat) (t : Int32) (se : Nat → Int32) (K : Nat → List (Nat × Ltr)) (fr : List Nat) (us : Nat) (ow : Nat → Nat) (e : Nat) : Prop :=
  DS M h d5 d6 d7 len
  ∧ (∀ l, l < 256 → ∀ q, q ∈ K l → q.1 < us ∧ ow q.1 = l ∧ mI M d5 q.1 = encC q.2 ∧ mI M d6 q.1 = q.2.2.2)
  ∧ (∀ l, l < 256 → ((K l).map Prod.fst).Nodup)
  ∧ (∀ l, l < 256 → Chn (mI M d7) (mI M (h + 2) l) ((K l).map Prod.fst))
  ∧ (∀ l, l < 256 → ∀ cs z, (K l).map Prod.fst = cs ++ [z] → mI M (h + 3) l = nI z)
  ∧ (∀ l, l < 256 → mI M (h + 4) l = nI (K l).length)
  ∧ (∀ f, f < 16 → ∀ g, g < 32 → bt (mI M (h + 5) f) g = decide (g < 16 ∧ K (16 * f + g) ≠ []))
  ∧ (∀ k, k < 6 → mI M (h + 6) k = se k)
  ∧ (fr.Nodup ∧ (∀ c, c ∈ fr → c < us ∧ ow c = 256) ∧ ChE (mI M d7) (mI M (h + 1) 9) fr)
  ∧ (mI M (h + 1) 8 = nI us ∧ us ≤ len ∧ us ≤ 9000 ∧ len ≤ 18000 ∧ 64 ≤ len)
  ∧ mI M (h + 1) 11 = t
  ∧ ∃ tot, mI M (h + 1) 10 = nI tot ∧ us = tot + fr.length + e ∧ tot = (flr (fun l => (K l).map Prod.snd) 0 256).length
def PV (M : Mem) (h : Nat) (t : Int32) (S : St) : Prop := ∃ d5 d6 d7 len K fr us ow, PW M h d5 d6 d7 len t (xR S 16) K fr us ow 0 ∧ ∀ l, l < 256 → (K l).map Prod.snd = xL S l
/-! ===== the class: a letter is put, taken ===== -/
section
variable {M : Mem} {h : Nat}
theorem cs_f {α : Type} (q : CS M h) (x : Option α) : chk (isO M 2 h) x = x := chk_t (q.io (i := 0) (by decide) (by decide) (by decide))
theorem cs_p {α : Type} (q : CS M h) (x : Option α) : chk (isO M 5 (h + 1)) x = x := chk_t (q.io (i := 1) (by decide) (by decide) (by decide))
theorem cs_a2 {α : Type} (q : CS M h) (x : Option α) : chk (isO M 100 (h + 2)) x = x := chk_t (q.io (i := 2) (by decide) (by decide) (by decide))
theorem cs_i2 {α : Type} (q : CS M h) {k : Nat} (hk : k < 256) (x : Option α) : chk (inB (nI k) (mLn M (h + 2))) x = x := by
  refine chk_t ?_
  rw [q.ln (i := 2) (c := 256) (by decide) (by decide) (by decide)]; exact inB_n hk (by decide)
theorem cs_r2 (q : CS M h) : mR M (h + 1) 0 = h + 2 := q.r (a := 1) (b := 0) (c := 2) (by decide)
theorem cs_a3 {α : Type} (q : CS M h) (x : Option α) : chk (isO M 100 (h + 3)) x = x := chk_t (q.io (i := 3) (by decide) (by decide) (by decide))
theorem cs_i3 {α : Type} (q : CS M h) {k : Nat} (hk : k < 256) (x : Option α) : chk (inB (nI k) (mLn M (h + 3))) x = x := by
  refine chk_t ?_
  rw [q.ln (i := 3) (c := 256) (by decide) (by decide) (by decide)]; exact inB_n hk (by decide)
theorem cs_r3 (q : CS M h) : mR M (h + 1) 1 = h + 3 := q.r (a := 1) (b := 1) (c := 3) (by decide)
theorem cs_a4 {α : Type} (q : CS M h) (x : Option α) : chk (isO M 100 (h + 4)) x = x := chk_t (q.io (i := 4) (by decide) (by decide) (by decide))
theorem cs_i4 {α : Type} (q : CS M h) {k : Nat} (hk : k < 256) (x : Option α) : chk (inB (nI k) (mLn M (h + 4))) x = x := by
  refine chk_t ?_
  rw [q.ln (i := 4) (c := 256) (by decide) (by decide) (by decide)]; exact inB_n hk (by decide)
theorem cs_r4 (q : CS M h) : mR M (h + 1) 2 = h + 4 := q.r (a := 1) (b := 2) (c := 4) (by decide)
theorem cs_a5 {α : Type} (q : CS M h) (x : Option α) : chk (isO M 100 (h + 5)) x = x := chk_t (q.io (i := 5) (by decide) (by decide) (by decide))
theorem cs_i5 {α : Type} (q : CS M h) {k : Nat} (hk : k < 16) (x : Option α) : chk (inB (nI k) (mLn M (h + 5))) x = x := by
  refine chk_t ?_
  rw [q.ln (i := 5) (c := 16) (by decide) (by decide) (by decide)]; exact inB_n hk (by decide)
theorem cs_r5 (q : CS M h) : mR M (h + 1) 3 = h + 5 := q.r (a := 1) (b := 3) (c := 5) (by decide)
theorem cs_a6 {α : Type} (q : CS M h) (x : Option α) : chk (isO M 100 (h + 6)) x = x := chk_t (q.io (i := 6) (by decide) (by decide) (by decide))
theorem cs_i6 {α : Type} (q : CS M h) {k : Nat} (hk : k < 6) (x : Option α) : chk (inB (nI k) (mLn M (h + 6))) x = x := by
  refine chk_t ?_
  rw [q.ln (i := 6) (c := 6) (by decide) (by decide) (by decide)]; exact inB_n hk (by decide)
theorem cs_r6 (q : CS M h) : mR M (h + 1) 4 = h + 6 := q.r (a := 1) (b := 4) (c := 6) (by decide)
theorem cs_h1 (q : CS M h) : mR M h 1 = h + 1 := q.r (a := 0) (b := 1) (c := 1) (by decide)
theorem cs_h0 (q : CS M h) : mR M h 0 = 1 := q.2.2.1
theorem cs_s {α : Type} (q : CS M h) (x : Option α) : chk (isO M 7 1) x = x := chk_t q.2.2.2.1
end
theorem CS.sI {M : Mem} {h o k : Nat} {x : Int32} (q : CS M h) : CS (sI M o k x) h := q.e rfl
theorem c16' (f g : Nat) : (nI f * (16 : Int32)) + nI g = nI (16 * f + g) := by rw [show (16 : Int32) = nI 16 from rfl, pk_mul, nI_add, Nat.mul_comm]
/-- the last of what a put does -/
def put5 (M : Mem) (h l c f g k : Nat) (m tot : Nat) : Mem := sI (sI (sI (sI (sI M (h + 3) l (nI c)) (h + 4) l (nI (m + 1))) (h + 5) f (bon (mI M (h + 5) f) g)) (h + 6) k (mI M (h + 6) k + 1)) (h + 1) 10 (nI (tot + 1))
theorem f205 {M : Mem} {h : Nat} (q : CS M h) {l c f g k m tot : Nat} (hl : l < 256) (hc : c < 100000) (hf : f < 16) (hg : g < 16) (hk : k < 6) (hm : mI M (h + 4) l = nI m) (ht : mI M (h + 1) 10 = nI tot) : f_X5_put_205 (h + 1) (nI k) (nI f) (nI g) (nI c) (nI l) M = some (put5 M h l c f g k m tot) := by
  generalize hMa : sI M (h + 3) l (nI c) = Ma
  generalize hMb : sI Ma (h + 4) l (nI (m + 1)) = Mb
  generalize hMc : sI Mb (h + 5) f (bon (mI M (h + 5) f) g) = Mc
  generalize hMd : sI Mc (h + 6) k (mI M (h + 6) k + 1) = Md
  have qa : CS Ma h := by rw [← hMa]; exact q.sI
  have qb : CS Mb h := by rw [← hMb]; exact qa.sI
  have qc : CS Mc h := by rw [← hMc]; exact qb.sI
  have qd : CS Md h := by rw [← hMd]; exact qc.sI
  have e1 : mI Ma (h + 4) l = nI m := by rw [← hMa, mI_o _ _ _ _ _ (by omega)]; exact hm
  have e2 : mI Mb (h + 5) f = mI M (h + 5) f := by rw [← hMb, mI_o _ _ _ _ _ (by omega), ← hMa, mI_o _ _ _ _ _ (by omega)]
  have e3 : mI Mc (h + 6) k = mI M (h + 6) k := by rw [← hMc, mI_o _ _ _ _ _ (by omega), ← hMb, mI_o _ _ _ _ _ (by omega), ← hMa, mI_o _ _ _ _ _ (by omega)]
  have e4 : mI Md (h + 1) 10 = nI tot := by rw [← hMd, mI_o _ _ _ _ _ (by omega), ← hMc, mI_o _ _ _ _ _ (by omega), ← hMb, mI_o _ _ _ _ _ (by omega), ← hMa, mI_o _ _ _ _ _ (by omega)]; exact ht
  have e5 : put5 M h l c f g k m tot = sI Md (h + 1) 10 (nI (tot + 1)) := by unfold put5; rw [hMa, hMb, hMc, hMd]
  rw [e5, f_X5_put_205, cs_p q, cs_r3 q, bnd_e, cs_a3 q, cs_i3 q hl, bnd_e, sI_c (by omega), hMa, cs_r4 qa, bnd_e, cs_a4 qa, cs_i4 qa hl, cs_i4 qa hl, bnd_e, mI_c (by omega), e1, nI_1, sI_c (by omega), hMb, cs_r5 qb, bnd_e, cs_a5 qb, cs_i5 qb hf, cs_i5 qb hf, bnd_e, mI_c (by omega), e2, sI_c (by omega)]
  rw [show (mI M (h + 5) f ||| ((1 : Int32) <<< (nI g &&& 31))) = bon (mI M (h + 5) f) g from rfl, hMc, cs_r6 qc, bnd_e, cs_a6 qc, cs_i6 qc hk, cs_i6 qc hk, bnd_e, mI_c (by omega), e3, sI_c (by omega), hMd, e4, nI_1, bnd_e]
