/-! ===== alike states pay alike ===== -/
theorem SE.tphv {S S' : St} (h : SE S S') (a : Nat) {v : Nat} (hv : v < 16) : phv S a v = phv S' a v := by
  unfold phv
  rw [h.1 3 v (by omega) hv, h.1 4 v (by omega) hv, h.1 5 v (by omega) hv]
def lqa (a : Nat) (q : Nat × (Int32 × Int32)) : Nat := if larb q.1 q.2.1 = a then 1 else 0
theorem lq_e (S : St) : (fl S).map (fun q => ((q.1, lk q.2) : Nat × (Int32 × Int32))) = (List.range 256).flatMap fun l => ((xL S l).map lk).map fun x => (l, x) := by
  unfold fl
  rw [List.map_flatMap]
  apply fm_cg
  intro l _
  rw [List.map_map, List.map_map]
  rfl
theorem SE.tphL {S S' : St} (h : SE S S') (a : Nat) : phL a S = phL a S' := by
  have e : ∀ T : St, phL a T = (((fl T).map (fun q => ((q.1, lk q.2) : Nat × (Int32 × Int32)))).map (lqa a)).sum := fun T => by
    unfold phL
    rw [List.map_map]
    rfl
  rw [e, e, lq_e, lq_e]
  congr 2
  apply fm_cg
  intro l hl
  rw [h.2.2 l (List.mem_range.mp hl)]
theorem SE.tPh {S S' : St} (h : SE S S') (a : Nat) : Ph a S = Ph a S' := by
  unfold Ph phB
  rw [h.tphL a, smN_c 16 (fun v hv => h.tphv a hv)]
def PhS (S : St) : Nat := smN (fun a => Ph a S) 16
theorem SE.tPhS {S S' : St} (h : SE S S') : PhS S = PhS S' := smN_c 16 (fun a _ => h.tPh a)
theorem fl_PhS (S : St) : (fl S).length ≤ PhS S := fl_Ph S
theorem SE.tnil {S S' : St} (h : SE S S') {l : Nat} (hl : l < 256) (e : xL S l = []) : xL S' l = [] := by
  have := h.2.2 l hl
  rw [e] at this
  cases q : xL S' l with
  | nil => rfl
  | cons x r => rw [q] at this; cases this
theorem SE.tix {S S' : St} (h : SE S S') {N : Nat} (h16 : N ≤ 16) (hX : IX N S) : IX N S' := by
  obtain ⟨hQ, hV, hK⟩ := hX
  refine ⟨fun a ha => (hQ a ha).cg (h.2.1 a (by omega)).symm (h.1 8 a (by omega) (by omega)).symm (h.1 9 a (by omega) (by omega)).symm (h.1 10 a (by omega) (by omega)).symm, fun v hv => ?_, fun x hx => ?_⟩
  · rw [← h.1 0 v (by omega) (by omega), ← h.1 3 v (by omega) (by omega), ← h.1 4 v (by omega) (by omega)]
    exact hV v hv
  · rw [← h.1 7 x (by omega) (by omega), ← h.1 0 x (by omega) (by omega)]
    intro q
    obtain ⟨a, b, c⟩ := hK x hx q
    exact ⟨a, fun u hu => by rw [← h.1 3 u (by omega) (by omega)]; exact b u hu, fun u hu => ⟨h.tnil (by omega) (c u hu).1, h.tnil (by omega) (c u hu).2⟩⟩
/-- the quorums are of unbroken nodes -/
def QU (N : Nat) (S : St) : Prop := ∀ v, v < N → ∀ i, i < N → bt (qm N S v) i = true → Ub S i
theorem QU.k {N : Nat} {S S' : St} (h : QU N S) (q : Qk S S') : QU N S' := fun v hv i hi hb => by
  unfold Ub
  rw [q 7 (by omega)]
  exact h v hv i hi (by rw [← q.m N v]; exact hb)
theorem smN_lt {f : Nat → Nat} (N : Nat) (b : Nat → Bool) : ∀ n, smN (fun a => if a < N ∧ b a = true then 1 else 0) n ≤ min n N := by
  intro n
  induction n with
  | zero => exact Nat.zero_le _
  | succ n ih =>
    show smN _ n + (if n < N ∧ b n = true then 1 else 0) ≤ _
    by_cases c : n < N ∧ b n = true
    · rw [if_pos c]; omega
    · rw [if_neg c]; omega
/-- one move more, alike at each arbiter -/
theorem PhS_le {S S' : St} {e : Nat → Nat} (h : ∀ a, a < 16 → Ph a S' ≤ Ph a S + e a) : PhS S' ≤ PhS S + smN e 16 := by
  unfold PhS
  rw [← smN_add]
  exact smN_le 16 h
