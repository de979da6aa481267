/-! ===== the class: the places ===== -/
def ft : List (Nat × Nat) := [(0, 1), (1, 2), (2, 3), (3, 4), (4, 5), (5, 6), (6, 8), (8, 10), (11, 12), (12, 18), (13, 13), (15, 21)]
/-- the place of node v -/
def HPv (M : Mem) (h : Nat) (S : St) (v : Nat) : Prop := (∀ p, p ∈ ft → mI M (h + 17 + 2 * v) p.1 = xR S p.2 v) ∧ mI M (h + 17 + 2 * v) 7 = (if xR S 8 v = -1 then -1 else xR S 9 v) ∧ (xR S 0 v = 1 → mI M (h + 17 + 2 * v) 14 = xR S 14 v) ∧ (∀ u, u < 32 → bt (mI M (h + 17 + 2 * v) 9) u = decide (u ∈ (xW S v).map Prod.fst)) ∧ (∀ w, w ∈ xW S v → mI M (h + 18 + 2 * v) w.1 = w.2)
/-- the hall's own numbers -/
def HG (M : Mem) (h : Nat) (S : St) : Prop := (∀ v, v < 32 → bt (mI M h 7) v = decide (v < 16 ∧ xR S 0 v = 2)) ∧ (∀ v, v < 32 → bt (mI M h 8) v = decide (v < 16 ∧ xR S 0 v = 1)) ∧ (∀ v, v < 32 → bt (mI M h 9) v = decide (v < 16 ∧ xR S 7 v = 1)) ∧ mI M h 10 = xR S 15 1 ∧ mI M h 11 = xR S 15 0 ∧ mI M h 12 = xR S 15 2 ∧ mI M h 13 = xR S 15 5 ∧ mI M h 14 = xR S 15 3 ∧ mI M h 15 = xR S 15 4
def HP (M : Mem) (h : Nat) (S : St) : Prop := (∀ v, v < 16 → HPv M h S v) ∧ HG M h S
section
variable {M : Mem} {h : Nat}
theorem cs_h2 (q : CS M h) : mR M h 2 = h + 10 := q.r (a := 0) (b := 2) (c := 10) (by decide)
theorem cs_a10 {α : Type} (q : CS M h) (x : Option α) : chk (isO M 102 (h + 10)) x = x := chk_t (q.io (i := 10) (by decide) (by decide) (by decide))
theorem cs_i10 {α : Type} (q : CS M h) {k : Nat} (hk : k < 16) (x : Option α) : chk (inB (nI k) (mLn M (h + 10))) x = x := by
  refine chk_t ?_
  rw [q.ln (i := 10) (c := 16) (by decide) (by decide) (by decide)]; exact inB_n hk (by decide)
theorem cs_rp (q : CS M h) {v : Nat} (hv : v < 16) : mR M (h + 10) v = h + 17 + 2 * v := by
  have : ∀ v, v < 16 → (10, v, 17 + 2 * v) ∈ tH := by decide
  rw [q.r (this v hv)]; omega
theorem cs_rpc (q : CS M h) {v : Nat} (hv : v < 16) : mR M (h + 10) (nI v).toNatClampNeg = h + 17 + 2 * v := by
  rw [cl_n (by omega), cs_rp q hv]
theorem cs_po {α : Type} (q : CS M h) {v : Nat} (hv : v < 16) (x : Option α) : chk (isO M 4 (h + 17 + 2 * v)) x = x := by
  have : ∀ v, v < 16 → (tC.getD (14 + (17 + 2 * v)) (0, 0)).1 = 4 := by decide
  have z := q.io (i := 17 + 2 * v) (by omega) (by omega) (this v hv)
  rw [← Nat.add_assoc] at z
  exact chk_t z
theorem cs_pr (q : CS M h) {v : Nat} (hv : v < 16) : mR M (h + 17 + 2 * v) 10 = h + 18 + 2 * v := by
  have : ∀ v, v < 16 → (17 + 2 * v, 10, 18 + 2 * v) ∈ tH := by decide
  have z := q.r (this v hv)
  rw [← Nat.add_assoc, ← Nat.add_assoc] at z
  exact z
theorem cs_pa {α : Type} (q : CS M h) {v : Nat} (hv : v < 16) (x : Option α) : chk (isO M 100 (h + 18 + 2 * v)) x = x := by
  have : ∀ v, v < 16 → (tC.getD (14 + (18 + 2 * v)) (0, 0)).1 = 100 := by decide
  have z := q.io (i := 18 + 2 * v) (by omega) (by omega) (this v hv)
  rw [← Nat.add_assoc] at z
  exact chk_t z
theorem cs_pi {α : Type} (q : CS M h) {v : Nat} (hv : v < 16) {k : Nat} (hk : k < 16) (x : Option α) : chk (inB (nI k) (mLn M (h + 18 + 2 * v))) x = x := by
  have : ∀ v, v < 16 → (tC.getD (14 + (18 + 2 * v)) (0, 0)).2 = 16 := by decide
  have z := q.ln (i := 18 + 2 * v) (by omega) (by omega) (this v hv)
  rw [← Nat.add_assoc] at z
  refine chk_t ?_
  rw [z]; exact inB_n hk (by decide)
end
/-- the places of the others stay -/
theorem HP.at {M M' : Mem} {h : Nat} {S S' : St} (p : HP M h S) {v : Nat} (hv : HPv M' h S' v) (ho : ∀ o, (o = h ∨ (h + 17 ≤ o ∧ o < h + 49)) → o ≠ h + 17 + 2 * v → o ≠ h + 18 + 2 * v → ∀ b, mI M' o b = mI M o b) (hr : ∀ k i, i ≠ v → k ≠ 15 → k ≠ 16 → k ≠ 17 → xR S' k i = xR S k i) (h0 : xR S' 0 v = xR S 0 v) (h7 : xR S' 7 v = xR S 7 v) (h15 : xR S' 15 = xR S 15) (hW : ∀ a, a ≠ v → xW S' a = xW S a) : HP M' h S' := by
  obtain ⟨p1, g7, g8, g9, g10⟩ := p
  have e0 : ∀ u, xR S' 0 u = xR S 0 u := fun u => by
    by_cases n : u = v
    · rw [n, h0]
    · exact hr 0 u n (by decide) (by decide) (by decide)
  have e7 : ∀ u, xR S' 7 u = xR S 7 u := fun u => by
    by_cases n : u = v
    · rw [n, h7]
    · exact hr 7 u n (by decide) (by decide) (by decide)
  have eh : ∀ b, mI M' h b = mI M h b := fun b => ho h (Or.inl rfl) (by omega) (by omega) b
  refine ⟨fun u hu => ?_, ?_⟩
  · by_cases n : u = v
    · rw [n]; exact hv
    · obtain ⟨a1, a2, a3, a4, a5⟩ := p1 u hu
      have o1 : ∀ b, mI M' (h + 17 + 2 * u) b = mI M (h + 17 + 2 * u) b := fun b => ho _ (Or.inr (by omega)) (by omega) (by omega) b
      have o2 : ∀ b, mI M' (h + 18 + 2 * u) b = mI M (h + 18 + 2 * u) b := fun b => ho _ (Or.inr (by omega)) (by omega) (by omega) b
      have hf : ∀ p, p ∈ ft → p.2 ≠ 15 ∧ p.2 ≠ 16 ∧ p.2 ≠ 17 := by decide
      refine ⟨fun p hp => ?_, ?_, fun z => ?_, fun w hw => ?_, fun w hw => ?_⟩
      · rw [o1, hr _ _ n (hf p hp).1 (hf p hp).2.1 (hf p hp).2.2]; exact a1 p hp
      · rw [o1, hr 8 _ n (by decide) (by decide) (by decide), hr 9 _ n (by decide) (by decide) (by decide)]; exact a2
      · rw [o1, hr 14 _ n (by decide) (by decide) (by decide)]
        exact a3 (by rw [← e0]; exact z)
      · rw [o1, hW _ n]; exact a4 w hw
      · rw [hW _ n] at hw
        rw [o2]; exact a5 w hw
  · refine ⟨fun u hu => ?_, fun u hu => ?_, fun u hu => ?_, ?_⟩
    · rw [eh, e0]; exact g7 u hu
    · rw [eh, e0]; exact g8 u hu
    · rw [eh, e7]; exact g9 u hu
    · rw [eh, eh, eh, eh, eh, eh, h15]; exact g10
/-- one number of a place -/
theorem HP.fld {M : Mem} {h : Nat} {S : St} (p : HP M h S) {v a k : Nat} {x : Int32} (hv : v < 16) (hf : (a, k) ∈ ft) (h8 : k ≠ 8) : HP (sI M (h + 17 + 2 * v) a x) h (uR S k v x) := by
  have hp := p.1 v hv
  obtain ⟨a1, a2, a3, a4, a5⟩ := hp
  have inj : ∀ p, p ∈ ft → ∀ p', p' ∈ ft → (p.1 = p'.1 ↔ p.2 = p'.2) := by decide
  have lim : ∀ p, p ∈ ft → p.1 ≠ 7 ∧ p.1 ≠ 14 ∧ p.1 ≠ 9 ∧ p.2 ≠ 9 ∧ p.2 ≠ 0 ∧ p.2 ≠ 14 ∧ p.2 ≠ 7 ∧ p.2 ≠ 15 := by decide
  obtain ⟨l1, l2, l3, l4, l5, l6, l7, l8⟩ := lim _ hf
  simp only at l1 l2 l3 l4 l5 l6 l7 l8
  have r : ∀ k' i, k' ≠ k → xR (uR S k v x) k' i = xR S k' i := fun k' i n => by rw [xR_uR, if_neg (fun z => n z.1)]
  refine p.at ⟨fun p hp => ?_, ?_, fun z => ?_, fun u hu => ?_, fun w hw => ?_⟩ (fun o _ n _ b => by rw [mI_o _ _ _ _ _ n]) (fun k' i n _ _ _ => by rw [xR_uR, if_neg (fun z => n z.2)]) (r 0 v l5.symm) (r 7 v l7.symm) (by funext i; exact r 15 i l8.symm) (fun _ _ => rfl)
  · have ij := inj p hp (a, k) hf
    by_cases e : p.1 = a
    · rw [e, mI_s, xR_uR, if_pos ⟨ij.mp e, rfl⟩]
    · rw [mI_n _ _ _ _ e, r _ _ (fun z => e (ij.mpr z))]; exact a1 p hp
  · rw [mI_n _ _ _ _ l1.symm, r 8 v h8.symm, r 9 v l4.symm]; exact a2
  · rw [mI_n _ _ _ _ l2.symm, r 14 v l6.symm]
    exact a3 (by rw [← r 0 v l5.symm]; exact z)
  · rw [mI_n _ _ _ _ l3.symm]; exact a4 u hu
  · rw [mI_o _ _ _ _ _ (by omega)]; exact a5 w hw
