/-! ===== the class: who is ahead; the hall's counts ===== -/
theorem St.ext {S S' : St} (hR : ∀ k i, xR S k i = xR S' k i) (hW : xW S = xW S') (hL : xL S = xL S') (hE : xE S = xE S') (hT : xT S = xT S') : S = S' := by
  obtain ⟨a, b, c, d, e⟩ := S
  obtain ⟨a', b', c', d', e'⟩ := S'
  have h1 : a = a' := by funext k i; exact hR k i
  have h2 : b = b' := hW
  have h3 : c = c' := hL
  have h4 : d = d' := hE
  have h5 : e = e' := hT
  rw [h1, h2, h3, h4, h5]
def gt : List (Nat × Nat) := [(10, 1), (11, 0), (12, 2), (13, 5), (14, 3), (15, 4)]
theorem HP.gs {M : Mem} {h : Nat} {S : St} (p : HP M h S) {b j : Nat} (hb : (b, j) ∈ gt) : mI M h b = xR S 15 j := by
  obtain ⟨_, _, _, _, g10, g11, g12, g13, g14, g15⟩ := p
  have : (b = 10 ∧ j = 1) ∨ (b = 11 ∧ j = 0) ∨ (b = 12 ∧ j = 2) ∨ (b = 13 ∧ j = 5) ∨ (b = 14 ∧ j = 3) ∨ (b = 15 ∧ j = 4) := by
    simpa [gt] using hb
  rcases this with ⟨rfl, rfl⟩ | ⟨rfl, rfl⟩ | ⟨rfl, rfl⟩ | ⟨rfl, rfl⟩ | ⟨rfl, rfl⟩ | ⟨rfl, rfl⟩
  · exact g10
  · exact g11
  · exact g12
  · exact g13
  · exact g14
  · exact g15
theorem HP.gw {M : Mem} {h : Nat} {S : St} (p : HP M h S) {b j : Nat} (hb : (b, j) ∈ gt) (x : Int32) : HP (sI M h b x) h (uR S 15 j x) := by
  have gs := fun b' j' (hb' : (b', j') ∈ gt) => p.gs hb'
  obtain ⟨p1, g7, g8, g9, _⟩ := p
  have hf : ∀ p, p ∈ ft → p.2 ≠ 15 := by decide
  have r : ∀ k i, k ≠ 15 → xR (uR S 15 j x) k i = xR S k i := fun k i n => by rw [xR_uR, if_neg (fun z => n z.1)]
  have lim : ∀ p, p ∈ gt → p.1 ≠ 7 ∧ p.1 ≠ 8 ∧ p.1 ≠ 9 := by decide
  have inj : ∀ p, p ∈ gt → ∀ p', p' ∈ gt → (p.1 = p'.1 ↔ p.2 = p'.2) := by decide
  obtain ⟨l7, l8, l9⟩ := lim _ hb
  have all : ∀ b' j', (b', j') ∈ gt → mI (sI M h b x) h b' = xR (uR S 15 j x) 15 j' := fun b' j' hb' => by
    have ij := inj _ hb' _ hb
    by_cases c : b' = b
    · rw [c, mI_s, xR_uR, if_pos ⟨rfl, ij.mp c⟩]
    · rw [mI_n _ _ _ _ c, xR_uR, if_neg (fun z => c (ij.mpr z.2))]; exact gs b' j' hb'
  refine ⟨fun v hv => ?_, fun v hv => ?_, fun v hv => ?_, fun v hv => ?_, all 10 1 (by decide), all 11 0 (by decide), all 12 2 (by decide), all 13 5 (by decide), all 14 3 (by decide), all 15 4 (by decide)⟩
  · obtain ⟨a1, a2, a3, a4, a5⟩ := p1 v hv
    have o1 : ∀ k, mI (sI M h b x) (h + 17 + 2 * v) k = mI M (h + 17 + 2 * v) k := fun k => mI_o _ _ _ _ _ (by omega)
    have o2 : ∀ k, mI (sI M h b x) (h + 18 + 2 * v) k = mI M (h + 18 + 2 * v) k := fun k => mI_o _ _ _ _ _ (by omega)
    refine ⟨fun p hp => ?_, ?_, fun z => ?_, fun w hw => ?_, fun w hw => ?_⟩
    · rw [o1, r _ _ (hf p hp)]; exact a1 p hp
    · rw [o1, r 8 _ (by decide), r 9 _ (by decide)]; exact a2
    · rw [o1, r 14 _ (by decide)]; exact a3 (by rw [← r 0 v (by decide)]; exact z)
    · rw [o1]; exact a4 w hw
    · rw [o2]; exact a5 w hw
  · rw [mI_n _ _ _ _ (Ne.symm l7), r 0 _ (by decide)]; exact g7 v hv
  · rw [mI_n _ _ _ _ (Ne.symm l8), r 0 _ (by decide)]; exact g8 v hv
  · rw [mI_n _ _ _ _ (Ne.symm l9), r 7 _ (by decide)]; exact g9 v hv
theorem HV.gs {M : Mem} {h X Y N : Nat} {t : Int32} {Q : Nat → Int32} {S : St} {pb pt : List Row4} (p : HV M h X Y t N Q S pb pt) {b j : Nat} (hb : (b, j) ∈ gt) : mI M h b = xR S 15 j := p.2.2.1.gs hb
theorem HV.gw {M : Mem} {h X Y N : Nat} {t : Int32} {Q : Nat → Int32} {S : St} {pb pt : List Row4} (p : HV M h X Y t N Q S pb pt) {b j : Nat} (hb : (b, j) ∈ gt) (x : Int32) : HV (sI M h b x) h X Y t N Q (uR S 15 j x) pb pt ∧ FrH M (sI M h b x) h :=
  ⟨p.at rfl (fun o n b => mI_o _ _ _ _ _ (by omega)) (p.2.2.1.gw hb x) rfl (by funext i; rw [xR_uR, if_neg (fun z => by have := z.1; omega)]) rfl rfl, FrH.sI (by omega)⟩
theorem HV.t11 {M : Mem} {h X Y N : Nat} {t : Int32} {Q : Nat → Int32} {S : St} {pb pt : List Row4} (p : HV M h X Y t N Q S pb pt) : mI M (h + 1) 11 = t := by
  obtain ⟨d5, d6, d7, len, K, fr, us, ow, w, _⟩ := p.2.1
  exact w.2.2.2.2.2.2.2.2.2.2.1
/-- a register of no place's and no hall's number that the class's hall holds -/
theorem HV.ahl {h X Y N : Nat} {t : Int32} {Q : Nat → Int32} {S : St} {pb pt : List Row4} {M : Mem} (p : HV M h X Y t N Q S pb pt) (h16 : N ≤ 16) {v : Nat} (hv : v < 16) : ∀ (d i n : Nat), i + d = N → d + 1 ≤ n → f_X2_isSomeoneAheadOf_2 M n h (nI v) (nI i) = some (if ovr' i d v S then 1 else 0) := by
  intro d
  induction d with
  | zero =>
    intro i n hi hn
    obtain ⟨n, rfl⟩ : ∃ m, n = m + 1 := ⟨n - 1, by omega⟩
    have q := p.1
    rw [f_X2_isSomeoneAheadOf_2, cs_f q, cs_h0 q, bnd_e, cs_s q, p.2.2.2.2.2.1, if_pos (nI_le (by omega) (by omega))]
    rfl
  | succ d ih =>
    intro i n hi hn
    obtain ⟨n, rfl⟩ : ∃ m, n = m + 1 := ⟨n - 1, by omega⟩
    have q := p.1
    have g8 := p.2.2.1.2.2.1 i (by omega)
    have eo : ovr' i (d + 1) v S = ((decide (xR S 0 i = 1) && ahd (xR S 2 i) (nI i) (xR S 2 v) (nI v)) || ovr' (i + 1) d v S) := by
      unfold ovr'
      rw [List.range'_succ, List.any_cons]
    rw [eo, f_X2_isSomeoneAheadOf_2, cs_f q, cs_h0 q, bnd_e, cs_s q, p.2.2.2.2.2.1, if_neg (nI_ge (by omega) (by omega)), f_has9 _ (by omega), obd_s, g8]
    have next := ih (i + 1) n (by omega) (by omega)
    by_cases c : xR S 0 i = 1
    · rw [if_pos (show decide (i < 16 ∧ xR S 0 i = 1) = true from decide_eq_true ⟨by omega, c⟩), if_neg ne10, cs_h2 q, bnd_e, cs_a10 q, cs_i10 q (by omega), cs_rpc q (by omega), bnd_e, cs_po q (by omega), bnd_e, cs_a10 q, cs_i10 q hv, cs_rpc q hv, bnd_e, cs_po q hv, p.fs (v := i) (by omega) (a := 1) (k := 2) (by decide), p.fs hv (a := 1) (k := 2) (by decide), f_ah9, obd_s, decide_eq_true c, Bool.true_and]
      cases ha : ahd (xR S 2 i) (nI i) (xR S 2 v) (nI v)
      · rw [if_neg (show ¬ false = true by decide), if_pos rfl, nI_1, bnd_e, next, Bool.false_or]
      · rw [if_pos rfl, if_neg ne10, Bool.true_or, if_pos rfl]
    · rw [if_neg (show ¬ decide (i < 16 ∧ xR S 0 i = 1) = true from fun z => c (of_decide_eq_true z).2), if_pos rfl, nI_1, bnd_e, next, decide_eq_false c, Bool.false_and, Bool.false_or]
theorem HV.ahead {h X Y N : Nat} {t : Int32} {Q : Nat → Int32} {S : St} {pb pt : List Row4} {M : Mem} (p : HV M h X Y t N Q S pb pt) (h16 : N ≤ 16) {v : Nat} (hv : v < 16) {n : Nat} (hn : 17 ≤ n) : f_X2_isSomeoneAheadOf n h (nI v) M = some (if ovr N v S then 1 else 0) := by
  have := p.ahl h16 hv N 0 n (by omega) (by omega)
  have eo : ovr' 0 N v S = ovr N v S := by
    unfold ovr' ovr
    rw [List.range_eq_range']
  rw [eo] at this
  exact this
