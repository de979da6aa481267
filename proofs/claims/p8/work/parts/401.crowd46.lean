/-! ===== a crowd on the fresh objects ===== -/
theorem Sf_Inv : Inv 4 0 Sf := by
  have v0 : ∀ k v, v < 16 → k < 8 → xR Sf k v = 0 := fun k v hv hk => Sf_0 (by unfold vk; omega) (by omega) (by omega) (by omega) (by omega)
  have v9 : ∀ v, v < 16 → xR Sf 9 v = 0 := fun v hv => Sf_0 (by unfold vk; omega) (by decide) (by decide) (by decide) (by decide)
  have v10 : ∀ v, v < 16 → xR Sf 10 v = 0 := fun v hv => Sf_0 (by unfold vk; omega) (by decide) (by decide) (by decide) (by decide)
  have oe0 : ∀ v a, v < 4 → a < 4 → oe Sf 99 99 none v a = none := fun v a hv ha => by
    rw [oe_99 (by omega)]
    unfold eng
    rw [Sf_8 (by omega), if_neg (m1_ne (by omega))]
    rfl
  refine ⟨fun v hv => ⟨Or.inl (v0 0 v hv (by decide)), fun _ => v0 0 v hv (by decide), Or.inl (v0 7 v hv (by decide)), Or.inl (v10 v hv)⟩, fun v hv i _ _ => ?_, fun v hv z => ?_, fun v hv => ⟨0, 0, Nat.le_refl _, Nat.le_refl _, v0 1 v hv (by decide), v0 2 v hv (by decide)⟩, fun l _ => ⟨fun x hx => ?_, fun _ => rfl⟩, fun a ha => ⟨⟨List.Pairwise.nil, List.nodup_nil, fun w hw => ?_⟩, fun _ => rfl, Or.inl ⟨Sf_8 ha, v9 a ha, v10 a ha⟩⟩, fun v hv a ha => ?_, fun v hv a ha => ⟨fun s hs => ?_, fun x hx => ?_, fun x hx => ?_⟩⟩
  · rw [v0 3 v hv (by decide)]; exact b_0 _
  · rw [v0 0 v hv (by decide)] at z; exact absurd z (by decide)
  · have hx' : x ∈ (([] : List Ltr)) := hx
    simp at hx'
  · have hw' : w ∈ (([] : List Wtr)) := hw
    simp at hw'
  · rw [oe0 v a hv ha]
    unfold opn
    rw [if_neg (fun z => z.1 (v0 0 v (by omega) (by decide)))]
    rfl
  · rw [oe0 v a hv ha] at hs; cases hs
  · have hx' : x ∈ (([] : List Ltr)) := hx
    simp at hx'
  · have hx' : x ∈ (([] : List Ltr)) := hx
    simp at hx'
set_option maxRecDepth 1000000 in
theorem MA_q : ((List.range 4).all fun v => decide (crv (kk 4) 4 v = mI MA0 29 v) && (List.range 32).all fun i => decide (i < 4) || !(bt (crv (kk 4) 4 v) i)) = true := by decide +kernel
theorem Sf_17 {v : Nat} (h : v < 4) : xR Sf 17 v = crv (kk 4) 4 v := by
  rw [Sf_R (by decide), show ad 17 v = 2 + v from rfl, Mf_s]
  unfold mff
  rw [if_pos (by omega), show 2 + v - 2 = v by omega]
theorem Sf_bk : bkm 4 Sf = 0 := by
  have v7 : ∀ v, v < 4 → xR Sf 7 v = 0 := fun v hv => Sf_0 (by unfold vk; omega) (by decide) (by decide) (by decide) (by decide)
  unfold bkm bk
  rw [show List.range' 0 4 = [0, 1, 2, 3] from rfl]
  simp only [List.foldl_cons, List.foldl_nil, v7 0 (by decide), v7 1 (by decide), v7 2 (by decide), v7 3 (by decide)]
  decide
theorem Sf_qm {v : Nat} (h : v < 4) : qm 4 Sf v = crv (kk 4) 4 v := by
  unfold qm qby
  rw [Sf_bk, Int32.and_zero, if_pos rfl, Sf_17 h]
theorem Sf_qb : ∀ v, v < 4 → ∀ i, 4 ≤ i → i < 32 → bt (qm 4 Sf v) i = false := by
  intro v hv i h1 h2
  rw [Sf_qm hv]
  have := (Bool.and_eq_true _ _ |>.mp (all_r MA_q hv)).2
  rcases Bool.or_eq_true _ _ |>.mp (all_r this h2) with z | z
  · exact absurd (of_decide_eq_true z) (by omega)
  · simpa using z
theorem Sf_Q : ∀ v, v < 4 → qm 4 Sf v = mI Mf 29 v := by
  intro v hv
  rw [Sf_qm hv, Mf_o (by decide)]
  exact of_decide_eq_true (Bool.and_eq_true _ _ |>.mp (all_r MA_q hv)).1
theorem Sf_20 : xR Sf 20 0 = nI 4 ∧ xR Sf 20 1 = 0 := by
  rw [Sf_R (by decide), Sf_R (by decide)]
  exact ⟨fIr0, fr_1⟩
theorem Sf_CK {T : Nat} (hT : T ≤ 500) : CK 4 0 16 T Sf := by
  have hi := idl_le Sf 4
  refine ⟨by decide, by decide, hT, ⟨Sf_Inv, ?_, Qk.rf _, fun u => ⟨0, Nat.le_refl _, by rw [show nI 0 = (0 : Int32) from rfl, Int32.add_zero]⟩⟩, Sf_20.1, fun z => ?_, Sf_qb, fun r hr => by omega, fun r hr => by omega⟩
  · unfold Psi
    rw [Sf_fl, List.length_nil]
    omega
  · rw [Sf_20.2] at z; exact absurd z (by decide)
theorem fwl_ne {S0 S : St} (hne : ∀ v, nwE S0 S v ≠ -1) : ∀ (ws : List Nat) (x : Int32), (x ≠ -1 ∨ ∃ v, v ∈ ws ∧ xR S0 7 v = 0) → fwl S0 S ws x ≠ -1 := by
  intro ws
  induction ws with
  | nil =>
    intro x h
    rcases h with h | ⟨v, hv, _⟩
    · exact h
    · simp at hv
  | cons w ws ih =>
    intro x h
    have e : fwl S0 S (w :: ws) x = fwl S0 S ws (if xR S0 7 w = 0 then (if x = -1 then nwE S0 S w else if x ≤ nwE S0 S w then x else nwE S0 S w) else x) := rfl
    rw [e]
    apply ih
    by_cases c : xR S0 7 w = 0
    · rw [if_pos c]
      refine Or.inl ?_
      by_cases c1 : x = -1
      · rw [if_pos c1]; exact hne w
      · rw [if_neg c1]
        split
        · exact c1
        · exact hne w
    · rw [if_neg c]
      rcases h with h | ⟨v, hv, hz⟩
      · exact Or.inl h
      · rcases List.mem_cons.mp hv with q | q
        · exact absurd (q ▸ hz) c
        · exact Or.inr ⟨v, q, hz⟩
theorem cT_cR {N A P T w : Nat} {S0 S : St} (J : CJ N A P S0 S T) (hT : T ≤ 500) (h7 : ∃ v, v < N ∧ xR S0 7 v = 0) : cT N S0 S w = cR N S0 S w := by
  have hne : ∀ v, nwE S0 S v ≠ -1 := fun v => by
    obtain ⟨m, hm, e⟩ := J.2.2.2 v
    unfold nwE
    rw [e, Int32.add_comm, Int32.add_sub_cancel]
    intro z
    have : ¬ nI m < 0 := nI_nlt (b := 0) (by omega) (by omega)
    rw [z] at this
    exact this (by decide)
  have h := fwl_ne hne (List.range N) (-1) (Or.inr (by obtain ⟨v, hv, z⟩ := h7; exact ⟨v, List.mem_range.mpr hv, z⟩))
  unfold cT cR
  rw [if_neg h]
theorem RV.mv {M M' : Mem} {tw : Bool} {t : Int32} {S : St} {pb pt : List Row4} (h : RV M tw t S pb pt) (f : FrO M M') : RV M' tw t S pb pt := by
  obtain ⟨hS, ht, ha, hw, hl, hb1, hb2⟩ := h
  obtain ⟨f1, f2⟩ := f
  have e1 : ∀ b, mI M' 121 b = mI M 121 b := (f2 121 (by decide) (by decide)).2.2.1
  have e3 : ∀ b, mI M' 123 b = mI M 123 b := (f2 123 (by decide) (by decide)).2.2.1
  have hS' : RS M' := by
    refine ⟨fun i h1 h2 => ?_, fun q hq => ?_, Nat.le_trans hS.2.2 f1⟩
    · rw [(f2 i (by omega) h2).1]; exact hS.1 i h1 h2
    · have hb : ∀ q, q ∈ tG → q.1 = 120 := by decide
      have := hb q hq
      rw [(f2 q.1 (by omega) (by omega)).2.1]; exact hS.2.1 q hq
  refine ⟨hS', ?_, fun k i hv => ?_, hw.cg (fun b _ _ => e1 b) rfl, ⟨?_, hl.2.1, hl.2.2.cg fun i _ _ => ⟨e1 _, e3 _⟩⟩, hb1.cg (e1 _) (fun b _ _ => e1 b), hb2.cg (e1 _) (fun b _ _ => e1 b)⟩
  · rw [(f2 120 (by decide) (by decide)).2.2.1]; exact ht
  · rw [e1]; exact ha k i hv
  · rw [e1]; exact hl.1
theorem nn_e {a : Int32} (h : ¬ a < 0) : ∃ s, s < 2 ^ 31 ∧ a = nI s := by
  refine ⟨a.toBitVec.toNat, ?_, nI_tn a⟩
  have h1 : ¬ a.toInt < 0 := by
    have e0 : (0 : Int32).toInt = 0 := by decide
    rw [Int32.lt_iff_toInt_lt, e0] at h
    exact h
  have e : a.toInt = if 2 * a.toBitVec.toNat < 2 ^ 32 then (a.toBitVec.toNat : Int) else (a.toBitVec.toNat : Int) - (2 ^ 32 : Nat) := BitVec.toInt_eq_toNat_cond _
  have l := a.toBitVec.isLt
  by_cases c : 2 * a.toBitVec.toNat < 2 ^ 32
  · omega
  · rw [if_neg c] at e
    omega
theorem Mf_XT : XT Mf := ⟨io_f (by decide) (by decide), fR00, fR02, fR03, by rw [mN_e Mf_1, MA_t.2.2.2]; exact Nat.le_refl _⟩
theorem clr_Sf : clr Sf = Sf := rfl
theorem Mf_158 : mI Mf 15 8 = nI 0 := by
  have h := MA_hall
  simp only [Bool.and_eq_true] at h
  rw [Mf_o (by decide)]
  exact of_decide_eq_true h.1.1.1.1.1.2
