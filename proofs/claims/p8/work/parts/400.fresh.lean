/-! ===== the fresh objects stand for the fresh state ===== -/
def Sf : St := (fun k i => if k < 21 then mI Mf 121 (ad k i) else 0, fun _ => [], fun _ => [], [], [])
theorem Sf_R {k i : Nat} (h : k < 21) : xR Sf k i = mI Mf 121 (ad k i) := if_pos h
theorem fr_0 {b : Nat} (h1 : 18 ≤ b) (h2 : b < 10209) (h3 : ¬ (146 ≤ b ∧ b < 850 ∧ (b - 146) % 44 = 0)) : mI Mf 121 b = 0 := by
  rw [Mf_s]
  unfold mff
  rw [if_neg (by omega)]
  unfold bgf
  rw [if_neg (by omega), if_neg (by omega), if_neg (by omega)]
  by_cases c1 : b < 146
  · rw [if_pos c1]
  · rw [if_neg c1]
    by_cases c2 : b < 850
    · rw [if_pos c2, if_neg (by omega)]
    · rw [if_neg c2, if_pos h2]
theorem fr_8 {a : Nat} (h : a < 16) : mI Mf 121 (146 + 44 * a) = -1 := by
  rw [Mf_s]
  unfold mff
  rw [if_neg (by omega)]
  unfold bgf
  rw [if_neg (by omega), if_neg (by omega), if_neg (by omega), if_neg (by omega), if_pos (by omega), if_pos (by omega)]
theorem fr_1 : mI Mf 121 1 = 0 := by
  rw [Mf_s]
  unfold mff
  rw [if_neg (by decide)]
  unfold bgf
  rw [if_neg (by decide), if_pos rfl]
theorem Sf_0 {k i : Nat} (h : vk k i) (h8 : k ≠ 8) (h17 : k ≠ 17) (h19 : k ≠ 19) (h20 : k ≠ 20) : xR Sf k i = 0 := by
  have a := ad_cases h
  rw [Sf_R (by unfold vk at h; omega)]
  refine fr_0 (by omega) (by omega) (by omega)
theorem Sf_8 {i : Nat} (h : i < 16) : xR Sf 8 i = -1 := by
  have a := ad_cases (k := 8) (i := i) (by unfold vk; omega)
  rw [Sf_R (by decide), show ad 8 i = 146 + 44 * i by omega]
  exact fr_8 h
theorem fl_0 {S : St} (h : ∀ l, xL S l = []) : fl S = [] := by
  unfold fl
  rw [List.flatMap_eq_nil_iff]
  intro l _
  rw [h l]
  rfl
theorem Sf_fl : fl Sf = [] := fl_0 (fun _ => rfl)
theorem Mf_RS : RS Mf := by
  refine ⟨fun i h1 h2 => ?_, fun q hq => ?_, ?_⟩
  · rw [Mf_1]; exact MA_c h2
  · rw [mR_e Mf_1]
    exact of_decide_eq_true (List.all_eq_true.mp MA_t.2.2.1 q hq)
  · rw [mN_e Mf_1, MA_t.2.2.2]; exact Nat.le_refl _
set_option maxRecDepth 1000000 in
theorem MA_120 : (List.range 9).all (fun k => decide (mI MA0 120 k = 0)) = true := by decide +kernel
theorem fI120 {k : Nat} (h : k < 9) : mI Mf 120 k = 0 := by
  rw [Mf_o (by decide)]
  exact of_decide_eq_true (List.all_eq_true.mp MA_120 k (List.mem_range.mpr h))
theorem Mf_RV (tw : Bool) : RV Mf tw 0 Sf [] [] := by
  refine ⟨Mf_RS, fI120 (by decide), fun k i h => ?_, fun a ha => ⟨?_, by show 0 ≤ 20; omega, fun i q h => ?_, fun i _ hi => ⟨?_, ?_⟩⟩, ⟨?_, ?_, ?_⟩, ⟨?_, ?_⟩, ⟨?_, ?_⟩⟩
  · rw [Sf_R (by unfold vk at h; omega)]
  · show mI Mf 121 (149 + 44 * a) = 0
    exact fr_0 (by omega) (by omega) (by omega)
  · have h' : (([] : List Wtr))[i]? = some q := h
    simp at h'
  · exact fr_0 (by omega) (by omega) (by omega)
  · exact fr_0 (by omega) (by omega) (by omega)
  · rw [Sf_fl]
    exact fr_0 (by decide) (by decide) (by decide)
  · rw [Sf_fl]; exact Nat.zero_le _
  · rw [Sf_fl]
    intro i q h
    simp at h
  · exact fr_0 (by decide) (by decide) (by decide)
  · intro i q h
    have h' : (([] : List Row4))[i]? = some q := h
    simp at h'
  · exact fr_0 (by decide) (by decide) (by decide)
  · intro i q h
    have h' : (([] : List Row4))[i]? = some q := h
    simp at h'
/-! the class's halls -/
set_option maxRecDepth 1000000 in
theorem tH_all : (tH.all fun q => decide (mR MA0 (14 + q.1) q.2.1 = 14 + q.2.2) && decide (mR MA0 (63 + q.1) q.2.1 = 63 + q.2.2)) = true := by decide +kernel
theorem tC_63 : ∀ i, i < 49 → ¬ (7 ≤ i ∧ i ≤ 9) → tC.getD (63 + i) (0, 0) = tC.getD (14 + i) (0, 0) := by decide +kernel
set_option maxRecDepth 1000000 in
theorem MA_R0 : mR MA0 14 0 = 1 ∧ mR MA0 63 0 = 1 ∧ (List.range 3).all (fun j => decide (mR MA0 15 (5 + j) = 21 + j) && decide (mR MA0 64 (5 + j) = 70 + j)) = true ∧ mU MA0 ≤ 6000000 := by decide +kernel
theorem Mf_CS14 : CS Mf 14 := by
  refine ⟨fun i hi _ => ?_, fun q hq => ?_, ?_, io_f (by decide) (by decide), by decide, by decide, by rw [mN_e Mf_1, MA_t.2.2.2]; exact Nat.le_refl _⟩
  · rw [Mf_1]; exact MA_c (by omega)
  · rw [mR_e Mf_1]
    have := List.all_eq_true.mp tH_all q hq
    exact of_decide_eq_true (Bool.and_eq_true _ _ |>.mp this).1
  · rw [mR_e Mf_1]; exact MA_R0.1
theorem Mf_CS63 : CS Mf 63 := by
  refine ⟨fun i hi hn => ?_, fun q hq => ?_, ?_, io_f (by decide) (by decide), by decide, by decide, by rw [mN_e Mf_1, MA_t.2.2.2]; exact Nat.le_refl _⟩
  · rw [Mf_1, MA_c (by omega)]; exact tC_63 i hi hn
  · rw [mR_e Mf_1]
    have := List.all_eq_true.mp tH_all q hq
    exact of_decide_eq_true (Bool.and_eq_true _ _ |>.mp this).2
  · rw [mR_e Mf_1]; exact MA_R0.2.1
theorem Mf_57 {j : Nat} (h : j < 3) : mR Mf 15 (5 + j) = 21 + j ∧ mR Mf 64 (5 + j) = 70 + j := by
  have := List.all_eq_true.mp MA_R0.2.2.1 j (List.mem_range.mpr h)
  have := Bool.and_eq_true _ _ |>.mp this
  rw [mR_e Mf_1, mR_e Mf_1]
  exact ⟨of_decide_eq_true this.1, of_decide_eq_true this.2⟩
theorem Mf_DS14 : DS Mf 14 21 22 23 64 := by
  refine ⟨⟨(Mf_57 (j := 0) (by decide)).1, (Mf_57 (j := 1) (by decide)).1, (Mf_57 (j := 2) (by decide)).1⟩, ⟨io_f (by decide) (by decide), io_f (by decide) (by decide), io_f (by decide) (by decide)⟩, ⟨ln_f (by decide) (by decide), ln_f (by decide) (by decide), ln_f (by decide) (by decide)⟩, Or.inl rfl, Or.inl rfl, Or.inl rfl, by decide, by decide, by decide⟩
theorem Mf_DS63 : DS Mf 63 70 71 72 64 := by
  refine ⟨⟨(Mf_57 (j := 0) (by decide)).2, (Mf_57 (j := 1) (by decide)).2, (Mf_57 (j := 2) (by decide)).2⟩, ⟨io_f (by decide) (by decide), io_f (by decide) (by decide), io_f (by decide) (by decide)⟩, ⟨ln_f (by decide) (by decide), ln_f (by decide) (by decide), ln_f (by decide) (by decide)⟩, Or.inl rfl, Or.inl rfl, Or.inl rfl, by decide, by decide, by decide⟩
set_option maxRecDepth 1000000 in
theorem MA_hall : ((List.range 256).all (fun l => decide (mI MA0 18 l = 0)) && (List.range 16).all (fun f => decide (mI MA0 19 f = 0)) && (List.range 6).all (fun k => decide (mI MA0 20 k = 0)) && decide (mI MA0 15 8 = 0) && decide (mI MA0 15 9 = -1) && decide (mI MA0 15 10 = 0) && decide (mI MA0 15 11 = 0) && (List.range 16).all (fun v => (List.range 16).all fun j => decide (mI MA0 (31 + 2 * v) j = if j = 6 ∨ j = 7 then -1 else 0)) && (List.range 16).all (fun j => decide (j < 7) || decide (mI MA0 14 j = 0))) = true := by decide +kernel
set_option maxRecDepth 1000000 in
theorem MA_logs2 : ((decide (mI MA0 25 0 = 30) && decide (mI MA0 25 2 = 0) && decide (mI MA0 25 3 = 0) && decide (mI MA0 27 0 = 40) && decide (mI MA0 27 2 = 0) && decide (mI MA0 27 3 = 0)) && (decide (mI MA0 74 0 = 30) && decide (mI MA0 74 2 = 0) && decide (mI MA0 74 3 = 0) && decide (mI MA0 76 0 = 40) && decide (mI MA0 76 2 = 0) && decide (mI MA0 76 3 = 0))) = true := by decide +kernel
theorem LG_0 {M : Mem} {l m : Nat} (h0 : mI M l 0 = nI m) (h2 : mI M l 2 = 0) (h3 : mI M l 3 = 0) : LG M l m [] := by
  refine ⟨h0, ?_, ?_, fun j q h => by simp at h⟩
  · rw [h2]; rfl
  · rw [h3]; simp only [List.length_nil, Nat.zero_mod]; rfl
theorem MA_lg : (LG Mf 25 30 [] ∧ LG Mf 27 40 []) ∧ (LG Mf 74 30 [] ∧ LG Mf 76 40 []) := by
  have h := MA_logs2
  simp only [Bool.and_eq_true, decide_eq_true_eq] at h
  obtain ⟨⟨⟨⟨⟨⟨a1, a2⟩, a3⟩, a4⟩, a5⟩, a6⟩, ⟨⟨⟨⟨b1, b2⟩, b3⟩, b4⟩, b5⟩, b6⟩ := h
  exact ⟨⟨LG_0 ((Mf_o (by decide) 0).trans a1) ((Mf_o (by decide) 2).trans a2) ((Mf_o (by decide) 3).trans a3), LG_0 ((Mf_o (by decide) 0).trans a4) ((Mf_o (by decide) 2).trans a5) ((Mf_o (by decide) 3).trans a6)⟩, LG_0 ((Mf_o (by decide) 0).trans b1) ((Mf_o (by decide) 2).trans b2) ((Mf_o (by decide) 3).trans b3), LG_0 ((Mf_o (by decide) 0).trans b4) ((Mf_o (by decide) 2).trans b5) ((Mf_o (by decide) 3).trans b6)⟩
theorem Mf_Rm (h : Nat) (hl : mLn Mf (mR Mf (h + 1) 5) = 64) : Rm Mf h 2000000 6000000 := by
  refine ⟨?_, ?_, Nat.le_refl _, Nat.le_refl _, 0, by rw [hl]⟩
  · rw [mN_e Mf_1, MA_t.2.2.2]; omega
  · have e : mU Mf = mU MA0 := by unfold mU; rw [Mf_1]
    rw [e]
    have := MA_R0.2.2.2
    omega
theorem Mf_TR : TR Mf 63 2000000 6000000 [] [] :=
  ⟨Mf_CS63, ⟨70, 71, 72, 64, Mf_DS63, by decide, by decide⟩, Mf_Rm 63 (by rw [(Mf_57 (j := 0) (by decide)).2]; exact ln_f (by decide) (by decide)), MA_lg.2.1, MA_lg.2.2⟩
theorem all_r {n : Nat} {f : Nat → Bool} (h : (List.range n).all f = true) {k : Nat} (hk : k < n) : f k = true := List.all_eq_true.mp h k (List.mem_range.mpr hk)
theorem Mf_HV : HV Mf 14 2000000 6000000 0 4 (fun v => mI Mf 29 v) Sf [] [] := by
  have h := MA_hall
  simp only [Bool.and_eq_true] at h
  obtain ⟨⟨⟨⟨⟨⟨⟨⟨m1, m2⟩, m3⟩, m4⟩, m5⟩, m6⟩, m7⟩, m8⟩, m9⟩ := h
  have z8 := of_decide_eq_true m4
  have z9 := of_decide_eq_true m5
  have z10 := of_decide_eq_true m6
  have z11 := of_decide_eq_true m7
  have pl : ∀ v, v < 16 → ∀ j, j < 16 → mI Mf (14 + 17 + 2 * v) j = if j = 6 ∨ j = 7 then -1 else 0 := fun v hv j hj => by
    rw [Mf_o (by omega), show 14 + 17 + 2 * v = 31 + 2 * v by omega]
    exact of_decide_eq_true (all_r (all_r m8 hv) hj)
  have hl : ∀ j, 7 ≤ j → j < 16 → mI Mf 14 j = 0 := fun j h7 hj => by
    rw [Mf_o (by decide)]
    rcases Bool.or_eq_true _ _ |>.mp (all_r m9 hj) with z | z
    · exact absurd (of_decide_eq_true z) (by omega)
    · exact of_decide_eq_true z
  have v0 : ∀ k v, v < 16 → k < 8 → xR Sf k v = 0 := fun k v hv hk => Sf_0 (by unfold vk; omega) (by omega) (by omega) (by omega) (by omega)
  have v15 : ∀ j, j < 6 → xR Sf 15 j = 0 := fun j hj => Sf_0 (by unfold vk; omega) (by decide) (by decide) (by decide) (by decide)
  refine ⟨Mf_CS14, ⟨21, 22, 23, 64, fun _ => [], [], 0, fun _ => 256, ⟨Mf_DS14, fun l _ q hq => by simp at hq, fun _ _ => List.nodup_nil, fun _ _ => trivial, fun l _ cs z hz => ?_, fun l hl => ?_, fun f hf g hg => ?_, fun k hk => ?_, ⟨List.nodup_nil, fun c hc => by simp at hc, ?_⟩, ⟨?_, by decide, by decide, by decide, by decide⟩, ?_, 0, ?_, rfl, ?_⟩, fun _ _ => rfl⟩, ⟨fun v hv => ⟨fun p hp => ?_, ?_, fun z => ?_, fun u hu => ?_, fun w hw => ?_⟩, ⟨fun v hv => ?_, fun v hv => ?_, fun v hv => ?_, ?_, ?_, ?_, ?_, ?_, ?_⟩⟩, Mf_Rm 14 (by rw [(Mf_57 (j := 0) (by decide)).1]; exact ln_f (by decide) (by decide)), ⟨MA_lg.1.1, MA_lg.1.2⟩, fI13, fun v _ => rfl⟩
  · have := congrArg List.length hz
    simp at this
  · show mI Mf 18 l = 0
    rw [Mf_o (by decide)]; exact of_decide_eq_true (all_r m1 hl)
  · show bt (mI Mf 19 f) g = _
    rw [Mf_o (by decide), of_decide_eq_true (all_r m2 hf), b_0]
    simp
  · show mI Mf 20 k = _
    rw [Mf_o (by decide), of_decide_eq_true (all_r m3 hk)]
    exact (Sf_0 (by unfold vk; omega) (by decide) (by decide) (by decide) (by decide)).symm
  · show mI Mf 15 9 = -1
    rw [Mf_o (by decide)]; exact z9
  · show mI Mf 15 8 = 0
    rw [Mf_o (by decide)]; exact z8
  · show mI Mf 15 11 = 0
    rw [Mf_o (by decide)]; exact z11
  · show mI Mf 15 10 = 0
    rw [Mf_o (by decide)]; exact z10
  · have e : flr (fun l => ((fun _ => []) l : List (Nat × Ltr)).map Prod.snd) 0 256 = fl Sf := by
      unfold flr fl
      rw [List.range_eq_range']
      rfl
    rw [e, Sf_fl]
    rfl
  · have lim : ∀ p, p ∈ ft → p.1 < 16 ∧ p.1 ≠ 7 ∧ (p.1 = 6 ↔ p.2 = 8) ∧ (p.2 = 21 ∨ (p.2 ≠ 17 ∧ p.2 ≠ 19 ∧ p.2 ≠ 20 ∧ (p.2 < 11 ∨ (12 ≤ p.2 ∧ p.2 < 15) ∨ p.2 = 18))) := by decide
    obtain ⟨l1, l2, l3, l4⟩ := lim p hp
    rw [pl v hv _ l1]
    by_cases c : p.2 = 8
    · rw [if_pos (Or.inl (l3.mpr c)), c, Sf_8 hv]
    · rw [if_neg (fun z => by rcases z with z | z
                              · exact c (l3.mp z)
                              · exact l2 z)]
      rcases l4 with z | ⟨z1, z2, z3, z4⟩
      · rw [z]; rfl
      · exact (Sf_0 (by unfold vk; omega) c z1 z2 z3).symm
  · rw [pl v hv 7 (by decide), if_pos (Or.inr rfl), Sf_8 hv, if_pos rfl]
  · rw [v0 0 v hv (by decide)] at z
    exact absurd z (by decide)
  · rw [pl v hv 9 (by decide), if_neg (by decide), b_0]
    show false = decide (u ∈ (([] : List Wtr)).map Prod.fst)
    simp
  · have hw' : w ∈ (([] : List Wtr)) := hw
    simp at hw'
  · rw [hl 7 (by decide) (by decide), b_0]
    by_cases c : v < 16
    · rw [v0 0 v c (by decide)]; simp
    · simp [c]
  · rw [hl 8 (by decide) (by decide), b_0]
    by_cases c : v < 16
    · rw [v0 0 v c (by decide)]; simp
    · simp [c]
  · rw [hl 9 (by decide) (by decide), b_0]
    by_cases c : v < 16
    · rw [v0 7 v c (by decide)]; simp
    · simp [c]
  · rw [hl 10 (by decide) (by decide), v15 1 (by decide)]
  · rw [hl 11 (by decide) (by decide), v15 0 (by decide)]
  · rw [hl 12 (by decide) (by decide), v15 2 (by decide)]
  · rw [hl 13 (by decide) (by decide), v15 5 (by decide)]
  · rw [hl 14 (by decide) (by decide), v15 3 (by decide)]
  · rw [hl 15 (by decide) (by decide), v15 4 (by decide)]
