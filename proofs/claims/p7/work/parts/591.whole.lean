/-! ===== all calls of the law ===== -/
theorem lw_end {L k : Nat} (hL : L ≤ 2048) (hk : k ≤ 2048) : (L < k + 4 → ((Int32.ofNat L) - (4 : Int32)) < nI k) ∧ (k + 4 ≤ L → ¬ ((Int32.ofNat L) - (4 : Int32)) < nI k) := by
  by_cases c : L < 4
  · have h1 : ∀ L, L < 4 → ((Int32.ofNat L) - (4 : Int32)) < 0 := by decide +kernel
    have h2 : (0 : Int32) ≤ nI k := nI_le (a := 0) (Nat.zero_le _) (by omega)
    exact ⟨fun _ => Int32.lt_of_lt_of_le (h1 L c) h2, fun z => absurd z (by omega)⟩
  · have e : (Int32.ofNat L) - (4 : Int32) = nI (L - 4) := nI_sb (a := L) (b := 4) (by omega)
    rw [e]
    exact ⟨fun z => nI_ltx (by omega) (by omega), fun z => nI_nl (by omega) (by omega)⟩
theorem law_loop {L : Nat} (hL : L ≤ 2048) (xs : Nat → Int32) : ∀ (d i n : Nat) (M : Mem), i + d = 512 → WI i M → 100000 + d + 1 ≤ n → ∃ M', f_L2_law_18 L xs n 0 120 (nI (4 * i)) M = some ((1 : Int32), M') := by
  intro d
  induction d with
  | zero =>
    intro i n M hi h hn
    obtain ⟨n, rfl⟩ : ∃ m, n = m + 1 := ⟨n - 1, by omega⟩
    exact ⟨M, by rw [f_L2_law_18, if_pos ((lw_end hL (by omega)).1 (by omega))]⟩
  | succ d ih =>
    intro i n M hi h hn
    obtain ⟨n, rfl⟩ : ∃ m, n = m + 1 := ⟨n - 1, by omega⟩
    by_cases c : L < 4 * i + 4
    · exact ⟨M, by rw [f_L2_law_18, if_pos ((lw_end hL (by omega)).1 c)]⟩
    · have e1 : nI (4 * i) + (1 : Int32) = nI (4 * i + 1) := nI_add (4 * i) 1
      have e2 : nI (4 * i) + (2 : Int32) = nI (4 * i + 2) := nI_add (4 * i) 2
      have e3 : nI (4 * i) + (3 : Int32) = nI (4 * i + 3) := nI_add (4 * i) 3
      have e4 : nI (4 * i) + (4 : Int32) = nI (4 * (i + 1)) := nI_add (4 * i) 4
      obtain ⟨M1, w1, q⟩ := ls_all (L := L) (xs := xs) (v3 := nI (4 * i)) h (by omega) (n := n) (by omega) ((lw_end hL (by omega)).2 (by omega)) (inB_n (by omega) (by omega)) (by rw [e1]; exact inB_n (by omega) (by omega)) (by rw [e2]; exact inB_n (by omega) (by omega)) (by rw [e3]; exact inB_n (by omega) (by omega))
      obtain ⟨M2, z⟩ := ih (i + 1) n M1 (by omega) w1 (by omega)
      exact ⟨M2, by rw [q, e4]; exact z⟩
set_option maxRecDepth 100000 in
theorem law_pre2 (L : Nat) (xs : Nat → Int32) : f_L2_law L xs FU memE = f_L2_law_18 L xs FU 0 120 0 Mf := by
  rw [f_L2_law, chk_t (by decide), bnd_e, bnd_e]
  rw [show f_X9_init FU (mN memE) (nw memE 9 0 6) = some Mx from Mx_ok, obd_s, chk_t (by rw [Mx_k.2.1, Mx_k.2.2]; decide), bnd_e, bnd_e]
  rw [show mN Mx = 120 from Mx_k.2.1, init_ok, obd_s]
  rfl
theorem law_t {L : Nat} (hL : L ≤ 2048) (xs : Nat → Int32) : ∃ M, f_L2_law L xs FU memE = some ((1 : Int32), M) := by
  obtain ⟨M, h⟩ := law_loop hL xs 512 0 FU Mf rfl Mf_WI (by unfold FU; omega)
  exact ⟨M, by rw [law_pre2]; exact h⟩
set_option maxHeartbeats 4000000 in
theorem start_of2 {p : Program} {e : Env} {s : State} {m : MethodId} {below : List Frame} {meth : Method} {c : Code} (l : Launch) {b L n : Nat} {xs : Nat → Int32} {rv : Mem} (C0 : lw_At p s m meth c b L xs) (hf : f_L2_law L xs n memE = some ((1 : Int32), rv)) : W p l e room_1 s m #[Value.ref b] below meth c s.heap [] 0 0 (lw_Z below #[Value.ref b] s) (entryFrame m ([Value.ref b] : List Value).toArray 4) := by
  obtain ⟨hx, hb, hr, hml, hown, hts, hX, hbl, hlocks, hgv⟩ := id C0
  refine W.base ?_
  have hd0 := Drawn.sameBut.refl s.drawn lw_cs
  obtain ⟨G, hB, hK, hSt⟩ := start_K hts hgv
  have hl := lv_entry ([.ref b]) (n := 4) (Nat.le_of_ble_eq_true rfl)
  rw [lg_entry_eq]
  generalize (lg_sl ([.ref b]) ++ List.replicate (4 - (lg_sl ([.ref b])).length) Slot.unset).toArray = ls at hl ⊢
  have hl : lv_has ls 4 [(0, .ref b)] := hl
  have X : Cx p room_1 (s.setDrawn s.drawn) m #[Value.ref b] c G memE cL_law yL_law.cls 4 11 257 :=
    ⟨hx, hb, hown, fun w hw => hts w (List.mem_filter.mp hw).1, hK, ⟨rfl, rfl, Nat.le_of_ble_eq_true rfl, Nat.le_of_ble_eq_true rfl⟩, hSt, hml, hB.symm⟩
  have hL : LawB s s.drawn (s.setDrawn s.drawn) b L xs G memE := ⟨hX, hbl, by show ¬ gB G ≤ b; rw [hB]; exact Nat.not_le.mpr hbl, hd0, rfl, rfl, rfl⟩
  exact law_walk2 X hr hlocks hL hf ⟨Nat.le_refl _, Nat.le_refl _, Nat.zero_le _, Nat.zero_le _⟩ s.heap [] ls hl (fun k q h => by simp [ren, memE, mN] at h) va_S.rf
