/-! ===== questions, the class: the calls ===== -/
theorem fl_ge {S : St} {l : Nat} (hl : l < 256) : (xL S l).length ≤ (fl S).length := by
  rw [fl_split S hl, List.length_append, List.length_append, List.length_map]; omega
section
variable {M : Mem} {N A i : Nat} {Q : Nat → Int32} {S : St}
theorem WJ.c8 (w : WJ M N A i Q S) (a b : Int32) : ∃ r, f_X9_quorum 0 a b M = some r := by
  obtain ⟨X, Y, L, p, sb, xg, xr⟩ := id w.1
  have h16 := w.2.2.2.1.n16
  have q := p.1
  rcases out_in (N := N) (by omega) a with ha | ⟨k, hk, rfl⟩
  · exact ⟨-1, by rw [f_X9_quorum, chk_t xg.1, xg.2.1, bnd_e, sb.f, ndc0 sb ha, obd_s, if_pos rfl]⟩
  · rw [f_X9_quorum, chk_t xg.1, xg.2.1, bnd_e, sb.f, ndc sb hk h16, obd_s, if_neg ne10]
    split
    · exact ⟨_, by rw [bnd_e, sb.f, sb.r2, bnd_e, sb.a2, sb.i2 (by omega)]⟩
    · split
      · exact ⟨_, by rw [xg.2.2.2.1, bnd_e, cs_f q, cs_h5 q, bnd_e, cs_a15 q, cs_i15 q (by omega)]⟩
      · split
        · exact ⟨_, w.pl hk (fun o => some (mI M o 2))⟩
        · exact ⟨_, rfl⟩
theorem WJ.c29 (w : WJ M N A i Q S) (a b c : Int32) {n : Nat} (hn : 100 ≤ n) : ∃ r, f_X9_waiting n 0 a b c M = some r := by
  obtain ⟨X, Y, L, p, sb, xg, xr⟩ := id w.1
  have h16 := w.2.2.2.1.n16
  have q := p.1
  rcases out_in (N := N) (by omega) a with ha | ⟨k, hk, rfl⟩
  · exact ⟨-1, by rw [f_X9_waiting, chk_t xg.1, xg.2.1, bnd_e, sb.f, ndc0 sb ha, obd_s, if_pos rfl]⟩
  · have k6 : k < 16 := by omega
    rw [f_X9_waiting, chk_t xg.1, xg.2.1, bnd_e, sb.f, ndc sb hk h16, obd_s, if_neg ne10]
    split
    · exact ⟨_, rfl⟩
    · split
      · rcases wa_l q k6 b 16 0 n rfl (by omega) with e | ⟨u, hu, e⟩
        · exact ⟨-1, by rw [xg.2.2.2.1, bnd_e, cs_f q, cs_h2 q, bnd_e, cs_a10 q, cs_i10 q k6, cs_rpc q k6, bnd_e, cs_po q k6, f_X4_waiterAt, show f_X4_waiterAt_2 M n (14 + 17 + 2 * k) b 0 = some (-1) from e, obd_s, if_pos rfl]⟩
        · have m1 : ¬ nI u = (-1 : Int32) := fun z => m1_ne hu z.symm
          have e' : ∀ y, (if c = 0 then some (nI u) else some (mI M (14 + 18 + 2 * k) (nI u).toNatClampNeg)) = y → (bnd (mR M 0 2) fun o13 => chk (isO M 2 o13) <| bnd (mR M o13 2) fun o16 => chk (isO M 102 o16) <| chk (inB (nI k) (mLn M o16)) <| bnd (mR M o16 (nI k).toNatClampNeg) fun o20 => chk (isO M 4 o20) <| obd (f_X4_waiterAt n o20 b M) fun r24 => if r24 = (-1 : Int32) then some (-1 : Int32) else if c = 0 then some r24 else bnd (mR M o20 10) fun o29 => chk (isO M 100 o29) <| chk (inB r24 (mLn M o29)) <| some (mI M o29 (r24).toNatClampNeg)) = y := by
            intro y hy
            rw [xg.2.2.2.1, bnd_e, cs_f q, cs_h2 q, bnd_e, cs_a10 q, cs_i10 q k6, cs_rpc q k6, bnd_e, cs_po q k6, f_X4_waiterAt, show f_X4_waiterAt_2 M n (14 + 17 + 2 * k) b 0 = some (nI u) from e, obd_s, if_neg m1, cs_pr q k6, bnd_e, cs_pa q k6, cs_pi q k6 hu]
            exact hy
          by_cases c0 : c = 0
          · exact ⟨_, e' _ (if_pos c0)⟩
          · exact ⟨_, e' _ (if_neg c0)⟩
      · exact ⟨_, rfl⟩
theorem WJ.c30 (w : WJ M N A i Q S) (hi : i ≤ 511) (a b c : Int32) {n : Nat} (hn : 10000 ≤ n) : ∃ r, f_X9_way n 0 a b c M = some r := by
  obtain ⟨X, Y, L, p, sb, xg, xr⟩ := id w.1
  have h16 := w.2.2.2.1.n16
  have fl0 := w.2.2.2.1.tfl hi
  have q := p.1
  rcases out_in (N := N) (by omega) a with ha | ⟨f, hf, rfl⟩
  · exact ⟨-1, by rw [f_X9_way, chk_t xg.1, xg.2.1, bnd_e, sb.f, ndc0 sb ha, obd_s, if_pos rfl]⟩
  · rcases out_in (N := N) (by omega) b with hb | ⟨g, hg, rfl⟩
    · exact ⟨-1, by rw [f_X9_way, chk_t xg.1, xg.2.1, bnd_e, sb.f, ndc sb hf h16, obd_s, if_neg ne10, bnd_e, sb.f, ndc0 sb hb, obd_s, if_pos rfl]⟩
    · have l6 : 16 * f + g < 256 := by omega
      rw [f_X9_way, chk_t xg.1, xg.2.1, bnd_e, sb.f, ndc sb hf h16, obd_s, if_neg ne10, bnd_e, sb.f, ndc sb hg h16, obd_s, if_neg ne10]
      split
      · exact ⟨_, by rw [xg.2.2.2.1, bnd_e, cs_f q, cs_h1 q, bnd_e, cs_p q, f_X5_countOn, cs_p q, cs_r4 q, bnd_e, cs_a4 q, c16', cs_i4 q l6, obd_s]⟩
      · obtain ⟨d5, d6, d7, len, K, fr, us, ow, pw, hK⟩ := p.2.1
        obtain ⟨ds, w1, w2, w3, w4, w5, w6, w7, w8, w9, w10⟩ := pw
        have kl : (K (16 * f + g)).length ≤ 8176 := by
          have : (K (16 * f + g)).length = (xL S (16 * f + g)).length := by rw [← hK _ l6, List.length_map]
          rw [this]
          exact Nat.le_trans (fl_ge (l := 16 * f + g) l6) fl0
        have key : ∃ r, f_X5_kindAt n (14 + 1) (nI f) (nI g) c M = some r := by
          rw [f_X5_kindAt, c16', bnd_e]
          split
          · exact ⟨_, rfl⟩
          · rename_i cn
            obtain ⟨s, hs, rfl⟩ := nn_e cn
            rw [cs_p q, cs_r4 q, bnd_e, cs_a4 q, cs_i4 q l6, mI_c (by omega), w5 _ l6]
            by_cases c2 : s < (K (16 * f + g)).length
            · rw [if_pos (nI_lt c2 (by omega)), cs_r2 q, bnd_e, cs_a2 q, cs_i2 q l6, bnd_e, mI_c (by omega)]
              have := ka_l q ds w9.2.1 w9.2.2.2.1 s 0 n ((K (16 * f + g)).map Prod.fst) (mI M (14 + 2) (16 * f + g)) (w3 _ l6) (fun c hc => by
                obtain ⟨z, hz, e⟩ := List.mem_map.mp hc
                rw [← e]; exact (w1 _ l6 z hz).1) (by rw [List.length_map]; exact c2) (by omega) (by omega)
              rw [Nat.zero_add] at this
              exact this
            · rw [if_neg (nI_nlt (by omega) (by omega))]; exact ⟨_, rfl⟩
        obtain ⟨r, e⟩ := key
        exact ⟨r, by rw [xg.2.2.2.1, bnd_e, cs_f q, cs_h1 q, bnd_e, cs_p q, e, obd_s]⟩
theorem WJ.c33 (w : WJ M N A i Q S) (a : Int32) {n : Nat} (hn : 100 ≤ n) : ∃ r, f_X9_sent n 0 a M = some r := by
  obtain ⟨X, Y, L, p, sb, xg, xr⟩ := id w.1
  have q := p.1
  obtain ⟨r, e⟩ := csi_l q 6 0 n 0 rfl (by omega)
  rcases out_in (N := 6) (by decide) a with ha | ⟨k, hk, rfl⟩
  · rw [f_X9_sent]
    split
    · exact ⟨_, rfl⟩
    · split
      · split
        · exact ⟨r, by rw [chk_t xg.1, xg.2.2.2.1, bnd_e, cs_f q, cs_h1 q, bnd_e, cs_p q, f_X5_sentInAll, show f_X5_sentInAll_4 M n (14 + 1) 0 0 = some r from e, obd_s]⟩
        · rename_i c1 c2 c3
          exfalso
          rcases ha with ha | ha
          · exact c1 ha
          · exact c3 (Int32.le_antisymm c2 ha)
      · exact ⟨_, rfl⟩
  · rw [f_X9_sent, if_neg (show ¬ nI k < 0 from nI_nlt (b := 0) (Nat.zero_le _) (by omega)), if_pos (show nI k ≤ (6 : Int32) from nI_le (b := 6) (by omega) (by decide)), if_neg (show ¬ nI k = (6 : Int32) from nI_ne (b := 6) (by omega) (by decide) (by omega))]
    exact ⟨_, by rw [chk_t xg.1, xg.2.2.2.1, bnd_e, cs_f q, cs_h1 q, bnd_e, cs_p q, cs_r6 q, bnd_e, cs_a6 q, cs_i6 q hk]⟩
theorem WJ.c34 (w : WJ M N A i Q S) (a b : Int32) : ∃ r, f_X9_book 0 a b M = some r := by
  obtain ⟨X, Y, L, p, sb, xg, xr⟩ := id w.1
  have q := p.1
  obtain ⟨i1, r1, i2, n2⟩ := cs_e11 q
  obtain ⟨r, e⟩ := te_l (Or.inl rfl) i1 r1 i2 n2 p.2.2.2.2.1.1 a b
  exact ⟨r, by rw [f_X9_book, chk_t xg.1, xg.2.2.2.1, bnd_e, cs_f q, cs_h3 q, bnd_e, chk_t i1, e, obd_s]⟩
theorem WJ.c38 (w : WJ M N A i Q S) (a b : Int32) : ∃ r, f_X9_trace 0 a b M = some r := by
  obtain ⟨X, Y, L, p, sb, xg, xr⟩ := id w.1
  have q := p.1
  obtain ⟨i1, r1, i2, n2⟩ := cs_e13 q
  obtain ⟨r, e⟩ := te_l (Or.inr rfl) i1 r1 i2 n2 p.2.2.2.2.1.2 a b
  exact ⟨r, by rw [f_X9_trace, chk_t xg.1, xg.2.2.2.1, bnd_e, cs_f q, cs_h4 q, bnd_e, chk_t i1, e, obd_s]⟩
theorem WJ.c35 (w : WJ M N A i Q S) (a : Int32) {n : Nat} (hn : 100 ≤ n) : ∃ r, f_X9_waitsFor n 0 a M = some r := by
  obtain ⟨X, Y, L, p, sb, xg, xr⟩ := id w.1
  have h16 := w.2.2.2.1.n16
  have q := p.1
  rcases out_in (N := N) (by omega) a with ha | ⟨k, hk, rfl⟩
  · exact ⟨-1, by rw [f_X9_waitsFor, chk_t xg.1, xg.2.1, bnd_e, sb.f, ndc0 sb ha, obd_s, if_pos rfl]⟩
  · have s8 := (has_st p (k := k) (by omega)).2.1
    generalize (if xR S 0 k = 1 then (1 : Int32) else 0) = z8 at s8
    obtain ⟨r, e⟩ := p.aw h16 hk (n := n) (by omega)
    rw [f_X9_waitsFor, chk_t xg.1, xg.2.1, bnd_e, sb.f, ndc sb hk h16, obd_s, if_neg ne10, xg.2.2.2.1, bnd_e, cs_f q, s8, obd_s]
    split
    · exact ⟨_, rfl⟩
    · exact ⟨r, by rw [bnd_e, cs_f q, e, obd_s]⟩
theorem cr9_l (xg : XG M) {X Y : Nat} (p : HV M 14 X Y 0 N Q S [] []) (h16 : N ≤ 16) (a : Int32) : ∀ (d j n : Nat) (x y : Int32), j + d = N → d + 1 ≤ n → ∃ r, f_X9_crowded_18 M n 0 a x y (nI j) = some r := by
  have q := p.1
  intro d
  induction d with
  | zero =>
    intro j n x y hj hn
    obtain ⟨n, rfl⟩ : ∃ m, n = m + 1 := ⟨n - 1, by omega⟩
    rw [f_X9_crowded_18, chk_t xg.1, xg.2.1, bnd_e, cs_s q, p.2.2.2.2.2.1, if_pos (nI_le (by omega) (by omega))]
    split
    · exact ⟨_, rfl⟩
    · exact ⟨_, rfl⟩
  | succ d ih =>
    intro j n x y hj hn
    obtain ⟨n, rfl⟩ : ∃ m, n = m + 1 := ⟨n - 1, by omega⟩
    have j6 : j < 16 := by omega
    obtain ⟨r, e⟩ := bc_s (mI M (14 + 17 + 2 * j) 9) M
    rw [f_X9_crowded_18, chk_t xg.1, xg.2.1, bnd_e, cs_s q, p.2.2.2.2.2.1, if_neg (nI_ge (by omega) (by omega)), xg.2.2.2.1, bnd_e, cs_f q, cs_h2 q, bnd_e, cs_a10 q, cs_i10 q j6, cs_rpc q j6, bnd_e, cs_po q j6, e, obd_s]
    split
    · rw [bnd_e, nI_1]; exact ih (j + 1) n _ _ (by omega) (by omega)
    · rw [bnd_e, nI_1]; exact ih (j + 1) n _ _ (by omega) (by omega)
theorem WJ.c37 (w : WJ M N A i Q S) (a : Int32) {n : Nat} (hn : 100 ≤ n) : ∃ r, f_X9_crowded n 0 a M = some r := by
  obtain ⟨X, Y, L, p, sb, xg, xr⟩ := id w.1
  have h16 := w.2.2.2.1.n16
  rw [f_X9_crowded]
  split
  · exact ⟨_, rfl⟩
  · split
    · exact cr9_l xg p h16 a N 0 n 0 (-1) (by omega) (by omega)
    · exact ⟨_, rfl⟩
end
