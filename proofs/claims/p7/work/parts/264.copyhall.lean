/-! ===== the class: one hall for another ===== -/
def TR (M : Mem) (k X Y : Nat) (pb pt : List Row4) : Prop := CS M k ∧ (∃ e5 e6 e7 len, DS M k e5 e6 e7 len ∧ 64 ≤ len ∧ len ≤ 18000) ∧ Rm M k X Y ∧ LG M (k + 11) 30 pb ∧ LG M (k + 13) 40 pt
theorem HV.toTR {M : Mem} {h X Y N : Nat} {t : Int32} {Q : Nat → Int32} {S : St} {pb pt : List Row4} (p : HV M h X Y t N Q S pb pt) : TR M h X Y (pb ++ xE S) (pt ++ xT S) := by
  obtain ⟨q, ⟨d5, d6, d7, len, K, fr, us, ow, w, _⟩, _, rm, ⟨lb, lt⟩, _⟩ := p
  exact ⟨q, ⟨d5, d6, d7, len, w.1, w.2.2.2.2.2.2.2.2.2.1.2.2.2.2, w.2.2.2.2.2.2.2.2.2.1.2.2.2.1⟩, rm, lb, lt⟩
def clr (S : St) : St := (S.1, S.2.1, S.2.2.1, [], [])
theorem clr_R (S : St) : xR (clr S) = xR S := rfl
theorem clr_W (S : St) : xW (clr S) = xW S := rfl
theorem clr_L (S : St) : xL (clr S) = xL S := rfl
theorem far4 {h k e i o : Nat} (he : e = k + i ∨ 131 ≤ e) (hi : i ≤ 9) (hk : h + 49 ≤ k ∨ k + 49 ≤ h) (hh : h + 49 ≤ 131) (h1 : h ≤ o) (h2 : o < h + 49) : o ≠ e := by omega
theorem far5 {k e i o : Nat} (he : e = k + i ∨ 131 ≤ e) (hi : i ≤ 9) (h1 : k + 10 ≤ o) (h2 : o < 131) : o ≠ e := by omega
theorem far6 {k e i : Nat} (he : e = k + i ∨ 131 ≤ e) (hi : 7 ≤ i ∧ i ≤ 9) (hk : k + 49 ≤ 131) : ¬ (e = k ∨ e = k + 15 ∨ (k + 17 + 2 * 0 ≤ e ∧ e < k + 49)) := by omega
theorem far7 {k e i : Nat} (he : e = k + i ∨ 131 ≤ e) (hk : 14 ≤ k) : 1 ≠ e := by omega
theorem far8 {h k o : Nat} (hk : h + 49 ≤ k ∨ k + 49 ≤ h) (h1 : h ≤ o) (h2 : o < h + 49) : ¬ (k ≤ o ∧ o < k + 49) := by omega
set_option maxHeartbeats 1000000 in
theorem HV.copyL {M : Mem} {h k X' Y' N n : Nat} {t : Int32} {Q : Nat → Int32} {S : St} {pb' pt' : List Row4} (q : CS M h) (p : PV M h t S) (hp : HP M h S) (hN : mI M 1 3 = nI N) (hQ : ∀ v, v < N → mI M (h + 15) v = Q v) (r : TR M k X' Y' pb' pt') (hk : h + 49 ≤ k ∨ k + 49 ≤ h) (h16 : N ≤ 16) (hz : ∃ u, u ≤ mLn M (mR M (k + 1) 5) ∧ mI M (h + 1) 8 = nI u) (hD : ∀ i j, 5 ≤ i → i ≤ 7 → 5 ≤ j → j ≤ 7 → mR M (k + 1) i ≠ mR M (h + 1) j) (hb : ∀ v, v < 16 → xR S 10 v = 0 ∨ xR S 10 v = 1) (hW : ∀ v, v < 16 → ∀ w, w ∈ xW S v → w.1 < 16) (hn : 17 ≤ n) : ∃ M', f_X2_copyFrom n k h M = some M' ∧ HV M' k X' Y' t N Q (clr S) pb' pt' ∧ FrH M M' k := by
  obtain ⟨d5, d6, d7, len, K, fr, us, ow, w, hK⟩ := p
  obtain ⟨q', ⟨e5, e6, e7, len', w', h64, h18⟩, rm', lb', lt'⟩ := r
  have hq := q.2.2.2.2
  have hq' := q'.2.2.2.2
  obtain ⟨u, hu64, hu⟩ := hz
  have u8 := w.2.2.2.2.2.2.2.2.2.1
  have us64 : us ≤ len' := by
    rw [w'.1.1, w'.2.2.1.1] at hu64
    have : us = u := (nI_eq (by omega) (by omega)).mp (u8.1.symm.trans hu)
    omega
  have dd : (e5 ≠ d5 ∧ e5 ≠ d6 ∧ e5 ≠ d7) ∧ (e6 ≠ d5 ∧ e6 ≠ d6 ∧ e6 ≠ d7) ∧ (e7 ≠ d5 ∧ e7 ≠ d6 ∧ e7 ≠ d7) := by
    obtain ⟨a5, a6, a7⟩ := w.1.1
    obtain ⟨b5, b6, b7⟩ := w'.1
    rw [← a5, ← a6, ← a7, ← b5, ← b6, ← b7]
    exact ⟨⟨hD 5 5 (by decide) (by decide) (by decide) (by decide), hD 5 6 (by decide) (by decide) (by decide) (by decide), hD 5 7 (by decide) (by decide) (by decide) (by decide)⟩, ⟨hD 6 5 (by decide) (by decide) (by decide) (by decide), hD 6 6 (by decide) (by decide) (by decide) (by decide), hD 6 7 (by decide) (by decide) (by decide) (by decide)⟩, ⟨hD 7 5 (by decide) (by decide) (by decide) (by decide), hD 7 6 (by decide) (by decide) (by decide) (by decide), hD 7 7 (by decide) (by decide) (by decide) (by decide)⟩⟩
  obtain ⟨M1, E1, w1, s1, L1, o1⟩ := PW.copy q q' hk w w' (by omega) h64 h18 dd
  obtain ⟨⟨wa5, wa6, wa7⟩, _, _, y1, y2, y3, y4, y5, y6⟩ := id w'
  obtain ⟨_, _, _, x1, x2, x3, _⟩ := id w.1
  have F5 : ∀ o, h ≤ o → o < h + 49 → o ≠ e5 := fun o a b => far4 y1 (by decide) hk hq.1 a b
  have F6 : ∀ o, h ≤ o → o < h + 49 → o ≠ e6 := fun o a b => far4 y2 (by decide) hk hq.1 a b
  have F7 : ∀ o, h ≤ o → o < h + 49 → o ≠ e7 := fun o a b => far4 y3 (by decide) hk hq.1 a b
  have G5 : ∀ o, k + 10 ≤ o → o < 131 → o ≠ e5 := fun o a b => far5 y1 (by decide) a b
  have G6 : ∀ o, k + 10 ≤ o → o < 131 → o ≠ e6 := fun o a b => far5 y2 (by decide) a b
  have G7 : ∀ o, k + 10 ≤ o → o < 131 → o ≠ e7 := fun o a b => far5 y3 (by decide) a b
  have H5 := far6 y1 (by decide) hq'.1
  have H6 := far6 y2 (by decide) hq'.1
  have H7 := far6 y3 (by decide) hq'.1
  have I5 := far7 y1 hq'.2.1
  have I6 := far7 y2 hq'.2.1
  have I7 := far7 y3 hq'.2.1
  have J : ∀ o, h ≤ o → o < h + 49 → ¬ (k ≤ o ∧ o < k + 49) := fun o a b => far8 hk a b
  have Jk : ∀ o, h ≤ o → o < h + 49 → ¬ (k + 1 ≤ o ∧ o ≤ k + 6) := fun o a b z => J o a b ⟨by omega, by omega⟩
  have us9 := u8.2.2.1
  clear y1 y2 y3 x1 x2 x3 dd hD
  have src1 : ∀ o, h ≤ o → o < h + 49 → ∀ j, mI M1 o j = mI M o j := fun o a b j => o1 o (Jk o a b) (F5 o a b) (F6 o a b) (F7 o a b) j
  obtain ⟨M2, E2, s2, f1, f2, f3, f4, f5⟩ := hcp_l hk 16 0 n M1 rfl hn (q.e s1) (q'.e s1) (fun v hv => by
    rw [src1 _ (by omega) (by omega), (hp.1 v hv).1 (8, 10) (by decide)]; exact hb v hv)
  clear hk
  have S2 : M2.1 = M.1 := s2.trans s1
  have o2 : ∀ o, ¬ (k ≤ o ∧ o < k + 49) → o ≠ e5 → o ≠ e6 → o ≠ e7 → ∀ b, mI M2 o b = mI M o b := fun o n n5 n6 n7 b => by
    rw [f3 o (by omega), o1 o (by omega) n5 n6 n7]
  have lo : ∀ o, (k + 10 ≤ o ∧ o < k + 15) → ∀ b, mI M2 o b = mI M o b := fun o n b => by
    rw [f3 o (by omega), o1 o (by omega) (G5 o n.1 (by omega)) (G6 o n.1 (by omega)) (G7 o n.1 (by omega))]
  refine ⟨M2, ?_, ⟨q'.e S2, ⟨e5, e6, e7, len', K, fr, us, ow, ?_, hK⟩, ⟨fun v hv => ?_, ?_⟩, ?_, ⟨?_, ?_⟩, ?_, fun v hv => ?_⟩, ?_⟩
  · rw [f_X2_copyFrom, cs_f q', cs_h1 q', bnd_e, cs_p q', cs_f q, cs_h1 q, bnd_e, cs_p q, E1, obd_s]
    exact E2
  · exact w1.cg (w'.e S2) (Nat.le_refl _) h18 (fun i a b c => f3 _ (by omega) _) (fun b _ => f3 _ H5 _) (fun b _ => f3 _ H6 _) (fun b _ => f3 _ H7 _)
  · obtain ⟨a1, a2, a3, a4, a5⟩ := hp.1 v hv
    obtain ⟨g1, g2, g3⟩ := f1 v (by omega) hv
    have gg : ∀ j, j < 16 → j ≠ 10 → mI M2 (k + 17 + 2 * v) j = mI M (h + 17 + 2 * v) j := fun j hj n => by
      rw [g1 j hj n, src1 _ (by omega) (by omega)]
    refine ⟨fun p hp => ?_, ?_, fun z => ?_, fun u hu => ?_, fun w hw => ?_⟩
    · have lim : ∀ p, p ∈ ft → p.1 < 16 ∧ p.1 ≠ 10 := by decide
      rw [gg _ (lim p hp).1 (lim p hp).2]; exact a1 p hp
    · rw [gg _ (by decide) (by decide)]; exact a2
    · rw [gg _ (by decide) (by decide)]; exact a3 z
    · rw [gg _ (by decide) (by decide)]; exact a4 u hu
    · rw [g2 _ (hW v hv w hw), src1 _ (by omega) (by omega)]; exact a5 w hw
  · obtain ⟨g7, g8, g9, g10, g11, g12, g13, g14, g15⟩ := hp.2
    have gg : ∀ j, 7 ≤ j → j ≤ 15 → mI M2 k j = mI M h j := fun j a b => by
      rw [f2 j a b, src1 _ (by omega) (by omega)]
    refine ⟨fun v hv => ?_, fun v hv => ?_, fun v hv => ?_, ?_, ?_, ?_, ?_, ?_, ?_⟩
    · rw [gg _ (by decide) (by decide)]; exact g7 v hv
    · rw [gg _ (by decide) (by decide)]; exact g8 v hv
    · rw [gg _ (by decide) (by decide)]; exact g9 v hv
    · rw [gg _ (by decide) (by decide)]; exact g10
    · rw [gg _ (by decide) (by decide)]; exact g11
    · rw [gg _ (by decide) (by decide)]; exact g12
    · rw [gg _ (by decide) (by decide)]; exact g13
    · rw [gg _ (by decide) (by decide)]; exact g14
    · rw [gg _ (by decide) (by decide)]; exact g15
  · unfold Rm mN mU mLn mR at rm' ⊢
    rw [S2]; exact rm'
  · show LG M2 (k + 11) 30 (pb' ++ [])
    rw [List.append_nil]
    exact lb'.cg (lo _ (by omega)) (lo _ (by omega))
  · show LG M2 (k + 13) 40 (pt' ++ [])
    rw [List.append_nil]
    exact lt'.cg (lo _ (by omega)) (lo _ (by omega))
  · rw [o2 1 (by omega) I5 I6 I7]; exact hN
  · rw [(f1 v (by omega) (by omega)).2.2, src1 _ (by omega) (by omega)]; exact hQ v hv
  · refine ⟨by unfold mN; rw [S2]; exact Nat.le_refl _, fun i _ => by rw [S2], fun a b _ _ => by unfold mR; rw [S2], fun o _ n n5 n6 n7 b => o2 o n (by rw [← wa5]; exact n5) (by rw [← wa6]; exact n6) (by rw [← wa7]; exact n7) b, fun o _ b => by rw [f5, L1], fun j _ _ => Or.inl (by unfold mR; rw [S2])⟩
set_option maxHeartbeats 1000000 in
theorem HV.copy {M : Mem} {h k X Y X' Y' N n : Nat} {t : Int32} {Q : Nat → Int32} {S : St} {pb pt pb' pt' : List Row4} (p : HV M h X Y t N Q S pb pt) (r : TR M k X' Y' pb' pt') (hk : h + 49 ≤ k ∨ k + 49 ≤ h) (h16 : N ≤ 16) (hD : ∀ i j, 5 ≤ i → i ≤ 7 → 5 ≤ j → j ≤ 7 → mR M (k + 1) i ≠ mR M (h + 1) j) (hb : ∀ v, v < 16 → xR S 10 v = 0 ∨ xR S 10 v = 1) (hW : ∀ v, v < 16 → ∀ w, w ∈ xW S v → w.1 < 16) (hn : 17 ≤ n) : ∃ M', f_X2_copyFrom n k h M = some M' ∧ HV M' k X' Y' t N Q (clr S) pb' pt' ∧ FrH M M' k := by
  obtain ⟨q, pv, hp, rm, _, hN, hQ⟩ := p
  obtain ⟨d5, d6, d7, len, K, fr, us, ow, w, hK⟩ := id pv
  obtain ⟨q', ⟨e5, e6, e7, len', w', h64, h18⟩, rm', lb', lt'⟩ := id r
  have hq := q.2.2.2.2
  have hq' := q'.2.2.2.2
  have u8 := w.2.2.2.2.2.2.2.2.2.1
  by_cases c : us ≤ len'
  · exact HV.copyL q pv hp hN hQ r hk h16 ⟨us, by rw [w'.1.1, w'.2.2.1.1]; exact c, u8.1⟩ hD hb hW hn
  · have r1 := rm'.1
    have r2 := rm'.2.1
    have r5 := rm'.2.2.2.2
    have s5 := rm.2.2.2.2
    have x1 := rm'.2.2.1
    have x2 := rm'.2.2.2.1
    rw [w'.1.1, w'.2.2.1.1] at r1 r2 r5
    rw [w.1.1.1, w.1.2.2.1.1] at s5
    obtain ⟨u81, u82, u83, u84, u85⟩ := u8
    have E := f_cpg q q' hk w.1 w' u81 (by omega) u82 u84 (by unfold CAP; omega) (by unfold CAPU; omega)
    have Q0 : CS (al3 M k len) h := al3_CS q (by omega)
    have Q1 : CS (al3 M k len) k := al3_CS q' (Or.inl rfl)
    have W1 := al3_DS (M := M) (k := k) (len := len) hq.2.2 hq'.1
    have lo : ∀ o, o < 131 → ∀ b, mI (al3 M k len) o b = mI M o b := fun o ho b => al3_I _ _ _ _ (by omega)
    have F0 := al3_FrH M k len (by omega)
    have B := w.1.2.1
    have rr : ∀ b, mR (al3 M k len) (h + 1) b = mR M (h + 1) b := fun b => F0.2.2.1 _ _ (by omega) (by omega)
    have W0 : DS (al3 M k len) h d5 d6 d7 len := by
      obtain ⟨⟨a5, a6, a7⟩, ⟨b5, b6, b7⟩, ⟨l5, l6, l7⟩, y⟩ := w.1
      refine ⟨⟨by rw [rr]; exact a5, by rw [rr]; exact a6, by rw [rr]; exact a7⟩, ⟨al3_io b5, al3_io b6, al3_io b7⟩, ⟨?_, ?_, ?_⟩, y⟩
      · rw [mLn, al3_C _ _ _ b5.1]; exact l5
      · rw [mLn, al3_C _ _ _ b6.1]; exact l6
      · rw [mLn, al3_C _ _ _ b7.1]; exact l7
    have P0 : PV (al3 M k len) h t S := ⟨d5, d6, d7, len, K, fr, us, ow, w.cg W0 (Nat.le_refl _) u84 (fun i _ _ b => lo _ (by omega) _) (fun b _ => al3_I _ _ _ _ B.1.1) (fun b _ => al3_I _ _ _ _ B.2.1.1) (fun b _ => al3_I _ _ _ _ B.2.2.1), hK⟩
    have H0 : HP (al3 M k len) h S := hp.cg (fun o ho b => lo o (by omega) b) (fun _ _ _ => rfl) rfl
    have len64 : 2 * len' ≤ len := pw_dbl r5 s5 (by omega)
    have R0 : TR (al3 M k len) k X' Y' pb' pt' := by
      refine ⟨Q1, ⟨_, _, _, len, W1, u85, u84⟩, ⟨?_, ?_, x1, x2, ?_⟩, lb'.cg (fun b => lo _ (by omega) b) (fun b => lo _ (by omega) b), lt'.cg (fun b => lo _ (by omega) b) (fun b => lo _ (by omega) b)⟩
      · rw [W1.1.1, W1.2.2.1.1, al3_N]; omega
      · rw [W1.1.1, W1.2.2.1.1, al3_U]; omega
      · rw [W1.1.1, W1.2.2.1.1]; exact s5
    have D0 : ∀ i j, 5 ≤ i → i ≤ 7 → 5 ≤ j → j ≤ 7 → mR (al3 M k len) (k + 1) i ≠ mR (al3 M k len) (h + 1) j := fun i j a b c' d => by
      rw [rr]
      have lt : mR M (h + 1) j < mN M := by
        rcases (show j = 5 ∨ j = 6 ∨ j = 7 by omega) with rfl | rfl | rfl
        · rw [w.1.1.1]; exact B.1.1
        · rw [w.1.1.2.1]; exact B.2.1.1
        · rw [w.1.1.2.2]; exact B.2.2.1
      have : mN M ≤ mR (al3 M k len) (k + 1) i := by
        rcases (show i = 5 ∨ i = 6 ∨ i = 7 by omega) with rfl | rfl | rfl
        · rw [W1.1.1]; exact Nat.le_refl _
        · rw [W1.1.2.1]; omega
        · rw [W1.1.2.2]; omega
      omega
    obtain ⟨M', e, p', f'⟩ := HV.copyL (n := n) (Q := Q) Q0 P0 H0 (by rw [lo 1 (by decide)]; exact hN) (fun v hv => by rw [lo _ (by omega)]; exact hQ v hv) R0 hk h16 ⟨us, by rw [W1.1.1, W1.2.2.1.1]; exact u82, by rw [lo _ (by omega)]; exact u81⟩ D0 hb hW hn
    refine ⟨M', ?_, p', F0.tr f'⟩
    rw [← e, f_X2_copyFrom, f_X2_copyFrom, cs_f q', cs_h1 q', bnd_e, cs_p q', cs_f q, cs_h1 q, bnd_e, cs_p q, E, cs_f Q1, cs_h1 Q1, bnd_e, cs_p Q1, cs_f Q0, cs_h1 Q0, bnd_e, cs_p Q0]
