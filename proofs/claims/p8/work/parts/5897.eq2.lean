/-! ===== equal answers: quorum, arbiter, crowded ===== -/
theorem nd_sub {α : Type} [DecidableEq α] : ∀ (l1 l2 : List α), l1.Nodup → (∀ x, x ∈ l1 → x ∈ l2) → l1.length ≤ l2.length := by
  intro l1
  induction l1 with
  | nil => intro l2 _ _; exact Nat.zero_le _
  | cons y t ih =>
    intro l2 hd hs
    have hy := hs y List.mem_cons_self
    have hnt := (List.nodup_cons.mp hd)
    have h1 := ih (l2.erase y) hnt.2 (fun x hx => (List.mem_erase_of_ne (fun (z : x = y) => hnt.1 (by rw [← z]; exact hx))).mpr (hs x (List.mem_cons_of_mem _ hx)))
    have h2 := List.length_erase_of_mem hy
    have h3 := List.length_pos_of_mem hy
    rw [List.length_cons]
    omega
theorem pc_mem {x : Int32} {l : List Nat} (h : ∀ u, u < 32 → bt x u = decide (u ∈ l)) (hd : l.Nodup) (hb : ∀ u, u ∈ l → u < 32) : pc x = l.length := by
  unfold pc
  apply Nat.le_antisymm
  · refine nd_sub _ _ (List.Pairwise.filter _ List.nodup_range) (fun u hu => ?_)
    obtain ⟨h1, h2⟩ := List.mem_filter.mp hu
    rw [h u (List.mem_range.mp h1)] at h2
    exact of_decide_eq_true h2
  · refine nd_sub _ _ hd (fun u hu => ?_)
    exact List.mem_filter.mpr ⟨List.mem_range.mpr (hb u hu), by rw [h u (hb u hu)]; exact decide_eq_true hu⟩
section
variable {M : Mem} {i n : Nat}
theorem wt_pc {N A j : Nat} {Q : Nat → Int32} {S : St} (w : WJ M N A j Q S) {k : Nat} (k6 : k < 16) : f_J6_bitCount_0f7a4 (mI M (14 + 17 + 2 * k) 9) M = some (nI (xW S k).length) := by
  obtain ⟨X, Y, L, p, sb, xg, xr⟩ := id w.1
  have h16 := w.2.2.2.1.n16
  have hb := (p.2.2.1.1 k k6).2.2.2.1
  have hw := (w.2.2.2.1.inv.2.2.2.2.2.1 k k6).1
  have lt : ∀ u, u ∈ (xW S k).map Prod.fst → u < N := fun u hu => by
    obtain ⟨q, hq, rfl⟩ := List.mem_map.mp hu
    exact (hw.2.2 q hq).1
  rw [f_bcx (fun u h1 h2 => by
    rw [hb u h2]
    exact decide_eq_false (fun z => absurd (lt u z) (by omega))) M, pc_mem hb hw.2.1 (fun u hu => by have := lt u hu; omega), List.length_map]
theorem eq8 (h : WI i M) (a b : Int32) (hn : 100000 ≤ n) : ∃ r M2, f_X9_quorum 0 a b M = some r ∧ f_X10_quorum n 120 a b M = some (r, M2) ∧ WI (i + 1) M2 := by
  obtain ⟨N, A, Q, S, w⟩ := h
  obtain ⟨_, r, z7, sw, hQ⟩ := id w
  obtain ⟨X, Y, L, p, sb, xg, xr⟩ := id w.1
  have q := p.1
  have h16 := sw.n16
  have h2 := sw.n2
  have fin : ∀ M2, RV M2 false 0 S [] [] → Fr P2 M M2 → WI (i + 1) M2 := fun M2 r2 f2 => w.own rfl (fun _ _ _ _ => rfl) r2 f2.1 (fun o ho b => f2.2.1 o (fun z => ho (by unfold P2 at z; omega)) b) (by rw [f2.2.1 120 (by unfold P2; decide)]; exact z7) (fun o b => f2.2.2 o b)
  rcases out_in (N := N) (by omega) a with ha | ⟨k, hk, rfl⟩
  · exact ⟨-1, M, by rw [f_X9_quorum, chk_t xg.1, xg.2.1, bnd_e, sb.f, ndc0 sb ha, obd_s, if_pos rfl], by rw [f_X10_quorum, rs_f r.1, ndr0 r sw.n (by omega) h16 ha, obd_s, if_pos rfl], fin M r (Fr.rf _ _)⟩
  · have k6 : k < 16 := by omega
    obtain ⟨M', e, r', f'⟩ := r.tqm (n := n) sw.n h16 sw.t k6 (by omega)
    have f2 : mI M (14 + 17 + 2 * k) 2 = xR S 3 k := (p.2.2.1.1 k k6).1 (2, 3) (by decide)
    have op : ∀ y, (if b = 0 then some (xR S 17 k, M) else if b = (1 : Int32) then some (qm N S k, M') else if b = (2 : Int32) then some (xR S 3 k, M) else some ((-1 : Int32), M)) = y → f_X10_quorum n 120 (nI k) b M = y := by
      intro y hy
      rw [f_X10_quorum, rs_f r.1, ndr r sw.n hk h16, obd_s, if_neg ne10, r.base k6, obd_s, e, obd2_s, r.get3 k6, obd_s]
      exact hy
    by_cases b0 : b = 0
    · exact ⟨xR S 17 k, M, by rw [f_X9_quorum, chk_t xg.1, xg.2.1, bnd_e, sb.f, ndc sb hk h16, obd_s, if_neg ne10, if_pos b0, bnd_e, sb.f, sb.r2, bnd_e, sb.a2, sb.i2 k6, nI_clamp (by omega), sb.b hk], op _ (if_pos b0), fin M r (Fr.rf _ _)⟩
    · by_cases b1 : b = 1
      · exact ⟨qm N S k, M', by rw [f_X9_quorum, chk_t xg.1, xg.2.1, bnd_e, sb.f, ndc sb hk h16, obd_s, if_neg ne10, if_neg b0, if_pos b1, xg.2.2.2.1, bnd_e, cs_f q, cs_h5 q, bnd_e, cs_a15 q, cs_i15 q k6, nI_clamp (by omega), p.2.2.2.2.2.2 k hk, hQ k hk], op _ (by rw [if_neg b0, if_pos b1]), fin M' r' f'⟩
      · by_cases b2 : b = 2
        · exact ⟨xR S 3 k, M, by rw [f_X9_quorum, chk_t xg.1, xg.2.1, bnd_e, sb.f, ndc sb hk h16, obd_s, if_neg ne10, if_neg b0, if_neg b1, if_pos b2, w.pl hk, f2], op _ (by rw [if_neg b0, if_neg b1, if_pos b2]), fin M r (Fr.rf _ _)⟩
        · exact ⟨-1, M, by rw [f_X9_quorum, chk_t xg.1, xg.2.1, bnd_e, sb.f, ndc sb hk h16, obd_s, if_neg ne10, if_neg b0, if_neg b1, if_neg b2], op _ (by rw [if_neg b0, if_neg b1, if_neg b2]), fin M r (Fr.rf _ _)⟩
theorem eq28 (h : WI i M) (a b : Int32) : ∃ r, f_X9_arbiter 0 a b M = some r ∧ f_X10_arbiter 120 a b M = some r := by
  obtain ⟨N, A, Q, S, w⟩ := h
  obtain ⟨X, Y, L, p, sb, xg, xr⟩ := id w.1
  have h16 := w.2.2.2.1.n16
  have h2 := w.2.2.2.1.n2
  have hN := w.2.2.2.1.n
  have r := w.2.1
  rcases out_in (N := N) (by omega) a with ha | ⟨k, hk, rfl⟩
  · exact ⟨-1, by rw [f_X9_arbiter, chk_t xg.1, xg.2.1, bnd_e, sb.f, ndc0 sb ha, obd_s, if_pos rfl], by rw [f_X10_arbiter, rs_f r.1, ndr0 r hN (by omega) h16 ha, obd_s, if_pos rfl]⟩
  · have k6 : k < 16 := by omega
    have hp := (p.2.2.1.1 k k6).1
    have f6 : mI M (14 + 17 + 2 * k) 6 = xR S 8 k := hp (6, 8) (by decide)
    have f7 := (p.2.2.1.1 k k6).2.1
    have f8 : mI M (14 + 17 + 2 * k) 8 = xR S 10 k := hp (8, 10) (by decide)
    obtain ⟨_, _, _, v10⟩ := w.2.2.2.1.inv.1 k k6
    have e9 := wt_pc w k6
    have h9 : ∀ x : Option Int32, (if xR S 10 k = 0 then some (0 : Int32) else some (1 : Int32)) = x → x = some (xR S 10 k) := fun x e => by
      rw [← e]
      rcases v10 with z | z
      · rw [z]; rfl
      · rw [z]; rfl
    rw [f_X9_arbiter, chk_t xg.1, xg.2.1, bnd_e, sb.f, ndc sb hk h16, obd_s, if_neg ne10, w.pl hk, e9, obd_s, f6, f7, f8]
    rw [f_X10_arbiter, rs_f r.1, ndr r hN hk h16, obd_s, if_neg ne10, r.of0 k6, obd_s, obd_s, r.of1 k6, obd_s, r.of2 k6, obd_s, r.of3 k6, obd_s]
    by_cases b0 : b = 0
    · exact ⟨_, by rw [if_pos b0], by rw [if_pos b0]⟩
    rw [if_neg b0, if_neg b0]
    by_cases b1 : b = 1
    · refine ⟨_, by rw [if_pos b1], ?_⟩
      rw [if_pos b1]
      by_cases z : xR S 8 k = -1
      · rw [if_pos z, if_pos z]
      · rw [if_neg z, if_neg z]
    rw [if_neg b1, if_neg b1]
    by_cases b2 : b = 2
    · exact ⟨xR S 10 k, by rw [if_pos b2]; exact h9 _ rfl, by rw [if_pos b2]⟩
    rw [if_neg b2, if_neg b2]
    by_cases b3 : b = 3
    · exact ⟨_, by rw [if_pos b3], by rw [if_pos b3]⟩
    rw [if_neg b3]
    exact ⟨_, rfl, rfl⟩
theorem cr_eq {N A j : Nat} {Q : Nat → Int32} {S : St} (w : WJ M N A j Q S) (a : Int32) : ∀ (d v n m : Nat) (c e : Int32), v + d = N → d + 1 ≤ n → d + 1 ≤ m → ∃ r, f_X9_crowded_18 M n 0 a c e (nI v) = some r ∧ f_X10_crowded_18 M m 120 a e c (nI v) = some r := by
  obtain ⟨X, Y, L, p, sb, xg, xr⟩ := id w.1
  have h16 := w.2.2.2.1.n16
  have hN := w.2.2.2.1.n
  have q := p.1
  have r := w.2.1
  intro d
  induction d with
  | zero =>
    intro v n m c e hv hn hm
    obtain ⟨n, rfl⟩ : ∃ m, n = m + 1 := ⟨n - 1, by omega⟩
    obtain ⟨m, rfl⟩ : ∃ k, m = k + 1 := ⟨m - 1, by omega⟩
    rw [f_X9_crowded_18, chk_t xg.1, xg.2.1, bnd_e, cs_s q, p.2.2.2.2.2.1, if_pos (nI_le (by omega) (by omega))]
    rw [f_X10_crowded_18, rs_f r.1, rs_0 r.1, bnd_e, rs_fa r.1, rs_c0 r.1, cl0, r.N hN, if_pos (nI_le (by omega) (by omega))]
    by_cases z : a = 0
    · exact ⟨e, by rw [if_pos z], by rw [if_pos z]⟩
    · exact ⟨c, by rw [if_neg z], by rw [if_neg z]⟩
  | succ d ih =>
    intro v n m c e hv hn hm
    obtain ⟨n, rfl⟩ : ∃ m, n = m + 1 := ⟨n - 1, by omega⟩
    obtain ⟨m, rfl⟩ : ∃ k, m = k + 1 := ⟨m - 1, by omega⟩
    have v6 : v < 16 := by omega
    rw [f_X9_crowded_18, chk_t xg.1, xg.2.1, bnd_e, cs_s q, p.2.2.2.2.2.1, if_neg (nI_ge (by omega) (by omega)), xg.2.2.2.1, bnd_e, cs_f q, cs_h2 q, bnd_e, cs_a10 q, cs_i10 q v6, cs_rpc q v6, bnd_e, cs_po q v6, wt_pc w v6, obd_s]
    simp only [bnd_e]
    rw [f_X10_crowded_18, rs_f r.1, rs_0 r.1, bnd_e, rs_fa r.1, rs_c0 r.1, cl0, r.N hN, if_neg (nI_ge (by omega) (by omega)), r.of3 (v := v) (by omega)]
    simp only [obd_s, bnd_e]
    rw [nI_1]
    by_cases z : nI (xW S v).length ≤ c
    · rw [if_pos z, if_neg (Int32.not_lt.mpr z)]
      exact ih (v + 1) n m c e (by omega) (by omega) (by omega)
    · rw [if_neg z, if_pos (Int32.not_le.mp z)]
      exact ih (v + 1) n m _ _ (by omega) (by omega) (by omega)
theorem eq37 (h : WI i M) (a : Int32) (hn : 100000 ≤ n) : ∃ r, f_X9_crowded n 0 a M = some r ∧ f_X10_crowded n 120 a M = some r := by
  obtain ⟨N, A, Q, S, w⟩ := h
  have h16 := w.2.2.2.1.n16
  rw [f_X9_crowded, f_X10_crowded, f_X10_isIn]
  by_cases c0 : a < 0
  · exact ⟨-1, by rw [if_pos c0], by rw [if_pos c0, obd_s, if_pos rfl]⟩
  · by_cases c1 : a ≤ 1
    · obtain ⟨r, e1, e2⟩ := cr_eq w a N 0 n n 0 (-1) (by omega) (by omega) (by omega)
      exact ⟨r, by rw [if_neg c0, if_pos c1]; exact e1, by rw [if_neg c0, if_neg (Int32.not_lt.mpr c1), obd_s, if_neg ne10]; exact e2⟩
    · exact ⟨-1, by rw [if_neg c0, if_neg c1], by rw [if_neg c0, if_pos (Int32.not_le.mp c1), obd_s, if_pos rfl]⟩
end
