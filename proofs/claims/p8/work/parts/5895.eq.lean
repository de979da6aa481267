/-! ===== equal answers: node, handled, sent, unheard ===== -/
section
variable {M : Mem} {i n : Nat}
theorem eq32 (h : WI i M) (a : Int32) : ∃ r, f_X9_handled 0 a M = some r ∧ f_X10_handled 120 a M = some r := by
  obtain ⟨N, A, Q, S, w⟩ := h
  obtain ⟨X, Y, L, p, sb, xg, xr⟩ := id w.1
  have h16 := w.2.2.2.1.n16
  have h2 := w.2.2.2.1.n2
  have hN := w.2.2.2.1.n
  have r := w.2.1
  rcases out_in (N := N) (by omega) a with ha | ⟨k, hk, rfl⟩
  · exact ⟨-1, by rw [f_X9_handled, chk_t xg.1, xg.2.1, bnd_e, sb.f, ndc0 sb ha, obd_s, if_pos rfl], by rw [f_X10_handled, rs_f r.1, ndr0 r hN (by omega) h16 ha, obd_s, if_pos rfl]⟩
  · have k6 : k < 16 := by omega
    have f12 : mI M (14 + 17 + 2 * k) 12 = xR S 18 k := (p.2.2.1.1 k k6).1 (12, 18) (by decide)
    have e := r.rg (k := 18) (i := k) (by unfold vk; omega)
    rw [show ad 18 k = 10193 + k from rfl] at e
    refine ⟨xR S 18 k, ?_, ?_⟩
    · rw [f_X9_handled, chk_t xg.1, xg.2.1, bnd_e, sb.f, ndc sb hk h16, obd_s, if_neg ne10, w.pl hk, f12]
    · rw [f_X10_handled, rs_f r.1, ndr r hN hk h16, obd_s, if_neg ne10, rs_0 r.1, bnd_e, rs_fa r.1, show (10193 : Int32) + nI k = nI (10193 + k) by rw [show (10193 : Int32) = nI 10193 from rfl, nI_add], rs_c r.1 (by omega), cl_n (by omega), e]
theorem eq33 (h : WI i M) (a : Int32) (hn : 100000 ≤ n) : ∃ r, f_X9_sent n 0 a M = some r ∧ f_X10_sent n 120 a M = some r := by
  obtain ⟨N, A, Q, S, w⟩ := h
  obtain ⟨X, Y, L, p, sb, xg, xr⟩ := id w.1
  have q := p.1
  have r := w.2.1
  have h6 := p.hh.2.2.2.2.2
  by_cases c6 : a = 6
  · subst c6
    exact ⟨sa6 S, by rw [f_X9_sent, if_neg (by decide), if_pos (by decide), if_pos rfl, chk_t xg.1, xg.2.2.2.1, bnd_e, cs_f q, cs_h1 q, bnd_e, cs_p q, f_sent q h6 (by omega), obd_s], by rw [f_X10_sent, if_pos rfl, rs_f r.1, r.sent (by omega), obd_s]⟩
  · rcases out_in (N := 6) (by decide) a with ha | ⟨k, hk, rfl⟩
    · refine ⟨-1, ?_, ?_⟩
      · rw [f_X9_sent]
        split
        · rfl
        · rename_i c1
          split
          · rename_i c2
            exfalso
            rcases ha with ha | ha
            · exact c1 ha
            · exact c6 (Int32.le_antisymm c2 ha)
          · rfl
      · rw [f_X10_sent, if_neg c6, show f_X10_isIn a (0 : Int32) (5 : Int32) M = some 0 by
          rw [f_X10_isIn]
          by_cases c : a < 0
          · rw [if_pos c]
          · rw [if_neg c, if_pos (show (5 : Int32) < a from gt3 (N := 5) (by decide) (ha.resolve_left c))], obd_s, if_pos rfl]
    · have e := r.rg (k := 16) (i := k) (by unfold vk; omega)
      rw [show ad 16 k = 9859 + k from rfl] at e
      refine ⟨xR S 16 k, ?_, ?_⟩
      · rw [f_X9_sent, if_neg (show ¬ nI k < 0 from nI_nlt (b := 0) (Nat.zero_le _) (by omega)), if_pos (show nI k ≤ (6 : Int32) from nI_le (b := 6) (by omega) (by decide)), if_neg c6, chk_t xg.1, xg.2.2.2.1, bnd_e, cs_f q, cs_h1 q, bnd_e, cs_p q, cs_r6 q, bnd_e, cs_a6 q, cs_i6 q hk, nI_clamp (by omega), h6 k hk]
      · rw [f_X10_sent, if_neg c6, show f_X10_isIn (nI k) (0 : Int32) (5 : Int32) M = some 1 from f_isI (b := 5) M (by omega) (by decide), obd_s, if_neg ne10, rs_f r.1, rs_0 r.1, bnd_e, rs_fa r.1, show (9859 : Int32) + nI k = nI (9859 + k) by rw [show (9859 : Int32) = nI 9859 from rfl, nI_add], rs_c r.1 (by omega), cl_n (by omega), e]
theorem uh_and (x y z : Int32) : x &&& ((y ||| z) ^^^ (-1 : Int32)) = (x &&& (y ^^^ (-1 : Int32))) &&& (z ^^^ (-1 : Int32)) := by
  apply b_ext
  intro i hi
  rw [bt_minus _ _ hi, bt_minus _ _ hi, bt_minus _ _ hi, b_or]
  cases bt x i <;> cases bt y i <;> cases bt z i <;> rfl
theorem eq36 (h : WI i M) (a : Int32) : ∃ r, f_X9_unheard 0 a M = some r ∧ f_X10_unheard 120 a M = some r := by
  obtain ⟨N, A, Q, S, w⟩ := h
  obtain ⟨X, Y, L, p, sb, xg, xr⟩ := id w.1
  have h16 := w.2.2.2.1.n16
  have h2 := w.2.2.2.1.n2
  have hN := w.2.2.2.1.n
  have r := w.2.1
  rcases out_in (N := N) (by omega) a with ha | ⟨k, hk, rfl⟩
  · exact ⟨-1, by rw [f_X9_unheard, chk_t xg.1, xg.2.1, bnd_e, sb.f, ndc0 sb ha, obd_s, if_pos rfl], by rw [f_X10_unheard, rs_f r.1, ndr0 r hN (by omega) h16 ha, obd_s, if_pos rfl]⟩
  · have k6 : k < 16 := by omega
    have s8 := (has_st p (k := k) (by omega)).2.1
    have hp := (p.2.2.1.1 k k6).1
    have f2 : mI M (14 + 17 + 2 * k) 2 = xR S 3 k := hp (2, 3) (by decide)
    have f3 : mI M (14 + 17 + 2 * k) 3 = xR S 4 k := hp (3, 4) (by decide)
    have f5 : mI M (14 + 17 + 2 * k) 5 = xR S 6 k := hp (5, 6) (by decide)
    by_cases z : xR S 0 k = 1
    · rw [if_pos z] at s8
      refine ⟨(xR S 3 k &&& (xR S 4 k ^^^ (-1 : Int32))) &&& (xR S 6 k ^^^ (-1 : Int32)), ?_, ?_⟩
      · have t := w.pl hk (fun o => some ((mI M o 2) &&& (((mI M o 3) ||| (mI M o 5)) ^^^ (-1 : Int32))))
        rw [xg.2.2.2.1] at t
        rw [f_X9_unheard, chk_t xg.1, xg.2.1, bnd_e, sb.f, ndc sb hk h16, obd_s, if_neg ne10, xg.2.2.2.1, bnd_e, cs_f p.1, s8, obd_s, if_neg ne10]
        refine t.trans ?_
        rw [f2, f3, f5, uh_and]
      · rw [f_X10_unheard, rs_f r.1, ndr r hN hk h16, obd_s, if_neg ne10, r.get0 k6, obd_s, if_pos z, r.get3 k6, obd_s, r.get4 k6, obd_s, r.get6 k6, obd_s]
    · rw [if_neg z] at s8
      refine ⟨-1, ?_, ?_⟩
      · rw [f_X9_unheard, chk_t xg.1, xg.2.1, bnd_e, sb.f, ndc sb hk h16, obd_s, if_neg ne10, xg.2.2.2.1, bnd_e, cs_f p.1, s8, obd_s, if_pos rfl]
      · rw [f_X10_unheard, rs_f r.1, ndr r hN hk h16, obd_s, if_neg ne10, r.get0 k6, obd_s, if_neg z]
theorem eq27 (h : WI i M) (a b : Int32) : ∃ r, f_X9_node 0 a b M = some r ∧ f_X10_node 120 a b M = some r := by
  obtain ⟨N, A, Q, S, w⟩ := h
  obtain ⟨X, Y, L, p, sb, xg, xr⟩ := id w.1
  have h16 := w.2.2.2.1.n16
  have h2 := w.2.2.2.1.n2
  have hN := w.2.2.2.1.n
  have r := w.2.1
  rcases out_in (N := N) (by omega) a with ha | ⟨k, hk, rfl⟩
  · exact ⟨-1, by rw [f_X9_node, chk_t xg.1, xg.2.1, bnd_e, sb.f, ndc0 sb ha, obd_s, if_pos rfl], by rw [f_X10_node, rs_f r.1, ndr0 r hN (by omega) h16 ha, obd_s, if_pos rfl]⟩
  · have k6 : k < 16 := by omega
    obtain ⟨s7, s8, s9⟩ := has_st p (k := k) k6
    have hp := (p.2.2.1.1 k k6).1
    have f0 : mI M (14 + 17 + 2 * k) 0 = xR S 1 k := hp (0, 1) (by decide)
    have f1 : mI M (14 + 17 + 2 * k) 1 = xR S 2 k := hp (1, 2) (by decide)
    have f3 : mI M (14 + 17 + 2 * k) 3 = xR S 4 k := hp (3, 4) (by decide)
    have f4 : mI M (14 + 17 + 2 * k) 4 = xR S 5 k := hp (4, 5) (by decide)
    have f5 : mI M (14 + 17 + 2 * k) 5 = xR S 6 k := hp (5, 6) (by decide)
    have f11 : mI M (14 + 17 + 2 * k) 11 = xR S 12 k := hp (11, 12) (by decide)
    obtain ⟨v0, _, v7, _⟩ := w.2.2.2.1.inv.1 k k6
    have hw : f_X2_howIs 14 (nI k) M = some (xR S 0 k) := by
      rw [f_X2_howIs, cs_f p.1, s7, obd_s, s8, obd_s]
      rcases v0 with z | z | z
      · rw [z]; rfl
      · rw [z]; rfl
      · rw [z]; rfl
    have h9 : ∀ x : Option Int32, (if (if xR S 7 k = 1 then (1 : Int32) else 0) = 0 then some (0 : Int32) else some (1 : Int32)) = x → x = some (xR S 7 k) := fun x e => by
      rw [← e]
      rcases v7 with z | z
      · rw [z]; rfl
      · rw [z]; rfl
    have c0 : f_X10_countOf 120 (nI k) (0 : Int32) M = some (xR S (12 + 0) k) := r.cnt k6 (w := 0) (by decide)
    rw [f_X9_node, chk_t xg.1, xg.2.1, bnd_e, sb.f, ndc sb hk h16, obd_s, if_neg ne10, w.pl hk]
    rw [f_X10_node, rs_f r.1, ndr r hN hk h16, obd_s, if_neg ne10, r.get0 k6, obd_s, r.get1 k6, obd_s, r.get2 k6, obd_s, r.get4 k6, obd_s, r.get5 k6, obd_s, r.get6 k6, obd_s, r.get7 k6, obd_s, c0, obd_s]
    rw [f0, f1, f3, f4, f5, f11, xg.2.2.2.1, bnd_e, bnd_e, cs_f p.1, cs_f p.1, hw, obd_s, s9, obd_s]
    by_cases b0 : b = 0
    · exact ⟨_, by rw [if_pos b0], by rw [if_pos b0]⟩
    rw [if_neg b0, if_neg b0]
    by_cases b1 : b = 1
    · exact ⟨_, by rw [if_pos b1], by rw [if_pos b1]⟩
    rw [if_neg b1, if_neg b1]
    by_cases b2 : b = 2
    · exact ⟨_, by rw [if_pos b2], by rw [if_pos b2]⟩
    rw [if_neg b2, if_neg b2]
    by_cases b3 : b = 3
    · exact ⟨_, by rw [if_pos b3], by rw [if_pos b3]⟩
    rw [if_neg b3, if_neg b3]
    by_cases b4 : b = 4
    · exact ⟨_, by rw [if_pos b4], by rw [if_pos b4]⟩
    rw [if_neg b4, if_neg b4]
    by_cases b5 : b = 5
    · exact ⟨_, by rw [if_pos b5], by rw [if_pos b5]⟩
    rw [if_neg b5, if_neg b5]
    by_cases b6 : b = 6
    · exact ⟨xR S 7 k, by rw [if_pos b6]; exact h9 _ rfl, by rw [if_pos b6]⟩
    rw [if_neg b6, if_neg b6]
    by_cases b7 : b = 7
    · exact ⟨_, by rw [if_pos b7], by rw [if_pos b7]⟩
    rw [if_neg b7]
    exact ⟨_, rfl, rfl⟩
end
