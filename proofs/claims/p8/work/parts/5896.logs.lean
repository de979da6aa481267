/-! ===== equal answers: the logs ===== -/
def r4 (q : Row4) (u : Nat) : Int32 := if u = 0 then q.1 else if u = 1 then q.2.1 else if u = 2 then q.2.2.1 else q.2.2.2
/-- what a log tells -/
def tv (m : Nat) (xs : List Row4) (a b : Int32) : Int32 := if a = -1 then nI (min xs.length m) else if a < 0 ∨ nI (min xs.length m) ≤ a ∨ b < 0 ∨ (4 : Int32) ≤ b then -2 else ((xs[xs.length - 1 - a.toNatClampNeg]?).map (fun q => r4 q b.toNatClampNeg)).getD 0
theorem r4_rd {f : Nat → Int32} {q : Row4} {A u : Nat} (h : f A = q.1 ∧ f (A + 1) = q.2.1 ∧ f (A + 2) = q.2.2.1 ∧ f (A + 3) = q.2.2.2) (hu : u < 4) : f (A + u) = r4 q u := by
  obtain ⟨a, b, c, d⟩ := h
  unfold r4
  match u, hu with
  | 0, _ => rw [if_pos rfl]; exact a
  | 1, _ => rw [if_neg (by decide), if_pos rfl]; exact b
  | 2, _ => rw [if_neg (by decide), if_neg (by decide), if_pos rfl]; exact c
  | 3, _ => rw [if_neg (by decide), if_neg (by decide), if_neg (by decide)]; exact d
  | u + 4, h => omega
section
variable {M : Mem}
theorem te_v {l m : Nat} {xs : List Row4} (hm : m = 30 ∨ m = 40) (i1 : isO M 3 l) (r1 : mR M l 1 = l + 1) (i2 : isO M 100 (l + 1)) (n2 : mLn M (l + 1) = 4 * m) (g : LG M l m xs) (a b : Int32) : f_X3_tell l a b M = some (tv m xs a b) := by
  obtain ⟨g0, g2, g3, g4⟩ := g
  have hm40 : m ≤ 40 := by omega
  have hct : min xs.length m ≤ m := Nat.min_le_right _ _
  unfold tv
  rw [f_X3_tell]
  by_cases ca : a = -1
  · rw [if_pos ca, if_pos ca, chk_t i1, g2]
  rw [if_neg ca, if_neg ca]
  by_cases cb : a < 0
  · rw [if_pos cb, if_pos (Or.inl cb)]
  obtain ⟨s, hs, rfl⟩ := nn_e cb
  rw [if_neg cb, chk_t i1, g2]
  by_cases c1 : min xs.length m ≤ s
  · rw [if_pos (nI_le c1 hs), if_pos (Or.inr (Or.inl (nI_le c1 hs)))]
  have c1n : ¬ nI (min xs.length m) ≤ nI s := nI_ge (by omega) (by omega)
  rw [if_neg c1n]
  rcases out_in (N := 4) (by decide) b with hb | ⟨u, hu, rfl⟩
  · by_cases c2 : b < 0
    · rw [if_pos c2, if_pos (Or.inr (Or.inr (Or.inl c2)))]
    · have hb4 : (4 : Int32) ≤ b := hb.resolve_left c2
      rw [if_neg c2, if_neg (show ¬ b < (4 : Int32) from Int32.not_lt.mpr hb4), if_pos (Or.inr (Or.inr (Or.inr hb4)))]
  · have u0 : ¬ nI u < 0 := nI_nlt (b := 0) (Nat.zero_le _) (by omega)
    have u4 : nI u < (4 : Int32) := nI_lt (b := 4) hu (by decide)
    have hnn : ¬ (nI s < 0 ∨ nI (min xs.length m) ≤ nI s ∨ nI u < 0 ∨ (4 : Int32) ≤ nI u) := by
      rintro (z | z | z | z)
      · exact cb z
      · exact c1n z
      · exact u0 z
      · exact Int32.not_le.mpr u4 z
    rw [if_neg hnn, nI_clamp hs, nI_clamp (show u < 2 ^ 31 by omega)]
    have hl : xs.length - 1 - s < xs.length := by omega
    have hq : xs[xs.length - 1 - s]? = some (xs[xs.length - 1 - s]'hl) := List.getElem?_eq_getElem hl
    generalize (xs[xs.length - 1 - s]'hl) = y at hq
    have G := r4_rd (f := mI M (l + 1)) (u := u) (g4 _ y hq (by omega)) hu
    rw [hq, if_neg u0, if_pos u4, g3, bnd_e, r1, bnd_e, chk_t i2]
    have hh : xs.length % m < m := Nat.mod_lt _ (by omega)
    have ix : s + 1 ≤ xs.length % m → xs.length % m - 1 - s = (xs.length - 1 - s) % m := by
      intro c2
      rcases hm with rfl | rfl <;> omega
    have iy : ¬ s + 1 ≤ xs.length % m → xs.length % m + m - 1 - s = (xs.length - 1 - s) % m := by
      intro c2
      rcases hm with rfl | rfl <;> omega
    generalize (xs.length - 1 - s) % m = jx at G ix iy
    generalize xs.length % m = hd at hh ix iy
    show _ = some (r4 y u)
    rw [← G]
    by_cases c2 : s + 1 ≤ hd
    · have e1 : nI hd - (1 : Int32) - nI s = nI (hd - 1 - s) := by
        rw [nI_m1' (by omega)]
        obtain ⟨z, hz⟩ : ∃ z, hd - 1 = z + s := ⟨hd - 1 - s, by omega⟩
        rw [hz, ← nI_add, show z + s - s = z by omega, Int32.add_sub_cancel]
      rw [e1, if_pos (show (0 : Int32) ≤ nI (hd - 1 - s) from nI_le (a := 0) (Nat.zero_le _) (by omega)), show (4 : Int32) = nI 4 from rfl, pk_mul, nI_add, n2, chk_t (inB_n (by omega) (by omega)), nI_clamp (by omega), ix c2, show jx * 4 + u = 4 * jx + u by omega]
    · have e1 : nI hd - (1 : Int32) - nI s + nI m = nI (hd + m - 1 - s) := by
        obtain ⟨z, hz⟩ : ∃ z, hd + m = z + 1 + s := ⟨hd + m - 1 - s, by omega⟩
        have e2 : nI hd + nI m = nI z + 1 + nI s := by rw [nI_add, hz, nI_1, nI_add]
        rw [show hd + m - 1 - s = z by omega]
        have e3 : nI hd - (1 : Int32) - nI s + nI m = (nI hd + nI m) - 1 - nI s := by
          simp only [Int32.sub_eq_add_neg]
          ac_rfl
        rw [e3, e2]
        simp only [Int32.sub_eq_add_neg]
        rw [show nI z + 1 + nI s + -1 + -nI s = nI z + (1 + -1) + (nI s + -nI s) by ac_rfl, show (1 : Int32) + -1 = 0 from rfl, Int32.add_right_neg, Int32.add_zero, Int32.add_zero]
      have c3 : ¬ (0 : Int32) ≤ nI hd - (1 : Int32) - nI s := by
        intro c3
        have : nI hd - (1 : Int32) - nI s < 0 := by
          obtain ⟨z, hz⟩ : ∃ z, s + 1 = z + hd := ⟨s + 1 - hd, by omega⟩
          have ez : 1 ≤ z := by omega
          have e4 : nI hd - (1 : Int32) - nI s = 0 - nI z := by
            have : nI s + 1 = nI z + nI hd := by rw [nI_1, hz, nI_add]
            have e5 : nI hd - (1 : Int32) - nI s = nI hd - (nI s + 1) := by
              simp only [Int32.sub_eq_add_neg, Int32.neg_add]
              ac_rfl
            rw [e5, this]
            simp only [Int32.sub_eq_add_neg, Int32.neg_add]
            rw [show nI hd + (-nI z + -nI hd) = -nI z + (nI hd + -nI hd) by ac_rfl, Int32.add_right_neg, Int32.add_zero, Int32.zero_add]
          rw [e4]
          have zb : z < 64 := by omega
          have all : ∀ z, z < 64 → 1 ≤ z → (0 : Int32) - nI z < 0 := by decide +kernel
          exact all z zb ez
        exact absurd c3 (Int32.not_le.mpr this)
      rw [if_neg c3, g0, e1, show (4 : Int32) = nI 4 from rfl, pk_mul, nI_add, n2, chk_t (inB_n (by omega) (by omega)), nI_clamp (by omega), iy c2, show jx * 4 + u = 4 * jx + u by omega]
end
section
variable {M : Mem} {tw : Bool} {t : Int32} {S : St} {pb pt : List Row4}
theorem lastn_min {α : Type} (m : Nat) (xs : List α) : (lastn m xs).length = min xs.length m := by
  unfold lastn
  rw [List.length_drop]
  omega
theorem RV.rlogv (r : RV M tw t S pb pt) {A B m : Nat} {xs : List Row4} (hA : A < 10465) (hm : m ≤ 40) (hB : B + 160 ≤ 10465) (hb : RVb M A B m xs) (a b : Int32) : (if a = (-1 : Int32) then (chk (isO M 10 120) <| bnd (mR M 120 0) fun o25 => chk (isO M 100 o25) <| chk (inB (nI A) (mLn M o25)) <| some (mI M o25 ((nI A)).toNatClampNeg)) else (chk (isO M 10 120) <| bnd (mR M 120 0) fun o4 => chk (isO M 100 o4) <| chk (inB (nI A) (mLn M o4)) <| obd (f_X10_isIn a (0 : Int32) ((mI M o4 ((nI A)).toNatClampNeg) - (1 : Int32)) M) fun r9 => if r9 = 0 then some (-2 : Int32) else obd (f_X10_isIn b (0 : Int32) (3 : Int32) M) fun r13 => if r13 = 0 then some (-2 : Int32) else bnd (mR M 120 0) fun o16 => chk (isO M 100 o16) <| bnd (mR M 120 0) fun o19 => chk (isO M 100 o19) <| chk (inB (nI A) (mLn M o19)) <| chk (inB (((nI B) + ((4 : Int32) * (((mI M o19 ((nI A)).toNatClampNeg) - (1 : Int32)) - a))) + b) (mLn M o16)) <| some (mI M o16 ((((nI B) + ((4 : Int32) * (((mI M o19 ((nI A)).toNatClampNeg) - (1 : Int32)) - a))) + b)).toNatClampNeg))) = some (tv m xs a b) := by
  have q := r.1
  have hc := hb.1
  have hct : min xs.length m ≤ m := Nat.min_le_right _ _
  rw [lastn_min] at hc
  unfold tv
  by_cases ca : a = -1
  · rw [if_pos ca, if_pos ca, rs_f q, rs_0 q, bnd_e, rs_fa q, rs_c q hA, mI_c hA, hc]
  rw [if_neg ca, if_neg ca, rs_f q, rs_0 q, bnd_e, rs_fa q, rs_c q hA, mI_c hA, hc, f_X10_isIn]
  by_cases cb : a < 0
  · rw [if_pos cb, obd_s, if_pos rfl, if_pos (Or.inl cb)]
  obtain ⟨s, hs, rfl⟩ := nn_e cb
  rw [if_neg cb]
  by_cases c1 : min xs.length m ≤ s
  · have c2 : nI (min xs.length m) - (1 : Int32) < nI s := by
      rcases Nat.eq_zero_or_pos (min xs.length m) with z | z
      · rw [z]
        have e1 : nI 0 - (1 : Int32) = -1 := by decide
        rw [e1]
        exact Int32.lt_of_lt_of_le (by decide) (Int32.not_lt.mp cb)
      · rw [nI_m1' z]
        exact nI_ltx (by omega) hs
    rw [if_pos c2, obd_s, if_pos rfl, if_pos (Or.inr (Or.inl (nI_le c1 hs)))]
  have c2 : ¬ nI (min xs.length m) - (1 : Int32) < nI s := by
    rw [nI_m1' (by omega)]
    exact nI_nl (by omega) (by omega)
  have c1n : ¬ nI (min xs.length m) ≤ nI s := nI_ge (by omega) (by omega)
  rw [if_neg c2, obd_s, if_neg ne10, f_X10_isIn]
  rcases out_in (N := 4) (by decide) b with hb4 | ⟨u, hu, rfl⟩
  · by_cases c3 : b < 0
    · rw [if_pos c3, obd_s, if_pos rfl, if_pos (Or.inr (Or.inr (Or.inl c3)))]
    · have hb4 : (4 : Int32) ≤ b := hb4.resolve_left c3
      rw [if_neg c3, if_pos (show (3 : Int32) < b from Int32.lt_of_lt_of_le (by decide) hb4), obd_s, if_pos rfl, if_pos (Or.inr (Or.inr (Or.inr hb4)))]
  · have u0 : ¬ nI u < 0 := nI_nlt (b := 0) (Nat.zero_le _) (by omega)
    have u3 : ¬ (3 : Int32) < nI u := nI_nl (b := u) (a := 3) (by omega) (by decide)
    have hnn : ¬ (nI s < 0 ∨ nI (min xs.length m) ≤ nI s ∨ nI u < 0 ∨ (4 : Int32) ≤ nI u) := by
      rintro (z | z | z | z)
      · exact cb z
      · exact c1n z
      · exact u0 z
      · exact nI_ge (b := 4) hu (by decide) z
    rw [if_neg hnn, nI_clamp hs, nI_clamp (show u < 2 ^ 31 by omega)]
    have hl : xs.length - 1 - s < xs.length := by omega
    have hq : xs[xs.length - 1 - s]? = some (xs[xs.length - 1 - s]'hl) := List.getElem?_eq_getElem hl
    generalize (xs[xs.length - 1 - s]'hl) = y at hq
    have hq2 : (lastn m xs)[min xs.length m - 1 - s]? = some y := by
      unfold lastn
      rw [List.getElem?_drop, show xs.length - m + (min xs.length m - 1 - s) = xs.length - 1 - s by omega]
      exact hq
    have G := r4_rd (f := mI M 121) (u := u) (hb.2 _ y hq2) hu
    rw [hq]
    show _ = some (r4 y u)
    rw [← G]
    generalize min xs.length m = ct at hct hc c1 c2 c1n hnn hq2
    have e1 : nI ct - (1 : Int32) - nI s = nI (ct - 1 - s) := by
      rw [nI_m1' (by omega)]
      obtain ⟨z, hz⟩ : ∃ z, ct - 1 = z + s := ⟨ct - 1 - s, by omega⟩
      rw [hz, ← nI_add, show z + s - s = z by omega, Int32.add_sub_cancel]
    have e2 : (nI B + ((4 : Int32) * nI (ct - 1 - s))) + nI u = nI (B + 4 * (ct - 1 - s) + u) := by rw [show (4 : Int32) = nI 4 from rfl, pk_mul, nI_add, nI_add]
    rw [if_neg u0, if_neg u3, obd_s, if_neg ne10, bnd_e, rs_fa q, bnd_e, rs_fa q, rs_c q hA, mI_c hA, hc, e1, e2, rs_c q (by omega), nI_clamp (by omega)]
end
theorem eq34 {M : Mem} {i : Nat} (h : WI i M) (a b : Int32) : ∃ r, f_X9_book 0 a b M = some r ∧ f_X10_book 120 a b M = some r := by
  obtain ⟨N, A, Q, S, w⟩ := h
  obtain ⟨X, Y, L, p, sb, xg, xr⟩ := id w.1
  have q := p.1
  obtain ⟨i1, r1, i2, n2⟩ := cs_e11 q
  exact ⟨tv 30 ([] ++ xE S) a b, by rw [f_X9_book, chk_t xg.1, xg.2.2.2.1, bnd_e, cs_f q, cs_h3 q, bnd_e, chk_t i1, te_v (Or.inl rfl) i1 r1 i2 n2 p.2.2.2.2.1.1 a b, obd_s], w.2.1.rlogv (A := 9857) (B := 9913) (by decide) (by decide) (by decide) w.2.1.2.2.2.2.2.1 a b⟩
theorem eq38 {M : Mem} {i : Nat} (h : WI i M) (a b : Int32) : ∃ r, f_X9_trace 0 a b M = some r ∧ f_X10_trace 120 a b M = some r := by
  obtain ⟨N, A, Q, S, w⟩ := h
  obtain ⟨X, Y, L, p, sb, xg, xr⟩ := id w.1
  have q := p.1
  obtain ⟨i1, r1, i2, n2⟩ := cs_e13 q
  exact ⟨tv 40 ([] ++ xT S) a b, by rw [f_X9_trace, chk_t xg.1, xg.2.2.2.1, bnd_e, cs_f q, cs_h4 q, bnd_e, chk_t i1, te_v (Or.inr rfl) i1 r1 i2 n2 p.2.2.2.2.1.2 a b, obd_s], w.2.1.rlogv (A := 9858) (B := 10033) (by decide) (by decide) (by decide) w.2.1.2.2.2.2.2.2 a b⟩
