/-! ===== equal answers: waiting ===== -/
/-- who of xs stands ahead of y, by node -/
def wah (xs : List Wtr) (y : Wtr) (i : Nat) : Bool := xs.any (fun w => w.1 == i && ahd w.2 (nI w.1) y.2 (nI y.1))
theorem wah_t {xs : List Wtr} {y : Wtr} {i : Nat} : wah xs y i = true ↔ ∃ w, w ∈ xs ∧ w.1 = i ∧ ahd w.2 (nI w.1) y.2 (nI y.1) = true := by
  unfold wah
  rw [List.any_eq_true]
  constructor
  · rintro ⟨w, h1, h2⟩
    have h3 := (Bool.and_eq_true _ _).mp h2
    exact ⟨w, h1, by simpa using h3.1, h3.2⟩
  · rintro ⟨w, h1, h2, h3⟩
    exact ⟨w, h1, (Bool.and_eq_true _ _).mpr ⟨by simpa using h2, h3⟩⟩
theorem wah_n {xs : List Wtr} {N A j : Nat} (h : Wok N A xs) (h16 : N ≤ 16) (hj : j < xs.length) : ((List.range' 0 16).filter (wah xs (xs[j]'hj))).length = j := by
  have hp := List.pairwise_iff_getElem.mp h.1
  have hl : ((xs.take j).map Prod.fst).length = j := by rw [List.length_map, List.length_take]; omega
  have hd : ((xs.take j).map Prod.fst).Nodup := List.Pairwise.sublist ((List.take_sublist j xs).map Prod.fst) h.2.1
  have hr : ((List.range' 0 16).filter (wah xs (xs[j]'hj))).Nodup := List.Pairwise.filter _ (List.nodup_range' (s := 0) (n := 16))
  refine Nat.le_antisymm ?_ ?_
  · refine Nat.le_trans (nd_sub _ _ hr (fun u hu => ?_)) (Nat.le_of_eq hl)
    obtain ⟨w, w1, w2, w3⟩ := wah_t.mp (List.mem_filter.mp hu).2
    obtain ⟨i, hi, rfl⟩ := List.getElem_of_mem w1
    have hij : i < j := by
      apply Decidable.byContradiction
      intro c
      rcases Nat.eq_or_lt_of_le (Nat.le_of_not_lt c) with z | z
      · subst z
        rw [ahd_ir] at w3
        cases w3
      · have := ahd_as (hp j i hj hi z)
        rw [this] at w3
        cases w3
    have hi2 : i < (xs.take j).length := by rw [List.length_take]; omega
    have hm : (xs.take j)[i]'hi2 ∈ xs.take j := List.getElem_mem hi2
    rw [List.getElem_take] at hm
    rw [← w2]
    exact List.mem_map_of_mem hm
  · refine Nat.le_trans (Nat.le_of_eq hl.symm) (nd_sub _ _ hd (fun u hu => ?_))
    obtain ⟨w, w1, rfl⟩ := List.mem_map.mp hu
    obtain ⟨i, hi, e⟩ := List.getElem_of_mem w1
    rw [List.length_take] at hi
    rw [List.getElem_take] at e
    have hi3 : i < xs.length := by omega
    have hw : w ∈ xs := e ▸ List.getElem_mem hi3
    have hN := (h.2.2 w hw).1
    refine List.mem_filter.mpr ⟨List.mem_range'_1.mpr ⟨Nat.zero_le _, by omega⟩, wah_t.mpr ⟨w, hw, rfl, ?_⟩⟩
    have := hp i j hi3 hj (by omega)
    rw [e] at this
    exact this
section
variable {M : Mem} {N A j : Nat} {Q : Nat → Int32} {S : St}
theorem ca_v (w : WJ M N A j Q S) {k : Nat} (k6 : k < 16) {y : Wtr} (hy : y ∈ xW S k) : ∀ (d v n c : Nat), v + d = 16 → d + 1 ≤ n → f_X4_countAheadOf_4 M n (14 + 17 + 2 * k) (nI y.1) (nI c) (nI v) = some (nI (c + ((List.range' v d).filter (wah (xW S k) y)).length)) := by
  obtain ⟨X, Y, L, p, sb, xg, xr⟩ := id w.1
  have h16 := w.2.2.2.1.n16
  have q := p.1
  have hb := (p.2.2.1.1 k k6).2.2.2.1
  have hs := (p.2.2.1.1 k k6).2.2.2.2
  have hw := (w.2.2.2.1.inv.2.2.2.2.2.1 k k6).1
  have y6 : y.1 < 16 := by have := (hw.2.2 y hy).1; omega
  intro d
  induction d with
  | zero =>
    intro v n c hv hn
    obtain ⟨n, rfl⟩ : ∃ m, n = m + 1 := ⟨n - 1, by omega⟩
    rw [f_X4_countAheadOf_4, if_pos (show (16 : Int32) ≤ nI v from nI_le (a := 16) (by omega) (by omega))]
    rfl
  | succ d ih =>
    intro v n c hv hn
    obtain ⟨n, rfl⟩ : ∃ m, n = m + 1 := ⟨n - 1, by omega⟩
    have v6 : v < 16 := by omega
    rw [f_X4_countAheadOf_4, if_neg (show ¬ (16 : Int32) ≤ nI v from nI_ge (b := 16) (by omega) (by decide)), cs_po q k6, f_has9 _ (show v < 32 by omega), obd_s, hb v (by omega), List.range'_succ, List.filter_cons]
    by_cases m : v ∈ (xW S k).map Prod.fst
    · obtain ⟨x, hx, rfl⟩ := List.mem_map.mp m
      have ea : f_X9_isAhead (mI M (14 + 18 + 2 * k) (nI x.1).toNatClampNeg) (nI x.1) (mI M (14 + 18 + 2 * k) (nI y.1).toNatClampNeg) (nI y.1) M = some (if ahd x.2 (nI x.1) y.2 (nI y.1) then 1 else 0) := by
        rw [nI_clamp (show x.1 < 2 ^ 31 by omega), nI_clamp (show y.1 < 2 ^ 31 by omega), hs x hx, hs y hy, f_ah9]
      rw [decide_eq_true m, if_pos rfl, if_neg ne10, cs_pr q k6, bnd_e, cs_pa q k6, cs_pi q k6 v6, bnd_e, cs_pa q k6, cs_pi q k6 y6, ea, obd_s]
      by_cases z : ahd x.2 (nI x.1) y.2 (nI y.1) = true
      · rw [if_pos z, if_neg ne10, bnd_e, bnd_e, nI_1, nI_1, if_pos (wah_t.mpr ⟨x, hx, rfl, z⟩), List.length_cons, ih (x.1 + 1) n (c + 1) (by omega) (by omega)]
        congr 2
        omega
      · have zn : ¬ wah (xW S k) y x.1 = true := fun t => by
          obtain ⟨x', hx', e1, e2⟩ := wah_t.mp t
          obtain rfl := nd_eq hw.2.1 hx' hx e1
          exact z e2
        rw [if_neg z, if_pos rfl, bnd_e, nI_1, if_neg zn, ih (x.1 + 1) n c (by omega) (by omega)]
    · have zn : ¬ wah (xW S k) y v = true := fun t => by
        obtain ⟨x', hx', e1, e2⟩ := wah_t.mp t
        exact m (List.mem_map.mpr ⟨x', hx', e1⟩)
      rw [decide_eq_false m, if_neg (show ¬ (false = true) by decide), if_pos rfl, bnd_e, nI_1, if_neg zn, ih (v + 1) n c (by omega) (by omega)]
theorem ca_x (w : WJ M N A j Q S) {k g n : Nat} (k6 : k < 16) (hg : g < (xW S k).length) (hn : 17 ≤ n) : f_X4_countAheadOf n (14 + 17 + 2 * k) (nI ((xW S k)[g]'hg).1) M = some (nI g) := by
  have hw := (w.2.2.2.1.inv.2.2.2.2.2.1 k k6).1
  have e := ca_v w k6 (List.getElem_mem hg) 16 0 n 0 (by omega) (by omega)
  rw [wah_n hw w.2.2.2.1.n16 hg, Nat.zero_add] at e
  rw [f_X4_countAheadOf]
  exact e
theorem wr_st (w : WJ M N A j Q S) {k : Nat} (k6 : k < 16) (b : Int32) {v n : Nat} (hv : v < 16) (hn : 17 ≤ n) : (v ∉ (xW S k).map Prod.fst ∧ f_X4_waiterAt_2 M (n + 1) (14 + 17 + 2 * k) b (nI v) = f_X4_waiterAt_2 M n (14 + 17 + 2 * k) b (nI (v + 1))) ∨ ∃ g, ∃ hg : g < (xW S k).length, v = ((xW S k)[g]'hg).1 ∧ f_X4_waiterAt_2 M (n + 1) (14 + 17 + 2 * k) b (nI v) = if nI g = b then some (nI v) else f_X4_waiterAt_2 M n (14 + 17 + 2 * k) b (nI (v + 1)) := by
  obtain ⟨X, Y, L, p, sb, xg, xr⟩ := id w.1
  have q := p.1
  have hb := (p.2.2.1.1 k k6).2.2.2.1
  by_cases m : v ∈ (xW S k).map Prod.fst
  · obtain ⟨x, hx, e⟩ := List.mem_map.mp m
    obtain ⟨g, hg, eg⟩ := List.getElem_of_mem hx
    refine Or.inr ⟨g, hg, by rw [eg]; exact e.symm, ?_⟩
    have ec := ca_x w k6 hg hn
    rw [eg, e] at ec
    rw [f_X4_waiterAt_2, if_neg (show ¬ (16 : Int32) ≤ nI v from nI_ge (b := 16) (by omega) (by decide)), cs_po q k6, f_has9 _ (show v < 32 by omega), obd_s, hb v (by omega), decide_eq_true m, if_pos rfl, if_neg ne10, ec, obd_s, bnd_e, nI_1]
  · refine Or.inl ⟨m, ?_⟩
    rw [f_X4_waiterAt_2, if_neg (show ¬ (16 : Int32) ≤ nI v from nI_ge (b := 16) (by omega) (by decide)), cs_po q k6, f_has9 _ (show v < 32 by omega), obd_s, hb v (by omega), decide_eq_false m, if_neg (show ¬ (false = true) by decide), if_pos rfl, bnd_e, nI_1]
theorem wt_no (w : WJ M N A j Q S) {k : Nat} (k6 : k < 16) {b : Int32} (hb : ∀ g, g < (xW S k).length → ¬ nI g = b) : ∀ (d v n : Nat), v + d = 16 → d + 40 ≤ n → f_X4_waiterAt_2 M n (14 + 17 + 2 * k) b (nI v) = some (-1) := by
  intro d
  induction d with
  | zero =>
    intro v n hv hn
    obtain ⟨n, rfl⟩ : ∃ m, n = m + 1 := ⟨n - 1, by omega⟩
    rw [f_X4_waiterAt_2, if_pos (show (16 : Int32) ≤ nI v from nI_le (a := 16) (by omega) (by omega))]
  | succ d ih =>
    intro v n hv hn
    obtain ⟨n, rfl⟩ : ∃ m, n = m + 1 := ⟨n - 1, by omega⟩
    rcases wr_st w k6 b (v := v) (n := n) (by omega) (by omega) with ⟨_, e⟩ | ⟨g, hg, _, e⟩
    · rw [e]; exact ih (v + 1) n (by omega) (by omega)
    · rw [e, if_neg (hb g hg)]; exact ih (v + 1) n (by omega) (by omega)
theorem wt_ys (w : WJ M N A j Q S) {k g : Nat} (k6 : k < 16) (hg : g < (xW S k).length) : ∀ (d v n : Nat), v + d = ((xW S k)[g]'hg).1 → d + 40 ≤ n → f_X4_waiterAt_2 M n (14 + 17 + 2 * k) (nI g) (nI v) = some (nI ((xW S k)[g]'hg).1) := by
  have h16 := w.2.2.2.1.n16
  have hw := (w.2.2.2.1.inv.2.2.2.2.2.1 k k6).1
  have hgm := List.getElem_mem hg
  have g6 : ((xW S k)[g]'hg).1 < 16 := by have := (hw.2.2 _ hgm).1; omega
  have hl := hw.len
  intro d
  induction d with
  | zero =>
    intro v n hv hn
    obtain ⟨n, rfl⟩ : ∃ m, n = m + 1 := ⟨n - 1, by omega⟩
    rcases wr_st w k6 (nI g) (v := v) (n := n) (by omega) (by omega) with ⟨m, _⟩ | ⟨g', hg', e1, e⟩
    · exact absurd (List.mem_map.mpr ⟨_, hgm, by omega⟩) m
    · have ei : ((xW S k)[g']'hg') = ((xW S k)[g]'hg) := nd_eq hw.2.1 (List.getElem_mem hg') hgm (by omega)
      have c1 := ca_x w k6 hg' (n := 17) (by omega)
      have c2 := ca_x w k6 hg (n := 17) (by omega)
      rw [ei] at c1
      have c3 : nI g' = nI g := Option.some.inj (c1.symm.trans c2)
      rw [e, if_pos c3, show v = ((xW S k)[g]'hg).1 by omega]
  | succ d ih =>
    intro v n hv hn
    obtain ⟨n, rfl⟩ : ∃ m, n = m + 1 := ⟨n - 1, by omega⟩
    have nx := ih (v + 1) n (by omega) (by omega)
    rcases wr_st w k6 (nI g) (v := v) (n := n) (by omega) (by omega) with ⟨_, e⟩ | ⟨g', hg', e1, e⟩
    · rw [e]; exact nx
    · have ne : ¬ nI g' = nI g := fun z => by
        have zz : g' = g := (nI_eq (by omega) (by omega)).mp z
        subst zz
        omega
      rw [e, if_neg ne]; exact nx
end
theorem eq29 {M : Mem} {i n : Nat} (h : WI i M) (a b c : Int32) (hn : 100000 ≤ n) : ∃ r, f_X9_waiting n 0 a b c M = some r ∧ f_X10_waiting 120 a b c M = some r := by
  obtain ⟨N, A, Q, S, w⟩ := h
  obtain ⟨X, Y, L, p, sb, xg, xr⟩ := id w.1
  have h16 := w.2.2.2.1.n16
  have h2 := w.2.2.2.1.n2
  have hN := w.2.2.2.1.n
  have q := p.1
  have r := w.2.1
  rcases out_in (N := N) (by omega) a with ha | ⟨k, hk, rfl⟩
  · exact ⟨-1, by rw [f_X9_waiting, chk_t xg.1, xg.2.1, bnd_e, sb.f, ndc0 sb ha, obd_s, if_pos rfl], by rw [f_X10_waiting, rs_f r.1, ndr0 r hN (by omega) h16 ha, obd_s, if_pos rfl]⟩
  · have k6 : k < 16 := by omega
    have hw := (w.2.2.2.1.inv.2.2.2.2.2.1 k k6).1
    have hl := hw.len
    have hs := (p.2.2.1.1 k k6).2.2.2.2
    have rw3 := (r.2.2.2.1 k k6).2.2.1
    have C : ∀ y, (if c < 0 then some (-1 : Int32) else if c ≤ (1 : Int32) then (obd (f_X4_waiterAt n (14 + 17 + 2 * k) b M) fun r24 => if r24 = (-1 : Int32) then some (-1 : Int32) else if c = 0 then some r24 else (bnd (mR M (14 + 17 + 2 * k) 10) fun o29 => chk (isO M 100 o29) <| chk (inB r24 (mLn M o29)) <| some (mI M o29 (r24).toNatClampNeg))) else some (-1 : Int32)) = y → f_X9_waiting n 0 (nI k) b c M = y := fun y e => by
      rw [f_X9_waiting, chk_t xg.1, xg.2.1, bnd_e, sb.f, ndc sb hk h16, obd_s, if_neg ne10, xg.2.2.2.1, bnd_e, cs_f q, cs_h2 q, bnd_e, cs_a10 q, cs_i10 q k6, cs_rpc q k6, bnd_e, cs_po q k6]
      exact e
    have R : ∀ y, (obd (f_X10_isIn b (0 : Int32) (nI (xW S k).length - (1 : Int32)) M) fun r9 => if r9 = 0 then some (-1 : Int32) else (obd (f_X10_isIn c (0 : Int32) (1 : Int32) M) fun r13 => if r13 = 0 then some (-1 : Int32) else if c = 0 then (obd (f_X10_waitNode 120 (nI k) b M) fun r21 => some r21) else (obd (f_X10_waitStamp 120 (nI k) b M) fun r19 => some r19))) = y → f_X10_waiting 120 (nI k) b c M = y := fun y e => by
      rw [f_X10_waiting, rs_f r.1, ndr r hN hk h16, obd_s, if_neg ne10, r.of3 k6, obd_s]
      exact e
    by_cases hbx : ∃ g, g < (xW S k).length ∧ b = nI g
    · obtain ⟨g, hg, rfl⟩ := hbx
      have b0 : ¬ nI g < 0 := nI_nlt (b := 0) (Nat.zero_le _) (by omega)
      have b1 : ¬ nI (xW S k).length - (1 : Int32) < nI g := by
        rw [nI_m1' (by omega)]
        exact nI_nl (by omega) (by omega)
      have eb : f_X10_isIn (nI g) (0 : Int32) (nI (xW S k).length - (1 : Int32)) M = some 1 := by rw [f_X10_isIn, if_neg b0, if_neg b1]
      have y6 : ((xW S k)[g]'hg).1 < 16 := by have := (hw.2.2 _ (List.getElem_mem hg)).1; omega
      have ew : f_X4_waiterAt n (14 + 17 + 2 * k) (nI g) M = some (nI ((xW S k)[g]'hg).1) := by
        rw [f_X4_waiterAt]
        exact wt_ys w k6 hg ((xW S k)[g]'hg).1 0 n (by omega) (by omega)
      have hq : (xW S k)[g]? = some ((xW S k)[g]'hg) := List.getElem?_eq_getElem hg
      have hst := hs _ (List.getElem_mem hg)
      have hrd := rw3 g _ hq
      generalize ((xW S k)[g]'hg) = y at y6 ew hst hrd
      have m4 : (4 : Int32) + ((2 : Int32) * nI g) = nI (4 + 2 * g) := by rw [show (4 : Int32) = nI 4 from rfl, show (2 : Int32) = nI 2 from rfl, pk_mul, nI_add]
      have o1 : f_X10_of 120 (nI k) (nI (4 + 2 * g)) M = some (nI y.1) := (f_of r.toRK k6 (w := 4 + 2 * g) (by omega)).trans (congrArg some (by rw [show 146 + 44 * k + (4 + 2 * g) = 150 + 44 * k + 2 * g by omega]; exact hrd.1))
      have o2 : f_X10_of 120 (nI k) (nI (4 + 2 * g + 1)) M = some y.2 := (f_of r.toRK k6 (w := 4 + 2 * g + 1) (by omega)).trans (congrArg some (by rw [show 146 + 44 * k + (4 + 2 * g + 1) = 151 + 44 * k + 2 * g by omega]; exact hrd.2))
      have y1 : ¬ nI y.1 = (-1 : Int32) := nI_m1 y6
      by_cases c0 : c < 0
      · exact ⟨-1, C _ (by rw [if_pos c0]), R _ (by rw [eb, obd_s, if_neg ne10, f_X10_isIn, if_pos c0, obd_s, if_pos rfl])⟩
      · by_cases c1 : c ≤ 1
        · by_cases cz : c = 0
          · refine ⟨nI y.1, C _ ?_, R _ ?_⟩
            · rw [if_neg c0, if_pos c1, ew, obd_s, if_neg y1, if_pos cz]
            · rw [eb, obd_s, if_neg ne10, f_X10_isIn, if_neg c0, if_neg (Int32.not_lt.mpr c1), obd_s, if_neg ne10, if_pos cz, f_X10_waitNode, rs_f r.1, m4, o1, obd_s, obd_s]
          · refine ⟨y.2, C _ ?_, R _ ?_⟩
            · rw [if_neg c0, if_pos c1, ew, obd_s, if_neg y1, if_neg cz, cs_pr q k6, bnd_e, cs_pa q k6, cs_pi q k6 y6, nI_clamp (show y.1 < 2 ^ 31 by omega), hst]
            · rw [eb, obd_s, if_neg ne10, f_X10_isIn, if_neg c0, if_neg (Int32.not_lt.mpr c1), obd_s, if_neg ne10, if_neg cz, f_X10_waitStamp, rs_f r.1, m4, nI_1, o2, obd_s, obd_s]
        · exact ⟨-1, C _ (by rw [if_neg c0, if_neg c1]), R _ (by rw [eb, obd_s, if_neg ne10, f_X10_isIn, if_neg c0, if_pos (Int32.not_le.mp c1), obd_s, if_pos rfl])⟩
    · have hbn : ∀ g, g < (xW S k).length → ¬ nI g = b := fun g hg z => hbx ⟨g, hg, z.symm⟩
      have ew : f_X4_waiterAt n (14 + 17 + 2 * k) b M = some (-1) := by
        rw [f_X4_waiterAt]
        exact wt_no w k6 hbn 16 0 n (by omega) (by omega)
      refine ⟨-1, C _ ?_, R _ ?_⟩
      · by_cases c0 : c < 0
        · rw [if_pos c0]
        · by_cases c1 : c ≤ 1
          · rw [if_neg c0, if_pos c1, ew, obd_s, if_pos rfl]
          · rw [if_neg c0, if_neg c1]
      · have eb : f_X10_isIn b (0 : Int32) (nI (xW S k).length - (1 : Int32)) M = some 0 := by
          rw [f_X10_isIn]
          by_cases b0 : b < 0
          · rw [if_pos b0]
          · obtain ⟨s, hs', rfl⟩ := nn_e b0
            have hge : (xW S k).length ≤ s := by
              apply Decidable.byContradiction
              intro z
              exact hbx ⟨s, by omega, rfl⟩
            rw [if_neg b0, if_pos ?_]
            rcases Nat.eq_zero_or_pos (xW S k).length with z | z
            · rw [z, show nI 0 - (1 : Int32) = -1 by decide]
              exact Int32.lt_of_lt_of_le (by decide) (Int32.not_lt.mp b0)
            · rw [nI_m1' z]
              exact nI_ltx (by omega) hs'
        rw [eb, obd_s, if_pos rfl]
