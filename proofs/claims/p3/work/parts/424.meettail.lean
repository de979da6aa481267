/-! ===== the class meets a state: what it counts ===== -/
theorem nI_ltx {a b : Nat} (h : a < b) (hb : b < 2 ^ 31) : nI a < nI b := Int32.not_le.mp (nI_ge h hb)
theorem nI_nl {a b : Nat} (h : b ≤ a) (ha : a < 2 ^ 31) : ¬ nI a < nI b := fun z => Int32.not_le.mpr z (nI_le h ha)
theorem nI_max {a b : Nat} (ha : a < 2 ^ 31) (hb : b < 2 ^ 31) : (if nI a < nI b then nI b else nI a) = nI (max a b) := by
  by_cases c : a < b
  · rw [if_pos (nI_ltx c hb), Nat.max_eq_right (by omega)]
  · rw [if_neg (nI_nl (by omega) ha), Nat.max_eq_left (by omega)]
theorem nI_z {a : Nat} (ha : a < 2 ^ 31) : nI a = 0 ↔ a = 0 := nI_eq (b := 0) ha (by decide)
theorem mkS_z {S : St} {q : Int32} : mkS S q = 0 ↔ ∀ v, v < 16 → xR S 0 v ≠ q := by
  unfold mkS
  rw [fb0 (fun v hv => List.mem_range.mp (List.mem_filter.mp hv).1), List.filter_eq_nil_iff]
  constructor
  · intro h v hv e
    exact h v (List.mem_range.mpr hv) (decide_eq_true e)
  · intro h v hv e
    exact h v (List.mem_range.mp hv) (of_decide_eq_true e)
theorem m163 {M : Mem} {n m e : Nat} {u0 u1 : Int32} (sx : SX M) (hm : mI M 114 10 = nI m) (hm40 : m + 1 < 41) (h6 : mI M 114 6 = nI e) : f_X6_meet_163 n 114 u0 u1 114 M = some (sI (sI (sI M 114 12 (u1 + u0)) 114 10 (nI (m + 1))) 115 (m + 1) (nI e)) := by
  have e10 : mI (sI M 114 12 (u1 + u0)) 114 10 = nI m := by rw [mI_n _ _ _ _ (by decide)]; exact hm
  have sx1 : SX (sI M 114 12 (u1 + u0)) := sx.e rfl
  rw [f_X6_meet_163, chk_t sx.1, bnd_e, chk_t sx1.1, e10, nI_1]
  generalize hM2 : sI (sI M 114 12 (u1 + u0)) 114 10 (nI (m + 1)) = M2
  have s2 : M2.1 = M.1 := by rw [← hM2]; rfl
  have sx2 := sx.e s2
  have f10 : mI M2 114 10 = nI (m + 1) := by rw [← hM2, mI_s]
  have f6 : mI M2 114 6 = nI e := by rw [← hM2, mI_n _ _ _ _ (by decide), mI_n _ _ _ _ (by decide)]; exact h6
  rw [bnd_e, sx2.2.1.2.1, bnd_e, chk_t sx2.2.2.1.1, f10, show mLn M2 115 = 41 from sx2.2.2.2.1.1, chk_t (inB_n hm40 (by decide)), sI_c (by omega), f6, bnd_e]
section
variable {X0 Y0 N : Nat} {t : Int32} {Q : Nat → Int32} {S : St} {pb pt : List Row4} {M : Mem} {e dC : Nat}
set_option maxHeartbeats 1000000 in
theorem m112 (h : SV X0 Y0 t N Q pb pt S M e dC) {A n m k : Nat} {ask u0 u1 : Int32} {sn : Nat → Int32} (hI : Inv N A S) (h16 : N ≤ 16) (hQ : ∀ v, v < N → qm N S v = Q v) (ha : mI M 114 9 = ask) (hs : ∀ v, v < N → mI M 118 v = sn v) (hm : mI M 114 10 = nI m) (hm40 : m + 1 < 41) (c12 : mI M 114 12 = nI k) (hn : 20 ≤ n) : f_X6_meet_112 n 114 u0 u1 114 M = some (sI (sI (sI (sI M 114 11 (u1 + u0)) 114 12 (nI (k + if sStk N ask sn S then 1 else 0))) 114 10 (nI (m + 1))) 115 (m + 1) (nI e)) := by
  obtain ⟨L0, sx0, _, _⟩ := id h
  generalize hM2 : sI M 114 11 (u1 + u0) = M2
  have o2 : ∀ o, o ≠ 114 → ∀ b, mI M2 o b = mI M o b := fun o n b => by rw [← hM2, mI_o _ _ _ _ _ n]
  have d2 : ∀ b, b ≠ 11 → mI M2 114 b = mI M 114 b := fun b n => by rw [← hM2, mI_n _ _ _ _ n]
  have h2 : SV X0 Y0 t N Q pb pt S M2 e dC := h.at5 (by rw [← hM2]; rfl) (fun o n b => o2 o (by omega) b) (d2 6 (by decide))
  have an := h2.asks (n := n) hI.1 h16 hQ (ask := ask) (sn := sn) (by rw [d2 9 (by decide)]; exact ha) (fun v hv => by rw [o2 118 (by decide)]; exact hs v hv) (by omega)
  obtain ⟨L, sx, c, p⟩ := h2
  have q := p.1
  have h8 : mI M2 63 8 = mkS S 1 := b_ext (fun i hi => by rw [p.2.2.1.2.2.1 i hi, mkS_b hi])
  have cm := p.cm (n := n) hI h16 (by omega)
  have c6 : mI M2 114 6 = nI e := c.2.2.2.2.1
  have c10 : mI M2 114 10 = nI m := by rw [d2 10 (by decide)]; exact hm
  have c12' : mI M2 114 12 = nI k := by rw [d2 12 (by decide)]; exact c12
  have y148 : ∀ z : Bool, f_X6_meet_148 n 114 (if z then 1 else 0) M2 = some (sI (sI (sI M2 114 12 (nI (k + if z then 1 else 0))) 114 10 (nI (m + 1))) 115 (m + 1) (nI e)) := by
    intro z
    cases z with
    | true =>
      rw [f_X6_meet_148, chk_t sx.1, if_pos rfl, if_neg ne10, m163 sx c10 hm40 c6, c12', nI_1]; rfl
    | false =>
      rw [f_X6_meet_148, chk_t sx.1, show (if (false = true) then (1 : Int32) else 0) = 0 from rfl, if_pos rfl, m163 sx c10 hm40 c6, c12', Int32.add_zero]; rfl
  have hd : ∀ y : Option Mem, (if mkS S 1 = 0 then f_X6_meet_148 n 114 0 M2 else (if nI (mv0 N S).length = 0 then (if ((asks' 0 N N S ask sn).foldl (fun m g => bon m g) (0 : Int32)) = 0 then f_X6_meet_148 n 114 1 M2 else f_X6_meet_148 n 114 0 M2) else f_X6_meet_148 n 114 0 M2)) = y → f_X6_meet_112 n 114 u0 u1 114 M = y := by
    intro y hy
    rw [f_X6_meet_112, chk_t sx0.1, hM2, bnd_e, chk_t sx.1, sx.2.1.1, bnd_e, cs_f q, h8, bnd_e, cs_f q, cm, obd_s, an, obd_s]
    exact hy
  have lm : (mv0 N S).length < 2 ^ 31 := by
    unfold mv0
    rw [List.length_append, List.length_map]
    have a := List.length_filter_le (fun l => !(xL S l).isEmpty) (List.range 256)
    have b : (lanes S).length ≤ 256 := by
      unfold lanes
      refine Nat.le_trans (List.length_filter_le _ _) ?_
      rw [List.length_range]; exact Nat.le_refl _
    have c : (inss N S).length ≤ 16 := by
      unfold inss
      refine Nat.le_trans (List.length_filter_le _ _) ?_
      first
        | (rw [List.length_range]; omega)
        | (rw [List.length_range']; omega)
    omega
  have emv : mvl N S ask sn = mv0 N S ++ (asks' 0 N N S ask sn).map (fun v => 272 + v) := rfl
  have ha0 : (List.range N).any (fun v => decide (xR S 0 v = 1)) = true ↔ ¬ mkS S 1 = 0 := by
    rw [mkS_z, List.any_eq_true]
    constructor
    · rintro ⟨v, hv, z⟩ y
      have := List.mem_range.mp hv
      exact y v (by omega) (of_decide_eq_true z)
    · intro y
      refine Classical.byContradiction fun z => y fun v hv e => z ⟨v, List.mem_range.mpr ?_, decide_eq_true e⟩
      rcases Nat.lt_or_ge v N with w | w
      · exact w
      · have := (hI.1 v hv).2.1 w
        rw [this] at e; cases e
  have hz : sStk N ask sn S = true ↔ (mv0 N S = [] ∧ asks' 0 N N S ask sn = []) ∧ ¬ mkS S 1 = 0 := by
    unfold sStk
    rw [Bool.and_eq_true, ha0, List.isEmpty_iff, emv, List.append_eq_nil_iff, List.map_eq_nil_iff]
  refine hd _ ?_
  by_cases z1 : mkS S 1 = 0
  · rw [if_pos z1]
    have : sStk N ask sn S = false := by
      rw [← Bool.not_eq_true, hz]; exact fun w => w.2 z1
    rw [this]
    exact y148 false
  · rw [if_neg z1]
    by_cases z2 : (mv0 N S).length = 0
    · rw [if_pos ((nI_z lm).mpr z2)]
      by_cases z3 : asks' 0 N N S ask sn = []
      · rw [if_pos ((fb0 (fun v hv => asks_m (by omega) hv)).mpr z3)]
        have : sStk N ask sn S = true := hz.mpr ⟨⟨List.length_eq_zero_iff.mp z2, z3⟩, z1⟩
        rw [this]
        exact y148 true
      · rw [if_neg (fun w => z3 ((fb0 (fun v hv => asks_m (by omega) hv)).mp w))]
        have : sStk N ask sn S = false := by
          rw [← Bool.not_eq_true, hz]; exact fun w => z3 w.1.2
        rw [this]
        exact y148 false
    · rw [if_neg (fun w => z2 ((nI_z lm).mp w))]
      have : sStk N ask sn S = false := by
        rw [← Bool.not_eq_true, hz]; exact fun w => z2 (List.length_eq_zero_iff.mpr w.1.1)
      rw [this]
      exact y148 false
end
