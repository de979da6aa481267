/-! ===== a move of the reference, by a draw ===== -/
/-- a move's number: a lane; 256 + one that leaves; 272 + one that asks -/
def mvl (N : Nat) (S : St) (ask : Int32) (sn : Nat → Int32) : List Nat := lanes S ++ (inss N S).map (fun v => 256 + v) ++ (asks' 0 N N S ask sn).map (fun v => 272 + v)
def ci (c : Nat) : Int32 := if c < 256 then nI c else if c < 272 then lvc (c - 256) else akc (c - 272)
def dm (t : Int32) (N c : Nat) (S : St) : St := if c < 256 then br t N (c / 16) (c % 16) S else if c < 272 then lv t N (c - 256) S else ak t N (c - 272) S
theorem lanes_in {S : St} {l : Nat} (h : l ∈ lanes S) : l < 256 ∧ xL S l ≠ [] := by
  unfold lanes at h
  have := List.mem_filter.mp h
  refine ⟨List.mem_range.mp this.1, fun e => ?_⟩
  rw [e] at this
  exact absurd this.2 (by simp)
theorem inss_in {N : Nat} {S : St} {v : Nat} (h : v ∈ inss N S) : v < N ∧ xR S 0 v = 2 := by
  unfold inss at h
  have := List.mem_filter.mp h
  exact ⟨List.mem_range.mp this.1, of_decide_eq_true this.2⟩
theorem asks_in {N : Nat} {S : St} {ask : Int32} {sn : Nat → Int32} {v : Nat} (h : v ∈ asks' 0 N N S ask sn) : v < N ∧ bt ask v = true ∧ mayA N v S = true ∧ xR S 2 v = sn v := by
  unfold asks' at h
  have := List.mem_filter.mp h
  have h2 := List.mem_range'_1.mp this.1
  have h3 := Bool.and_eq_true _ _ |>.mp this.2
  have h4 := Bool.and_eq_true _ _ |>.mp h3.2
  exact ⟨by omega, h3.1, h4.1, of_decide_eq_true h4.2⟩
theorem mvc_e {N : Nat} (h16 : N ≤ 16) (S : St) (ask : Int32) (sn : Nat → Int32) : mvc N S ask sn = (mvl N S ask sn).map ci := by
  have e1 : (lanes S).map nI = (lanes S).map ci := by
    apply List.map_congr_left
    intro l hl
    unfold ci
    rw [if_pos (lanes_in hl).1]
  have e2 : (inss N S).map lvc = (inss N S).map (ci ∘ fun v => 256 + v) := by
    apply List.map_congr_left
    intro v hv
    have := (inss_in hv).1
    show lvc v = ci (256 + v)
    unfold ci
    rw [if_neg (by omega), if_pos (by omega), Nat.add_sub_cancel_left]
  have e3 : (asks' 0 N N S ask sn).map akc = (asks' 0 N N S ask sn).map (ci ∘ fun v => 272 + v) := by
    apply List.map_congr_left
    intro v hv
    show akc v = ci (272 + v)
    unfold ci
    rw [if_neg (by omega), if_neg (by omega), Nat.add_sub_cancel_left]
  unfold mvc mvl
  rw [List.map_append, List.map_append, List.map_map, List.map_map, e1, e2, e3]
theorem mvl_in {N : Nat} {S : St} {ask : Int32} {sn : Nat → Int32} {c : Nat} (h : c ∈ mvl N S ask sn) : (c < 256 ∧ xL S c ≠ []) ∨ (256 ≤ c ∧ c - 256 < N ∧ xR S 0 (c - 256) = 2) ∨ (272 ≤ c ∧ c - 272 < N ∧ mayA N (c - 272) S = true) := by
  unfold mvl at h
  rcases List.mem_append.mp h with h | h
  · rcases List.mem_append.mp h with h | h
    · exact Or.inl (lanes_in h)
    · obtain ⟨v, hv, rfl⟩ := List.mem_map.mp h
      have := inss_in hv
      rw [Nat.add_sub_cancel_left]
      exact Or.inr (Or.inl ⟨by omega, this.1, this.2⟩)
  · obtain ⟨v, hv, rfl⟩ := List.mem_map.mp h
    have := asks_in hv
    rw [Nat.add_sub_cancel_left]
    exact Or.inr (Or.inr ⟨by omega, this.1, this.2.2.1⟩)
theorem mvl_len {N : Nat} (S : St) (ask : Int32) (sn : Nat → Int32) : (mvl N S ask sn).length ≤ 256 + N + N := by
  have h1 := lanes_len S
  have h2 := inss_len N S
  have h3 : (asks' 0 N N S ask sn).length ≤ N := by
    unfold asks'
    have := List.length_filter_le (fun v => bt ask v && (mayA N v S && decide (xR S 2 v = sn v))) (List.range' 0 N)
    rw [List.length_range'] at this
    exact this
  unfold mvl
  simp only [List.length_append, List.length_map]
  omega
theorem Lok_of {N A : Nat} {S : St} (h : Inv N A S) (hA : A < 1048576) {l : Nat} (hl : l < 256) {x : Ltr} (hx : x ∈ xL S l) : Lok x := by
  obtain ⟨z1, s, z2, z3⟩ := (h.2.2.2.2.1 l hl).1 x hx
  exact ⟨z1, s, by omega, z3⟩
set_option maxHeartbeats 1000000 in
theorem RV.tdm {M : Mem} {tw : Bool} {t : Int32} {S : St} {pb pt : List Row4} (h : RV M tw t S pb pt) {N A : Nat} (hI : Inv N A S) (hN : xR S 20 0 = nI N) (h2N : 2 ≤ N) (h16 : N ≤ 16) (ht : xR S 20 1 = 1 → N % 2 = 1) (hA : A < 1048576) (hl : (fl S).length + N ≤ 9000) {ask : Int32} {sn : Nat → Int32} (hm : MV M (mvc N S ask sn)) {k c : Nat} (hc : (mvl N S ask sn)[k]? = some c) {n : Nat} (hn : 9200 ≤ n) : ∃ M', f_X10_doMove n 120 (nI k) M = some M' ∧ RV M' tw t (dm t N c S) pb pt ∧ Fr PA M M' := by
  have hk := (List.getElem?_eq_some_iff.mp hc).1
  have hkl := mvl_len (N := N) S ask sn
  have hcode : mI M 124 (nI k).toNatClampNeg = ci c := by rw [nI_clamp (by omega)]; exact hm.2 k (ci c) (by rw [mvc_e h16, List.getElem?_map, hc]; rfl)
  have hin := mvl_in (List.mem_of_getElem? hc)
  unfold dm
  by_cases c1 : c < 256
  · rw [if_pos c1]
    have hx : xL S c ≠ [] := by rcases hin with z | z | z <;> first | exact z.2 | omega
    obtain ⟨x, r, ex⟩ := List.exists_cons_of_ne_nil hx
    have hfg : c / 16 < N ∧ c % 16 < N := by
      apply Classical.byContradiction
      intro q
      exact hx ((hI.2.2.2.2.1 c c1).2 q)
    have ec : 16 * (c / 16) + c % 16 = c := by omega
    obtain ⟨M', e', h', f'⟩ := h.tbr hN h2N h16 (f := c / 16) (g := c % 16) (by omega) (by omega) (by rw [ec]; exact ex) (Lok_of hI hA c1 (by rw [ex]; simp)) (Hok_of hI h16 (by omega) _) hl hn
    rw [ec] at e'
    have e1 : ci c = nI c := by unfold ci; rw [if_pos c1]
    obtain ⟨p1, p2⟩ := f_pairs c c1
    have e2 := h.tat (f := c / 16) (g := c % 16) (by omega) (by omega) (by rw [ec]; exact ex) (n := n) (by omega)
    rw [ec] at e2
    refine ⟨M', ?_, h', f'⟩
    rw [f_X10_doMove, rs_f h.1, rs_4 h.1, bnd_e, rs_f4 h.1, rs_c4 h.1 (by omega), hcode, e1, if_pos (nI_pos' (by omega)), bnd_e, rs_f4 h.1, rs_c4 h.1 (by omega), hcode, e1, if_pos (by rw [show (256 : Int32) = nI 256 from rfl]; exact nI_lt c1 (by decide)), bnd_e, rs_f4 h.1, rs_c4 h.1 (by omega), hcode, e1, f_X10_takeFirst, chk_t (by decide), chk_t (by decide), rs_f h.1, p2, p1, e2, obd_s, e', obd2_s, obd_s]
  · rw [if_neg c1]
    by_cases c2 : c < 272
    · rw [if_pos c2]
      have hx : c - 256 < N := by rcases hin with z | z | z <;> omega
      obtain ⟨M', e', h', f'⟩ := h.tlv hN h16 (v := c - 256) (by omega) hl hn
      have e1 : ci c = lvc (c - 256) := by unfold ci; rw [if_neg c1, if_pos c2]
      have e3 : ∀ v, v < 16 → ¬ (0 : Int32) ≤ lvc v ∧ (-1 : Int32) - lvc v = nI v := by decide
      have e4 := e3 (c - 256) (by omega)
      refine ⟨M', ?_, h', f'⟩
      rw [f_X10_doMove, rs_f h.1, rs_4 h.1, bnd_e, rs_f4 h.1, rs_c4 h.1 (by omega), hcode, e1, if_neg e4.1, bnd_e, rs_f4 h.1, rs_c4 h.1 (by omega), hcode, e1, e4.2, e', obd_s]
    · rw [if_neg c2]
      have hx : c - 272 < N := by rcases hin with z | z | z <;> omega
      obtain ⟨M', e', h', f'⟩ := h.tak hN h16 ht (v := c - 272) (by omega) hl hn
      have e1 : ci c = nI (256 + (c - 272)) := by unfold ci; rw [if_neg c1, if_neg c2]; rfl
      have e3 : nI (256 + (c - 272)) - (256 : Int32) = nI (c - 272) := by
        rw [show (256 : Int32) = nI 256 from rfl, pk_sub (by omega), Nat.add_sub_cancel_left]
      refine ⟨M', ?_, h', f'⟩
      rw [f_X10_doMove, rs_f h.1, rs_4 h.1, bnd_e, rs_f4 h.1, rs_c4 h.1 (by omega), hcode, e1, if_pos (nI_pos' (by omega)), bnd_e, rs_f4 h.1, rs_c4 h.1 (by omega), hcode, e1, if_neg (by rw [show (256 : Int32) = nI 256 from rfl]; exact nI_nlt (by omega) (by omega)), bnd_e, rs_f4 h.1, rs_c4 h.1 (by omega), hcode, e1, e3, e', obd_s]
/-- a draw -/
def drw (g : Int64) : Int64 := ((g * (1103515245 : Int64)) + (12345 : Int64)) - ((g * (1103515245 : Int64)) + (12345 : Int64)) / (2147483648 : Int64) * (2147483648 : Int64)
def drk (g : Int64) (m : Int32) : Int32 := ((((drw g) / (65536 : Int64)) - ((drw g) / (65536 : Int64)) / (m.toInt64) * (m.toInt64))).toInt32
/-- the seed is one that draws leave at no negative number -/
def Gk (g : Int64) : Prop := ∃ x : Nat, x < 2147483648 ∧ g = lN x
theorem drw_e {x : Nat} (hx : x < 2147483648) : drw (lN x) = lN ((x * 1103515245 + 12345) % 2147483648) := by
  unfold drw
  rw [show (1103515245 : Int64) = lN 1103515245 from rfl, show (12345 : Int64) = lN 12345 from rfl, show (2147483648 : Int64) = lN 2147483648 from rfl, lN_mul, lN_add, pk_lRem (by omega) (by decide) (by decide)]
theorem Gk_drw {g : Int64} (h : Gk g) : Gk (drw g) := by
  obtain ⟨x, hx, rfl⟩ := h
  exact ⟨_, Nat.mod_lt _ (by decide), drw_e hx⟩
theorem drk_lt {g : Int64} (h : Gk g) {m : Nat} (h0 : 0 < m) (hm : m < 1000) : ∃ k, k < m ∧ drk g (nI m) = nI k := by
  obtain ⟨x, hx, rfl⟩ := h
  have hy : (x * 1103515245 + 12345) % 2147483648 < 2147483648 := Nat.mod_lt _ (by decide)
  refine ⟨(x * 1103515245 + 12345) % 2147483648 / 65536 % m, Nat.mod_lt _ h0, ?_⟩
  unfold drk
  rw [drw_e hx]
  generalize (x * 1103515245 + 12345) % 2147483648 = y at hy
  rw [show (65536 : Int64) = lN 65536 from rfl, pk_lDiv (by omega) (by decide) (by decide), nI_l (by omega), pk_lRem (by omega) h0 (by omega), lN_i]
theorem asks_0 (N : Nat) (S : St) (sn : Nat → Int32) : asks' 0 N N S 0 sn = [] := by
  unfold asks'
  rw [List.filter_eq_nil_iff]
  intro v _
  rw [b_0]
  simp
def mv0 (N : Nat) (S : St) : List Nat := lanes S ++ (inss N S).map (fun v => 256 + v)
theorem mvl_0 (N : Nat) (S : St) (sn : Nat → Int32) : mvl N S 0 sn = mv0 N S := by
  unfold mvl mv0
  rw [asks_0]
  simp
/-- which move a draw tells -/
def dk (g : Int64) (m : Nat) : Nat := (drk g (nI m)).toNatClampNeg
theorem RV.tsL {M : Mem} {tw : Bool} {t : Int32} {S : St} {pb pt : List Row4} (h : RV M tw t S pb pt) (o k : Nat) (x : Int64) : RV (sL M o k x) tw t S pb pt := h.cg rfl rfl (fun _ => rfl) (fun _ => rfl)
theorem mL_s (M : Mem) (o k : Nat) (x : Int64) : mL (sL M o k x) o k = x := by
  show up2 M.2.2 o k x o k = x
  exact up2_s _ _ _ _
theorem mL_o (M : Mem) (o k : Nat) (x : Int64) {a b : Nat} (h : ¬ (a = o ∧ b = k)) : mL (sL M o k x) a b = mL M a b := by
  show up2 M.2.2 o k x a b = M.2.2 a b
  unfold up2
  rw [if_neg h]
theorem sL_G (M : Mem) (x : Int64) : FrG M (sL M 120 8 x) := ⟨rfl, fun _ _ _ => rfl, fun _ _ => rfl, fun o k q => mL_o _ _ _ _ q⟩
set_option maxHeartbeats 1000000 in
theorem RV.goO {M : Mem} {tw : Bool} {t : Int32} {S : St} {pb pt : List Row4} (h : RV M tw t S pb pt) {N A : Nat} (hI : Inv N A S) (hN : xR S 20 0 = nI N) (h2N : 2 ≤ N) (h16 : N ≤ 16) (ht : xR S 20 1 = 1 → N % 2 = 1) (hA : A < 1048576) (hl : (fl S).length + N ≤ 9000) (hask : mI M 120 7 = 0) {g : Int64} (hg : mL M 120 8 = g) (hG : Gk g) {n : Nat} (hn : 9200 ≤ n) : ∃ M', (mv0 N S = [] → f_X10_goOnce n 120 M = some (0, M') ∧ RV M' tw t S pb pt ∧ mL M' 120 8 = g) ∧ (mv0 N S ≠ [] → ∃ c, (mv0 N S)[dk g (mv0 N S).length]? = some c ∧ f_X10_goOnce n 120 M = some (1, M') ∧ RV M' tw t (dm t N c S) pb pt ∧ mL M' 120 8 = drw g) ∧ FrG M M' := by
  obtain ⟨M1, e1, h1, m1, f1⟩ := h.lay hN h16 ht hask (sn := fun v => mI M 125 v) (fun v _ => rfl) hn
  have e0 : mvc N S 0 (fun v => mI M 125 v) = (mv0 N S).map ci := by rw [mvc_e h16, mvl_0]
  have len : mI M1 120 6 = nI (mv0 N S).length := by rw [m1.1, e0, List.length_map]
  have hml := mvl_len (N := N) S 0 (fun v => mI M 125 v)
  rw [mvl_0] at hml
  have g1 : mL M1 120 8 = g := (f1.2.2.2 120 8).trans hg
  by_cases c : mv0 N S = []
  · refine ⟨M1, fun _ => ⟨?_, h1, g1⟩, fun q => absurd c q, f1.G⟩
    rw [f_X10_goOnce, rs_f h.1, e1, obd_s, rs_f h1.1, len, c, if_pos (by rfl)]
  · have hpos : 0 < (mv0 N S).length := List.length_pos_iff.mpr c
    obtain ⟨k, hk, ek⟩ := drk_lt hG hpos (by omega)
    have edk : dk g (mv0 N S).length = k := by unfold dk; rw [ek, nI_clamp (by omega)]
    generalize hM2 : sL M1 120 8 (drw g) = M2
    have h2 : RV M2 tw t S pb pt := by rw [← hM2]; exact h1.tsL _ _ _
    have m2 : MV M2 (mvc N S 0 (fun v => mI M 125 v)) := by rw [← hM2]; exact m1
    have g2 : mL M2 120 8 = drw g := by rw [← hM2, mL_s]
    have f2 : FrG M1 M2 := by rw [← hM2]; exact sL_G _ _
    have hc : (mvl N S 0 (fun v => mI M 125 v))[k]? = some ((mv0 N S)[k]) := by rw [mvl_0]; exact List.getElem?_eq_getElem hk
    obtain ⟨M3, e3, h3, f3⟩ := h2.tdm hI hN h2N h16 ht hA hl m2 hc hn
    refine ⟨M3, fun q => absurd q c, fun _ => ⟨(mv0 N S)[k], by rw [edk]; exact List.getElem?_eq_getElem hk, ?_, h3, (f3.2.2 120 8).trans g2⟩, FrG.tr f1.G (FrG.tr f2 (FrM.ofA f3).G)⟩
    have nz : ¬ (nI (mv0 N S).length).toInt64 = 0 := by
      rw [nI_l (by omega), show (0 : Int64) = lN 0 from rfl]
      exact fun q => by have := (lN_eq (by omega) (by decide)).mp q; omega
    have ek2 : (((((drw g) / (65536 : Int64)) - ((drw g) / (65536 : Int64)) / ((nI (mv0 N S).length).toInt64) * ((nI (mv0 N S).length).toInt64))).toInt32) = nI k := ek
    rw [f_X10_goOnce, rs_f h.1, e1, obd_s, rs_f h1.1, len, if_neg (nI_ne0 hpos (by omega)), f_X10_draw, rs_f h1.1, chk_t (by decide), bnd_e, chk_t (by decide), chk_t nz, g1]
    rw [show ((g * (1103515245 : Int64)) + (12345 : Int64)) - ((g * (1103515245 : Int64)) + (12345 : Int64)) / (2147483648 : Int64) * (2147483648 : Int64) = drw g from rfl, hM2, g2, ek2, obd2_s, rs_f h2.1, e3, obd_s]
