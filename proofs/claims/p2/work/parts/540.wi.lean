/-! ===== between the calls ===== -/
/-- of a tree's sets: each holds the first node, and with a node that isn't a leaf one below it -/
def TT (N : Nat) (B : Nat → Int32) : Prop := (N = 3 ∨ N = 7 ∨ N = 15) ∧ ∀ v, v < N → bt (B v) 0 = true ∧ ∀ u, 2 * u + 2 < N → bt (B v) u = true → bt (B v) (2 * u + 1) = true ∨ bt (B v) (2 * u + 2) = true
def TBs (N : Nat) (B : Nat → Int32) (tr : Int32) : Prop := (∀ v, v < N → ¬ B v = 0) ∧ (tr = 1 → TT N B)
/-- what holds of the sets -/
def TB (N : Nat) (S : St) : Prop := TBs N (fun v => xR S 17 v) (xR S 20 1)
theorem TBs.cg {N : Nat} {B B' : Nat → Int32} {tr : Int32} (h : TBs N B tr) (e : ∀ v, v < N → B' v = B v) : TBs N B' tr :=
  ⟨fun v hv => by rw [e v hv]; exact h.1 v hv, fun z => ⟨(h.2 z).1, fun v hv => by rw [e v hv]; exact (h.2 z).2 v hv⟩⟩
theorem TB.cg {N : Nat} {S S' : St} (h : TB N S) (hR : ∀ k j, k = 17 ∨ k = 20 → xR S' k j = xR S k j) : TB N S' := by
  unfold TB
  rw [hR 20 1 (by omega)]
  exact TBs.cg h (fun v _ => hR 17 v (by omega))
/-- the model between the calls -/
def SW (N A i : Nat) (S : St) : Prop := (2 ≤ N ∧ N ≤ 16) ∧ xR S 20 0 = nI N ∧ (xR S 20 1 = 0 ∨ xR S 20 1 = 1) ∧ (xR S 20 1 = 1 → N % 2 = 1) ∧ BI N S ∧ Inv N A S ∧ IX N S ∧ IZ N S ∧ A ≤ 20 * i ∧ PB N i S ∧ TB N S
/-- class and reference between the calls, i calls done -/
def WJ (M : Mem) (N A i : Nat) (Q : Nat → Int32) (S : St) : Prop := CW M N Q S ∧ RV M false 0 S [] [] ∧ mI M 120 7 = 0 ∧ SW N A i S ∧ ∀ v, v < N → qm N S v = Q v
def WI (i : Nat) (M : Mem) : Prop := ∃ N A Q S, WJ M N A i Q S
section
variable {N A i : Nat} {S : St}
theorem SW.n2 (h : SW N A i S) : 2 ≤ N := h.1.1
theorem SW.n16 (h : SW N A i S) : N ≤ 16 := h.1.2
theorem SW.n (h : SW N A i S) : xR S 20 0 = nI N := h.2.1
theorem SW.t2 (h : SW N A i S) : xR S 20 1 = 0 ∨ xR S 20 1 = 1 := h.2.2.1
theorem SW.t (h : SW N A i S) : xR S 20 1 = 1 → N % 2 = 1 := h.2.2.2.1
theorem SW.bi (h : SW N A i S) : BI N S := h.2.2.2.2.1
theorem SW.inv (h : SW N A i S) : Inv N A S := h.2.2.2.2.2.1
theorem SW.ix (h : SW N A i S) : IX N S := h.2.2.2.2.2.2.1
theorem SW.iz (h : SW N A i S) : IZ N S := h.2.2.2.2.2.2.2.1
theorem SW.a (h : SW N A i S) : A ≤ 20 * i := h.2.2.2.2.2.2.2.2.1
theorem SW.pb (h : SW N A i S) : PB N i S := h.2.2.2.2.2.2.2.2.2.1
theorem SW.tb (h : SW N A i S) : TB N S := h.2.2.2.2.2.2.2.2.2.2
theorem SW.ps (h : SW N A i S) (hi : i ≤ 511) : PhS S ≤ 8176 := PhS_b h.inv h.ix h.iz h.n16 hi h.pb
theorem SW.tfl (h : SW N A i S) (hi : i ≤ 511) : (fl S).length ≤ 8176 := Nat.le_trans (fl_PhS S) (h.ps hi)
theorem SW.h7 (h : SW N A i S) : ∀ v, v < 16 → xR S 7 v = 0 ∨ xR S 7 v = 1 := fun v hv => (h.inv.1 v hv).2.2.1
theorem SW.hq (h : SW N A i S) : ∀ v, v < N → ∀ j, N ≤ j → j < 32 → bt (qm N S v) j = false := qm_hi h.bi h.n16 h.t
theorem SW.qu (h : SW N A i S) : QU N S := fun _ hv => qm_ub h.bi h.n16 h.t h.h7 hv
theorem SW.wt (h : SW N A i S) : ∀ v, v < 16 → ∀ w, w ∈ xW S v → w.1 < 16 := fun v hv w hw => by
  have := ((h.inv.2.2.2.2.2.1 v hv).1.2.2 w hw).1
  have := h.n16
  omega
theorem SW.mo (h : SW N A i S) : SW N A (i + 1) S := by
  obtain ⟨a, b, c, d, e, f, g, k, l, m, tb⟩ := h
  exact ⟨a, b, c, d, e, f, g, k, by omega, fun a ha => by have := m a ha; omega, tb⟩
end
theorem WJ.mo {M : Mem} {N A i : Nat} {Q : Nat → Int32} {S : St} (h : WJ M N A i Q S) : WI (i + 1) M := ⟨N, A, Q, S, h.1, h.2.1, h.2.2.1, h.2.2.2.1.mo, h.2.2.2.2⟩
/-- the class has stepped, in the hall -/
theorem WJ.cls {M M1 : Mem} {N A i : Nat} {Q Q' : Nat → Int32} {S S' : St} (h : WJ M N A i Q S) (f : FrW4 M M1 14) (p' : ∀ X Y, HV M 14 X Y 0 N Q S [] [] → HV M1 14 X Y 0 N Q' S' [] []) (hR : ∀ k j, k = 17 ∨ k = 19 ∨ k = 20 → xR S' k j = xR S k j) : CW M1 N Q' S' ∧ RV M1 false 0 S [] [] ∧ (∀ b, mI M1 120 b = mI M 120 b) ∧ isO M1 10 120 := by
  obtain ⟨X, Y, L, p, _⟩ := id h.1
  obtain ⟨r1, r2, r3⟩ := h.2.1.w4 p f
  exact ⟨h.1.hall f p' (hR 20 1 (by omega)) (fun v => hR 17 v (by omega)) (fun l _ => hR 19 l (by omega)), r1, r2, r3⟩
/-- what the two of them answer, and how they then stand -/
def Okk (i : Nat) (x : Option (Int32 × Mem)) (y : Mem → Option (Int32 × Mem)) : Prop := ∃ r M1 M2, x = some (r, M1) ∧ isO M1 10 120 ∧ y M1 = some (r, M2) ∧ WI (i + 1) M2
theorem Okk.same {M : Mem} {N A i : Nat} {Q : Nat → Int32} {S : St} {x : Option (Int32 × Mem)} {y : Mem → Option (Int32 × Mem)} (h : WJ M N A i Q S) {r : Int32} (hx : x = some (r, M)) (hy : y M = some (r, M)) : Okk i x y :=
  ⟨r, M, M, hx, h.2.1.1.io (by decide) (by decide) (by decide), hy, h.mo⟩
theorem WJ.g {M : Mem} {N A i : Nat} {Q : Nat → Int32} {S : St} (h : WJ M N A i Q S) {α : Type} (x : Option α) : chk (isO M 9 0) x = x ∧ mR M 0 0 = 1 ∧ mR M 0 2 = 14 ∧ mR M 0 3 = 63 ∧ chk (isO M 7 1) x = x ∧ chk (isO M 2 14) x = x := by
  obtain ⟨X, Y, L, p, sb, xg, _⟩ := id h.1
  exact ⟨chk_t xg.1, xg.2.1, xg.2.2.2.1, xg.2.2.2.2.1, sb.f x, cs_f p.1 x⟩
theorem ndc {M : Mem} {N : Nat} {S : St} (sb : SB M N S) {k : Nat} (hk : k < N) (h16 : N ≤ 16) : f_X7_isNode 1 (nI k) M = some 1 := by
  rw [f_X7_isNode, if_neg (show ¬ nI k < (0 : Int32) from nI_nlt (b := 0) (Nat.zero_le _) (by omega)), sb.f, sb.n, if_neg (nI_ge (by omega) (by omega))]
theorem ndc0 {M : Mem} {N : Nat} {S : St} (sb : SB M N S) {a : Int32} (ha : Out N a) : f_X7_isNode 1 a M = some 0 := by
  rw [f_X7_isNode]
  rcases ha with h | h
  · rw [if_pos h]
  · by_cases c : a < 0
    · rw [if_pos c]
    · rw [if_neg c, sb.f, sb.n, if_pos h]
theorem ndr {M : Mem} {N : Nat} {S : St} {tw : Bool} {t : Int32} {pb pt : List Row4} (r : RV M tw t S pb pt) (hN : xR S 20 0 = nI N) {k : Nat} (hk : k < N) (h16 : N ≤ 16) : f_X10_isNode 120 (nI k) M = some 1 := by
  obtain ⟨m, rfl⟩ : ∃ m, N = m + 1 := ⟨N - 1, by omega⟩
  rw [f_X10_isNode, rs_f r.1, rs_0 r.1, bnd_e, rs_fa r.1, rs_c0 r.1, cl0, r.N hN, nI_pred, f_isI M (show k ≤ m by omega) (by omega), obd_s, chk_t (Or.inr rfl)]
theorem ndr0 {M : Mem} {N : Nat} {S : St} {tw : Bool} {t : Int32} {pb pt : List Row4} (r : RV M tw t S pb pt) (hN : xR S 20 0 = nI N) (h0 : 0 < N) (h16 : N ≤ 16) {a : Int32} (ha : Out N a) : f_X10_isNode 120 a M = some 0 := by
  obtain ⟨m, rfl⟩ : ∃ m, N = m + 1 := ⟨N - 1, by omega⟩
  rw [f_X10_isNode, rs_f r.1, rs_0 r.1, bnd_e, rs_fa r.1, rs_c0 r.1, cl0, r.N hN, nI_pred, out_is ha (lt_of (by
    have := nI_lt (a := m) (b := m + 1) (by omega) (by omega)
    rwa [Int32.lt_iff_toInt_lt] at this)), obd_s, chk_t (Or.inl rfl)]
/-- ask -/
theorem op21 {M : Mem} {i n : Nat} (h : WI i M) (hi : i ≤ 511) (a : Int32) (hn : 100000 ≤ n) : Okk i (f_X9_ask n 0 a M) (fun M1 => f_X10_ask n 120 a M1) := by
  obtain ⟨N, A, Q, S, w⟩ := h
  obtain ⟨X, Y, L, p, sb, xg, xr⟩ := id w.1
  obtain ⟨_, r, z7, sw, hQ⟩ := id w
  have h16 := sw.n16
  have h2 := sw.n2
  have fl0 := sw.tfl hi
  have q := p.1
  rcases out_in (N := N) (by omega) a with ha | ⟨k, hk, rfl⟩
  · refine Okk.same w (r := -1) ?_ ?_
    · rw [f_X9_ask, chk_t xg.1, xg.2.1, bnd_e, sb.f, ndc0 sb ha, obd_s, if_pos rfl]
    · show f_X10_ask n 120 a M = _
      rw [f_X10_ask, rs_f r.1, ndr0 r sw.n (by omega) h16 ha, obd_s, if_pos rfl]
  · have may := p.may sw.inv.1 h16 hk (hQ k hk)
    by_cases c : mayA N k S = true
    · obtain ⟨M1, e1, p1, f1⟩ := p.tak (n := n) h16 hk (by
        unfold mayA at c
        rw [of_decide_eq_true (Bool.and_eq_true _ _ |>.mp c).1]; decide) (hQ k hk) (by omega) (by omega)
      have pp : ∀ X Y, HV M 14 X Y 0 N Q S [] [] → HV M1 14 X Y 0 N Q (ak 0 N k S) [] [] := fun X Y p' => by
        obtain ⟨M1', e1', p1', _⟩ := p'.tak (n := n) h16 hk (by
          unfold mayA at c
          rw [of_decide_eq_true (Bool.and_eq_true _ _ |>.mp c).1]; decide) (hQ k hk) (by omega) (by omega)
        rw [e1] at e1'
        cases e1'
        exact p1'
      obtain ⟨cw, r1, s120, io⟩ := w.cls f1.w4 pp (fun kk j hk => ak_Rk (by omega))
      obtain ⟨M2, e2, r2, f2⟩ := r1.can (n := n) sw.n h16 sw.t (v := k) (by omega) (by omega)
      obtain ⟨M3, e3, r3, f3⟩ := r2.tak (n := n) sw.n h16 sw.t (v := k) (by omega) (by omega) (by omega)
      have F : Fr PA M1 M3 := Fr.tr (f2.mo P2_A) f3
      have s2 : xR (ak 0 N k S) 2 k = xR S 1 k + 1 := by rw [ak_R (by decide), if_pos rfl]; rfl
      have cm := c
      unfold mayA at c
      have c0 : xR S 0 k = 0 := of_decide_eq_true (Bool.and_eq_true _ _ |>.mp c).1
      have c7 : xR S 7 k = 0 := of_decide_eq_true (Bool.and_eq_true _ _ |>.mp (Bool.and_eq_true _ _ |>.mp c).2).1
      have iv := sw.inv.tak h16 hk c0 (by have := sw.a; omega) (fun j a b => sw.hq k hk j a b) 0
      obtain ⟨x1, x2⟩ := ak_X h16 sw.ix hk (fun z => by rw [c7] at z; exact absurd z (by decide)) (sw.qu k hk) 0
      refine ⟨xR S 1 k + 1, M1, M3, ?_, io, ?_, N, A + 1, Q, ak 0 N k S, ?_, r3, ?_, ⟨sw.1, by rw [ak_Rk (by omega)]; exact sw.n, by rw [ak_Rk (by omega)]; exact sw.t2, by rw [ak_Rk (by omega)]; exact sw.t, ?_, iv, x1, sw.iz.tak 0, by have := sw.a; omega, fun b hb => ?_, sw.tb.cg (fun kk j hk => ak_Rk (by omega))⟩, fun v hv => by rw [(Qk.ak 0 N k S).m]; exact hQ v hv⟩
      · have d1 := p1.1
        have k6 : k < 16 := by omega
        have xg1 := xg.s f1.w4.s1
        rw [f_X9_ask, chk_t xg.1, xg.2.1, bnd_e, sb.f, ndc sb hk h16, obd_s, if_neg ne10, xg.2.2.2.1, bnd_e, cs_f q, may, obd_s, if_pos cm, if_neg ne10, bnd_e, cs_f q, e1, obd_s, chk_t xg1.1, xg1.2.2.2.1, bnd_e, cs_f d1, cs_h2 d1, bnd_e, cs_a10 d1, cs_i10 d1 k6, cs_rpc d1 k6, bnd_e, cs_po d1 k6, p1.fs k6 (a := 1) (k := 2) (by decide), s2]
      · show f_X10_ask n 120 (nI k) M1 = _
        rw [f_X10_ask, rs_f r1.1, ndr r1 sw.n hk h16, obd_s, if_neg ne10, e2, obd2_s, if_pos (show mayA N k S = true from c), if_neg ne10, rs_f r2.1, e3, obd_s, rs_f r3.1, r3.get2 (by omega), obd_s, s2]
      · exact cw.ref F.1 (fun o ho b => F.2.1 o (fun z => ho ⟨by have := z.1; omega, by have := z.2; omega⟩) b) (fun _ o _ b => F.2.2 o b)
      · rw [F.2.1 120 (fun z => by have := z.1; omega), s120]; exact z7
      · intro v hv j a b
        rw [ak_Rk (by omega)]; exact sw.bi v hv j a b
      · have nb : nbr N (ak 0 N k S) = nbr N S := smN_c N (fun v _ => by rw [ak_Rk (by omega)])
        rw [nb]
        have := x2 b (by omega)
        have := sw.pb b hb
        have : (if b < N ∧ bt (qm N S k) b = true then 1 else 0 : Nat) ≤ 1 := by split <;> omega
        omega
    · obtain ⟨M2, e2, r2, f2⟩ := r.can (n := n) sw.n h16 sw.t (v := k) (by omega) (by omega)
      refine ⟨-1, M, M2, ?_, r.1.io (by decide) (by decide) (by decide), ?_, N, A, Q, S, ?_, r2, ?_, sw.mo, hQ⟩
      · rw [f_X9_ask, chk_t xg.1, xg.2.1, bnd_e, sb.f, ndc sb hk h16, obd_s, if_neg ne10, xg.2.2.2.1, bnd_e, cs_f q, may, obd_s, if_neg c, if_pos rfl]
      · show f_X10_ask n 120 (nI k) M = _
        rw [f_X10_ask, rs_f r.1, ndr r sw.n hk h16, obd_s, if_neg ne10, e2, obd2_s, if_neg c, if_pos rfl]
      · exact w.1.ref f2.1 (fun o ho b => f2.2.1 o (fun z => ho (by unfold P2 at z; omega)) b) (fun _ o _ b => f2.2.2 o b)
      · rw [f2.2.1 120 (by unfold P2; decide)]; exact z7
