/-! ===== the class keeps a state: a place ===== -/
def wms (S : St) (v : Nat) : Int32 := (xW S v).foldl (fun m w => bon m w.1) 0
theorem fb_b : ∀ (l : List Wtr) (m : Int32) (u : Nat), u < 32 → (∀ w, w ∈ l → w.1 < 32) → bt (l.foldl (fun m w => bon m w.1) m) u = (bt m u || decide (u ∈ l.map Prod.fst)) := by
  intro l
  induction l with
  | nil => intro m u _ _; simp
  | cons w l ih =>
    intro m u hu hw
    rw [List.foldl_cons, ih _ u hu (fun x hx => hw x (List.mem_cons_of_mem _ hx)), bt_on _ (hw w (by simp)) hu, List.map_cons]
    have e : decide (u ∈ w.1 :: l.map Prod.fst) = (decide (u = w.1) || decide (u ∈ l.map Prod.fst)) := by
      rw [← Bool.decide_or]
      congr 1
      rw [List.mem_cons]
    rw [e, Bool.or_assoc]
theorem wms_b {S : St} {v u : Nat} (hu : u < 32) (hw : ∀ w, w ∈ xW S v → w.1 < 16) : bt (wms S v) u = decide (u ∈ (xW S v).map Prod.fst) := by
  unfold wms
  rw [fb_b _ _ _ hu (fun w z => by have := hw w z; omega), b_0, Bool.false_or]
def wst (S : St) (v u : Nat) : Int32 := match (xW S v).find? (fun w => w.1 == u) with
  | none => 0
  | some w => w.2
def serP (S : St) (v : Nat) : List Int32 := [xR S 1 v, xR S 2 v, xR S 3 v, xR S 4 v, xR S 5 v, xR S 6 v, xR S 8 v, (if xR S 8 v = -1 then -1 else xR S 9 v), xR S 10 v, wms S v] ++ (ms (wms S v)).map (wst S v)
def SV (X0 Y0 : Nat) (t : Int32) (N : Nat) (Q : Nat → Int32) (pb pt : List Row4) (S : St) (M : Mem) (e dC : Nat) : Prop := ∃ L, SX M ∧ CL M dC L e ∧ HV M 63 (X0 + L / 16) (Y0 + 2 * L) t N Q S pb pt
def WS (X0 Y0 : Nat) (t : Int32) (N : Nat) (Q : Nat → Int32) (pb pt : List Row4) (S : St) (M : Mem) (e dC : Nat) (M' : Mem) (dC' : Nat) (xs : List Int32) : Prop := SV X0 Y0 t N Q pb pt S M' (e + xs.length) dC' ∧ (∀ j, j < e → mI M' dC' j = mI M dC j) ∧ (∀ i x, xs[i]? = some x → mI M' dC' (e + i) = x) ∧ FrC M M' dC dC'
section
variable {X0 Y0 N : Nat} {t : Int32} {Q : Nat → Int32} {S : St} {pb pt : List Row4} {M : Mem} {e dC : Nat}
theorem SV.ws (h : SV X0 Y0 t N Q pb pt S M e dC) : WS X0 Y0 t N Q pb pt S M e dC M dC [] := ⟨h, fun _ _ => rfl, fun i x hx => by simp at hx, FrC.rf M dC⟩
theorem WS.tr {M1 M2 : Mem} {d1 d2 : Nat} {xs ys : List Int32} (h : WS X0 Y0 t N Q pb pt S M e dC M1 d1 xs) (h' : WS X0 Y0 t N Q pb pt S M1 (e + xs.length) d1 M2 d2 ys) : WS X0 Y0 t N Q pb pt S M e dC M2 d2 (xs ++ ys) := by
  obtain ⟨a1, a2, a3, a4⟩ := h
  obtain ⟨b1, b2, b3, b4⟩ := h'
  refine ⟨by rw [List.length_append, ← Nat.add_assoc]; exact b1, fun j hj => (b2 j (by omega)).trans (a2 j hj), fun i x hx => ?_, a4.tr b4⟩
  by_cases c : i < xs.length
  · rw [List.getElem?_append_left c] at hx
    rw [b2 _ (by omega)]; exact a3 i x hx
  · rw [List.getElem?_append_right (by omega)] at hx
    have := b3 _ x hx
    rwa [show e + xs.length + (i - xs.length) = e + i by omega] at this
theorem SV.push (h : SV X0 Y0 t N Q pb pt S M e dC) (hX : X0 ≤ 100000) (hY : Y0 ≤ 1000000) (he : e < 760000) (x : Int32) : ∃ M' dC', f_X6_push 114 x M = some M' ∧ WS X0 Y0 t N Q pb pt S M e dC M' dC' [x] := by
  obtain ⟨L, sx, c, p⟩ := h
  obtain ⟨M', dC', L', e1, sx', c', p', a1, a2, f⟩ := push1 sx c p hX hY he x
  refine ⟨M', dC', e1, ⟨L', sx', c', p'⟩, a1, fun i y hy => ?_, f⟩
  cases i with
  | zero =>
    have : x = y := by simpa using hy
    rw [← this]; exact a2
  | succ i => simp at hy
theorem wst_e {v u : Nat} (hu : u ∈ (xW S v).map Prod.fst) : ∃ w, w ∈ xW S v ∧ w.1 = u ∧ wst S v u = w.2 := by
  obtain ⟨w, hw, rfl⟩ := List.mem_map.mp hu
  unfold wst
  cases e : (xW S v).find? (fun x => x.1 == w.1) with
  | none =>
    have := List.find?_eq_none.mp e w hw
    simp at this
  | some x =>
    have h1 := List.mem_of_find?_eq_some e
    have h2 := List.find?_some e
    exact ⟨x, h1, by simpa using h2, rfl⟩
theorem sp_l {v : Nat} (hX : X0 ≤ 100000) (hY : Y0 ≤ 1000000) (hv : v < 16) (hw : ∀ w, w ∈ xW S v → w.1 < 16) : ∀ (d j n : Nat) (M : Mem) (e dC : Nat), j + d = 16 → SV X0 Y0 t N Q pb pt S M e dC → e + d < 760000 → d + 1 ≤ n → ∃ M' dC', f_X6_savePlace_90 n 114 (63 + 17 + 2 * v) (nI j) M = some M' ∧ WS X0 Y0 t N Q pb pt S M e dC M' dC' (((List.range' j d).filter fun u => bt (wms S v) u).map (wst S v)) := by
  intro d
  induction d with
  | zero =>
    intro j n M e dC hj h he hn
    obtain ⟨n, rfl⟩ : ∃ m, n = m + 1 := ⟨n - 1, by omega⟩
    refine ⟨M, dC, ?_, h.ws⟩
    rw [f_X6_savePlace_90, if_pos (show (16 : Int32) ≤ nI j from nI_le (a := 16) (by omega) (by omega))]
  | succ d ih =>
    intro j n M e dC hj h he hn
    obtain ⟨n, rfl⟩ : ∃ m, n = m + 1 := ⟨n - 1, by omega⟩
    obtain ⟨L, sx, c, p⟩ := id h
    have q := p.1
    obtain ⟨a1, a2, a3, a4, a5⟩ := p.2.2.1.1 v hv
    have b9 : bt (mI M (63 + 17 + 2 * v) 9) j = bt (wms S v) j := by rw [a4 j (by omega), wms_b (by omega) hw]
    rw [List.range'_succ, List.filter_cons]
    have hd : ∀ y : Option Mem, (if (if bt (wms S v) j = true then (1 : Int32) else 0) = 0 then f_X6_savePlace_90 n 114 (63 + 17 + 2 * v) (nI (j + 1)) M else obd (f_X6_push 114 (mI M (63 + 18 + 2 * v) j) M) fun M16 => f_X6_savePlace_90 n 114 (63 + 17 + 2 * v) (nI (j + 1)) M16) = y → f_X6_savePlace_90 (n + 1) 114 (63 + 17 + 2 * v) (nI j) M = y := by
      intro y hy
      rw [f_X6_savePlace_90, if_neg (show ¬ (16 : Int32) ≤ nI j from nI_ge (a := j) (b := 16) (by omega) (by decide)), cs_po q hv, f_has9 _ (by omega), obd_s, b9, nI_1, bnd_e, cs_pr q hv, bnd_e, cs_pa q hv, cs_pi q hv (by omega), chk_t sx.1, mI_c (by omega)]
      exact hy
    by_cases z : bt (wms S v) j = true
    · rw [if_pos z]
      have hm : j ∈ (xW S v).map Prod.fst := by
        have := wms_b (S := S) (v := v) (u := j) (by omega) hw
        rw [z] at this
        exact of_decide_eq_true this.symm
      obtain ⟨w, w1, w2, w3⟩ := wst_e hm
      have r5 : mI M (63 + 18 + 2 * v) j = wst S v j := by rw [w3, ← w2]; exact a5 w w1
      obtain ⟨M1, d1, e1, W1⟩ := h.push hX hY (by omega) (wst S v j)
      obtain ⟨M2, d2, e2, W2⟩ := ih (j + 1) n M1 (e + 1) d1 (by omega) W1.1 (by omega) (by omega)
      refine ⟨M2, d2, hd _ ?_, W1.tr W2⟩
      rw [if_pos z, if_neg ne10, r5, e1, obd_s, e2]
    · rw [if_neg z]
      obtain ⟨M2, d2, e2, W2⟩ := ih (j + 1) n M e dC (by omega) h (by omega) (by omega)
      refine ⟨M2, d2, hd _ ?_, W2⟩
      rw [if_neg z, if_pos rfl, e2]
set_option maxHeartbeats 2000000 in
theorem SV.place (h : SV X0 Y0 t N Q pb pt S M e dC) (hX : X0 ≤ 100000) (hY : Y0 ≤ 1000000) {v n : Nat} (hv : v < 16) (hw : ∀ w, w ∈ xW S v → w.1 < 16) (h10 : xR S 10 v = 0 ∨ xR S 10 v = 1) (he : e + 30 < 760000) (hn : 20 ≤ n) : ∃ M' dC', f_X6_savePlace n 114 (63 + 17 + 2 * v) M = some M' ∧ WS X0 Y0 t N Q pb pt S M e dC M' dC' (serP S v) := by
  have st : ∀ {M : Mem} {e dC : Nat} (_ : SV X0 Y0 t N Q pb pt S M e dC), isO M 6 114 ∧ (∀ x : Option Mem, chk (isO M 4 (63 + 17 + 2 * v)) x = x) ∧ (∀ a k, (a, k) ∈ ft → mI M (63 + 17 + 2 * v) a = xR S k v) ∧ mI M (63 + 17 + 2 * v) 7 = (if xR S 8 v = -1 then -1 else xR S 9 v) ∧ mI M (63 + 17 + 2 * v) 9 = wms S v := fun h => by
    obtain ⟨L, sx, c, p⟩ := h
    obtain ⟨a1, a2, a3, a4, a5⟩ := p.2.2.1.1 v hv
    refine ⟨sx.1, fun x => cs_po p.1 hv x, fun a k z => a1 (a, k) z, a2, b_ext (fun i hi => ?_)⟩
    rw [a4 i hi, wms_b hi hw]
  obtain ⟨i0, c0, f0, _, _⟩ := st h
  obtain ⟨M1, d1, e1, W1⟩ := h.push hX hY (by omega) (xR S 1 v)
  obtain ⟨i1, c1, f1, _, _⟩ := st W1.1
  obtain ⟨M2, d2, e2, W2⟩ := W1.1.push hX hY (by show e + 1 < 760000; omega) (xR S 2 v)
  obtain ⟨i2, c2, f2, _, _⟩ := st W2.1
  obtain ⟨M3, d3, e3, W3⟩ := W2.1.push hX hY (by show e + 1 + 1 < 760000; omega) (xR S 3 v)
  obtain ⟨i3, c3, f3, _, _⟩ := st W3.1
  obtain ⟨M4, d4, e4, W4⟩ := W3.1.push hX hY (by show e + 1 + 1 + 1 < 760000; omega) (xR S 4 v)
  obtain ⟨i4, c4, f4, _, _⟩ := st W4.1
  obtain ⟨M5, d5, e5, W5⟩ := W4.1.push hX hY (by show e + 1 + 1 + 1 + 1 < 760000; omega) (xR S 5 v)
  obtain ⟨i5, c5, f5, _, _⟩ := st W5.1
  obtain ⟨M6, d6, e6, W6⟩ := W5.1.push hX hY (by show e + 1 + 1 + 1 + 1 + 1 < 760000; omega) (xR S 6 v)
  obtain ⟨i6, c6, f6, _, _⟩ := st W6.1
  obtain ⟨M7, d7, e7, W7⟩ := W6.1.push hX hY (by show e + 1 + 1 + 1 + 1 + 1 + 1 < 760000; omega) (xR S 8 v)
  obtain ⟨i7, c7, f7, g7, _⟩ := st W7.1
  obtain ⟨M8, d8, e8, W8⟩ := W7.1.push hX hY (by show e + 1 + 1 + 1 + 1 + 1 + 1 + 1 < 760000; omega) (if xR S 8 v = -1 then -1 else xR S 9 v)
  obtain ⟨i8, c8, f8, _, _⟩ := st W8.1
  obtain ⟨M9, d9, e9, W9⟩ := W8.1.push hX hY (by show e + 1 + 1 + 1 + 1 + 1 + 1 + 1 + 1 < 760000; omega) (xR S 10 v)
  obtain ⟨i9, c9, f9, _, g9⟩ := st W9.1
  obtain ⟨M10, d10, e10, W10⟩ := W9.1.push hX hY (by show e + 1 + 1 + 1 + 1 + 1 + 1 + 1 + 1 + 1 < 760000; omega) (wms S v)
  obtain ⟨M11, d11, e11, W11⟩ := sp_l hX hY hv hw 16 0 n M10 _ d10 rfl W10.1 (by show e + 1 + 1 + 1 + 1 + 1 + 1 + 1 + 1 + 1 + 1 + 16 < 760000; omega) (by omega)
  have W := (((((((((W1.tr W2).tr W3).tr W4).tr W5).tr W6).tr W7).tr W8).tr W9).tr W10).tr W11
  refine ⟨M11, d11, ?_, ?_⟩
  · have f77 : f_X6_savePlace_77 n 114 (63 + 17 + 2 * v) (xR S 10 v) 114 M8 = some M11 := by
      rw [f_X6_savePlace_77, chk_t i8, e9, obd_s, c9, chk_t i9, g9, e10, obd_s]
      exact e11
    rw [f_X6_savePlace, c0, chk_t i0, f0 0 1 (by decide), e1, obd_s, c1, chk_t i1, f1 1 2 (by decide), e2, obd_s, c2, chk_t i2, f2 2 3 (by decide), e3, obd_s, c3, chk_t i3, f3 3 4 (by decide), e4, obd_s, c4, chk_t i4, f4 4 5 (by decide), e5, obd_s, c5, chk_t i5, f5 5 6 (by decide), e6, obd_s, c6, chk_t i6, f6 6 8 (by decide), e7, obd_s, c7, chk_t i7, g7, e8, obd_s, c8, f8 8 10 (by decide)]
    rcases h10 with z | z
    · rw [z] at f77 ⊢
      rw [if_pos rfl]; exact f77
    · rw [z] at f77 ⊢
      rw [if_neg ne10]; exact f77
  · unfold serP ms
    rw [List.range_eq_range']
    exact W
end
