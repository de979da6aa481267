/-! ===== the class keeps a state: lanes, and all of it ===== -/
def bms (S : St) (f : Nat) : Int32 := (lnf S f).foldl (fun m g => bon m g) 0
theorem fn_b : ∀ (l : List Nat) (m : Int32) (u : Nat), u < 32 → (∀ w, w ∈ l → w < 32) → bt (l.foldl (fun m w => bon m w) m) u = (bt m u || decide (u ∈ l)) := by
  intro l
  induction l with
  | nil => intro m u _ _; simp
  | cons w l ih =>
    intro m u hu hw
    rw [List.foldl_cons, ih _ u hu (fun x hx => hw x (List.mem_cons_of_mem _ hx)), bt_on _ (hw w (by simp)) hu]
    have e : decide (u ∈ w :: l) = (decide (u = w) || decide (u ∈ l)) := by
      rw [← Bool.decide_or]
      congr 1
      rw [List.mem_cons]
    rw [e, Bool.or_assoc]
theorem lnf_m {S : St} {f g : Nat} : g ∈ lnf S f ↔ g < 16 ∧ xL S (16 * f + g) ≠ [] := by
  unfold lnf
  rw [List.mem_filter, List.mem_range]
  cases xL S (16 * f + g) <;> simp
theorem bms_b {S : St} {f u : Nat} (hu : u < 32) : bt (bms S f) u = decide (u < 16 ∧ xL S (16 * f + u) ≠ []) := by
  unfold bms
  rw [fn_b _ _ _ hu (fun w hw => by have := (lnf_m.mp hw).1; omega), b_0, Bool.false_or]
  congr 1
  rw [lnf_m]
def mkS (S : St) (q : Int32) : Int32 := ((List.range 16).filter fun v => decide (xR S 0 v = q)).foldl (fun m g => bon m g) 0
theorem mkS_b {S : St} {q : Int32} {u : Nat} (hu : u < 32) : bt (mkS S q) u = decide (u < 16 ∧ xR S 0 u = q) := by
  unfold mkS
  rw [fn_b _ _ _ hu (fun w hw => by have := List.mem_range.mp (List.mem_filter.mp hw).1; omega), b_0, Bool.false_or]
  congr 1
  rw [List.mem_filter, List.mem_range, decide_eq_true_eq]
def serL (S : St) (l : Nat) : List Int32 := nI (xL S l).length :: (xL S l).map encC
def serG (S : St) (f : Nat) (gs : List Nat) : List Int32 := (gs.filter fun g => bt (bms S f) g).flatMap fun g => serL S (16 * f + g)
def serF (N : Nat) (S : St) (f : Nat) : List Int32 := bms S f :: serG S f (List.range' 0 N)
def ser (N : Nat) (S : St) : List Int32 := mkS S 2 :: mkS S 1 :: ((List.range' 0 N).flatMap (serP S) ++ (List.range' 0 N).flatMap (serF N S))
section
variable {X0 Y0 N : Nat} {t : Int32} {Q : Nat → Int32} {S : St} {pb pt : List Row4}
/-- what a state's keeping may rest on -/
def Sok (N : Nat) (S : St) : Prop := N ≤ 16 ∧ (∀ v, v < 16 → ∀ w, w ∈ xW S v → w.1 < 16) ∧ ∀ v, v < 16 → xR S 10 v = 0 ∨ xR S 10 v = 1
set_option maxHeartbeats 1000000 in
theorem sl_l (hX : X0 ≤ 100000) (hY : Y0 ≤ 1000000) {M0 : Mem} {dC0 d5 d6 d7 len us : Nat} {fr : List Nat} {ow : Nat → Nat} {K : Nat → List (Nat × Ltr)} (w : PW M0 63 d5 d6 d7 len t (xR S 16) K fr us ow 0) (hC : (dC0 = 119 ∨ 131 ≤ dC0) ∧ dC0 ≠ d5 ∧ dC0 ≠ d6 ∧ dC0 ≠ d7) (hN0 : 131 ≤ mN M0) {l : Nat} (hl : l < 256) : ∀ (ks : List (Nat × Ltr)) (i n : Nat) (M : Mem) (e dC : Nat) (x : Int32), i + ks.length = (K l).length → (∀ q, q ∈ ks → q ∈ K l) → Chn (mI M0 d7) x (ks.map Prod.fst) → SV X0 Y0 t N Q pb pt S M e dC → FrC M0 M dC0 dC → e + ks.length < 760000 → ks.length + 1 ≤ n → ∃ M' dC', f_X6_saveLane_20 n 114 64 (nI l) x (nI i) M = some M' ∧ WS X0 Y0 t N Q pb pt S M e dC M' dC' (ks.map fun q => encC q.2) := by
  have hw := w
  obtain ⟨⟨⟨z5, z6, z7⟩, ⟨k5, k6, k7⟩, ⟨n5, n6, n7⟩, y⟩, pc, pn, pch, pla, pma, pbu, pse, pf, ⟨pu1, pu2, pu3, pu4, pu5⟩, _⟩ := w
  have hKl : (K l).length ≤ 9000 := by
    have := nd_le us ((K l).map Prod.fst) (pn l hl) (fun x hx => by
      obtain ⟨y, hy, rfl⟩ := List.mem_map.mp hx
      exact (pc l hl y hy).1)
    rw [List.length_map] at this
    omega
  have rd : ∀ {M : Mem} {dC : Nat}, FrC M0 M dC0 dC → (∀ b, mI M d5 b = mI M0 d5 b) ∧ (∀ b, mI M d7 b = mI M0 d7 b) ∧ mR M 64 5 = d5 ∧ mR M 64 7 = d7 ∧ isO M 100 d5 ∧ isO M 100 d7 ∧ mLn M d5 = len ∧ mLn M d7 = len ∧ (∀ b, mI M 67 b = mI M0 67 b) := fun {M} {dC} f => by
    obtain ⟨f1, f2, f3, f4, f5, f6, f7⟩ := f
    have io : ∀ o, isO M0 100 o → isO M 100 o := fun o z => ⟨by have := z.1; omega, by rw [mC, f2 o z.1]; exact z.2⟩
    refine ⟨fun b => f4 d5 k5.1 (by omega) (Ne.symm hC.2.1) b, fun b => f4 d7 k7.1 (by omega) (Ne.symm hC.2.2.2) b, ?_, ?_, io _ k5, io _ k7, ?_, ?_, fun b => f4 67 (by omega) (by decide) (by omega) b⟩
    · rw [f3 64 5 (by omega) (by decide)]; exact z5
    · rw [f3 64 7 (by omega) (by decide)]; exact z7
    · rw [mLn, f2 d5 k5.1]; exact n5
    · rw [mLn, f2 d7 k7.1]; exact n7
  intro ks
  induction ks with
  | nil =>
    intro i n M e dC x hi _ _ h f he hn
    obtain ⟨n, rfl⟩ : ∃ m, n = m + 1 := ⟨n - 1, by omega⟩
    obtain ⟨_, _, _, _, _, _, _, _, r67⟩ := rd f
    obtain ⟨L, sx, c, p⟩ := id h
    have q := p.1
    refine ⟨M, dC, ?_, h.ws⟩
    rw [f_X6_saveLane_20, cs_p q, cs_r4 q, bnd_e, cs_a4 q, cs_i4 q hl, mI_c (by omega), r67, pma l hl, if_pos (nI_le (by simpa using Nat.le_of_eq hi.symm) (by simp at hi; omega))]
  | cons k ks ih =>
    intro i n M e dC x hi hks hc h f he hn
    obtain ⟨n, rfl⟩ : ∃ m, n = m + 1 := ⟨n - 1, by omega⟩
    obtain ⟨r5, r7, R5, R7, o5, o7, l5, l7, r67⟩ := rd f
    obtain ⟨L, sx, c, p⟩ := id h
    have q := p.1
    rw [List.length_cons] at hi he hn
    obtain ⟨hx, hc2⟩ := hc
    have hk := pc l hl k (hks k (by simp))
    have v5 : mI M d5 k.1 = encC k.2 := by rw [r5]; exact hk.2.2.1
    obtain ⟨M1, d1, e1, W1⟩ := h.push hX hY (by omega) (encC k.2)
    have f1 := f.tr W1.2.2.2
    obtain ⟨_, r7', _, R7', _, o7', _, l7', _⟩ := rd f1
    obtain ⟨L1, sx1, c1, p1⟩ := id W1.1
    obtain ⟨M2, d2, e2, W2⟩ := ih (i + 1) n M1 (e + 1) d1 (mI M1 d7 k.1) (by omega) (fun q hq => hks q (List.mem_cons_of_mem _ hq)) (by rw [r7']; exact hc2) W1.1 f1 (by omega) (by omega)
    refine ⟨M2, d2, ?_, ?_⟩
    · rw [f_X6_saveLane_20, cs_p q, cs_r4 q, bnd_e, cs_a4 q, cs_i4 q hl, mI_c (by omega), r67, pma l hl, if_neg (nI_ge (by omega) (by omega)), show mR M (63 + 1) 5 = d5 from R5, bnd_e, chk_t o5, hx, l5, chk_t (inB_n (by omega) (by omega)), chk_t sx.1, mI_d (by omega), v5, e1, obd_s, cs_p p1.1, show mR M1 (63 + 1) 7 = d7 from R7', bnd_e, chk_t o7', l7', chk_t (inB_n (by omega) (by omega)), mI_d (by omega), bnd_e, nI_1, bnd_e, e2]
    · have := W1.tr W2
      exact this
theorem SV.lane {M : Mem} {e dC l n : Nat} (h : SV X0 Y0 t N Q pb pt S M e dC) (hX : X0 ≤ 100000) (hY : Y0 ≤ 1000000) (hl : l < 256) (he : e + (serL S l).length < 760000) (hn : 9100 ≤ n) : ∃ M' dC', f_X6_saveLane n 114 64 (nI l) M = some M' ∧ WS X0 Y0 t N Q pb pt S M e dC M' dC' (serL S l) := by
  obtain ⟨L, sx, c, p⟩ := id h
  have q := p.1
  obtain ⟨d5, d6, d7, len, K, fr, us, ow, w, hK⟩ := p.2.1
  have hw := w
  obtain ⟨⟨⟨z5, z6, z7⟩, ⟨k5, k6, k7⟩, ⟨n5, n6, n7⟩, y⟩, pc, pn, pch, pla, pma, _⟩ := w
  have eL : (xL S l).length = (K l).length := by rw [← hK l hl, List.length_map]
  have ec : (K l).map (fun q => encC q.2) = (xL S l).map encC := by rw [← hK l hl, List.map_map]; rfl
  have hKl : (K l).length ≤ 9000 := by
    have u := hw.2.2.2.2.2.2.2.2.2.1
    have := nd_le us ((K l).map Prod.fst) (pn l hl) (fun x hx => by
      obtain ⟨y, hy, rfl⟩ := List.mem_map.mp hx
      exact (pc l hl y hy).1)
    rw [List.length_map] at this
    have := u.2.2.1
    omega
  unfold serL at he ⊢
  rw [List.length_cons, List.length_map] at he
  obtain ⟨M1, d1, e1, W1⟩ := h.push hX hY (by omega) (nI (xL S l).length)
  have f1 := W1.2.2.2
  obtain ⟨L1, sx1, c1, p1⟩ := id W1.1
  have q1 := p1.1
  have z5' : mR M 64 5 = d5 := z5
  have z6' : mR M 64 6 = d6 := z6
  have z7' : mR M 64 7 = d7 := z7
  have hC : (dC = 119 ∨ 131 ≤ dC) ∧ dC ≠ d5 ∧ dC ≠ d6 ∧ dC ≠ d7 := by
    obtain ⟨_, _, _, a4, _, _, _, _, a9, a10, a11⟩ := c
    exact ⟨a4, by omega, by omega, by omega⟩
  have r65 : mI M1 (63 + 2) l = mI M (63 + 2) l := f1.2.2.2.1 _ (by have := sx.2.2.2.2; omega) (by decide) (by omega) l
  obtain ⟨M2, d2, e2, W2⟩ := sl_l (N := N) (Q := Q) (pb := pb) (pt := pt) hX hY hw hC sx.2.2.2.2 hl (K l) 0 n M1 (e + 1) d1 (mI M1 (63 + 2) l) (by omega) (fun _ z => z) (by rw [r65]; exact pch l hl) W1.1 f1 (by omega) (by omega)
  rw [ec] at W2
  refine ⟨M2, d2, ?_, W1.tr W2⟩
  rw [f_X6_saveLane, cs_p q, cs_r4 q, bnd_e, cs_a4 q, cs_i4 q hl, chk_t sx.1, mI_c (by omega), pma l hl, ← eL, e1, obd_s, cs_p q1, cs_r2 q1, bnd_e, cs_a2 q1, cs_i2 q1 hl, mI_c (by omega), bnd_e]
  exact e2
theorem sv_104 (hX : X0 ≤ 100000) (hY : Y0 ≤ 1000000) (h16 : N ≤ 16) (K72 : Nat → Int32 → Mem → Option Mem) {f : Nat} (hf : f < 16) : ∀ (d j n : Nat) (M : Mem) (e dC : Nat), j + d = N → SV X0 Y0 t N Q pb pt S M e dC → e + (serG S f (List.range' j d)).length < 760000 → d + 9110 ≤ n → ∃ M' dC', f_X6_save_104 K72 n 114 (nI f) (nI j) M = K72 114 (nI (f + 1)) M' ∧ WS X0 Y0 t N Q pb pt S M e dC M' dC' (serG S f (List.range' j d)) := by
  intro d
  induction d with
  | zero =>
    intro j n M e dC hj h he hn
    obtain ⟨n, rfl⟩ : ∃ m, n = m + 1 := ⟨n - 1, by omega⟩
    obtain ⟨L, sx, c, p⟩ := id h
    have q := p.1
    refine ⟨M, dC, ?_, h.ws⟩
    rw [f_X6_save_104, chk_t sx.1, sx.2.1.1, bnd_e, cs_f q, cs_h0 q, bnd_e, cs_s q, p.2.2.2.2.2.1, if_pos (nI_le (by omega) (by omega)), nI_1, bnd_e]
  | succ d ih =>
    intro j n M e dC hj h he hn
    obtain ⟨n, rfl⟩ : ∃ m, n = m + 1 := ⟨n - 1, by omega⟩
    obtain ⟨L, sx, c, p⟩ := id h
    have q := p.1
    have b : bt (mI M (63 + 5) f) j = bt (bms S f) j := by rw [p.busy hf (by omega), bms_b (by omega)]
    have eG : serG S f (List.range' j (d + 1)) = (if bt (bms S f) j = true then serL S (16 * f + j) else []) ++ serG S f (List.range' (j + 1) d) := by
      unfold serG
      rw [List.range'_succ, List.filter_cons]
      by_cases z : bt (bms S f) j = true
      · rw [if_pos z, if_pos z, List.flatMap_cons]
      · rw [if_neg z, if_neg z]; rfl
    rw [eG] at he ⊢
    rw [List.length_append] at he
    have hd : ∀ y : Option Mem, (if (if bt (bms S f) j = true then (1 : Int32) else 0) = 0 then f_X6_save_104 K72 n 114 (nI f) (nI (j + 1)) M else obd (f_X6_saveLane n 114 64 (nI (16 * f + j)) M) fun M35 => f_X6_save_104 K72 n 114 (nI f) (nI (j + 1)) M35) = y → f_X6_save_104 K72 (n + 1) 114 (nI f) (nI j) M = y := by
      intro y hy
      rw [f_X6_save_104, chk_t sx.1, sx.2.1.1, bnd_e, cs_f q, cs_h0 q, bnd_e, cs_s q, p.2.2.2.2.2.1, if_neg (nI_ge (by omega) (by omega)), bnd_e, cs_f q, cs_h1 q, bnd_e, cs_p q, cs_r5 q, bnd_e, cs_a5 q, cs_i5 q hf, mI_c (by omega), f_has9 _ (by omega), obd_s, b, nI_1, bnd_e, bnd_e, cs_f q, cs_h1 q, bnd_e, cs_p q, show nI f * (16 : Int32) = nI (16 * f) by rw [show (16 : Int32) = nI 16 from rfl, pk_mul, Nat.mul_comm], nI_add]
      exact hy
    by_cases z : bt (bms S f) j = true
    · rw [if_pos z] at he ⊢
      obtain ⟨M1, d1, e1, W1⟩ := h.lane hX hY (l := 16 * f + j) (n := n) (by omega) (by omega) (by omega)
      obtain ⟨M2, d2, e2, W2⟩ := ih (j + 1) n M1 _ d1 (by omega) W1.1 (by omega) (by omega)
      refine ⟨M2, d2, hd _ ?_, W1.tr W2⟩
      rw [if_pos z, if_neg ne10, e1, obd_s, e2]
    · rw [if_neg z] at he ⊢
      obtain ⟨M2, d2, e2, W2⟩ := ih (j + 1) n M e dC (by omega) h (by simpa using he) (by omega)
      refine ⟨M2, d2, hd _ ?_, W2⟩
      rw [if_neg z, if_pos rfl, e2]
theorem sv_72 (hX : X0 ≤ 100000) (hY : Y0 ≤ 1000000) (h16 : N ≤ 16) : ∀ (d f n : Nat) (M : Mem) (e dC : Nat), f + d = N → SV X0 Y0 t N Q pb pt S M e dC → e + ((List.range' f d).flatMap (serF N S)).length < 760000 → d + 9200 ≤ n → ∃ M' dC', f_X6_save_72 n 114 (nI f) M = some M' ∧ WS X0 Y0 t N Q pb pt S M e dC M' dC' ((List.range' f d).flatMap (serF N S)) := by
  intro d
  induction d with
  | zero =>
    intro f n M e dC hj h he hn
    obtain ⟨n, rfl⟩ : ∃ m, n = m + 1 := ⟨n - 1, by omega⟩
    obtain ⟨L, sx, c, p⟩ := id h
    have q := p.1
    refine ⟨M, dC, ?_, h.ws⟩
    rw [f_X6_save_72, chk_t sx.1, sx.2.1.1, bnd_e, cs_f q, cs_h0 q, bnd_e, cs_s q, p.2.2.2.2.2.1, if_pos (nI_le (by omega) (by omega))]
  | succ d ih =>
    intro f n M e dC hj h he hn
    obtain ⟨n, rfl⟩ : ∃ m, n = m + 1 := ⟨n - 1, by omega⟩
    obtain ⟨L, sx, c, p⟩ := id h
    have q := p.1
    have hf : f < 16 := by omega
    have eb : mI M (63 + 5) f = bms S f := b_ext (fun i hi => by rw [p.busy hf hi, bms_b hi])
    rw [List.range'_succ, List.flatMap_cons] at he ⊢
    rw [List.length_append] at he
    have e0 : (serF N S f).length = 1 + (serG S f (List.range' 0 N)).length := by unfold serF; rw [List.length_cons]; omega
    obtain ⟨M1, d1, e1, W1⟩ := h.push hX hY (by omega) (bms S f)
    obtain ⟨M2, d2, e2, W2⟩ := sv_104 hX hY h16 (f_X6_save_72 n) hf N 0 n M1 (e + 1) d1 (by omega) W1.1 (by omega) (by omega)
    have W12 : WS X0 Y0 t N Q pb pt S M e dC M2 d2 (serF N S f) := W1.tr W2
    obtain ⟨M3, d3, e3, W3⟩ := ih (f + 1) n M2 _ d2 (by omega) W12.1 (by omega) (by omega)
    refine ⟨M3, d3, ?_, W12.tr W3⟩
    rw [f_X6_save_72, chk_t sx.1, sx.2.1.1, bnd_e, cs_f q, cs_h0 q, bnd_e, cs_s q, p.2.2.2.2.2.1, if_neg (nI_ge (by omega) (by omega)), bnd_e, cs_f q, cs_h1 q, bnd_e, cs_p q, cs_r5 q, bnd_e, cs_a5 q, cs_i5 q hf, mI_c (by omega), eb, e1, obd_s]
    exact e2.trans e3
theorem sv_37 (hX : X0 ≤ 100000) (hY : Y0 ≤ 1000000) (so : Sok N S) : ∀ (d v n : Nat) (M : Mem) (e dC : Nat), v + d = N → SV X0 Y0 t N Q pb pt S M e dC → e + ((List.range' v d).flatMap (serP S)).length + ((List.range' 0 N).flatMap (serF N S)).length + 40 < 760000 → d + N + 9300 ≤ n → ∃ M' dC', f_X6_save_37 n 114 (nI v) M = some M' ∧ WS X0 Y0 t N Q pb pt S M e dC M' dC' ((List.range' v d).flatMap (serP S) ++ (List.range' 0 N).flatMap (serF N S)) := by
  obtain ⟨h16, hw, h10⟩ := so
  intro d
  induction d with
  | zero =>
    intro v n M e dC hj h he hn
    obtain ⟨n, rfl⟩ : ∃ m, n = m + 1 := ⟨n - 1, by omega⟩
    obtain ⟨L, sx, c, p⟩ := id h
    have q := p.1
    obtain ⟨M1, d1, e1, W1⟩ := sv_72 hX hY h16 N 0 n M e dC (by omega) h (by omega) (by omega)
    refine ⟨M1, d1, ?_, W1⟩
    rw [f_X6_save_37, chk_t sx.1, sx.2.1.1, bnd_e, cs_f q, cs_h0 q, bnd_e, cs_s q, p.2.2.2.2.2.1, if_pos (nI_le (by omega) (by omega))]
    exact e1
  | succ d ih =>
    intro v n M e dC hj h he hn
    obtain ⟨n, rfl⟩ : ∃ m, n = m + 1 := ⟨n - 1, by omega⟩
    obtain ⟨L, sx, c, p⟩ := id h
    have q := p.1
    have hv : v < 16 := by omega
    rw [List.range'_succ, List.flatMap_cons] at he ⊢
    rw [List.length_append] at he
    obtain ⟨M1, d1, e1, W1⟩ := h.place hX hY (v := v) (n := n) hv (hw v hv) (h10 v hv) (by omega) (by omega)
    obtain ⟨M2, d2, e2, W2⟩ := ih (v + 1) n M1 _ d1 (by omega) W1.1 (by omega) (by omega)
    refine ⟨M2, d2, ?_, by rw [List.append_assoc]; exact W1.tr W2⟩
    rw [f_X6_save_37, chk_t sx.1, sx.2.1.1, bnd_e, cs_f q, cs_h0 q, bnd_e, cs_s q, p.2.2.2.2.2.1, if_neg (nI_ge (by omega) (by omega)), bnd_e, cs_f q, cs_h2 q, bnd_e, cs_a10 q, cs_i10 q hv, cs_rpc q hv, bnd_e, cs_po q hv, e1, obd_s, nI_1, bnd_e, e2]
end
