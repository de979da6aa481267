/-! ===== the class keeps a state: lanes, and all of it ===== -/
def bms (S : St) (f : Nat) : Int32 := (lnf S f).foldl (fun m g => bon m g) 0
theorem fn_b : ∀ (l : List Nat) (m : Int32) (u : Nat), u < 32 → (∀ w, w ∈ l → w < 32) → bt (l.foldl (fun m w => bon m w) m) u = (bt m u || decide (u ∈ l)) := by
  intro l
  induction l with
  | nil => intro m u _ _; simp
  | cons w l ih =>
    intro m u hu hw
    rw [List.foldl_cons, ih _ u hu (fun x hx => hw x (List.mem_cons_of_mem _ hx)), bt_on _ (hw w (by simp)) hu]
    have e : decide (u ∈ w :: l) = (decide (u = w) || decide (u ∈ l)) := by
      rw [← Bool.decide_or]
      congr 1
      rw [List.mem_cons]
    rw [e, Bool.or_assoc]
theorem lnf_m {S : St} {f g : Nat} : g ∈ lnf S f ↔ g < 16 ∧ xL S (16 * f + g) ≠ [] := by
  unfold lnf
  rw [List.mem_filter, List.mem_range]
  cases xL S (16 * f + g) <;> simp
theorem bms_b {S : St} {f u : Nat} (hu : u < 32) : bt (bms S f) u = decide (u < 16 ∧ xL S (16 * f + u) ≠ []) := by
  unfold bms
  rw [fn_b _ _ _ hu (fun w hw => by have := (lnf_m.mp hw).1; omega), b_0, Bool.false_or]
  congr 1
  rw [lnf_m]
def mkS (S : St) (q : Int32) : Int32 := ((List.range 16).filter fun v => decide (xR S 0 v = q)).foldl (fun m g => bon m g) 0
theorem mkS_b {S : St} {q : Int32} {u : Nat} (hu : u < 32) : bt (mkS S q) u = decide (u < 16 ∧ xR S 0 u = q) := by
  unfold mkS
  rw [fn_b _ _ _ hu (fun w hw => by have := List.mem_range.mp (List.mem_filter.mp hw).1; omega), b_0, Bool.false_or]
  congr 1
  rw [List.mem_filter, List.mem_range, decide_eq_true_eq]
def serL (S : St) (l : Nat) : List Int32 := nI (xL S l).length :: (xL S l).map encC
def serG (S : St) (f : Nat) (gs : List Nat) : List Int32 := (gs.filter fun g => bt (bms S f) g).flatMap fun g => serL S (16 * f + g)
def serF (N : Nat) (S : St) (f : Nat) : List Int32 := bms S f :: serG S f (List.range' 0 N)
def ser (N : Nat) (S : St) : List Int32 := mkS S 2 :: mkS S 1 :: ((List.range' 0 N).flatMap (serP S) ++ (List.range' 0 N).flatMap (serF N S))
section
variable {X0 Y0 N : Nat} {t : Int32} {Q : Nat → Int32} {S : St} {pb pt : List Row4}
/-- what a state's keeping may rest on -/
def Sok (N : Nat) (S : St) : Prop := N ≤ 16 ∧ (∀ v, v < 16 → ∀ w, w ∈ xW S v → w.1 < 16) ∧ ∀ v, v < 16 → xR S 10 v = 0 ∨ xR S 10 v = 1
set_option maxHeartbeats 1000000 in
theorem sl_l (hX : X0 ≤ 100000) (hY : Y0 ≤ 1000000) {M0 : Mem} {dC0 d5 d6 d7 len us : Nat} {fr : List Nat} {ow : Nat → Nat} {K : Nat → List (Nat × Ltr)} (w : PW M0 63 d5 d6 d7 len t (xR S 16) K fr us ow 0) (hC : (dC0 = 119 ∨ 131 ≤ dC0) ∧ dC0 ≠ d5 ∧ dC0 ≠ d6 ∧ dC0 ≠ d7) (hN0 : 131 ≤ mN M0) {l : Nat} (hl : l < 256) : ∀ (ks : List (Nat × Ltr)) (i n : Nat) (M : Mem) (e dC : Nat) (x : Int32), i + ks.length = (K l).length → (∀ q, q ∈ ks → q ∈ K l) → Chn (mI M0 d7) x (ks.map Prod.fst) → SV X0 Y0 t N Q pb pt S M e dC → FrC M0 M dC0 dC → e + ks.length < 760000 → ks.length + 1 ≤ n → ∃ M' dC', f_X6_saveLane_20 n 114 64 (nI l) x (nI i) M = some M' ∧ WS X0 Y0 t N Q pb pt S M e dC M' dC' (ks.map fun q => encC q.2) := by
  have hw := w
  obtain ⟨⟨⟨z5, z6, z7⟩, ⟨k5, k6, k7⟩, ⟨n5, n6, n7⟩, y⟩, pc, pn, pch, pla, pma, pbu, pse, pf, ⟨pu1, pu2, pu3, pu4, pu5⟩, _⟩ := w
  have hKl : (K l).length ≤ 9000 := by
    have := nd_le us ((K l).map Prod.fst) (pn l hl) (fun x hx => by
      obtain ⟨y, hy, rfl⟩ := List.mem_map.mp hx
      exact (pc l hl y hy).1)
    rw [List.length_map] at this
    omega
  have rd : ∀ {M : Mem} {dC : Nat}, FrC M0 M dC0 dC → (∀ b, mI M d5 b = mI M0 d5 b) ∧ (∀ b, mI M d7 b = mI M0 d7 b) ∧ mR M 64 5 = d5 ∧ mR M 64 7 = d7 ∧ isO M 100 d5 ∧ isO M 100 d7 ∧ mLn M d5 = len ∧ mLn M d7 = len ∧ (∀ b, mI M 67 b = mI M0 67 b) := fun {M} {dC} f => by
    obtain ⟨f1, f2, f3, f4, f5, f6, f7⟩ := f
    have io : ∀ o, isO M0 100 o → isO M 100 o := fun o z => ⟨by have := z.1; omega, by rw [mC, f2 o z.1]; exact z.2⟩
    refine ⟨fun b => f4 d5 k5.1 (by omega) (Ne.symm hC.2.1) b, fun b => f4 d7 k7.1 (by omega) (Ne.symm hC.2.2.2) b, ?_, ?_, io _ k5, io _ k7, ?_, ?_, fun b => f4 67 (by omega) (by decide) (by omega) b⟩
    · rw [f3 64 5 (by omega) (by decide)]; exact z5
    · rw [f3 64 7 (by omega) (by decide)]; exact z7
    · rw [mLn, f2 d5 k5.1]; exact n5
    · rw [mLn, f2 d7 k7.1]; exact n7
  intro ks
  induction ks with
  | nil =>
    intro i n M e dC x hi _ _ h f he hn
    obtain ⟨n, rfl⟩ : ∃ m, n = m + 1 := ⟨n - 1, by omega⟩
    obtain ⟨_, _, _, _, _, _, _, _, r67⟩ := rd f
    obtain ⟨L, sx, c, p⟩ := id h
    have q := p.1
    refine ⟨M, dC, ?_, h.ws⟩
    rw [f_X6_saveLane_20, cs_p q, cs_r4 q, bnd_e, cs_a4 q, cs_i4 q hl, mI_c (by omega), r67, pma l hl, if_pos (nI_le (by simpa using Nat.le_of_eq hi.symm) (by simp at hi; omega))]
  | cons k ks ih =>
    intro i n M e dC x hi hks hc h f he hn
    obtain ⟨n, rfl⟩ : ∃ m, n = m + 1 := ⟨n - 1, by omega⟩
    obtain ⟨r5, r7, R5, R7, o5, o7, l5, l7, r67⟩ := rd f
    obtain ⟨L, sx, c, p⟩ := id h
    have q := p.1
    rw [List.length_cons] at hi he hn
    obtain ⟨hx, hc2⟩ := hc
    have hk := pc l hl k (hks k (by simp))
    have v5 : mI M d5 k.1 = encC k.2 := by rw [r5]; exact hk.2.2.1
    obtain ⟨M1, d1, e1, W1⟩ := h.push hX hY (by omega) (encC k.2)
    have f1 := f.tr W1.2.2.2
    obtain ⟨_, r7', _, R7', _, o7', _, l7', _⟩ := rd f1
    obtain ⟨L1, sx1, c1, p1⟩ := id W1.1
    obtain ⟨M2, d2, e2, W2⟩ := ih (i + 1) n M1 (e + 1) d1 (mI M1 d7 k.1) (by omega) (fun q hq => hks q (List.mem_cons_of_mem _ hq)) (by rw [r7']; exact hc2) W1.1 f1 (by omega) (by omega)
    refine ⟨M2, d2, ?_, ?_⟩
    · rw [f_X6_saveLane_20, cs_p q, cs_r4 q, bnd_e, cs_a4 q, cs_i4 q hl, mI_c (by omega), r67, pma l hl, if_neg (nI_ge (by omega) (by omega)), show mR M (63 + 1) 5 = d5 from R5, bnd_e, chk_t o5, hx, l5, chk_t (inB_n (by omega) (by omega)), chk_t sx.1, mI_d (by omega), v5, e1, obd_s, cs_p p1.1, show mR M1 (63 + 1) 7 = d7 from R7', bnd_e, chk_t o7', l7', chk_t (inB_n (by omega) (by omega)), mI_d (by omega), bnd_e, nI_1, bnd_e, e2]
    · have := W1.tr W2
      exact this
theorem SV.lane {M : Mem} {e dC l n : Nat} (h : SV X0 Y0 t N Q pb pt S M e dC) (hX : X0 ≤ 100000) (hY : Y0 ≤ 1000000) (hl : l < 256) (he : e + (serL S l).length < 760000) (hn : 9100 ≤ n) : ∃ M' dC', f_X6_saveLane n 114 64 (nI l) M = some M' ∧ WS X0 Y0 t N Q pb pt S M e dC M' dC' (serL S l) := by
  obtain ⟨L, sx, c, p⟩ := id h
  have q := p.1
  obtain ⟨d5, d6, d7, len, K, fr, us, ow, w, hK⟩ := p.2.1
  have hw := w
  obtain ⟨⟨⟨z5, z6, z7⟩, ⟨k5, k6, k7⟩, ⟨n5, n6, n7⟩, y⟩, pc, pn, pch, pla, pma, _⟩ := w
  have eL : (xL S l).length = (K l).length := by rw [← hK l hl, List.length_map]
  have ec : (K l).map (fun q => encC q.2) = (xL S l).map encC := by rw [← hK l hl, List.map_map]; rfl
  have hKl : (K l).length ≤ 9000 := by
    have u := hw.2.2.2.2.2.2.2.2.2.1
    have := nd_le us ((K l).map Prod.fst) (pn l hl) (fun x hx => by
      obtain ⟨y, hy, rfl⟩ := List.mem_map.mp hx
      exact (pc l hl y hy).1)
    rw [List.length_map] at this
    have := u.2.2.1
    omega
  unfold serL at he ⊢
  rw [List.length_cons, List.length_map] at he
  obtain ⟨M1, d1, e1, W1⟩ := h.push hX hY (by omega) (nI (xL S l).length)
  have f1 := W1.2.2.2
  obtain ⟨L1, sx1, c1, p1⟩ := id W1.1
  have q1 := p1.1
  have z5' : mR M 64 5 = d5 := z5
  have z6' : mR M 64 6 = d6 := z6
  have z7' : mR M 64 7 = d7 := z7
  have hC : (dC = 119 ∨ 131 ≤ dC) ∧ dC ≠ d5 ∧ dC ≠ d6 ∧ dC ≠ d7 := by
    obtain ⟨_, _, _, a4, _, _, _, _, a9, a10, a11⟩ := c
    exact ⟨a4, by omega, by omega, by omega⟩
  have r65 : mI M1 (63 + 2) l = mI M (63 + 2) l := f1.2.2.2.1 _ (by have := sx.2.2.2.2; omega) (by decide) (by omega) l
  obtain ⟨M2, d2, e2, W2⟩ := sl_l (N := N) (Q := Q) (pb := pb) (pt := pt) hX hY hw hC sx.2.2.2.2 hl (K l) 0 n M1 (e + 1) d1 (mI M1 (63 + 2) l) (by omega) (fun _ z => z) (by rw [r65]; exact pch l hl) W1.1 f1 (by omega) (by omega)
  rw [ec] at W2
  refine ⟨M2, d2, ?_, W1.tr W2⟩
  rw [f_X6_saveLane, cs_p q, cs_r4 q, bnd_e, cs_a4 q, cs_i4 q hl, chk_t sx.1, mI_c (by omega), pma l hl, ← eL, e1, obd_s, cs_p q1, cs_r2 q1, bnd_e, cs_a2 q1, cs_i2 q1 hl, mI_c (by omega), bnd_e]
  exact e2
theorem sv_104 (hX : X0 ≤ 100000) (hY : Y0 ≤ 1000000) (h16 : N ≤ 16) (K72 : Nat → Int32 → Mem → Option Mem) {f : Nat} (hf : f < 16) : ∀ (d j n : Nat) (M : Mem) (e dC : Nat), j + d = N → SV X0 Y0 t N Q pb pt S M e dC → e + (serG S f (List.range' j d)).length < 760000 → d + 9110 ≤ n → ∃ M' dC', f_X6_save_104 K72 n 114 (nI f) (nI j) M = K72 114 (nI (f + 1)) M' ∧ WS X0 Y0 t N Q pb pt S M e dC M' dC' (serG S f (List.range' j d)) := by
  intro d
  induction d with
  | zero =>
    intro j n M e dC hj h he hn
    obtain ⟨n, rfl⟩ : ∃ m, n = m + 1 := ⟨n - 1, by omega⟩
    obtain ⟨L, sx, c, p⟩ := id h
    have q := p.1
    refine ⟨M, dC, ?_, h.ws⟩
    rw [f_X6_save_104, chk_t sx.1, sx.2.1.1, bnd_e, cs_f q, cs_h0 q, bnd_e, cs_s q, p.2.2.2.2.2.1, if_pos (nI_le (by omega) (by omega)), nI_1, bnd_e]
  | succ d ih =>
    intro j n M e dC hj h he hn
    obtain ⟨n, rfl⟩ : ∃ m, n = m + 1 := ⟨n - 1, by omega⟩
    obtain ⟨L, sx, c, p⟩ := id h
    have q := p.1
    have b : bt (mI M (63 + 5) f) j = bt (bms S f) j := by rw [p.busy hf (by omega), bms_b (by omega)]
    have eG : serG S f (List.range' j (d + 1)) = (if bt (bms S f) j = true then serL S (16 * f + j) else []) ++ serG S f (List.range' (j + 1) d) := by
      unfold serG
      rw [List.range'_succ, List.filter_cons]
      by_cases z : bt (bms S f) j = true
      · rw [if_pos z, if_pos z, List.flatMap_cons]
      · rw [if_neg z, if_neg z]; rfl
    rw [eG] at he ⊢
    rw [List.length_append] at he
    have hd : ∀ y : Option Mem, (if (if bt (bms S f) j = true then (1 : Int32) else 0) = 0 then f_X6_save_104 K72 n 114 (nI f) (nI (j + 1)) M else obd (f_X6_saveLane n 114 64 (nI (16 * f + j)) M) fun M35 => f_X6_save_104 K72 n 114 (nI f) (nI (j + 1)) M35) = y → f_X6_save_104 K72 (n + 1) 114 (nI f) (nI j) M = y := by
      intro y hy
      rw [f_X6_save_104, chk_t sx.1, sx.2.1.1, bnd_e, cs_f q, cs_h0 q, bnd_e, cs_s q, p.2.2.2.2.2.1, if_neg (nI_ge (by omega) (by omega)), bnd_e, cs_f q, cs_h1 q, bnd_e, cs_p q, cs_r5 q, bnd_e, cs_a5 q, cs_i5 q hf, mI_c (by omega), f_has9 _ (by omega), obd_s, b, nI_1, bnd_e, bnd_e, cs_f q, cs_h1 q, bnd_e, cs_p q, show nI f * (16 : Int32) = nI (16 * f) by rw [show (16 : Int32) = nI 16 from rfl, pk_mul, Nat.mul_comm], nI_add]
      exact hy
    by_cases z : bt (bms S f) j = true
    · rw [if_pos z] at he ⊢
      obtain ⟨M1, d1, e1, W1⟩ := h.lane hX hY (l := 16 * f + j) (n := n) (by omega) (by omega) (by omega)
      obtain ⟨M2, d2, e2, W2⟩ := ih (j + 1) n M1 _ d1 (by omega) W1.1 (by omega) (by omega)
      refine ⟨M2, d2, hd _ ?_, W1.tr W2⟩
      rw [if_pos z, if_neg ne10, e1, obd_s, e2]
    · rw [if_neg z] at he ⊢
      obtain ⟨M2, d2, e2, W2⟩ := ih (j + 1) n M e dC (by omega) h (by simpa using he) (by omega)
      refine ⟨M2, d2, hd _ ?_, W2⟩
      rw [if_neg z, if_pos rfl, e2]
theorem sv_72 (hX : X0 ≤ 100000) (hY : Y0 ≤ 1000000) (h16 : N ≤ 16) : ∀ (d f n : Nat) (M : Mem) (e dC : Nat), f + d = N → SV X0 Y0 t N Q pb pt S M e dC → e + ((List.range' f d).flatMap (serF N S)).length < 760000 → d + 9200 ≤ n → ∃ M' dC', f_X6_save_72 n 114 (nI f) M = some M' ∧ WS X0 Y0 t N Q pb pt S M e dC M' dC' ((List.range' f d).flatMap (serF N S)) := by
  intro d
  induction d with
  | zero =>
    intro f n M e dC hj h he hn
    obtain ⟨n, rfl⟩ : ∃ m, n = m + 1 := ⟨n - 1, by omega⟩
    obtain ⟨L, sx, c, p⟩ := id h
    have q := p.1
    refine ⟨M, dC, ?_, h.ws⟩
    rw [f_X6_save_72, chk_t sx.1, sx.2.1.1, bnd_e, cs_f q, cs_h0 q, bnd_e, cs_s q, p.2.2.2.2.2.1, if_pos (nI_le (by omega) (by omega))]
  | succ d ih =>
    intro f n M e dC hj h he hn
    obtain ⟨n, rfl⟩ : ∃ m, n = m + 1 := ⟨n - 1, by omega⟩
    obtain ⟨L, sx, c, p⟩ := id h
    have q := p.1
    have hf : f < 16 := by omega
    have eb : mI M (63 + 5) f = bms S f := b_ext (fun i hi => by rw [p.busy hf hi, bms_b hi])
    rw [List.range'_succ, List.flatMap_cons] at he ⊢
    rw [List.length_append] at he
    have e0 : (serF N S f).length = 1 + (serG S f (List.range' 0 N)).length := by unfold serF; rw [List.length_cons]; omega
    obtain ⟨M1, d1, e1, W1⟩ := h.push hX hY (by omega) (bms S f)
    obtain ⟨M2, d2, e2, W2⟩ := sv_104 hX hY h16 (f_X6_save_72 n) hf N 0 n M1 (e + 1) d1 (by omega) W1.1 (by omega) (by omega)
    have W12 : WS X0 Y0 t N Q pb pt S M e dC M2 d2 (serF N S f) := W1.tr W2
    obtain ⟨M3, d3, e3, W3⟩ := ih (f + 1) n M2 _ d2 (by omega) W12.1 (by omega) (by omega)
    refine ⟨M3, d3, ?_, W12.tr W3⟩
    rw [f_X6_save_72, chk_t sx.1, sx.2.1.1, bnd_e, cs_f q, cs_h0 q, bnd_e, cs_s q, p.2.2.2.2.2.1, if_neg (nI_ge (by omega) (by omega)), bnd_e, cs_f q, cs_h1 q, bnd_e, cs_p q, cs_r5 q, bnd_e, cs_a5 q, cs_i5 q hf, mI_c (by omega), eb, e1, obd_s]
    exact e2.trans e3
theorem sv_37 (hX : X0 ≤ 100000) (hY : Y0 ≤ 1000000) (so : Sok N S) : ∀ (d v n : Nat) (M : Mem) (e dC : Nat), v + d = N → SV X0 Y0 t N Q pb pt S M e dC → e + ((List.range' v d).flatMap (serP S)).length + ((List.range' 0 N).flatMap (serF N S)).length + 40 < 760000 → d + N + 9300 ≤ n → ∃ M' dC', f_X6_save_37 n 114 (nI v) M = some M' ∧ WS X0 Y0 t N Q pb pt S M e dC M' dC' ((List.range' v d).flatMap (serP S) ++ (List.range' 0 N).flatMap (serF N S)) := by
  obtain ⟨h16, hw, h10⟩ := so
  intro d
  induction d with
  | zero =>
    intro v n M e dC hj h he hn
    obtain ⟨n, rfl⟩ : ∃ m, n = m + 1 := ⟨n - 1, by omega⟩
    obtain ⟨L, sx, c, p⟩ := id h
    have q := p.1
    obtain ⟨M1, d1, e1, W1⟩ := sv_72 hX hY h16 N 0 n M e dC (by omega) h (by omega) (by omega)
    refine ⟨M1, d1, ?_, W1⟩
    rw [f_X6_save_37, chk_t sx.1, sx.2.1.1, bnd_e, cs_f q, cs_h0 q, bnd_e, cs_s q, p.2.2.2.2.2.1, if_pos (nI_le (by omega) (by omega))]
    exact e1
  | succ d ih =>
    intro v n M e dC hj h he hn
    obtain ⟨n, rfl⟩ : ∃ m, n = m + 1 := ⟨n - 1, by omega⟩
    obtain ⟨L, sx, c, p⟩ := id h
    have q := p.1
    have hv : v < 16 := by omega
    rw [List.range'_succ, List.flatMap_cons] at he ⊢
    rw [List.length_append] at he
    obtain ⟨M1, d1, e1, W1⟩ := h.place hX hY (v := v) (n := n) hv (hw v hv) (h10 v hv) (by omega) (by omega)
    obtain ⟨M2, d2, e2, W2⟩ := ih (v + 1) n M1 _ d1 (by omega) W1.1 (by omega) (by omega)
    refine ⟨M2, d2, ?_, by rw [List.append_assoc]; exact W1.tr W2⟩
    rw [f_X6_save_37, chk_t sx.1, sx.2.1.1, bnd_e, cs_f q, cs_h0 q, bnd_e, cs_s q, p.2.2.2.2.2.1, if_neg (nI_ge (by omega) (by omega)), bnd_e, cs_f q, cs_h2 q, bnd_e, cs_a10 q, cs_i10 q hv, cs_rpc q hv, bnd_e, cs_po q hv, e1, obd_s, nI_1, bnd_e, e2]
end
/-! ===== alike states are written alike, and none else ===== -/
theorem fm_inj {α β : Type} {g g' : α → List β} : ∀ (ws : List α) (R R' : List β), (∀ v, v ∈ ws → ∀ r r', g v ++ r = g' v ++ r' → g v = g' v) → ws.flatMap g ++ R = ws.flatMap g' ++ R' → (∀ v, v ∈ ws → g v = g' v) ∧ R = R' := by
  intro ws
  induction ws with
  | nil => intro R R' _ h; exact ⟨fun v hv => by simp at hv, h⟩
  | cons w ws ih =>
    intro R R' hp h
    rw [List.flatMap_cons, List.flatMap_cons, List.append_assoc, List.append_assoc] at h
    have e := hp w (by simp) _ _ h
    rw [e] at h
    have h2 := List.append_cancel_left h
    obtain ⟨a, b⟩ := ih R R' (fun v hv => hp v (List.mem_cons_of_mem _ hv)) h2
    refine ⟨fun v hv => ?_, b⟩
    rcases List.mem_cons.mp hv with z | z
    · rw [z]; exact e
    · exact a v z
theorem ap_len {β : Type} {a a' r r' : List β} (h : a ++ r = a' ++ r') (hl : a.length = a'.length) : a = a' := (List.append_inj h hl).1
theorem Wok_eq {N A A' : Nat} : ∀ {l m : List Wtr}, Wok N A l → Wok N A' m → (∀ x, x ∈ l ↔ x ∈ m) → l = m := by
  intro l
  induction l with
  | nil =>
    intro m _ _ h
    cases m with
    | nil => rfl
    | cons y m => exact absurd ((h y).mpr (by simp)) (by simp)
  | cons x l ih =>
    intro m hl hm h
    cases m with
    | nil => exact absurd ((h x).mp (by simp)) (by simp)
    | cons y m =>
      have e : x = y := by
        rcases List.mem_cons.mp ((h x).mp (by simp)) with z | z
        · exact z
        · rcases List.mem_cons.mp ((h y).mpr (by simp)) with z' | z'
          · exact z'.symm
          · have a1 := (List.pairwise_cons.mp hl.1).1 y z'
            have a2 := (List.pairwise_cons.mp hm.1).1 x z
            unfold aw at a1 a2
            rw [ahd_as a1] at a2
            exact absurd a2 (by decide)
      subst e
      have nx : ∀ {l : List Wtr} {A : Nat}, Wok N A (x :: l) → x ∉ l := fun h z => by
        have := h.2.1
        rw [List.map_cons, List.nodup_cons] at this
        exact this.1 (List.mem_map.mpr ⟨x, z, rfl⟩)
      rw [ih hl.tl hm.tl (fun z => ?_)]
      constructor
      · intro hz
        rcases List.mem_cons.mp ((h z).mp (List.mem_cons_of_mem _ hz)) with q | q
        · exact absurd (q ▸ hz) (nx hl)
        · exact q
      · intro hz
        rcases List.mem_cons.mp ((h z).mpr (List.mem_cons_of_mem _ hz)) with q | q
        · exact absurd (q ▸ hz) (nx hm)
        · exact q
section
variable {S S' : St} {N A A' : Nat}
theorem serP_d {v : Nat} {r r' : List Int32} (h : serP S v ++ r = serP S' v ++ r') : serP S v = serP S' v := by
  refine ap_len h ?_
  have h' := h
  unfold serP at h'
  simp only [List.cons_append, List.nil_append, List.cons.injEq] at h'
  have e : wms S v = wms S' v := h'.2.2.2.2.2.2.2.2.2.1
  unfold serP
  rw [List.length_append, List.length_append, List.length_map, List.length_map, e]
  rfl
theorem serL_d {l : Nat} (h1 : (xL S l).length < 2 ^ 31) (h2 : (xL S' l).length < 2 ^ 31) {r r' : List Int32} (h : serL S l ++ r = serL S' l ++ r') : serL S l = serL S' l := by
  refine ap_len h ?_
  unfold serL at h ⊢
  rw [List.cons_append, List.cons_append] at h
  have := (List.cons.inj h).1
  have := (nI_eq h1 h2).mp this
  rw [List.length_cons, List.length_cons, List.length_map, List.length_map, this]
theorem serF_d {f : Nat} (h16 : N ≤ 16) (hf : f < 16) (hl : ∀ l, l < 256 → (xL S l).length < 2 ^ 31 ∧ (xL S' l).length < 2 ^ 31) {r r' : List Int32} (h : serF N S f ++ r = serF N S' f ++ r') : serF N S f = serF N S' f := by
  unfold serF at h ⊢
  rw [List.cons_append, List.cons_append] at h
  obtain ⟨h1, h2⟩ := List.cons.inj h
  unfold serG at h2 ⊢
  rw [h1] at h2 ⊢
  congr 1
  have mb : ∀ g, g ∈ (List.range' 0 N).filter (fun g => bt (bms S' f) g) → 16 * f + g < 256 := fun g hg => by
    have := List.mem_range'_1.mp (List.mem_filter.mp hg).1
    omega
  obtain ⟨a, _⟩ := fm_inj _ _ _ (fun g hg r r' z => serL_d (hl _ (mb g hg)).1 (hl _ (mb g hg)).2 z) h2
  exact fm_cg _ a
theorem encC_inj {x y : Ltr} (hx : Lok x) (hy : Lok y) (h : encC x = encC y) : lk x = lk y := by
  obtain ⟨⟨k, hk, ek⟩, s, hs, es⟩ := hx
  obtain ⟨⟨k', hk', ek'⟩, s', hs', es'⟩ := hy
  have a := encC_kind (show k < 8 by omega) ek
  have a' := encC_kind (show k' < 8 by omega) ek'
  have b := encC_stamp (show k < 8 by omega) ek hs es
  have b' := encC_stamp (show k' < 8 by omega) ek' hs' es'
  rw [h] at a b
  unfold lk
  rw [ek, ek', a.symm.trans a', es, es', b.symm.trans b']
theorem encC_c {x y : Ltr} (h : lk x = lk y) : encC x = encC y := by
  unfold lk at h
  obtain ⟨a, b⟩ := Prod.mk.inj h
  unfold encC
  rw [a, b]
theorem ser_c (h : SE S S') (h16 : N ≤ 16) : ser N S = ser N S' := by
  have e0 : ∀ q, mkS S q = mkS S' q := fun q => by
    apply b_ext
    intro i hi
    rw [mkS_b hi, mkS_b hi]
    by_cases c : i < 16
    · rw [h.1 0 i (by omega) c]
    · simp [c]
  have eP : ∀ v, v < 16 → serP S v = serP S' v := fun v hv => by
    have ew := h.2.1 v hv
    have e1 : wms S v = wms S' v := by unfold wms; rw [ew]
    have e2 : wst S v = wst S' v := by funext u; unfold wst; rw [ew]
    unfold serP
    rw [e1, e2, h.1 1 v (by omega) hv, h.1 2 v (by omega) hv, h.1 3 v (by omega) hv, h.1 4 v (by omega) hv, h.1 5 v (by omega) hv, h.1 6 v (by omega) hv, h.1 8 v (by omega) hv, h.1 9 v (by omega) hv, h.1 10 v (by omega) hv]
  have eB : ∀ f, f < 16 → bms S f = bms S' f := fun f hf => by
    apply b_ext
    intro i hi
    rw [bms_b hi, bms_b hi]
    by_cases c : i < 16
    · have := h.2.2 (16 * f + i) (by omega)
      have e : (xL S (16 * f + i) ≠ []) ↔ (xL S' (16 * f + i) ≠ []) := by
        constructor
        · intro z y
          rw [y] at this
          exact z (List.map_eq_nil_iff.mp this)
        · intro z y
          rw [y] at this
          exact z (List.map_eq_nil_iff.mp this.symm)
      simp [c, e]
    · simp [c]
  have eL : ∀ l, l < 256 → serL S l = serL S' l := fun l hl => by
    have := h.2.2 l hl
    have ln : (xL S l).length = (xL S' l).length := by
      have := congrArg List.length this
      rwa [List.length_map, List.length_map] at this
    unfold serL
    rw [ln]
    congr 1
    have g : ∀ l : List Ltr, l.map encC = (l.map lk).map (fun y => (y.2 <<< ((3 : Int32) &&& 31)) ||| y.1) := fun l => by rw [List.map_map]; rfl
    rw [g, g, this]
  have eF : ∀ f, f < N → serF N S f = serF N S' f := fun f hf => by
    unfold serF serG
    rw [eB f (by omega)]
    congr 1
    refine fm_cg _ (fun g hg => ?_)
    have := List.mem_range'_1.mp (List.mem_filter.mp hg).1
    exact eL _ (by omega)
  unfold ser
  rw [e0, e0]
  congr 3
  · exact fm_cg _ (fun v hv => eP v (by have := List.mem_range'_1.mp hv; omega))
  · exact fm_cg _ (fun v hv => eF v (by have := List.mem_range'_1.mp hv; omega))
theorem ln_l {S : St} {l : Nat} (hl : l < 256) (h : (fl S).length ≤ 9000) : (xL S l).length ≤ 9000 := by
  have := fl_split S hl
  have := congrArg List.length this
  simp only [List.length_append, List.length_map] at this
  omega
set_option maxHeartbeats 1000000 in
theorem ser_i (h : ser N S = ser N S') (h16 : N ≤ 16) (hI : Inv N A S) (hI' : Inv N A' S') (hA : A < 1048576) (hA' : A' < 1048576) (hq : Qk S S') (hk : Kn N S S') (hl : ∀ l, l < 256 → (xL S l).length < 2 ^ 31 ∧ (xL S' l).length < 2 ^ 31) : SE S S' := by
  unfold ser at h
  obtain ⟨m2, h⟩ := List.cons.inj h
  obtain ⟨m1, h⟩ := List.cons.inj h
  obtain ⟨hP, h⟩ := fm_inj _ _ _ (fun v _ r r' z => serP_d z) h
  have h' : (List.range' 0 N).flatMap (serF N S) ++ [] = (List.range' 0 N).flatMap (serF N S') ++ [] := by rw [List.append_nil, List.append_nil]; exact h
  obtain ⟨hF, _⟩ := fm_inj _ _ _ (fun v hv r r' z => serF_d h16 (by have := List.mem_range'_1.mp hv; omega) hl z) h'
  have mem : ∀ v, v < N → v ∈ List.range' 0 N := fun v hv => List.mem_range'_1.mpr ⟨Nat.zero_le _, by omega⟩
  have w16 : ∀ {S : St} {A : Nat}, Inv N A S → ∀ v, v < 16 → ∀ w, w ∈ xW S v → w.1 < 16 := fun hI v hv w hw => by have := ((hI.2.2.2.2.2.1 v hv).1.2.2 w hw).1; omega
  have r0 : ∀ v, v < 16 → xR S 0 v = xR S' 0 v := fun v hv => by
    have a2 := mkS_b (S := S) (q := 2) (u := v) (by omega)
    have b2 := mkS_b (S := S') (q := 2) (u := v) (by omega)
    rw [m2, b2] at a2
    have a1 := mkS_b (S := S) (q := 1) (u := v) (by omega)
    have b1 := mkS_b (S := S') (q := 1) (u := v) (by omega)
    rw [m1, b1] at a1
    have i0 := (hI.1 v hv).1
    have i0' := (hI'.1 v hv).1
    rcases i0 with z | z | z <;> rcases i0' with y | y | y <;> rw [z, y] at a1 a2 ⊢ <;> simp [hv] at a1 a2
  have pv : ∀ v, v < N → (xR S 1 v = xR S' 1 v ∧ xR S 2 v = xR S' 2 v ∧ xR S 3 v = xR S' 3 v ∧ xR S 4 v = xR S' 4 v ∧ xR S 5 v = xR S' 5 v ∧ xR S 6 v = xR S' 6 v ∧ xR S 8 v = xR S' 8 v ∧ (if xR S 8 v = -1 then -1 else xR S 9 v) = (if xR S' 8 v = -1 then -1 else xR S' 9 v) ∧ xR S 10 v = xR S' 10 v ∧ wms S v = wms S' v ∧ (ms (wms S v)).map (wst S v) = (ms (wms S' v)).map (wst S' v)) := fun v hv => by
    have := hP v (mem v hv)
    unfold serP at this
    simpa only [List.cons_append, List.nil_append, List.cons.injEq] using this
  refine ⟨fun k i hk' hi => ?_, fun a ha => ?_, fun l hl' => ?_⟩
  · by_cases c : i < N
    · obtain ⟨p1, p2, p3, p4, p5, p6, p8, p9, p10, _⟩ := pv i c
      rcases (show k = 0 ∨ k = 1 ∨ k = 2 ∨ k = 3 ∨ k = 4 ∨ k = 5 ∨ k = 6 ∨ k = 7 ∨ k = 8 ∨ k = 9 ∨ k = 10 ∨ k = 17 ∨ k = 20 by omega) with rfl | rfl | rfl | rfl | rfl | rfl | rfl | rfl | rfl | rfl | rfl | rfl | rfl
      · exact r0 i hi
      · exact p1
      · exact p2
      · exact p3
      · exact p4
      · exact p5
      · exact p6
      · exact (hq 7 (by omega) i).symm
      · exact p8
      · have f := (hI.2.2.2.2.2.1 i hi).2.2
        have f' := (hI'.2.2.2.2.2.1 i hi).2.2
        by_cases z : xR S 8 i = -1
        · have z' : xR S' 8 i = -1 := by rw [← p8]; exact z
          have a : xR S 9 i = 0 := by
            rcases f with y | ⟨g, g1, g2, _⟩
            · exact y.2.1
            · rw [z] at g2; exact absurd g2 (m1_ne (by omega))
          have a' : xR S' 9 i = 0 := by
            rcases f' with y | ⟨g, g1, g2, _⟩
            · exact y.2.1
            · rw [z'] at g2; exact absurd g2 (m1_ne (by omega))
          rw [a, a']
        · have z' : ¬ xR S' 8 i = -1 := by rw [← p8]; exact z
          rwa [if_neg z, if_neg z'] at p9
      · exact p10
      · exact (hq 17 (by omega) i).symm
      · exact (hq 20 (by omega) i).symm
    · rcases hk' with z | z | z
      · exact (hk k z i (by omega)).symm
      · exact (hq k (by omega) i).symm
      · exact (hq k (by omega) i).symm
  · by_cases c : a < N
    · obtain ⟨_, _, _, _, _, _, _, _, _, pm, ps⟩ := pv a c
      have W := (hI.2.2.2.2.2.1 a ha).1
      have W' := (hI'.2.2.2.2.2.1 a ha).1
      have key : ∀ u, u < 16 → (u ∈ (xW S a).map Prod.fst ↔ u ∈ (xW S' a).map Prod.fst) := fun u hu => by
        have b := wms_b (S := S) (v := a) (u := u) (by omega) (w16 hI a ha)
        have b' := wms_b (S := S') (v := a) (u := u) (by omega) (w16 hI' a ha)
        rw [pm, b'] at b
        have := decide_eq_decide.mp b
        exact this.symm
      rw [← pm] at ps
      have st := List.map_inj_left.mp ps
      have one : ∀ {S S' : St} {A A' : Nat}, Inv N A S → Inv N A' S' → (∀ u, u < 16 → (u ∈ (xW S a).map Prod.fst → u ∈ (xW S' a).map Prod.fst)) → (∀ u, u < 16 → u ∈ (xW S a).map Prod.fst → wst S a u = wst S' a u) → ∀ x, x ∈ xW S a → x ∈ xW S' a := by
        intro S S' A A' hI hI' hm hs x hx
        have x16 := w16 hI a ha x hx
        have hu : x.1 ∈ (xW S a).map Prod.fst := List.mem_map.mpr ⟨x, hx, rfl⟩
        obtain ⟨y, y1, y2, y3⟩ := wst_e (hm x.1 x16 hu)
        obtain ⟨z, z1, z2, z3⟩ := wst_e hu
        have nd := (hI.2.2.2.2.2.1 a ha).1.2.1
        have ez : z = x := by
          have a1 := (engW_some (l := xW S a) (v := x.1) (s := z.2) nd).mpr (by rw [← z2]; exact z1)
          have a2 := (engW_some (l := xW S a) (v := x.1) (s := x.2) nd).mpr hx
          rw [a1] at a2
          exact Prod.ext z2 (Option.some.inj a2)
        have : y = x := Prod.ext y2 (by rw [← y3, ← hs x.1 x16 hu, z3, ez])
        rw [← this]; exact y1
      have inms : ∀ u, u < 16 → u ∈ (xW S a).map Prod.fst → u ∈ ms (wms S a) := fun u hu z => by
        unfold ms
        rw [List.mem_filter]
        exact ⟨List.mem_range.mpr hu, by rw [wms_b (by omega) (w16 hI a ha)]; exact decide_eq_true z⟩
      refine Wok_eq W W' (fun x => ⟨one hI hI' (fun u hu => (key u hu).mp) (fun u hu z => st u (inms u hu z)) x, one hI' hI (fun u hu => (key u hu).mpr) (fun u hu z => (st u (inms u hu ((key u hu).mpr z))).symm) x⟩)
    · rw [(hI.2.2.2.2.2.1 a ha).2.1 (by omega), (hI'.2.2.2.2.2.1 a ha).2.1 (by omega)]
  · by_cases c : l / 16 < N ∧ l % 16 < N
    · have hf := hF (l / 16) (mem _ c.1)
      unfold serF at hf
      obtain ⟨eb, hg⟩ := List.cons.inj hf
      unfold serG at hg
      rw [eb] at hg
      have hg' : ((List.range' 0 N).filter fun g => bt (bms S' (l / 16)) g).flatMap (fun g => serL S (16 * (l / 16) + g)) ++ [] = ((List.range' 0 N).filter fun g => bt (bms S' (l / 16)) g).flatMap (fun g => serL S' (16 * (l / 16) + g)) ++ [] := by rw [List.append_nil, List.append_nil]; exact hg
      have mb : ∀ g, g ∈ (List.range' 0 N).filter (fun g => bt (bms S' (l / 16)) g) → 16 * (l / 16) + g < 256 := fun g hg => by
        have := List.mem_range'_1.mp (List.mem_filter.mp hg).1
        omega
      obtain ⟨hL, _⟩ := fm_inj _ _ _ (fun g hg r r' z => serL_d (hl _ (mb g hg)).1 (hl _ (mb g hg)).2 z) hg'
      have b := bms_b (S := S) (f := l / 16) (u := l % 16) (by omega)
      have b' := bms_b (S := S') (f := l / 16) (u := l % 16) (by omega)
      rw [eb, b'] at b
      rw [show 16 * (l / 16) + l % 16 = l by omega] at b b'
      by_cases z : xL S' l = []
      · have : xL S l = [] := by
          have := decide_eq_decide.mp b
          by_cases y : xL S l = []
          · exact y
          · exact absurd z (this.mpr ⟨by omega, y⟩).2
        rw [z, this]
      · have hin : l % 16 ∈ (List.range' 0 N).filter fun g => bt (bms S' (l / 16)) g := by
          rw [List.mem_filter]
          exact ⟨mem _ c.2, by rw [b']; exact decide_eq_true ⟨by omega, z⟩⟩
        have e := hL _ hin
        rw [show 16 * (l / 16) + l % 16 = l by omega] at e
        unfold serL at e
        have em := (List.cons.inj e).2
        have gen : ∀ (a b : List Ltr), (∀ x, x ∈ a → Lok x) → (∀ x, x ∈ b → Lok x) → a.map encC = b.map encC → a.map lk = b.map lk := by
          intro a
          induction a with
          | nil => intro b _ _ h; rw [List.map_nil] at h; rw [List.map_eq_nil_iff.mp h.symm]
          | cons x a ih =>
            intro b ha hb h
            cases b with
            | nil => cases h
            | cons y b =>
              rw [List.map_cons, List.map_cons] at h ⊢
              obtain ⟨h1, h2⟩ := List.cons.inj h
              rw [encC_inj (ha x (by simp)) (hb y (by simp)) h1, ih b (fun z hz => ha z (List.mem_cons_of_mem _ hz)) (fun z hz => hb z (List.mem_cons_of_mem _ hz)) h2]
        exact gen _ _ (fun x hx => Lok_of hI hA hl' hx) (fun x hx => Lok_of hI' hA' hl' hx) em
    · rw [(hI.2.2.2.2.1 l hl').2 c, (hI'.2.2.2.2.1 l hl').2 c]
end
/-! ===== how long a kept state is; the class keeps one, and looks whether it is known ===== -/
theorem flr_len_s (L : Nat → List Ltr) (a n : Nat) : (flr L a (n + 1)).length = (L a).length + (flr L (a + 1) n).length := by
  unfold flr
  rw [List.range'_succ, List.flatMap_cons, List.length_append, List.length_map]
theorem flr_len_ap (L : Nat → List Ltr) : ∀ (m a n : Nat), (flr L a (m + n)).length = (flr L a m).length + (flr L (a + m) n).length := by
  intro m
  induction m with
  | zero => intro a n; rw [Nat.zero_add, Nat.add_zero]; show _ = 0 + _; omega
  | succ m ih =>
    intro a n
    rw [show m + 1 + n = (m + n) + 1 by omega, flr_len_s, ih, flr_len_s, show a + 1 + m = a + (m + 1) by omega]
    omega
theorem serG_len (S : St) (f : Nat) (hf : f < 16) : ∀ (d j : Nat), j + d ≤ 16 → (serG S f (List.range' j d)).length ≤ 2 * (flr (xL S) (16 * f + j) d).length := by
  intro d
  induction d with
  | zero => intro j _; exact Nat.zero_le _
  | succ d ih =>
    intro j hj
    have eG : serG S f (List.range' j (d + 1)) = (if bt (bms S f) j = true then serL S (16 * f + j) else []) ++ serG S f (List.range' (j + 1) d) := by
      unfold serG
      rw [List.range'_succ, List.filter_cons]
      by_cases z : bt (bms S f) j = true
      · rw [if_pos z, if_pos z, List.flatMap_cons]
      · rw [if_neg z, if_neg z]; rfl
    have := ih (j + 1) (by omega)
    rw [show 16 * f + (j + 1) = 16 * f + j + 1 by omega] at this
    rw [eG, List.length_append, flr_len_s]
    by_cases z : bt (bms S f) j = true
    · rw [if_pos z]
      rw [bms_b (by omega)] at z
      have hne := (of_decide_eq_true z).2
      have hp : 0 < (xL S (16 * f + j)).length := List.length_pos_iff.mpr hne
      unfold serL
      rw [List.length_cons, List.length_map]
      omega
    · rw [if_neg z, List.length_nil]
      omega
theorem ser_len {N : Nat} {S : St} (h16 : N ≤ 16) : (ser N S).length ≤ 2 + 27 * N + 2 * (fl S).length := by
  have hF : ∀ (d f : Nat), f + d ≤ 16 → ((List.range' f d).flatMap (serF N S)).length ≤ d + 2 * (flr (xL S) (16 * f) (16 * d)).length := by
    intro d
    induction d with
    | zero => intro f _; exact Nat.zero_le _
    | succ d ih =>
      intro f hf
      have a := ih (f + 1) (by omega)
      have b := serG_len S f (by omega) N 0 (by omega)
      have c := flr_len_ap (xL S) N (16 * f) (16 - N)
      have e := flr_len_ap (xL S) 16 (16 * f) (16 * d)
      rw [show N + (16 - N) = 16 by omega] at c
      rw [Nat.add_zero] at b
      rw [show 16 * (f + 1) = 16 * f + 16 by omega] at a
      rw [List.range'_succ, List.flatMap_cons, List.length_append, show 16 * (d + 1) = 16 + 16 * d by omega, e]
      have z : (serF N S f).length = 1 + (serG S f (List.range' 0 N)).length := by unfold serF; rw [List.length_cons]; omega
      omega
  have hP : ∀ (d v : Nat), ((List.range' v d).flatMap (serP S)).length ≤ 26 * d := by
    intro d
    induction d with
    | zero => intro v; exact Nat.zero_le _
    | succ d ih =>
      intro v
      have a := ih (v + 1)
      rw [List.range'_succ, List.flatMap_cons, List.length_append]
      have z : (serP S v).length ≤ 26 := by
        unfold serP
        rw [List.length_append, List.length_map]
        have : (ms (wms S v)).length ≤ 16 := by
          have := List.length_filter_le (fun i => bt (wms S v) i) (List.range 16)
          rw [List.length_range] at this
          exact this
        show 10 + _ ≤ 26
        omega
      omega
  have a := hF N 0 (by omega)
  have b := hP N 0
  have c := flr_len_ap (xL S) (16 * N) 0 (256 - 16 * N)
  rw [show 16 * N + (256 - 16 * N) = 256 by omega] at c
  have d : (flr (xL S) 0 256).length = (fl S).length := by
    unfold flr fl
    rw [List.range_eq_range']
  unfold ser
  rw [List.length_cons, List.length_cons, List.length_append]
  rw [Nat.mul_zero] at a
  omega
def offs (N : Nat) (l : List (St × Nat)) (i : Nat) : Nat := ((l.take i).map fun p => (ser N p.1).length).sum
theorem offs_s {N : Nat} {l : List (St × Nat)} {i : Nat} {p : St × Nat} (h : l[i]? = some p) : offs N l (i + 1) = offs N l i + (ser N p.1).length := by
  unfold offs
  rw [take_s h, List.map_append, List.sum_append]
  rfl
theorem offs_le {N : Nat} {l : List (St × Nat)} (hl : ∀ p, p ∈ l → (ser N p.1).length ≤ 18434) : ∀ i, offs N l i ≤ 18434 * i := by
  intro i
  induction i with
  | zero => unfold offs; rw [List.take_zero]; exact Nat.zero_le _
  | succ i ih =>
    cases e : l[i]? with
    | none =>
      have : l.take (i + 1) = l.take i := by
        have := List.getElem?_eq_none_iff.mp e
        rw [List.take_of_length_le (by omega), List.take_of_length_le this]
      unfold offs at ih ⊢
      rw [this]; omega
    | some p =>
      rw [offs_s e]
      have := hl p (List.mem_of_getElem? e)
      omega
/-- the states met, as the class holds them -/
def XQ (N : Nat) (M : Mem) (dC : Nat) (l : List (St × Nat)) : Prop := (∀ i, i ≤ l.length → mI M 115 i = nI (offs N l i)) ∧ ∀ (i : Nat) (p : St × Nat), l[i]? = some p → (∀ j x, (ser N p.1)[j]? = some x → mI M dC (offs N l i + j) = x) ∧ mI M 116 i = nI p.2
section
variable {X0 Y0 N : Nat} {t : Int32} {Q : Nat → Int32} {S : St} {pb pt : List Row4}
theorem sx1 {α : Type} {M : Mem} (x : SX M) (y : Option α) : chk (isO M 100 115) y = y := chk_t x.2.2.1.1
theorem sx1i {α : Type} {M : Mem} (x : SX M) {k : Nat} (hk : k < 41) (y : Option α) : chk (inB (nI k) (mLn M 115)) y = y := by
  refine chk_t ?_
  rw [x.2.2.2.1.1]; exact inB_n hk (by decide)
theorem SV.rs {M : Mem} {e dC : Nat} (h : SV X0 Y0 t N Q pb pt S M e dC) {e' : Nat} (he : e' ≤ e) : SV X0 Y0 t N Q pb pt S (sI M 114 6 (nI e')) e' dC := by
  obtain ⟨L, sx, c, p⟩ := h
  have f : FrC M (sI M 114 6 (nI e')) dC dC := ⟨Nat.le_refl _, fun _ _ => rfl, fun _ _ _ _ => rfl, fun o _ n _ b => mI_o _ _ _ _ _ n, fun b n => mI_n _ _ _ _ n, fun _ _ _ => rfl, Or.inl rfl⟩
  obtain ⟨c1, c2, c3, c4, c5, c6, c7⟩ := c
  refine ⟨L, sx.fr f, ⟨c1, c2, c3, c4, mI_s _ _ _ _, by omega, c7⟩, p.frC f ⟨c4, c7.2.2⟩ p.2.2.2.1⟩
set_option maxHeartbeats 1000000 in
theorem SV.save {M : Mem} {e dC n m e0 : Nat} (h : SV X0 Y0 t N Q pb pt S M e dC) (hX : X0 ≤ 100000) (hY : Y0 ≤ 1000000) (so : Sok N S) (hm : mI M 114 10 = nI m) (hm40 : m ≤ 40) (hs : mI M 115 m = nI e0) (he0 : e0 ≤ e) (he : e0 + (ser N S).length + 60 < 760000) (hn : 10000 ≤ n) : ∃ M' dC', f_X6_save n 114 M = some M' ∧ SV X0 Y0 t N Q pb pt S M' (e0 + (ser N S).length) dC' ∧ (∀ j, j < e0 → mI M' dC' j = mI M dC j) ∧ (∀ i x, (ser N S)[i]? = some x → mI M' dC' (e0 + i) = x) ∧ FrC M M' dC dC' := by
  have h0 := h.rs he0
  have f0 : FrC M (sI M 114 6 (nI e0)) dC dC := ⟨Nat.le_refl _, fun _ _ => rfl, fun _ _ _ _ => rfl, fun o _ n _ b => mI_o _ _ _ _ _ n, fun b n => mI_n _ _ _ _ n, fun _ _ _ => rfl, Or.inl rfl⟩
  have hsx : SX M := by obtain ⟨L, sx, _⟩ := h; exact sx
  have d114 : dC ≠ 114 := by obtain ⟨L, sx, c, p⟩ := h; have := c.2.2.2.1; omega
  generalize hMa : sI M 114 6 (nI e0) = Ma at h0 f0
  have el : (ser N S).length = 1 + (1 + (((List.range' 0 N).flatMap (serP S)).length + ((List.range' 0 N).flatMap (serF N S)).length)) := by
    unfold ser
    rw [List.length_cons, List.length_cons, List.length_append]; omega
  rw [el] at he
  have mk : ∀ {M : Mem} {e dC : Nat} (_ : SV X0 Y0 t N Q pb pt S M e dC), SX M ∧ CS M 63 ∧ mI M 63 7 = mkS S 2 ∧ mI M 63 8 = mkS S 1 := fun h => by
    obtain ⟨L, sx, c, p⟩ := h
    exact ⟨sx, p.1, b_ext (fun i hi => by rw [p.2.2.1.2.1 i hi, mkS_b hi]), b_ext (fun i hi => by rw [p.2.2.1.2.2.1 i hi, mkS_b hi])⟩
  obtain ⟨xa, qa, a7, _⟩ := mk h0
  obtain ⟨M1, d1, e1, W1⟩ := h0.push hX hY (by omega) (mkS S 2)
  obtain ⟨xb, qb, _, b8⟩ := mk W1.1
  obtain ⟨M2, d2, e2, W2⟩ := W1.1.push hX hY (by show e0 + 1 < 760000; omega) (mkS S 1)
  obtain ⟨M3, d3, e3, W3⟩ := sv_37 hX hY so N 0 n M2 (e0 + 1 + 1) d2 (by omega) W2.1 (by omega) (by have := so.1; omega)
  have W : WS X0 Y0 t N Q pb pt S Ma e0 dC M3 d3 (ser N S) := (W1.tr W2).tr W3
  refine ⟨M3, d3, ?_, W.1, fun j hj => ?_, W.2.2.1, f0.tr W.2.2.2⟩
  · rw [f_X6_save, chk_t hsx.1, hsx.2.1.2.1, bnd_e, sx1 hsx, hm, sx1i hsx (by omega), mI_c (by omega), hs, hMa, bnd_e, xa.2.1.1, bnd_e, cs_f qa, a7, e1, obd_s, chk_t xb.1, xb.2.1.1, bnd_e, cs_f qb, b8, e2, obd_s]
    exact e3
  · rw [W.2.1 j hj, ← hMa, mI_o _ _ _ _ _ d114]
theorem li_l {M : Mem} {dC L a b sz i m : Nat} (sx : SX M) (c1 : mR M 114 5 = dC) (c2 : isO M 100 dC) (c3 : mLn M dC = L) (hi : i < 41) (hm : m < 41) (ha : mI M 115 i = nI a) (hb : mI M 115 m = nI b) (h10 : mI M 114 10 = nI m) (la : a + sz ≤ L) (lb : b + sz ≤ L) (hL : L < 2 ^ 31) : ∀ (d k n : Nat), k + d = sz → d + 1 ≤ n → ∃ r : Bool, f_X6_isLike_38 M n 114 (nI i) (nI sz) (nI k) = some (if r then 1 else 0) ∧ (r = true ↔ ∀ j, k ≤ j → j < sz → mI M dC (a + j) = mI M dC (b + j)) := by
  intro d
  induction d with
  | zero =>
    intro k n hk hn
    obtain ⟨n, rfl⟩ : ∃ m, n = m + 1 := ⟨n - 1, by omega⟩
    refine ⟨true, ?_, ⟨fun _ j a b => by omega, fun _ => rfl⟩⟩
    rw [f_X6_isLike_38, if_pos (nI_le (by omega) (by omega)), if_pos rfl]
  | succ d ih =>
    intro k n hk hn
    obtain ⟨n, rfl⟩ : ∃ m, n = m + 1 := ⟨n - 1, by omega⟩
    obtain ⟨r, e, hr⟩ := ih (k + 1) n (by omega) (by omega)
    have hd : ∀ y : Option Int32, (if mI M dC (a + k) = mI M dC (b + k) then f_X6_isLike_38 M n 114 (nI i) (nI sz) (nI (k + 1)) else some 0) = y → f_X6_isLike_38 M (n + 1) 114 (nI i) (nI sz) (nI k) = y := by
      intro y hy
      rw [f_X6_isLike_38, if_neg (nI_ge (by omega) (by omega)), chk_t sx.1, c1, bnd_e, chk_t c2, sx.2.1.2.1, bnd_e, sx1 sx, sx1i sx hi, mI_c (by omega), ha, nI_add, c3, chk_t (inB_n (by omega) hL), bnd_e, chk_t c2, bnd_e, sx1 sx, h10, sx1i sx hm, mI_c (by omega), hb, nI_add, c3, chk_t (inB_n (by omega) hL), mI_d (by omega), mI_d (by omega), nI_1, bnd_e]
      exact hy
    by_cases c : mI M dC (a + k) = mI M dC (b + k)
    · refine ⟨r, hd _ (by rw [if_pos c, e]), ?_⟩
      rw [hr]
      constructor
      · intro h j z z'
        by_cases y : j = k
        · rw [y]; exact c
        · exact h j (by omega) z'
      · intro h j z z'
        exact h j (by omega) z'
    · exact ⟨false, hd _ (by rw [if_neg c]; rfl), ⟨fun z => absurd z (by decide), fun h => absurd (h k (Nat.le_refl _) (by omega)) c⟩⟩
set_option maxHeartbeats 1000000 in
theorem like1 {M : Mem} {dC L n : Nat} {l : List (St × Nat)} (sx : SX M) (c : CL M dC L (offs N l l.length + (ser N S).length)) (hq : XQ N M dC l) (h10 : mI M 114 10 = nI l.length) (h40 : l.length ≤ 40) (hser : ∀ i x, (ser N S)[i]? = some x → mI M dC (offs N l l.length + i) = x) (ho : ∀ i, offs N l i ≤ 18434 * i) (hsl : (ser N S).length ≤ 18434) {i : Nat} {p : St × Nat} (hp : l[i]? = some p) (hps : (ser N p.1).length ≤ 18434) (hn : 19000 ≤ n) : ∃ r : Bool, f_X6_isLike n 114 (nI i) M = some (if r then 1 else 0) ∧ (r = true ↔ ser N p.1 = ser N S) := by
  obtain ⟨c1, c2, c3, c4, c5, c6, c7, c8, _⟩ := c
  have hi : i < l.length := by
    rcases Nat.lt_or_ge i l.length with z | z
    · exact z
    · rw [List.getElem?_eq_none z] at hp; cases hp
  have o1 := offs_s (N := N) hp
  have ha := hq.1 i (by omega)
  have ha1 := hq.1 (i + 1) (by omega)
  have hb := hq.1 l.length (Nat.le_refl _)
  have hoi := ho i
  have hol := ho l.length
  have mono : ∀ d j, j + d = l.length → offs N l j ≤ offs N l l.length := by
    intro d
    induction d with
    | zero => intro j hj; rw [show j = l.length by omega]; exact Nat.le_refl _
    | succ d ih =>
      intro j hj
      have := ih (j + 1) (by omega)
      have := offs_s (N := N) (List.getElem?_eq_getElem (show j < l.length by omega))
      omega
  have m1 := mono (l.length - (i + 1)) (i + 1) (by omega)
  have b1 : 18434 * i ≤ 18434 * 40 := Nat.mul_le_mul_left _ (by omega)
  have b2 : 18434 * l.length ≤ 18434 * 40 := Nat.mul_le_mul_left _ h40
  have head : ∀ y : Option Int32, (if nI (ser N p.1).length = nI (ser N S).length then f_X6_isLike_38 M n 114 (nI i) (nI (ser N S).length) 0 else some 0) = y → f_X6_isLike n 114 (nI i) M = y := by
    intro y hy
    rw [f_X6_isLike, chk_t sx.1, sx.2.1.2.1, bnd_e, sx1 sx, h10, sx1i sx (by omega), c5, mI_c (by omega), hb, nI_sb (by omega), show offs N l l.length + (ser N S).length - offs N l l.length = (ser N S).length by omega, bnd_e, bnd_e, sx1 sx, nI_1, sx1i sx (by omega), bnd_e, sx1 sx, sx1i sx (by omega), mI_c (by omega), mI_c (by omega), ha1, ha, o1, nI_sb (by omega), show offs N l i + (ser N p.1).length - offs N l i = (ser N p.1).length by omega]
    exact hy
  by_cases e : (ser N p.1).length = (ser N S).length
  · obtain ⟨r, er, hr⟩ := li_l (M := M) (a := offs N l i) (b := offs N l l.length) (sz := (ser N S).length) (i := i) (m := l.length) sx c1 c2 c3 (by omega) (by omega) ha hb h10 (by omega) c6 (by omega) (ser N S).length 0 n (by omega) (by omega)
    refine ⟨r, head _ (by rw [if_pos (by rw [e])]; exact er), ?_⟩
    rw [hr]
    constructor
    · intro h
      apply List.ext_getElem?
      intro j
      by_cases z : j < (ser N S).length
      · obtain ⟨x, hx⟩ : ∃ x, (ser N S)[j]? = some x := ⟨_, List.getElem?_eq_getElem z⟩
        obtain ⟨y, hy⟩ : ∃ y, (ser N p.1)[j]? = some y := ⟨_, List.getElem?_eq_getElem (by omega)⟩
        rw [hx, hy, ← hser j x hx, ← (hq.2 i p hp).1 j y hy]
        rw [h j (Nat.zero_le _) z]
      · rw [List.getElem?_eq_none (by omega), List.getElem?_eq_none (by omega)]
    · intro h j _ hj
      obtain ⟨x, hx⟩ : ∃ x, (ser N S)[j]? = some x := ⟨_, List.getElem?_eq_getElem hj⟩
      rw [hser j x hx]
      exact (hq.2 i p hp).1 j x (by rw [h]; exact hx)
  · refine ⟨false, head _ (by rw [if_neg (nI_ne (by omega) (by omega) e)]; rfl), ⟨fun z => absurd z (by decide), fun h => absurd (congrArg List.length h) e⟩⟩
theorem known_l {M : Mem} {dC L : Nat} {l : List (St × Nat)} (sx : SX M) (c : CL M dC L (offs N l l.length + (ser N S).length)) (hq : XQ N M dC l) (h10 : mI M 114 10 = nI l.length) (h40 : l.length ≤ 40) (hser : ∀ i x, (ser N S)[i]? = some x → mI M dC (offs N l l.length + i) = x) (ho : ∀ i, offs N l i ≤ 18434 * i) (hsl : (ser N S).length ≤ 18434) (hps : ∀ p, p ∈ l → (ser N p.1).length ≤ 18434) : ∀ (d i n : Nat), i + d = l.length → d + 19100 ≤ n → ∃ r : Bool, f_X6_isKnown_2 M n 114 (nI i) = some (if r then 1 else 0) ∧ (r = true ↔ ∃ j p, i ≤ j ∧ l[j]? = some p ∧ ser N p.1 = ser N S) := by
  intro d
  induction d with
  | zero =>
    intro i n hi hn
    obtain ⟨n, rfl⟩ : ∃ m, n = m + 1 := ⟨n - 1, by omega⟩
    refine ⟨false, ?_, ⟨fun z => absurd z (by decide), fun ⟨j, p, h1, h2, _⟩ => ?_⟩⟩
    · rw [f_X6_isKnown_2, chk_t sx.1, h10, if_pos (nI_le (by omega) (by omega))]
      rfl
    · rw [List.getElem?_eq_none (by omega)] at h2; cases h2
  | succ d ih =>
    intro i n hi hn
    obtain ⟨n, rfl⟩ : ∃ m, n = m + 1 := ⟨n - 1, by omega⟩
    obtain ⟨p, hp⟩ : ∃ p, l[i]? = some p := ⟨_, List.getElem?_eq_getElem (by omega)⟩
    obtain ⟨r, er, hr⟩ := like1 sx c hq h10 h40 hser ho hsl hp (hps p (List.mem_of_getElem? hp)) (n := n) (by omega)
    have step : f_X6_isKnown_2 M (n + 1) 114 (nI i) = if (if r then (1 : Int32) else 0) = 0 then f_X6_isKnown_2 M n 114 (nI (i + 1)) else some 1 := by
      rw [f_X6_isKnown_2, chk_t sx.1, h10, if_neg (nI_ge (by omega) (by omega)), er, obd_s, nI_1, bnd_e]
    cases r with
    | true =>
      rw [if_neg (by decide)] at step
      exact ⟨true, step, ⟨fun _ => ⟨i, p, Nat.le_refl _, hp, hr.mp rfl⟩, fun _ => rfl⟩⟩
    | false =>
      rw [if_pos (by decide)] at step
      obtain ⟨r', er', hr'⟩ := ih (i + 1) n (by omega) (by omega)
      refine ⟨r', step.trans er', ?_⟩
      rw [hr']
      constructor
      · rintro ⟨j, p', h1, h2, h3⟩
        exact ⟨j, p', by omega, h2, h3⟩
      · rintro ⟨j, p', h1, h2, h3⟩
        by_cases z : j = i
        · rw [z, hp] at h2
          have : p = p' := Option.some.inj h2
          rw [← this] at h3
          exact absurd (hr.mpr h3) (by decide)
        · exact ⟨j, p', by omega, h2, h3⟩
end
/-! ===== the class takes a kept state up again: rows filled, cells pulled ===== -/
theorem fill_l {x : Int32} {o len : Nat} (hL : len < 2 ^ 31) : ∀ (d i n : Nat) (M : Mem), i + d = len → isO M 100 o → mLn M o = len → d + 1 ≤ n → ∃ M', f_J7_fill_53178_5 n o x (nI i) (nI len) M = some M' ∧ M'.1 = M.1 ∧ (∀ j, i ≤ j → j < len → mI M' o j = x) ∧ (∀ j, j < i → mI M' o j = mI M o j) ∧ (∀ a, a ≠ o → ∀ b, mI M' a b = mI M a b) ∧ (∀ a b, mL M' a b = mL M a b) := by
  intro d
  induction d with
  | zero =>
    intro i n M hi hO hl hn
    obtain ⟨n, rfl⟩ : ∃ m, n = m + 1 := ⟨n - 1, by omega⟩
    refine ⟨M, ?_, rfl, fun j a b => by omega, fun _ _ => rfl, fun _ _ _ => rfl, fun _ _ => rfl⟩
    rw [f_J7_fill_53178_5, if_pos (nI_le (by omega) (by omega))]
  | succ d ih =>
    intro i n M hi hO hl hn
    obtain ⟨n, rfl⟩ : ∃ m, n = m + 1 := ⟨n - 1, by omega⟩
    obtain ⟨M', e, s, f1, f2, f3, f4⟩ := ih (i + 1) n (sI M o i x) (by omega) hO hl (by omega)
    refine ⟨M', ?_, s, fun j a b => ?_, fun j a => ?_, fun a na b => ?_, fun a b => f4 a b⟩
    · rw [f_J7_fill_53178_5, if_neg (nI_ge (by omega) (by omega)), chk_t hO, hl, chk_t (inB_n (by omega) hL), sI_d (by omega), bnd_e, nI_1, bnd_e]
      exact e
    · by_cases z : j = i
      · rw [z, f2 i (by omega), mI_s]
      · exact f1 j (by omega) b
    · rw [f2 j (by omega), mI_n _ _ _ _ (by omega)]
    · rw [f3 a na, mI_o _ _ _ _ _ na]
theorem f_fill {x : Int32} {o len n : Nat} {M : Mem} (hL : len < 2 ^ 31) (hO : isO M 100 o) (hl : mLn M o = len) (hn : len + 1 ≤ n) : ∃ M', f_J7_fill_53178 n o x M = some M' ∧ M'.1 = M.1 ∧ (∀ j, j < len → mI M' o j = x) ∧ (∀ a, a ≠ o → ∀ b, mI M' a b = mI M a b) ∧ (∀ a b, mL M' a b = mL M a b) := by
  obtain ⟨M', e, s, f1, f2, f3, f4⟩ := fill_l (x := x) hL len 0 n M (by omega) hO hl hn
  refine ⟨M', ?_, s, fun j hj => f1 j (Nat.zero_le _) hj, f3, f4⟩
  rw [f_J7_fill_53178, chk_t hO, hl, n32, bnd_e]
  exact e
def emL (S : St) : St := (S.1, S.2.1, fun _ => [], S.2.2.2)
theorem fl_emL (S : St) : fl (emL S) = [] := by
  unfold fl
  rw [List.flatMap_eq_nil_iff]
  intro l _
  rfl
set_option maxHeartbeats 1000000 in
theorem HV.clear {M : Mem} {X Y N n : Nat} {t : Int32} {Q : Nat → Int32} {S : St} {pb pt : List Row4} (p : HV M 63 X Y t N Q S pb pt) (hn : 300 ≤ n) : ∃ M', f_X5_clearLanes n 64 M = some M' ∧ HV M' 63 X Y t N Q (emL S) pb pt ∧ FrH M M' 63 := by
  have q := p.1
  have hq := q.2.2.2.2
  obtain ⟨d5, d6, d7, len, K, fr, us, ow, w, hK⟩ := p.2.1
  obtain ⟨M1, e1, s1, f1, g1, h1⟩ := f_fill (x := 0) (o := 63 + 4) (len := 256) (n := n) (M := M) (by decide) (q.io (i := 4) (by decide) (by decide) (by decide)) (q.ln (i := 4) (by decide) (by decide) (by decide)) (by omega)
  have q1 := q.e s1
  obtain ⟨M2, e2, s2, f2, g2, h2⟩ := f_fill (x := 0) (o := 63 + 5) (len := 16) (n := n) (M := M1) (by decide) (q1.io (i := 5) (by decide) (by decide) (by decide)) (q1.ln (i := 5) (by decide) (by decide) (by decide)) (by omega)
  have q2 := q1.e s2
  generalize hM3 : sI (sI (sI M2 (63 + 1) 8 0) (63 + 1) 9 (-1)) (63 + 1) 10 0 = M3
  have s3 : M3.1 = M.1 := by rw [← hM3]; exact s2.trans s1
  have o3 : ∀ a, a ≠ 64 → a ≠ 67 → a ≠ 68 → ∀ b, mI M3 a b = mI M a b := fun a n4 n7 n8 b => by
    rw [← hM3, mI_o _ _ _ _ _ n4, mI_o _ _ _ _ _ n4, mI_o _ _ _ _ _ n4, g2 a n8, g1 a n7]
  have c3 : ∀ b, b ≠ 8 → b ≠ 9 → b ≠ 10 → mI M3 64 b = mI M 64 b := fun b n8 n9 n10 => by
    rw [← hM3, mI_n _ _ _ _ n10, mI_n _ _ _ _ n9, mI_n _ _ _ _ n8, g2 64 (by decide), g1 64 (by decide)]
  have fP : FrP M M3 63 := ⟨by unfold mN; rw [s3]; exact Nat.le_refl _, fun i _ => by rw [s3], fun a b _ _ => by unfold mR; rw [s3], fun o _ n _ _ _ b => o3 o (by omega) (by omega) (by omega) b, fun o _ b => by rw [← hM3]; exact (h2 o b).trans (h1 o b), fun j _ _ => Or.inl (by unfold mR; rw [s3])⟩
  have ht := w.2.2.2.2.2.2.2.2.2.2.1
  have hl := w.2.2.2.2.2.2.2.2.2.1
  refine ⟨M3, ?_, p.frP fP (q.e s3) ⟨d5, d6, d7, len, fun _ => [], [], 0, fun _ => 256, ⟨w.1.e s3, ?_, ?_, ?_, ?_, ?_, ?_, ?_, ?_, ?_, ?_, ?_⟩, fun _ _ => rfl⟩ ?_ (fun _ _ _ => rfl) rfl rfl rfl, fP.toH⟩
  · rw [f_X5_clearLanes, cs_p q, cs_r4 q, bnd_e, cs_a4 q, e1, obd_s, cs_p q1, cs_r5 q1, bnd_e, cs_a5 q1, e2, obd_s, cs_p q2, bnd_e, bnd_e, bnd_e]
    exact congrArg some hM3
  · intro l _ q hq; cases hq
  · intro l _; exact List.nodup_nil
  · intro l _; exact trivial
  · intro l _ cs z h
    cases cs <;> cases h
  · intro l hl'
    rw [← hM3, mI_o _ _ _ _ _ (by decide), mI_o _ _ _ _ _ (by decide), mI_o _ _ _ _ _ (by decide), g2 _ (by decide), f1 l hl']
    rfl
  · intro f hf g hg
    rw [← hM3, mI_o _ _ _ _ _ (by decide), mI_o _ _ _ _ _ (by decide), mI_o _ _ _ _ _ (by decide), f2 f hf, b_0]
    simp
  · intro k hk
    rw [o3 _ (by decide) (by decide) (by decide)]
    exact w.2.2.2.2.2.2.2.1 k hk
  · refine ⟨List.nodup_nil, fun c hc => absurd hc (by simp), ?_⟩
    show mI M3 64 9 = -1
    rw [← hM3, mI_n _ _ _ _ (by decide), mI_s]
  · refine ⟨?_, Nat.zero_le _, Nat.zero_le _, hl.2.2.2.1, hl.2.2.2.2⟩
    rw [← hM3, mI_n _ _ _ _ (by decide), mI_n _ _ _ _ (by decide), mI_s]
    rfl
  · show mI M3 64 11 = t
    rw [c3 _ (by decide) (by decide) (by decide)]; exact ht
  · refine ⟨0, ?_, rfl, ?_⟩
    · rw [← hM3, mI_s]; rfl
    · have := fl_emL S
      unfold flr
      rw [eq_comm, List.length_eq_zero_iff, List.flatMap_eq_nil_iff]
      intro l _
      rfl
  · have rm := p.2.2.2.1
    unfold Rm mN mU mLn mR at rm ⊢
    rw [s3]; exact rm
/-- M is M0, but for what a place's taking up writes; r cells were pulled -/
def Rdy (M0 M : Mem) (dC r : Nat) : Prop := M.1 = M0.1 ∧ mI M 114 6 = mI M0 114 6 ∧ (∀ b, mI M dC b = mI M0 dC b) ∧ mI M 114 7 = nI r
theorem SX.e {M M' : Mem} (x : SX M) (e : M'.1 = M.1) : SX M' := by
  unfold SX isO mR mLn mN mC at *
  rw [e]; exact x
theorem CL.e {M M' : Mem} {dC L e : Nat} (c : CL M dC L e) (s : M'.1 = M.1) (h6 : mI M' 114 6 = mI M 114 6) : CL M' dC L e := by
  unfold CL isO mR mLn mN mC at *
  rw [s, h6]; exact c
theorem pull1 {M : Mem} {dC L e r : Nat} (sx : SX M) (c : CL M dC L e) (h7 : mI M 114 7 = nI r) (hr : r < e) : f_X6_pull 114 M = some (mI M dC r, sI M 114 7 (nI (r + 1))) := by
  obtain ⟨c1, c2, c3, c4, c5, c6, c7, c8, _⟩ := c
  rw [f_X6_pull, chk_t sx.1, c5, h7, if_neg (nI_ge (by omega) (by omega)), c1, bnd_e, chk_t c2, c3, chk_t (inB_n (by omega) (by omega)), mI_d (by omega), bnd_e, nI_1, bnd_e]
theorem Rdy.p {M0 M : Mem} {dC L e r : Nat} (sx : SX M0) (c : CL M0 dC L e) (y : Rdy M0 M dC r) (hr : r < e) : f_X6_pull 114 M = some (mI M0 dC r, sI M 114 7 (nI (r + 1))) ∧ Rdy M0 (sI M 114 7 (nI (r + 1))) dC (r + 1) := by
  obtain ⟨y1, y2, y3, y4⟩ := y
  have hd : dC ≠ 114 := by have := c.2.2.2.1; omega
  refine ⟨?_, y1, ?_, fun b => ?_, mI_s _ _ _ _⟩
  · rw [pull1 (sx.e y1) (c.e y1 y2) y4 hr, y3]
  · rw [mI_n _ _ _ _ (by decide)]; exact y2
  · rw [mI_o _ _ _ _ _ hd]; exact y3 b
theorem Rdy.w {M0 M : Mem} {dC r o : Nat} (y : Rdy M0 M dC r) (h1 : o ≠ 114) (h2 : o ≠ dC) (k : Nat) (x : Int32) : Rdy M0 (sI M o k x) dC r := by
  obtain ⟨y1, y2, y3, y4⟩ := y
  refine ⟨y1, ?_, fun b => ?_, ?_⟩
  · rw [mI_o _ _ _ _ _ h1.symm]; exact y2
  · rw [mI_o _ _ _ _ _ h2.symm]; exact y3 b
  · rw [mI_o _ _ _ _ _ h1.symm]; exact y4
/-- pull, and write it down -/
theorem Rdy.pw {M0 M : Mem} {dC L e r P k : Nat} (sx : SX M0) (c : CL M0 dC L e) (y : Rdy M0 M dC r) (hr : r < e) (h1 : P ≠ 114) (h2 : P ≠ dC) {x : Int32} (hx : mI M0 dC r = x) : ∃ M', Rdy M0 M' dC (r + 1) ∧ f_X6_pull 114 M = some (x, sI M 114 7 (nI (r + 1))) ∧ sI (sI M 114 7 (nI (r + 1))) P k x = M' ∧ mI M' P k = x ∧ (∀ b, b ≠ k → mI M' P b = mI M P b) ∧ (∀ o, o ≠ 114 → o ≠ P → ∀ b, mI M' o b = mI M o b) ∧ (∀ b, b ≠ 7 → mI M' 114 b = mI M 114 b) ∧ (∀ a b, mL M' a b = mL M a b) := by
  obtain ⟨e1, y1⟩ := y.p sx c hr
  rw [hx] at e1
  refine ⟨_, y1.w h1 h2 k x, e1, rfl, mI_s _ _ _ _, fun b n => ?_, fun o n1 n2 b => ?_, fun b n => ?_, fun _ _ => rfl⟩
  · rw [mI_n _ _ _ _ n, mI_o _ _ _ _ _ h1]
  · rw [mI_o _ _ _ _ _ n2, mI_o _ _ _ _ _ n1]
  · rw [mI_o _ _ _ _ _ h1.symm, mI_n _ _ _ _ n]
theorem rp_l {M0 : Mem} {dC L e P P2 : Nat} {w : Int32} {g : Nat → Int32} (sx : SX M0) (c : CL M0 dC L e) (hp : isO M0 4 P) (h10 : mR M0 P 10 = P2) (h2 : isO M0 100 P2) (hl2 : mLn M0 P2 = 16) (n1 : P ≠ 114) (n2 : P2 ≠ 114) (n3 : P ≠ P2) (n5 : P2 ≠ dC) : ∀ (d j n : Nat) (M : Mem) (r : Nat), j + d = 16 → Rdy M0 M dC r → mI M P 9 = w → (∀ i x, (((List.range' j d).filter fun u => bt w u).map g)[i]? = some x → mI M0 dC (r + i) = x) → r + ((List.range' j d).filter fun u => bt w u).length ≤ e → d + 1 ≤ n → ∃ M', f_X6_recallPlace_90 n 114 P (nI j) M = some M' ∧ Rdy M0 M' dC (r + ((List.range' j d).filter fun u => bt w u).length) ∧ (∀ u, j ≤ u → u < 16 → bt w u = true → mI M' P2 u = g u) ∧ (∀ u, u < j → mI M' P2 u = mI M P2 u) ∧ (∀ o, o ≠ 114 → o ≠ P2 → ∀ b, mI M' o b = mI M o b) ∧ (∀ b, b ≠ 7 → mI M' 114 b = mI M 114 b) ∧ (∀ a b, mL M' a b = mL M a b) := by
  intro d
  induction d with
  | zero =>
    intro j n M r hj y hw hx he hn
    obtain ⟨n, rfl⟩ : ∃ m, n = m + 1 := ⟨n - 1, by omega⟩
    refine ⟨M, ?_, y, fun u a b => by omega, fun _ _ => rfl, fun _ _ _ _ => rfl, fun _ _ => rfl, fun _ _ => rfl⟩
    rw [f_X6_recallPlace_90, if_pos (show (16 : Int32) ≤ nI j from nI_le (a := 16) (by omega) (by omega))]
  | succ d ih =>
    intro j n M r hj y hw hx he hn
    obtain ⟨n, rfl⟩ : ∃ m, n = m + 1 := ⟨n - 1, by omega⟩
    rw [List.range'_succ, List.filter_cons] at hx he ⊢
    have io : ∀ {M : Mem} {r : Nat}, Rdy M0 M dC r → ∀ c o, isO M0 c o → isO M c o := fun y c o z => by
      unfold isO mN mC at *
      rw [y.1]; exact z
    have hd : ∀ z : Option Mem, (if (if bt w j = true then (1 : Int32) else 0) = 0 then f_X6_recallPlace_90 n 114 P (nI (j + 1)) M else obd2 (f_X6_pull 114 M) fun r15 M16 => chk (isO M16 100 P2) <| chk (inB (nI j) (mLn M16 P2)) <| bnd (sI M16 P2 (nI j).toNatClampNeg r15) fun M19 => f_X6_recallPlace_90 n 114 P (nI (j + 1)) M19) = z → f_X6_recallPlace_90 (n + 1) 114 P (nI j) M = z := by
      intro z hz
      rw [f_X6_recallPlace_90, if_neg (show ¬ (16 : Int32) ≤ nI j from nI_ge (a := j) (b := 16) (by omega) (by decide)), chk_t (io y 4 P hp), hw, f_has9 _ (by omega), obd_s, nI_1, bnd_e, show mR M P 10 = P2 by unfold mR; rw [y.1]; exact h10, bnd_e, chk_t (io y 100 P2 h2), chk_t (io y 6 114 sx.1)]
      simp only [bnd_e]
      simp only [bnd_e] at hz
      exact hz
    by_cases z : bt w j = true
    · rw [if_pos z] at hx he ⊢
      rw [List.length_cons] at he ⊢
      rw [List.map_cons] at hx
      have hx0 : mI M0 dC r = g j := hx 0 (g j) rfl
      obtain ⟨M1, y1, e1, w1, a1, a2, a3, a4, a5⟩ := y.pw (k := j) sx c (by omega) n2 n5 hx0
      obtain ⟨M2, e2, y2, b1, b2, b3, b4, b5⟩ := ih (j + 1) n M1 (r + 1) (by omega) y1 (by rw [a3 P n1 n3]; exact hw) (fun i x hi => by
        have := hx (i + 1) x hi
        rw [show r + 1 + i = r + (i + 1) by omega]; exact this) (by omega) (by omega)
      refine ⟨M2, hd _ ?_, by rw [show r + (((List.range' (j + 1) d).filter fun u => bt w u).length + 1) = r + 1 + ((List.range' (j + 1) d).filter fun u => bt w u).length by omega]; exact y2, fun u u1 u2 u3 => ?_, fun u hu => ?_, fun o o1 o2 b => by rw [b3 o o1 o2, a3 o o1 o2], fun b n => by rw [b4 b n, a4 b n], fun a b => by rw [b5, a5]⟩
      · have i16 : isO (sI M 114 7 (nI (r + 1))) 100 P2 := io y 100 P2 h2
        have l16 : mLn (sI M 114 7 (nI (r + 1))) P2 = 16 := by
          have : mLn M P2 = 16 := by unfold mLn; rw [y.1]; exact hl2
          exact this
        rw [if_pos z, if_neg ne10, e1, obd2_s, chk_t i16, l16, chk_t (inB_n (by omega) (by decide)), sI_c (by omega), w1, bnd_e, e2]
      · by_cases v : u = j
        · rw [v, b2 j (by omega), a1]
        · exact b1 u (by omega) u2 u3
      · rw [b2 u (by omega), a2 u (by omega)]
    · rw [if_neg z] at hx he ⊢
      obtain ⟨M2, e2, y2, b1, b2, b3, b4, b5⟩ := ih (j + 1) n M r (by omega) y hw hx he (by omega)
      refine ⟨M2, hd _ ?_, y2, fun u u1 u2 u3 => ?_, fun u hu => b2 u (by omega), b3, b4, b5⟩
      · rw [if_neg z, if_pos rfl, e2]
      · exact b1 u (by
          by_cases v : u = j
          · rw [v] at u3; exact absurd u3 z
          · omega) u2 u3
/-! ===== the class takes up a place ===== -/
/-- the hall, the rows of its letters and how far was read alone have changed -/
def FrUp (M M' : Mem) : Prop := mN M ≤ mN M' ∧ (∀ i, i < mN M → M'.1.2.1 i = M.1.2.1 i) ∧ (∀ a b, a < mN M → ¬ (a = 64 ∧ 5 ≤ b ∧ b ≤ 7) → mR M' a b = mR M a b) ∧ (∀ o, o < mN M → ¬ (63 ≤ o ∧ o < 112) → o ≠ 114 → o ≠ mR M 64 5 → o ≠ mR M 64 6 → o ≠ mR M 64 7 → ∀ b, mI M' o b = mI M o b) ∧ (∀ b, b ≠ 7 → mI M' 114 b = mI M 114 b) ∧ (∀ o, o < mN M → ∀ b, mL M' o b = mL M o b) ∧ (∀ j, 5 ≤ j → j ≤ 7 → mR M' 64 j = mR M 64 j ∨ mN M ≤ mR M' 64 j)
theorem FrUp.rf (M : Mem) : FrUp M M := ⟨Nat.le_refl _, fun _ _ => rfl, fun _ _ _ _ => rfl, fun _ _ _ _ _ _ _ _ => rfl, fun _ _ => rfl, fun _ _ _ => rfl, fun _ _ _ => Or.inl rfl⟩
theorem FrUp.tr {M M' M'' : Mem} (p : FrUp M M') (p' : FrUp M' M'') : FrUp M M'' := by
  obtain ⟨a1, a2, a3, a4, a7, a5, a6⟩ := p
  obtain ⟨b1, b2, b3, b4, b7, b5, b6⟩ := p'
  refine ⟨Nat.le_trans a1 b1, fun i hi => (b2 i (by omega)).trans (a2 i hi), fun a b ha hn => (b3 a b (by omega) hn).trans (a3 a b ha hn), fun o ho h1 h2 h5 h6 h7 b => ?_, fun b n => (b7 b n).trans (a7 b n), fun o ho b => (b5 o (by omega) b).trans (a5 o ho b), fun j h5 h7 => ?_⟩
  · have n5 : o ≠ mR M' 64 5 := by rcases a6 5 (by decide) (by decide) with e | e <;> omega
    have n6 : o ≠ mR M' 64 6 := by rcases a6 6 (by decide) (by decide) with e | e <;> omega
    have n7 : o ≠ mR M' 64 7 := by rcases a6 7 (by decide) (by decide) with e | e <;> omega
    exact (b4 o (by omega) h1 h2 n5 n6 n7 b).trans (a4 o ho h1 h2 h5 h6 h7 b)
  · rcases b6 j h5 h7 with e | e
    · rcases a6 j h5 h7 with e2 | e2
      · exact Or.inl (e.trans e2)
      · exact Or.inr (by omega)
    · exact Or.inr (by omega)
theorem FrUp.of {M M' : Mem} (e : M'.1 = M.1) (hI : ∀ o, ¬ (63 ≤ o ∧ o < 112) → o ≠ 114 → ∀ b, mI M' o b = mI M o b) (h4 : ∀ b, b ≠ 7 → mI M' 114 b = mI M 114 b) (hL : ∀ o b, mL M' o b = mL M o b) : FrUp M M' :=
  ⟨by unfold mN; rw [e]; exact Nat.le_refl _, fun i _ => by rw [e], fun a b _ _ => by unfold mR; rw [e], fun o _ n1 n2 _ _ _ b => hI o n1 n2 b, h4, fun o _ b => hL o b, fun j _ _ => Or.inl (by unfold mR; rw [e])⟩
theorem FrH.up {M M' : Mem} (f : FrH M M' 63) (hN : 131 ≤ mN M) (hR : ∀ i, 5 ≤ i → i ≤ 7 → mR M 64 i = 63 + 2 + i ∨ 131 ≤ mR M 64 i) : FrUp M M' := by
  obtain ⟨f1, f2, f3, f4, f5, f6⟩ := f
  have r5 := hR 5 (by decide) (by decide)
  have r6 := hR 6 (by decide) (by decide)
  have r7 := hR 7 (by decide) (by decide)
  refine ⟨f1, f2, f3, fun o ho n1 _ n5 n6 n7 b => f4 o ho (by omega) n5 n6 n7 b, fun b _ => f4 114 (by omega) (by omega) ?_ ?_ ?_ b, f5, f6⟩
  · show 114 ≠ mR M 64 5; omega
  · show 114 ≠ mR M 64 6; omega
  · show 114 ≠ mR M 64 7; omega
theorem SX.up {M M' : Mem} (x : SX M) (f : FrUp M M') : SX M' := by
  obtain ⟨⟨i1, i2⟩, ⟨r0, r1, r2, r3, r4⟩, ⟨j1, j2, j3, j4⟩, ⟨l1, l2, l3, l4⟩, hN⟩ := x
  obtain ⟨f1, f2, f3, _⟩ := f
  have io : ∀ c o, isO M c o → isO M' c o := fun c o z => ⟨by have := z.1; omega, by rw [mC, f2 o z.1]; exact z.2⟩
  have ln : ∀ o, o < 131 → mLn M' o = mLn M o := fun o ho => by rw [mLn, f2 o (by omega)]; rfl
  refine ⟨io _ _ ⟨i1, i2⟩, ⟨?_, ?_, ?_, ?_, ?_⟩, ⟨io _ _ j1, io _ _ j2, io _ _ j3, io _ _ j4⟩, ⟨?_, ?_, ?_, ?_⟩, by omega⟩
  · rw [f3 114 0 i1 (by decide)]; exact r0
  · rw [f3 114 1 i1 (by decide)]; exact r1
  · rw [f3 114 2 i1 (by decide)]; exact r2
  · rw [f3 114 3 i1 (by decide)]; exact r3
  · rw [f3 114 4 i1 (by decide)]; exact r4
  · rw [ln 115 (by decide)]; exact l1
  · rw [ln 116 (by decide)]; exact l2
  · rw [ln 117 (by decide)]; exact l3
  · rw [ln 118 (by decide)]; exact l4
theorem CL.up {M M' : Mem} {dC L e : Nat} (c : CL M dC L e) (hN : 131 ≤ mN M) (f : FrUp M M') : CL M' dC L e ∧ ∀ b, mI M' dC b = mI M dC b := by
  obtain ⟨c1, c2, c3, c4, c5, c6, c7, c8, c9, c10, c11⟩ := c
  obtain ⟨f1, f2, f3, f4, f5, f6, f7⟩ := f
  have hlt := c2.1
  have g5 := f7 5 (by decide) (by decide)
  have g6 := f7 6 (by decide) (by decide)
  have g7 := f7 7 (by decide) (by decide)
  refine ⟨⟨?_, ⟨by omega, by rw [mC, f2 dC hlt]; exact c2.2⟩, by rw [mLn, f2 dC hlt]; exact c3, c4, by rw [f5 6 (by decide)]; exact c5, c6, c7, c8, ?_, ?_, ?_⟩, f4 dC hlt (by omega) (by omega) c9 c10 c11⟩
  · rw [f3 114 5 (by omega) (by omega)]; exact c1
  · clear g6 g7 c4; rcases g5 with z | z <;> omega
  · clear g5 g7 c4; rcases g6 with z | z <;> omega
  · clear g5 g6 c4; rcases g7 with z | z <;> omega
theorem PV.fr4 {M M' : Mem} {t : Int32} {S S' : St} (p : PV M 63 t S) (e : M'.1 = M.1) (hI : ∀ o, o ≠ 114 → ¬ (o = 63 ∨ (80 ≤ o ∧ o < 112)) → ∀ b, mI M' o b = mI M o b) (hL : xL S' = xL S) (h16 : xR S' 16 = xR S 16) : PV M' 63 t S' := by
  obtain ⟨d5, d6, d7, len, K, fr, us, ow, w, hK⟩ := p
  obtain ⟨_, _, _, y5, y6, y7, _⟩ := id w.1
  have hl := w.2.2.2.2.2.2.2.2.2.1
  refine ⟨d5, d6, d7, len, K, fr, us, ow, ?_, fun l hl => by rw [hL]; exact hK l hl⟩
  rw [h16]
  exact w.cg (w.1.e e) (Nat.le_refl _) hl.2.2.2.1 (fun i a b k => hI _ (by omega) (by omega) k) (fun k _ => hI d5 (by omega) (by omega) k) (fun k _ => hI d6 (by omega) (by omega) k) (fun k _ => hI d7 (by omega) (by omega) k)
theorem HV.at4 {M M' : Mem} {X Y N : Nat} {t : Int32} {Q : Nat → Int32} {S S' : St} {pb pt : List Row4} (p : HV M 63 X Y t N Q S pb pt) (e : M'.1 = M.1) (hI : ∀ o, o ≠ 114 → ¬ (o = 63 ∨ (80 ≤ o ∧ o < 112)) → ∀ b, mI M' o b = mI M o b) (hp : HP M' 63 S') (hL : xL S' = xL S) (h16 : xR S' 16 = xR S 16) (hE : xE S' = xE S) (hT : xT S' = xT S) : HV M' 63 X Y t N Q S' pb pt := by
  obtain ⟨q, p, _, rm, ⟨lb, lt⟩, hN, hQ⟩ := p
  have hq := q.2.2.2.2
  refine ⟨q.e e, p.fr4 e hI hL h16, hp, ?_, ⟨?_, ?_⟩, ?_, fun v hv => ?_⟩
  · unfold Rm mN mU mLn mR at rm ⊢
    rw [e]; exact rm
  · rw [hE]; exact lb.cg (hI _ (by omega) (by omega)) (hI _ (by omega) (by omega))
  · rw [hT]; exact lt.cg (hI _ (by omega) (by omega)) (hI _ (by omega) (by omega))
  · rw [hI 1 (by omega) (by omega)]; exact hN
  · rw [hI _ (by omega) (by omega)]; exact hQ v hv
def upP (S T : St) (v : Nat) : St := (fun k i => if i = v ∧ (1 ≤ k ∧ k ≤ 6 ∨ 8 ≤ k ∧ k ≤ 10) then xR T k i else xR S k i, up1 (xW S) v (xW T v), S.2.2)
theorem upP_R (S T : St) (v k i : Nat) : xR (upP S T v) k i = if i = v ∧ (1 ≤ k ∧ k ≤ 6 ∨ 8 ≤ k ∧ k ≤ 10) then xR T k i else xR S k i := rfl
theorem upP_W (S T : St) (v a : Nat) : xW (upP S T v) a = if a = v then xW T v else xW S a := rfl
theorem nd_fst : ∀ {l : List Wtr}, (l.map Prod.fst).Nodup → ∀ w w', w ∈ l → w' ∈ l → w.1 = w'.1 → w = w' := by
  intro l
  induction l with
  | nil => intro _ w w' h; cases h
  | cons x l ih =>
    intro h w w' hw hw' e
    rw [List.map_cons, List.nodup_cons] at h
    rcases List.mem_cons.mp hw with a | a
    · rcases List.mem_cons.mp hw' with b | b
      · rw [a, b]
      · exact absurd (List.mem_map.mpr ⟨w', b, by rw [← e, a]⟩) h.1
    · rcases List.mem_cons.mp hw' with b | b
      · exact absurd (List.mem_map.mpr ⟨w, a, by rw [e, b]⟩) h.1
      · exact ih h.2 w w' a b e
section
variable {X0 Y0 N : Nat} {t : Int32} {Q : Nat → Int32} {S T : St} {pb pt : List Row4} {M : Mem} {e dC : Nat}
set_option maxHeartbeats 2000000 in
theorem SV.rplace (h : SV X0 Y0 t N Q pb pt S M e dC) {r v n : Nat} (h7 : mI M 114 7 = nI r) (hv : v < 16) (hc : ∀ i x, (serP T v)[i]? = some x → mI M dC (r + i) = x) (he : r + (serP T v).length ≤ e) (hw : ∀ w, w ∈ xW T v → w.1 < 16) (hnd : ((xW T v).map Prod.fst).Nodup) (h10 : xR T 10 v = 0 ∨ xR T 10 v = 1) (hn : 20 ≤ n) : ∃ M', f_X6_recallPlace n 114 (63 + 17 + 2 * v) M = some M' ∧ SV X0 Y0 t N Q pb pt (upP S T v) M' e dC ∧ mI M' 114 7 = nI (r + (serP T v).length) ∧ FrUp M M' := by
  obtain ⟨L, sx, c, p⟩ := h
  have q := p.1
  have n2 : 63 + 17 + 2 * v ≠ dC := by have := c.2.2.2.1; omega
  have n4 : 63 + 18 + 2 * v ≠ dC := by have := c.2.2.2.1; omega
  have hlen : (serP T v).length = 10 + ((List.range' 0 16).filter fun u => bt (wms T v) u).length := by
    unfold serP ms
    rw [List.length_append, List.length_map, List.range_eq_range']
    rfl
  rw [hlen] at he
  have iP : isO M 4 (63 + 17 + 2 * v) := by
    have : ∀ v, v < 16 → (tC.getD (14 + (17 + 2 * v)) (0, 0)).1 = 4 := by decide
    have z := q.io (i := 17 + 2 * v) (by omega) (by omega) (this v hv)
    rwa [← Nat.add_assoc] at z
  have iA : isO M 100 (63 + 18 + 2 * v) := by
    have : ∀ v, v < 16 → (tC.getD (14 + (18 + 2 * v)) (0, 0)).1 = 100 := by decide
    have z := q.io (i := 18 + 2 * v) (by omega) (by omega) (this v hv)
    rwa [← Nat.add_assoc] at z
  have lA : mLn M (63 + 18 + 2 * v) = 16 := by
    have : ∀ v, v < 16 → (tC.getD (14 + (18 + 2 * v)) (0, 0)).2 = 16 := by decide
    have z := q.ln (i := 18 + 2 * v) (by omega) (by omega) (this v hv)
    rwa [← Nat.add_assoc] at z
  have y0 : Rdy M M dC r := ⟨rfl, rfl, fun _ => rfl, h7⟩
  have io : ∀ {M' : Mem}, M'.1 = M.1 → ∀ (x : Nat) (z : Int32), isO (sI M' 114 x z) 4 (63 + 17 + 2 * v) := fun {M'} s x z => by
    have : isO M' 4 (63 + 17 + 2 * v) := by
      unfold isO mN mC at *
      rw [s]; exact iP
    exact this
  have ix : ∀ {M' : Mem}, M'.1 = M.1 → isO M' 6 114 := fun s => (sx.e s).1
  have x0 : mI M dC (r + 0) = xR T 1 v := hc 0 _ rfl
  obtain ⟨M1, y1, e1, w1, a1, b1, c1, d1, l1⟩ := y0.pw (P := 63 + 17 + 2 * v) (k := 0) sx c (by omega) (by omega) n2 x0
  have x1 : mI M dC (r + 1) = xR T 2 v := hc 1 _ rfl
  obtain ⟨M2, y2, e2, w2, a2, b2, c2, d2, l2⟩ := y1.pw (P := 63 + 17 + 2 * v) (k := 1) sx c (by omega) (by omega) n2 x1
  have x2 : mI M dC (r + 2) = xR T 3 v := hc 2 _ rfl
  obtain ⟨M3, y3, e3, w3, a3, b3, c3, d3, l3⟩ := y2.pw (P := 63 + 17 + 2 * v) (k := 2) sx c (by omega) (by omega) n2 x2
  have x3 : mI M dC (r + 3) = xR T 4 v := hc 3 _ rfl
  obtain ⟨M4, y4, e4, w4, a4, b4, c4, d4, l4⟩ := y3.pw (P := 63 + 17 + 2 * v) (k := 3) sx c (by omega) (by omega) n2 x3
  have x4 : mI M dC (r + 4) = xR T 5 v := hc 4 _ rfl
  obtain ⟨M5, y5, e5, w5, a5, b5, c5, d5, l5⟩ := y4.pw (P := 63 + 17 + 2 * v) (k := 4) sx c (by omega) (by omega) n2 x4
  have x5 : mI M dC (r + 5) = xR T 6 v := hc 5 _ rfl
  obtain ⟨M6, y6, e6, w6, a6, b6, c6, d6, l6⟩ := y5.pw (P := 63 + 17 + 2 * v) (k := 5) sx c (by omega) (by omega) n2 x5
  have x6 : mI M dC (r + 6) = xR T 8 v := hc 6 _ rfl
  obtain ⟨M7, y7, e7, w7, a7, b7, c7, d7, l7⟩ := y6.pw (P := 63 + 17 + 2 * v) (k := 6) sx c (by omega) (by omega) n2 x6
  have x7 : mI M dC (r + 7) = (if xR T 8 v = -1 then -1 else xR T 9 v) := hc 7 _ rfl
  obtain ⟨M8, y8, e8, w8, a8, b8, c8, d8, l8⟩ := y7.pw (P := 63 + 17 + 2 * v) (k := 7) sx c (by omega) (by omega) n2 x7
  have x8 : mI M dC (r + 8) = xR T 10 v := hc 8 _ rfl
  obtain ⟨M9, y9, e9, w9, a9, b9, c9, d9, l9⟩ := y8.pw (P := 63 + 17 + 2 * v) (k := 8) sx c (by omega) (by omega) n2 x8
  have x9 : mI M dC (r + 9) = wms T v := hc 9 _ rfl
  obtain ⟨M10, y10, e10, w10, a10, b10, c10, d10, l10⟩ := y9.pw (P := 63 + 17 + 2 * v) (k := 9) sx c (by omega) (by omega) n2 x9
  have z9 : mI M10 (63 + 17 + 2 * v) 9 = wms T v := a10
  obtain ⟨M', e11, y11, a11, b11, c11, d11, l11⟩ := rp_l (M0 := M) (g := wst T v) (w := wms T v) sx c iP (cs_pr q hv) iA lA (by omega) (by omega) (by omega) n4 16 0 n M10 (r + 10) rfl y10 z9 (fun i x hi => by
    have := hc (10 + i) x (by
      unfold serP ms
      rw [List.range_eq_range', List.getElem?_append_right (by show 10 ≤ 10 + i; omega)]
      show (List.map _ _)[10 + i - 10]? = _
      rw [show 10 + i - 10 = i by omega]; exact hi)
    rw [Nat.add_assoc]; exact this) (by omega) (by omega)
  have kP : ∀ b, mI M' (63 + 17 + 2 * v) b = mI M10 (63 + 17 + 2 * v) b := fun b => c11 _ (by omega) (by omega) b
  have V0 : mI M' (63 + 17 + 2 * v) 0 = xR T 1 v := by rw [kP, b10 _ (by decide), b9 _ (by decide), b8 _ (by decide), b7 _ (by decide), b6 _ (by decide), b5 _ (by decide), b4 _ (by decide), b3 _ (by decide), b2 _ (by decide)]; exact a1
  have V1 : mI M' (63 + 17 + 2 * v) 1 = xR T 2 v := by rw [kP, b10 _ (by decide), b9 _ (by decide), b8 _ (by decide), b7 _ (by decide), b6 _ (by decide), b5 _ (by decide), b4 _ (by decide), b3 _ (by decide)]; exact a2
  have V2 : mI M' (63 + 17 + 2 * v) 2 = xR T 3 v := by rw [kP, b10 _ (by decide), b9 _ (by decide), b8 _ (by decide), b7 _ (by decide), b6 _ (by decide), b5 _ (by decide), b4 _ (by decide)]; exact a3
  have V3 : mI M' (63 + 17 + 2 * v) 3 = xR T 4 v := by rw [kP, b10 _ (by decide), b9 _ (by decide), b8 _ (by decide), b7 _ (by decide), b6 _ (by decide), b5 _ (by decide)]; exact a4
  have V4' : mI M' (63 + 17 + 2 * v) 4 = xR T 5 v := by rw [kP, b10 _ (by decide), b9 _ (by decide), b8 _ (by decide), b7 _ (by decide), b6 _ (by decide)]; exact a5
  have V5 : mI M' (63 + 17 + 2 * v) 5 = xR T 6 v := by rw [kP, b10 _ (by decide), b9 _ (by decide), b8 _ (by decide), b7 _ (by decide)]; exact a6
  have V6 : mI M' (63 + 17 + 2 * v) 6 = xR T 8 v := by rw [kP, b10 _ (by decide), b9 _ (by decide), b8 _ (by decide)]; exact a7
  have V7 : mI M' (63 + 17 + 2 * v) 7 = (if xR T 8 v = -1 then -1 else xR T 9 v) := by rw [kP, b10 _ (by decide), b9 _ (by decide)]; exact a8
  have V8 : mI M' (63 + 17 + 2 * v) 8 = xR T 10 v := by rw [kP, b10 _ (by decide)]; exact a9
  have V9 : mI M' (63 + 17 + 2 * v) 9 = wms T v := by rw [kP]; exact a10
  have Vh : ∀ b, 10 ≤ b → mI M' (63 + 17 + 2 * v) b = mI M (63 + 17 + 2 * v) b := fun b hb => by rw [kP, b10 _ (by omega), b9 _ (by omega), b8 _ (by omega), b7 _ (by omega), b6 _ (by omega), b5 _ (by omega), b4 _ (by omega), b3 _ (by omega), b2 _ (by omega), b1 _ (by omega)]
  have Vo : ∀ o, o ≠ 114 → o ≠ 63 + 17 + 2 * v → o ≠ 63 + 18 + 2 * v → ∀ b, mI M' o b = mI M o b := fun o n1 nP nA b => by rw [c11 o n1 nA, c10 _ n1 nP, c9 _ n1 nP, c8 _ n1 nP, c7 _ n1 nP, c6 _ n1 nP, c5 _ n1 nP, c4 _ n1 nP, c3 _ n1 nP, c2 _ n1 nP, c1 _ n1 nP]
  have V4 : ∀ b, b ≠ 7 → mI M' 114 b = mI M 114 b := fun b n => by rw [d11 b n, d10 _ n, d9 _ n, d8 _ n, d7 _ n, d6 _ n, d5 _ n, d4 _ n, d3 _ n, d2 _ n, d1 _ n]
  have VL : ∀ o b, mL M' o b = mL M o b := fun o b => by rw [l11, l10, l9, l8, l7, l6, l5, l4, l3, l2, l1]
  have hf : FrUp M M' := FrUp.of y11.1 (fun o n1 n2 b => Vo o n2 (by omega) (by omega) b) V4 VL
  have hp : HP M' 63 (upP S T v) := by
    obtain ⟨g1, g2, g3, g4, g5⟩ := p.2.2.1.1 v hv
    have rS : ∀ k, ¬ (1 ≤ k ∧ k ≤ 6 ∨ 8 ≤ k ∧ k ≤ 10) → xR (upP S T v) k v = xR S k v := fun k n => by rw [upP_R, if_neg (fun z => n z.2)]
    have rT : ∀ k, (1 ≤ k ∧ k ≤ 6 ∨ 8 ≤ k ∧ k ≤ 10) → xR (upP S T v) k v = xR T k v := fun k n => by rw [upP_R, if_pos ⟨rfl, n⟩]
    have wE : xW (upP S T v) v = xW T v := by rw [upP_W, if_pos rfl]
    refine p.2.2.1.at (v := v) ⟨fun z hz => ?_, ?_, fun z => ?_, fun u hu => ?_, fun w hw' => ?_⟩ (fun o ho nP nA b => Vo o (by omega) nP nA b) (fun k i n _ _ _ => by rw [upP_R, if_neg (fun z => n z.1)]) (rS 0 (by decide)) (rS 7 (by decide)) (by funext i; rw [upP_R, if_neg (fun z => absurd z.2 (by decide))]) (fun a n => by rw [upP_W, if_neg n])
    · have cs : ∀ z, z ∈ ft → z = (0, 1) ∨ z = (1, 2) ∨ z = (2, 3) ∨ z = (3, 4) ∨ z = (4, 5) ∨ z = (5, 6) ∨ z = (6, 8) ∨ z = (8, 10) ∨ (10 ≤ z.1 ∧ 12 ≤ z.2) := by decide
      have gz := g1 z hz
      rcases cs z hz with y | y | y | y | y | y | y | y | y
      · rw [y]; exact V0.trans (rT 1 (by decide)).symm
      · rw [y]; exact V1.trans (rT 2 (by decide)).symm
      · rw [y]; exact V2.trans (rT 3 (by decide)).symm
      · rw [y]; exact V3.trans (rT 4 (by decide)).symm
      · rw [y]; exact V4'.trans (rT 5 (by decide)).symm
      · rw [y]; exact V5.trans (rT 6 (by decide)).symm
      · rw [y]; exact V6.trans (rT 8 (by decide)).symm
      · rw [y]; exact V8.trans (rT 10 (by decide)).symm
      · rw [Vh _ y.1, rS _ (by omega)]; exact gz
    · rw [V7, rT 8 (by decide), rT 9 (by decide)]
    · rw [Vh _ (by decide), rS 14 (by decide)]
      exact g3 (by rw [← rS 0 (by decide)]; exact z)
    · rw [V9, wE, wms_b hu hw]
    · rw [wE] at hw'
      have h16 := hw w hw'
      have hm : bt (wms T v) w.1 = true := by
        rw [wms_b (by omega) hw]
        exact decide_eq_true (List.mem_map.mpr ⟨w, hw', rfl⟩)
      rw [a11 w.1 (Nat.zero_le _) h16 hm]
      obtain ⟨w', m1, m2, m3⟩ := wst_e (List.mem_map.mpr ⟨w, hw', rfl⟩)
      rw [m3, nd_fst hnd w' w m1 hw' m2]
  refine ⟨M', ?_, ⟨L, sx.e y11.1, c.e y11.1 y11.2.1, p.at4 y11.1 (fun o n1 n b => Vo o n1 (by omega) (by omega) b) hp rfl ?_ rfl rfl⟩, by rw [hlen, ← Nat.add_assoc]; exact y11.2.2.2, hf⟩
  · have f77 : ∀ u, u = xR T 10 v → bz u → f_X6_recallPlace_77 n 114 (63 + 17 + 2 * v) u (63 + 17 + 2 * v) (sI M8 114 7 (nI (r + 8 + 1))) = some M' := by
      intro u hu hb
      rw [f_X6_recallPlace_77, chk_t (io y8.1 _ _), chk_t hb, hu, w9, bnd_e, chk_t (ix y9.1), e10, obd2_s, chk_t (io y9.1 _ _), w10, bnd_e]
      exact e11
    rw [f_X6_recallPlace, chk_t (ix rfl), e1, obd2_s, chk_t (io rfl _ _), w1, bnd_e, chk_t (ix y1.1), e2, obd2_s, chk_t (io y1.1 _ _), w2, bnd_e, chk_t (ix y2.1), e3, obd2_s, chk_t (io y2.1 _ _), w3, bnd_e, chk_t (ix y3.1), e4, obd2_s, chk_t (io y3.1 _ _), w4, bnd_e, chk_t (ix y4.1), e5, obd2_s, chk_t (io y4.1 _ _), w5, bnd_e, chk_t (ix y5.1), e6, obd2_s, chk_t (io y5.1 _ _), w6, bnd_e, chk_t (ix y6.1), e7, obd2_s, chk_t (io y6.1 _ _), w7, bnd_e, chk_t (ix y7.1), e8, obd2_s, chk_t (io y7.1 _ _), w8, bnd_e, chk_t (ix y8.1), e9, obd2_s]
    rcases h10 with z | z
    · rw [if_pos z]; exact f77 0 z.symm (by decide)
    · rw [if_neg (by rw [z]; decide)]; exact f77 1 z.symm (by decide)
  · funext i
    rw [upP_R, if_neg (fun z => absurd z.2 (by decide))]
end
/-! ===== the class takes up the lanes ===== -/
def wn (t : Int32) (x : Ltr) : Ltr := (x.1, x.2.1, t)
theorem flr_mono {L L' : Nat → List Ltr} : ∀ (n a : Nat), (∀ l, a ≤ l → l < a + n → (L l).length ≤ (L' l).length) → (flr L a n).length ≤ (flr L' a n).length := by
  intro n
  induction n with
  | zero => intro a _; exact Nat.le_refl _
  | succ n ih =>
    intro a h
    rw [flr_len_s, flr_len_s]
    have := ih (a + 1) (fun l h1 h2 => h l (by omega) (by omega))
    have := h a (Nat.le_refl _) (by omega)
    omega
theorem fl_mono {S T : St} (h : ∀ l, l < 256 → (xL S l).length ≤ (xL T l).length) : (fl S).length ≤ (fl T).length := by
  have := flr_mono (L := xL S) (L' := xL T) 256 0 (fun l _ h2 => h l (by omega))
  unfold flr at this
  unfold fl
  rw [List.range_eq_range']
  exact this
/-- the lanes alone, and how many were sent, have changed -/
def QS (S S' : St) : Prop := (∀ k i, k ≠ 16 → xR S' k i = xR S k i) ∧ xW S' = xW S ∧ xE S' = xE S ∧ xT S' = xT S
theorem QS.rf (S : St) : QS S S := ⟨fun _ _ _ => rfl, rfl, rfl, rfl⟩
theorem QS.tr {S S' S'' : St} (h : QS S S') (h' : QS S' S'') : QS S S'' := ⟨fun k i n => (h'.1 k i n).trans (h.1 k i n), h'.2.1.trans h.2.1, h'.2.2.1.trans h.2.2.1, h'.2.2.2.trans h.2.2.2⟩
theorem HV.r57 {M : Mem} {X Y N : Nat} {t : Int32} {Q : Nat → Int32} {S : St} {pb pt : List Row4} (p : HV M 63 X Y t N Q S pb pt) : ∀ i, 5 ≤ i → i ≤ 7 → mR M 64 i = 63 + 2 + i ∨ 131 ≤ mR M 64 i := by
  obtain ⟨a, b, c⟩ := p.2.1.ds
  intro i h5 h7
  rcases (show i = 5 ∨ i = 6 ∨ i = 7 by omega) with rfl | rfl | rfl
  · exact a
  · exact b
  · exact c
theorem HV.rd7 {M : Mem} {X Y N : Nat} {t : Int32} {Q : Nat → Int32} {S : St} {pb pt : List Row4} (p : HV M 63 X Y t N Q S pb pt) (x : Int32) : HV (sI M 114 7 x) 63 X Y t N Q S pb pt :=
  p.at4 rfl (fun o n _ b => mI_o _ _ _ _ _ n) (p.2.2.1.cg (fun o ho b => mI_o _ _ _ _ _ (by omega)) (fun _ _ _ => rfl) rfl) rfl rfl rfl rfl
theorem FrUp.s7 (M : Mem) (x : Int32) : FrUp M (sI M 114 7 x) := FrUp.of rfl (fun o _ n b => mI_o _ _ _ _ _ n) (fun b n => mI_n _ _ _ _ n) (fun _ _ => rfl)
theorem nI_dn (k : Nat) : nI (k + 1) + (-1 : Int32) = nI k := by
  rw [← nI_1, Int32.add_assoc, show (1 : Int32) + -1 = 0 by decide, Int32.add_zero]
section
variable {X0 Y0 N : Nat} {t : Int32} {Q : Nat → Int32} {S T : St} {pb pt : List Row4} {M : Mem} {e dC : Nat}
theorem SV.pull (h : SV X0 Y0 t N Q pb pt S M e dC) {r : Nat} (h7 : mI M 114 7 = nI r) (hr : r < e) {x : Int32} (hx : mI M dC r = x) : ∃ M', f_X6_pull 114 M = some (x, M') ∧ SV X0 Y0 t N Q pb pt S M' e dC ∧ mI M' 114 7 = nI (r + 1) ∧ FrUp M M' ∧ ∀ b, mI M' dC b = mI M dC b := by
  obtain ⟨L, sx, c, p⟩ := h
  have y0 : Rdy M M dC r := ⟨rfl, rfl, fun _ => rfl, h7⟩
  obtain ⟨e1, y1⟩ := y0.p sx c hr
  rw [hx] at e1
  exact ⟨_, e1, ⟨L, sx.e y1.1, c.e y1.1 y1.2.1, p.rd7 _⟩, y1.2.2.2, FrUp.s7 _ _, y1.2.2.1⟩
theorem SV.put (h : SV X0 Y0 t N Q pb pt S M e dC) (hl : (fl S).length < 9000) {k f g : Nat} {s : Int32} (hk : k < 6) (hf : f < 16) (hg : g < 16) : ∃ M', f_X5_put 64 (nI k) (nI f) (nI g) s M = some M' ∧ SV X0 Y0 t N Q pb pt (sn t k f g s S) M' e dC ∧ mI M' 114 7 = mI M 114 7 ∧ FrUp M M' ∧ ∀ b, mI M' dC b = mI M dC b := by
  obtain ⟨L, sx, c, p⟩ := h
  obtain ⟨M', e1, p', f⟩ := p.put hl (s := s) hk hf hg
  have hN := sx.2.2.2.2
  have f' := f.up hN p.r57
  obtain ⟨c', cc⟩ := c.up hN f'
  have r5 := p.r57 5 (by decide) (by decide)
  have r6 := p.r57 6 (by decide) (by decide)
  have r7 := p.r57 7 (by decide) (by decide)
  refine ⟨M', e1, ⟨L, sx.up f', c', p'⟩, f.2.2.2.1 114 (by omega) (by omega) ?_ ?_ ?_ 7, f', cc⟩
  · show 114 ≠ mR M 64 5; omega
  · show 114 ≠ mR M 64 6; omega
  · show 114 ≠ mR M 64 7; omega
set_option maxHeartbeats 1000000 in
theorem rl_l {f g : Nat} (hf : f < 16) (hg : g < 16) (hT : (fl T).length < 9000) : ∀ (xs : List Ltr) (n : Nat) (M : Mem) (S : St) (r : Nat), SV X0 Y0 t N Q pb pt S M e dC → mI M 114 7 = nI r → (∀ i x, (xs.map encC)[i]? = some x → mI M dC (r + i) = x) → r + xs.length ≤ e → (∀ x, x ∈ xs → Lok x) → (∀ l, l < 256 → l ≠ 16 * f + g → (xL S l).length ≤ (xL T l).length) → (xL S (16 * f + g)).length + xs.length ≤ (xL T (16 * f + g)).length → xs.length < 2 ^ 31 → xs.length + 1 ≤ n → ∃ M' S', f_X6_recallLane_5 n 114 (nI f) (nI g) (nI xs.length) M = some M' ∧ SV X0 Y0 t N Q pb pt S' M' e dC ∧ mI M' 114 7 = nI (r + xs.length) ∧ FrUp M M' ∧ (∀ b, mI M' dC b = mI M dC b) ∧ QS S S' ∧ (∀ l, xL S' l = if l = 16 * f + g then xL S (16 * f + g) ++ xs.map (wn t) else xL S l) := by
  intro xs
  induction xs with
  | nil =>
    intro n M S r h h7 _ _ _ _ _ _ hn
    obtain ⟨n, rfl⟩ : ∃ m, n = m + 1 := ⟨n - 1, by omega⟩
    refine ⟨M, S, ?_, h, h7, FrUp.rf M, fun _ => rfl, QS.rf S, fun l => ?_⟩
    · rw [f_X6_recallLane_5, if_pos (by show nI 0 ≤ 0; decide)]
    · by_cases z : l = 16 * f + g
      · rw [if_pos z, z, List.map_nil, List.append_nil]
      · rw [if_neg z]
  | cons x xs ih =>
    intro n M S r h h7 hc he hx h1 h2 hs hn
    obtain ⟨n, rfl⟩ : ∃ m, n = m + 1 := ⟨n - 1, by omega⟩
    rw [List.length_cons] at he h2 hs hn
    obtain ⟨⟨k, hk, ek⟩, ⟨s, hsl, es⟩⟩ := hx x (by simp)
    obtain ⟨M1, e1, v1, r1, f1, c1⟩ := h.pull h7 (by omega) (hc 0 (encC x) rfl)
    have hl : (fl S).length < 9000 := by
      have := fl_mono (S := S) (T := T) (fun l hl => by
        by_cases z : l = 16 * f + g
        · rw [z]; omega
        · exact h1 l hl z)
      omega
    obtain ⟨M2, e2, v2, r2, f2, c2⟩ := v1.put hl (k := k) (f := f) (g := g) (s := nI s) hk hf hg
    have kind : encC x &&& (7 : Int32) = nI k := encC_kind (by omega) ek
    have stp : encC x >>> ((3 : Int32) &&& 31) = nI s := encC_stamp (by omega) ek (by omega) es
    obtain ⟨M3, S3, e3, v3, r3, f3, c3, q3, l3⟩ := ih n M2 (sn t k f g (nI s) S) (r + 1) v2 (r2.trans r1) (fun i y hy => by
        have := hc (i + 1) y hy
        rw [c2, c1, show r + 1 + i = r + (i + 1) by omega]; exact this) (by omega) (fun y hy => hx y (List.mem_cons_of_mem _ hy)) (fun l hl z => by rw [sn_L, if_neg z]; exact h1 l hl z) (by rw [sn_L, if_pos rfl, List.length_append]; show _ + 1 + _ ≤ _; omega) (by omega) (by omega)
    refine ⟨M3, S3, ?_, v3, by rw [r3, List.length_cons, show r + 1 + xs.length = r + (xs.length + 1) by omega], f1.tr (f2.tr f3), fun b => by rw [c3, c2, c1], (show QS S (sn t k f g (nI s) S) from ⟨fun a b n => sn_R _ _ _ _ _ _ n, rfl, rfl, rfl⟩).tr q3, fun l => ?_⟩
    · obtain ⟨L, sx, c, p⟩ := id h
      obtain ⟨L1, sx1, cc1, p1⟩ := id v1
      have q1 := p1.1
      rw [f_X6_recallLane_5, List.length_cons, if_neg (show ¬ nI (xs.length + 1) ≤ 0 from (show ¬ nI (xs.length + 1) ≤ nI 0 from nI_ge (by omega) (by omega))), chk_t sx.1, e1, obd2_s, chk_t sx1.1, sx1.2.1.1, bnd_e, cs_f q1, cs_h1 q1, bnd_e, cs_p q1, f_X5_kindOf, kind, obd_s, f_X5_stampOf, stp, obd_s, show f_X5_put (63 + 1) (nI k) (nI f) (nI g) (nI s) M1 = some M2 from e2, obd_s, nI_dn, bnd_e]
      exact e3
    · rw [l3]
      by_cases z : l = 16 * f + g
      · rw [if_pos z, if_pos z, sn_L, if_pos rfl, List.map_cons, List.append_assoc]
        have : wn t x = (nI k, nI s, t) := by unfold wn; rw [ek, es]
        rw [this]; rfl
      · rw [if_neg z, if_neg z, sn_L, if_neg z]
theorem SV.rlane (h : SV X0 Y0 t N Q pb pt S M e dC) {r f g n : Nat} (h7 : mI M 114 7 = nI r) (hf : f < 16) (hg : g < 16) (hT : (fl T).length < 9000) (hc : ∀ i x, (serL T (16 * f + g))[i]? = some x → mI M dC (r + i) = x) (he : r + (serL T (16 * f + g)).length ≤ e) (hx : ∀ x, x ∈ xL T (16 * f + g) → Lok x) (h1 : ∀ l, l < 256 → l ≠ 16 * f + g → (xL S l).length ≤ (xL T l).length) (h2 : xL S (16 * f + g) = []) (hn : 9100 ≤ n) : ∃ M' S', f_X6_recallLane n 114 (nI f) (nI g) M = some M' ∧ SV X0 Y0 t N Q pb pt S' M' e dC ∧ mI M' 114 7 = nI (r + (serL T (16 * f + g)).length) ∧ FrUp M M' ∧ (∀ b, mI M' dC b = mI M dC b) ∧ QS S S' ∧ (∀ l, xL S' l = if l = 16 * f + g then (xL T (16 * f + g)).map (wn t) else xL S l) := by
  have hln := ln_l (S := T) (l := 16 * f + g) (by omega) (by omega)
  have el : (serL T (16 * f + g)).length = (xL T (16 * f + g)).length + 1 := by unfold serL; rw [List.length_cons, List.length_map]
  rw [el] at he ⊢
  obtain ⟨M1, e1, v1, r1, f1, c1⟩ := h.pull h7 (by omega) (hc 0 _ rfl)
  obtain ⟨M3, S3, e3, v3, r3, f3, c3, q3, l3⟩ := rl_l (T := T) hf hg hT (xL T (16 * f + g)) n M1 S (r + 1) v1 r1 (fun i y hy => by
    have := hc (i + 1) y hy
    rw [c1, show r + 1 + i = r + (i + 1) by omega]; exact this) (by omega) hx h1 (by rw [h2, List.length_nil]; omega) (by omega) (by omega)
  refine ⟨M3, S3, ?_, v3, by rw [r3]; congr 1; omega, f1.tr f3, fun b => by rw [c3, c1], q3, fun l => ?_⟩
  · obtain ⟨L, sx, c, p⟩ := id h
    rw [f_X6_recallLane, chk_t sx.1, e1, obd2_s]
    exact e3
  · rw [l3, h2, List.nil_append]
end
/-! ===== the class takes up a kept state, whole ===== -/
theorem gl_lt {α : Type} {l : List α} {i : Nat} {x : α} (h : l[i]? = some x) : i < l.length := by
  rcases Nat.lt_or_ge i l.length with z | z
  · exact z
  · rw [List.getElem?_eq_none z] at h; cases h
def LM (t : Int32) (T S : St) (m : Nat) : Prop := ∀ l, l < 256 → xL S l = if l < m then (xL T l).map (wn t) else []
theorem LM.le {t : Int32} {T S : St} {m : Nat} (h : LM t T S m) {l : Nat} (hl : l < 256) : (xL S l).length ≤ (xL T l).length := by
  rw [h l hl]
  by_cases z : l < m
  · rw [if_pos z, List.length_map]; exact Nat.le_refl _
  · rw [if_neg z]; exact Nat.zero_le _
/-- what taking up T may rest on -/
def Tok (N : Nat) (T : St) : Prop := N ≤ 16 ∧ (fl T).length < 9000 ∧ (∀ l, l < 256 → ¬ (l / 16 < N ∧ l % 16 < N) → xL T l = []) ∧ (∀ l, l < 256 → ∀ x, x ∈ xL T l → Lok x) ∧ (∀ v, v < 16 → (∀ w, w ∈ xW T v → w.1 < 16) ∧ ((xW T v).map Prod.fst).Nodup ∧ (xR T 10 v = 0 ∨ xR T 10 v = 1))
section
variable {X0 Y0 N : Nat} {t : Int32} {Q : Nat → Int32} {T : St} {pb pt : List Row4} {e dC : Nat}
/-- from M with S to M' with S', from r cells on to r' -/
def RR (X0 Y0 : Nat) (t : Int32) (N : Nat) (Q : Nat → Int32) (pb pt : List Row4) (e dC : Nat) (M M' : Mem) (S' : St) (r' : Nat) : Prop := SV X0 Y0 t N Q pb pt S' M' e dC ∧ mI M' 114 7 = nI r' ∧ FrUp M M' ∧ ∀ b, mI M' dC b = mI M dC b
theorem RR.tr {M M1 M2 : Mem} {S1 S2 : St} {r1 r2 : Nat} (h : RR X0 Y0 t N Q pb pt e dC M M1 S1 r1) (h' : RR X0 Y0 t N Q pb pt e dC M1 M2 S2 r2) : RR X0 Y0 t N Q pb pt e dC M M2 S2 r2 :=
  ⟨h'.1, h'.2.1, h.2.2.1.tr h'.2.2.1, fun b => (h'.2.2.2 b).trans (h.2.2.2 b)⟩
theorem rc_101 (ok : Tok N T) (K : Nat → Int32 → Mem → Option Mem) {f : Nat} (hf : f < N) : ∀ (d j n : Nat) (M : Mem) (S : St) (r : Nat), j + d = N → SV X0 Y0 t N Q pb pt S M e dC → mI M 114 7 = nI r → (∀ i x, (serG T f (List.range' j d))[i]? = some x → mI M dC (r + i) = x) → r + (serG T f (List.range' j d)).length ≤ e → LM t T S (16 * f + j) → d + 9110 ≤ n → ∃ M' S', f_X6_recall_101 K n 114 (nI f) (bms T f) (nI j) M = K 114 (nI (f + 1)) M' ∧ RR X0 Y0 t N Q pb pt e dC M M' S' (r + (serG T f (List.range' j d)).length) ∧ QS S S' ∧ LM t T S' (16 * (f + 1)) := by
  obtain ⟨h16, hT, hz, hx, _⟩ := ok
  intro d
  induction d with
  | zero =>
    intro j n M S r hj h h7 hc he lm hn
    obtain ⟨n, rfl⟩ : ∃ m, n = m + 1 := ⟨n - 1, by omega⟩
    obtain ⟨L, sx, c, p⟩ := id h
    have q := p.1
    refine ⟨M, S, ?_, ⟨h, h7, FrUp.rf M, fun _ => rfl⟩, QS.rf S, fun l hl => ?_⟩
    · rw [f_X6_recall_101, chk_t sx.1, sx.2.1.1, bnd_e, cs_f q, cs_h0 q, bnd_e, cs_s q, p.2.2.2.2.2.1, if_pos (nI_le (by omega) (by omega)), nI_1, bnd_e]
    · rw [lm l hl]
      by_cases z : l < 16 * f + j
      · rw [if_pos z, if_pos (by omega)]
      · rw [if_neg z]
        by_cases y : l < 16 * (f + 1)
        · rw [if_pos y, hz l hl (by omega)]; rfl
        · rw [if_neg y]
  | succ d ih =>
    intro j n M S r hj h h7 hc he lm hn
    obtain ⟨n, rfl⟩ : ∃ m, n = m + 1 := ⟨n - 1, by omega⟩
    obtain ⟨L, sx, c, p⟩ := id h
    have q := p.1
    have eG : serG T f (List.range' j (d + 1)) = (if bt (bms T f) j = true then serL T (16 * f + j) else []) ++ serG T f (List.range' (j + 1) d) := by
      unfold serG
      rw [List.range'_succ, List.filter_cons]
      by_cases z : bt (bms T f) j = true
      · rw [if_pos z, if_pos z, List.flatMap_cons]
      · rw [if_neg z, if_neg z]; rfl
    rw [eG] at hc he ⊢
    have hd : ∀ y : Option Mem, (if (if bt (bms T f) j = true then (1 : Int32) else 0) = 0 then f_X6_recall_101 K n 114 (nI f) (bms T f) (nI (j + 1)) M else obd (f_X6_recallLane n 114 (nI f) (nI j) M) fun M19 => f_X6_recall_101 K n 114 (nI f) (bms T f) (nI (j + 1)) M19) = y → f_X6_recall_101 K (n + 1) 114 (nI f) (bms T f) (nI j) M = y := by
      intro y hy
      rw [f_X6_recall_101, chk_t sx.1, sx.2.1.1, bnd_e, cs_f q, cs_h0 q, bnd_e, cs_s q, p.2.2.2.2.2.1, if_neg (nI_ge (by omega) (by omega)), f_has9 _ (by omega), obd_s, nI_1, bnd_e]
      simp only [bnd_e]
      exact hy
    have b := bms_b (S := T) (f := f) (u := j) (by omega)
    by_cases z : bt (bms T f) j = true
    · rw [if_pos z] at hc he ⊢
      rw [List.length_append] at he ⊢
      obtain ⟨M1, S1, e1, v1, r1, f1, c1, q1, l1⟩ := h.rlane (T := T) (f := f) (g := j) (n := n) h7 (by omega) (by omega) hT (fun i x hi => hc i x (by rw [List.getElem?_append_left (gl_lt hi)]; exact hi)) (by omega) (hx _ (by omega)) (fun l hl _ => lm.le hl) (by rw [lm _ (by omega), if_neg (by omega)]) (by omega)
      obtain ⟨M2, S2, e2, w2, q2, l2⟩ := ih (j + 1) n M1 S1 _ (by omega) v1 r1 (fun i x hi => by
        have := hc ((serL T (16 * f + j)).length + i) x (by rw [List.getElem?_append_right (by omega), Nat.add_sub_cancel_left]; exact hi)
        rw [c1, Nat.add_assoc]; exact this) (by omega) (fun l hl => by
        rw [l1]
        by_cases y : l = 16 * f + j
        · rw [if_pos y, if_pos (by omega), y]
        · rw [if_neg y, lm l hl]
          by_cases x : l < 16 * f + j
          · rw [if_pos x, if_pos (by omega)]
          · rw [if_neg x, if_neg (by omega)]) (by omega)
      refine ⟨M2, S2, hd _ ?_, by rw [← Nat.add_assoc]; exact RR.tr ⟨v1, r1, f1, c1⟩ w2, q1.tr q2, l2⟩
      rw [if_pos z, if_neg ne10, e1, obd_s, e2]
    · rw [if_neg z, List.nil_append] at hc he ⊢
      have ez : xL T (16 * f + j) = [] := by
        by_cases y : xL T (16 * f + j) = []
        · exact y
        · rw [b] at z
          exact absurd (decide_eq_true (⟨by omega, y⟩ : j < 16 ∧ xL T (16 * f + j) ≠ [])) z
      obtain ⟨M2, S2, e2, w2, q2, l2⟩ := ih (j + 1) n M S r (by omega) h h7 hc he (fun l hl => by
        rw [lm l hl]
        by_cases x : l < 16 * f + j
        · rw [if_pos x, if_pos (by omega)]
        · rw [if_neg x]
          by_cases y : l = 16 * f + j
          · rw [if_pos (by omega), y, ez]; rfl
          · rw [if_neg (by omega)]) (by omega)
      refine ⟨M2, S2, hd _ ?_, w2, q2, l2⟩
      rw [if_neg z, if_pos rfl, e2]
theorem rc_79 (ok : Tok N T) : ∀ (d f n : Nat) (M : Mem) (S : St) (r : Nat), f + d = N → SV X0 Y0 t N Q pb pt S M e dC → mI M 114 7 = nI r → (∀ i x, ((List.range' f d).flatMap (serF N T))[i]? = some x → mI M dC (r + i) = x) → r + ((List.range' f d).flatMap (serF N T)).length ≤ e → LM t T S (16 * f) → d + N + 9200 ≤ n → ∃ M' S', f_X6_recall_79 n 114 (nI f) M = some M' ∧ RR X0 Y0 t N Q pb pt e dC M M' S' (r + ((List.range' f d).flatMap (serF N T)).length) ∧ QS S S' ∧ LM t T S' (16 * N) := by
  have h16 := ok.1
  intro d
  induction d with
  | zero =>
    intro f n M S r hj h h7 hc he lm hn
    obtain ⟨n, rfl⟩ : ∃ m, n = m + 1 := ⟨n - 1, by omega⟩
    obtain ⟨L, sx, c, p⟩ := id h
    have q := p.1
    refine ⟨M, S, ?_, ⟨h, h7, FrUp.rf M, fun _ => rfl⟩, QS.rf S, by rw [show N = f by omega]; exact lm⟩
    rw [f_X6_recall_79, chk_t sx.1, sx.2.1.1, bnd_e, cs_f q, cs_h0 q, bnd_e, cs_s q, p.2.2.2.2.2.1, if_pos (nI_le (by omega) (by omega))]
  | succ d ih =>
    intro f n M S r hj h h7 hc he lm hn
    obtain ⟨n, rfl⟩ : ∃ m, n = m + 1 := ⟨n - 1, by omega⟩
    obtain ⟨L, sx, c, p⟩ := id h
    have q := p.1
    rw [List.range'_succ, List.flatMap_cons] at hc he ⊢
    rw [List.length_append] at he ⊢
    have e0 : (serF N T f).length = 1 + (serG T f (List.range' 0 N)).length := by unfold serF; rw [List.length_cons]; omega
    obtain ⟨M1, e1, v1, r1, f1, c1⟩ := h.pull h7 (by omega) (x := bms T f) (hc 0 _ (by unfold serF; rfl))
    obtain ⟨M2, S2, e2, w2, q2, l2⟩ := rc_101 (t := t) (X0 := X0) (Y0 := Y0) (Q := Q) (pb := pb) (pt := pt) (e := e) (dC := dC) ok (f_X6_recall_79 n) (f := f) (by omega) N 0 n M1 S (r + 1) (by omega) v1 r1 (fun i x hi => by
      have := hc (i + 1) x (by
        unfold serF
        rw [List.cons_append, List.getElem?_cons_succ, List.getElem?_append_left (gl_lt hi)]
        exact hi)
      rw [c1, show r + 1 + i = r + (i + 1) by omega]; exact this) (by omega) lm (by omega)
    have w12 : RR X0 Y0 t N Q pb pt e dC M M2 S2 (r + (serF N T f).length) := by
      have := RR.tr ⟨v1, r1, f1, c1⟩ w2
      rw [e0, ← Nat.add_assoc]; exact this
    obtain ⟨M3, S3, e3, w3, q3, l3⟩ := ih (f + 1) n M2 S2 _ (by omega) w12.1 w12.2.1 (fun i x hi => by
      have := hc ((serF N T f).length + i) x (by rw [List.getElem?_append_right (by omega), Nat.add_sub_cancel_left]; exact hi)
      rw [w12.2.2.2, Nat.add_assoc]; exact this) (by omega) l2 (by omega)
    refine ⟨M3, S3, ?_, by rw [← Nat.add_assoc]; exact w12.tr w3, q2.tr q3, l3⟩
    rw [f_X6_recall_79, chk_t sx.1, sx.2.1.1, bnd_e, cs_f q, cs_h0 q, bnd_e, cs_s q, p.2.2.2.2.2.1, if_neg (nI_ge (by omega) (by omega)), e1, obd2_s]
    exact e2.trans e3
/-- the places below v are as T has them -/
def PlM (T S0 S : St) (v : Nat) : Prop := (∀ k i, k ≠ 16 → xR S k i = if i < v ∧ (1 ≤ k ∧ k ≤ 6 ∨ 8 ≤ k ∧ k ≤ 10) then xR T k i else xR S0 k i) ∧ (∀ a, xW S a = if a < v then xW T a else xW S0 a) ∧ xE S = xE S0 ∧ xT S = xT S0
theorem PlM.up {T S0 S : St} {v : Nat} (h : PlM T S0 S v) : PlM T S0 (upP S T v) (v + 1) := by
  obtain ⟨a, b, c, d⟩ := h
  refine ⟨fun k i n => ?_, fun i => ?_, c, d⟩
  · rw [upP_R]
    by_cases z : 1 ≤ k ∧ k ≤ 6 ∨ 8 ≤ k ∧ k ≤ 10
    · by_cases y : i = v
      · rw [if_pos ⟨y, z⟩, if_pos ⟨by omega, z⟩]
      · rw [if_neg (fun x => y x.1), a k i n]
        by_cases x : i < v
        · rw [if_pos ⟨x, z⟩, if_pos ⟨by omega, z⟩]
        · rw [if_neg (fun w => x w.1), if_neg (fun w => by have := w.1; omega)]
    · rw [if_neg (fun x => z x.2), a k i n, if_neg (fun x => z x.2), if_neg (fun x => z x.2)]
  · rw [upP_W]
    by_cases y : i = v
    · rw [if_pos y, if_pos (by omega), y]
    · rw [if_neg y, b i]
      by_cases x : i < v
      · rw [if_pos x, if_pos (by omega)]
      · rw [if_neg x, if_neg (by omega)]
theorem PlM.qs {T S0 S S' : St} {v : Nat} (h : PlM T S0 S v) (q : QS S S') : PlM T S0 S' v := by
  obtain ⟨a, b, c, d⟩ := h
  obtain ⟨q1, q2, q3, q4⟩ := q
  exact ⟨fun k i n => (q1 k i n).trans (a k i n), fun i => (congrFun q2 i).trans (b i), q3.trans c, q4.trans d⟩
theorem rc_34 (ok : Tok N T) {S0 : St} : ∀ (d v n : Nat) (M : Mem) (S : St) (r : Nat), v + d = N → SV X0 Y0 t N Q pb pt S M e dC → mI M 114 7 = nI r → (∀ i x, ((List.range' v d).flatMap (serP T) ++ (List.range' 0 N).flatMap (serF N T))[i]? = some x → mI M dC (r + i) = x) → r + ((List.range' v d).flatMap (serP T)).length + ((List.range' 0 N).flatMap (serF N T)).length ≤ e → PlM T S0 S v → d + 2 * N + 9300 ≤ n → ∃ M' S' r', f_X6_recall_34 n 114 (nI v) M = some M' ∧ RR X0 Y0 t N Q pb pt e dC M M' S' r' ∧ PlM T S0 S' N ∧ LM t T S' (16 * N) := by
  have h16 := ok.1
  intro d
  induction d with
  | zero =>
    intro v n M S r hj h h7 hc he pm hn
    obtain ⟨n, rfl⟩ : ∃ m, n = m + 1 := ⟨n - 1, by omega⟩
    obtain ⟨L, sx, c, p⟩ := id h
    have q := p.1
    obtain ⟨M1, e1, p1, fh⟩ := p.clear (n := n) (by omega)
    have hN := sx.2.2.2.2
    have f1 := fh.up hN p.r57
    obtain ⟨cc1, c1⟩ := c.up hN f1
    have r5 := p.r57 5 (by decide) (by decide)
    have r6 := p.r57 6 (by decide) (by decide)
    have r7 := p.r57 7 (by decide) (by decide)
    have k7 : mI M1 114 7 = nI r := by
      rw [← h7]
      refine fh.2.2.2.1 114 (by omega) (by omega) ?_ ?_ ?_ 7
      · show 114 ≠ mR M 64 5; omega
      · show 114 ≠ mR M 64 6; omega
      · show 114 ≠ mR M 64 7; omega
    have v1 : SV X0 Y0 t N Q pb pt (emL S) M1 e dC := ⟨L, sx.up f1, cc1, p1⟩
    have q0 : QS S (emL S) := ⟨fun _ _ _ => rfl, rfl, rfl, rfl⟩
    obtain ⟨M2, S2, e2, w2, q2, l2⟩ := rc_79 (t := t) (X0 := X0) (Y0 := Y0) (Q := Q) (pb := pb) (pt := pt) (e := e) (dC := dC) ok N 0 n M1 (emL S) r (by omega) v1 k7 (fun i x hi => by rw [c1]; exact hc i x hi) (by have : ((List.range' v 0).flatMap (serP T)).length = 0 := rfl; omega) (fun l _ => by rw [if_neg (by omega)]; rfl) (by omega)
    refine ⟨M2, S2, _, ?_, RR.tr ⟨v1, k7, f1, c1⟩ w2, by rw [show N = v by omega]; exact pm.qs (q0.tr q2), l2⟩
    rw [f_X6_recall_34, chk_t sx.1, sx.2.1.1, bnd_e, cs_f q, cs_h0 q, bnd_e, cs_s q, p.2.2.2.2.2.1, if_pos (nI_le (by omega) (by omega)), bnd_e, cs_f q, cs_h1 q, bnd_e, cs_p q, show f_X5_clearLanes n (63 + 1) M = some M1 from e1, obd_s]
    exact e2
  | succ d ih =>
    intro v n M S r hj h h7 hc he pm hn
    obtain ⟨n, rfl⟩ : ∃ m, n = m + 1 := ⟨n - 1, by omega⟩
    obtain ⟨L, sx, c, p⟩ := id h
    have q := p.1
    rw [List.range'_succ, List.flatMap_cons] at hc he
    rw [List.append_assoc] at hc
    rw [List.length_append] at he
    obtain ⟨w1, w2, w3⟩ := ok.2.2.2.2 v (by omega)
    obtain ⟨M1, e1, v1, r1, f1⟩ := h.rplace (T := T) (v := v) (n := n) h7 (by omega) (fun i x hi => hc i x (by rw [List.getElem?_append_left (gl_lt hi)]; exact hi)) (by omega) w1 w2 w3 (by omega)
    obtain ⟨_, c1⟩ := c.up sx.2.2.2.2 f1
    obtain ⟨M2, S2, r2, e2, w2', pm2, l2⟩ := ih (v + 1) n M1 _ _ (by omega) v1 r1 (fun i x hi => by
      have := hc ((serP T v).length + i) x (by rw [List.getElem?_append_right (by omega), Nat.add_sub_cancel_left]; exact hi)
      rw [c1, Nat.add_assoc]; exact this) (by omega) pm.up (by omega)
    refine ⟨M2, S2, r2, ?_, RR.tr ⟨v1, r1, f1, c1⟩ w2', pm2, l2⟩
    rw [f_X6_recall_34, chk_t sx.1, sx.2.1.1, bnd_e, cs_f q, cs_h0 q, bnd_e, cs_s q, p.2.2.2.2.2.1, if_neg (nI_ge (by omega) (by omega)), bnd_e, cs_f q, cs_h2 q, bnd_e, cs_a10 q, cs_i10 q (by omega), cs_rpc q (by omega), bnd_e, cs_po q (by omega), e1, obd_s, nI_1, bnd_e, e2]
end
