/-! ===== equal answers: way ===== -/
/-- what the reference tells of way l, x of its letters passed -/
def wv (c : Int32) (l : Nat) : Nat → List (Nat × Ltr) → Int32
  | x, [] => if c = -1 then nI x else -1
  | x, q :: ys => if q.1 = l then (if nI x = c then q.2.1 else wv c l (x + 1) ys) else wv c l x ys
theorem wv_no {c : Int32} {l : Nat} : ∀ (ys zs : List (Nat × Ltr)) (x : Nat), (∀ q, q ∈ ys → q.1 ≠ l) → wv c l x (ys ++ zs) = wv c l x zs := by
  intro ys
  induction ys with
  | nil => intro zs x _; rfl
  | cons q ys ih =>
    intro zs x h
    show (if q.1 = l then (if nI x = c then q.2.1 else wv c l (x + 1) (ys ++ zs)) else wv c l x (ys ++ zs)) = _
    rw [if_neg (h q List.mem_cons_self)]
    exact ih zs x (fun q' hq => h q' (List.mem_cons_of_mem _ hq))
theorem wv_nil {c : Int32} {l : Nat} {zs : List (Nat × Ltr)} {x : Nat} (h : ∀ q, q ∈ zs → q.1 ≠ l) : wv c l x zs = if c = -1 then nI x else -1 := by
  have e := wv_no (c := c) zs [] x h
  rw [List.append_nil] at e
  exact e
theorem wv_m1 {l : Nat} {zs : List (Nat × Ltr)} (h : ∀ q, q ∈ zs → q.1 ≠ l) : ∀ (L : List Ltr) (x : Nat), x + L.length < 2 ^ 31 → wv (-1) l x ((L.map fun y => (l, y)) ++ zs) = nI (x + L.length) := by
  intro L
  induction L with
  | nil => intro x _; exact (wv_nil h).trans (if_pos rfl)
  | cons y L ih =>
    intro x hx
    rw [List.length_cons] at hx
    have x0 : ¬ nI x < 0 := nI_nlt (b := 0) (Nat.zero_le _) (by omega)
    have xn : ¬ nI x = -1 := fun z => x0 (by rw [z]; decide)
    show (if l = l then (if nI x = -1 then y.1 else wv (-1) l (x + 1) ((L.map fun y => (l, y)) ++ zs)) else wv (-1) l x ((L.map fun y => (l, y)) ++ zs)) = _
    rw [if_pos rfl, if_neg xn, ih (x + 1) (by omega), List.length_cons]
    congr 1
    omega
theorem wv_at {l : Nat} {zs : List (Nat × Ltr)} : ∀ (L : List Ltr) (x j : Nat) (hj : j < L.length), x + L.length < 2 ^ 31 → wv (nI (x + j)) l x ((L.map fun y => (l, y)) ++ zs) = (L[j]'hj).1 := by
  intro L
  induction L with
  | nil => intro x j hj; cases hj
  | cons y L ih =>
    intro x j hj hx
    rw [List.length_cons] at hx
    show (if l = l then (if nI x = nI (x + j) then y.1 else wv (nI (x + j)) l (x + 1) ((L.map fun y => (l, y)) ++ zs)) else wv (nI (x + j)) l x ((L.map fun y => (l, y)) ++ zs)) = _
    rw [if_pos rfl]
    cases j with
    | zero => rw [Nat.add_zero, if_pos rfl]; rfl
    | succ j =>
      have hj' : j < L.length := by simpa using hj
      rw [if_neg (nI_ne (by omega) (by omega) (by omega)), show x + (j + 1) = (x + 1) + j by omega, ih (x + 1) j hj' (by omega)]
      rfl
theorem wv_out {c : Int32} {l : Nat} {zs : List (Nat × Ltr)} (h : ∀ q, q ∈ zs → q.1 ≠ l) (hc : ¬ c = -1) : ∀ (L : List Ltr) (x : Nat), (∀ j, j < L.length → ¬ nI (x + j) = c) → wv c l x ((L.map fun y => (l, y)) ++ zs) = -1 := by
  intro L
  induction L with
  | nil => intro x _; exact (wv_nil h).trans (if_neg hc)
  | cons y L ih =>
    intro x hx
    have h0 := hx 0 (by rw [List.length_cons]; omega)
    rw [Nat.add_zero] at h0
    show (if l = l then (if nI x = c then y.1 else wv c l (x + 1) ((L.map fun y => (l, y)) ++ zs)) else wv c l x ((L.map fun y => (l, y)) ++ zs)) = _
    rw [if_pos rfl, if_neg h0]
    exact ih (x + 1) (fun j hj => by
      have := hx (j + 1) (by rw [List.length_cons]; omega)
      rw [show x + (j + 1) = x + 1 + j by omega] at this
      exact this)
theorem rwy_v {M : Mem} {tw : Bool} {t : Int32} {S : St} {pb pt : List Row4} (r : RV M tw t S pb pt) (hK : ∀ q, q ∈ fl S → ∃ k, k < 8 ∧ q.2.1 = nI k) {f g : Nat} (hf : f < 16) (hg : g < 16) (c : Int32) : ∀ (d i n x : Nat), i + d = (fl S).length → d + 1 ≤ n → f_X10_way_29 M n 120 (nI f) (nI g) c (nI x) (nI i) = some (wv c (16 * f + g) x ((fl S).drop i)) := by
  have h9 := r.2.2.2.2.1.2.1
  intro d
  induction d with
  | zero =>
    intro i n x hi hn
    obtain ⟨n, rfl⟩ : ∃ m, n = m + 1 := ⟨n - 1, by omega⟩
    rw [f_X10_way_29, rs_f r.1, rs_0 r.1, bnd_e, rs_fa r.1, l850, rs_c r.1 (by decide), cl_n (by decide), r.2.2.2.2.1.1, if_pos (nI_le (by omega) (by omega)), List.drop_eq_nil_of_le (by omega)]
    show _ = some (if c = -1 then nI x else -1)
    by_cases z : c = -1
    · rw [if_pos z, if_pos z]
    · rw [if_neg z, if_neg z]
  | succ d ih =>
    intro i n x hi hn
    obtain ⟨n, rfl⟩ : ∃ m, n = m + 1 := ⟨n - 1, by omega⟩
    have hil : i < (fl S).length := by omega
    have hq := r.2.2.2.2.1.2.2 i _ (List.getElem?_eq_getElem hil)
    have hm := List.getElem_mem hil
    rw [List.drop_eq_getElem_cons hil]
    generalize ((fl S)[i]'hil) = q at hq hm
    have e := hq.1
    rw [Nat.zero_add] at e
    have q256 := (fl_mem hm).1
    obtain ⟨kd, hkd, ek⟩ := hK q hm
    have c8 : (851 : Int32) + nI i = nI (851 + i) := by rw [show (851 : Int32) = nI 851 from rfl, nI_add]
    have c16 : ((16 : Int32) * nI f) + nI g = nI (16 * f + g) := by rw [show (16 : Int32) = nI 16 from rfl, pk_mul, nI_add]
    rw [f_X10_way_29, rs_f r.1, rs_0 r.1, bnd_e, rs_fa r.1, l850, rs_c r.1 (by decide), cl_n (by decide), r.2.2.2.2.1.1, if_neg (nI_ge (by omega) (by omega)), bnd_e, rs_fa r.1, c8, rs_c r.1 (by omega), f_X10_pairOf, obd_s, bnd_e, rs_fa r.1, rs_c r.1 (by omega), f_X10_kindOf, obd_s, bnd_e, bnd_e, cl_n (by omega), e, enc_pair q256, enc_kind q256 hkd ek, c16, nI_1, nI_1]
    show _ = some (if q.1 = 16 * f + g then (if nI x = c then q.2.1 else wv c (16 * f + g) (x + 1) ((fl S).drop (i + 1))) else wv c (16 * f + g) x ((fl S).drop (i + 1)))
    by_cases z : q.1 = 16 * f + g
    · rw [if_pos z, if_pos (congrArg nI z)]
      by_cases y : nI x = c
      · rw [if_pos y, if_pos y, ek]
      · rw [if_neg y, if_neg y]
        exact ih (i + 1) n (x + 1) (by omega) (by omega)
    · rw [if_neg z, if_neg (nI_ne (by omega) (by omega) z)]
      exact ih (i + 1) n x (by omega) (by omega)
theorem ka_v {M : Mem} {h d5 d6 d7 len us : Nat} (q : CS M h) (ds : DS M h d5 d6 d7 len) (hl : us ≤ len) (h9 : len ≤ 18000) : ∀ (e j n : Nat) (ks : List (Nat × Ltr)) (x : Int32), Chn (mI M d7) x (ks.map Prod.fst) → (∀ y, y ∈ ks → y.1 < us ∧ mI M d5 y.1 = encC y.2 ∧ ∃ k, k < 8 ∧ y.2.1 = nI k) → ∀ (he : e < ks.length), j + e < 100000 → e + 1 ≤ n → f_X5_kindAt_37 M n (h + 1) (nI (j + e)) x (nI j) = some (ks[e]'he).2.1 := by
  intro e
  induction e with
  | zero =>
    intro j n ks x hc hb he hj hn
    obtain ⟨n, rfl⟩ : ∃ m, n = m + 1 := ⟨n - 1, by omega⟩
    cases ks with
    | nil => cases he
    | cons c cs =>
      have hx : x = nI c.1 := hc.1
      obtain ⟨cu, ce, k, hk, ek⟩ := hb c List.mem_cons_self
      show _ = some c.2.1
      rw [f_X5_kindAt_37, if_pos (show nI (j + 0) ≤ nI j from Int32.le_refl _), cs_p q, ds.1.1, bnd_e, chk_t ds.2.1.1, hx, ds.2.2.1.1, chk_t (inB_n (by omega) (by omega)), f_X5_kindOf, obd_s, mI_d (by omega), ce, encC_kind hk ek, ek]
  | succ e ih =>
    intro j n ks x hc hb he hj hn
    obtain ⟨n, rfl⟩ : ∃ m, n = m + 1 := ⟨n - 1, by omega⟩
    cases ks with
    | nil => cases he
    | cons c cs =>
      have hx : x = nI c.1 := hc.1
      have cu := (hb c List.mem_cons_self).1
      have he' : e < cs.length := by simpa using he
      have := ih (j + 1) n cs (mI M d7 c.1) hc.2 (fun y hy => hb y (List.mem_cons_of_mem _ hy)) he' (by omega) (by omega)
      rw [show j + 1 + e = j + (e + 1) by omega] at this
      rw [f_X5_kindAt_37, if_neg (nI_ge (by omega) (by omega)), cs_p q, ds.1.2.2, bnd_e, chk_t ds.2.1.2.2, hx, ds.2.2.1.2.2, chk_t (inB_n (by omega) (by omega)), bnd_e, mI_d (by omega), bnd_e, nI_1]
      exact this
theorem eq30 {M : Mem} {i n : Nat} (h : WI i M) (hi : i ≤ 511) (a b c : Int32) (hn : 100000 ≤ n) : ∃ r, f_X9_way n 0 a b c M = some r ∧ f_X10_way n 120 a b c M = some r := by
  obtain ⟨N, A, Q, S, w⟩ := h
  obtain ⟨X, Y, L, p, sb, xg, xr⟩ := id w.1
  have h16 := w.2.2.2.1.n16
  have h2 := w.2.2.2.1.n2
  have hN := w.2.2.2.1.n
  have fl0 := w.2.2.2.1.tfl hi
  have q := p.1
  have r := w.2.1
  have hE := w.2.2.2.1.inv.2.2.2.2.1
  rcases out_in (N := N) (by omega) a with ha | ⟨f, hf, rfl⟩
  · exact ⟨-1, by rw [f_X9_way, chk_t xg.1, xg.2.1, bnd_e, sb.f, ndc0 sb ha, obd_s, if_pos rfl], by rw [f_X10_way, rs_f r.1, ndr0 r hN (by omega) h16 ha, obd_s, if_pos rfl]⟩
  · rcases out_in (N := N) (by omega) b with hb | ⟨g, hg, rfl⟩
    · exact ⟨-1, by rw [f_X9_way, chk_t xg.1, xg.2.1, bnd_e, sb.f, ndc sb hf h16, obd_s, if_neg ne10, bnd_e, sb.f, ndc0 sb hb, obd_s, if_pos rfl], by rw [f_X10_way, rs_f r.1, ndr r hN hf h16, obd_s, if_neg ne10, ndr0 r hN (by omega) h16 hb, obd_s, if_pos rfl]⟩
    · have l6 : 16 * f + g < 256 := by omega
      obtain ⟨d5, d6, d7, len, K, fr, us, ow, pw, hK⟩ := p.2.1
      obtain ⟨ds, w1, w2, w3, w4, w5, w6, w7, w8, w9, w10⟩ := pw
      have ex := hK _ l6
      have kl : (K (16 * f + g)).length = (xL S (16 * f + g)).length := by rw [← ex, List.length_map]
      have xl : (xL S (16 * f + g)).length ≤ 8176 := Nat.le_trans (fl_ge (l := 16 * f + g) l6) fl0
      have kd : ∀ y, y ∈ xL S (16 * f + g) → ∃ k, k < 8 ∧ y.1 = nI k := fun y hy => by
        obtain ⟨⟨k, hk, e⟩, _⟩ := (hE _ l6).1 y hy
        exact ⟨k, by omega, e⟩
      have kf : ∀ z, z ∈ fl S → ∃ k, k < 8 ∧ z.2.1 = nI k := fun z hz => by
        obtain ⟨z1, z2⟩ := fl_mem hz
        obtain ⟨⟨k, hk, e⟩, _⟩ := (hE _ z1).1 z.2 z2
        exact ⟨k, by omega, e⟩
      have C : ∀ y, (if c = (-1 : Int32) then some (nI (xL S (16 * f + g)).length) else (obd (f_X5_kindAt n (14 + 1) (nI f) (nI g) c M) fun r25 => some r25)) = y → f_X9_way n 0 (nI f) (nI g) c M = y := fun y e => by
        rw [f_X9_way, chk_t xg.1, xg.2.1, bnd_e, sb.f, ndc sb hf h16, obd_s, if_neg ne10, bnd_e, sb.f, ndc sb hg h16, obd_s, if_neg ne10]
        by_cases z : c = -1
        · rw [if_pos z] at e
          rw [if_pos z, xg.2.2.2.1, bnd_e, cs_f q, cs_h1 q, bnd_e, cs_p q, f_X5_countOn, cs_p q, cs_r4 q, bnd_e, cs_a4 q, c16', cs_i4 q l6, obd_s, nI_clamp (by omega), w5 _ l6, kl]
          exact e
        · rw [if_neg z] at e
          rw [if_neg z, xg.2.2.2.1, bnd_e, cs_f q, cs_h1 q, bnd_e, cs_p q]
          exact e
      have hs := fl_split S l6
      have nA : ∀ z, z ∈ flr (xL S) 0 (16 * f + g) → z.1 ≠ 16 * f + g := fun z hz => by have := flr_in hz; omega
      have nC : ∀ z, z ∈ flr (xL S) (16 * f + g + 1) (255 - (16 * f + g)) → z.1 ≠ 16 * f + g := fun z hz => by have := flr_in hz; omega
      have fl9 := r.2.2.2.2.1.2.1
      have R : (-1 : Int32) ≤ c → f_X10_way n 120 (nI f) (nI g) c M = some (wv c (16 * f + g) 0 (((xL S (16 * f + g)).map fun y => (16 * f + g, y)) ++ flr (xL S) (16 * f + g + 1) (255 - (16 * f + g)))) := fun hc => by
        have e := rwy_v r kf (f := f) (g := g) (by omega) (by omega) c (fl S).length 0 n 0 (by omega) (by omega)
        rw [List.drop_zero, hs, List.append_assoc, wv_no _ _ _ nA] at e
        rw [f_X10_way, rs_f r.1, ndr r hN hf h16, obd_s, if_neg ne10, ndr r hN hg h16, obd_s, if_neg ne10, if_pos hc]
        exact e
      by_cases c1 : c = -1
      · refine ⟨nI (xL S (16 * f + g)).length, C _ (if_pos c1), ?_⟩
        rw [R (by rw [c1]; decide), c1, wv_m1 nC _ _ (by omega), Nat.zero_add]
      · by_cases c0 : c < 0
        · have cn : ¬ (-1 : Int32) ≤ c := fun z => by
            have h1 := Int32.le_iff_toInt_le.mp z
            have h2 := Int32.lt_iff_toInt_lt.mp c0
            rw [show (-1 : Int32).toInt = -1 from rfl] at h1
            rw [show (0 : Int32).toInt = 0 from rfl] at h2
            exact c1 (Int32.toInt_inj.mp (by rw [show (-1 : Int32).toInt = -1 from rfl]; omega))
          refine ⟨-1, C _ ?_, ?_⟩
          · rw [if_neg c1, f_X5_kindAt, c16', bnd_e, if_pos c0, obd_s]
          · rw [f_X10_way, rs_f r.1, ndr r hN hf h16, obd_s, if_neg ne10, ndr r hN hg h16, obd_s, if_neg ne10, if_neg cn]
        · obtain ⟨s, hs', rfl⟩ := nn_e c0
          have hc : (-1 : Int32) ≤ nI s := Int32.le_trans (by decide) (Int32.not_lt.mp c0)
          by_cases c2 : s < (xL S (16 * f + g)).length
          · refine ⟨((xL S (16 * f + g))[s]'c2).1, C _ ?_, ?_⟩
            · have hk2 : s < (K (16 * f + g)).length := by omega
              have kv := ka_v q ds w9.2.1 w9.2.2.2.1 s 0 n (K (16 * f + g)) (mI M (14 + 2) (16 * f + g)) (w3 _ l6) (fun y hy => ⟨(w1 _ l6 y hy).1, (w1 _ l6 y hy).2.2.1, kd y.2 (by rw [← ex]; exact List.mem_map_of_mem hy)⟩) hk2 (by omega) (by omega)
              rw [Nat.zero_add] at kv
              have ev : ((K (16 * f + g))[s]'hk2).2 = (xL S (16 * f + g))[s]'c2 := by
                have e1 : ((K (16 * f + g)).map Prod.snd)[s]? = (xL S (16 * f + g))[s]? := by rw [ex]
                rw [List.getElem?_map, List.getElem?_eq_getElem hk2, List.getElem?_eq_getElem c2] at e1
                exact Option.some.inj e1
              rw [if_neg c1, f_X5_kindAt, c16', bnd_e, if_neg c0, cs_p q, cs_r4 q, bnd_e, cs_a4 q, cs_i4 q l6, mI_c (by omega), w5 _ l6, if_pos (nI_lt hk2 (by omega)), cs_r2 q, bnd_e, cs_a2 q, cs_i2 q l6, bnd_e, mI_c (by omega), show f_X5_kindAt_37 M n (14 + 1) (nI s) (mI M (14 + 2) (16 * f + g)) (0 : Int32) = some ((K (16 * f + g))[s]'hk2).2.1 from kv, obd_s, ev]
            · have e := wv_at (l := 16 * f + g) (zs := flr (xL S) (16 * f + g + 1) (255 - (16 * f + g))) (xL S (16 * f + g)) 0 s c2 (by omega)
              rw [Nat.zero_add] at e
              rw [R hc, e]
          · refine ⟨-1, C _ ?_, ?_⟩
            · rw [if_neg c1, f_X5_kindAt, c16', bnd_e, if_neg c0, cs_p q, cs_r4 q, bnd_e, cs_a4 q, cs_i4 q l6, mI_c (by omega), w5 _ l6, if_neg (nI_nlt (by omega) (by omega)), obd_s]
            · rw [R hc, wv_out nC c1 _ _ (fun j hj z => by
                rw [Nat.zero_add] at z
                exact c2 (by rw [← (nI_eq (by omega) (by omega)).mp z]; exact hj))]
