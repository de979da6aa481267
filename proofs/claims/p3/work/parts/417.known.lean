/-! ===== how long a kept state is; the class keeps one, and looks whether it is known ===== -/
theorem flr_len_s (L : Nat → List Ltr) (a n : Nat) : (flr L a (n + 1)).length = (L a).length + (flr L (a + 1) n).length := by
  unfold flr
  rw [List.range'_succ, List.flatMap_cons, List.length_append, List.length_map]
theorem flr_len_ap (L : Nat → List Ltr) : ∀ (m a n : Nat), (flr L a (m + n)).length = (flr L a m).length + (flr L (a + m) n).length := by
  intro m
  induction m with
  | zero => intro a n; rw [Nat.zero_add, Nat.add_zero]; show _ = 0 + _; omega
  | succ m ih =>
    intro a n
    rw [show m + 1 + n = (m + n) + 1 by omega, flr_len_s, ih, flr_len_s, show a + 1 + m = a + (m + 1) by omega]
    omega
theorem serG_len (S : St) (f : Nat) (hf : f < 16) : ∀ (d j : Nat), j + d ≤ 16 → (serG S f (List.range' j d)).length ≤ 2 * (flr (xL S) (16 * f + j) d).length := by
  intro d
  induction d with
  | zero => intro j _; exact Nat.zero_le _
  | succ d ih =>
    intro j hj
    have eG : serG S f (List.range' j (d + 1)) = (if bt (bms S f) j = true then serL S (16 * f + j) else []) ++ serG S f (List.range' (j + 1) d) := by
      unfold serG
      rw [List.range'_succ, List.filter_cons]
      by_cases z : bt (bms S f) j = true
      · rw [if_pos z, if_pos z, List.flatMap_cons]
      · rw [if_neg z, if_neg z]; rfl
    have := ih (j + 1) (by omega)
    rw [show 16 * f + (j + 1) = 16 * f + j + 1 by omega] at this
    rw [eG, List.length_append, flr_len_s]
    by_cases z : bt (bms S f) j = true
    · rw [if_pos z]
      rw [bms_b (by omega)] at z
      have hne := (of_decide_eq_true z).2
      have hp : 0 < (xL S (16 * f + j)).length := List.length_pos_iff.mpr hne
      unfold serL
      rw [List.length_cons, List.length_map]
      omega
    · rw [if_neg z, List.length_nil]
      omega
theorem ser_len {N : Nat} {S : St} (h16 : N ≤ 16) : (ser N S).length ≤ 2 + 27 * N + 2 * (fl S).length := by
  have hF : ∀ (d f : Nat), f + d ≤ 16 → ((List.range' f d).flatMap (serF N S)).length ≤ d + 2 * (flr (xL S) (16 * f) (16 * d)).length := by
    intro d
    induction d with
    | zero => intro f _; exact Nat.zero_le _
    | succ d ih =>
      intro f hf
      have a := ih (f + 1) (by omega)
      have b := serG_len S f (by omega) N 0 (by omega)
      have c := flr_len_ap (xL S) N (16 * f) (16 - N)
      have e := flr_len_ap (xL S) 16 (16 * f) (16 * d)
      rw [show N + (16 - N) = 16 by omega] at c
      rw [Nat.add_zero] at b
      rw [show 16 * (f + 1) = 16 * f + 16 by omega] at a
      rw [List.range'_succ, List.flatMap_cons, List.length_append, show 16 * (d + 1) = 16 + 16 * d by omega, e]
      have z : (serF N S f).length = 1 + (serG S f (List.range' 0 N)).length := by unfold serF; rw [List.length_cons]; omega
      omega
  have hP : ∀ (d v : Nat), ((List.range' v d).flatMap (serP S)).length ≤ 26 * d := by
    intro d
    induction d with
    | zero => intro v; exact Nat.zero_le _
    | succ d ih =>
      intro v
      have a := ih (v + 1)
      rw [List.range'_succ, List.flatMap_cons, List.length_append]
      have z : (serP S v).length ≤ 26 := by
        unfold serP
        rw [List.length_append, List.length_map]
        have : (ms (wms S v)).length ≤ 16 := by
          have := List.length_filter_le (fun i => bt (wms S v) i) (List.range 16)
          rw [List.length_range] at this
          exact this
        show 10 + _ ≤ 26
        omega
      omega
  have a := hF N 0 (by omega)
  have b := hP N 0
  have c := flr_len_ap (xL S) (16 * N) 0 (256 - 16 * N)
  rw [show 16 * N + (256 - 16 * N) = 256 by omega] at c
  have d : (flr (xL S) 0 256).length = (fl S).length := by
    unfold flr fl
    rw [List.range_eq_range']
  unfold ser
  rw [List.length_cons, List.length_cons, List.length_append]
  rw [Nat.mul_zero] at a
  omega
def offs (N : Nat) (l : List (St × Nat)) (i : Nat) : Nat := ((l.take i).map fun p => (ser N p.1).length).sum
theorem offs_s {N : Nat} {l : List (St × Nat)} {i : Nat} {p : St × Nat} (h : l[i]? = some p) : offs N l (i + 1) = offs N l i + (ser N p.1).length := by
  unfold offs
  rw [take_s h, List.map_append, List.sum_append]
  rfl
theorem offs_le {N : Nat} {l : List (St × Nat)} (hl : ∀ p, p ∈ l → (ser N p.1).length ≤ 18434) : ∀ i, offs N l i ≤ 18434 * i := by
  intro i
  induction i with
  | zero => unfold offs; rw [List.take_zero]; exact Nat.zero_le _
  | succ i ih =>
    cases e : l[i]? with
    | none =>
      have : l.take (i + 1) = l.take i := by
        have := List.getElem?_eq_none_iff.mp e
        rw [List.take_of_length_le (by omega), List.take_of_length_le this]
      unfold offs at ih ⊢
      rw [this]; omega
    | some p =>
      rw [offs_s e]
      have := hl p (List.mem_of_getElem? e)
      omega
/-- the states met, as the class holds them -/
def XQ (N : Nat) (M : Mem) (dC : Nat) (l : List (St × Nat)) : Prop := (∀ i, i ≤ l.length → mI M 115 i = nI (offs N l i)) ∧ ∀ (i : Nat) (p : St × Nat), l[i]? = some p → (∀ j x, (ser N p.1)[j]? = some x → mI M dC (offs N l i + j) = x) ∧ mI M 116 i = nI p.2
section
variable {X0 Y0 N : Nat} {t : Int32} {Q : Nat → Int32} {S : St} {pb pt : List Row4}
theorem sx1 {α : Type} {M : Mem} (x : SX M) (y : Option α) : chk (isO M 100 115) y = y := chk_t x.2.2.1.1
theorem sx1i {α : Type} {M : Mem} (x : SX M) {k : Nat} (hk : k < 41) (y : Option α) : chk (inB (nI k) (mLn M 115)) y = y := by
  refine chk_t ?_
  rw [x.2.2.2.1.1]; exact inB_n hk (by decide)
theorem SV.rs {M : Mem} {e dC : Nat} (h : SV X0 Y0 t N Q pb pt S M e dC) {e' : Nat} (he : e' ≤ e) : SV X0 Y0 t N Q pb pt S (sI M 114 6 (nI e')) e' dC := by
  obtain ⟨L, sx, c, p⟩ := h
  have f : FrC M (sI M 114 6 (nI e')) dC dC := ⟨Nat.le_refl _, fun _ _ => rfl, fun _ _ _ _ => rfl, fun o _ n _ b => mI_o _ _ _ _ _ n, fun b n => mI_n _ _ _ _ n, fun _ _ _ => rfl, Or.inl rfl⟩
  obtain ⟨c1, c2, c3, c4, c5, c6, c7⟩ := c
  refine ⟨L, sx.fr f, ⟨c1, c2, c3, c4, mI_s _ _ _ _, by omega, c7⟩, p.frC f ⟨c4, c7.2.2⟩ p.2.2.2.1⟩
set_option maxHeartbeats 1000000 in
theorem SV.save {M : Mem} {e dC n m e0 : Nat} (h : SV X0 Y0 t N Q pb pt S M e dC) (hX : X0 ≤ 100000) (hY : Y0 ≤ 1000000) (so : Sok N S) (hm : mI M 114 10 = nI m) (hm40 : m ≤ 40) (hs : mI M 115 m = nI e0) (he0 : e0 ≤ e) (he : e0 + (ser N S).length + 60 < 760000) (hn : 10000 ≤ n) : ∃ M' dC', f_X6_save n 114 M = some M' ∧ SV X0 Y0 t N Q pb pt S M' (e0 + (ser N S).length) dC' ∧ (∀ j, j < e0 → mI M' dC' j = mI M dC j) ∧ (∀ i x, (ser N S)[i]? = some x → mI M' dC' (e0 + i) = x) ∧ FrC M M' dC dC' := by
  have h0 := h.rs he0
  have f0 : FrC M (sI M 114 6 (nI e0)) dC dC := ⟨Nat.le_refl _, fun _ _ => rfl, fun _ _ _ _ => rfl, fun o _ n _ b => mI_o _ _ _ _ _ n, fun b n => mI_n _ _ _ _ n, fun _ _ _ => rfl, Or.inl rfl⟩
  have hsx : SX M := by obtain ⟨L, sx, _⟩ := h; exact sx
  have d114 : dC ≠ 114 := by obtain ⟨L, sx, c, p⟩ := h; have := c.2.2.2.1; omega
  generalize hMa : sI M 114 6 (nI e0) = Ma at h0 f0
  have el : (ser N S).length = 1 + (1 + (((List.range' 0 N).flatMap (serP S)).length + ((List.range' 0 N).flatMap (serF N S)).length)) := by
    unfold ser
    rw [List.length_cons, List.length_cons, List.length_append]; omega
  rw [el] at he
  have mk : ∀ {M : Mem} {e dC : Nat} (_ : SV X0 Y0 t N Q pb pt S M e dC), SX M ∧ CS M 63 ∧ mI M 63 7 = mkS S 2 ∧ mI M 63 8 = mkS S 1 := fun h => by
    obtain ⟨L, sx, c, p⟩ := h
    exact ⟨sx, p.1, b_ext (fun i hi => by rw [p.2.2.1.2.1 i hi, mkS_b hi]), b_ext (fun i hi => by rw [p.2.2.1.2.2.1 i hi, mkS_b hi])⟩
  obtain ⟨xa, qa, a7, _⟩ := mk h0
  obtain ⟨M1, d1, e1, W1⟩ := h0.push hX hY (by omega) (mkS S 2)
  obtain ⟨xb, qb, _, b8⟩ := mk W1.1
  obtain ⟨M2, d2, e2, W2⟩ := W1.1.push hX hY (by show e0 + 1 < 760000; omega) (mkS S 1)
  obtain ⟨M3, d3, e3, W3⟩ := sv_37 hX hY so N 0 n M2 (e0 + 1 + 1) d2 (by omega) W2.1 (by omega) (by have := so.1; omega)
  have W : WS X0 Y0 t N Q pb pt S Ma e0 dC M3 d3 (ser N S) := (W1.tr W2).tr W3
  refine ⟨M3, d3, ?_, W.1, fun j hj => ?_, W.2.2.1, f0.tr W.2.2.2⟩
  · rw [f_X6_save, chk_t hsx.1, hsx.2.1.2.1, bnd_e, sx1 hsx, hm, sx1i hsx (by omega), mI_c (by omega), hs, hMa, bnd_e, xa.2.1.1, bnd_e, cs_f qa, a7, e1, obd_s, chk_t xb.1, xb.2.1.1, bnd_e, cs_f qb, b8, e2, obd_s]
    exact e3
  · rw [W.2.1 j hj, ← hMa, mI_o _ _ _ _ _ d114]
theorem li_l {M : Mem} {dC L a b sz i m : Nat} (sx : SX M) (c1 : mR M 114 5 = dC) (c2 : isO M 100 dC) (c3 : mLn M dC = L) (hi : i < 41) (hm : m < 41) (ha : mI M 115 i = nI a) (hb : mI M 115 m = nI b) (h10 : mI M 114 10 = nI m) (la : a + sz ≤ L) (lb : b + sz ≤ L) (hL : L < 2 ^ 31) : ∀ (d k n : Nat), k + d = sz → d + 1 ≤ n → ∃ r : Bool, f_X6_isLike_38 M n 114 (nI i) (nI sz) (nI k) = some (if r then 1 else 0) ∧ (r = true ↔ ∀ j, k ≤ j → j < sz → mI M dC (a + j) = mI M dC (b + j)) := by
  intro d
  induction d with
  | zero =>
    intro k n hk hn
    obtain ⟨n, rfl⟩ : ∃ m, n = m + 1 := ⟨n - 1, by omega⟩
    refine ⟨true, ?_, ⟨fun _ j a b => by omega, fun _ => rfl⟩⟩
    rw [f_X6_isLike_38, if_pos (nI_le (by omega) (by omega)), if_pos rfl]
  | succ d ih =>
    intro k n hk hn
    obtain ⟨n, rfl⟩ : ∃ m, n = m + 1 := ⟨n - 1, by omega⟩
    obtain ⟨r, e, hr⟩ := ih (k + 1) n (by omega) (by omega)
    have hd : ∀ y : Option Int32, (if mI M dC (a + k) = mI M dC (b + k) then f_X6_isLike_38 M n 114 (nI i) (nI sz) (nI (k + 1)) else some 0) = y → f_X6_isLike_38 M (n + 1) 114 (nI i) (nI sz) (nI k) = y := by
      intro y hy
      rw [f_X6_isLike_38, if_neg (nI_ge (by omega) (by omega)), chk_t sx.1, c1, bnd_e, chk_t c2, sx.2.1.2.1, bnd_e, sx1 sx, sx1i sx hi, mI_c (by omega), ha, nI_add, c3, chk_t (inB_n (by omega) hL), bnd_e, chk_t c2, bnd_e, sx1 sx, h10, sx1i sx hm, mI_c (by omega), hb, nI_add, c3, chk_t (inB_n (by omega) hL), mI_d (by omega), mI_d (by omega), nI_1, bnd_e]
      exact hy
    by_cases c : mI M dC (a + k) = mI M dC (b + k)
    · refine ⟨r, hd _ (by rw [if_pos c, e]), ?_⟩
      rw [hr]
      constructor
      · intro h j z z'
        by_cases y : j = k
        · rw [y]; exact c
        · exact h j (by omega) z'
      · intro h j z z'
        exact h j (by omega) z'
    · exact ⟨false, hd _ (by rw [if_neg c]; rfl), ⟨fun z => absurd z (by decide), fun h => absurd (h k (Nat.le_refl _) (by omega)) c⟩⟩
set_option maxHeartbeats 1000000 in
theorem like1 {M : Mem} {dC L n : Nat} {l : List (St × Nat)} (sx : SX M) (c : CL M dC L (offs N l l.length + (ser N S).length)) (hq : XQ N M dC l) (h10 : mI M 114 10 = nI l.length) (h40 : l.length ≤ 40) (hser : ∀ i x, (ser N S)[i]? = some x → mI M dC (offs N l l.length + i) = x) (ho : ∀ i, offs N l i ≤ 18434 * i) (hsl : (ser N S).length ≤ 18434) {i : Nat} {p : St × Nat} (hp : l[i]? = some p) (hps : (ser N p.1).length ≤ 18434) (hn : 19000 ≤ n) : ∃ r : Bool, f_X6_isLike n 114 (nI i) M = some (if r then 1 else 0) ∧ (r = true ↔ ser N p.1 = ser N S) := by
  obtain ⟨c1, c2, c3, c4, c5, c6, c7, c8, _⟩ := c
  have hi : i < l.length := by
    rcases Nat.lt_or_ge i l.length with z | z
    · exact z
    · rw [List.getElem?_eq_none z] at hp; cases hp
  have o1 := offs_s (N := N) hp
  have ha := hq.1 i (by omega)
  have ha1 := hq.1 (i + 1) (by omega)
  have hb := hq.1 l.length (Nat.le_refl _)
  have hoi := ho i
  have hol := ho l.length
  have mono : ∀ d j, j + d = l.length → offs N l j ≤ offs N l l.length := by
    intro d
    induction d with
    | zero => intro j hj; rw [show j = l.length by omega]; exact Nat.le_refl _
    | succ d ih =>
      intro j hj
      have := ih (j + 1) (by omega)
      have := offs_s (N := N) (List.getElem?_eq_getElem (show j < l.length by omega))
      omega
  have m1 := mono (l.length - (i + 1)) (i + 1) (by omega)
  have b1 : 18434 * i ≤ 18434 * 40 := Nat.mul_le_mul_left _ (by omega)
  have b2 : 18434 * l.length ≤ 18434 * 40 := Nat.mul_le_mul_left _ h40
  have head : ∀ y : Option Int32, (if nI (ser N p.1).length = nI (ser N S).length then f_X6_isLike_38 M n 114 (nI i) (nI (ser N S).length) 0 else some 0) = y → f_X6_isLike n 114 (nI i) M = y := by
    intro y hy
    rw [f_X6_isLike, chk_t sx.1, sx.2.1.2.1, bnd_e, sx1 sx, h10, sx1i sx (by omega), c5, mI_c (by omega), hb, nI_sb (by omega), show offs N l l.length + (ser N S).length - offs N l l.length = (ser N S).length by omega, bnd_e, bnd_e, sx1 sx, nI_1, sx1i sx (by omega), bnd_e, sx1 sx, sx1i sx (by omega), mI_c (by omega), mI_c (by omega), ha1, ha, o1, nI_sb (by omega), show offs N l i + (ser N p.1).length - offs N l i = (ser N p.1).length by omega]
    exact hy
  by_cases e : (ser N p.1).length = (ser N S).length
  · obtain ⟨r, er, hr⟩ := li_l (M := M) (a := offs N l i) (b := offs N l l.length) (sz := (ser N S).length) (i := i) (m := l.length) sx c1 c2 c3 (by omega) (by omega) ha hb h10 (by omega) c6 (by omega) (ser N S).length 0 n (by omega) (by omega)
    refine ⟨r, head _ (by rw [if_pos (by rw [e])]; exact er), ?_⟩
    rw [hr]
    constructor
    · intro h
      apply List.ext_getElem?
      intro j
      by_cases z : j < (ser N S).length
      · obtain ⟨x, hx⟩ : ∃ x, (ser N S)[j]? = some x := ⟨_, List.getElem?_eq_getElem z⟩
        obtain ⟨y, hy⟩ : ∃ y, (ser N p.1)[j]? = some y := ⟨_, List.getElem?_eq_getElem (by omega)⟩
        rw [hx, hy, ← hser j x hx, ← (hq.2 i p hp).1 j y hy]
        rw [h j (Nat.zero_le _) z]
      · rw [List.getElem?_eq_none (by omega), List.getElem?_eq_none (by omega)]
    · intro h j _ hj
      obtain ⟨x, hx⟩ : ∃ x, (ser N S)[j]? = some x := ⟨_, List.getElem?_eq_getElem hj⟩
      rw [hser j x hx]
      exact (hq.2 i p hp).1 j x (by rw [h]; exact hx)
  · refine ⟨false, head _ (by rw [if_neg (nI_ne (by omega) (by omega) e)]; rfl), ⟨fun z => absurd z (by decide), fun h => absurd (congrArg List.length h) e⟩⟩
theorem known_l {M : Mem} {dC L : Nat} {l : List (St × Nat)} (sx : SX M) (c : CL M dC L (offs N l l.length + (ser N S).length)) (hq : XQ N M dC l) (h10 : mI M 114 10 = nI l.length) (h40 : l.length ≤ 40) (hser : ∀ i x, (ser N S)[i]? = some x → mI M dC (offs N l l.length + i) = x) (ho : ∀ i, offs N l i ≤ 18434 * i) (hsl : (ser N S).length ≤ 18434) (hps : ∀ p, p ∈ l → (ser N p.1).length ≤ 18434) : ∀ (d i n : Nat), i + d = l.length → d + 19100 ≤ n → ∃ r : Bool, f_X6_isKnown_2 M n 114 (nI i) = some (if r then 1 else 0) ∧ (r = true ↔ ∃ j p, i ≤ j ∧ l[j]? = some p ∧ ser N p.1 = ser N S) := by
  intro d
  induction d with
  | zero =>
    intro i n hi hn
    obtain ⟨n, rfl⟩ : ∃ m, n = m + 1 := ⟨n - 1, by omega⟩
    refine ⟨false, ?_, ⟨fun z => absurd z (by decide), fun ⟨j, p, h1, h2, _⟩ => ?_⟩⟩
    · rw [f_X6_isKnown_2, chk_t sx.1, h10, if_pos (nI_le (by omega) (by omega))]
      rfl
    · rw [List.getElem?_eq_none (by omega)] at h2; cases h2
  | succ d ih =>
    intro i n hi hn
    obtain ⟨n, rfl⟩ : ∃ m, n = m + 1 := ⟨n - 1, by omega⟩
    obtain ⟨p, hp⟩ : ∃ p, l[i]? = some p := ⟨_, List.getElem?_eq_getElem (by omega)⟩
    obtain ⟨r, er, hr⟩ := like1 sx c hq h10 h40 hser ho hsl hp (hps p (List.mem_of_getElem? hp)) (n := n) (by omega)
    have step : f_X6_isKnown_2 M (n + 1) 114 (nI i) = if (if r then (1 : Int32) else 0) = 0 then f_X6_isKnown_2 M n 114 (nI (i + 1)) else some 1 := by
      rw [f_X6_isKnown_2, chk_t sx.1, h10, if_neg (nI_ge (by omega) (by omega)), er, obd_s, nI_1, bnd_e]
    cases r with
    | true =>
      rw [if_neg (by decide)] at step
      exact ⟨true, step, ⟨fun _ => ⟨i, p, Nat.le_refl _, hp, hr.mp rfl⟩, fun _ => rfl⟩⟩
    | false =>
      rw [if_pos (by decide)] at step
      obtain ⟨r', er', hr'⟩ := ih (i + 1) n (by omega) (by omega)
      refine ⟨r', step.trans er', ?_⟩
      rw [hr']
      constructor
      · rintro ⟨j, p', h1, h2, h3⟩
        exact ⟨j, p', by omega, h2, h3⟩
      · rintro ⟨j, p', h1, h2, h3⟩
        by_cases z : j = i
        · rw [z, hp] at h2
          have : p = p' := Option.some.inj h2
          rw [← this] at h3
          exact absurd (hr.mpr h3) (by decide)
        · exact ⟨j, p', by omega, h2, h3⟩
end
