/-! ===== a letter as one number; the reference's letters ===== -/
theorem bt_nI (m : Nat) {i : Nat} (hi : i < 32) : bt (nI m) i = m.testBit i := by
  show (BitVec.ofNat 32 m).getLsbD i = _
  rw [BitVec.getLsbD_ofNat]
  simp [hi]
theorem bt_lt {m k i : Nat} (h : m < 2 ^ k) (hk : k ≤ i) (hi : i < 32) : bt (nI m) i = false := by
  rw [bt_nI m hi]
  exact Nat.testBit_lt_two_pow (Nat.lt_of_lt_of_le h (Nat.pow_le_pow_right (by decide) hk))
theorem b_shl11 (x : Int32) {i : Nat} (hi : i < 32) : bt (x <<< ((11 : Int32) &&& 31)) i = (decide (11 ≤ i) && bt x (i - 11)) := b_shl 11 (by omega) x hi
theorem b_shl08 (x : Int32) {i : Nat} (hi : i < 32) : bt (x <<< ((8 : Int32) &&& 31)) i = (decide (8 ≤ i) && bt x (i - 8)) := b_shl 8 (by omega) x hi
theorem b_shl03 (x : Int32) {i : Nat} (hi : i < 32) : bt (x <<< ((3 : Int32) &&& 31)) i = (decide (3 ≤ i) && bt x (i - 3)) := b_shl 3 (by omega) x hi
theorem b_sshr11 (x : Int32) {i : Nat} (hi : i < 32) : bt (x >>> ((11 : Int32) &&& 31)) i = if 11 + i < 32 then bt x (11 + i) else bt x 31 := b_sshr 11 (by omega) x hi
theorem b_sshr08 (x : Int32) {i : Nat} (hi : i < 32) : bt (x >>> ((8 : Int32) &&& 31)) i = if 8 + i < 32 then bt x (8 + i) else bt x 31 := b_sshr 8 (by omega) x hi
theorem b_sshr03 (x : Int32) {i : Nat} (hi : i < 32) : bt (x >>> ((3 : Int32) &&& 31)) i = if 3 + i < 32 then bt x (3 + i) else bt x 31 := b_sshr 3 (by omega) x hi
theorem b_c255 : ∀ i, i < 32 → bt 255 i = decide (i < 8) := by decide +kernel
theorem b_c7 : ∀ i, i < 32 → bt 7 i = decide (i < 3) := by decide +kernel
theorem enc_b (q : Nat × Ltr) {i : Nat} (hi : i < 32) : bt (enc q) i = (((decide (11 ≤ i) && bt q.2.2.1 (i - 11)) || (decide (8 ≤ i) && bt q.2.1 (i - 8))) || bt (nI q.1) i) := by
  rw [enc, b_or, b_or, b_shl11 _ hi, b_shl08 _ hi]
theorem enc_pair {q : Nat × Ltr} (h : q.1 < 256) : enc q &&& (255 : Int32) = nI q.1 := by
  apply b_ext
  intro i hi
  rw [b_and, enc_b q hi, b_c255 i hi]
  by_cases h8 : i < 8
  · simp [h8, show ¬ 11 ≤ i by omega, show ¬ 8 ≤ i by omega]
  · rw [bt_lt (k := 8) h (by omega) hi]
    simp [h8]
theorem enc_kind {q : Nat × Ltr} (h : q.1 < 256) {k : Nat} (hk : k < 8) (e : q.2.1 = nI k) : (enc q >>> ((8 : Int32) &&& 31)) &&& (7 : Int32) = nI k := by
  apply b_ext
  intro i hi
  rw [b_and, b_sshr08 _ hi, b_c7 i hi]
  by_cases h3 : i < 3
  · rw [if_pos (by omega), enc_b q (by omega), bt_lt (k := 8) h (by omega) (by omega), e]
    simp [h3, show ¬ 11 ≤ 8 + i by omega]
  · rw [bt_lt (k := 3) hk (by omega) hi]
    simp [h3]
theorem enc_stamp {q : Nat × Ltr} (h : q.1 < 256) {k : Nat} (hk : k < 8) (e : q.2.1 = nI k) {s : Nat} (hs : s < 1048576) (es : q.2.2.1 = nI s) : enc q >>> ((11 : Int32) &&& 31) = nI s := by
  apply b_ext
  intro i hi
  rw [b_sshr11 _ hi]
  by_cases h3 : i < 21
  · rw [if_pos (by omega), enc_b q (by omega), bt_lt (k := 8) h (by omega) (by omega), e, es, bt_lt (k := 3) hk (by omega) (by omega)]
    simp
  · rw [if_neg (by omega), enc_b q (by omega), bt_lt (k := 8) h (by omega) (by omega), e, es, bt_lt (k := 3) hk (by omega) (by omega), bt_lt (k := 20) hs (by omega) (by omega), bt_lt (k := 20) hs (by omega) hi]
    simp
theorem fl_mem {S : St} {q : Nat × Ltr} (h : q ∈ fl S) : q.1 < 256 ∧ q.2 ∈ xL S q.1 := by
  unfold fl at h
  simp only [List.mem_flatMap, List.mem_range, List.mem_map] at h
  obtain ⟨l, hl, x, hx, rfl⟩ := h
  exact ⟨hl, hx⟩
theorem fm_cg {α β : Type} {f g : α → List β} : ∀ (l : List α), (∀ x, x ∈ l → f x = g x) → l.flatMap f = l.flatMap g := by
  intro l
  induction l with
  | nil => intro _; rfl
  | cons a l ih =>
    intro h
    rw [List.flatMap_cons, List.flatMap_cons, h a (by simp), ih (fun x hx => h x (by simp [hx]))]
theorem nil_app {α : Type} (l : List α) : l = [] ∨ ∃ p z, l = p ++ [z] := by
  rcases List.eq_nil_or_concat l with h | ⟨p, z, h⟩
  · exact Or.inl h
  · exact Or.inr ⟨p, z, by rw [h, List.concat_eq_append]⟩
def flr (L : Nat → List Ltr) (a n : Nat) : List (Nat × Ltr) := (List.range' a n).flatMap fun l => (L l).map fun x => (l, x)
theorem flr_split (L : Nat → List Ltr) (l : Nat) (h : l < 256) : flr L 0 256 = flr L 0 l ++ ((L l).map fun x => (l, x)) ++ flr L (l + 1) (255 - l) := by
  have e : List.range' 0 256 = List.range' 0 l ++ (List.range' l 1 ++ List.range' (l + 1) (255 - l)) := by
    have e1 : List.range' l 1 ++ List.range' (l + 1) (255 - l) = List.range' l (1 + (255 - l)) := by
      have := List.range'_append (s := l) (m := 1) (n := 255 - l) (step := 1)
      simpa using this
    have e2 : List.range' 0 l ++ List.range' l (1 + (255 - l)) = List.range' 0 (l + (1 + (255 - l))) := by
      have := List.range'_append (s := 0) (m := l) (n := 1 + (255 - l)) (step := 1)
      simpa using this
    rw [e1, e2]
    congr 1
    omega
  unfold flr
  rw [e, List.flatMap_append, List.flatMap_append]
  simp [List.append_assoc]
theorem fl_r (S : St) : fl S = flr (xL S) 0 256 := by
  unfold fl flr
  rw [List.range_eq_range']
theorem flr_up {L : Nat → List Ltr} {l a n : Nat} {x : List Ltr} (h : l < a ∨ a + n ≤ l) : flr (up1 L l x) a n = flr L a n := by
  unfold flr
  refine fm_cg _ fun m hm => ?_
  have hm2 := List.mem_range'_1.mp hm
  rw [up1_o _ _ _ (by omega)]
theorem flr_in {L : Nat → List Ltr} {a n : Nat} {q : Nat × Ltr} (h : q ∈ flr L a n) : a ≤ q.1 ∧ q.1 < a + n ∧ q.2 ∈ L q.1 := by
  unfold flr at h
  simp only [List.mem_flatMap, List.mem_map] at h
  obtain ⟨l, hl, x, hx, rfl⟩ := h
  have := List.mem_range'_1.mp hl
  exact ⟨this.1, this.2, hx⟩
theorem fl_split (S : St) {l : Nat} (h : l < 256) : fl S = flr (xL S) 0 l ++ ((xL S l).map fun x => (l, x)) ++ flr (xL S) (l + 1) (255 - l) := by
  rw [fl_r, flr_split _ l h]
theorem fl_uL (S : St) {l : Nat} (h : l < 256) (x : List Ltr) : fl (uL S l x) = flr (xL S) 0 l ++ (x.map fun x => (l, x)) ++ flr (xL S) (l + 1) (255 - l) := by
  rw [fl_split _ h]
  have e : xL (uL S l x) = up1 (xL S) l x := rfl
  rw [e, flr_up (Or.inr (by omega)), flr_up (Or.inl (by omega)), up1_s]
/-- the cells of letters alone have changed -/
def FrL (M M' : Mem) : Prop := M'.1 = M.1 ∧ (∀ o, o ≠ 121 → o ≠ 123 → ∀ k, mI M' o k = mI M o k) ∧ (∀ o k, mL M' o k = mL M o k) ∧ (∀ b, b < 851 ∨ 9851 ≤ b → mI M' 121 b = mI M 121 b)
theorem FrL.rf (M : Mem) : FrL M M := ⟨rfl, fun _ _ _ _ => rfl, fun _ _ => rfl, fun _ _ => rfl⟩
theorem FrL.tr {M M' M'' : Mem} (h : FrL M M') (h' : FrL M' M'') : FrL M M'' :=
  ⟨h'.1.trans h.1, fun o q1 q2 k => (h'.2.1 o q1 q2 k).trans (h.2.1 o q1 q2 k), fun o k => (h'.2.2.1 o k).trans (h.2.2.1 o k), fun b q => (h'.2.2.2 b q).trans (h.2.2.2 b q)⟩
theorem FrL.toFr {M M' : Mem} (h : FrL M M') : Fr PA M M' :=
  ⟨h.1, fun o q k => h.2.1 o (fun e => q (e ▸ ⟨by decide, by decide⟩)) (fun e => q (e ▸ ⟨by decide, by decide⟩)) k, fun o k => h.2.2.1 o k⟩
theorem Seg.nil (M : Mem) (tw : Bool) (p : Nat) : Seg M tw p [] := fun i q h => by simp at h
theorem Seg.ap {M : Mem} {tw : Bool} {p : Nat} {xs ys : List (Nat × Ltr)} : Seg M tw p (xs ++ ys) ↔ Seg M tw p xs ∧ Seg M tw (p + xs.length) ys := by
  constructor
  · intro h
    refine ⟨fun i q hi => h i q ?_, fun i q hi => ?_⟩
    · rw [List.getElem?_append_left (List.getElem?_eq_some_iff.mp hi).1, hi]
    · have := h (xs.length + i) q (by rw [List.getElem?_append_right (by omega), Nat.add_sub_cancel_left, hi])
      rw [show p + xs.length + i = p + (xs.length + i) by omega]
      exact this
  · intro h i q hi
    by_cases hlt : i < xs.length
    · rw [List.getElem?_append_left hlt] at hi
      exact h.1 i q hi
    · rw [List.getElem?_append_right (by omega)] at hi
      have := h.2 (i - xs.length) q hi
      rw [show p + xs.length + (i - xs.length) = p + i by omega] at this
      exact this
theorem Seg.one {M : Mem} {tw : Bool} {p : Nat} {x : Nat × Ltr} : Seg M tw p [x] ↔ (mI M 121 (851 + p) = enc x ∧ (tw = true → mI M 123 p = x.2.2.2)) := by
  constructor
  · intro h
    exact h 0 x rfl
  · intro h i q hi
    cases i with
    | zero => simp at hi; subst hi; exact h
    | succ i => simp at hi
theorem Seg.cg {M M' : Mem} {tw : Bool} {p : Nat} {xs : List (Nat × Ltr)} (h : Seg M tw p xs) (e : ∀ i, p ≤ i → i < p + xs.length → mI M' 121 (851 + i) = mI M 121 (851 + i) ∧ mI M' 123 i = mI M 123 i) : Seg M' tw p xs := by
  intro i q hi
  have hl := (List.getElem?_eq_some_iff.mp hi).1
  have := e (p + i) (by omega) (by omega)
  rw [this.1, this.2]
  exact h i q hi
theorem rs_f {α : Type} {M : Mem} (h : RS M) (x : Option α) : chk (isO M 10 120) x = x := chk_t (h.io (by decide) (by decide) (by decide))
theorem rs_fa {α : Type} {M : Mem} (h : RS M) (x : Option α) : chk (isO M 100 121) x = x := chk_t (h.io (by decide) (by decide) (by decide))
theorem rs_fw {α : Type} {M : Mem} (h : RS M) (x : Option α) : chk (isO M 100 123) x = x := chk_t (h.io (by decide) (by decide) (by decide))
theorem rs_0 {M : Mem} (h : RS M) : mR M 120 0 = 121 := h.r (by decide)
theorem rs_2 {M : Mem} (h : RS M) : mR M 120 2 = 123 := h.r (by decide)
theorem rs_in {M : Mem} (h : RS M) {k : Nat} (hk : k < 10465) : inB (nI k) (mLn M 121) := by
  rw [h.ln (c := 10465) (by decide) (by decide) (by decide)]; exact inB_n hk (by decide)
theorem rs_inw {M : Mem} (h : RS M) {k : Nat} (hk : k < 9000) : inB (nI k) (mLn M 123) := by
  rw [h.ln (c := 9000) (by decide) (by decide) (by decide)]; exact inB_n hk (by decide)
theorem rs_c {α : Type} {M : Mem} (h : RS M) {k : Nat} (hk : k < 10465) (x : Option α) : chk (inB (nI k) (mLn M 121)) x = x := chk_t (rs_in h hk)
theorem rs_cw {α : Type} {M : Mem} (h : RS M) {k : Nat} (hk : k < 9000) (x : Option α) : chk (inB (nI k) (mLn M 123)) x = x := chk_t (rs_inw h hk)
theorem c851 (k : Nat) : (851 : Int32) + nI k = nI (851 + k) := by rw [show (851 : Int32) = nI 851 from rfl, nI_add]
theorem mI_c {M : Mem} {o k : Nat} (h : k < 10465) : mI M o (nI k).toNatClampNeg = mI M o k := by rw [nI_clamp (by omega)]
theorem sI_c {M : Mem} {o k : Nat} {x : Int32} (h : k < 10465) : sI M o (nI k).toNatClampNeg x = sI M o k x := by rw [nI_clamp (by omega)]
theorem cl_n {k : Nat} (h : k < 10465) : (nI k).toNatClampNeg = k := nI_clamp (by omega)
set_option maxHeartbeats 1000000 in
theorem send_l (tw : Bool) (pre : List (Nat × Ltr)) (l : Nat) (hl : l < 256) (kd s : Int32) (hpre : ∀ x, x ∈ pre → x.1 ≤ l) : ∀ (d : Nat) (q rest : List (Nat × Ltr)) (M : Mem) (n : Nat), q.length = d → (∀ x, x ∈ q → l < x.1 ∧ x.1 < 256) → pre.length + d + rest.length < 9000 → RS M → Seg M tw 0 (pre ++ q) → Seg M tw (pre.length + d + 1) rest → d + 1 ≤ n → ∃ n' M1, f_X10_send_18 n 120 kd s (nI l) (nI (pre.length + d)) M = f_X10_send_90 n' 120 kd s (nI l) (nI pre.length) M1 ∧ Seg M1 tw 0 pre ∧ Seg M1 tw (pre.length + 1) (q ++ rest) ∧ FrL M M1 := by
  intro d
  induction d with
  | zero =>
    intro q rest M n hq hlt hlen hS h1 h2 hn
    have hq0 : q = [] := List.eq_nil_of_length_eq_zero hq
    subst hq0
    obtain ⟨n, rfl⟩ : ∃ m, n = m + 1 := ⟨n - 1, by omega⟩
    refine ⟨n, M, ?_, by simpa using h1, by simpa using h2, FrL.rf M⟩
    rw [f_X10_send_18, Nat.add_zero]
    rcases nil_app pre with rfl | ⟨pre', z, rfl⟩
    · rw [if_pos (show nI ([] : List (Nat × Ltr)).length ≤ 0 from nI_le (Nat.le_refl 0) (by decide))]
    · have hz := hpre z (by simp)
      have hg := h1 pre'.length z (by simp)
      have hk : (pre' ++ [z]).length = pre'.length + 1 := by simp
      have hv : mI M 121 (nI (851 + pre'.length)).toNatClampNeg = enc z := by
        rw [cl_n (by rw [hk] at hlen; omega), show 851 + pre'.length = 851 + (0 + pre'.length) by omega]; exact hg.1
      rw [hk] at hlen ⊢
      rw [if_neg (by rw [show (0 : Int32) = nI 0 from rfl]; exact nI_ge (by omega) (by omega)), rs_f hS, rs_0 hS, bnd_e, rs_fa hS, c851, show nI (851 + (pre'.length + 1)) - (1 : Int32) = nI (851 + pre'.length) by rw [show 851 + (pre'.length + 1) = (851 + pre'.length) + 1 by omega, nI_pred], rs_c hS (by omega), f_X10_pairOf, hv, enc_pair (by omega), obd_s, if_pos (nI_le hz (by omega))]
  | succ d ih =>
    intro q rest M n hq hlt hlen hS h1 h2 hn
    obtain ⟨n, rfl⟩ : ∃ m, n = m + 1 := ⟨n - 1, by omega⟩
    rcases nil_app q with rfl | ⟨q', z, rfl⟩
    · simp at hq
    have hq' : q'.length = d := by simpa using hq
    have hz := hlt z (by simp)
    have hg := h1 (pre.length + d) z (by rw [List.getElem?_append_right (by omega)]; simp [hq'])
    rw [Nat.zero_add] at hg
    have hv : mI M 121 (nI (851 + (pre.length + d))).toNatClampNeg = enc z := by rw [cl_n (by omega)]; exact hg.1
    have e1 : nI (851 + (pre.length + (d + 1))) - (1 : Int32) = nI (851 + (pre.length + d)) := by rw [show 851 + (pre.length + (d + 1)) = (851 + (pre.length + d)) + 1 by omega, nI_pred]
    have e2 : nI (pre.length + (d + 1)) - (1 : Int32) = nI (pre.length + d) := by rw [show pre.length + (d + 1) = (pre.length + d) + 1 by omega, nI_pred]
    have e3 : nI (pre.length + (d + 1)) + (-1 : Int32) = nI (pre.length + d) := by rw [show pre.length + (d + 1) = (pre.length + d) + 1 by omega, pk_m1]
    generalize hM2 : sI (sI M 121 (851 + (pre.length + (d + 1))) (enc z)) 123 (pre.length + (d + 1)) (mI M 123 (pre.length + d)) = M2
    have hSa : RS (sI M 121 (851 + (pre.length + (d + 1))) (enc z)) := hS.e rfl
    have hS2 : RS M2 := by subst hM2; exact hS.e rfl
    have m1 : ∀ b, b ≠ 851 + (pre.length + (d + 1)) → mI M2 121 b = mI M 121 b := by
      intro b hb; subst hM2; simp [mI_sI, hb]
    have m2 : ∀ b, b ≠ pre.length + (d + 1) → mI M2 123 b = mI M 123 b := by
      intro b hb; subst hM2; simp [mI_sI, hb]
    have m3 : mI M2 121 (851 + (pre.length + (d + 1))) = enc z := by subst hM2; simp [mI_sI]
    have m4 : mI M2 123 (pre.length + (d + 1)) = mI M 123 (pre.length + d) := by subst hM2; simp [mI_sI]
    have s1 : Seg M2 tw 0 (pre ++ q') := by
      have : Seg M tw 0 ((pre ++ q') ++ [z]) := by simpa using h1
      refine (Seg.ap.mp this).1.cg fun i _ hi => ?_
      simp only [List.length_append, hq'] at hi
      exact ⟨m1 _ (by omega), m2 _ (by omega)⟩
    have s2 : Seg M2 tw (pre.length + d + 1) (z :: rest) := by
      rw [show z :: rest = [z] ++ rest from rfl, Seg.ap]
      refine ⟨Seg.one.mpr ⟨?_, fun ht => ?_⟩, ?_⟩
      · rw [show 851 + (pre.length + d + 1) = 851 + (pre.length + (d + 1)) by omega]; exact m3
      · rw [show pre.length + d + 1 = pre.length + (d + 1) by omega, m4]; exact hg.2 ht
      · have h3 : Seg M tw (pre.length + (d + 1) + 1) rest := h2
        rw [show pre.length + d + 1 + [z].length = pre.length + (d + 1) + 1 by simp; omega]
        exact h3.cg fun i h5 _ => ⟨m1 _ (by omega), m2 _ (by omega)⟩
    obtain ⟨n', M1, i1, i2, i3, i4⟩ := ih q' (z :: rest) M2 n hq' (fun x hx => hlt x (by simp [hx])) (by simp; omega) hS2 s1 s2 (by omega)
    refine ⟨n', M1, ?_, i2, by simpa using i3, FrL.tr ⟨?_, ?_, ?_, ?_⟩ i4⟩
    · rw [← i1, f_X10_send_18, if_neg (by rw [show (0 : Int32) = nI 0 from rfl]; exact nI_ge (by omega) (by omega)), rs_f hS, rs_0 hS, bnd_e, rs_fa hS, c851, e1, rs_c hS (by omega), f_X10_pairOf, hv, enc_pair hz.2, obd_s, if_neg (nI_ge hz.1 (by omega)), bnd_e, rs_fa hS, bnd_e, rs_fa hS, rs_c hS (by omega), rs_c hS (by omega), bnd_e, cl_n (by omega), hv, rs_2 hSa, bnd_e, rs_fw hSa, bnd_e, rs_fw hSa, e2, rs_cw hSa (by omega), rs_cw hSa (by omega), bnd_e, e3, bnd_e, cl_n (by omega), cl_n (by omega), mI_o _ _ _ _ _ (by decide), hM2]
    · subst hM2; rfl
    · intro o q1 q2 k; subst hM2; simp [mI_sI, q1, q2]
    · intro o k; subst hM2; rfl
    · intro b hb; exact m1 b (by omega)
