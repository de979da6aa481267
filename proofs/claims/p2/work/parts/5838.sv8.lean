/-! ===== the survey taken: what its rows tell ===== -/
theorem one_k : ∀ m, m < 64 → ∀ i, i < 64 → qb ((1 : Int64) <<< ((nI m).toInt64 &&& 63)) i = decide (i = m) := by decide +kernel
theorem F1.addv {M : Mem} {o q N : Nat} (f : F1 M o q N) {k : Nat} (hk : k < 65536) : ∃ M', f_X1_add o (nI k) M = some M' ∧ FLq q M M' ∧ ∀ X, fb (mL M' q) X = (fb (mL M q) X || decide (X = k)) := by
  have e63 : nI k &&& (63 : Int32) = nI (k % 64) := by
    rw [show (63 : Int32) = nI 63 from rfl, nx_and]
    congr 1
    exact Nat.and_two_pow_sub_one_eq_mod k 6
  refine ⟨sL M q (k / 64) (mL M q (k / 64) ||| ((1 : Int64) <<< ((nI (k % 64)).toInt64 &&& 63))), ?_, FLq.s q M _ _, fun X => ?_⟩
  · rw [f_X1_add, chk_t f.1.1, f.1.2.1, bnd_e, chk_t f.1.2.2.1, sh6 hk, bnd_e, f.1.2.2.2, chk_t (inB_n (by omega) (by decide)), chk_t (inB_n (by omega) (by decide)), bnd_e, mL_c (by omega), sL_c (by omega), e63]
  · unfold fb
    by_cases c : X / 64 = k / 64
    · rw [c, mL_s, qb_or, one_k _ (Nat.mod_lt _ (by decide)) _ (Nat.mod_lt _ (by decide))]
      congr 1
      by_cases d : X = k
      · rw [decide_eq_true d, decide_eq_true (by rw [d])]
      · rw [decide_eq_false d, decide_eq_false (fun z => d (by omega))]
    · rw [mL_o M q (k / 64) _ (fun z => c z.2), decide_eq_false (fun z => c (by rw [z])), Bool.or_false]
/-! the tree's wholes -/
def Dj (β x : Int32) : Prop := x &&& β = 0
theorem Dj_or {β x y : Int32} : Dj β (x ||| y) ↔ Dj β x ∧ Dj β y := by
  have key : ∀ x : Int32, Dj β x ↔ ∀ i, i < 32 → (bt x i && bt β i) = false := fun x => by
    unfold Dj
    constructor
    · intro h i _
      rw [← b_and, h, b_0]
    · intro h
      exact b_ext fun i hi => by rw [b_and, h i hi, b_0]
  rw [key, key, key]
  constructor
  · intro h
    refine ⟨fun i hi => ?_, fun i hi => ?_⟩
    · have := h i hi
      rw [b_or] at this
      cases a : bt x i <;> cases b : bt β i <;> simp_all
    · have := h i hi
      rw [b_or] at this
      cases a : bt y i <;> cases b : bt β i <;> simp_all
  · rintro ⟨h1, h2⟩ i hi
    have a1 := h1 i hi
    have a2 := h2 i hi
    rw [b_or]
    cases a : bt x i <;> cases b : bt y i <;> cases c : bt β i <;> simp_all
theorem Dj_one {β : Int32} {v : Nat} (hv : v < 32) : Dj β ((1 : Int32) <<< (nI v &&& 31)) ↔ bt β v = false := by
  unfold Dj
  constructor
  · intro h
    have := b_and ((1 : Int32) <<< (nI v &&& 31)) β v
    rw [h, b_0, b_one hv hv, decide_eq_true (Eq.refl v), Bool.true_and] at this
    exact this.symm
  · intro h
    refine b_ext fun i hi => ?_
    rw [b_and, b_one hv hi, b_0]
    by_cases c : i = v
    · rw [c, h, Bool.and_false]
    · rw [decide_eq_false c, Bool.false_and]
def Ex (β : Int32) (M : Mem) (a b : Nat) : Prop := ∃ j, a ≤ j ∧ j < b ∧ Dj β (mI M 11 j)
theorem Ex_s {β : Int32} {M : Mem} {a b : Nat} (h : a < b) : Ex β M a b ↔ Dj β (mI M 11 a) ∨ Ex β M (a + 1) b := by
  constructor
  · rintro ⟨j, h1, h2, h3⟩
    by_cases c : j = a
    · rw [c] at h3; exact Or.inl h3
    · exact Or.inr ⟨j, by omega, h2, h3⟩
  · rintro (h3 | ⟨j, h1, h2, h3⟩)
    · exact ⟨a, Nat.le_refl _, h, h3⟩
    · exact ⟨j, by omega, h2, h3⟩
theorem Ex_0 {β : Int32} {M : Mem} {a : Nat} : ¬ Ex β M a a := fun ⟨j, h1, h2, _⟩ => by omega
theorem Ex_sp {β : Int32} {M : Mem} {a m b : Nat} (h1 : a ≤ m) (h2 : m ≤ b) : Ex β M a b ↔ Ex β M a m ∨ Ex β M m b := by
  constructor
  · rintro ⟨j, k1, k2, k3⟩
    rcases Nat.lt_or_ge j m with c | c
    · exact Or.inl ⟨j, k1, c, k3⟩
    · exact Or.inr ⟨j, c, k2, k3⟩
  · rintro (⟨j, k1, k2, k3⟩ | ⟨j, k1, k2, k3⟩)
    · exact ⟨j, k1, by omega, k3⟩
    · exact ⟨j, by omega, k2, k3⟩
theorem Ex_c {β : Int32} {M M' : Mem} {a b c : Nat} (h : ∀ j, j < c → mI M' 11 j = mI M 11 j) (hb : b ≤ c) : Ex β M' a b ↔ Ex β M a b := by
  constructor
  · rintro ⟨j, k1, k2, k3⟩
    exact ⟨j, k1, k2, by rw [← h j (by omega)]; exact k3⟩
  · rintro ⟨j, k1, k2, k3⟩
    exact ⟨j, k1, k2, by rw [h j (by omega)]; exact k3⟩
/-- x is a set of the N nodes -/
def SN (N : Nat) (x : Int32) : Prop := ∀ i, N ≤ i → i < 32 → bt x i = false
theorem SN.or {N : Nat} {x y : Int32} (h : SN N x) (h' : SN N y) : SN N (x ||| y) := fun i a b => by rw [b_or, h i a b, h' i a b]; rfl
theorem SN.one {N v : Nat} (h16 : N ≤ 16) (hv : v < N) : SN N ((1 : Int32) <<< (nI v &&& 31)) := fun i a b => by
  rw [b_one (by omega) b]; exact decide_eq_false (by omega)
/-- what a listing leaves alone -/
def FvT (M M' : Mem) : Prop := M'.1 = M.1 ∧ (∀ o, o ≠ 5 → o ≠ 11 → ∀ b, mI M' o b = mI M o b) ∧ (∀ b, b ≠ 6 → mI M' 5 b = mI M 5 b) ∧ ∀ o b, mL M' o b = mL M o b
theorem FvT.rf (M : Mem) : FvT M M := ⟨rfl, fun _ _ _ _ => rfl, fun _ _ => rfl, fun _ _ => rfl⟩
theorem FvT.tr {M M' M'' : Mem} (h : FvT M M') (h' : FvT M' M'') : FvT M M'' := ⟨h'.1.trans h.1, fun o n n' b => (h'.2.1 o n n' b).trans (h.2.1 o n n' b), fun b n => (h'.2.2.1 b n).trans (h.2.2.1 b n), fun o b => (h'.2.2.2 o b).trans (h.2.2.2 o b)⟩
theorem FvT.x {M M' : Mem} (h : FvT M M') : Fx M M' := ⟨h.1, fun o n n' b => h.2.1 o n (by omega) b, h.2.2.1⟩
def TWn (N : Nat) (M : Mem) (c : Nat) : Prop := mI M 5 6 = nI c ∧ c ≤ 305 ∧ ∀ j, j < c → SN N (mI M 11 j)
theorem lw1v {N : Nat} {M : Mem} {c : Nat} {x : Int32} (w : W5 M) (h : TWn N M c) (hx : SN N x) (hc : c < 305) : ∃ M', f_X8_listWhole 5 x M = some M' ∧ TWn N M' (c + 1) ∧ FvT M M' ∧ mI M' 11 c = x ∧ ∀ j, j < c → mI M' 11 j = mI M 11 j := by
  obtain ⟨⟨w1, w2, w3, w4, w5, w6, w7, w8, w9⟩, ⟨y1, y2, y3, y4, y5, y6, y7, y8⟩, ⟨z1, z2, z3, z4, z5, z6⟩⟩ := w
  obtain ⟨t1, t2, t3⟩ := h
  have e5 : mI (sI M 11 c x) 5 6 = nI c := by rw [mI_o _ _ _ _ _ (by decide)]; exact t1
  refine ⟨sI (sI M 11 c x) 5 6 (nI (c + 1)), ?_, ⟨mI_s _ _ _ _, by omega, fun j hj => ?_⟩, ⟨rfl, fun o n n' b => by rw [mI_o _ _ _ _ _ n, mI_o _ _ _ _ _ n'], fun b n => by rw [mI_n _ _ _ _ n, mI_o _ _ _ _ _ (by decide)], fun _ _ => rfl⟩, by rw [mI_o _ _ _ _ _ (by decide), mI_s], fun j hj => by rw [mI_o _ _ _ _ _ (by decide), mI_n _ _ _ _ (by omega)]⟩
  · rw [f_X8_listWhole, chk_t w1, t1, if_neg (show ¬ (305 : Int32) ≤ nI c from nI_ge (b := 305) (by omega) (by decide)), y4, bnd_e, chk_t w7, z4, chk_t (inB_n (by omega) (by decide)), sI_c (by omega), bnd_e, e5, nI_1, bnd_e]
  · rw [mI_o _ _ _ _ _ (by decide)]
    by_cases e : j = c
    · rw [e, mI_s]; exact hx
    · rw [mI_n _ _ _ _ e]; exact t3 j (by omega)
theorem lw92v {N v r b : Nat} (h16 : N ≤ 16) (hv : v < N) (hr : r < 16) : ∀ (d j n : Nat) (M : Mem) (c : Nat), j + d = b → W5 M → TWn N M c → mI M 13 r = nI b → b ≤ c → c + d ≤ 305 → d + 1 ≤ n → ∃ M', f_X8_listWholes_92 n 5 (nI v) (nI r) (nI j) M = some M' ∧ TWn N M' (c + d) ∧ FvT M M' ∧ (∀ j, j < c → mI M' 11 j = mI M 11 j) ∧ ∀ β, Ex β M' c (c + d) ↔ bt β v = false ∧ Ex β M j b := by
  intro d
  induction d with
  | zero =>
    intro j n M c hj w h hb hc _ hn
    obtain ⟨n, rfl⟩ : ∃ m, n = m + 1 := ⟨n - 1, by omega⟩
    have h305 := h.2.1
    obtain ⟨⟨w1, w2, w3, w4, w5, w6, w7, w8, w9⟩, ⟨y1, y2, y3, y4, y5, y6, y7, y8⟩, ⟨z1, z2, z3, z4, z5, z6⟩⟩ := w
    obtain rfl : j = b := by omega
    exact ⟨M, by rw [f_X8_listWholes_92, chk_t w1, y6, bnd_e, chk_t w9, z6, chk_t (inB_n hr (by decide)), mI_c (by omega), hb, if_pos (nI_le (by omega) (by omega))], h, FvT.rf M, fun _ _ => rfl, fun β => ⟨fun z => absurd z Ex_0, fun z => absurd z.2 Ex_0⟩⟩
  | succ d ih =>
    intro j n M c hj w h hb hc hcd hn
    obtain ⟨n, rfl⟩ : ∃ m, n = m + 1 := ⟨n - 1, by omega⟩
    have h305 := h.2.1
    obtain ⟨⟨w1, w2, w3, w4, w5, w6, w7, w8, w9⟩, ⟨y1, y2, y3, y4, y5, y6, y7, y8⟩, ⟨z1, z2, z3, z4, z5, z6⟩⟩ := id w
    obtain ⟨M1, e1, t1, f1, x1, k1⟩ := lw1v w h ((SN.one h16 hv).or (h.2.2 j (by omega))) (by omega)
    obtain ⟨M', e', t', f', k', X'⟩ := ih (j + 1) n M1 (c + 1) (by omega) (w.e f1.1) t1 (by rw [f1.2.1 13 (by decide) (by decide)]; exact hb) (by omega) (by omega) (by omega)
    refine ⟨M', by rw [f_X8_listWholes_92, chk_t w1, y6, bnd_e, chk_t w9, z6, chk_t (inB_n hr (by decide)), mI_c (by omega), hb, if_neg (nI_ge (by omega) (by omega)), y4, bnd_e, chk_t w7, z4, chk_t (inB_n (by omega) (by decide)), mI_c (by omega), e1, obd_s, bnd_e, nI_1]; exact e', by rw [show c + (d + 1) = c + 1 + d by omega]; exact t', f1.tr f', fun i hi => by rw [k' i (by omega), k1 i hi], fun β => ?_⟩
    have := X' β
    rw [Ex_c k1 (show b ≤ c by omega)] at this
    rw [Ex_s (show c < c + (d + 1) by omega), Ex_s (show j < b by omega), k' c (by omega), x1, Dj_or, Dj_one (by omega), show c + (d + 1) = c + 1 + d by omega, this]
    constructor
    · rintro (⟨a, b⟩ | ⟨a, b⟩)
      · exact ⟨a, Or.inl b⟩
      · exact ⟨a, Or.inr b⟩
    · rintro ⟨a, b | b⟩
      · exact Or.inl ⟨a, b⟩
      · exact Or.inr ⟨a, b⟩
theorem lw42v {N v l r i br : Nat} (hr : r < 16) {K : Nat → Int32 → Int32 → Int32 → Int32 → Mem → Option Mem} : ∀ (d j n : Nat) (M : Mem) (c : Nat), j + d = br → W5 M → TWn N M c → mI M 13 r = nI br → br ≤ c → i < c → c + d ≤ 305 → d + 1 ≤ n → ∃ M', f_X8_listWholes_42 K n 5 (nI v) (nI l) (nI r) (nI i) (nI j) M = K 5 (nI v) (nI l) (nI r) (nI (i + 1)) M' ∧ TWn N M' (c + d) ∧ FvT M M' ∧ (∀ j, j < c → mI M' 11 j = mI M 11 j) ∧ ∀ β, Ex β M' c (c + d) ↔ Dj β (mI M 11 i) ∧ Ex β M j br := by
  intro d
  induction d with
  | zero =>
    intro j n M c hj w h rb hc hi _ hn
    obtain ⟨n, rfl⟩ : ∃ m, n = m + 1 := ⟨n - 1, by omega⟩
    have h305 := h.2.1
    obtain ⟨⟨w1, w2, w3, w4, w5, w6, w7, w8, w9⟩, ⟨y1, y2, y3, y4, y5, y6, y7, y8⟩, ⟨z1, z2, z3, z4, z5, z6⟩⟩ := id w
    obtain rfl : j = br := by omega
    exact ⟨M, by rw [f_X8_listWholes_42, chk_t w1, y6, bnd_e, chk_t w9, z6, chk_t (inB_n hr (by decide)), mI_c (by omega), rb, if_pos (nI_le (by omega) (by omega)), bnd_e, nI_1], h, FvT.rf M, fun _ _ => rfl, fun β => ⟨fun z => absurd z Ex_0, fun z => absurd z.2 Ex_0⟩⟩
  | succ d ih =>
    intro j n M c hj w h rb hc hi hcd hn
    obtain ⟨n, rfl⟩ : ∃ m, n = m + 1 := ⟨n - 1, by omega⟩
    have h305 := h.2.1
    obtain ⟨⟨w1, w2, w3, w4, w5, w6, w7, w8, w9⟩, ⟨y1, y2, y3, y4, y5, y6, y7, y8⟩, ⟨z1, z2, z3, z4, z5, z6⟩⟩ := id w
    obtain ⟨M1, e1, t1, f1, x1, k1⟩ := lw1v w h ((h.2.2 i (by omega)).or (h.2.2 j (by omega))) (by omega)
    obtain ⟨M', e', t', f', k', X'⟩ := ih (j + 1) n M1 (c + 1) (by omega) (w.e f1.1) t1 (by rw [f1.2.1 13 (by decide) (by decide)]; exact rb) (by omega) (by omega) (by omega) (by omega)
    refine ⟨M', by rw [f_X8_listWholes_42, chk_t w1, y6, bnd_e, chk_t w9, z6, chk_t (inB_n hr (by decide)), mI_c (by omega), rb, if_neg (nI_ge (by omega) (by omega)), y4, bnd_e, chk_t w7, z4, chk_t (inB_n (by omega) (by decide)), bnd_e, chk_t w7, z4, chk_t (inB_n (by omega) (by decide)), mI_c (by omega), mI_c (by omega), e1, obd_s, bnd_e, nI_1]; exact e', by rw [show c + (d + 1) = c + 1 + d by omega]; exact t', f1.tr f', fun i hi => by rw [k' i (by omega), k1 i hi], fun β => ?_⟩
    have := X' β
    rw [Ex_c k1 (show br ≤ c by omega), k1 i hi] at this
    rw [Ex_s (show c < c + (d + 1) by omega), Ex_s (show j < br by omega), k' c (by omega), x1, Dj_or, show c + (d + 1) = c + 1 + d by omega, this]
    constructor
    · rintro (⟨a, b⟩ | ⟨a, b⟩)
      · exact ⟨a, Or.inl b⟩
      · exact ⟨a, Or.inr b⟩
    · rintro ⟨a, b | b⟩
      · exact Or.inl ⟨a, b⟩
      · exact Or.inr ⟨a, b⟩
theorem lw8v {N v l r ar br bl : Nat} (h16 : N ≤ 16) (hv : v < N) (hl : l < 16) (hr : r < 16) (hab : ar ≤ br) : ∀ (d i n : Nat) (M : Mem) (c : Nat), i + d = bl → W5 M → TWn N M c → mI M 12 r = nI ar → mI M 13 r = nI br → mI M 13 l = nI bl → bl ≤ c → br ≤ c → c + (d * (1 + (br - ar)) + (br - ar)) ≤ 305 → d + 400 ≤ n → ∃ M', f_X8_listWholes_8 n 5 (nI v) (nI l) (nI r) (nI i) M = some M' ∧ TWn N M' (c + (d * (1 + (br - ar)) + (br - ar))) ∧ FvT M M' ∧ (∀ j, j < c → mI M' 11 j = mI M 11 j) ∧ ∀ β, Ex β M' c (c + (d * (1 + (br - ar)) + (br - ar))) ↔ (bt β v = false ∧ Ex β M i bl) ∨ (Ex β M i bl ∧ Ex β M ar br) ∨ (bt β v = false ∧ Ex β M ar br) := by
  intro d
  induction d with
  | zero =>
    intro i n M c hi w h ra rb lb hbl hbr hcc hn
    obtain ⟨n, rfl⟩ : ∃ m, n = m + 1 := ⟨n - 1, by omega⟩
    have h305 := h.2.1
    obtain ⟨⟨w1, w2, w3, w4, w5, w6, w7, w8, w9⟩, ⟨y1, y2, y3, y4, y5, y6, y7, y8⟩, ⟨z1, z2, z3, z4, z5, z6⟩⟩ := id w
    rw [Nat.zero_mul, Nat.zero_add] at hcc ⊢
    obtain ⟨M', e', t', f', k', X'⟩ := lw92v (v := v) (r := r) (b := br) h16 hv hr (br - ar) ar n M c (by omega) w h rb (by omega) hcc (by omega)
    obtain rfl : i = bl := by omega
    refine ⟨M', by rw [f_X8_listWholes_8, chk_t w1, y6, bnd_e, chk_t w9, z6, chk_t (inB_n hl (by decide)), mI_c (by omega), lb, if_pos (nI_le (by omega) (by omega)), y5, bnd_e, chk_t w8, z5, chk_t (inB_n hr (by decide)), mI_c (by omega), ra, bnd_e]; exact e', t', f', k', fun β => ?_⟩
    rw [X' β]
    constructor
    · exact fun z => Or.inr (Or.inr z)
    · rintro (⟨_, z⟩ | ⟨z, _⟩ | z)
      · exact absurd z Ex_0
      · exact absurd z Ex_0
      · exact z
  | succ d ih =>
    intro i n M c hi w h ra rb lb hbl hbr hcc hn
    obtain ⟨n, rfl⟩ : ∃ m, n = m + 1 := ⟨n - 1, by omega⟩
    have h305 := h.2.1
    obtain ⟨⟨w1, w2, w3, w4, w5, w6, w7, w8, w9⟩, ⟨y1, y2, y3, y4, y5, y6, y7, y8⟩, ⟨z1, z2, z3, z4, z5, z6⟩⟩ := id w
    have em : (d + 1) * (1 + (br - ar)) = d * (1 + (br - ar)) + (1 + (br - ar)) := Nat.succ_mul _ _
    rw [em] at hcc ⊢
    generalize hP : d * (1 + (br - ar)) = P at *
    obtain ⟨M1, e1, t1, f1, x1, k1⟩ := lw1v w h ((SN.one h16 hv).or (h.2.2 i (by omega))) (by omega)
    have g : ∀ o, o = 12 ∨ o = 13 → ∀ b, mI M1 o b = mI M o b := fun o ho b => f1.2.1 o (by omega) (by omega) b
    have W1 := w.e f1.1
    obtain ⟨M2, e2, t2, f2, k2, X2⟩ := lw42v (v := v) (l := l) (r := r) (i := i) (br := br) hr (K := f_X8_listWholes_8 n) (br - ar) ar n M1 (c + 1) (by omega) W1 t1 (by rw [g 13 (by omega)]; exact rb) (by omega) (by omega) (by omega) (by omega)
    have g2 : ∀ o, o = 12 ∨ o = 13 → ∀ b, mI M2 o b = mI M o b := fun o ho b => by rw [f2.2.1 o (by omega) (by omega) b, g o ho b]
    obtain ⟨M3, e3, t3, f3, k3, X3⟩ := ih (i + 1) n M2 (c + 1 + (br - ar)) (by omega) (W1.e f2.1) t2 (by rw [g2 12 (by omega)]; exact ra) (by rw [g2 13 (by omega)]; exact rb) (by rw [g2 13 (by omega)]; exact lb) (by omega) (by omega) (by omega) (by omega)
    have k12 : ∀ j, j < c → mI M2 11 j = mI M 11 j := fun j hj => by rw [k2 j (by omega), k1 j hj]
    refine ⟨M3, ?_, ?_, f1.tr (f2.tr f3), fun j hj => by rw [k3 j (by omega), k12 j hj], fun β => ?_⟩
    · rw [f_X8_listWholes_8, chk_t w1, y6, bnd_e, chk_t w9, z6, chk_t (inB_n hl (by decide)), mI_c (by omega), lb, if_neg (nI_ge (by omega) (by omega)), y4, bnd_e, chk_t w7, z4, chk_t (inB_n (by omega) (by decide)), mI_c (by omega), e1, obd_s, chk_t W1.1.1, W1.2.1.2.2.2.2.1, bnd_e, chk_t W1.1.2.2.2.2.2.2.2.1, W1.2.2.2.2.2.2.1, chk_t (inB_n hr (by decide)), mI_c (by omega), g 12 (by omega), ra, bnd_e]
      exact e2.trans e3
    · rw [show c + (P + (1 + (br - ar)) + (br - ar)) = c + 1 + (br - ar) + (P + (br - ar)) by omega]; exact t3
    · have q2 := X2 β
      have q3 := X3 β
      rw [Ex_c k1 (show br ≤ c by omega), k1 i (by omega)] at q2
      rw [Ex_c k12 (show bl ≤ c by omega), Ex_c k12 (show br ≤ c by omega)] at q3
      have s2 : Ex β M3 (c + 1) (c + 1 + (br - ar)) ↔ Ex β M2 (c + 1) (c + 1 + (br - ar)) := Ex_c k3 (Nat.le_refl _)
      rw [show c + (P + (1 + (br - ar)) + (br - ar)) = c + 1 + (br - ar) + (P + (br - ar)) by omega, Ex_s (show c < c + 1 + (br - ar) + (P + (br - ar)) by omega), Ex_sp (show c + 1 ≤ c + 1 + (br - ar) by omega) (show c + 1 + (br - ar) ≤ c + 1 + (br - ar) + (P + (br - ar)) by omega), s2, q2, q3, k3 c (by omega), k2 c (by omega), x1, Dj_or, Dj_one (by omega), Ex_s (show i < bl by omega)]
      generalize (bt β v = false) = A
      generalize Dj β (mI M 11 i) = B
      generalize Ex β M (i + 1) bl = C
      generalize Ex β M ar br = D
      constructor
      · rintro (⟨a, b⟩ | ⟨b, d⟩ | ⟨a, c⟩ | ⟨c, d⟩ | ⟨a, d⟩)
        · exact Or.inl ⟨a, Or.inl b⟩
        · exact Or.inr (Or.inl ⟨Or.inl b, d⟩)
        · exact Or.inl ⟨a, Or.inr c⟩
        · exact Or.inr (Or.inl ⟨Or.inr c, d⟩)
        · exact Or.inr (Or.inr ⟨a, d⟩)
      · rintro (⟨a, b | c⟩ | ⟨b | c, d⟩ | ⟨a, d⟩)
        · exact Or.inl ⟨a, b⟩
        · exact Or.inr (Or.inr (Or.inl ⟨a, c⟩))
        · exact Or.inr (Or.inl ⟨b, d⟩)
        · exact Or.inr (Or.inr (Or.inr (Or.inl ⟨c, d⟩)))
        · exact Or.inr (Or.inr (Or.inr (Or.inr ⟨a, d⟩)))
/-- how many wholes of a node are listed, of N nodes -/
def cnW (N : Nat) : Nat → Nat → Nat
  | 0, _ => 0
  | f + 1, u => if N ≤ 2 * u + 2 then 1 else cnW N f (2 * u + 1) * (1 + cnW N f (2 * u + 2)) + cnW N f (2 * u + 2)
def ttD (N : Nat) : Nat → Nat
  | 0 => 0
  | d + 1 => ttD N d + cnW N 5 (N - 1 - d)
theorem tt_k : ([3, 7, 15] : List Nat).all (fun N => (List.range N).all fun v => (decide (ttD N (N - v) = ttD N (N - (v + 1)) + (if N ≤ 2 * v + 2 then 1 else (ttD N (N - (2 * v + 1)) - ttD N (N - (2 * v + 2))) * (1 + (ttD N (N - (2 * v + 2)) - ttD N (N - (2 * v + 3)))) + (ttD N (N - (2 * v + 2)) - ttD N (N - (2 * v + 3))))) && (decide (ttD N (N - v) ≤ 305) && decide (ttD N (N - (v + 1)) ≤ ttD N (N - v)))) && (List.range N).all fun u => decide (u ≤ v) || decide (ttD N (N - u) ≤ ttD N (N - (v + 1)))) = true := by decide +kernel
theorem tt_e {N v : Nat} (h : N = 3 ∨ N = 7 ∨ N = 15) (hv : v < N) : (ttD N (N - v) = ttD N (N - (v + 1)) + (if N ≤ 2 * v + 2 then 1 else (ttD N (N - (2 * v + 1)) - ttD N (N - (2 * v + 2))) * (1 + (ttD N (N - (2 * v + 2)) - ttD N (N - (2 * v + 3)))) + (ttD N (N - (2 * v + 2)) - ttD N (N - (2 * v + 3))))) ∧ (ttD N (N - v) ≤ 305 ∧ ttD N (N - (v + 1)) ≤ ttD N (N - v)) ∧ ∀ u, v < u → u < N → ttD N (N - u) ≤ ttD N (N - (v + 1)) := by
  have m : N ∈ ([3, 7, 15] : List Nat) := by
    rcases h with rfl | rfl | rfl <;> simp
  have h := List.all_eq_true.mp (List.all_eq_true.mp tt_k N m) v (List.mem_range.mpr hv)
  simp only [Bool.and_eq_true] at h
  refine ⟨of_decide_eq_true h.1.1, ⟨of_decide_eq_true h.1.2.1, of_decide_eq_true h.1.2.2⟩, fun u h1 h2 => ?_⟩
  have z := List.all_eq_true.mp h.2 u (List.mem_range.mpr h2)
  rw [decide_eq_false (show ¬ u ≤ v by omega), Bool.false_or] at z
  exact of_decide_eq_true z
theorem wh_nz {N : Nat} {β : Int32} {u : Nat} (hu : u < N) (h16 : N ≤ 16) (hN : N % 2 = 1) : ¬ wh N β u = 0 ↔ if N ≤ 2 * u + 2 then bt β u = false else (bt β u = false ∧ ¬ wh N β (2 * u + 1) = 0) ∨ (¬ wh N β (2 * u + 1) = 0 ∧ ¬ wh N β (2 * u + 2) = 0) ∨ (bt β u = false ∧ ¬ wh N β (2 * u + 2) = 0) := by
  have e := wh_e β hu hN
  by_cases c : 2 * u + 1 < N
  · rw [if_neg (show ¬ N ≤ 2 * u + 2 by omega)]
    simp only [c, if_true] at e
    have orz : ∀ x y : Int32, ¬ x = 0 → ¬ x ||| y = 0 := fun x y hx z => hx (b_ext fun i _ => by
      have := b_or x y i
      rw [z, b_0] at this
      rw [b_0]
      exact (Bool.or_eq_false_iff.mp this.symm).1)
    by_cases b : bt β u = true
    · have nb : ¬ bt β u = false := by rw [b]; decide
      rw [if_pos b] at e
      by_cases l : wh N β (2 * u + 1) = 0
      · rw [if_pos l] at e
        rw [e]
        constructor
        · intro z; exact absurd rfl z
        · rintro (⟨z, _⟩ | ⟨z, _⟩ | ⟨z, _⟩)
          · exact absurd z nb
          · exact absurd l z
          · exact absurd z nb
      · rw [if_neg l] at e
        by_cases r : wh N β (2 * u + 2) = 0
        · rw [if_pos r] at e
          rw [e]
          constructor
          · intro z; exact absurd rfl z
          · rintro (⟨z, _⟩ | ⟨_, z⟩ | ⟨z, _⟩)
            · exact absurd z nb
            · exact absurd r z
            · exact absurd z nb
        · rw [if_neg r] at e
          rw [e]
          exact ⟨fun _ => Or.inr (Or.inl ⟨l, r⟩), fun _ => orz _ _ l⟩
    · have nb : bt β u = false := by cases z : bt β u <;> first | rfl | exact absurd z b
      rw [if_neg b] at e
      by_cases l : wh N β (2 * u + 1) = 0
      · rw [if_pos l] at e
        by_cases r : wh N β (2 * u + 2) = 0
        · rw [if_pos r] at e
          rw [e]
          constructor
          · intro z; exact absurd rfl z
          · rintro (⟨_, z⟩ | ⟨z, _⟩ | ⟨_, z⟩)
            · exact absurd l z
            · exact absurd l z
            · exact absurd r z
        · rw [if_neg r] at e
          rw [e]
          exact ⟨fun _ => Or.inr (Or.inr ⟨nb, r⟩), fun _ => bit_nz _ (by omega)⟩
      · rw [if_neg l] at e
        rw [e]
        exact ⟨fun _ => Or.inl ⟨nb, l⟩, fun _ => bit_nz _ (by omega)⟩
  · rw [if_pos (show N ≤ 2 * u + 2 by omega)]
    simp only [c, if_false] at e
    by_cases b : bt β u = true
    · rw [if_pos b] at e
      rw [e, b]
      exact ⟨fun z => absurd rfl z, fun z => by cases z⟩
    · have nb : bt β u = false := by cases z : bt β u <;> first | rfl | exact absurd z b
      rw [if_neg b] at e
      rw [e]
      refine ⟨fun _ => nb, fun _ z => ?_⟩
      have := bit_nz 0 (show u < 32 by omega)
      rw [Int32.zero_or] at this
      exact this z
