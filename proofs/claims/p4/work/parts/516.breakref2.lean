/-! ===== a node breaks: the reference forgets it, goes on without it ===== -/
theorem uW_uW (S : St) (a : Nat) (u w : List Wtr) : uW (uW S a u) a w = uW S a w := by
  unfold uW
  refine Prod.ext rfl (Prod.ext ?_ rfl)
  funext b
  show up1 (up1 S.2.1 a u) a w b = up1 S.2.1 a w b
  unfold up1
  by_cases e : b = a
  · rw [if_pos e, if_pos e]
  · rw [if_neg e, if_neg e, if_neg e]
theorem fgr_l {tw : Bool} {t : Int32} {pb pt : List Row4} {a x : Nat} (ha : a < 16) (hx : x < 16) : ∀ (d : Nat) (pre suf : List Wtr) (M : Mem) (S : St) (n : Nat), pre.length = d → RV M tw t S pb pt → xW S a = pre ++ suf → (∀ w, w ∈ pre → w.1 < 16) → d + 60 ≤ n → ∃ M', f_X10_forgotten_25 n 120 (nI a) (nI x) (nI pre.length - 1) M = some M' ∧ RV M' tw t (uW S a ((pre.filter fun w => !decide (w.1 = x)) ++ suf)) pb pt ∧ Fr PA M M' := by
  intro d
  induction d with
  | zero =>
    intro pre suf M S n hd h hw hp hn
    have : pre = [] := List.length_eq_zero_iff.mp hd
    subst this
    obtain ⟨n, rfl⟩ : ∃ m, n = m + 1 := ⟨n - 1, by omega⟩
    refine ⟨M, by rw [f_X10_forgotten_25, if_pos (by decide)], ?_, Fr.rf _ _⟩
    show RV M tw t (uW S a ([] ++ suf)) pb pt
    rw [← hw, uW_id]
    exact h
  | succ d ih =>
    intro pre suf M S n hd h hw hp hn
    obtain ⟨n, rfl⟩ : ∃ m, n = m + 1 := ⟨n - 1, by omega⟩
    rcases nil_app pre with z | ⟨p, z, e⟩
    · rw [z] at hd; cases hd
    subst e
    have hpl : p.length = d := by rw [List.length_append, List.length_singleton] at hd; omega
    have hz := hp z (by simp)
    have hp' : ∀ q, q ∈ p → q.1 < 16 := fun q hq => hp q (by simp [hq])
    have hwl := h.wl ha
    have l20 : p.length < 20 := by rw [hw, List.length_append, List.length_append, List.length_singleton] at hwl; omega
    have e0 : nI (p.length + 1) - (1 : Int32) = nI p.length := nI_pred p.length
    have em : nI p.length + (-1 : Int32) = nI p.length - 1 := (Int32.sub_eq_add_neg _ _).symm
    have wn := h.wn (a := a) (i := p.length) ha l20
    have vz : mI M 121 (150 + 44 * a + 2 * p.length) = nI z.1 := ((h.2.2.2.1 a ha).2.2.1 p.length z (by rw [hw]; simp)).1
    rw [vz] at wn
    have fe : (p ++ [z]).filter (fun w : Wtr => !decide (w.1 = x)) = p.filter (fun w => !decide (w.1 = x)) ++ [z].filter (fun w => !decide (w.1 = x)) := List.filter_append _ _
    rw [List.length_append, List.length_singleton, e0, f_X10_forgotten_25, if_neg (nI_pos (by omega)), rs_f h.1, wn, obd_s, fe]
    by_cases c : z.1 = x
    · obtain ⟨M1, e1, h1, f1⟩ := h.go (n := n) ha (p := p) (q := suf) (x := z) (by rw [hw]; simp) (by omega)
      obtain ⟨M', e', h', f'⟩ := ih p suf M1 (uW S a (p ++ suf)) n hpl h1 (by rw [xW_uW, if_pos rfl]) hp' (by omega)
      rw [uW_uW] at h'
      have kz : (!decide (z.1 = x)) = false := by rw [decide_eq_true c]; rfl
      refine ⟨M', ?_, by rw [show [z].filter (fun w : Wtr => !decide (w.1 = x)) = [] by simp [c], List.append_nil]; exact h', Fr.tr (f1.toFr) f'⟩
      rw [if_pos (by rw [c]), e1, obd_s, bnd_e, em]
      exact e'
    · obtain ⟨M', e', h', f'⟩ := ih p (z :: suf) M S n hpl h (by rw [hw]; simp) hp' (by omega)
      refine ⟨M', ?_, by rw [show [z].filter (fun w : Wtr => !decide (w.1 = x)) = [z] by simp [c]]; simpa using h', f'⟩
      rw [if_neg (nI_ne (by omega) (by omega) c), bnd_e, em]
      exact e'
theorem RV.tfgt {M : Mem} {tw : Bool} {t : Int32} {S : St} {pb pt : List Row4} (h : RV M tw t S pb pt) {a x : Nat} (ha : a < 16) (hx : x < 16) (hlen : (fl S).length < 9000) (hw : ∀ w, w ∈ xW S a → w.1 < 16) {n : Nat} (hn : 9100 ≤ n) : ∃ M', f_X10_forgotten n 120 (nI a) (nI x) M = some M' ∧ RV M' tw t (fgt t a x S) pb pt ∧ Fr PA M M' := by
  unfold fgt
  rw [f_X10_forgotten, rs_f h.1, h.of0 ha, obd_s]
  by_cases c : xR S 8 a = nI x
  · rw [if_pos c, if_pos c]
    obtain ⟨M', e, h', f⟩ := h.tgF ha hlen hw hn
    exact ⟨M', by rw [e, obd_s], h', f⟩
  · rw [if_neg c, if_neg c, h.of3 ha, obd_s, bnd_e]
    have hwl := h.wl ha
    obtain ⟨M', e, h', f⟩ := fgr_l ha hx (xW S a).length (xW S a) [] M S n rfl h (by simp) hw (by omega)
    rw [List.append_nil] at h'
    exact ⟨M', e, h', f⟩
theorem RV.tgdw {M : Mem} {tw : Bool} {t : Int32} {S : St} {pb pt : List Row4} (h : RV M tw t S pb pt) {N : Nat} (hN : xR S 20 0 = nI N) (h16 : N ≤ 16) (ht : xR S 20 1 = 1 → N % 2 = 1) {x w : Nat} (hw : w < N) (hx : x < N) (hl : (fl S).length + 2 * N ≤ 9000) {n : Nat} (hn : 9300 ≤ n) : ∃ M', f_X10_goWithout n 120 (nI w) (nI x) M = some M' ∧ RV M' tw t (gdw t N x w S) pb pt ∧ Fr PA M M' := by
  have w6 : w < 16 := by omega
  rw [f_X10_goWithout, rs_f h.1, h.get3 w6, obd_s, f_without, obd_s, h.get0 w6, obd_s]
  unfold gdw
  by_cases c : xR S 0 w = 2
  · rw [if_pos c, if_pos c, h.let3 w6, obd_s]
    exact ⟨_, rfl, h.st (vk_n (k := 3) (by decide) w6) _, Fr.tad⟩
  · rw [if_neg c, if_neg c, h.get2 w6, obd_s, h.bro hN h16 (by omega), obd_s]
    obtain ⟨M1, e1, h1, f1⟩ := h.tsA (n := n) hN h16 (k := 5) (f := w) (by decide) w6 (bof (xR S 3 w) x &&& (bkm N S ^^^ (-1 : Int32))) (xR S 2 w) (by omega) (by omega)
    have len1 : (fl (sA t N 5 w (bof (xR S 3 w) x &&& (bkm N S ^^^ (-1 : Int32))) (xR S 2 w) S)).length ≤ (fl S).length + N := by
      have := sAl_len t (k := 5) w6 (bof (xR S 3 w) x &&& (bkm N S ^^^ (-1 : Int32))) (xR S 2 w) (List.range N) S (fun v hv => by have := List.mem_range.mp hv; omega)
      rw [List.length_range] at this
      exact this
    have r20 : ∀ i, xR (sA t N 5 w (bof (xR S 3 w) x &&& (bkm N S ^^^ (-1 : Int32))) (xR S 2 w) S) 20 i = xR S 20 i := fun i => sA_R (by decide)
    generalize hS1 : sA t N 5 w (bof (xR S 3 w) x &&& (bkm N S ^^^ (-1 : Int32))) (xR S 2 w) S = S1 at h1 len1 r20
    obtain ⟨M2, e2, h2, f2⟩ := h1.trst (n := n) w6 (by omega)
    have q20 : ∀ i, xR (rst w S1) 20 i = xR S 20 i := fun i => by rw [rst_R, if_neg (by omega), r20]
    obtain ⟨M3, e3, h3, f3⟩ := h2.can (n := n) (by rw [q20]; exact hN) h16 (by rw [q20]; exact ht) w6 (by omega)
    rw [show (5 : Int32) = nI 5 from rfl, e1, obd_s, rs_f h1.1, e2, obd_s, rs_f h2.1, e3, obd2_s]
    have F3 : Fr PA M M3 := Fr.tr f1 (Fr.tr f2 (f3.mo P2_A))
    by_cases d : mayA N w (rst w S1) = true
    · rw [if_pos d, if_neg ne10, if_pos d]
      obtain ⟨M4, e4, h4, f4⟩ := h3.tak (n := n) (by rw [q20]; exact hN) h16 (by rw [q20]; exact ht) w6 (by show (fl S1).length + N ≤ 9000; omega) (by omega)
      exact ⟨M4, by rw [rs_f h3.1, e4, obd_s], h4, Fr.tr F3 f4⟩
    · rw [if_neg d, if_pos rfl, if_neg d]
      exact ⟨M3, rfl, h3, F3⟩
theorem br97 {tw : Bool} {t : Int32} {pb pt : List Row4} {N : Nat} (h16 : N ≤ 16) {x : Nat} (hx : x < N) : ∀ (d i n : Nat) (M : Mem) (S : St), RV M tw t S pb pt → xR S 20 0 = nI N → (xR S 20 1 = 1 → N % 2 = 1) → i + d = N → (fl S).length + 2 * N * d ≤ 9000 → d + 9301 ≤ n → ∃ M', f_X10_breakDown_97 n 120 (nI x) (nI i) M = some (1, M') ∧ RV M' tw t (gdl t N x (List.range' i d) S) pb pt ∧ Fr PA M M' := by
  intro d
  induction d with
  | zero =>
    intro i n M S h hN ht hi hl hn
    obtain ⟨n, rfl⟩ : ∃ m, n = m + 1 := ⟨n - 1, by omega⟩
    refine ⟨M, ?_, h, Fr.rf _ _⟩
    rw [f_X10_breakDown_97, rs_f h.1, rs_0 h.1, bnd_e, rs_fa h.1, rs_c0 h.1, cl0, h.N hN, if_pos (nI_le (by omega) (by omega))]
  | succ d ih =>
    intro i n M S h hN ht hi hl hn
    obtain ⟨n, rfl⟩ : ∃ m, n = m + 1 := ⟨n - 1, by omega⟩
    have i6 : i < 16 := by omega
    rw [Nat.mul_succ] at hl
    unfold gdl
    rw [List.range'_succ, List.foldl_cons]
    have e0 : ∀ y, (if nI i = nI x then f_X10_breakDown_97 n 120 (nI x) (nI (i + 1)) M else if (if bt (xR S 3 i) x = true then (1 : Int32) else 0) = 0 then f_X10_breakDown_97 n 120 (nI x) (nI (i + 1)) M else obd (f_X10_goWithout n 120 (nI i) (nI x) M) fun M21 => f_X10_breakDown_97 n 120 (nI x) (nI (i + 1)) M21) = y → f_X10_breakDown_97 (n + 1) 120 (nI x) (nI i) M = y := by
      intro y hy
      rw [f_X10_breakDown_97, rs_f h.1, rs_0 h.1, bnd_e, rs_fa h.1, rs_c0 h.1, cl0, h.N hN, if_neg (nI_ge (by omega) (by omega)), bnd_e, nI_1, h.get3 i6, obd_s, f_has10 _ (by omega), obd_s]
      exact hy
    by_cases c : i = x
    · rw [if_pos c]
      obtain ⟨M', e', h', f'⟩ := ih (i + 1) n M S h hN ht (by omega) (by omega) (by omega)
      unfold gdl at h'
      exact ⟨M', e0 _ (by rw [if_pos (by rw [c])]; exact e'), h', f'⟩
    · rw [if_neg c]
      have nc := nI_ne (a := i) (b := x) (by omega) (by omega) c
      by_cases b : bt (xR S 3 i) x = true
      · rw [if_pos b]
        obtain ⟨M1, e1, h1, f1⟩ := h.tgdw (n := n) hN h16 ht (x := x) (w := i) (by omega) hx (by omega) (by omega)
        have l1 := gdw_len (t := t) (N := N) (x := x) (w := i) (S := S) h16 (by omega)
        obtain ⟨M', e', h', f'⟩ := ih (i + 1) n M1 _ h1 (by rw [gdw_Rk (by omega)]; exact hN) (by rw [gdw_Rk (by omega)]; exact ht) (by omega) (by omega) (by omega)
        unfold gdl at h'
        refine ⟨M', e0 _ ?_, h', Fr.tr f1 f'⟩
        rw [if_neg nc, if_pos b, if_neg ne10, e1, obd_s]
        exact e'
      · rw [if_neg b]
        obtain ⟨M', e', h', f'⟩ := ih (i + 1) n M S h hN ht (by omega) (by omega) (by omega)
        unfold gdl at h'
        refine ⟨M', e0 _ ?_, h', f'⟩
        rw [if_neg nc, if_neg b, if_pos rfl]
        exact e'
theorem br68 {tw : Bool} {t : Int32} {pb pt : List Row4} {N A : Nat} (h16 : N ≤ 16) {x : Nat} (hx : x < N) : ∀ (d i n : Nat) (M : Mem) (S : St), RV M tw t S pb pt → xR S 20 0 = nI N → i + d = N → Fg N A x i S → (fl S).length + d < 9000 → d + 9301 ≤ n → ∃ M' n', f_X10_breakDown_68 n 120 (nI x) (nI i) M = f_X10_breakDown_97 n' 120 (nI x) (0 : Int32) M' ∧ n ≤ n' + d + 1 ∧ RV M' tw t (fgl t x (List.range' i d) S) pb pt ∧ Fr PA M M' := by
  intro d
  induction d with
  | zero =>
    intro i n M S h hN hi hF hl hn
    obtain ⟨n, rfl⟩ : ∃ m, n = m + 1 := ⟨n - 1, by omega⟩
    refine ⟨M, n, ?_, by omega, h, Fr.rf _ _⟩
    rw [f_X10_breakDown_68, rs_f h.1, rs_0 h.1, bnd_e, rs_fa h.1, rs_c0 h.1, cl0, h.N hN, if_pos (nI_le (by omega) (by omega))]
  | succ d ih =>
    intro i n M S h hN hi hF hl hn
    obtain ⟨n, rfl⟩ : ∃ m, n = m + 1 := ⟨n - 1, by omega⟩
    obtain ⟨g1, g2, g3⟩ := hF i (Nat.le_refl _) (by omega)
    have w16 : ∀ w, w ∈ xW S i → w.1 < 16 := fun w hw => by have := (g1.2.2 w hw).1; omega
    unfold fgl
    rw [List.range'_succ, List.foldl_cons]
    rw [f_X10_breakDown_68, rs_f h.1, rs_0 h.1, bnd_e, rs_fa h.1, rs_c0 h.1, cl0, h.N hN, if_neg (nI_ge (by omega) (by omega))]
    by_cases c : i = x
    · rw [if_pos (by rw [c]), bnd_e, nI_1, if_pos c]
      obtain ⟨M', n', e', hn', h', f'⟩ := ih (i + 1) n M S h hN (by omega) (fun a h1 h2 => hF a (by omega) h2) (by omega) (by omega)
      unfold fgl at h'
      exact ⟨M', n', e', by omega, h', f'⟩
    · rw [if_neg (nI_ne (by omega) (by omega) c), if_neg c]
      obtain ⟨M1, e1, h1, f1⟩ := h.tfgt (n := n) (a := i) (x := x) (by omega) (by omega) (by omega) w16 (by omega)
      have l1 := fgt_len (t := t) (a := i) (x := x) (S := S) (by omega) w16
      obtain ⟨M', n', e', hn', h', f'⟩ := ih (i + 1) n M1 _ h1 (by rw [fgt_R (by omega) (by decide)]; exact hN) (by omega) hF.s (by omega) (by omega)
      unfold fgl at h'
      exact ⟨M', n', by rw [e1, obd_s, bnd_e, nI_1, e'], by omega, h', Fr.tr f1 f'⟩
theorem br48 {tw : Bool} {t : Int32} {pb pt : List Row4} {x : Nat} (hx : x < 16) : ∀ (d n : Nat) (M : Mem) (S : St), RV M tw t S pb pt → (xW S x).length = d → d + 60 ≤ n → ∃ M' n', f_X10_breakDown_48 n 120 (nI x) M = f_X10_breakDown_68 n' 120 (nI x) (0 : Int32) M' ∧ n ≤ n' + d + 1 ∧ RV M' tw t (uW S x []) pb pt ∧ Fr PA M M' := by
  intro d
  induction d with
  | zero =>
    intro n M S h hd hn
    obtain ⟨n, rfl⟩ : ∃ m, n = m + 1 := ⟨n - 1, by omega⟩
    have : xW S x = [] := List.length_eq_zero_iff.mp hd
    refine ⟨M, n, ?_, by omega, ?_, Fr.rf _ _⟩
    · rw [f_X10_breakDown_48, rs_f h.1, h.of3 hx, obd_s, this, if_pos (by decide)]
    · rw [← this, uW_id]; exact h
  | succ d ih =>
    intro n M S h hd hn
    obtain ⟨n, rfl⟩ : ∃ m, n = m + 1 := ⟨n - 1, by omega⟩
    have hwl := h.wl hx
    cases hw : xW S x with
    | nil => rw [hw] at hd; cases hd
    | cons w r =>
      rw [hw, List.length_cons] at hd
      obtain ⟨M1, e1, h1, f1⟩ := h.go (n := n) hx (p := []) (q := r) (x := w) (by rw [hw]; rfl) (by omega)
      obtain ⟨M', n', e', hn', h', f'⟩ := ih n M1 (uW S x ([] ++ r)) h1 (by rw [xW_uW, if_pos rfl, List.nil_append]; omega) (by omega)
      rw [uW_uW] at h'
      refine ⟨M', n', ?_, by omega, h', Fr.tr f1.toFr f'⟩
      rw [hw] at hwl
      rw [f_X10_breakDown_48, rs_f h.1, h.of3 hx, obd_s, hw, if_neg (by
        rw [List.length_cons]
        exact nI_ge (a := 0) (by omega) (by rw [List.length_cons] at hwl; omega))]
      show obd (f_X10_goWaiting n 120 (nI x) (nI ([] : List Wtr).length) M) _ = _
      rw [e1, obd_s, e']
theorem RV.tbd {M : Mem} {tw : Bool} {t : Int32} {S : St} {pb pt : List Row4} (h : RV M tw t S pb pt) {N A : Nat} (hI : Inv N A S) (hN : xR S 20 0 = nI N) (h16 : N ≤ 16) (ht : xR S 20 1 = 1 → N % 2 = 1) {x : Nat} (hx : x < N) (h0 : xR S 0 x = 0) (h7 : xR S 7 x = 0) (hl : (fl S).length + N + 2 * N * N < 9000) (hnd : f_X10_isNode 120 (nI x) M = some 1) {n : Nat} (hn : 19000 ≤ n) : ∃ M', f_X10_breakDown n 120 (nI x) M = some (1, M') ∧ RV M' tw t (bd t N x S) pb pt ∧ Fr PA M M' := by
  have x6 : x < 16 := by omega
  have h1 := h.st (vk_n (k := 7) (by decide) x6) 1
  generalize hM1 : sI M 121 (ad 7 x) 1 = M1 at h1
  have F1 : Fr PA M M1 := by rw [← hM1]; exact Fr.tad
  obtain ⟨M2, e2, h2, f2⟩ := h1.tdrp (n := n) x6 (by omega)
  obtain ⟨M3, e3, h3, f3⟩ := h2.tnob x6
  have hW := (hI.2.2.2.2.2.1 x x6).1.len
  obtain ⟨M4, n4, e4, hn4, h4, f4⟩ := br48 x6 (xW S x).length n M3 _ h3 rfl (by omega)
  have h4' : RV M4 tw t (b0 x S) pb pt := h4
  have r20 : ∀ i, xR (b0 x S) 20 i = xR S 20 i := fun i => by rw [b0_R, if_neg (by omega), if_neg (by omega), if_neg (by omega)]
  have F0 := b0_Fg hI h16 hx
  have l0 := b0_len (x := x) (S := S)
  obtain ⟨M5, n5, e5, hn5, h5, f5⟩ := br68 (A := A) h16 hx N 0 n4 M4 _ h4' (by rw [r20]; exact hN) (by omega) F0 (by omega) (by omega)
  have l5 := fgl_len (t := t) (A := A) (x := x) h16 N 0 (b0 x S) (by omega) F0
  have s20 : ∀ i, xR (fgl t x (List.range' 0 N) (b0 x S)) 20 i = xR S 20 i := fun i => by rw [fgl_R (by omega), r20]
  obtain ⟨M6, e6, h6, f6⟩ := br97 h16 hx N 0 n5 M5 _ h5 (by rw [s20]; exact hN) (by rw [s20]; exact ht) (by omega) (by omega) (by omega)
  refine ⟨M6, ?_, ?_, Fr.tr F1 (Fr.tr f2 (Fr.tr f3 (Fr.tr f4 (Fr.tr f5 f6))))⟩
  · rw [f_X10_breakDown, rs_f h.1, hnd, obd_s, if_neg ne10, h.get0 x6, obd_s, if_pos h0, h.get7 x6, obd_s, h7, if_neg ne01, h.let7 x6, hM1, obd_s, rs_f h1.1, e2, obd_s, rs_f h2.1, e3, obd_s, e4, show (0 : Int32) = nI 0 from rfl, e5, show (0 : Int32) = nI 0 from rfl, e6]
  · unfold bd
    rw [List.range_eq_range']
    exact h6
/-! ===== a node breaks: what is held after it ===== -/
/-- x erased: of the sets in use; of what the arbiters that F tells know -/
def eF (x : Nat) (F : Nat → Bool) (S : St) : St := ((fun k i => if k = 3 then bof (S.1 3 i) x else if (k = 4 ∨ k = 5) ∧ S.1 0 i = 1 then bof (S.1 k i) x else if (8 ≤ k ∧ k ≤ 10) ∧ F i = true ∧ S.1 8 i = nI x then (if k = 8 then -1 else 0) else S.1 k i), (fun i => if F i = true then (S.2.1 i).filter (fun w => !decide (w.1 = x)) else S.2.1 i), S.2.2)
theorem eF_R (x : Nat) (F : Nat → Bool) (S : St) (k i : Nat) : xR (eF x F S) k i = if k = 3 then bof (xR S 3 i) x else if (k = 4 ∨ k = 5) ∧ xR S 0 i = 1 then bof (xR S k i) x else if (8 ≤ k ∧ k ≤ 10) ∧ F i = true ∧ xR S 8 i = nI x then (if k = 8 then -1 else 0) else xR S k i := rfl
theorem eF_W (x : Nat) (F : Nat → Bool) (S : St) (i : Nat) : xW (eF x F S) i = if F i = true then (xW S i).filter (fun w => !decide (w.1 = x)) else xW S i := rfl
theorem eF_L (x : Nat) (F : Nat → Bool) (S : St) : xL (eF x F S) = xL S := rfl
theorem eF_Rk {x : Nat} {F : Nat → Bool} {S : St} {k i : Nat} (h : k < 3 ∨ k = 6 ∨ k = 7 ∨ 10 < k) : xR (eF x F S) k i = xR S k i := by
  rw [eF_R, if_neg (by omega), if_neg (by omega), if_neg (by omega)]
def Fm (F : Nat → Bool) (a : Nat) : Nat → Bool := fun i => F i && !decide (i = a)
theorem Fm_a (F : Nat → Bool) (a : Nat) : Fm F a a = false := by unfold Fm; simp
theorem Fm_o {F : Nat → Bool} {a i : Nat} (h : i ≠ a) : Fm F a i = F i := by unfold Fm; simp [h]
theorem sn_Rg (t : Int32) (k f g : Nat) (s : Int32) (S : St) (a b : Nat) : xR (sn t k f g s S) a b = if a = 16 ∧ b = k then xR S 16 k + 1 else xR S a b := rfl
theorem nob_Rg (a : Nat) (S : St) (k i : Nat) : xR (nob a S) k i = if k = 10 ∧ i = a then 0 else if k = 9 ∧ i = a then 0 else if k = 8 ∧ i = a then -1 else xR S k i := by
  unfold nob
  rw [xR_uR, xR_uR, xR_uR]
theorem nob_id {a : Nat} {S : St} (h8 : xR S 8 a = -1) (h9 : xR S 9 a = 0) (h10 : xR S 10 a = 0) : nob a S = S := by
  refine St.ext (fun k i => ?_) rfl rfl rfl rfl
  rw [nob_Rg]
  by_cases c : k = 10 ∧ i = a
  · rw [if_pos c, c.1, c.2, h10]
  · rw [if_neg c]
    by_cases d : k = 9 ∧ i = a
    · rw [if_pos d, d.1, d.2, h9]
    · rw [if_neg d]
      by_cases e : k = 8 ∧ i = a
      · rw [if_pos e, e.1, e.2, h8]
      · rw [if_neg e]
theorem flt_id {l : List Wtr} {x : Nat} (h : x ∉ l.map Prod.fst) : l.filter (fun w => !decide (w.1 = x)) = l := by
  apply List.filter_eq_self.mpr
  intro w hw
  have : w.1 ≠ x := fun z => h (by rw [← z]; exact List.mem_map_of_mem hw)
  rw [decide_eq_false this]; rfl
theorem kc (k : Nat) : k = 3 ∨ k = 4 ∨ k = 5 ∨ k = 8 ∨ k = 9 ∨ k = 10 ∨ k = 16 ∨ (k ≠ 3 ∧ k ≠ 4 ∧ k ≠ 5 ∧ k ≠ 8 ∧ k ≠ 9 ∧ k ≠ 10 ∧ k ≠ 16) := by omega
theorem gsn_R (t : Int32) (a : Nat) (w : Wtr) (r : List Wtr) (T : St) (k i : Nat) : xR (sn t 1 a w.1 w.2 (uW (uR (uR (nob a T) 8 a (nI w.1)) 9 a w.2) a r)) k i = if k = 16 ∧ i = 1 then xR T 16 1 + 1 else if k = 9 ∧ i = a then w.2 else if k = 8 ∧ i = a then nI w.1 else if k = 10 ∧ i = a then 0 else xR T k i := by
  rw [sn_Rg]
  by_cases z1 : k = 16 ∧ i = 1
  · rw [if_pos z1, if_pos z1]
    simp [xR_uW, xR_uR, nob_Rg]
  · rw [if_neg z1, if_neg z1]
    simp only [xR_uW, xR_uR, nob_Rg]
    by_cases z2 : k = 9 ∧ i = a
    · rw [if_pos z2, if_pos z2]
    · rw [if_neg z2, if_neg z2]
      by_cases z3 : k = 8 ∧ i = a
      · rw [if_pos z3, if_neg z2, if_pos z3]
      · rw [if_neg z3, if_neg z3, if_neg z2, if_neg z3]
set_option maxHeartbeats 2000000 in
theorem eF_step {t : Int32} {x a : Nat} {F : Nat → Bool} {S : St} (hF : F a = true) (hW : xR S 8 a = nI x → x ∉ (xW S a).map Prod.fst) : eF x (Fm F a) (fgt t a x S) = if xR S 8 a = nI x then gF t a (eF x F S) else eF x F S := by
  unfold fgt
  by_cases c : xR S 8 a = nI x
  · rw [if_pos c, if_pos c]
    have fl := flt_id (hW c)
    unfold gF
    have eW : xW (eF x F S) a = xW S a := by rw [eF_W, if_pos hF, fl]
    rw [eW]
    cases hw : xW S a with
    | nil =>
      simp only []
      refine St.ext (fun k i => ?_) ?_ rfl rfl rfl
      · rcases kc k with rfl | rfl | rfl | rfl | rfl | rfl | rfl | ⟨n3, n4, n5, n8, n9, n10, n16⟩
        · by_cases ia : i = a
          · subst ia; simp [eF_R, nob_Rg, Fm_a, hF, c]
          · simp [eF_R, nob_Rg, Fm_o ia, ia]
        · by_cases ia : i = a
          · subst ia; simp [eF_R, nob_Rg, Fm_a, hF, c]
          · simp [eF_R, nob_Rg, Fm_o ia, ia]
        · by_cases ia : i = a
          · subst ia; simp [eF_R, nob_Rg, Fm_a, hF, c]
          · simp [eF_R, nob_Rg, Fm_o ia, ia]
        · by_cases ia : i = a
          · subst ia; simp [eF_R, nob_Rg, Fm_a, hF, c]
          · simp [eF_R, nob_Rg, Fm_o ia, ia]
        · by_cases ia : i = a
          · subst ia; simp [eF_R, nob_Rg, Fm_a, hF, c]
          · simp [eF_R, nob_Rg, Fm_o ia, ia]
        · by_cases ia : i = a
          · subst ia; simp [eF_R, nob_Rg, Fm_a, hF, c]
          · simp [eF_R, nob_Rg, Fm_o ia, ia]
        · by_cases ia : i = a
          · subst ia; simp [eF_R, nob_Rg, Fm_a, hF, c]
          · simp [eF_R, nob_Rg, Fm_o ia, ia]
        · rw [eF_Rk (by omega), nob_Rg, nob_Rg, eF_Rk (by omega)]
      · funext i
        show (if Fm F a i = true then (xW S i).filter _ else xW S i) = if F i = true then (xW S i).filter _ else xW S i
        by_cases ia : i = a
        · subst ia
          rw [Fm_a, hF, hw]; rfl
        · rw [Fm_o ia]
    | cons w r =>
      simp only []
      refine St.ext (fun k i => ?_) ?_ rfl rfl rfl
      · rcases kc k with rfl | rfl | rfl | rfl | rfl | rfl | rfl | ⟨n3, n4, n5, n8, n9, n10, n16⟩
        · by_cases ia : i = a
          · subst ia; simp [eF_R, gsn_R, Fm_a, hF, c]
          · simp [eF_R, gsn_R, Fm_o ia, ia]
        · by_cases ia : i = a
          · subst ia; simp [eF_R, gsn_R, Fm_a, hF, c]
          · simp [eF_R, gsn_R, Fm_o ia, ia]
        · by_cases ia : i = a
          · subst ia; simp [eF_R, gsn_R, Fm_a, hF, c]
          · simp [eF_R, gsn_R, Fm_o ia, ia]
        · by_cases ia : i = a
          · subst ia; simp [eF_R, gsn_R, Fm_a, hF, c]
          · simp [eF_R, gsn_R, Fm_o ia, ia]
        · by_cases ia : i = a
          · subst ia; simp [eF_R, gsn_R, Fm_a, hF, c]
          · simp [eF_R, gsn_R, Fm_o ia, ia]
        · by_cases ia : i = a
          · subst ia; simp [eF_R, gsn_R, Fm_a, hF, c]
          · simp [eF_R, gsn_R, Fm_o ia, ia]
        · by_cases ia : i = a
          · subst ia; simp [eF_R, gsn_R, Fm_a, hF, c]
          · simp [eF_R, gsn_R, Fm_o ia, ia]
        · rw [eF_Rk (by omega), gsn_R, gsn_R, eF_Rk (by omega), eF_Rk (by omega)]
      · funext i
        show (if Fm F a i = true then (if i = a then r else xW S i).filter _ else if i = a then r else xW S i) = if i = a then r else (if F i = true then (xW S i).filter _ else xW S i)
        by_cases ia : i = a
        · subst ia
          rw [Fm_a, if_neg (by decide), if_pos rfl, if_pos rfl]
        · rw [Fm_o ia, if_neg ia, if_neg ia]
  · rw [if_neg c, if_neg c]
    refine St.ext (fun k i => ?_) ?_ rfl rfl rfl
    · rw [eF_R, eF_R, xR_uW]
      by_cases ia : i = a
      · subst ia
        rw [Fm_a, if_neg (show ¬ ((8 ≤ k ∧ k ≤ 10) ∧ false = true ∧ _) from fun z => absurd z.2.1 (by decide)), if_neg (show ¬ ((8 ≤ k ∧ k ≤ 10) ∧ F i = true ∧ xR S 8 i = nI x) from fun z => c z.2.2)]
      · rw [Fm_o ia]
    · funext i
      show (if Fm F a i = true then (if i = a then _ else xW S i).filter _ else if i = a then _ else xW S i) = if F i = true then (xW S i).filter _ else xW S i
      by_cases ia : i = a
      · subst ia
        rw [Fm_a, if_neg (by decide), if_pos rfl, hF, if_pos rfl]
      · rw [Fm_o ia, if_neg ia]
/-! ===== a node breaks: x erased, what is held of the rest ===== -/
theorem engW_flt {l : List Wtr} {x v : Nat} : engW (l.filter fun w => !decide (w.1 = x)) v = if v = x then none else engW l v := by
  induction l with
  | nil => simp [engW]
  | cons w r ih =>
    by_cases c : w.1 = x
    · rw [List.filter_cons_of_neg (by simp [c]), ih]
      by_cases d : v = x
      · rw [if_pos d, if_pos d]
      · rw [if_neg d, if_neg d]
        show _ = if w.1 = v then some w.2 else engW r v
        rw [if_neg (by omega)]
    · rw [List.filter_cons_of_pos (by simp [c])]
      show (if w.1 = v then some w.2 else engW (r.filter fun w => !decide (w.1 = x)) v) = if v = x then none else (if w.1 = v then some w.2 else engW r v)
      rw [ih]
      by_cases d : v = x
      · rw [if_pos d, if_pos d, if_neg (by omega)]
      · rw [if_neg d, if_neg d]
def e0 (x : Nat) (S : St) : St := eF x (fun _ => true) (b0 x S)
theorem e0_k {x : Nat} {S : St} {k i : Nat} (h : k < 3 ∨ k = 6 ∨ 10 < k) : xR (e0 x S) k i = xR S k i := by
  unfold e0
  rw [eF_Rk (by omega), b0_R, if_neg (by omega), if_neg (by omega), if_neg (by omega)]
theorem e0_7 {x : Nat} {S : St} {i : Nat} : xR (e0 x S) 7 i = if i = x then 1 else xR S 7 i := by
  unfold e0
  rw [eF_Rk (by omega), b0_R]
  by_cases c : i = x
  · rw [if_pos ⟨c, rfl⟩, if_pos c]
  · rw [if_neg (fun z => c z.1), if_neg (by omega), if_neg (by omega), if_neg c]
theorem e0_3 {x : Nat} {S : St} {i : Nat} : xR (e0 x S) 3 i = bof (xR S 3 i) x := by
  unfold e0
  rw [eF_R, if_pos rfl, b0_R, if_neg (by omega), if_neg (by omega), if_neg (by omega)]
theorem e0_45 {x : Nat} {S : St} {k i : Nat} (h : k = 4 ∨ k = 5) : xR (e0 x S) k i = if xR S 0 i = 1 then bof (xR S k i) x else xR S k i := by
  have b00 : xR (b0 x S) 0 i = xR S 0 i := by rw [b0_R, if_neg (by omega), if_neg (by omega), if_neg (by omega)]
  have bk : xR (b0 x S) k i = xR S k i := by rw [b0_R, if_neg (by omega), if_neg (by omega), if_neg (by omega)]
  unfold e0
  rw [eF_R, if_neg (by omega), b00, bk]
  by_cases c : xR S 0 i = 1
  · rw [if_pos ⟨h, c⟩, if_pos c]
  · rw [if_neg (fun z => c z.2), if_neg (by omega), if_neg c]
theorem e0_8 {x : Nat} {S : St} (hx : x < 16) (i : Nat) : (xR (e0 x S) 8 i = -1 ∧ xR (e0 x S) 9 i = 0 ∧ xR (e0 x S) 10 i = 0 ∧ (i = x ∨ xR S 8 i = nI x)) ∨ (i ≠ x ∧ ¬ xR S 8 i = nI x ∧ ∀ k, 8 ≤ k → k ≤ 10 → xR (e0 x S) k i = xR S k i) := by
  have g : ∀ k, 8 ≤ k → k ≤ 10 → xR (e0 x S) k i = if xR (b0 x S) 8 i = nI x then (if k = 8 then -1 else 0) else xR (b0 x S) k i := fun k h1 h2 => by
    unfold e0
    rw [eF_R, if_neg (by omega), if_neg (by omega)]
    by_cases c : xR (b0 x S) 8 i = nI x
    · rw [if_pos ⟨⟨h1, h2⟩, rfl, c⟩, if_pos c]
    · rw [if_neg (fun z => c z.2.2), if_neg c]
  by_cases c : i = x
  · left
    have b8 : xR (b0 x S) 8 i = -1 := by rw [b0_R, if_neg (by omega), if_pos ⟨c, rfl⟩]
    have n8 : ¬ xR (b0 x S) 8 i = nI x := by rw [b8]; exact m1_ne hx
    refine ⟨?_, ?_, ?_, Or.inl c⟩
    · rw [g 8 (by decide) (by decide), if_neg n8]; exact b8
    · rw [g 9 (by decide) (by decide), if_neg n8, b0_R, if_neg (by omega), if_neg (by omega), if_pos ⟨c, Or.inl rfl⟩]
    · rw [g 10 (by decide) (by decide), if_neg n8, b0_R, if_neg (by omega), if_neg (by omega), if_pos ⟨c, Or.inr rfl⟩]
  · have bk : ∀ k, xR (b0 x S) k i = xR S k i := fun k => by rw [b0_R, if_neg (by omega), if_neg (by omega), if_neg (by omega)]
    by_cases d : xR S 8 i = nI x
    · left
      refine ⟨?_, ?_, ?_, Or.inr d⟩
      · rw [g 8 (by decide) (by decide), bk, if_pos d]; rfl
      · rw [g 9 (by decide) (by decide), bk, if_pos d]; rfl
      · rw [g 10 (by decide) (by decide), bk, if_pos d]; rfl
    · right
      exact ⟨c, d, fun k h1 h2 => by rw [g k h1 h2, bk, bk, if_neg d]⟩
theorem e0_W {x : Nat} {S : St} {i : Nat} : xW (e0 x S) i = if i = x then [] else (xW S i).filter fun w => !decide (w.1 = x) := by
  unfold e0
  rw [eF_W, if_pos rfl, b0_W]
  by_cases c : i = x
  · rw [if_pos c, if_pos c]; rfl
  · rw [if_neg c, if_neg c]
theorem e0_L {x : Nat} {S : St} {l : Nat} : xL (e0 x S) l = if l < 256 ∧ (l / 16 = x ∨ l % 16 = x) then [] else xL S l := rfl
theorem e0_eng {x : Nat} {S : St} (hx : x < 16) {a v : Nat} (hv : v < 16) : eng (e0 x S) a v = if v = x ∨ a = x then none else eng S a v := by
  unfold eng
  rw [e0_W]
  rcases e0_8 (S := S) hx a with ⟨z8, z9, z10, z⟩ | ⟨z1, z2, z3⟩
  · rw [z8, if_neg (m1_ne hv)]
    by_cases c : a = x
    · rw [if_pos c, if_pos (Or.inr c)]; rfl
    · rw [if_neg c, engW_flt]
      by_cases d : v = x
      · rw [if_pos d, if_pos (Or.inl d)]
      · have e8 := z.resolve_left c
        rw [if_neg d, if_neg (fun q => q.elim d c), e8, if_neg (nI_ne (by omega) (by omega) (fun q => d q.symm))]
  · rw [z3 8 (by decide) (by decide), z3 9 (by decide) (by decide), if_neg z1, engW_flt]
    by_cases d : v = x
    · rw [if_pos (Or.inl d), if_pos d, d, if_neg z2]
    · rw [if_neg (show ¬ (v = x ∨ a = x) from fun q => q.elim d z1), if_neg d]
theorem Wok.flt {N A x : Nat} {l : List Wtr} (h : Wok N A l) : Wok N A (l.filter fun w => !decide (w.1 = x)) := h.sub List.filter_sublist
set_option maxHeartbeats 1000000 in
theorem e0_Inv {N A x : Nat} {S : St} (h : Inv N A S) (h16 : N ≤ 16) (hx : x < N) (h0 : xR S 0 x = 0) : Inv N A (e0 x S) := by
  obtain ⟨ja, jb, jc, jd, je, jf, jg, jh⟩ := h
  have x6 : x < 16 := by omega
  have ro : ∀ v b, b < 32 → b ≠ x → opn (e0 x S) v b = opn S v b := fun v b hb n => by
    unfold opn
    rw [e0_k (k := 0) (by omega), e0_k (k := 2) (by omega), e0_3, bt_off _ (by omega) hb, decide_eq_false n]
    simp
  have rx : ∀ v, opn (e0 x S) v x = none := fun v => by
    unfold opn
    rw [if_neg]
    rintro ⟨_, z⟩
    rw [e0_3, bt_off _ (by omega) (by omega), decide_eq_true rfl] at z
    simp at z
  have rv : ∀ b, opn (e0 x S) x b = none := fun b => by
    unfold opn
    rw [e0_k (by omega), if_neg (fun z => z.1 h0)]
  have zo : ∀ {v a s}, a < 32 → a ≠ x → Zok S v a s → Zok (e0 x S) v a s := fun {v a s} ha n z => by
    obtain ⟨p, m, z1, z2, z3, z4, z5⟩ := z
    refine ⟨p, m, z1, by rw [e0_k (by omega)]; exact z2, z3, z4, fun q1 q2 => ?_⟩
    rw [e0_k (by omega)] at q2
    rw [e0_3, bt_off _ (by omega) ha, z5 q1 q2, decide_eq_false n]; rfl
  refine ⟨?_, ?_, ?_, ?_, ?_, ?_, ?_, ?_⟩
  · intro v hv
    obtain ⟨x1, x2, x3, x4⟩ := ja v hv
    rw [e0_k (by omega), e0_7]
    refine ⟨x1, x2, ?_, ?_⟩
    · split
      · exact Or.inr rfl
      · exact x3
    · rcases e0_8 (S := S) x6 v with ⟨_, _, z10, _⟩ | ⟨_, _, z3⟩
      · exact Or.inl z10
      · rw [z3 10 (by decide) (by decide)]; exact x4
  · intro v hv i hi hi2
    rw [e0_3, bt_off _ (by omega) hi2, jb v hv i hi hi2]; rfl
  · intro v hv q1 i hi
    rw [e0_k (by omega)] at q1
    rw [e0_45 (k := 4) (by omega), e0_45 (k := 5) (by omega), if_pos q1, if_pos q1, e0_3, bt_off _ (by omega) hi, bt_off _ (by omega) hi, bt_off _ (by omega) hi]
    have := jc v hv q1 i hi
    constructor
    · intro z
      obtain ⟨z1, z2⟩ := Bool.and_eq_true _ _ |>.mp z
      rw [this.1 z1, z2]; rfl
    · intro z
      obtain ⟨z1, z2⟩ := Bool.and_eq_true _ _ |>.mp z
      rw [this.2 z1, z2]; rfl
  · intro v hv
    rw [e0_k (by omega), e0_k (by omega)]; exact jd v hv
  · intro l hl
    rw [e0_L]
    split
    · exact ⟨fun y hy => by (cases hy), fun _ => rfl⟩
    · exact je l hl
  · intro a ha
    obtain ⟨f1, f2, f3⟩ := jf a ha
    rw [e0_W]
    refine ⟨?_, ?_, ?_⟩
    · split
      · exact ⟨List.Pairwise.nil, List.nodup_nil, fun w hw => by (cases hw)⟩
      · exact f1.flt
    · intro z
      rw [f2 z]; split <;> rfl
    · rcases e0_8 (S := S) x6 a with ⟨z8, z9, z10, z⟩ | ⟨z1, z2, z3⟩
      · exact Or.inl ⟨z8, z9, z10⟩
      · rw [z3 8 (by decide) (by decide), z3 9 (by decide) (by decide), z3 10 (by decide) (by decide), if_neg z1]
        rcases f3 with f3 | ⟨g, g1, g2, g3, g4⟩
        · exact Or.inl f3
        · exact Or.inr ⟨g, g1, g2, fun m => g3 (flt_fst.mp m).1, g4⟩
  · intro v hv a ha
    rw [oe_99 (by omega), e0_eng x6 (by omega), e0_L, show (16 * v + a) / 16 = v by omega, show (16 * v + a) % 16 = a by omega]
    by_cases c : v = x ∨ a = x
    · rw [if_pos c, if_pos ⟨by omega, c⟩]
      rcases c with c | c
      · rw [c, rv]; rfl
      · rw [c, rx]; rfl
    · rw [if_neg c, if_neg (fun z => c z.2), ro v a (by omega) (fun z => c (Or.inr z))]
      have := jg v hv a ha
      rw [oe_99 (by omega)] at this
      exact this
  · intro v hv a ha
    obtain ⟨j1, j2, j3⟩ := jh v hv a ha
    rw [oe_99 (by omega), e0_eng x6 (by omega), e0_L, e0_L, show (16 * v + a) / 16 = v by omega, show (16 * v + a) % 16 = a by omega, show (16 * a + v) / 16 = a by omega, show (16 * a + v) % 16 = v by omega]
    by_cases c : v = x ∨ a = x
    · rw [if_pos c, if_pos ⟨by omega, c⟩, if_pos ⟨by omega, c.elim Or.inr Or.inl⟩]
      exact ⟨fun s z => by (cases z), fun y hy => by (cases hy), fun y hy => by (cases hy)⟩
    · have na : a ≠ x := fun z => c (Or.inr z)
      rw [if_neg c, if_neg (fun z => c z.2), if_neg (fun z => c (z.2.elim Or.inr Or.inl))]
      rw [oe_99 (by omega)] at j1
      exact ⟨fun s z => zo (by omega) na (j1 s z), fun y q1 q2 => zo (by omega) na (j2 y q1 q2), fun y q1 q2 => zo (by omega) na (j3 y q1 q2)⟩
/-- besides: doubts only where one asks, no sets of who doesn't, none broken behind the last -/
def IZ (N : Nat) (S : St) : Prop := (∀ v, v < 16 → ∀ i, i < 32 → bt (xR S 5 v) i = true → xR S 0 v = 1) ∧ (∀ v, v < 16 → xR S 0 v = 0 → xR S 3 v = 0) ∧ ∀ v, N ≤ v → v < 16 → xR S 7 v = 0 ∧ xR S 8 v = -1
theorem bof_z {x : Nat} : bof 0 x = 0 := by
  apply b_ext
  intro i hi
  unfold bof
  rw [b_and, b_0]; rfl
theorem e0_IZ {N x : Nat} {S : St} (h : IZ N S) (hx : x < N) (h16 : N ≤ 16) : IZ N (e0 x S) := by
  obtain ⟨z1, z2, z3⟩ := h
  refine ⟨fun v hv i hi hb => ?_, fun v hv q => ?_, fun v a b => ?_⟩
  · rw [e0_k (by omega)]
    rw [e0_45 (by omega)] at hb
    by_cases c : xR S 0 v = 1
    · exact c
    · rw [if_neg c] at hb
      exact z1 v hv i hi hb
  · rw [e0_k (by omega)] at q
    rw [e0_3, z2 v hv q, bof_z]
  · refine ⟨by rw [e0_7, if_neg (by omega)]; exact (z3 v a b).1, ?_⟩
    rcases e0_8 (S := S) (x := x) (by omega) v with ⟨y, _⟩ | ⟨_, _, y⟩
    · exact y
    · rw [y 8 (by decide) (by decide)]; exact (z3 v a b).2
theorem e0_IX {N A x : Nat} {S : St} (hI : Inv N A S) (h : IX N S) (h16 : N ≤ 16) (hx : x < N) (h0 : xR S 0 x = 0) : IX N (e0 x S) := by
  obtain ⟨hQ, hV, hK⟩ := h
  have x6 : x < 16 := by omega
  refine ⟨fun a ha => ?_, fun v hv q i hi hb => ?_, fun y hy q => ?_⟩
  · intro w hw h8 hh
    rcases e0_8 (S := S) x6 a with ⟨z8, _⟩ | ⟨z1, z2, z3⟩
    · exact absurd z8 h8
    · rw [z3 8 (by decide) (by decide)] at h8 hh
      rw [z3 9 (by decide) (by decide)] at hh
      rw [z3 10 (by decide) (by decide)]
      rw [e0_W, if_neg z1] at hw
      exact hQ a ha w (List.mem_filter.mp hw).1 h8 hh
  · rw [e0_k (by omega)] at q
    rw [e0_45 (by omega), if_neg (by rw [q]; decide)]
    rw [e0_3, bt_off _ (by omega) (by omega)] at hb
    exact hV v hv q i hi (Bool.and_eq_true _ _ |>.mp hb).1
  · rw [e0_k (by omega)]
    have L0 : ∀ u, u < 16 → (xL S (16 * y + u) = [] → xL (e0 x S) (16 * y + u) = []) ∧ (xL S (16 * u + y) = [] → xL (e0 x S) (16 * u + y) = []) := fun u hu => by
      rw [e0_L, e0_L]
      constructor
      · intro z; split
        · rfl
        · exact z
      · intro z; split
        · rfl
        · exact z
    by_cases c : y = x
    · subst c
      refine ⟨h0, fun u hu => ?_, fun u hu => ?_⟩
      · rw [e0_3, bt_off _ (by omega) (by omega), decide_eq_true rfl]; simp
      · rw [e0_L, e0_L, if_pos (by omega), if_pos (by omega)]; exact ⟨rfl, rfl⟩
    · rw [e0_7, if_neg c] at q
      obtain ⟨a1, a2, a3⟩ := hK y hy q
      refine ⟨a1, fun u hu => ?_, fun u hu => ⟨(L0 u hu).1 (a3 u hu).1, (L0 u hu).2 (a3 u hu).2⟩⟩
      rw [e0_3, bt_off _ (by omega) (by omega), a2 u hu]; rfl
theorem sum_flt (f : Nat × Ltr → Bool) (a : Nat) : ∀ l : List (Nat × Ltr), ((l.filter f).map (lwa a)).sum ≤ (l.map (lwa a)).sum := by
  intro l
  induction l with
  | nil => exact Nat.le_refl _
  | cons y l ih =>
    by_cases c : f y = true
    · rw [List.filter_cons_of_pos c, List.map_cons, List.map_cons, List.sum_cons, List.sum_cons]; omega
    · rw [List.filter_cons_of_neg c, List.map_cons, List.sum_cons]; omega
theorem e0_Ph {x a : Nat} {S : St} (hx : x < 16) (ha : a < 16) : Ph a (e0 x S) ≤ Ph a S := by
  have h1 : phL a (e0 x S) ≤ phL a S := by
    have e : xL (e0 x S) = xL (drp x S) := rfl
    rw [phL_c e]
    unfold phL
    rw [fl_drp]
    exact sum_flt _ _ _
  have h2 : phB a (e0 x S) ≤ phB a S := by
    unfold phB
    refine smN_le 16 (fun v _ => ?_)
    have := phv_le (S := S) (S' := e0 x S) (a := a) (v := v) (e := False) (by
      rw [e0_45 (by omega), e0_3, bt_off _ (by omega) (by omega)]
      rintro ⟨z1, z2⟩
      refine Or.inl ⟨?_, (Bool.and_eq_true _ _ |>.mp z2).1⟩
      split at z1
      · rw [bt_off _ (by omega) (by omega)] at z1
        exact (Bool.and_eq_true _ _ |>.mp z1).1
      · exact z1) (by
      rw [e0_45 (by omega)]
      intro z1
      split at z1
      · rw [bt_off _ (by omega) (by omega)] at z1
        exact (Bool.and_eq_true _ _ |>.mp z1).1
      · exact z1)
    rw [if_neg (fun z => z)] at this
    omega
  unfold Ph
  omega
/-! ===== a node breaks: who goes on, by what is held ===== -/
theorem gF_IX {N A a : Nat} {S : St} (hI : Inv N A S) (h16 : N ≤ 16) (ha : a < N) (h8 : xR S 8 a = -1) (hX : IX N S) (t : Int32) : Inv N A (gF t a S) ∧ IX N (gF t a S) := by
  have hF := hI.2.2.2.2.2.1 a (by omega)
  have h910 : xR S 9 a = 0 ∧ xR S 10 a = 0 := by
    rcases hF.2.2 with z | ⟨g, z1, z2, _⟩
    · exact z.2
    · rw [h8] at z2; exact absurd z2 (m1_ne (by omega))
  obtain ⟨hQ, hV, hK⟩ := hX
  refine ⟨?_, hQ.at (gF_IQ hF.1.1) (fun b hb => gF_Wo hb) (fun k b hb hk => gF_R (Or.inl hb) (by omega)), hV.cg (fun k v hk => gF_R (by omega) (by omega)), hK.st h16 (fun i => gF_R (by omega) (by decide)) (fun i _ _ z => by rw [gF_R (by omega) (by decide)]; exact z) (fun u i _ _ _ z => by rw [gF_R (by omega) (by decide)]; exact z) ?_⟩
  · rw [gF_e, nob_id h8 h910.1 h910.2]
    exact hI.tgF' h16 ha h8 t
  · cases hw : xW S a with
    | nil =>
      have : xL (gF t a S) = xL S := by unfold gF; rw [hw]; rfl
      exact LK.eq this
    | cons w r =>
      refine LK.tgF (by omega) (fun y hy => ⟨by have := (hF.1.2.2 y hy).1; omega, (hK.wtr hI h16 ha hy).1⟩) (hK.wtr hI h16 ha (w := w) (by rw [hw]; simp)).2
theorem IZ.cg {N : Nat} {S S' : St} (h : IZ N S) (e : ∀ k v, v < 16 → k = 0 ∨ k = 3 ∨ k = 5 ∨ k = 7 → xR S' k v = xR S k v) (e8 : ∀ v, N ≤ v → v < 16 → xR S' 8 v = xR S 8 v) : IZ N S' := by
  obtain ⟨z1, z2, z3⟩ := h
  refine ⟨fun v hv i hi hb => ?_, fun v hv q => ?_, fun v a b => ?_⟩
  · rw [e 0 v hv (by omega)]; rw [e 5 v hv (by omega)] at hb; exact z1 v hv i hi hb
  · rw [e 3 v hv (by omega)]; rw [e 0 v hv (by omega)] at q; exact z2 v hv q
  · rw [e 7 v b (by omega), e8 v a b]; exact z3 v a b
def Fi (i : Nat) : Nat → Bool := fun a => decide (i ≤ a)
theorem Fi_s (i : Nat) : Fm (Fi i) i = Fi (i + 1) := by
  funext a
  unfold Fm Fi
  by_cases c : a = i
  · subst c; simp
  · by_cases d : i ≤ a
    · have : i + 1 ≤ a := by omega
      simp [c, d, this]
    · have : ¬ i + 1 ≤ a := by omega
      simp [d, this]
theorem gfold {t : Int32} {N A x : Nat} (h16 : N ≤ 16) (hx : x < N) {P : Nat → Nat} : ∀ (d i : Nat) (T : St), i + d = N → Fg N A x i T → Inv N A (eF x (Fi i) T) → IX N (eF x (Fi i) T) → IZ N (eF x (Fi i) T) → (∀ b, b < 16 → Ph b (eF x (Fi i) T) ≤ P b + if b < i then 1 else 0) → Inv N A (eF x (Fi N) (fgl t x (List.range' i d) T)) ∧ IX N (eF x (Fi N) (fgl t x (List.range' i d) T)) ∧ IZ N (eF x (Fi N) (fgl t x (List.range' i d) T)) ∧ ∀ b, b < 16 → Ph b (eF x (Fi N) (fgl t x (List.range' i d) T)) ≤ P b + 1 := by
  intro d
  induction d with
  | zero =>
    intro i T hi hF hI hX hZ hP
    have : i = N := by omega
    subst this
    exact ⟨hI, hX, hZ, fun b hb => Nat.le_trans (hP b hb) (by split <;> omega)⟩
  | succ d ih =>
    intro i T hi hF hI hX hZ hP
    unfold fgl
    rw [List.range'_succ, List.foldl_cons]
    obtain ⟨g1, g2, g3⟩ := hF i (Nat.le_refl _) (by omega)
    have st := eF_step (t := t) (x := x) (a := i) (F := Fi i) (S := T) (by unfold Fi; simp) g2
    rw [Fi_s] at st
    have same : (if i = x then T else fgt t i x T) = fgt t i x T := by
      by_cases c : i = x
      · rw [if_pos c]
        subst c
        rw [fgt_id (g3 rfl).1 (by omega) (g3 rfl).2]
      · rw [if_neg c]
    rw [same]
    have go := ih (i + 1) (fgt t i x T) (by omega) hF.s
    unfold fgl at go
    by_cases c : xR T 8 i = nI x
    · rw [if_pos c] at st
      rw [st] at go
      have h8 : xR (eF x (Fi i) T) 8 i = -1 := by
        rw [eF_R, if_neg (by omega), if_neg (by omega), if_pos ⟨by omega, by unfold Fi; simp, c⟩, if_pos rfl]
      obtain ⟨a1, a2⟩ := gF_IX hI h16 (a := i) (by omega) h8 hX t
      refine go a1 a2 (hZ.cg (fun k v _ hk => gF_R (by omega) (by omega)) (fun v a _ => gF_R (Or.inl (by omega)) (by decide))) (fun b hb => ?_)
      have p1 := gF_Ph (t := t) (a := i) (b := b) (S := eF x (Fi i) T) (by omega) (fun w hw => by have := ((hI.2.2.2.2.2.1 i (by omega)).1.2.2 w hw).1; omega)
      have p2 := hP b hb
      have p3 : (if b < i then 1 else 0 : Nat) + (if b = i then 1 else 0) ≤ if b < i + 1 then 1 else 0 := by
        by_cases e : b < i
        · rw [if_pos e, if_neg (by omega), if_pos (by omega)]; exact Nat.le_refl _
        · rw [if_neg e]
          by_cases e2 : b = i
          · rw [if_pos e2, if_pos (by omega)]; exact Nat.le_refl _
          · rw [if_neg e2]; exact Nat.zero_le _
      omega
    · rw [if_neg c] at st
      rw [st] at go
      refine go hI hX hZ (fun b hb => ?_)
      have p2 := hP b hb
      have p3 : (if b < i then 1 else 0 : Nat) ≤ if b < i + 1 then 1 else 0 := ite_le (fun z => by omega)
      omega
/-- who goes on without x, x erased of its set before -/
def hdw (t : Int32) (N w : Nat) (U : St) : St := if xR U 0 w = 2 then U else if mayA N w (lv t N w U) then ak t N w (lv t N w U) else lv t N w U
theorem sAl_c {t : Int32} {k f : Nat} {set s : Int32} : ∀ (ws : List Nat) (S S' : St), xR S 16 = xR S' 16 → xL S = xL S' → xR (sAl t k f set s ws S) 16 = xR (sAl t k f set s ws S') 16 ∧ xL (sAl t k f set s ws S) = xL (sAl t k f set s ws S') ∧ xE (sAl t k f set s ws S) = xE S ∧ xT (sAl t k f set s ws S) = xT S := by
  intro ws
  induction ws with
  | nil => intro S S' h1 h2; exact ⟨h1, h2, rfl, rfl⟩
  | cons w ws ih =>
    intro S S' h1 h2
    unfold sAl
    rw [List.foldl_cons, List.foldl_cons]
    by_cases c : bt set w = true
    · rw [if_pos c, if_pos c]
      have e1 : xR (sn t k f w s S) 16 = xR (sn t k f w s S') 16 := by
        funext i
        rw [sn_Rg, sn_Rg, h1]
      have e2 : xL (sn t k f w s S) = xL (sn t k f w s S') := by
        funext l
        rw [sn_L, sn_L, h2]
      have := ih (sn t k f w s S) (sn t k f w s S') e1 e2
      unfold sAl at this
      exact ⟨this.1, this.2.1, this.2.2.1, this.2.2.2⟩
    · rw [if_neg c, if_neg c]
      have := ih S S' h1 h2
      unfold sAl at this
      exact this
theorem sA_c {t : Int32} {N k f : Nat} {set s : Int32} {S S' : St} (h1 : xR S 16 = xR S' 16) (h2 : xL S = xL S') : xR (sA t N k f set s S) 16 = xR (sA t N k f set s S') 16 ∧ xL (sA t N k f set s S) = xL (sA t N k f set s S') ∧ xE (sA t N k f set s S) = xE S ∧ xT (sA t N k f set s S) = xT S := sAl_c _ S S' h1 h2
def Fn : Nat → Bool := fun _ => false
theorem eN_R (x : Nat) (S : St) (k i : Nat) : xR (eF x Fn S) k i = if k = 3 then bof (xR S 3 i) x else if (k = 4 ∨ k = 5) ∧ xR S 0 i = 1 then bof (xR S k i) x else xR S k i := by
  rw [eF_R, if_neg (show ¬ ((8 ≤ k ∧ k ≤ 10) ∧ Fn i = true ∧ xR S 8 i = nI x) from fun z => absurd z.2.1 (by unfold Fn; decide))]
theorem eN_W (x : Nat) (S : St) : xW (eF x Fn S) = xW S := by
  funext i
  rw [eF_W]; rfl
theorem eN_Rk {x : Nat} {S : St} {k i : Nat} (h : k ≠ 3 ∧ k ≠ 4 ∧ k ≠ 5) : xR (eF x Fn S) k i = xR S k i := by
  rw [eN_R, if_neg (by omega), if_neg (by omega)]
theorem eN_Q (x : Nat) (S : St) : Qk S (eF x Fn S) := fun k hk i => eN_Rk (by omega)
theorem bof_bof (y : Int32) {x : Nat} (hx : x < 32) : bof (bof y x) x = bof y x := by
  apply b_ext
  intro i hi
  rw [bt_off _ hx hi, bt_off _ hx hi]
  cases bt y i <;> simp
theorem bof_id {y : Int32} {x : Nat} (hx : x < 32) (h : bt y x = false) : bof y x = y := by
  apply b_ext
  intro i hi
  rw [bt_off _ hx hi]
  by_cases c : i = x
  · subst c; rw [h]; rfl
  · rw [decide_eq_false c]; simp
theorem lv_T {t : Int32} {N v : Nat} {S : St} : xE (lv t N v S) = xE S ∧ xT (lv t N v S) = xT S := by
  unfold lv
  obtain ⟨_, _, a, b⟩ := sA_c (t := t) (N := N) (k := 5) (f := v) (set := xR S 3 v) (s := xR S 2 v) (S := rst v S) (S' := rst v S) rfl rfl
  exact ⟨a, b⟩
set_option maxHeartbeats 1000000 in
theorem eN_gdw {t : Int32} {N x w : Nat} {T : St} (h16 : N ≤ 16) (hx : x < N) (hw : w < N) (hset : bof (xR T 3 w) x &&& (bkm N T ^^^ (-1 : Int32)) = bof (xR T 3 w) x) (hq : bt (qm N T w) x = false) : eF x Fn (gdw t N x w T) = hdw t N w (eF x Fn T) := by
  have x32 : x < 32 := by omega
  have u0 : xR (eF x Fn T) 0 w = xR T 0 w := eN_Rk (by decide)
  unfold hdw
  rw [u0]
  rcases gdw_3 t N x w T with ⟨c, e⟩ | ⟨c, S1, e1, h2⟩
  · rw [if_pos c, e]
    refine St.ext (fun k i => ?_) (by rw [eN_W, eN_W]; rfl) rfl rfl rfl
    rw [eN_R, eN_R, xR_uR, xR_uR, xR_uR, if_neg (show ¬ (0 = 3 ∧ i = w) by omega)]
    by_cases k3 : k = 3
    · rw [if_pos k3, if_pos k3]
      by_cases iw : i = w
      · rw [if_pos ⟨rfl, iw⟩, bof_bof _ x32, iw]
      · rw [if_neg (fun z => iw z.2)]
    · rw [if_neg k3, if_neg k3, if_neg (show ¬ (k = 3 ∧ i = w) from fun z => k3 z.1)]
  · rw [if_neg c]
    rw [hset] at e1
    have s16 : xR (rst w (eF x Fn T)) 16 = xR T 16 := by funext i; rw [rst_R, if_neg (by omega), eN_Rk (by decide)]
    have cc := sA_c (t := t) (N := N) (k := 5) (f := w) (set := bof (xR T 3 w) x) (s := xR T 2 w) (S := T) (S' := rst w (eF x Fn T)) s16.symm rfl
    have lve : lv t N w (eF x Fn T) = sA t N 5 w (bof (xR T 3 w) x) (xR T 2 w) (rst w (eF x Fn T)) := by
      unfold lv
      rw [eN_R, if_pos rfl, eN_Rk (by decide)]
    have r1 : ∀ k i, k ≠ 16 → xR S1 k i = if i = w ∧ (k = 0 ∨ (3 ≤ k ∧ k ≤ 6)) then 0 else xR T k i := fun k i hk => by
      rw [e1, rst_R, sA_R hk]
    have key : eF x Fn S1 = lv t N w (eF x Fn T) := by
      refine St.ext (fun k i => ?_) ?_ ?_ ?_ ?_
      · by_cases k16 : k = 16
        · subst k16
          rw [eN_Rk (by decide), e1, lve, rst_R, if_neg (by omega)]
          exact congrFun cc.1 i
        · rw [lv_R k16, eN_R, r1 3 i (by decide), r1 0 i (by decide), r1 k i k16, eN_R]
          by_cases iw : i = w
          · subst iw
            by_cases k3 : k = 3
            · rw [if_pos k3, if_pos ⟨rfl, by omega⟩, if_pos ⟨rfl, by omega⟩, bof_z]
            · rw [if_neg k3, if_pos (show i = i ∧ (0 = 0 ∨ 3 ≤ 0 ∧ 0 ≤ 6) from ⟨rfl, Or.inl rfl⟩), if_neg (show ¬ ((k = 4 ∨ k = 5) ∧ (0 : Int32) = 1) from fun z => ne01 z.2)]
              by_cases d : k = 0 ∨ (3 ≤ k ∧ k ≤ 6)
              · rw [if_pos ⟨rfl, d⟩, if_pos ⟨rfl, d⟩]
              · rw [if_neg (fun z => d z.2), if_neg (fun z => d z.2), if_neg k3, if_neg (by omega)]
          · have nw : ∀ q : Prop, ¬ (i = w ∧ q) := fun q z => iw z.1
            rw [if_neg (nw _), if_neg (nw _), if_neg (nw _), if_neg (nw _)]
      · rw [eN_W, lv_W, eN_W, e1]
        show xW (sA _ _ _ _ _ _ _) = _
        rw [sA_W]
      · rw [eF_L, e1, lve]
        exact cc.2.1
      · rw [lv_T.1, e1]
        exact cc.2.2.1
      · rw [lv_T.2, e1]
        exact cc.2.2.2
    have q1 : ∀ U : St, Qk T U → qm N U w = qm N T w := fun U h => h.m N w
    have kT1 : Qk T S1 := fun k hk i => by rw [r1 k i (by omega), if_neg (by omega)]
    have may : mayA N w (eF x Fn S1) = mayA N w S1 := by
      unfold mayA
      rw [eN_Rk (by decide), eN_Rk (by decide), (eN_Q x S1).m]
    rw [← key, may]
    rcases h2 with ⟨d, e⟩ | ⟨d, e⟩
    · rw [if_pos d, e]
      have hq1 : bt (qm N S1 w) x = false := by rw [q1 S1 kT1]; exact hq
      have s0 : xR (eF x Fn S1) 1 w = xR S1 1 w := eN_Rk (by decide)
      have qe : qm N (eF x Fn S1) w = qm N S1 w := (eN_Q x S1).m N w
      have cd : ∀ (A B : St), xR A 16 = xR B 16 → xL A = xL B → xR (sA t N 0 w (qm N S1 w) (xR S1 1 w + 1) A) 16 = xR (sA t N 0 w (qm N S1 w) (xR S1 1 w + 1) B) 16 ∧ xL (sA t N 0 w (qm N S1 w) (xR S1 1 w + 1) A) = xL (sA t N 0 w (qm N S1 w) (xR S1 1 w + 1) B) ∧ xE (sA t N 0 w (qm N S1 w) (xR S1 1 w + 1) A) = xE A ∧ xT (sA t N 0 w (qm N S1 w) (xR S1 1 w + 1) A) = xT A := fun A B h1 h2 => sA_c h1 h2
      refine St.ext (fun k i => ?_) ?_ ?_ ?_ ?_
      · by_cases k16 : k = 16
        · subst k16
          rw [eN_Rk (by decide)]
          unfold ak
          simp only []
          rw [s0, qe]
          refine congrFun (cd _ _ ?_ ?_).1 i
          · funext j
            simp only [xR_uR]
            simp [eN_Rk]
          · rfl
        · rw [eN_R, ak_R (k := 3) (by decide), ak_R (k := 0) (by decide), ak_R k16, ak_R k16, s0, qe, eN_Rk (k := 15) (by decide)]
          by_cases iw : i = w
          · subst iw
            rw [if_pos rfl, if_pos rfl, if_pos rfl, if_pos rfl]
            by_cases k3 : k = 3
            · subst k3
              rw [if_pos rfl, if_neg (by decide), if_neg (by decide), if_neg (by decide), if_pos rfl, if_neg (by decide), if_neg (by decide), if_neg (by decide), if_pos rfl]
              exact bof_id x32 hq1
            · rw [if_neg k3, if_pos rfl]
              by_cases k4 : k = 4 ∨ k = 5
              · rw [if_pos ⟨k4, rfl⟩]
                rcases k4 with rfl | rfl
                · simp [bof_z]
                · simp [bof_z]
              · rw [if_neg (fun z => k4 z.1), eN_Rk (by omega), if_pos rfl]
          · rw [if_neg iw, if_neg iw, if_neg iw, if_neg iw, eN_R]
      · rw [eN_W, ak_W, ak_W, eN_W]
      · rw [eF_L]
        unfold ak
        simp only []
        rw [s0, qe]
        refine (cd _ _ ?_ ?_).2.1
        · funext j
          simp only [xR_uR]
          simp [eN_Rk]
        · rfl
      · show xE (ak t N w S1) = xE (ak t N w (eF x Fn S1))
        unfold ak
        simp only []
        rw [s0, qe, (cd _ _ rfl rfl).2.2.1, (cd _ _ rfl rfl).2.2.1]
        rfl
      · show xT (ak t N w S1) = xT (ak t N w (eF x Fn S1))
        unfold ak
        simp only []
        rw [s0, qe, (cd _ _ rfl rfl).2.2.2, (cd _ _ rfl rfl).2.2.2]
        rfl
    · rw [if_neg d, e]
/-! ===== a node breaks: all that is held after it ===== -/
theorem IZ.tlv {N v : Nat} {S : St} (h : IZ N S) (t : Int32) : IZ N (lv t N v S) := by
  obtain ⟨z1, z2, z3⟩ := h
  refine ⟨fun u hu i hi hb => ?_, fun u hu q => ?_, fun u a b => ?_⟩
  · rw [lv_R (by decide)] at hb ⊢
    by_cases c : u = v
    · rw [if_pos ⟨c, by omega⟩, b_0] at hb; cases hb
    · rw [if_neg (fun z => c z.1)] at hb ⊢; exact z1 u hu i hi hb
  · rw [lv_R (by decide)] at q ⊢
    by_cases c : u = v
    · rw [if_pos ⟨c, by omega⟩]
    · rw [if_neg (fun z => c z.1)] at q ⊢; exact z2 u hu q
  · rw [lv_R (by decide), if_neg (by omega), lv_R (by decide), if_neg (by omega)]; exact z3 u a b
theorem IZ.tak {N v : Nat} {S : St} (h : IZ N S) (t : Int32) : IZ N (ak t N v S) := by
  obtain ⟨z1, z2, z3⟩ := h
  have e0 : xR (ak t N v S) 0 v = 1 := by rw [ak_R (by decide), if_pos rfl]; rfl
  have e5 : xR (ak t N v S) 5 v = 0 := by rw [ak_R (by decide), if_pos rfl]; rfl
  refine ⟨fun u hu i hi hb => ?_, fun u hu q => ?_, fun u a b => ?_⟩
  · by_cases c : u = v
    · rw [c, e5, b_0] at hb; cases hb
    · rw [ak_Ro (by decide) c] at hb ⊢; exact z1 u hu i hi hb
  · by_cases c : u = v
    · rw [c, e0] at q; exact absurd q (by decide)
    · rw [ak_Ro (by decide) c] at q ⊢; exact z2 u hu q
  · rw [ak_Rk (by omega), ak_Rk (by omega)]; exact z3 u a b
theorem hdw_all {t : Int32} {N A w : Nat} {U : St} (h16 : N ≤ 16) (hI : Inv N A U) (hX : IX N U) (hZ : IZ N U) (hA : A + 1 < 1048576) (hQ : ∀ v, v < N → ∀ i, N ≤ i → i < 32 → bt (qm N U v) i = false) (hU : QU N U) (hw : w < N) (h0 : xR U 0 w ≠ 0) : Inv N (A + 1) (hdw t N w U) ∧ IX N (hdw t N w U) ∧ IZ N (hdw t N w U) ∧ ∀ a, a < 16 → Ph a (hdw t N w U) ≤ Ph a U + 2 := by
  unfold hdw
  by_cases c : xR U 0 w = 2
  · rw [if_pos c]
    exact ⟨hI.mo (by omega), hX, hZ, fun a _ => by omega⟩
  · rw [if_neg c]
    have i1 := hI.tlv h16 hw h0 t
    obtain ⟨x1, p1⟩ := lv_X hI h16 hX hw h0 t
    rw [if_neg c] at p1
    have z1 := hZ.tlv (v := w) t
    have kq : Qk U (lv t N w U) := fun k hk i => by rw [lv_R (by omega), if_neg (by omega)]
    by_cases d : mayA N w (lv t N w U) = true
    · rw [if_pos d]
      unfold mayA at d
      have d0 : xR (lv t N w U) 0 w = 0 := of_decide_eq_true (Bool.and_eq_true _ _ |>.mp d).1
      have d7 : xR (lv t N w U) 7 w = 0 := of_decide_eq_true (Bool.and_eq_true _ _ |>.mp (Bool.and_eq_true _ _ |>.mp d).2).1
      have i2 := i1.tak h16 hw d0 hA (fun i a b => by rw [kq.m]; exact hQ w hw i a b) t
      obtain ⟨x2, p2⟩ := ak_X h16 x1 hw (fun q => by rw [d7] at q; exact absurd q (by decide)) (hU.k kq w hw) t
      refine ⟨i2, x2, z1.tak t, fun a ha => ?_⟩
      have := p1 a ha
      have := p2 a ha
      have : (if a < N ∧ bt (qm N (lv t N w U) w) a = true then 1 else 0 : Nat) ≤ 1 := by split <;> omega
      omega
    · rw [if_neg d]
      exact ⟨i1.mo (by omega), x1, z1, fun a ha => by have := p1 a ha; omega⟩
/-- in the midst of the going on -/
def Kx (N x B : Nat) (P : Nat → Nat) (T : St) : Prop := Inv N B (eF x Fn T) ∧ IX N (eF x Fn T) ∧ IZ N (eF x Fn T) ∧ BI N T ∧ (xR T 20 1 = 1 → N % 2 = 1) ∧ (∀ v, v < 16 → xR T 7 v = 0 ∨ xR T 7 v = 1) ∧ xR T 7 x = 1 ∧ (∀ v, v < 16 → xR T 0 v = 0 → xR T 3 v = 0) ∧ (∀ a, a < 16 → Ph a (eF x Fn T) ≤ P a) ∧ ∀ v, v < 16 → bt (xR T 3 v) x = false → xR T 0 v = 1 → bt (xR T 4 v) x = false ∧ bt (xR T 5 v) x = false
theorem gdw_w {t : Int32} {N x w : Nat} {T : St} (h16 : N ≤ 16) (hx : x < N) (hq : bt (qm N T w) x = false) : bt (xR (gdw t N x w T) 3 w) x = false ∧ (xR (gdw t N x w T) 0 w = 1 → bt (xR (gdw t N x w T) 4 w) x = false ∧ bt (xR (gdw t N x w T) 5 w) x = false) ∧ (xR (gdw t N x w T) 0 w = 0 → xR (gdw t N x w T) 3 w = 0) := by
  rcases gdw_3 t N x w T with ⟨c, e⟩ | ⟨c, S1, e1, ⟨d, e⟩ | ⟨d, e⟩⟩
  · have r0 : xR (uR T 3 w (bof (xR T 3 w) x)) 0 w = 2 := by rw [xR_uR, if_neg (by omega)]; exact c
    rw [e, r0]
    refine ⟨?_, fun z => absurd z (by decide), fun z => absurd z (by decide)⟩
    rw [xR_uR, if_pos ⟨rfl, rfl⟩, bt_off _ (by omega) (by omega), decide_eq_true rfl]; simp
  · have kT1 : Qk T S1 := fun k hk i => by rw [e1, rst_R, if_neg (by omega), sA_R (by omega)]
    have r0 : xR (ak t N w S1) 0 w = 1 := by rw [ak_R (by decide), if_pos rfl]; rfl
    have r3 : xR (ak t N w S1) 3 w = qm N S1 w := by rw [ak_R (by decide), if_pos rfl]; rfl
    have r4 : xR (ak t N w S1) 4 w = 0 := by rw [ak_R (by decide), if_pos rfl]; rfl
    have r5 : xR (ak t N w S1) 5 w = 0 := by rw [ak_R (by decide), if_pos rfl]; rfl
    rw [e, r0, r3, r4, r5, b_0]
    refine ⟨?_, fun _ => ⟨rfl, rfl⟩, fun z => absurd z (by decide)⟩
    rw [kT1.m]; exact hq
  · have r0 : xR S1 0 w = 0 := by rw [e1, rst_R, if_pos ⟨rfl, by omega⟩]
    have r3 : xR S1 3 w = 0 := by rw [e1, rst_R, if_pos ⟨rfl, by omega⟩]
    rw [e, r0, r3, b_0]
    exact ⟨rfl, fun z => absurd z (by decide), fun _ => rfl⟩
theorem Kx.s {t : Int32} {N x w B : Nat} {P : Nat → Nat} {T : St} (h : Kx N x B P T) (h16 : N ≤ 16) (hx : x < N) (hw : w < N) (hB : B + 1 < 1048576) (hb : bt (xR T 3 w) x = true) : Kx N x (B + 1) (fun a => P a + 2) (gdw t N x w T) := by
  obtain ⟨hI, hX, hZ, hBI, ht, h7, h7x, hz0, hP, hV⟩ := h
  have qub : ∀ {v}, v < N → ∀ i, i < N → bt (qm N T v) i = true → Ub T i := fun hv => qm_ub hBI h16 ht h7 hv
  have hq : bt (qm N T w) x = false := by
    cases z : bt (qm N T w) x with
    | false => rfl
    | true => exact absurd h7x (qub hw x hx z)
  have hset : bof (xR T 3 w) x &&& (bkm N T ^^^ (-1 : Int32)) = bof (xR T 3 w) x := by
    apply b_ext
    intro i hi
    rw [bt_minus _ _ hi, bkm_b h16 h7 hi]
    cases z : bt (bof (xR T 3 w) x) i with
    | false => rfl
    | true =>
      have e3 : xR (eF x Fn T) 3 w = bof (xR T 3 w) x := by rw [eN_R, if_pos rfl]
      have iN : i < N := by
        apply Decidable.byContradiction
        intro c
        have := hI.2.1 w (by omega) i (by omega) hi
        rw [e3, z] at this; cases this
      have ub := hX.2.2.use hw iN (by rw [e3]; exact z)
      unfold Ub at ub
      rw [eN_Rk (by decide)] at ub
      rw [decide_eq_false (fun q => ub q.2)]; rfl
  have h0 : xR T 0 w ≠ 0 := fun z => by
    rw [hz0 w (by omega) z, b_0] at hb; cases hb
  have eg := eN_gdw (t := t) h16 hx hw hset hq
  have kq := eN_Q x T
  have hQ1 : ∀ v, v < N → ∀ i, N ≤ i → i < 32 → bt (qm N (eF x Fn T) v) i = false := fun v hv i a b => by rw [kq.m]; exact qm_hi hBI h16 ht v hv i a b
  have hU1 : QU N (eF x Fn T) := QU.k (fun v hv i hi z => qub hv i hi z) kq
  obtain ⟨a1, a2, a3, a4⟩ := hdw_all (t := t) h16 hI hX hZ hB hQ1 hU1 hw (by rw [eN_Rk (by decide)]; exact h0)
  rw [← eg] at a1 a2 a3 a4
  obtain ⟨w1, w2, w3⟩ := gdw_w (t := t) (w := w) h16 hx hq
  have rk : ∀ k i, k = 7 ∨ k = 17 ∨ k = 20 → xR (gdw t N x w T) k i = xR T k i := fun k i hk => gdw_Rk (by omega)
  refine ⟨a1, a2, a3, ?_, by rw [rk 20 1 (by omega)]; exact ht, fun v hv => by rw [rk 7 v (by omega)]; exact h7 v hv, by rw [rk 7 x (by omega)]; exact h7x, fun v hv z => ?_, fun a ha => by have := a4 a ha; have := hP a ha; show Ph a (eF x Fn (gdw t N x w T)) ≤ P a + 2; omega, fun v hv z1 z2 => ?_⟩
  · intro v hv i a b
    rw [rk 17 v (by omega)]; exact hBI v hv i a b
  · by_cases c : v = w
    · subst c; exact w3 z
    · rw [gdw_Ro (by decide) c] at z ⊢; exact hz0 v hv z
  · by_cases c : v = w
    · subst c; exact w2 z2
    · rw [gdw_Ro (by decide) c] at z1 z2 ⊢
      rw [gdw_Ro (by decide) c]
      exact hV v hv z1 z2
theorem hfold {t : Int32} {N x : Nat} (h16 : N ≤ 16) (hx : x < N) {P : Nat → Nat} : ∀ (d i B : Nat) (T : St), i + d = N → B + d < 1048576 → Kx N x B (fun a => P a + 2 * i) T → xR T 3 x = 0 → (∀ v, v < i → bt (xR T 3 v) x = false) → Kx N x (B + d) (fun a => P a + 2 * N) (gdl t N x (List.range' i d) T) ∧ xR (gdl t N x (List.range' i d) T) 3 x = 0 ∧ ∀ v, v < N → bt (xR (gdl t N x (List.range' i d) T) 3 v) x = false := by
  intro d
  induction d with
  | zero =>
    intro i B T hi hB hK h3 hv
    have : i = N := by omega
    subst this
    exact ⟨hK, h3, hv⟩
  | succ d ih =>
    intro i B T hi hB hK h3 hv
    unfold gdl
    rw [List.range'_succ, List.foldl_cons]
    have mo : ∀ {B' T'}, B' ≤ B + 1 → Kx N x B' (fun a => P a + 2 * i) T' → Kx N x (B + 1) (fun a => P a + 2 * (i + 1)) T' := fun hb h => by
      obtain ⟨b1, b2, b3, b4, b5, b6, b7, b8, b9, b10⟩ := h
      exact ⟨b1.mo hb, b2, b3, b4, b5, b6, b7, b8, fun a ha => Nat.le_trans (b9 a ha) (show P a + 2 * i ≤ P a + 2 * (i + 1) by omega), b10⟩
    have go := fun T' (k : Kx N x (B + 1) (fun a => P a + 2 * (i + 1)) T') (h3' : xR T' 3 x = 0) (hv' : ∀ v, v < i + 1 → bt (xR T' 3 v) x = false) => ih (i + 1) (B + 1) T' (by omega) (by omega) k h3' hv'
    unfold gdl at go
    rw [show B + (d + 1) = B + 1 + d by omega]
    by_cases c : i = x
    · rw [if_pos c]
      exact go T (mo (Nat.le_succ B) hK) h3 (fun v hv' => by
        by_cases e : v = i
        · rw [e, c, h3]; exact b_0 _
        · exact hv v (by omega))
    · rw [if_neg c]
      by_cases b : bt (xR T 3 i) x = true
      · rw [if_pos b]
        have k := hK.s (t := t) (w := i) h16 hx (by omega) (by omega) b
        have qub : ∀ {v}, v < N → ∀ i, i < N → bt (qm N T v) i = true → Ub T i := fun hv => qm_ub hK.2.2.2.1 h16 hK.2.2.2.2.1 hK.2.2.2.2.2.1 hv
        have hq : bt (qm N T i) x = false := by
          cases z : bt (qm N T i) x with
          | false => rfl
          | true => exact absurd hK.2.2.2.2.2.2.1 (qub (show i < N by omega) x hx z)
        refine go _ ?_ (by rw [gdw_Ro (by decide) (fun z => c z.symm)]; exact h3) (fun v hv' => ?_)
        · obtain ⟨b1, b2, b3, b4, b5, b6, b7, b8, b9, b10⟩ := k
          exact ⟨b1, b2, b3, b4, b5, b6, b7, b8, fun a ha => Nat.le_trans (b9 a ha) (show P a + 2 * i + 2 ≤ P a + 2 * (i + 1) by omega), b10⟩
        · by_cases e : v = i
          · rw [e]; exact (gdw_w (t := t) (w := i) h16 hx hq).1
          · rw [gdw_Ro (by decide) e]; exact hv v (by omega)
      · rw [if_neg b]
        exact go T (mo (Nat.le_succ B) hK) h3 (fun v hv' => by
          by_cases e : v = i
          · rw [e]; cases z : bt (xR T 3 i) x with
            | false => rfl
            | true => exact absurd z b
          · exact hv v (by omega))
theorem opn_16 {S S' : St} {v a : Nat} (h0 : xR S' 0 v = xR S 0 v) (h2 : xR S' 2 v = xR S 2 v) (h3 : xR S' 3 v = xR S 3 v) : opn S' v a = opn S v a := by
  unfold opn; rw [h0, h2, h3]
theorem Inv.c16 {N A : Nat} {S S' : St} (h : Inv N A S) (h16 : N ≤ 16) (hR : ∀ k i, k < 11 → i < 16 → xR S' k i = xR S k i) (hW : ∀ a, a < 16 → xW S' a = xW S a) (hL : xL S' = xL S) : Inv N A S' := by
  obtain ⟨ja, jb, jc, jd, je, jf, jg, jh⟩ := h
  have en : ∀ v a, v < 16 → a < 16 → oe S' 99 99 none v a = oe S 99 99 none v a := fun v a hv ha => by
    rw [oe_99 hv, oe_99 hv]
    unfold eng
    rw [hR 8 a (by omega) ha, hR 9 a (by omega) ha, hW a ha]
  have op : ∀ v a, v < 16 → opn S' v a = opn S v a := fun v a hv => opn_16 (hR 0 v (by omega) hv) (hR 2 v (by omega) hv) (hR 3 v (by omega) hv)
  have zk : ∀ {v a s}, v < 16 → Zok S v a s → Zok S' v a s := fun hv z => z.ex (hR 2 _ (by omega) hv) (hR 0 _ (by omega) hv) (hR 3 _ (by omega) hv)
  refine ⟨?_, ?_, ?_, ?_, ?_, ?_, ?_, ?_⟩
  · intro v hv
    rw [hR 0 v (by omega) hv, hR 7 v (by omega) hv, hR 10 v (by omega) hv]; exact ja v hv
  · intro v hv
    rw [hR 3 v (by omega) hv]; exact jb v hv
  · intro v hv
    rw [hR 0 v (by omega) hv, hR 3 v (by omega) hv, hR 4 v (by omega) hv, hR 5 v (by omega) hv]; exact jc v hv
  · intro v hv
    rw [hR 1 v (by omega) hv, hR 2 v (by omega) hv]; exact jd v hv
  · unfold IE; rw [hL]; exact je
  · intro a ha
    rw [hR 8 a (by omega) ha, hR 9 a (by omega) ha, hR 10 a (by omega) ha, hW a ha]; exact jf a ha
  · intro v hv a ha
    rw [en v a (by omega) (by omega), op v a (by omega), hL]; exact jg v hv a ha
  · intro v hv a ha
    rw [en v a (by omega) (by omega), hL]
    obtain ⟨j1, j2, j3⟩ := jh v hv a ha
    exact ⟨fun s z => zk (by omega) (j1 s z), fun y q1 q2 => zk (by omega) (j2 y q1 q2), fun y q1 q2 => zk (by omega) (j3 y q1 q2)⟩
set_option maxHeartbeats 1000000 in
theorem bd_all {t : Int32} {N A x : Nat} {S : St} (hI : Inv N A S) (hX : IX N S) (hZ : IZ N S) (hB : BI N S) (h16 : N ≤ 16) (ht : xR S 20 1 = 1 → N % 2 = 1) (hx : x < N) (h0 : xR S 0 x = 0) (hA : A + N < 1048576) : Inv N (A + N) (bd t N x S) ∧ IX N (bd t N x S) ∧ IZ N (bd t N x S) ∧ (∀ a, a < 16 → Ph a (bd t N x S) ≤ Ph a S + (2 * N + 1)) ∧ ∀ k i, 10 < k → k ≠ 13 → k ≠ 14 → k ≠ 16 → xR (bd t N x S) k i = xR S k i := by
  have x6 : x < 16 := by omega
  have g := gfold (t := t) (A := A) h16 hx (P := fun b => Ph b S) N 0 (b0 x S) (by omega) (b0_Fg hI h16 hx) (show Inv N A (e0 x S) from e0_Inv hI h16 hx h0) (show IX N (e0 x S) from e0_IX hI hX h16 hx h0) (show IZ N (e0 x S) from e0_IZ hZ hx h16) (fun b hb => Nat.le_trans (show Ph b (e0 x S) ≤ Ph b S from e0_Ph x6 hb) (Nat.le_add_right _ _))
  generalize hT : fgl t x (List.range' 0 N) (b0 x S) = T at g
  have rT : ∀ k i, k < 8 ∨ (10 < k ∧ k ≠ 16) → xR T k i = xR (b0 x S) k i := fun k i hk => by rw [← hT]; exact fgl_R hk _ _
  have rS : ∀ k i, k < 7 ∨ (10 < k ∧ k ≠ 16) → xR T k i = xR S k i := fun k i hk => by
    rw [rT k i (by omega), b0_R, if_neg (by omega), if_neg (by omega), if_neg (by omega)]
  have r7 : ∀ i, xR T 7 i = if i = x then 1 else xR S 7 i := fun i => by
    rw [rT 7 i (by omega), b0_R]
    by_cases c : i = x
    · rw [if_pos ⟨c, rfl⟩, if_pos c]
    · rw [if_neg (fun z => c z.1), if_neg (by omega), if_neg (by omega), if_neg c]
  have Wz : ∀ a, N ≤ a → a < 16 → xW T a = [] := fun a h1 h2 => by
    have : ∀ (ws : List Nat) (U : St), (∀ w, w ∈ ws → w < N) → xW (fgl t x ws U) a = xW U a := by
      intro ws
      induction ws with
      | nil => intro U _; rfl
      | cons w ws ih =>
        intro U hw
        unfold fgl
        rw [List.foldl_cons]
        have q := ih (if w = x then U else fgt t w x U) (fun y hy => hw y (by simp [hy]))
        unfold fgl at q
        rw [q]
        split
        · rfl
        · exact fgt_Wo (by have := hw w (by simp); omega)
    rw [← hT, this _ _ (fun w hw => by rw [List.mem_range'_1] at hw; omega), b0_W, if_neg (by omega)]
    exact (hI.2.2.2.2.2.1 a h2).2.1 h1
  have se : SE (eF x (Fi N) T) (eF x Fn T) := by
    refine ⟨fun k i hk hi => ?_, fun a ha => ?_, fun l hl => rfl⟩
    · rw [eN_R, eF_R]
      by_cases k3 : k = 3
      · rw [if_pos k3, if_pos k3]
      · rw [if_neg k3, if_neg k3]
        by_cases k4 : (k = 4 ∨ k = 5) ∧ xR T 0 i = 1
        · rw [if_pos k4, if_pos k4]
        · rw [if_neg k4, if_neg k4]
          by_cases z : (8 ≤ k ∧ k ≤ 10) ∧ Fi N i = true ∧ xR T 8 i = nI x
          · exfalso
            have iN : N ≤ i := of_decide_eq_true z.2.1
            have e8 : xR T 8 i = -1 := by
              have : ∀ (ws : List Nat) (U : St), (∀ w, w ∈ ws → w < N) → xR (fgl t x ws U) 8 i = xR U 8 i := by
                intro ws
                induction ws with
                | nil => intro U _; rfl
                | cons w ws ih =>
                  intro U hw
                  unfold fgl
                  rw [List.foldl_cons]
                  have q := ih (if w = x then U else fgt t w x U) (fun y hy => hw y (by simp [hy]))
                  unfold fgl at q
                  rw [q]
                  split
                  · rfl
                  · exact fgt_R (Or.inl (by have := hw w (by simp); omega)) (by decide)
              rw [← hT, this _ _ (fun w hw => by rw [List.mem_range'_1] at hw; omega), b0_R, if_neg (by omega), if_neg (by omega), if_neg (by omega)]
              exact (hZ.2.2 i iN hi).2
            rw [e8] at z
            exact m1_ne x6 z.2.2
          · rw [if_neg z]
    · rw [eN_W, eF_W]
      by_cases c : N ≤ a
      · rw [Wz a c ha]; unfold Fi; rw [decide_eq_true c]; rfl
      · unfold Fi; rw [decide_eq_false c]; rfl
  have K0 : Kx N x A (fun a => (Ph a S + 1) + 2 * 0) T := by
    refine ⟨g.1.c16 h16 (fun k i hk hi => (se.1 k i (Or.inl hk) hi).symm) (fun a ha => (se.2.1 a ha).symm) rfl, se.tix h16 g.2.1, g.2.2.1.cg (fun k v hv hk => (se.1 k v (by omega) hv).symm) (fun v _ hv => (se.1 8 v (by omega) hv).symm), ?_, ?_, fun v hv => ?_, by rw [r7, if_pos rfl], fun v hv z => ?_, fun a ha => ?_, fun v hv z1 z2 => ?_⟩
    · intro v hv i a b
      rw [rS 17 v (by omega)]; exact hB v hv i a b
    · rw [rS 20 1 (by omega)]; exact ht
    · rw [r7]; split
      · exact Or.inr rfl
      · exact (hI.1 v hv).2.2.1
    · rw [rS 0 v (by omega)] at z
      rw [rS 3 v (by omega)]; exact hZ.2.1 v hv z
    · rw [← se.tPh a]; exact g.2.2.2 a ha
    · rw [rS 3 v (by omega)] at z1
      rw [rS 0 v (by omega)] at z2
      rw [rS 4 v (by omega), rS 5 v (by omega)]
      have ic := hI.2.2.1 v hv z2 x (by omega)
      constructor
      · cases z : bt (xR S 4 v) x with
        | false => rfl
        | true => rw [ic.1 z] at z1; cases z1
      · cases z : bt (xR S 5 v) x with
        | false => rfl
        | true => rw [ic.2 z] at z1; cases z1
  obtain ⟨k', f3, fv⟩ := hfold (t := t) h16 hx (P := fun a => Ph a S + 1) N 0 A T (by omega) hA K0 (by rw [rS 3 x (by omega)]; exact hZ.2.1 x x6 h0) (fun v hv => by omega)
  have eb : bd t N x S = gdl t N x (List.range' 0 N) T := by
    unfold bd
    rw [List.range_eq_range', hT]
  rw [eb]
  have gk : ∀ k i, 10 < k → k ≠ 13 → k ≠ 14 → k ≠ 16 → ∀ (ws : List Nat) (U : St), xR (gdl t N x ws U) k i = xR U k i := by
    intro k i h1 h2 h3 h4 ws
    induction ws with
    | nil => intro U; rfl
    | cons w ws ih =>
      intro U
      unfold gdl
      rw [List.foldl_cons]
      have q := ih (if w = x then U else if bt (xR U 3 w) x then gdw t N x w U else U)
      unfold gdl at q
      rw [q]
      split
      · rfl
      · split
        · exact gdw_Rk (by omega)
        · rfl
  have gl := fun k i h1 h2 h3 h4 => gk k i h1 h2 h3 h4 (List.range' 0 N) T
  generalize hF : gdl t N x (List.range' 0 N) T = F at k' f3 fv gl
  obtain ⟨b1, b2, b3, b4, b5, b6, b7, b8, b9, b10⟩ := k'
  have nx : ∀ v, v < 16 → bt (xR F 3 v) x = false := fun v hv => by
    by_cases c : v < N
    · exact fv v c
    · have := (b1.1 v hv).2.1 (by omega)
      rw [eN_Rk (by decide)] at this
      rw [b8 v hv this, b_0]
  have se2 : SE (eF x Fn F) F := by
    refine ⟨fun k i hk hi => ?_, fun a _ => by rw [eN_W], fun l _ => rfl⟩
    rw [eN_R]
    by_cases k3 : k = 3
    · rw [if_pos k3, k3, bof_id (by omega) (nx i hi)]
    · rw [if_neg k3]
      by_cases k4 : (k = 4 ∨ k = 5) ∧ xR F 0 i = 1
      · rw [if_pos k4]
        have := b10 i hi (nx i hi) k4.2
        rcases k4.1 with e | e
        · rw [e, bof_id (by omega) this.1]
        · rw [e, bof_id (by omega) this.2]
      · rw [if_neg k4]
  refine ⟨b1.c16 h16 (fun k i hk hi => (se2.1 k i (Or.inl hk) hi).symm) (fun a ha => (se2.2.1 a ha).symm) rfl, se2.tix h16 b2, b3.cg (fun k v hv hk => (se2.1 k v (by omega) hv).symm) (fun v _ hv => (se2.1 8 v (by omega) hv).symm), fun a ha => ?_, fun k i h1 h2 h3 h4 => ?_⟩
  · have b9' : Ph a (eF x Fn F) ≤ Ph a S + 1 + 2 * N := b9 a ha
    rw [se2.tPh a] at b9'
    omega
  · rw [gl k i h1 h2 h3 h4, rS k i (by omega)]
/-! ===== a node mended ===== -/
theorem md_all {N A x : Nat} {S : St} (hI : Inv N A S) (hX : IX N S) (hZ : IZ N S) (hx : x < N) : Inv N A (uR S 7 x 0) ∧ IX N (uR S 7 x 0) ∧ IZ N (uR S 7 x 0) ∧ ∀ a, Ph a (uR S 7 x 0) = Ph a S := by
  obtain ⟨ja, jb, jc, jd, je, jf, jg, jh⟩ := hI
  obtain ⟨hQ, hV, hK⟩ := hX
  have r7 : ∀ v, xR (uR S 7 x 0) 7 v = if v = x then 0 else xR S 7 v := fun v => by
    rw [xR_uR]
    by_cases c : v = x
    · rw [if_pos ⟨rfl, c⟩, if_pos c]
    · rw [if_neg (fun z => c z.2), if_neg c]
  have rk : ∀ k v, k ≠ 7 → xR (uR S 7 x 0) k v = xR S k v := fun k v n => by rw [xR_uR, if_neg (fun z => n z.1)]
  have zk : ∀ {v a s}, Zok S v a s → Zok (uR S 7 x 0) v a s := fun z => z.ex (rk 2 _ (by decide)) (rk 0 _ (by decide)) (rk 3 _ (by decide))
  have op : ∀ v a, opn (uR S 7 x 0) v a = opn S v a := fun v a => opn_16 (rk 0 v (by decide)) (rk 2 v (by decide)) (rk 3 v (by decide))
  have en : ∀ v a, oe (uR S 7 x 0) 99 99 none v a = oe S 99 99 none v a := fun v a => by
    unfold oe eng
    rw [rk 8 a (by decide), rk 9 a (by decide)]; rfl
  refine ⟨⟨?_, ?_, ?_, ?_, je, ?_, ?_, ?_⟩, ⟨?_, ?_, ?_⟩, ⟨?_, ?_, ?_⟩, fun a => Ph_uR (by decide)⟩
  · intro v hv
    obtain ⟨x1, x2, x3, x4⟩ := ja v hv
    rw [rk 0 v (by decide), rk 10 v (by decide), r7]
    refine ⟨x1, x2, ?_, x4⟩
    split
    · exact Or.inl rfl
    · exact x3
  · intro v hv; rw [rk 3 v (by decide)]; exact jb v hv
  · intro v hv; rw [rk 0 v (by decide), rk 3 v (by decide), rk 4 v (by decide), rk 5 v (by decide)]; exact jc v hv
  · intro v hv; rw [rk 1 v (by decide), rk 2 v (by decide)]; exact jd v hv
  · intro a ha; rw [rk 8 a (by decide), rk 9 a (by decide), rk 10 a (by decide)]; exact jf a ha
  · intro v hv a ha; rw [en, op]; exact jg v hv a ha
  · intro v hv a ha
    obtain ⟨j1, j2, j3⟩ := jh v hv a ha
    rw [en]
    exact ⟨fun s z => zk (j1 s z), fun y q1 q2 => zk (j2 y q1 q2), fun y q1 q2 => zk (j3 y q1 q2)⟩
  · exact hQ.cg rfl (fun k b hk => rk k b (by omega))
  · exact hV.cg (fun k v hk => rk k v (by omega))
  · intro y hy q
    rw [r7] at q
    by_cases c : y = x
    · rw [if_pos c] at q; exact absurd q (by decide)
    · rw [if_neg c] at q
      obtain ⟨a1, a2, a3⟩ := hK y hy q
      exact ⟨by rw [rk 0 y (by decide)]; exact a1, fun u hu => by rw [rk 3 u (by decide)]; exact a2 u hu, a3⟩
  · intro v hv i hi hb
    rw [rk 5 v (by decide)] at hb
    rw [rk 0 v (by decide)]; exact hZ.1 v hv i hi hb
  · intro v hv q
    rw [rk 0 v (by decide)] at q
    rw [rk 3 v (by decide)]; exact hZ.2.1 v hv q
  · intro v a b
    rw [r7, if_neg (by omega), rk 8 v (by decide)]; exact hZ.2.2 v a b
theorem HV.mdN {M : Mem} {h X Y N n : Nat} {t : Int32} {Q : Nat → Int32} {S : St} {pb pt : List Row4} (p : HV M h X Y t N Q S pb pt) (s : SB M N S) (h16 : N ≤ 16) (ht : xR S 20 1 = 1 → N % 2 = 1) (ht2 : xR S 20 1 = 0 ∨ xR S 20 1 = 1) (h7 : ∀ v, v < 16 → xR S 7 v = 0 ∨ xR S 7 v = 1) (hz : ∀ v, N ≤ v → v < 16 → xR S 7 v = 0) {x : Nat} (hx : x < N) (hn : 100 ≤ n) : ∃ M', f_X2_mendNode n h (nI x) M = some M' ∧ HV M' h X Y t N (fun v => qm N (uR S 7 x 0) v) (uR S 7 x 0) pb pt ∧ FrW4 M M' h := by
  have q := p.1
  have x6 : x < 16 := by omega
  obtain ⟨p1, f1⟩ := p.st7 (x := x) (y := bof (mI M h 9) x) (z := 0) x6 (fun u hu => by
    rw [bt_off _ (by omega) hu, p.2.2.1.2.2.2.1 u hu]
    by_cases c : u = x
    · rw [if_pos c, decide_eq_true c, decide_eq_false (show ¬ (u < 16 ∧ (0 : Int32) = 1) from fun z => ne01 z.2)]; simp
    · rw [if_neg c, decide_eq_false c]; simp)
  have hh := q.2.2.2.2.2.1
  have r20 : xR (uR S 7 x 0) 20 1 = xR S 20 1 := by rw [xR_uR, if_neg (by omega)]
  have s1 : SB (sI M h 9 (bof (mI M h 9) x)) N (uR S 7 x 0) :=
    s.cg (Nat.le_refl _) (fun _ _ => rfl) (fun _ => rfl) (fun b => mI_o _ _ _ _ _ (by omega)) (fun b => mI_o _ _ _ _ _ (by omega)) r20 (fun v => by rw [xR_uR, if_neg (by omega)])
  obtain ⟨M2, e2, p2, f2⟩ := p1.renew (n := n) s1 h16 (by omega) (by rw [r20]; exact ht) (by rw [r20]; exact ht2) (fun v hv => by
    rw [xR_uR]; split
    · exact Or.inl rfl
    · exact h7 v hv) (fun v a b => by rw [xR_uR, if_neg (by omega)]; exact hz v a b) (by omega)
  refine ⟨M2, ?_, p2, f1.w4.tr f2.w4⟩
  rw [f_X2_mendNode, cs_f q, show (mI M h 9 &&& (((1 : Int32) <<< (nI x &&& 31)) ^^^ (-1 : Int32))) = bof (mI M h 9) x from rfl, bnd_e, e2, obd_s]
/-! ===== the class's objects, all of them ===== -/
/-- the gate's own references -/
def XG (M : Mem) : Prop := isO M 9 0 ∧ mR M 0 0 = 1 ∧ mR M 0 1 = 5 ∧ mR M 0 2 = 14 ∧ mR M 0 3 = 63 ∧ mR M 0 4 = 112 ∧ mR M 0 5 = 114
/-- the clock's ways -/
def XC (M : Mem) (S : St) : Prop := isO M 0 112 ∧ mR M 112 0 = 113 ∧ isO M 100 113 ∧ mLn M 113 = 256 ∧ ∀ l, l < 256 → mI M 113 l = xR S 19 l ∧ ∃ d, 1 ≤ d ∧ d ≤ 9 ∧ xR S 19 l = nI d
def us6 (N : Nat) : Nat := if 6 < N then 2 ^ (N - 6) else 1
/-- the survey's rows -/
def XV (M : Mem) (N : Nat) : Prop := (isO M 8 5 ∧ isO M 1 6 ∧ isO M 101 7 ∧ isO M 1 8 ∧ isO M 101 9 ∧ isO M 101 10 ∧ isO M 100 11 ∧ isO M 100 12 ∧ isO M 100 13) ∧ (mR M 5 0 = 6 ∧ mR M 5 1 = 8 ∧ mR M 5 2 = 10 ∧ mR M 5 3 = 11 ∧ mR M 5 4 = 12 ∧ mR M 5 5 = 13 ∧ mR M 6 0 = 7 ∧ mR M 8 0 = 9) ∧ (mLn M 7 = 1024 ∧ mLn M 9 = 1024 ∧ mLn M 10 = 17 ∧ mLn M 11 = 305 ∧ mLn M 12 = 16 ∧ mLn M 13 = 16) ∧ (mI M 5 7 = 0 ∨ (mI M 5 7 = 1 ∧ mI M 6 1 = nI N ∧ mI M 6 2 = nI (us6 N) ∧ mI M 8 1 = nI N ∧ mI M 8 2 = nI (us6 N)))
/-- the rooms: objects and slots, by the rows that grow -/
def GR (M : Mem) (L : Nat) : Prop := mN M * 64 ≤ 8384 + 3 * mLn M (mR M 15 5) + 3 * mLn M (mR M 64 5) + L / 16 ∧ mU M ≤ 900000 + 6 * mLn M (mR M 15 5) + 6 * mLn M (mR M 64 5) + 2 * L ∧ (∃ z, mLn M (mR M 15 5) = 64 * 2 ^ z) ∧ (∃ z, mLn M (mR M 64 5) = 64 * 2 ^ z) ∧ mLn M (mR M 15 5) ≤ 18000 ∧ mLn M (mR M 64 5) ≤ 18000
theorem GR.r14 {M : Mem} {L : Nat} (g : GR M L) (hL : L ≤ 1520000) : Rm M 14 (8384 + 3 * mLn M (mR M 64 5) + L / 16) (900000 + 6 * mLn M (mR M 64 5) + 2 * L) := by
  obtain ⟨a, b, c, d, e, f⟩ := g
  exact ⟨by show mN M * 64 ≤ _ + 3 * mLn M (mR M 15 5); omega, by show mU M ≤ _ + 6 * mLn M (mR M 15 5); omega, by omega, by omega, c⟩
theorem GR.r63 {M : Mem} {L : Nat} (g : GR M L) (hL : L ≤ 1520000) : Rm M 63 (8384 + 3 * mLn M (mR M 15 5) + L / 16) (900000 + 6 * mLn M (mR M 15 5) + 2 * L) := by
  obtain ⟨a, b, c, d, e, f⟩ := g
  exact ⟨by show mN M * 64 ≤ _ + 3 * mLn M (mR M 64 5); omega, by show mU M ≤ _ + 6 * mLn M (mR M 64 5); omega, by omega, by omega, d⟩
theorem HV.rm {M : Mem} {h X Y X' Y' N : Nat} {t : Int32} {Q : Nat → Int32} {S : St} {pb pt : List Row4} (p : HV M h X Y t N Q S pb pt) (r : Rm M h X' Y') : HV M h X' Y' t N Q S pb pt :=
  ⟨p.1, p.2.1, p.2.2.1, r, p.2.2.2.2⟩
/-- the trial and the search, between calls -/
def XS (M : Mem) (L : Nat) : Prop := ∃ e dC e5 e6 e7 len pb pt, SX M ∧ CL M dC L e ∧ CS M 63 ∧ (DS M 63 e5 e6 e7 len ∧ 64 ≤ len ∧ len ≤ 18000) ∧ (LG M 74 30 pb ∧ LG M 76 40 pt) ∧ mI M 115 0 = 0 ∧ ∀ j, 5 ≤ j → j ≤ 7 → dC ≠ mR M 15 j ∧ ∀ i, 5 ≤ i → i ≤ 7 → mR M 64 i ≠ mR M 15 j
def CW (M : Mem) (N : Nat) (Q : Nat → Int32) (S : St) : Prop := ∃ X Y L, HV M 14 X Y 0 N Q S [] [] ∧ SB M N S ∧ XG M ∧ XC M S ∧ XV M N ∧ XS M L ∧ GR M L ∧ L ≤ 1520000
/-- shapes and references stay, but of the letters' rows and the cells -/
def Shp1 (M M' : Mem) : Prop := mN M ≤ mN M' ∧ (∀ i, i < mN M → M'.1.2.1 i = M.1.2.1 i) ∧ ∀ a b, a < mN M → ¬ ((a = 15 ∨ a = 64 ∨ a = 114) ∧ 5 ≤ b ∧ b ≤ 7) → mR M' a b = mR M a b
theorem Shp1.io {M M' : Mem} (s : Shp1 M M') {c o : Nat} (h : isO M c o) : isO M' c o := ⟨by have := s.1; have := h.1; omega, by rw [mC, s.2.1 o h.1]; exact h.2⟩
theorem Shp1.ln {M M' : Mem} (s : Shp1 M M') {o : Nat} (h : o < mN M) : mLn M' o = mLn M o := by rw [mLn, s.2.1 o h]; rfl
theorem XG.s {M M' : Mem} (h : XG M) (s : Shp1 M M') : XG M' := by
  obtain ⟨a, b, c, d, e, f, g⟩ := h
  have := a.1
  have r : ∀ k, mR M' 0 k = mR M 0 k := fun k => s.2.2 0 k (by omega) (by omega)
  exact ⟨s.io a, by rw [r]; exact b, by rw [r]; exact c, by rw [r]; exact d, by rw [r]; exact e, by rw [r]; exact f, by rw [r]; exact g⟩
theorem XC.s {M M' : Mem} {S S' : St} (h : XC M S) (s : Shp1 M M') (hi : ∀ b, mI M' 113 b = mI M 113 b) (h19 : ∀ l, l < 256 → xR S' 19 l = xR S 19 l) : XC M' S' := by
  obtain ⟨a, b, c, d, e⟩ := h
  have := a.1
  have := c.1
  exact ⟨s.io a, by rw [s.2.2 112 0 (by omega) (by omega)]; exact b, s.io c, by rw [s.ln (by omega)]; exact d, fun l hl => ⟨by rw [hi, h19 l hl]; exact (e l hl).1, by rw [h19 l hl]; exact (e l hl).2⟩⟩
theorem XV.s {M M' : Mem} {N : Nat} (h : XV M N) (s : Shp1 M M') (h5 : ∀ b, mI M' 5 b = mI M 5 b) (h6 : ∀ b, mI M' 6 b = mI M 6 b) (h8 : ∀ b, mI M' 8 b = mI M 8 b) : XV M' N := by
  obtain ⟨⟨a1, a2, a3, a4, a5, a6, a7, a8, a9⟩, ⟨b1, b2, b3, b4, b5, b6, b7, b8⟩, ⟨c1, c2, c3, c4, c5, c6⟩, d⟩ := h
  have := a9.1
  have r : ∀ o k, o < 14 → mR M' o k = mR M o k := fun o k ho => s.2.2 o k (by omega) (by omega)
  have l : ∀ o, o < 14 → mLn M' o = mLn M o := fun o ho => s.ln (by omega)
  refine ⟨⟨s.io a1, s.io a2, s.io a3, s.io a4, s.io a5, s.io a6, s.io a7, s.io a8, s.io a9⟩, ⟨?_, ?_, ?_, ?_, ?_, ?_, ?_, ?_⟩, ⟨?_, ?_, ?_, ?_, ?_, ?_⟩, by rw [h5, h6, h6, h8, h8]; exact d⟩
  · rw [r _ _ (by decide)]; exact b1
  · rw [r _ _ (by decide)]; exact b2
  · rw [r _ _ (by decide)]; exact b3
  · rw [r _ _ (by decide)]; exact b4
  · rw [r _ _ (by decide)]; exact b5
  · rw [r _ _ (by decide)]; exact b6
  · rw [r _ _ (by decide)]; exact b7
  · rw [r _ _ (by decide)]; exact b8
  · rw [l _ (by decide)]; exact c1
  · rw [l _ (by decide)]; exact c2
  · rw [l _ (by decide)]; exact c3
  · rw [l _ (by decide)]; exact c4
  · rw [l _ (by decide)]; exact c5
  · rw [l _ (by decide)]; exact c6
theorem FrW4.s1 {M M' : Mem} (f : FrW4 M M' 14) : Shp1 M M' := ⟨f.1, f.2.1, fun a b ha n => f.2.2.1 a b ha (by omega)⟩
/-- where the hall's letters lie -/
theorem HV.d57 {M : Mem} {h X Y N : Nat} {t : Int32} {Q : Nat → Int32} {S : St} {pb pt : List Row4} (p : HV M h X Y t N Q S pb pt) : ∀ i, 5 ≤ i → i ≤ 7 → (mR M (h + 1) i = h + 2 + i ∨ 131 ≤ mR M (h + 1) i) ∧ mR M (h + 1) i < mN M ∧ 64 ≤ mLn M (mR M (h + 1) 5) ∧ mLn M (mR M (h + 1) 5) ≤ 18000 := by
  obtain ⟨d5, d6, d7, len, K, fr, us, ow, w, _⟩ := p.2.1
  obtain ⟨⟨z5, z6, z7⟩, ⟨k5, k6, k7⟩, ⟨l5, _, _⟩, y5, y6, y7, _⟩ := w.1
  have u := w.2.2.2.2.2.2.2.2.2.1
  intro i a b
  refine ⟨?_, ?_, by rw [z5, l5]; exact u.2.2.2.2, by rw [z5, l5]; exact u.2.2.2.1⟩
  · rcases (show i = 5 ∨ i = 6 ∨ i = 7 by omega) with rfl | rfl | rfl
    · rw [z5]; omega
    · rw [z6]; omega
    · rw [z7]; omega
  · rcases (show i = 5 ∨ i = 6 ∨ i = 7 by omega) with rfl | rfl | rfl
    · rw [z5]; exact k5.1
    · rw [z6]; exact k6.1
    · rw [z7]; exact k7.1
/-- a step of the hall's own: the rest of the class stands -/
theorem CW.hall {M M' : Mem} {N : Nat} {Q Q' : Nat → Int32} {S S' : St} (h : CW M N Q S) (f : FrW4 M M' 14) (p' : ∀ X Y, HV M 14 X Y 0 N Q S [] [] → HV M' 14 X Y 0 N Q' S' [] []) (h20 : xR S' 20 1 = xR S 20 1) (h17 : ∀ v, xR S' 17 v = xR S 17 v) (h19 : ∀ l, l < 256 → xR S' 19 l = xR S 19 l) : CW M' N Q' S' := by
  obtain ⟨X, Y, L, p, sb, xg, xc, xv, xs, g, hL⟩ := h
  obtain ⟨e, dC, e5, e6, e7, len, pb, pt, sx, cl, q, ⟨ds, d64, d18⟩, ⟨lb, lt⟩, z0, dj⟩ := xs
  have hN := q.2.2.2.2.2.2
  have s1 := f.s1
  have d14 := p.d57
  have r15 : ∀ i, 5 ≤ i → i ≤ 7 → mR M 15 i = 14 + 2 + i ∨ 131 ≤ mR M 15 i := fun i a b => (d14 i a b).1
  have lo : ∀ o, o < 131 → o ≠ 4 → ¬ (14 ≤ o ∧ o < 63) → ∀ b, mI M' o b = mI M o b := fun o h1 h2 h3 b => f.2.2.2.1 o (by omega) h2 (by omega) (by have := r15 5 (by decide) (by decide); show o ≠ mR M 15 5; omega) (by have := r15 6 (by decide) (by decide); show o ≠ mR M 15 6; omega) (by have := r15 7 (by decide) (by decide); show o ≠ mR M 15 7; omega) b
  have p0 := p.rm (g.r14 hL)
  have q' := p' _ _ p0
  have rm' := q'.2.2.2.1
  have d14' := q'.d57
  have R64 : ∀ b, mR M' 64 b = mR M 64 b := fun b => f.2.2.1 64 b (by omega) (by omega)
  have L64 : mLn M' (mR M' 64 5) = mLn M (mR M 64 5) := by
    rw [R64]
    refine s1.ln ?_
    rw [show mR M 64 5 = e5 from ds.1.1]; exact ds.2.1.1.1
  have R114 : ∀ b, mR M' 114 b = mR M 114 b := fun b => f.2.2.1 114 b (by omega) (by omega)
  refine ⟨_, _, L, q', sb.cg f.1 (fun o ho => f.2.1 o (by omega)) (fun b => f.2.2.1 1 b (by omega) (by omega)) (fun b => lo 1 (by omega) (by omega) (by omega) b) (fun b => lo 2 (by omega) (by omega) (by omega) b) h20 h17, xg.s s1, xc.s s1 (fun b => lo 113 (by omega) (by omega) (by omega) b) h19, xv.s s1 (fun b => lo 5 (by omega) (by omega) (by omega) b) (fun b => lo 6 (by omega) (by omega) (by omega) b) (fun b => lo 8 (by omega) (by omega) (by omega) b), ?_, ?_, hL⟩
  · obtain ⟨x1, ⟨x2, x3, x4, x5, x6⟩, ⟨x7, x8, x9, x10⟩, ⟨x11, x12, x13, x14⟩, x15⟩ := sx
    obtain ⟨c1, c2, c3, c4, c5, c6, c7, c8, c9, c10, c11⟩ := cl
    have dl := c2.1
    refine ⟨e, dC, e5, e6, e7, len, pb, pt, ⟨s1.io x1, ⟨by rw [R114]; exact x2, by rw [R114]; exact x3, by rw [R114]; exact x4, by rw [R114]; exact x5, by rw [R114]; exact x6⟩, ⟨s1.io x7, s1.io x8, s1.io x9, s1.io x10⟩, ⟨by rw [s1.ln (by omega)]; exact x11, by rw [s1.ln (by omega)]; exact x12, by rw [s1.ln (by omega)]; exact x13, by rw [s1.ln (by omega)]; exact x14⟩, by have := f.1; omega⟩, ⟨by rw [R114]; exact c1, s1.io c2, by rw [s1.ln dl]; exact c3, c4, by rw [lo 114 (by omega) (by omega) (by omega)]; exact c5, c6, c7, c8, by rw [R64]; exact c9, by rw [R64]; exact c10, by rw [R64]; exact c11⟩, ?_, ⟨⟨⟨by rw [R64]; exact ds.1.1, by rw [R64]; exact ds.1.2.1, by rw [R64]; exact ds.1.2.2⟩, ⟨s1.io ds.2.1.1, s1.io ds.2.1.2.1, s1.io ds.2.1.2.2⟩, ⟨by rw [s1.ln ds.2.1.1.1]; exact ds.2.2.1.1, by rw [s1.ln ds.2.1.2.1.1]; exact ds.2.2.1.2.1, by rw [s1.ln ds.2.1.2.2.1]; exact ds.2.2.1.2.2⟩, ds.2.2.2⟩, d64, d18⟩, ⟨lb.cg (fun b => lo 74 (by omega) (by omega) (by omega) b) (fun b => lo 75 (by omega) (by omega) (by omega) b), lt.cg (fun b => lo 76 (by omega) (by omega) (by omega) b) (fun b => lo 77 (by omega) (by omega) (by omega) b)⟩, by rw [lo 115 (by omega) (by omega) (by omega)]; exact z0, fun j a b => ?_⟩
    · obtain ⟨k1, k2, k3, k4, k5, k6, k7⟩ := q
      refine ⟨fun i hi hn => by rw [f.2.1 _ (by omega)]; exact k1 i hi hn, fun z hz => ?_, by rw [f.2.2.1 63 0 (by omega) (by omega)]; exact k3, s1.io k4, k5, k6, by have := f.1; omega⟩
      have hb : z.1 < 49 := by
        have : ∀ z, z ∈ tH → z.1 < 49 := by decide
        exact this z hz
      rw [f.2.2.1 _ _ (by omega) (by omega)]; exact k2 z hz
    · have dd := dj j a b
      have e15 : mR M' 15 j = mR M 15 j ∨ mN M ≤ mR M' 15 j := f.2.2.2.2.2 j a b
      refine ⟨?_, fun i c d => ?_⟩
      · rcases e15 with z | z
        · rw [z]; exact dd.1
        · omega
      · rw [R64]
        rcases e15 with z | z
        · rw [z]; exact dd.2 i c d
        · have : mR M 64 i < mN M := by
            rcases (show i = 5 ∨ i = 6 ∨ i = 7 by omega) with rfl | rfl | rfl
            · rw [show mR M 64 5 = e5 from ds.1.1]; exact ds.2.1.1.1
            · rw [show mR M 64 6 = e6 from ds.1.2.1]; exact ds.2.1.2.1.1
            · rw [show mR M 64 7 = e7 from ds.1.2.2]; exact ds.2.1.2.2.1
          omega
  · obtain ⟨ga, gb, gc, gd, ge, gf⟩ := g
    have r1 := rm'.1
    have r2 := rm'.2.1
    refine ⟨?_, ?_, rm'.2.2.2.2, by rw [L64]; exact gd, (d14' 5 (by decide) (by decide)).2.2.2, by rw [L64]; exact gf⟩
    · rw [L64]
      have : mN M' * 64 ≤ 8384 + 3 * mLn M (mR M 64 5) + L / 16 + 3 * mLn M' (mR M' 15 5) := r1
      omega
    · rw [L64]
      have : mU M' ≤ 900000 + 6 * mLn M (mR M 64 5) + 2 * L + 6 * mLn M' (mR M' 15 5) := r2
      omega
/-! ===== the class while the reference steps, the reference while the class steps ===== -/
theorem HV.ref {M M' : Mem} {h X Y N : Nat} {t : Int32} {Q : Nat → Int32} {S : St} {pb pt : List Row4} (p : HV M h X Y t N Q S pb pt) (e : M'.1 = M.1) (hI : ∀ o, ¬ (120 ≤ o ∧ o ≤ 130) → ∀ b, mI M' o b = mI M o b) (hh : h + 49 ≤ 120) : HV M' h X Y t N Q S pb pt := by
  obtain ⟨q, pv, hp, rm, ⟨lb, lt⟩, hN, hQ⟩ := p
  have hq := q.2.2.2.2
  have lo : ∀ o, o < h + 49 → ∀ b, mI M' o b = mI M o b := fun o a b => hI o (by omega) b
  refine ⟨q.e e, ?_, hp.cg (fun o ho b => lo o (by omega) b) (fun _ _ _ => rfl) rfl, ?_, ⟨lb.cg (fun b => lo _ (by omega) b) (fun b => lo _ (by omega) b), lt.cg (fun b => lo _ (by omega) b) (fun b => lo _ (by omega) b)⟩, by rw [lo 1 (by omega)]; exact hN, fun v hv => by rw [lo _ (by omega)]; exact hQ v hv⟩
  · obtain ⟨d5, d6, d7, len, K, fr, us, ow, w, hK⟩ := pv
    obtain ⟨_, _, _, y5, y6, y7, _⟩ := id w.1
    exact ⟨d5, d6, d7, len, K, fr, us, ow, w.cg (w.1.e e) (Nat.le_refl _) w.2.2.2.2.2.2.2.2.2.1.2.2.2.1 (fun i a c b => lo _ (by omega) b) (fun b _ => hI _ (by omega) b) (fun b _ => hI _ (by omega) b) (fun b _ => hI _ (by omega) b), hK⟩
  · unfold Rm mN mU mLn mR at rm ⊢
    rw [e]; exact rm
theorem CW.ref {M M' : Mem} {N : Nat} {Q : Nat → Int32} {S : St} (h : CW M N Q S) (e : M'.1 = M.1) (hI : ∀ o, ¬ (120 ≤ o ∧ o ≤ 130) → ∀ b, mI M' o b = mI M o b) : CW M' N Q S := by
  obtain ⟨X, Y, L, p, sb, xg, xc, xv, xs, g, hL⟩ := h
  obtain ⟨e', dC, e5, e6, e7, len, pb, pt, sx, cl, q, ⟨ds, d64, d18⟩, ⟨lb, lt⟩, z0, dj⟩ := xs
  have s1 : Shp1 M M' := ⟨by unfold mN; rw [e]; exact Nat.le_refl _, fun i _ => by rw [e], fun a b _ _ => by unfold mR; rw [e]⟩
  have hR : ∀ a b, mR M' a b = mR M a b := fun a b => by unfold mR; rw [e]
  have hl : ∀ o, mLn M' o = mLn M o := fun o => by unfold mLn; rw [e]
  have lo : ∀ o, o < 120 → ∀ b, mI M' o b = mI M o b := fun o a b => hI o (by omega) b
  refine ⟨X, Y, L, p.ref e hI (by decide), sb.e e (lo 1 (by omega)) (lo 2 (by omega)), xg.s s1, xc.s s1 (lo 113 (by omega)) (fun _ _ => rfl), xv.s s1 (lo 5 (by omega)) (lo 6 (by omega)) (lo 8 (by omega)), ?_, ?_, hL⟩
  · refine ⟨e', dC, e5, e6, e7, len, pb, pt, sx.e e, ?_, q.e e, ⟨ds.e e, d64, d18⟩, ⟨lb.cg (lo 74 (by omega)) (lo 75 (by omega)), lt.cg (lo 76 (by omega)) (lo 77 (by omega))⟩, by rw [lo 115 (by omega)]; exact z0, fun j a b => by rw [hR]; refine ⟨(dj j a b).1, fun i c d => by rw [hR]; exact (dj j a b).2 i c d⟩⟩
    exact cl.e e (lo 114 (by omega) 6)
  · obtain ⟨ga, gb, gc, gd, ge, gf⟩ := g
    have n : mN M' = mN M := by unfold mN; rw [e]
    have u : mU M' = mU M := by unfold mU; rw [e]
    refine ⟨?_, ?_, ?_, ?_, ?_, ?_⟩
    · rw [hR, hR, hl, hl, n]; exact ga
    · rw [hR, hR, hl, hl, u]; exact gb
    · rw [hR, hl]; exact gc
    · rw [hR, hl]; exact gd
    · rw [hR, hl]; exact ge
    · rw [hR, hl]; exact gf
theorem RV.w4 {M M' : Mem} {X Y N : Nat} {Q : Nat → Int32} {S S0 : St} {tw : Bool} {t : Int32} {pb pt : List Row4} (r : RV M tw t S pb pt) (p : HV M 14 X Y 0 N Q S0 [] []) (f : FrW4 M M' 14) : RV M' tw t S pb pt ∧ (∀ b, mI M' 120 b = mI M 120 b) ∧ isO M' 10 120 := by
  have d := p.d57
  have hN := p.1.2.2.2.2.2.2
  have c5 := (d 5 (by decide) (by decide)).1
  have c6 := (d 6 (by decide) (by decide)).1
  have c7 := (d 7 (by decide) (by decide)).1
  have lo : ∀ o, 120 ≤ o → o < 131 → ∀ b, mI M' o b = mI M o b := fun o h1 h2 b => f.2.2.2.1 o (by omega) (by omega) (by omega) (by omega) (by omega) (by omega) b
  refine ⟨r.mr f.1 (fun o h1 h2 => ⟨f.2.1 o (by omega), fun b => f.2.2.1 o b (by omega) (by omega), lo o h1 h2⟩), lo 120 (by omega) (by omega), ?_⟩
  have := r.1.io (i := 120) (c := 10) (by decide) (by decide) (by decide)
  exact ⟨by have h1 := f.1; have h2 := this.1; omega, by rw [mC, f.2.1 120 this.1]; exact this.2⟩
/-! ===== how many letters between the calls ===== -/
theorem sum_0 {a : Nat} : ∀ l : List (Nat × Ltr), (∀ q, q ∈ l → lwa a q = 0) → (l.map (lwa a)).sum = 0 := by
  intro l
  induction l with
  | nil => intro _; rfl
  | cons q l ih =>
    intro h
    rw [List.map_cons, List.sum_cons, h q (by simp), ih (fun y hy => h y (by simp [hy]))]
theorem Ph_0 {N A a : Nat} {S : St} (hI : Inv N A S) (hX : IX N S) (hZ : IZ N S) (h16 : N ≤ 16) (ha : a < 16) (h : N ≤ a ∨ xR S 7 a = 1) : Ph a S = 0 := by
  obtain ⟨_, _, hK⟩ := hX
  have nu : ∀ v, v < 16 → bt (xR S 3 v) a = false := fun v hv => by
    by_cases c : N ≤ a
    · exact hI.2.1 v hv a c (by omega)
    · by_cases d : v < N
      · exact (hK a (by omega) (h.resolve_left c)).2.1 v d
      · rw [hZ.2.1 v hv ((hI.1 v hv).2.1 (by omega)), b_0]
  have hB : phB a S = 0 := by
    unfold phB
    have : smN (phv S a) 16 = smN (fun _ => 0) 16 := smN_c 16 (fun v hv => by
      unfold phv
      have n5 : ¬ bt (xR S 5 v) a = true := fun z => by
        have := (hI.2.2.1 v hv (hZ.1 v hv a (by omega) z) a (by omega)).2 z
        rw [nu v hv] at this; cases this
      rw [nu v hv, if_neg (fun z => by cases z.2), if_neg n5])
    rw [this, smN_k]
  have hL : phL a S = 0 := by
    unfold phL
    apply sum_0
    intro q hq
    obtain ⟨q1, q2⟩ := fl_mem hq
    have ne : xL S q.1 ≠ [] := fun z => by rw [z] at q2; cases q2
    have qN : q.1 / 16 < N ∧ q.1 % 16 < N := by
      apply Decidable.byContradiction
      intro c
      exact ne ((hI.2.2.2.2.1 q.1 q1).2 c)
    have hl := hK.lane hI qN.1 qN.2 h16 (by rw [show 16 * (q.1 / 16) + q.1 % 16 = q.1 by omega]; exact ne)
    have un : ∀ x, Ub S x → x < N → x ≠ a := fun x u xN e => by
      subst e
      rcases h with h | h
      · omega
      · exact u h
    unfold lwa larb
    split
    · rw [if_neg (un _ hl.2 qN.2)]
    · rw [if_neg (un _ hl.1 qN.1)]
  unfold Ph
  omega
def nbr (N : Nat) (S : St) : Nat := smN (fun a => if xR S 7 a = 1 then 1 else 0) N
theorem smN_nu {N : Nat} {S : St} (C : Nat) (h16 : N ≤ 16) : smN (fun a => if a < N ∧ ¬ xR S 7 a = 1 then C else 0) 16 + C * nbr N S = C * N := by
  have h1 : ∀ n, n ≤ N → smN (fun a => if a < N ∧ ¬ xR S 7 a = 1 then C else 0) n + C * smN (fun a => if xR S 7 a = 1 then 1 else 0) n = C * n := by
    intro n
    induction n with
    | zero => intro _; rfl
    | succ n ih =>
      intro hn
      have := ih (by omega)
      show smN _ n + (if n < N ∧ ¬ xR S 7 n = 1 then C else 0) + C * (smN _ n + (if xR S 7 n = 1 then 1 else 0)) = C * (n + 1)
      by_cases c : xR S 7 n = 1
      · rw [if_neg (fun z => z.2 c), if_pos c, Nat.mul_succ, Nat.mul_succ]; omega
      · rw [if_pos ⟨by omega, c⟩, if_neg c, Nat.add_zero, Nat.mul_succ]; omega
  have h2 : ∀ d, N + d ≤ 16 → smN (fun a => if a < N ∧ ¬ xR S 7 a = 1 then C else 0) (N + d) = smN (fun a => if a < N ∧ ¬ xR S 7 a = 1 then C else 0) N := by
    intro d
    induction d with
    | zero => intro _; rfl
    | succ d ih =>
      intro hd
      show smN _ (N + d) + (if N + d < N ∧ ¬ xR S 7 (N + d) = 1 then C else 0) = _
      rw [ih (by omega), if_neg (by omega), Nat.add_zero]
  have := h2 (16 - N) (by omega)
  rw [show N + (16 - N) = 16 by omega] at this
  rw [this]
  exact h1 N (Nat.le_refl _)
theorem nbr_le (N : Nat) (S : St) : nbr N S ≤ N := by
  unfold nbr
  have := smN_le (f := fun a => if xR S 7 a = 1 then 1 else 0) (g := fun _ => 1) N (fun i _ => by split <;> omega)
  rw [smN_k] at this
  omega
theorem num_b : ∀ N, N < 17 → ∀ b, b < 17 → b ≤ N → (511 + 2 * N * b) * N ≤ (511 + 2 * N * b) * b + 8176 := by decide +kernel
/-- letters, and what they may become, between the calls -/
def PB (N i : Nat) (S : St) : Prop := ∀ a, a < N → Ph a S ≤ i + 2 * N * nbr N S
theorem PhS_b {N A i : Nat} {S : St} (hI : Inv N A S) (hX : IX N S) (hZ : IZ N S) (h16 : N ≤ 16) (hi : i ≤ 511) (hP : PB N i S) : PhS S ≤ 8176 := by
  have h1 : PhS S ≤ smN (fun a => if a < N ∧ ¬ xR S 7 a = 1 then 511 + 2 * N * nbr N S else 0) 16 := by
    unfold PhS
    refine smN_le 16 (fun a ha => ?_)
    by_cases c : a < N ∧ ¬ xR S 7 a = 1
    · rw [if_pos c]
      have := hP a c.1
      omega
    · rw [if_neg c, Ph_0 hI hX hZ h16 ha (by
        by_cases d : a < N
        · right
          apply Decidable.byContradiction
          intro e
          exact c ⟨d, e⟩
        · left; omega)]
      exact Nat.le_refl _
  have h2 := smN_nu (S := S) (511 + 2 * N * nbr N S) h16
  have h3 := num_b N (by omega) (nbr N S) (by have := nbr_le N S; omega) (nbr_le N S)
  omega
/-! ===== between the calls ===== -/
/-- the model between the calls -/
def SW (N A i : Nat) (S : St) : Prop := (2 ≤ N ∧ N ≤ 16) ∧ xR S 20 0 = nI N ∧ (xR S 20 1 = 0 ∨ xR S 20 1 = 1) ∧ (xR S 20 1 = 1 → N % 2 = 1) ∧ BI N S ∧ Inv N A S ∧ IX N S ∧ IZ N S ∧ A ≤ 20 * i ∧ PB N i S
/-- class and reference between the calls, i calls done -/
def WJ (M : Mem) (N A i : Nat) (Q : Nat → Int32) (S : St) : Prop := CW M N Q S ∧ RV M false 0 S [] [] ∧ mI M 120 7 = 0 ∧ SW N A i S ∧ ∀ v, v < N → qm N S v = Q v
def WI (i : Nat) (M : Mem) : Prop := ∃ N A Q S, WJ M N A i Q S
section
variable {N A i : Nat} {S : St}
theorem SW.n2 (h : SW N A i S) : 2 ≤ N := h.1.1
theorem SW.n16 (h : SW N A i S) : N ≤ 16 := h.1.2
theorem SW.n (h : SW N A i S) : xR S 20 0 = nI N := h.2.1
theorem SW.t2 (h : SW N A i S) : xR S 20 1 = 0 ∨ xR S 20 1 = 1 := h.2.2.1
theorem SW.t (h : SW N A i S) : xR S 20 1 = 1 → N % 2 = 1 := h.2.2.2.1
theorem SW.bi (h : SW N A i S) : BI N S := h.2.2.2.2.1
theorem SW.inv (h : SW N A i S) : Inv N A S := h.2.2.2.2.2.1
theorem SW.ix (h : SW N A i S) : IX N S := h.2.2.2.2.2.2.1
theorem SW.iz (h : SW N A i S) : IZ N S := h.2.2.2.2.2.2.2.1
theorem SW.a (h : SW N A i S) : A ≤ 20 * i := h.2.2.2.2.2.2.2.2.1
theorem SW.pb (h : SW N A i S) : PB N i S := h.2.2.2.2.2.2.2.2.2
theorem SW.ps (h : SW N A i S) (hi : i ≤ 511) : PhS S ≤ 8176 := PhS_b h.inv h.ix h.iz h.n16 hi h.pb
theorem SW.tfl (h : SW N A i S) (hi : i ≤ 511) : (fl S).length ≤ 8176 := Nat.le_trans (fl_PhS S) (h.ps hi)
theorem SW.h7 (h : SW N A i S) : ∀ v, v < 16 → xR S 7 v = 0 ∨ xR S 7 v = 1 := fun v hv => (h.inv.1 v hv).2.2.1
theorem SW.hq (h : SW N A i S) : ∀ v, v < N → ∀ j, N ≤ j → j < 32 → bt (qm N S v) j = false := qm_hi h.bi h.n16 h.t
theorem SW.qu (h : SW N A i S) : QU N S := fun _ hv => qm_ub h.bi h.n16 h.t h.h7 hv
theorem SW.wt (h : SW N A i S) : ∀ v, v < 16 → ∀ w, w ∈ xW S v → w.1 < 16 := fun v hv w hw => by
  have := ((h.inv.2.2.2.2.2.1 v hv).1.2.2 w hw).1
  have := h.n16
  omega
theorem SW.mo (h : SW N A i S) : SW N A (i + 1) S := by
  obtain ⟨a, b, c, d, e, f, g, k, l, m⟩ := h
  exact ⟨a, b, c, d, e, f, g, k, by omega, fun a ha => by have := m a ha; omega⟩
end
theorem WJ.mo {M : Mem} {N A i : Nat} {Q : Nat → Int32} {S : St} (h : WJ M N A i Q S) : WI (i + 1) M := ⟨N, A, Q, S, h.1, h.2.1, h.2.2.1, h.2.2.2.1.mo, h.2.2.2.2⟩
/-- the class has stepped, in the hall -/
theorem WJ.cls {M M1 : Mem} {N A i : Nat} {Q Q' : Nat → Int32} {S S' : St} (h : WJ M N A i Q S) (f : FrW4 M M1 14) (p' : ∀ X Y, HV M 14 X Y 0 N Q S [] [] → HV M1 14 X Y 0 N Q' S' [] []) (hR : ∀ k j, k = 17 ∨ k = 19 ∨ k = 20 → xR S' k j = xR S k j) : CW M1 N Q' S' ∧ RV M1 false 0 S [] [] ∧ (∀ b, mI M1 120 b = mI M 120 b) ∧ isO M1 10 120 := by
  obtain ⟨X, Y, L, p, _⟩ := id h.1
  obtain ⟨r1, r2, r3⟩ := h.2.1.w4 p f
  exact ⟨h.1.hall f p' (hR 20 1 (by omega)) (fun v => hR 17 v (by omega)) (fun l _ => hR 19 l (by omega)), r1, r2, r3⟩
/-- what the two of them answer, and how they then stand -/
def Okk (i : Nat) (x : Option (Int32 × Mem)) (y : Mem → Option (Int32 × Mem)) : Prop := ∃ r M1 M2, x = some (r, M1) ∧ isO M1 10 120 ∧ y M1 = some (r, M2) ∧ WI (i + 1) M2
theorem Okk.same {M : Mem} {N A i : Nat} {Q : Nat → Int32} {S : St} {x : Option (Int32 × Mem)} {y : Mem → Option (Int32 × Mem)} (h : WJ M N A i Q S) {r : Int32} (hx : x = some (r, M)) (hy : y M = some (r, M)) : Okk i x y :=
  ⟨r, M, M, hx, h.2.1.1.io (by decide) (by decide) (by decide), hy, h.mo⟩
theorem WJ.g {M : Mem} {N A i : Nat} {Q : Nat → Int32} {S : St} (h : WJ M N A i Q S) {α : Type} (x : Option α) : chk (isO M 9 0) x = x ∧ mR M 0 0 = 1 ∧ mR M 0 2 = 14 ∧ mR M 0 3 = 63 ∧ chk (isO M 7 1) x = x ∧ chk (isO M 2 14) x = x := by
  obtain ⟨X, Y, L, p, sb, xg, _⟩ := id h.1
  exact ⟨chk_t xg.1, xg.2.1, xg.2.2.2.1, xg.2.2.2.2.1, sb.f x, cs_f p.1 x⟩
theorem ndc {M : Mem} {N : Nat} {S : St} (sb : SB M N S) {k : Nat} (hk : k < N) (h16 : N ≤ 16) : f_X7_isNode 1 (nI k) M = some 1 := by
  rw [f_X7_isNode, if_neg (show ¬ nI k < (0 : Int32) from nI_nlt (b := 0) (Nat.zero_le _) (by omega)), sb.f, sb.n, if_neg (nI_ge (by omega) (by omega))]
theorem ndc0 {M : Mem} {N : Nat} {S : St} (sb : SB M N S) {a : Int32} (ha : Out N a) : f_X7_isNode 1 a M = some 0 := by
  rw [f_X7_isNode]
  rcases ha with h | h
  · rw [if_pos h]
  · by_cases c : a < 0
    · rw [if_pos c]
    · rw [if_neg c, sb.f, sb.n, if_pos h]
theorem ndr {M : Mem} {N : Nat} {S : St} {tw : Bool} {t : Int32} {pb pt : List Row4} (r : RV M tw t S pb pt) (hN : xR S 20 0 = nI N) {k : Nat} (hk : k < N) (h16 : N ≤ 16) : f_X10_isNode 120 (nI k) M = some 1 := by
  obtain ⟨m, rfl⟩ : ∃ m, N = m + 1 := ⟨N - 1, by omega⟩
  rw [f_X10_isNode, rs_f r.1, rs_0 r.1, bnd_e, rs_fa r.1, rs_c0 r.1, cl0, r.N hN, nI_pred, f_isI M (show k ≤ m by omega) (by omega), obd_s, chk_t (Or.inr rfl)]
theorem ndr0 {M : Mem} {N : Nat} {S : St} {tw : Bool} {t : Int32} {pb pt : List Row4} (r : RV M tw t S pb pt) (hN : xR S 20 0 = nI N) (h0 : 0 < N) (h16 : N ≤ 16) {a : Int32} (ha : Out N a) : f_X10_isNode 120 a M = some 0 := by
  obtain ⟨m, rfl⟩ : ∃ m, N = m + 1 := ⟨N - 1, by omega⟩
  rw [f_X10_isNode, rs_f r.1, rs_0 r.1, bnd_e, rs_fa r.1, rs_c0 r.1, cl0, r.N hN, nI_pred, out_is ha (lt_of (by
    have := nI_lt (a := m) (b := m + 1) (by omega) (by omega)
    rwa [Int32.lt_iff_toInt_lt] at this)), obd_s, chk_t (Or.inl rfl)]
/-- ask -/
theorem op21 {M : Mem} {i n : Nat} (h : WI i M) (hi : i ≤ 511) (a : Int32) (hn : 100000 ≤ n) : Okk i (f_X9_ask n 0 a M) (fun M1 => f_X10_ask n 120 a M1) := by
  obtain ⟨N, A, Q, S, w⟩ := h
  obtain ⟨X, Y, L, p, sb, xg, xr⟩ := id w.1
  obtain ⟨_, r, z7, sw, hQ⟩ := id w
  have h16 := sw.n16
  have h2 := sw.n2
  have fl0 := sw.tfl hi
  have q := p.1
  rcases out_in (N := N) (by omega) a with ha | ⟨k, hk, rfl⟩
  · refine Okk.same w (r := -1) ?_ ?_
    · rw [f_X9_ask, chk_t xg.1, xg.2.1, bnd_e, sb.f, ndc0 sb ha, obd_s, if_pos rfl]
    · show f_X10_ask n 120 a M = _
      rw [f_X10_ask, rs_f r.1, ndr0 r sw.n (by omega) h16 ha, obd_s, if_pos rfl]
  · have may := p.may sw.inv.1 h16 hk (hQ k hk)
    by_cases c : mayA N k S = true
    · obtain ⟨M1, e1, p1, f1⟩ := p.tak (n := n) h16 hk (by
        unfold mayA at c
        rw [of_decide_eq_true (Bool.and_eq_true _ _ |>.mp c).1]; decide) (hQ k hk) (by omega) (by omega)
      have pp : ∀ X Y, HV M 14 X Y 0 N Q S [] [] → HV M1 14 X Y 0 N Q (ak 0 N k S) [] [] := fun X Y p' => by
        obtain ⟨M1', e1', p1', _⟩ := p'.tak (n := n) h16 hk (by
          unfold mayA at c
          rw [of_decide_eq_true (Bool.and_eq_true _ _ |>.mp c).1]; decide) (hQ k hk) (by omega) (by omega)
        rw [e1] at e1'
        cases e1'
        exact p1'
      obtain ⟨cw, r1, s120, io⟩ := w.cls f1.w4 pp (fun kk j hk => ak_Rk (by omega))
      obtain ⟨M2, e2, r2, f2⟩ := r1.can (n := n) sw.n h16 sw.t (v := k) (by omega) (by omega)
      obtain ⟨M3, e3, r3, f3⟩ := r2.tak (n := n) sw.n h16 sw.t (v := k) (by omega) (by omega) (by omega)
      have F : Fr PA M1 M3 := Fr.tr (f2.mo P2_A) f3
      have s2 : xR (ak 0 N k S) 2 k = xR S 1 k + 1 := by rw [ak_R (by decide), if_pos rfl]; rfl
      have cm := c
      unfold mayA at c
      have c0 : xR S 0 k = 0 := of_decide_eq_true (Bool.and_eq_true _ _ |>.mp c).1
      have c7 : xR S 7 k = 0 := of_decide_eq_true (Bool.and_eq_true _ _ |>.mp (Bool.and_eq_true _ _ |>.mp c).2).1
      have iv := sw.inv.tak h16 hk c0 (by have := sw.a; omega) (fun j a b => sw.hq k hk j a b) 0
      obtain ⟨x1, x2⟩ := ak_X h16 sw.ix hk (fun z => by rw [c7] at z; exact absurd z (by decide)) (sw.qu k hk) 0
      refine ⟨xR S 1 k + 1, M1, M3, ?_, io, ?_, N, A + 1, Q, ak 0 N k S, ?_, r3, ?_, ⟨sw.1, by rw [ak_Rk (by omega)]; exact sw.n, by rw [ak_Rk (by omega)]; exact sw.t2, by rw [ak_Rk (by omega)]; exact sw.t, ?_, iv, x1, sw.iz.tak 0, by have := sw.a; omega, fun b hb => ?_⟩, fun v hv => by rw [(Qk.ak 0 N k S).m]; exact hQ v hv⟩
      · have d1 := p1.1
        have k6 : k < 16 := by omega
        have xg1 := xg.s f1.w4.s1
        rw [f_X9_ask, chk_t xg.1, xg.2.1, bnd_e, sb.f, ndc sb hk h16, obd_s, if_neg ne10, xg.2.2.2.1, bnd_e, cs_f q, may, obd_s, if_pos cm, if_neg ne10, bnd_e, cs_f q, e1, obd_s, chk_t xg1.1, xg1.2.2.2.1, bnd_e, cs_f d1, cs_h2 d1, bnd_e, cs_a10 d1, cs_i10 d1 k6, cs_rpc d1 k6, bnd_e, cs_po d1 k6, p1.fs k6 (a := 1) (k := 2) (by decide), s2]
      · show f_X10_ask n 120 (nI k) M1 = _
        rw [f_X10_ask, rs_f r1.1, ndr r1 sw.n hk h16, obd_s, if_neg ne10, e2, obd2_s, if_pos (show mayA N k S = true from c), if_neg ne10, rs_f r2.1, e3, obd_s, rs_f r3.1, r3.get2 (by omega), obd_s, s2]
      · exact cw.ref F.1 (fun o ho b => F.2.1 o (fun z => ho ⟨by have := z.1; omega, by have := z.2; omega⟩) b)
      · rw [F.2.1 120 (fun z => by have := z.1; omega), s120]; exact z7
      · intro v hv j a b
        rw [ak_Rk (by omega)]; exact sw.bi v hv j a b
      · have nb : nbr N (ak 0 N k S) = nbr N S := smN_c N (fun v _ => by rw [ak_Rk (by omega)])
        rw [nb]
        have := x2 b (by omega)
        have := sw.pb b hb
        have : (if b < N ∧ bt (qm N S k) b = true then 1 else 0 : Nat) ≤ 1 := by split <;> omega
        omega
    · obtain ⟨M2, e2, r2, f2⟩ := r.can (n := n) sw.n h16 sw.t (v := k) (by omega) (by omega)
      refine ⟨-1, M, M2, ?_, r.1.io (by decide) (by decide) (by decide), ?_, N, A, Q, S, ?_, r2, ?_, sw.mo, hQ⟩
      · rw [f_X9_ask, chk_t xg.1, xg.2.1, bnd_e, sb.f, ndc sb hk h16, obd_s, if_neg ne10, xg.2.2.2.1, bnd_e, cs_f q, may, obd_s, if_neg c, if_pos rfl]
      · show f_X10_ask n 120 (nI k) M = _
        rw [f_X10_ask, rs_f r.1, ndr r sw.n hk h16, obd_s, if_neg ne10, e2, obd2_s, if_neg c, if_pos rfl]
      · exact w.1.ref f2.1 (fun o ho b => f2.2.1 o (fun z => ho (by unfold P2 at z; omega)) b)
      · rw [f2.2.1 120 (by unfold P2; decide)]; exact z7
/-! ===== leave, withdraw, bring, goOn ===== -/
theorem SW.st {N A A' i : Nat} {S S' : St} (h : SW N A i S) (hR : ∀ k j, k = 17 ∨ k = 20 → xR S' k j = xR S k j) (iv : Inv N A' S') (ix : IX N S') (iz : IZ N S') (ha : A' ≤ 20 * (i + 1)) (pb : PB N (i + 1) S') : SW N A' (i + 1) S' :=
  ⟨h.1, by rw [hR 20 0 (by omega)]; exact h.n, by rw [hR 20 1 (by omega)]; exact h.t2, by rw [hR 20 1 (by omega)]; exact h.t, fun v hv j a b => by rw [hR 17 v (by omega)]; exact h.bi v hv j a b, iv, ix, iz, ha, pb⟩
theorem PB.st {N i : Nat} {S S' : St} (h : PB N i S) (h16 : N ≤ 16) (h7 : ∀ v, xR S' 7 v = xR S 7 v) (hp : ∀ a, a < 16 → Ph a S' ≤ Ph a S + 1) : PB N (i + 1) S' := fun a ha => by
  have nb : nbr N S' = nbr N S := smN_c N (fun v _ => by rw [h7])
  rw [nb]
  have := hp a (by omega)
  have := h a ha
  omega
theorem WJ.fin {M1 M2 : Mem} {N A' i : Nat} {Q' : Nat → Int32} {S' : St} (cw : CW M1 N Q' S') (r : RV M2 false 0 S' [] []) (e : M2.1 = M1.1) (hI : ∀ o, ¬ (120 ≤ o ∧ o ≤ 130) → ∀ b, mI M2 o b = mI M1 o b) (z7 : mI M2 120 7 = 0) (sw : SW N A' (i + 1) S') (hQ : ∀ v, v < N → qm N S' v = Q' v) : WI (i + 1) M2 :=
  ⟨N, A', Q', S', cw.ref e hI, r, z7, sw, hQ⟩
theorem PA_n {o : Nat} (h : ¬ (120 ≤ o ∧ o ≤ 130)) : ¬ PA o := fun z => h ⟨by have := z.1; omega, by have := z.2; omega⟩
theorem PA_120 : ¬ PA 120 := fun z => by have := z.1; omega
theorem has_st {M : Mem} {h X Y N : Nat} {t : Int32} {Q : Nat → Int32} {S : St} {pb pt : List Row4} (p : HV M h X Y t N Q S pb pt) {k : Nat} (hk : k < 16) : f_X9_has (mI M h 7) (nI k) M = some (if xR S 0 k = 2 then 1 else 0) ∧ f_X9_has (mI M h 8) (nI k) M = some (if xR S 0 k = 1 then 1 else 0) ∧ f_X9_has (mI M h 9) (nI k) M = some (if xR S 7 k = 1 then 1 else 0) := by
  obtain ⟨_, g7, g8, g9, _⟩ := p.2.2.1
  refine ⟨?_, ?_, ?_⟩
  · rw [f_has9 _ (by omega), g7 k (by omega)]
    by_cases c : xR S 0 k = 2
    · rw [if_pos c, if_pos (decide_eq_true (show k < 16 ∧ xR S 0 k = 2 from ⟨hk, c⟩))]
    · rw [if_neg c, if_neg (fun z => c (of_decide_eq_true z).2)]
  · rw [f_has9 _ (by omega), g8 k (by omega)]
    by_cases c : xR S 0 k = 1
    · rw [if_pos c, if_pos (decide_eq_true (show k < 16 ∧ xR S 0 k = 1 from ⟨hk, c⟩))]
    · rw [if_neg c, if_neg (fun z => c (of_decide_eq_true z).2)]
  · rw [f_has9 _ (by omega), g9 k (by omega)]
    by_cases c : xR S 7 k = 1
    · rw [if_pos c, if_pos (decide_eq_true (show k < 16 ∧ xR S 7 k = 1 from ⟨hk, c⟩))]
    · rw [if_neg c, if_neg (fun z => c (of_decide_eq_true z).2)]
/-- one leaves, or withdraws: class and reference -/
theorem lvw {M : Mem} {N A i k n : Nat} {Q : Nat → Int32} {S : St} (w : WJ M N A i Q S) (hi : i ≤ 511) (hk : k < N) (h0 : xR S 0 k ≠ 0) (hn : 100000 ≤ n) : ∃ M1 M2, f_X2_finish n 14 (nI k) M = some M1 ∧ isO M1 10 120 ∧ RV M1 false 0 S [] [] ∧ f_X10_leaveNow n 120 (nI k) M1 = some M2 ∧ WI (i + 1) M2 := by
  obtain ⟨X, Y, L, p, sb, xg, xr⟩ := id w.1
  obtain ⟨_, r, z7, sw, hQ⟩ := id w
  have h16 := sw.n16
  have h2 := sw.n2
  have fl0 := sw.tfl hi
  obtain ⟨M1, e1, p1, f1⟩ := p.tlv (n := n) h16 (v := k) (by omega) (by omega) (by omega)
  have pp : ∀ X Y, HV M 14 X Y 0 N Q S [] [] → HV M1 14 X Y 0 N Q (lv 0 N k S) [] [] := fun X Y p' => by
    obtain ⟨M1', e1', p1', _⟩ := p'.tlv (n := n) h16 (v := k) (by omega) (by omega) (by omega)
    rw [e1] at e1'
    cases e1'
    exact p1'
  have lk : ∀ kk j, 7 ≤ kk → kk ≠ 16 → xR (lv 0 N k S) kk j = xR S kk j := fun kk j a b => by rw [lv_R b, if_neg (by omega)]
  obtain ⟨cw, r1, s120, io⟩ := w.cls f1.w4 pp (fun kk j hk => lk kk j (by omega) (by omega))
  obtain ⟨M2, e2, r2, f2⟩ := r1.tlv (n := n) sw.n h16 (v := k) (by omega) (by omega) (by omega)
  obtain ⟨x1, x2⟩ := lv_X sw.inv h16 sw.ix hk h0 0
  refine ⟨M1, M2, e1, io, r1, e2, WJ.fin cw r2 f2.1 (fun o ho b => f2.2.1 o (PA_n ho) b) (by rw [f2.2.1 120 PA_120, s120]; exact z7) (sw.st (fun kk j hk => lk kk j (by omega) (by omega)) (sw.inv.tlv h16 hk h0 0) x1 (sw.iz.tlv 0) (by have := sw.a; omega) (sw.pb.st h16 (fun v => lk 7 v (by decide) (by decide)) (fun a ha => by have := x2 a ha; split at this <;> omega))) (fun v hv => ?_)⟩
  have kq : Qk S (lv 0 N k S) := fun kk hk j => lk kk j (by omega) (by omega)
  rw [kq.m]; exact hQ v hv
theorem op22 {M : Mem} {i n : Nat} (h : WI i M) (hi : i ≤ 511) (a : Int32) (hn : 100000 ≤ n) : Okk i (f_X9_leave n 0 a M) (fun M1 => f_X10_leave n 120 a M1) := by
  obtain ⟨N, A, Q, S, w⟩ := h
  obtain ⟨X, Y, L, p, sb, xg, xr⟩ := id w.1
  obtain ⟨_, r, z7, sw, hQ⟩ := id w
  have h16 := sw.n16
  have h2 := sw.n2
  rcases out_in (N := N) (by omega) a with ha | ⟨k, hk, rfl⟩
  · refine Okk.same w (r := 0) ?_ ?_
    · rw [f_X9_leave, chk_t xg.1, xg.2.1, bnd_e, sb.f, ndc0 sb ha, obd_s, if_pos rfl]
    · show f_X10_leave n 120 a M = _
      rw [f_X10_leave, rs_f r.1, ndr0 r sw.n (by omega) h16 ha, obd_s, if_pos rfl]
  · have hs := (has_st p (k := k) (by omega)).1
    by_cases c : xR S 0 k = 2
    · obtain ⟨M1, M2, e1, io, r1, e2, wi⟩ := lvw w hi hk (by rw [c]; decide) hn
      refine ⟨1, M1, M2, ?_, io, ?_, wi⟩
      · rw [f_X9_leave, chk_t xg.1, xg.2.1, bnd_e, sb.f, ndc sb hk h16, obd_s, if_neg ne10, xg.2.2.2.1, bnd_e, cs_f p.1, hs, obd_s, if_pos c, if_neg ne10, bnd_e, cs_f p.1, e1, obd_s]
      · show f_X10_leave n 120 (nI k) M1 = _
        rw [f_X10_leave, rs_f r1.1, ndr r1 sw.n hk h16, obd_s, if_neg ne10, r1.get0 (by omega), obd_s, if_pos c, e2, obd_s]
    · refine Okk.same w (r := 0) ?_ ?_
      · rw [f_X9_leave, chk_t xg.1, xg.2.1, bnd_e, sb.f, ndc sb hk h16, obd_s, if_neg ne10, xg.2.2.2.1, bnd_e, cs_f p.1, hs, obd_s, if_neg c, if_pos rfl]
      · show f_X10_leave n 120 (nI k) M = _
        rw [f_X10_leave, rs_f r.1, ndr r sw.n hk h16, obd_s, if_neg ne10, r.get0 (by omega), obd_s, if_neg c]
theorem op24 {M : Mem} {i n : Nat} (h : WI i M) (hi : i ≤ 511) (a : Int32) (hn : 100000 ≤ n) : Okk i (f_X9_withdraw n 0 a M) (fun M1 => f_X10_withdraw n 120 a M1) := by
  obtain ⟨N, A, Q, S, w⟩ := h
  obtain ⟨X, Y, L, p, sb, xg, xr⟩ := id w.1
  obtain ⟨_, r, z7, sw, hQ⟩ := id w
  have h16 := sw.n16
  have h2 := sw.n2
  rcases out_in (N := N) (by omega) a with ha | ⟨k, hk, rfl⟩
  · refine Okk.same w (r := 0) ?_ ?_
    · rw [f_X9_withdraw, chk_t xg.1, xg.2.1, bnd_e, sb.f, ndc0 sb ha, obd_s, if_pos rfl]
    · show f_X10_withdraw n 120 a M = _
      rw [f_X10_withdraw, rs_f r.1, ndr0 r sw.n (by omega) h16 ha, obd_s, if_pos rfl]
  · have hs := (has_st p (k := k) (by omega)).2.1
    by_cases c : xR S 0 k = 1
    · obtain ⟨M1, M2, e1, io, r1, e2, wi⟩ := lvw w hi hk (by rw [c]; decide) hn
      refine ⟨1, M1, M2, ?_, io, ?_, wi⟩
      · rw [f_X9_withdraw, chk_t xg.1, xg.2.1, bnd_e, sb.f, ndc sb hk h16, obd_s, if_neg ne10, xg.2.2.2.1, bnd_e, cs_f p.1, hs, obd_s, if_pos c, if_neg ne10, bnd_e, cs_f p.1, e1, obd_s]
      · show f_X10_withdraw n 120 (nI k) M1 = _
        rw [f_X10_withdraw, rs_f r1.1, ndr r1 sw.n hk h16, obd_s, if_neg ne10, r1.get0 (by omega), obd_s, if_pos c, e2, obd_s]
    · refine Okk.same w (r := 0) ?_ ?_
      · rw [f_X9_withdraw, chk_t xg.1, xg.2.1, bnd_e, sb.f, ndc sb hk h16, obd_s, if_neg ne10, xg.2.2.2.1, bnd_e, cs_f p.1, hs, obd_s, if_neg c, if_pos rfl]
      · show f_X10_withdraw n 120 (nI k) M = _
        rw [f_X10_withdraw, rs_f r.1, ndr r sw.n hk h16, obd_s, if_neg ne10, r.get0 (by omega), obd_s, if_neg c]
/-! ===== bring, breakDown, mend ===== -/
theorem gr_50 {t : Int32} {N v a : Nat} {S : St} (h1 : xR S 0 v = 1) : (xR (gr t N v a S) 5 v = 0 ∨ xR (gr t N v a S) 0 v = 1) ∧ xR (gr t N v a S) 0 v ≠ 0 := by
  unfold gr
  simp only []
  split
  · refine ⟨Or.inl ?_, ?_⟩
    · rw [en_R (by decide), if_neg (by omega), if_pos ⟨rfl, rfl⟩]
    · rw [en_R (by decide), if_pos ⟨rfl, rfl⟩]; decide
  · have e : xR (uR (uR (uR S 4 v (bon (xR S 4 v) a)) 5 v (bof (xR S 5 v) a)) 6 v (bof (xR S 6 v) a)) 0 v = 1 := by
      rw [xR_uR, if_neg (by omega), xR_uR, if_neg (by omega), xR_uR, if_neg (by omega)]; exact h1
    rw [e]
    exact ⟨Or.inr rfl, by decide⟩
/-- one that asks steps: IZ stays -/
theorem IZ.asr {N v : Nat} {S S' : St} (h : IZ N S) (h1 : xR S 0 v = 1) (hu : ∀ k u, u ≠ v → k = 0 ∨ k = 3 ∨ k = 5 → xR S' k u = xR S k u) (h7 : ∀ u, xR S' 7 u = xR S 7 u) (h8 : ∀ u, xR S' 8 u = xR S 8 u) (h5 : xR S' 5 v = 0 ∨ xR S' 0 v = 1) (h0 : xR S' 0 v ≠ 0) : IZ N S' := by
  obtain ⟨z1, z2, z3⟩ := h
  refine ⟨fun u hu' i hi hb => ?_, fun u hu' q => ?_, fun u a b => ?_⟩
  · by_cases c : u = v
    · subst c
      rcases h5 with h5 | h5
      · rw [h5, b_0] at hb; cases hb
      · exact h5
    · rw [hu 5 u c (by omega)] at hb
      rw [hu 0 u c (by omega)]; exact z1 u hu' i hi hb
  · by_cases c : u = v
    · subst c; exact absurd q h0
    · rw [hu 0 u c (by omega)] at q
      rw [hu 3 u c (by omega)]; exact z2 u hu' q
  · rw [h7, h8]; exact z3 u a b
theorem IZ.tbr {N A : Nat} {S : St} (hZ : IZ N S) (h : Inv N A S) (h16 : N ≤ 16) {f g : Nat} (hf : f < N) (hg : g < N) (t : Int32) : IZ N (br t N f g S) := by
  unfold br
  cases hx : xL S (16 * f + g) with
  | nil => exact hZ
  | cons x r =>
    simp only []
    unfold rd
    simp only []
    generalize hS3 : (if x.2.1 ≤ xR (wt N x.1.toNatClampNeg f g x.2.1 (uL S (16 * f + g) r)) 1 g then wt N x.1.toNatClampNeg f g x.2.1 (uL S (16 * f + g) r) else uR (wt N x.1.toNatClampNeg f g x.2.1 (uL S (16 * f + g) r)) 1 g x.2.1) = S3
    have rS : ∀ k, k < 11 → k ≠ 1 → ∀ i, xR S3 k i = xR S k i := fun k hk h1 i => by
      rw [← hS3, clk_R h1, wt_R (by omega) (by omega) (by omega)]; rfl
    have z : IZ N S3 := hZ.cg (fun k v _ hk => rS k (by omega) (by omega) v) (fun v _ _ => rS 8 (by omega) (by omega) v)
    split
    · exact z.cg (fun k v _ hk => rq_R (by omega) (by omega)) (fun v a _ => rq_R (Or.inl (by omega)) (by decide))
    · split
      · exact z.cg (fun k v _ hk => yl_R (by omega) (by omega)) (fun v a _ => yl_R (Or.inl (by omega)) (by decide))
      · split
        · exact z.cg (fun k v _ hk => rl_R (by omega) (by omega)) (fun v a _ => rl_R (Or.inl (by omega)) (by decide))
        · split
          · rename_i c
            split
            · obtain ⟨g5, g0⟩ := gr_50 (t := t) (N := N) (v := g) (a := f) c.1
              exact z.asr c.1 (fun k u hu hk => gr_R (by omega) (Or.inl hu)) (fun u => gr_R (by decide) (by omega)) (fun u => gr_R (by decide) (by omega)) g5 g0
            · split
              · exact z.asr c.1 (fun k u hu hk => fd_R (by omega) (Or.inl hu)) (fun u => fd_R (by decide) (by omega)) (fun u => fd_R (by decide) (by omega)) (Or.inl fd_5) (by rw [fd_R (by decide) (by omega), c.1]; decide)
              · exact z.asr c.1 (fun k u hu hk => iq_R (by omega) (Or.inl hu)) (fun u => iq_R (by decide) (by omega)) (fun u => iq_R (by decide) (by omega)) (Or.inr (by rw [iq_R (by decide) (by omega)]; exact c.1)) (by rw [iq_R (by decide) (by omega), c.1]; decide)
          · exact z
theorem br_19 {t : Int32} {N f g : Nat} {S : St} {k i : Nat} (hk : 17 ≤ k ∧ k ≤ 20 ∧ k ≠ 18) : xR (br t N f g S) k i = xR S k i := by
  unfold br
  cases hx : xL S (16 * f + g) with
  | nil => rfl
  | cons x r =>
    simp only []
    unfold rd
    simp only []
    generalize hS3 : (if x.2.1 ≤ xR (wt N x.1.toNatClampNeg f g x.2.1 (uL S (16 * f + g) r)) 1 g then wt N x.1.toNatClampNeg f g x.2.1 (uL S (16 * f + g) r) else uR (wt N x.1.toNatClampNeg f g x.2.1 (uL S (16 * f + g) r)) 1 g x.2.1) = S3
    have rS : xR S3 k i = xR S k i := by
      rw [← hS3, clk_R (by omega), wt_R (by omega) (by omega) (by omega)]; rfl
    split
    · rw [rq_R (by omega) (by omega)]; exact rS
    · split
      · rw [yl_R (by omega) (by omega)]; exact rS
      · split
        · rw [rl_R (by omega) (by omega)]; exact rS
        · split
          · split
            · unfold gr
              simp only []
              split
              · rw [en_12 (by omega), if_neg (by omega), if_neg (by omega), if_neg (by omega), xR_uR, if_neg (by omega), xR_uR, if_neg (by omega), xR_uR, if_neg (by omega)]; exact rS
              · rw [xR_uR, if_neg (by omega), xR_uR, if_neg (by omega), xR_uR, if_neg (by omega)]; exact rS
            · split
              · rw [fd_R (by omega) (by omega)]; exact rS
              · rw [iq_R (by omega) (by omega)]; exact rS
          · exact rS
theorem op23 {M : Mem} {i n : Nat} (h : WI i M) (hi : i ≤ 511) (a b : Int32) (hn : 100000 ≤ n) : Okk i (f_X9_bring n 0 a b M) (fun M1 => f_X10_bring n 120 a b M1) := by
  obtain ⟨N, A, Q, S, w⟩ := h
  obtain ⟨X, Y, L, p, sb, xg, xr⟩ := id w.1
  obtain ⟨_, r, z7, sw, hQ⟩ := id w
  have h16 := sw.n16
  have h2 := sw.n2
  have fl0 := sw.tfl hi
  have c35 : f_X2_bringFirst_35 n 14 a b (-1) M = some (-1, M) := by rw [f_X2_bringFirst_35, if_pos rfl]
  have r26 : f_X10_bring_26 n 120 (-1) M = some (-1, M) := by rw [f_X10_bring_26, if_pos rfl]
  have hp := p.1
  rcases out_in (N := N) (by omega) a with ha | ⟨f, hf, rfl⟩
  · refine Okk.same w (r := -1) ?_ ?_
    · rw [f_X9_bring, chk_t xg.1, xg.2.2.2.1, bnd_e, cs_f hp, f_X2_bringFirst, cs_f hp, cs_h0 hp, bnd_e, sb.f, ndc0 sb ha, obd_s, if_pos rfl, c35, obd2_s]
    · show f_X10_bring n 120 a b M = _
      rw [f_X10_bring, rs_f r.1, ndr0 r sw.n (by omega) h16 ha, obd_s, if_pos rfl, r26]
  · rcases out_in (N := N) (by omega) b with hb | ⟨g, hg, rfl⟩
    · refine Okk.same w (r := -1) ?_ ?_
      · rw [f_X9_bring, chk_t xg.1, xg.2.2.2.1, bnd_e, cs_f hp, f_X2_bringFirst, cs_f hp, cs_h0 hp, bnd_e, sb.f, ndc sb hf h16, obd_s, if_neg ne10, bnd_e, sb.f, ndc0 sb hb, obd_s, if_pos rfl, c35, obd2_s]
      · show f_X10_bring n 120 (nI f) b M = _
        rw [f_X10_bring, rs_f r.1, ndr r sw.n hf h16, obd_s, if_neg ne10, ndr0 r sw.n (by omega) h16 hb, obd_s, if_pos rfl, r26]
    · cases hx : xL S (16 * f + g) with
      | nil =>
        refine Okk.same w (r := -1) ?_ ?_
        · rw [f_X9_bring, chk_t xg.1, xg.2.2.2.1, bnd_e, cs_f hp, f_X2_bringFirst, cs_f hp, cs_h0 hp, bnd_e, sb.f, ndc sb hf h16, obd_s, if_neg ne10, bnd_e, sb.f, ndc sb hg h16, obd_s, if_neg ne10, cs_h1 hp, bnd_e, cs_p hp, PV.tno hp p.2.1 (by omega) (by omega) hx, obd2_s, c35, obd2_s]
        · show f_X10_bring n 120 (nI f) (nI g) M = _
          rw [f_X10_bring, rs_f r.1, ndr r sw.n hf h16, obd_s, if_neg ne10, ndr r sw.n hg h16, obd_s, if_neg ne10, r.tno (by omega) (by omega) hx (by omega), obd_s, r26]
      | cons x rr =>
        have hI := sw.inv
        have hA := sw.a
        obtain ⟨M1, e1, p1, f1⟩ := p.tbr (n := n) hI (by omega) h2 h16 hf hg hx (by omega) (by omega)
        have pp : ∀ X Y, HV M 14 X Y 0 N Q S [] [] → HV M1 14 X Y 0 N Q (br 0 N f g S) [] [] := fun X Y p' => by
          obtain ⟨M1', e1', p1', _⟩ := p'.tbr (n := n) hI (by omega) h2 h16 hf hg hx (by omega) (by omega)
          rw [e1] at e1'
          cases e1'
          exact p1'
        have kq : Qk S (br 0 N f g S) := fun k z j => (Kq.tbr S 0 N f g).1 k j z
        obtain ⟨cw, r1, s120, io⟩ := w.cls f1.w4 pp (fun kk j hk => br_19 (by omega))
        have Lk := Lok_of hI (by omega) (show 16 * f + g < 256 by omega) (x := x) (by rw [hx]; simp)
        have hH : Hok S f g x.2.1 := Hok_of (N := N) (A := A) (v0 := 99) (a0 := 99) (e0 := none) hI h16 hg x.2.1
        obtain ⟨M2, e2, r2, f2⟩ := r1.tbr (n := n) sw.n h2 h16 (f := f) (g := g) (by omega) (by omega) hx Lk hH (by omega) (by omega)
        obtain ⟨x1, x2⟩ := br_X hI h16 (by omega) sw.ix hf hg 0
        have tat := r1.tat (n := n) (f := f) (g := g) (by omega) (by omega) hx (by omega)
        have lt := (r1.take (l := 16 * f + g) (by omega) hx (n := n) (by omega)).2.1
        refine ⟨x.1, M1, M2, ?_, io, ?_, WJ.fin cw r2 f2.1 (fun o ho b => f2.2.1 o (PA_n ho) b) (by rw [f2.2.1 120 PA_120, s120]; exact z7) (sw.st (fun kk j hk => br_19 (by omega)) (hI.tbr h16 (by omega) hf hg 0) x1 (sw.iz.tbr hI h16 hf hg 0) (by omega) (sw.pb.st h16 (fun v => kq 7 (by omega) v) (fun a ha => by have := x2 a ha; omega))) (fun v hv => by rw [kq.m]; exact hQ v hv)⟩
        · rw [f_X9_bring, chk_t xg.1, xg.2.2.2.1, bnd_e, cs_f hp, e1, obd2_s]
        · show f_X10_bring n 120 (nI f) (nI g) M1 = _
          rw [f_X10_bring, rs_f r1.1, ndr r1 sw.n hf h16, obd_s, if_neg ne10, ndr r1 sw.n hg h16, obd_s, if_neg ne10, tat, obd_s, f_X10_bring_26, if_neg (by
            intro z
            have := nI_pos (n := (flr (xL S) 0 (16 * f + g)).length) (by omega)
            rw [z] at this
            exact this (by decide)), rs_f r1.1, e2, obd2_s]
theorem op25 {M : Mem} {i n : Nat} (h : WI i M) (hi : i ≤ 511) (a : Int32) (hn : 100000 ≤ n) : Okk i (f_X9_breakDown n 0 a M) (fun M1 => f_X10_breakDown n 120 a M1) := by
  obtain ⟨N, A, Q, S, w⟩ := h
  obtain ⟨X, Y, L, p, sb, xg, xr⟩ := id w.1
  obtain ⟨_, r, z7, sw, hQ⟩ := id w
  have h16 := sw.n16
  have h2 := sw.n2
  have fl0 := sw.tfl hi
  have hp := p.1
  have hA := sw.a
  rcases out_in (N := N) (by omega) a with ha | ⟨x, hx, rfl⟩
  · refine Okk.same w (r := 0) ?_ ?_
    · rw [f_X9_breakDown, chk_t xg.1, xg.2.1, bnd_e, sb.f, ndc0 sb ha, obd_s, if_pos rfl]
    · show f_X10_breakDown n 120 a M = _
      rw [f_X10_breakDown, rs_f r.1, ndr0 r sw.n (by omega) h16 ha, obd_s, if_pos rfl]
  · obtain ⟨s7, s8, s9⟩ := has_st p (k := x) (by omega)
    have hw : f_X2_howIs 14 (nI x) M = some (if xR S 0 x = 2 then 2 else if xR S 0 x = 1 then 1 else 0) := by
      rw [f_X2_howIs, cs_f hp, s7, obd_s]
      by_cases c : xR S 0 x = 2
      · rw [if_pos c, if_neg ne10, if_pos c]
      · rw [if_neg c, if_pos rfl, s8, obd_s, if_neg c]
        by_cases d : xR S 0 x = 1
        · rw [if_pos d, if_neg ne10]
        · rw [if_neg d, if_pos rfl]
    by_cases c0 : xR S 0 x = 0
    · have hw0 : f_X2_howIs 14 (nI x) M = some 0 := by
        rw [hw, c0, if_neg (by decide), if_neg (by decide)]
      by_cases c7 : xR S 7 x = 1
      · refine Okk.same w (r := 0) ?_ ?_
        · rw [f_X9_breakDown, chk_t xg.1, xg.2.1, bnd_e, sb.f, ndc sb hx h16, obd_s, if_neg ne10, xg.2.2.2.1, bnd_e, cs_f hp, hw0, obd_s, if_pos rfl, bnd_e, cs_f hp, s9, obd_s, if_pos c7, if_neg ne10]
        · show f_X10_breakDown n 120 (nI x) M = _
          rw [f_X10_breakDown, rs_f r.1, ndr r sw.n hx h16, obd_s, if_neg ne10, r.get0 (by omega), obd_s, if_pos c0, r.get7 (by omega), obd_s, if_pos c7]
      · have n7 : xR S 7 x = 0 := (sw.h7 x (by omega)).resolve_right c7
        have nn : N * N ≤ 256 := Nat.mul_le_mul h16 h16
        have nn2 : 2 * N * N = 2 * (N * N) := Nat.mul_assoc 2 N N
        have h3 := sw.iz.2.1 x (by omega) c0
        obtain ⟨M1, e1, p1, f1⟩ := p.brkN (n := n) sb sw.inv h16 sw.t sw.t2 (fun v a b => (sw.iz.2.2 v a b).1) hx h3 (by omega) (by omega)
        have pp : ∀ X Y, HV M 14 X Y 0 N Q S [] [] → HV M1 14 X Y 0 N (fun v => qm N (uR S 7 x 1) v) (bd 0 N x S) [] [] := fun X Y p' => by
          obtain ⟨M1', e1', p1', _⟩ := p'.brkN (n := n) sb sw.inv h16 sw.t sw.t2 (fun v a b => (sw.iz.2.2 v a b).1) hx h3 (by omega) (by omega)
          rw [e1] at e1'
          cases e1'
          exact p1'
        obtain ⟨b1, b2, b3, b4, b5⟩ := bd_all (t := 0) sw.inv sw.ix sw.iz sw.bi h16 sw.t hx c0 (by omega)
        obtain ⟨cw, r1, s120, io⟩ := w.cls f1 pp (fun kk j hk => b5 kk j (by omega) (by omega) (by omega) (by omega))
        obtain ⟨M2, e2, r2, f2⟩ := r1.tbd (n := n) sw.inv sw.n h16 sw.t hx c0 n7 (by omega) (ndr r1 sw.n hx h16) (by omega)
        have b7 : ∀ v, xR (bd 0 N x S) 7 v = if v = x then 1 else xR S 7 v := fun v => by
          have gk : ∀ (ws : List Nat) (U : St), xR (gdl 0 N x ws U) 7 v = xR U 7 v := by
            intro ws
            induction ws with
            | nil => intro U; rfl
            | cons y ws ih =>
              intro U
              unfold gdl
              rw [List.foldl_cons]
              have q := ih (if y = x then U else if bt (xR U 3 y) x then gdw 0 N x y U else U)
              unfold gdl at q
              rw [q]
              split
              · rfl
              · split
                · exact gdw_Rk (by omega)
                · rfl
          unfold bd
          rw [gk, fgl_R (by omega), b0_R]
          by_cases c : v = x
          · rw [if_pos ⟨c, rfl⟩, if_pos c]
          · rw [if_neg (fun z => c z.1), if_neg (by omega), if_neg (by omega), if_neg c]
        have nb : nbr N (bd 0 N x S) = nbr N S + 1 := by
          have := smN_at (f := fun a => if xR (bd 0 N x S) 7 a = 1 then 1 else 0) (g := fun a => if xR S 7 a = 1 then 1 else 0) (v := x) N hx (fun u hu hn => by rw [b7 u, if_neg hn])
          rw [show (if xR S 7 x = 1 then 1 else 0 : Nat) = 0 from if_neg c7, b7 x, if_pos rfl, if_pos rfl] at this
          exact this
        have kq : Qk (uR S 7 x 1) (bd 0 N x S) := fun k hk j => by
          rcases hk with rfl | rfl | rfl
          · rw [b7 j, xR_uR]
            by_cases c : j = x
            · rw [if_pos c, if_pos ⟨rfl, c⟩]
            · rw [if_neg c, if_neg (fun z => c z.2)]
          · rw [b5 17 j (by omega) (by omega) (by omega) (by omega), xR_uR, if_neg (by omega)]
          · rw [b5 20 j (by omega) (by omega) (by omega) (by omega), xR_uR, if_neg (by omega)]
        refine ⟨1, M1, M2, ?_, io, e2, WJ.fin cw r2 f2.1 (fun o ho b => f2.2.1 o (PA_n ho) b) (by rw [f2.2.1 120 PA_120, s120]; exact z7) (sw.st (fun kk j hk => b5 kk j (by omega) (by omega) (by omega) (by omega)) b1 b2 b3 (by omega) (fun y hy => ?_)) (fun v hv => kq.m N v)⟩
        · rw [f_X9_breakDown, chk_t xg.1, xg.2.1, bnd_e, sb.f, ndc sb hx h16, obd_s, if_neg ne10, xg.2.2.2.1, bnd_e, cs_f hp, hw0, obd_s, if_pos rfl, bnd_e, cs_f hp, s9, obd_s, if_neg c7, if_pos rfl, bnd_e, cs_f hp, e1, obd_s]
        · rw [nb]
          have := b4 y (by omega)
          have := sw.pb y hy
          rw [Nat.mul_add]
          omega
    · refine Okk.same w (r := 0) ?_ ?_
      · have hw1 : ∃ y, f_X2_howIs 14 (nI x) M = some y ∧ ¬ y = 0 := by
          rw [hw]
          by_cases d : xR S 0 x = 2
          · exact ⟨2, by rw [if_pos d], by decide⟩
          · by_cases d1 : xR S 0 x = 1
            · exact ⟨1, by rw [if_neg d, if_pos d1], by decide⟩
            · rcases (sw.inv.1 x (by omega)).1 with z | z | z
              · exact absurd z c0
              · exact absurd z d1
              · exact absurd z d
        obtain ⟨y, hy, ny⟩ := hw1
        rw [f_X9_breakDown, chk_t xg.1, xg.2.1, bnd_e, sb.f, ndc sb hx h16, obd_s, if_neg ne10, xg.2.2.2.1, bnd_e, cs_f hp, hy, obd_s, if_neg ny]
      · show f_X10_breakDown n 120 (nI x) M = _
        rw [f_X10_breakDown, rs_f r.1, ndr r sw.n hx h16, obd_s, if_neg ne10, r.get0 (by omega), obd_s, if_neg c0]
/-! ===== mend, goOn ===== -/
theorem fl_nil {S : St} (h : fl S = []) {l : Nat} (hl : l < 256) : xL S l = [] := by
  have a := congrArg List.length (fl_split S hl)
  rw [h] at a
  simp only [List.length_append, List.length_map, List.length_nil] at a
  exact List.length_eq_zero_iff.mp (by omega)
theorem Ph_idle {a : Nat} {S : St} (hf : fl S = []) (h3 : ∀ v, v < 16 → xR S 3 v = 0 ∧ xR S 5 v = 0) : Ph a S = 0 := by
  have hL : phL a S = 0 := by unfold phL; rw [hf]; rfl
  have hB : phB a S = 0 := by
    unfold phB
    rw [smN_c (g := fun _ => 0) 16 (fun v hv => by
      unfold phv
      rw [(h3 v hv).1, (h3 v hv).2, b_0, if_neg (fun z => by cases z.2), if_neg (by decide)]), smN_k]
  unfold Ph; omega
theorem op26 {M : Mem} {i n : Nat} (h : WI i M) (hi : i ≤ 511) (a : Int32) (hn : 100000 ≤ n) : Okk i (f_X9_mend n 0 a M) (fun M1 => f_X10_mend n 120 a M1) := by
  obtain ⟨N, A, Q, S, w⟩ := h
  obtain ⟨X, Y, L, p, sb, xg, xr⟩ := id w.1
  obtain ⟨_, r, z7, sw, hQ⟩ := id w
  have h16 := sw.n16
  have h2 := sw.n2
  have fl0 := sw.tfl hi
  have hp := p.1
  have hA := sw.a
  have x20 : xR S 20 0 = nI N := sw.n
  rcases out_in (N := N) (by omega) a with ha | ⟨x, hx, rfl⟩
  · refine Okk.same w (r := 0) ?_ ?_
    · rw [f_X9_mend, chk_t xg.1, xg.2.1, bnd_e, sb.f, ndc0 sb ha, obd_s, if_pos rfl]
    · show f_X10_mend n 120 a M = _
      rw [f_X10_mend, rs_f r.1, ndr0 r sw.n (by omega) h16 ha, obd_s, if_pos rfl]
  · obtain ⟨s7, s8, s9⟩ := has_st p (k := x) (by omega)
    by_cases c7 : xR S 7 x = 1
    · have n7 : ¬ xR S 7 x = 0 := by rw [c7]; decide
      obtain ⟨ya, ea, ba⟩ := r.askg sw.n h16 (n := n) (by omega)
      obtain ⟨yi, ei, bi⟩ := r.insd sw.n h16 (n := n) (by omega)
      have ca : mI M 14 8 = ya := by
        apply b_ext
        intro j hj
        rw [p.2.2.1.2.2.1 j hj, ba j hj]
        apply decide_eq_decide.mpr
        constructor
        · rintro ⟨u, v⟩
          refine ⟨?_, v⟩
          apply Decidable.byContradiction
          intro d
          rw [(sw.inv.1 j u).2.1 (by omega)] at v
          exact absurd v (by decide)
        · rintro ⟨u, v⟩; exact ⟨by omega, v⟩
      have ci : mI M 14 7 = yi := by
        apply b_ext
        intro j hj
        rw [p.2.2.1.2.1 j hj, bi j hj]
        apply decide_eq_decide.mpr
        constructor
        · rintro ⟨u, v⟩
          refine ⟨?_, v⟩
          apply Decidable.byContradiction
          intro d
          rw [(sw.inv.1 j u).2.1 (by omega)] at v
          exact absurd v (by decide)
        · rintro ⟨u, v⟩; exact ⟨by omega, v⟩
      have tot : mI M 15 10 = nI (fl S).length := p.tot
      have r850 : mI M 121 850 = nI (fl S).length := r.2.2.2.2.1.1
      have le0 : (nI (fl S).length ≤ 0) ↔ nI (fl S).length = 0 := by
        constructor
        · intro z
          apply Decidable.byContradiction
          intro d
          have : 0 < (fl S).length := by
            apply Decidable.byContradiction
            intro e
            exact d (by rw [show (fl S).length = 0 by omega]; rfl)
          exact nI_ge (a := 0) this (by omega) z
        · intro z; rw [z]; decide
      by_cases cA : ya = 0
      · by_cases cI : yi = 0
        · by_cases cL : nI (fl S).length = 0
          · have f0 : (fl S).length = 0 := (nI_eq (a := (fl S).length) (b := 0) (by omega) (by omega)).mp cL
            have fn : fl S = [] := List.length_eq_zero_iff.mp f0
            have idle : ∀ v, v < 16 → xR S 0 v = 0 := fun v hv => by
              by_cases d : v < N
              · rcases (sw.inv.1 v hv).1 with z | z | z
                · exact z
                · have := bt_z.mp cA v (by omega)
                  rw [ba v (by omega), decide_eq_false_iff_not] at this
                  exact absurd ⟨d, z⟩ this
                · have := bt_z.mp cI v (by omega)
                  rw [bi v (by omega), decide_eq_false_iff_not] at this
                  exact absurd ⟨d, z⟩ this
              · exact (sw.inv.1 v hv).2.1 (by omega)
            obtain ⟨M1, e1, p1, f1⟩ := p.mdN (n := n) sb h16 sw.t sw.t2 sw.h7 (fun v a b => (sw.iz.2.2 v a b).1) hx (by omega)
            have pp : ∀ X Y, HV M 14 X Y 0 N Q S [] [] → HV M1 14 X Y 0 N (fun v => qm N (uR S 7 x 0) v) (uR S 7 x 0) [] [] := fun X Y p' => by
              obtain ⟨M1', e1', p1', _⟩ := p'.mdN (n := n) sb h16 sw.t sw.t2 sw.h7 (fun v a b => (sw.iz.2.2 v a b).1) hx (by omega)
              rw [e1] at e1'
              cases e1'
              exact p1'
            obtain ⟨b1, b2, b3, b4⟩ := md_all sw.inv sw.ix sw.iz hx
            have rk : ∀ k j, k ≠ 7 → xR (uR S 7 x 0) k j = xR S k j := fun k j n => by rw [xR_uR, if_neg (fun z => n z.1)]
            obtain ⟨cw, r1, s120, io⟩ := w.cls f1 pp (fun kk j hk => rk kk j (by omega))
            have r2 := r1.st (vk_n (k := 7) (by decide) (show x < 16 by omega)) 0
            obtain ⟨ya', ea', ba'⟩ := r1.askg sw.n h16 (n := n) (by omega)
            obtain ⟨yi', ei', bi'⟩ := r1.insd sw.n h16 (n := n) (by omega)
            have ya0 : ya' = 0 := bt_z.mpr (fun j hj => by
              rw [ba' j hj]
              apply decide_eq_false
              rintro ⟨u, v⟩
              rw [idle j (by omega)] at v; exact absurd v (by decide))
            have yi0 : yi' = 0 := bt_z.mpr (fun j hj => by
              rw [bi' j hj]
              apply decide_eq_false
              rintro ⟨u, v⟩
              rw [idle j (by omega)] at v; exact absurd v (by decide))
            generalize hM2 : sI M1 121 (ad 7 x) 0 = M2 at r2
            have F : Fr PA M1 M2 := by rw [← hM2]; exact Fr.tad
            refine ⟨1, M1, M2, ?_, io, ?_, WJ.fin cw r2 F.1 (fun o ho b => F.2.1 o (PA_n ho) b) (by rw [F.2.1 120 PA_120, s120]; exact z7) (sw.st (fun kk j hk => rk kk j (by omega)) b1 b2 b3 (by omega) (fun y hy => ?_)) (fun v hv => rfl)⟩
            · rw [f_X9_mend, chk_t xg.1, xg.2.1, bnd_e, sb.f, ndc sb hx h16, obd_s, if_neg ne10, xg.2.2.2.1, bnd_e, cs_f hp, s9, obd_s, if_pos c7, if_neg ne10, bnd_e, cs_f hp, f_X2_isStill, cs_f hp, ci, if_pos cI, ca, if_pos cA, cs_h1 hp, bnd_e, cs_p hp, tot, if_pos cL, obd_s, if_neg ne10, bnd_e, cs_f hp, e1, obd_s]
            · show f_X10_mend n 120 (nI x) M1 = _
              rw [f_X10_mend, rs_f r1.1, ndr r1 sw.n hx h16, obd_s, if_neg ne10, r1.get7 (by omega), obd_s, if_neg n7, ea', obd_s, if_pos ya0, ei', obd_s, if_pos yi0, rs_0 r1.1, bnd_e, rs_fa r1.1, l850, rs_c r1.1 (by decide), mI_c (by decide), r1.2.2.2.2.1.1, if_pos (le0.mpr cL), r1.let7 (by omega), hM2, obd_s]
            · rw [b4 y, Ph_idle fn (fun v hv => ⟨sw.iz.2.1 v hv (idle v hv), bt_z.mpr (fun j hj => by
                cases z : bt (xR S 5 v) j with
                | false => rfl
                | true =>
                  have := sw.iz.1 v hv j hj z
                  rw [idle v hv] at this; exact absurd this (by decide))⟩)]
              exact Nat.zero_le _
          · refine Okk.same w (r := 0) ?_ ?_
            · rw [f_X9_mend, chk_t xg.1, xg.2.1, bnd_e, sb.f, ndc sb hx h16, obd_s, if_neg ne10, xg.2.2.2.1, bnd_e, cs_f hp, s9, obd_s, if_pos c7, if_neg ne10, bnd_e, cs_f hp, f_X2_isStill, cs_f hp, ci, if_pos cI, ca, if_pos cA, cs_h1 hp, bnd_e, cs_p hp, tot, if_neg cL, obd_s, if_pos rfl]
            · show f_X10_mend n 120 (nI x) M = _
              rw [f_X10_mend, rs_f r.1, ndr r sw.n hx h16, obd_s, if_neg ne10, r.get7 (by omega), obd_s, if_neg n7, ea, obd_s, if_pos cA, ei, obd_s, if_pos cI, rs_0 r.1, bnd_e, rs_fa r.1, l850, rs_c r.1 (by decide), mI_c (by decide), r850, if_neg (fun z => cL (le0.mp z))]
        · refine Okk.same w (r := 0) ?_ ?_
          · rw [f_X9_mend, chk_t xg.1, xg.2.1, bnd_e, sb.f, ndc sb hx h16, obd_s, if_neg ne10, xg.2.2.2.1, bnd_e, cs_f hp, s9, obd_s, if_pos c7, if_neg ne10, bnd_e, cs_f hp, f_X2_isStill, cs_f hp, ci, if_neg cI, obd_s, if_pos rfl]
          · show f_X10_mend n 120 (nI x) M = _
            rw [f_X10_mend, rs_f r.1, ndr r sw.n hx h16, obd_s, if_neg ne10, r.get7 (by omega), obd_s, if_neg n7, ea, obd_s, if_pos cA, ei, obd_s, if_neg cI]
      · refine Okk.same w (r := 0) ?_ ?_
        · have still : f_X2_isStill 14 M = some 0 := by
            rw [f_X2_isStill, cs_f hp, ci, ca]
            by_cases cI : yi = 0
            · rw [if_pos cI, if_neg cA]
            · rw [if_neg cI]
          rw [f_X9_mend, chk_t xg.1, xg.2.1, bnd_e, sb.f, ndc sb hx h16, obd_s, if_neg ne10, xg.2.2.2.1, bnd_e, cs_f hp, s9, obd_s, if_pos c7, if_neg ne10, bnd_e, cs_f hp, still, obd_s, if_pos rfl]
        · show f_X10_mend n 120 (nI x) M = _
          rw [f_X10_mend, rs_f r.1, ndr r sw.n hx h16, obd_s, if_neg ne10, r.get7 (by omega), obd_s, if_neg n7, ea, obd_s, if_neg cA]
    · have n7 : xR S 7 x = 0 := (sw.h7 x (by omega)).resolve_right c7
      refine Okk.same w (r := 0) ?_ ?_
      · rw [f_X9_mend, chk_t xg.1, xg.2.1, bnd_e, sb.f, ndc sb hx h16, obd_s, if_neg ne10, xg.2.2.2.1, bnd_e, cs_f hp, s9, obd_s, if_neg c7, if_pos rfl]
      · show f_X10_mend n 120 (nI x) M = _
        rw [f_X10_mend, rs_f r.1, ndr r sw.n hx h16, obd_s, if_neg ne10, r.get7 (by omega), obd_s, if_pos n7]
/-! ===== goOn ===== -/
/-- the moves by draws: the state after them, how many -/
def gN (N : Nat) : Nat → St → Int64 → St × Nat
  | 0, S, _ => (S, 0)
  | k + 1, S, g => if mv0 N S = [] then (S, 0) else ((gN N k (dm 0 N (((mv0 N S)[dk g (mv0 N S).length]?).getD 0) S) (drw g)).1, (gN N k (dm 0 N (((mv0 N S)[dk g (mv0 N S).length]?).getD 0) S) (drw g)).2 + 1)
theorem gN_z {N k : Nat} {S : St} {g : Int64} (h : mv0 N S = []) : gN N k S g = (S, 0) := by
  cases k with
  | zero => rfl
  | succ k => show (if mv0 N S = [] then _ else _) = _; rw [if_pos h]
theorem gN_s {N k c : Nat} {S : St} {g : Int64} (h : mv0 N S ≠ []) (hc : (mv0 N S)[dk g (mv0 N S).length]? = some c) : gN N (k + 1) S g = ((gN N k (dm 0 N c S) (drw g)).1, (gN N k (dm 0 N c S) (drw g)).2 + 1) := by
  show (if mv0 N S = [] then _ else _) = _
  rw [if_neg h, hc]
  rfl
/-- what the moves keep -/
def GI (N A : Nat) (P : Nat → Nat) (S0 S : St) : Prop := Inv N A S ∧ IX N S ∧ IZ N S ∧ (∀ a, a < 16 → Ph a S ≤ P a) ∧ ∀ k i, k = 7 ∨ k = 17 ∨ k = 19 ∨ k = 20 → xR S k i = xR S0 k i
theorem GI.tdm {N A c : Nat} {P : Nat → Nat} {S0 S : St} (h : GI N A P S0 S) (h16 : N ≤ 16) (hA : A < 1048576) (hc : c ∈ mv0 N S) (t : Int32) : GI N A P S0 (dm t N c S) := by
  obtain ⟨hI, hX, hZ, hP, hR⟩ := h
  rcases mv0_in hI h16 hc with ⟨h1, h2, h3, h4⟩ | ⟨h1, h2, h3, h4⟩
  · rw [dm_1 h1]
    obtain ⟨x1, x2⟩ := br_X hI h16 hA hX h2 h3 t
    have kk : Qk S (br t N (c / 16) (c % 16) S) := fun k z i => (Kq.tbr S t N (c / 16) (c % 16)).1 k i z
    refine ⟨hI.tbr h16 hA h2 h3 t, x1, hZ.tbr hI h16 h2 h3 t, fun a ha => Nat.le_trans (x2 a ha) (hP a ha), fun k i hk => ?_⟩
    rcases hk with rfl | hk
    · rw [kk 7 (by omega)]; exact hR 7 i (by omega)
    · rw [br_19 (by omega)]; exact hR k i (by omega)
  · rw [dm_2 h1 h2]
    have h0 : xR S 0 (c - 256) ≠ 0 := by rw [h4]; decide
    obtain ⟨x1, x2⟩ := lv_X hI h16 hX h3 h0 t
    rw [if_pos h4] at x2
    exact ⟨hI.tlv h16 h3 h0 t, x1, hZ.tlv t, fun a ha => Nat.le_trans (x2 a ha) (hP a ha), fun k i hk => by rw [lv_R (by omega), if_neg (by omega)]; exact hR k i (by omega)⟩
theorem GI.tfl {N A : Nat} {P : Nat → Nat} {S0 S : St} (h : GI N A P S0 S) : (fl S).length ≤ smN P 16 :=
  Nat.le_trans (fl_PhS S) (smN_le 16 h.2.2.2.1)
theorem GI.tgN {N A : Nat} {P : Nat → Nat} {S0 : St} (h16 : N ≤ 16) (hA : A < 1048576) : ∀ (k : Nat) (S : St) (g : Int64), Gk g → GI N A P S0 S → GI N A P S0 (gN N k S g).1 := by
  intro k
  induction k with
  | zero => intro S g _ h; exact h
  | succ k ih =>
    intro S g hg h
    by_cases c : mv0 N S = []
    · rw [gN_z c]; exact h
    · have hl : 0 < (mv0 N S).length := List.length_pos_iff.mpr c
      have hm : (mv0 N S).length < 1000 := by
        have e := mvl_0 N S (fun _ => 0)
        have := mvl_len (N := N) S 0 (fun _ => 0)
        rw [e] at this
        omega
      obtain ⟨j, hj, ej⟩ := drk_lt hg hl hm
      have hd : dk g (mv0 N S).length = j := by unfold dk; rw [ej, nI_clamp (by omega)]
      have hc : (mv0 N S)[dk g (mv0 N S).length]? = some ((mv0 N S)[j]) := by rw [hd]; exact List.getElem?_eq_getElem hj
      rw [gN_s c hc]
      exact ih _ _ (Gk_drw hg) (h.tdm h16 hA (List.getElem_mem hj) 0)
theorem cgo {N A : Nat} {P : Nat → Nat} {S0 : St} {Q : Nat → Int32} {X Y T : Nat} (h2 : 2 ≤ N) (h16 : N ≤ 16) (hA : A < 1048576) (hP : smN P 16 + N ≤ 9000) (hT : T ≤ 500) : ∀ (d i n : Nat) (M : Mem) (S : St) (g : Int64), i + d = T → HV M 14 X Y 0 N Q S [] [] → XG M → mL M 14 16 = g → Gk g → GI N A P S0 S → d + 60 ≤ n → ∃ M', f_X9_goOn_28 n 0 (nI T) (nI i) M = some (nI (i + (gN N d S g).2), M') ∧ HV M' 14 X Y 0 N Q (gN N d S g).1 [] [] ∧ FrD M M' 14 := by
  intro d
  induction d with
  | zero =>
    intro i n M S g hi p xg hg hG hI hn
    obtain ⟨n, rfl⟩ : ∃ m, n = m + 1 := ⟨n - 1, by omega⟩
    refine ⟨M, ?_, p, (FrH.rf M 14).D⟩
    rw [f_X9_goOn_28, if_pos (nI_le (by omega) (by omega))]
    rfl
  | succ d ih =>
    intro i n M S g hi p xg hg hG hI hn
    obtain ⟨n, rfl⟩ : ∃ m, n = m + 1 := ⟨n - 1, by omega⟩
    have hl := hI.tfl
    obtain ⟨d1, d2⟩ := p.dr (n := n) hI.1 hA h2 h16 (by omega) (by have := p.1.2.2.2.2.2.2; omega) hg hG (by omega)
    by_cases c : mv0 N S = []
    · rw [gN_z c]
      refine ⟨M, ?_, p, (FrH.rf M 14).D⟩
      rw [f_X9_goOn_28, if_neg (nI_ge (by omega) (by omega)), chk_t xg.1, xg.2.2.2.1, bnd_e, cs_f p.1, d1 c, obd2_s, if_pos rfl]
      rfl
    · obtain ⟨m, M1, hm, e1, p1, g1, f1⟩ := d2 c
      have mem : m ∈ mv0 N S := List.mem_of_getElem? hm
      have hI1 := hI.tdm h16 hA mem 0
      have xg1 := xg.s f1.w4.s1
      obtain ⟨M', e', p', f'⟩ := ih (i + 1) n M1 _ (drw g) (by omega) p1 xg1 g1 (Gk_drw hG) hI1 (by omega)
      rw [gN_s c hm]
      refine ⟨M', ?_, p', f1.tr f'⟩
      rw [f_X9_goOn_28, if_neg (nI_ge (by omega) (by omega)), chk_t xg.1, xg.2.2.2.1, bnd_e, cs_f p.1, e1, obd2_s, if_neg ne10, bnd_e, nI_1, e']
      show some (nI (i + 1 + (gN N d (dm 0 N m S) (drw g)).2), M') = some (nI (i + ((gN N d (dm 0 N m S) (drw g)).2 + 1)), M')
      rw [show i + 1 + (gN N d (dm 0 N m S) (drw g)).2 = i + ((gN N d (dm 0 N m S) (drw g)).2 + 1) by omega]
theorem rgo {N A : Nat} {P : Nat → Nat} {S0 : St} {T : Nat} (h2 : 2 ≤ N) (h16 : N ≤ 16) (hA : A < 1048576) (hP : smN P 16 + N ≤ 9000) (hT : T ≤ 500) (hN : xR S0 20 0 = nI N) (ht : xR S0 20 1 = 1 → N % 2 = 1) : ∀ (d i n : Nat) (M : Mem) (S : St) (g : Int64), i + d = T → RV M false 0 S [] [] → mI M 120 7 = 0 → mL M 120 8 = g → Gk g → GI N A P S0 S → d + 9300 ≤ n → ∃ M', f_X10_goOn_25 n 120 (nI T) (nI i) M = some (nI (i + (gN N d S g).2), M') ∧ RV M' false 0 (gN N d S g).1 [] [] ∧ FrG M M' := by
  intro d
  induction d with
  | zero =>
    intro i n M S g hi r h7 hg hG hI hn
    obtain ⟨n, rfl⟩ : ∃ m, n = m + 1 := ⟨n - 1, by omega⟩
    refine ⟨M, ?_, r, FrG.rf M⟩
    rw [f_X10_goOn_25, if_pos (nI_le (by omega) (by omega))]
    rfl
  | succ d ih =>
    intro i n M S g hi r h7 hg hG hI hn
    obtain ⟨n, rfl⟩ : ∃ m, n = m + 1 := ⟨n - 1, by omega⟩
    have hl := hI.tfl
    have hR := hI.2.2.2.2
    obtain ⟨M1, d1, d2, f1⟩ := r.goO (n := n) hI.1 (by rw [hR 20 0 (by omega)]; exact hN) h2 h16 (by rw [hR 20 1 (by omega)]; exact ht) hA (by omega) h7 hg hG (by omega)
    by_cases c : mv0 N S = []
    · rw [gN_z c]
      obtain ⟨e1, r1, _⟩ := d1 c
      refine ⟨M1, ?_, r1, f1⟩
      rw [f_X10_goOn_25, if_neg (nI_ge (by omega) (by omega)), rs_f r.1, e1, obd2_s, if_pos rfl]
      rfl
    · obtain ⟨m, hm, e1, r1, g1⟩ := d2 c
      have mem : m ∈ mv0 N S := List.mem_of_getElem? hm
      have hI1 := hI.tdm h16 hA mem 0
      obtain ⟨M', e', r', f'⟩ := ih (i + 1) n M1 _ (drw g) (by omega) r1 (by rw [f1.2.2.1 7 (by decide)]; exact h7) g1 (Gk_drw hG) hI1 (by omega)
      rw [gN_s c hm]
      refine ⟨M', ?_, r', f1.tr f'⟩
      rw [f_X10_goOn_25, if_neg (nI_ge (by omega) (by omega)), rs_f r.1, e1, obd2_s, if_neg ne10, bnd_e, nI_1, e']
      show some (nI (i + 1 + (gN N d (dm 0 N m S) (drw g)).2), M') = some (nI (i + ((gN N d (dm 0 N m S) (drw g)).2 + 1)), M')
      rw [show i + 1 + (gN N d (dm 0 N m S) (drw g)).2 = i + ((gN N d (dm 0 N m S) (drw g)).2 + 1) by omega]
theorem WJ.gi {M : Mem} {N A i : Nat} {Q : Nat → Int32} {S : St} (w : WJ M N A i Q S) : GI N A (fun a => Ph a S) S S :=
  ⟨w.2.2.2.1.inv, w.2.2.2.1.ix, w.2.2.2.1.iz, fun _ _ => Nat.le_refl _, fun _ _ _ => rfl⟩
/-- a number up to 500, or none -/
theorem up500 (b : Int32) : (b < 0 ∨ nI 501 ≤ b) ∨ ∃ k, k ≤ 500 ∧ b = nI k := by
  rcases out_in (N := 501) (by decide) b with h | ⟨k, hk, e⟩
  · exact Or.inl h
  · exact Or.inr ⟨k, by omega, e⟩
theorem op39 {M : Mem} {i n : Nat} (h : WI i M) (hi : i ≤ 511) (a b : Int32) (hn : 100000 ≤ n) : Okk i (f_X9_goOn n 0 a b M) (fun M1 => f_X10_goOn n 120 a b M1) := by
  obtain ⟨N, A, Q, S, w⟩ := h
  obtain ⟨X, Y, L, p, sb, xg, xr⟩ := id w.1
  obtain ⟨_, r, z7, sw, hQ⟩ := id w
  have h16 := sw.n16
  have h2 := sw.n2
  have hA := sw.a
  have ps := sw.ps hi
  by_cases ca : a < 0
  · refine Okk.same w (r := -1) ?_ ?_
    · rw [f_X9_goOn, if_pos ca]
    · show f_X10_goOn n 120 a b M = _
      rw [f_X10_goOn, if_pos ca]
  · obtain ⟨s, hs, rfl⟩ := nn_e ca
    rcases up500 b with hb | ⟨T, hT, rfl⟩
    · refine Okk.same w (r := -1) ?_ ?_
      · rw [f_X9_goOn, if_neg ca]
        by_cases cb : b < 0
        · rw [if_pos cb]
        · rw [if_neg cb, if_neg (show ¬ b ≤ (500 : Int32) from fun z => by
            have h1 := hb.resolve_left cb
            have h3 := Int32.le_trans h1 z
            exact absurd h3 (by decide))]
      · show f_X10_goOn n 120 (nI s) b M = _
        rw [f_X10_goOn, if_neg ca, show (500 : Int32) = nI 500 from rfl, show (0 : Int32) = nI 0 from rfl]
        rcases hb with hb | hb
        · rw [show f_X10_isIn b (nI 0) (nI 500) M = some 0 by rw [f_X10_isIn, if_pos (show b < nI 0 from hb)], obd_s, if_pos (show (0 : Int32) = nI 0 from rfl)]
        · have : f_X10_isIn b (nI 0) (nI 500) M = some 0 := by
            rw [f_X10_isIn]
            by_cases cb : b < nI 0
            · rw [if_pos cb]
            · rw [if_neg cb, if_pos (gt3 (N := 500) (by decide) hb)]
          rw [this, obd_s, if_pos (show (0 : Int32) = nI 0 from rfl)]
    · have g0 : Gk ((nI s).toInt64) := lN_Gk hs
      have hP : smN (fun a => Ph a S) 16 + N ≤ 9000 := by
        show PhS S + N ≤ 9000
        omega
      have pL := p.tsL 14 16 ((nI s).toInt64)
      obtain ⟨M1, e1, p1, f1⟩ := cgo (A := A) h2 h16 (by omega) hP hT T 0 n _ S _ (by omega) pL (show XG (sL M 14 16 ((nI s).toInt64)) from xg) (mL_s _ _ _ _) g0 w.gi (by omega)
      have f0 : FrD M (sL M 14 16 ((nI s).toInt64)) 14 := ⟨_, FrH.rf _ _⟩
      have F := (f0.tr f1).w4
      have pp : ∀ X Y, HV M 14 X Y 0 N Q S [] [] → HV M1 14 X Y 0 N Q (gN N T S ((nI s).toInt64)).1 [] [] := fun X Y p' => by
        obtain ⟨M1', e1', p1', _⟩ := cgo (A := A) h2 h16 (by omega) hP hT T 0 n _ S _ (by omega) (p'.tsL 14 16 ((nI s).toInt64)) (show XG (sL M 14 16 ((nI s).toInt64)) from xg) (mL_s _ _ _ _) g0 w.gi (by omega)
        rw [e1] at e1'
        cases e1'
        exact p1'
      have gi := GI.tgN (P := fun a => Ph a S) (S0 := S) h16 (show A < 1048576 by omega) T S _ g0 w.gi
      obtain ⟨cw, r1, s120, io⟩ := w.cls F pp (fun kk j hk => gi.2.2.2.2 kk j (by omega))
      have rL := r1.tsL 120 8 ((nI s).toInt64)
      obtain ⟨M2, e2, r2, f2⟩ := rgo h2 h16 (show A < 1048576 by omega) hP hT sw.n sw.t T 0 n _ S _ (by omega) rL (by show mI M1 120 7 = 0; rw [s120]; exact z7) (mL_s _ _ _ _) g0 w.gi (by omega)
      have kq : Qk S (gN N T S ((nI s).toInt64)).1 := fun k hk j => gi.2.2.2.2 k j (by omega)
      have cI : ∀ o, ¬ (120 ≤ o ∧ o ≤ 130) → ∀ b, mI M2 o b = mI M1 o b := fun o ho b => by
        have := f2.2.1 o (fun z => ho ⟨by have := z.1; omega, by have := z.2; omega⟩) b
        exact this
      have c7 : mI M2 120 7 = 0 := by
        have := f2.2.2.1 7 (by decide)
        rw [this]
        show mI M1 120 7 = 0
        rw [s120]; exact z7
      have sw' : SW N A (i + 1) (gN N T S ((nI s).toInt64)).1 := sw.st (fun kk j hk => gi.2.2.2.2 kk j (by omega)) gi.1 gi.2.1 gi.2.2.1 (by omega) (fun y hy => by
        have nb : nbr N (gN N T S ((nI s).toInt64)).1 = nbr N S := smN_c N (fun v _ => by rw [gi.2.2.2.2 7 v (by omega)])
        rw [nb]
        have h8 := sw.pb y hy
        have h9 : Ph y (gN N T S ((nI s).toInt64)).1 ≤ Ph y S := gi.2.2.2.1 y (by omega)
        omega)
      have c1 : M2.1 = M1.1 := f2.1
      refine ⟨nI (0 + (gN N T S ((nI s).toInt64)).2), M1, M2, ?_, io, ?_, WJ.fin cw r2 c1 cI c7 sw' (fun v hv => by rw [kq.m]; exact hQ v hv)⟩
      · rw [f_X9_goOn, if_neg ca, if_neg (show ¬ nI T < 0 from nI_nlt (b := 0) (Nat.zero_le _) (by omega)), if_pos (show nI T ≤ (500 : Int32) from nI_le (b := 500) hT (by decide)), chk_t xg.1, xg.2.2.2.1, bnd_e, cs_f p.1, bnd_e]
        exact e1
      · show f_X10_goOn n 120 (nI s) (nI T) M1 = _
        rw [f_X10_goOn, if_neg ca, show (500 : Int32) = nI 500 from rfl, f_isI M1 hT (by decide), obd_s, if_neg ne10, rs_f r1.1, bnd_e]
        exact e2
/-! ===== the class starts anew ===== -/
/-- written into one row alone -/
def Wr (P : Nat) (f : Nat → Int32) (M M' : Mem) : Prop := M'.1 = M.1 ∧ (∀ j, mI M' P j = f j) ∧ (∀ o, o ≠ P → ∀ b, mI M' o b = mI M o b) ∧ ∀ o b, mL M' o b = mL M o b
theorem Wr.r (P : Nat) (M : Mem) : Wr P (mI M P) M M := ⟨rfl, fun _ => rfl, fun _ _ _ => rfl, fun _ _ => rfl⟩
theorem Wr.s {P : Nat} {f : Nat → Int32} {M M' : Mem} (w : Wr P f M M') (k : Nat) (x : Int32) : Wr P (fun j => if j = k then x else f j) M (sI M' P k x) := by
  obtain ⟨a, b, c, d⟩ := w
  refine ⟨a, fun j => ?_, fun o n b => by rw [mI_o _ _ _ _ _ n]; exact c o n b, d⟩
  by_cases e : j = k
  · rw [e, mI_s]; exact (if_pos rfl).symm
  · rw [mI_n _ _ _ _ e]; exact (b j).trans (if_neg e).symm
theorem pl_clear {M : Mem} {h v : Nat} (q : CS M h) (hv : v < 16) : ∃ M', f_X4_clear (h + 17 + 2 * v) M = some M' ∧ M'.1 = M.1 ∧ (∀ j, j < 16 → j ≠ 10 → mI M' (h + 17 + 2 * v) j = if j = 6 ∨ j = 7 then -1 else 0) ∧ (∀ o, o ≠ h + 17 + 2 * v → ∀ b, mI M' o b = mI M o b) ∧ ∀ o b, mL M' o b = mL M o b := by
  generalize hP : h + 17 + 2 * v = P
  have c : ∀ {α : Type} {M' : Mem} {f : Nat → Int32} (w : Wr P f M M') (x : Option α), chk (isO M' 4 P) x = x := fun w x => by
    rw [← hP]; exact cs_po (q.e w.1) hv x
  have w0 := Wr.r P M
  have w2 := (w0.s 0 0).s 1 0
  generalize hA : sI (sI M P 0 0) P 1 0 = A at w2
  have w6 := (((w2.s 2 0).s 3 0).s 4 0).s 5 0
  generalize hB : sI (sI (sI (sI A P 2 0) P 3 0) P 4 0) P 5 0 = B at w6
  have w8 := (w6.s 6 (-1)).s 7 (-1)
  generalize hC : sI (sI B P 6 (-1)) P 7 (-1) = C at w8
  have w9 := w8.s 8 0
  generalize hD : sI C P 8 0 = D at w9
  have wa := w9.s 9 0
  generalize hE : sI D P 9 0 = E at wa
  have wb := ((((wa.s 11 0).s 12 0).s 13 0).s 14 0).s 15 0
  generalize hF : sI (sI (sI (sI (sI E P 11 0) P 12 0) P 13 0) P 14 0) P 15 0 = F at wb
  have er : f_X4_rest P A = some B := by
    rw [f_X4_rest, c w2, bnd_e, bnd_e, bnd_e, bnd_e, hB]
  have eg : f_X4_forgetGranted P B = some D := by
    rw [f_X4_forgetGranted, c w6, bnd_e, bnd_e, chk_t (Or.inl rfl), hC, bnd_e, hD]
  have ea : f_X4_forgetAll P B = some E := by
    rw [f_X4_forgetAll, c w6, eg, obd_s, c w9, bnd_e, hE]
  refine ⟨F, ?_, wb.1, fun j hj n => ?_, wb.2.2.1, wb.2.2.2⟩
  · rw [f_X4_clear, c w0, bnd_e, bnd_e, hA, er, obd_s, c w6, ea, obd_s, c wa, bnd_e, bnd_e, bnd_e, bnd_e, bnd_e, hF]
  · rw [wb.2.1 j]
    rcases (show j = 0 ∨ j = 1 ∨ j = 2 ∨ j = 3 ∨ j = 4 ∨ j = 5 ∨ j = 6 ∨ j = 7 ∨ j = 8 ∨ j = 9 ∨ j = 11 ∨ j = 12 ∨ j = 13 ∨ j = 14 ∨ j = 15 by omega) with rfl | rfl | rfl | rfl | rfl | rfl | rfl | rfl | rfl | rfl | rfl | rfl | rfl | rfl | rfl <;> rfl
theorem pl_l {h : Nat} : ∀ (d i n : Nat) (M : Mem), i + d = 16 → CS M h → d + 1 ≤ n → ∃ M' n', f_X2_clear_9 n h (nI i) M = f_X2_clear_9 (n' + 1) h (nI 16) M' ∧ M'.1 = M.1 ∧ (∀ v, i ≤ v → v < 16 → ∀ j, j < 16 → j ≠ 10 → mI M' (h + 17 + 2 * v) j = if j = 6 ∨ j = 7 then -1 else 0) ∧ (∀ o, ¬ (h + 17 + 2 * i ≤ o ∧ o < h + 49) → ∀ b, mI M' o b = mI M o b) ∧ ∀ o b, mL M' o b = mL M o b := by
  intro d
  induction d with
  | zero =>
    intro i n M hi q hn
    obtain ⟨n, rfl⟩ : ∃ m, n = m + 1 := ⟨n - 1, by omega⟩
    have : i = 16 := by omega
    subst this
    exact ⟨M, n, rfl, rfl, fun v a b => by omega, fun _ _ _ => rfl, fun _ _ => rfl⟩
  | succ d ih =>
    intro i n M hi q hn
    obtain ⟨n, rfl⟩ : ∃ m, n = m + 1 := ⟨n - 1, by omega⟩
    have i6 : i < 16 := by omega
    obtain ⟨M1, e1, s1, a1, b1, c1⟩ := pl_clear q i6
    obtain ⟨M', n', e', s', a', b', c'⟩ := ih (i + 1) n M1 (by omega) (q.e s1) (by omega)
    refine ⟨M', n', ?_, s'.trans s1, fun v z1 z2 j hj n => ?_, fun o n b => ?_, fun o b => (c' o b).trans (c1 o b)⟩
    · rw [f_X2_clear_9, if_neg (show ¬ (16 : Int32) ≤ nI i from nI_ge (a := i) (b := 16) (by omega) (by decide)), cs_f q, cs_h2 q, bnd_e, cs_a10 q, cs_i10 q i6, cs_rpc q i6, bnd_e, cs_po q i6, e1, obd_s, bnd_e, nI_1, e']
    · by_cases c : v = i
      · subst c
        rw [b' _ (by omega)]; exact a1 j hj n
      · exact a' v (by omega) z2 j hj n
    · rw [b' o (by omega), b1 o (by omega)]
/-- the model started anew: N nodes, sets B, a tree or not -/
def fS0 (N : Nat) (B : Nat → Int32) (tr : Int32) : St := ((fun k i => if k = 8 then -1 else if k = 17 then B i else if k = 19 then 1 else if k = 20 then (if i = 0 then nI N else if i = 1 then tr else 0) else 0), fun _ => [], fun _ => [], [], [])
theorem fS0_R (N : Nat) (B : Nat → Int32) (tr : Int32) (k i : Nat) : xR (fS0 N B tr) k i = if k = 8 then -1 else if k = 17 then B i else if k = 19 then 1 else if k = 20 then (if i = 0 then nI N else if i = 1 then tr else 0) else 0 := rfl
theorem fS0_0 {N : Nat} {B : Nat → Int32} {tr : Int32} {k i : Nat} (h : k ≠ 8 ∧ k ≠ 17 ∧ k ≠ 19 ∧ k ≠ 20) : xR (fS0 N B tr) k i = 0 := by
  rw [fS0_R, if_neg (by omega), if_neg (by omega), if_neg (by omega), if_neg (by omega)]
theorem fS0_fl (N : Nat) (B : Nat → Int32) (tr : Int32) : fl (fS0 N B tr) = [] := fl_0 (fun _ => rfl)
set_option maxHeartbeats 2000000 in
theorem hl_clear {M : Mem} {d5 d6 d7 len N n : Nat} {B : Nat → Int32} {tr : Int32} (h16 : N ≤ 16) (q : CS M 14) (ds : DS M 14 d5 d6 d7 len) (h64 : 64 ≤ len) (h18 : len ≤ 18000) (l30 : mI M 25 0 = nI 30) (l40 : mI M 27 0 = nI 40) (sb : SB M N (fS0 N B tr)) (hn : 400 ≤ n) : ∃ M', f_X2_clear n 14 M = some M' ∧ M'.1 = M.1 ∧ (∀ X Y, Rm M 14 X Y → HV M' 14 X Y 0 N B (fS0 N B tr) [] []) ∧ (∀ o, ¬ (14 ≤ o ∧ o < 63) → ∀ b, mI M' o b = mI M o b) ∧ ∀ o b, mL M' o b = mL M o b := by
  have hq := q.2.2.2.2
  obtain ⟨M1, e1, s1, f1, g1, h1⟩ := f_fill (x := 0) (o := 14 + 4) (len := 256) (n := n) (M := M) (by decide) (q.io (i := 4) (by decide) (by decide) (by decide)) (q.ln (i := 4) (by decide) (by decide) (by decide)) (by omega)
  have q1 := q.e s1
  obtain ⟨M2, e2, s2, f2, g2, h2⟩ := f_fill (x := 0) (o := 14 + 5) (len := 16) (n := n) (M := M1) (by decide) (q1.io (i := 5) (by decide) (by decide) (by decide)) (q1.ln (i := 5) (by decide) (by decide) (by decide)) (by omega)
  have q2 := q1.e s2
  generalize hM3 : sI (sI (sI M2 (14 + 1) 8 0) (14 + 1) 9 (-1)) (14 + 1) 10 0 = M3
  have s3 : M3.1 = M.1 := by rw [← hM3]; exact s2.trans s1
  have q3 := q.e s3
  have L3 : ∀ o b, mL M3 o b = mL M o b := fun o b => by rw [← hM3]; exact (h2 o b).trans (h1 o b)
  obtain ⟨M4, e4, s4, f4, g4, h4⟩ := f_fill (x := 0) (o := 14 + 6) (len := 6) (n := n) (M := M3) (by decide) (q3.io (i := 6) (by decide) (by decide) (by decide)) (q3.ln (i := 6) (by decide) (by decide) (by decide)) (by omega)
  have q4 := q3.e s4
  generalize hM5 : sI M4 (14 + 1) 11 0 = M5
  have s5 : M5.1 = M.1 := by rw [← hM5]; exact s4.trans s3
  have q5 := q.e s5
  obtain ⟨M6, n6, e6, s6, a6, b6, c6⟩ := pl_l 16 0 n M5 rfl q5 (by omega)
  have S6 : M6.1 = M.1 := s6.trans s5
  have q6 := q.e S6
  -- what has been written so far
  have p15 : ∀ b, mI M6 15 b = if b = 8 then 0 else if b = 9 then -1 else if b = 10 then 0 else if b = 11 then 0 else mI M 15 b := fun b => by
    rw [b6 15 (by omega), ← hM5]
    by_cases z11 : b = 11
    · subst z11; rw [mI_s]; rfl
    · rw [mI_n _ _ _ _ z11, g4 15 (by decide), ← hM3]
      by_cases z10 : b = 10
      · subst z10; rw [mI_s]; rfl
      · rw [mI_n _ _ _ _ z10]
        by_cases z9 : b = 9
        · subst z9; rw [mI_s]; rfl
        · rw [mI_n _ _ _ _ z9]
          by_cases z8 : b = 8
          · subst z8; rw [mI_s]; rfl
          · rw [mI_n _ _ _ _ z8, g2 15 (by decide), g1 15 (by decide), if_neg z8, if_neg z9, if_neg z10, if_neg z11]
  have p18 : ∀ b, b < 256 → mI M6 18 b = 0 := fun b hb => by
    rw [b6 18 (by omega), ← hM5, mI_o _ _ _ _ _ (by decide), g4 18 (by decide), ← hM3, mI_o _ _ _ _ _ (by decide), mI_o _ _ _ _ _ (by decide), mI_o _ _ _ _ _ (by decide), g2 18 (by decide)]; exact f1 b hb
  have p19 : ∀ b, b < 16 → mI M6 19 b = 0 := fun b hb => by
    rw [b6 19 (by omega), ← hM5, mI_o _ _ _ _ _ (by decide), g4 19 (by decide), ← hM3, mI_o _ _ _ _ _ (by decide), mI_o _ _ _ _ _ (by decide), mI_o _ _ _ _ _ (by decide)]; exact f2 b hb
  have p20 : ∀ b, b < 6 → mI M6 20 b = 0 := fun b hb => by
    rw [b6 20 (by omega), ← hM5, mI_o _ _ _ _ _ (by decide)]; exact f4 b hb
  have po : ∀ o, o ≠ 15 → o ≠ 18 → o ≠ 19 → o ≠ 20 → ¬ (31 ≤ o ∧ o < 63) → ∀ b, mI M6 o b = mI M o b := fun o n1 n2 n3 n4 n5 b => by
    rw [b6 o (by omega), ← hM5, mI_o _ _ _ _ _ n1, g4 o n4, ← hM3, mI_o _ _ _ _ _ n1, mI_o _ _ _ _ _ n1, mI_o _ _ _ _ _ n1, g2 o n3, g1 o n2]
  have pL : ∀ o b, mL M6 o b = mL M o b := fun o b => by rw [c6, ← hM5]; exact (h4 o b).trans (L3 o b)
  clear b6 c6 f1 f2 f4 g1 g2 g4 h1 h2 h4
  generalize hMa : sI (sI M6 25 2 0) 25 3 0 = Ma
  generalize hMb : sI (sI Ma 27 2 0) 27 3 0 = Mb
  generalize hMc : sI (sI (sI (sI (sI (sI (sI (sI (sI Mb 14 7 0) 14 8 0) 14 9 0) 14 10 0) 14 11 0) 14 12 0) 14 13 0) 14 14 0) 14 15 0 = Mc
  generalize hMd : cpI Mc 2 0 29 0 16 = Md
  have Sa : Ma.1 = M.1 := by rw [← hMa]; exact S6
  have Sb : Mb.1 = M.1 := by rw [← hMb]; exact Sa
  have Sc : Mc.1 = M.1 := by rw [← hMc]; exact Sb
  have Sd : Md.1 = M.1 := by rw [← hMd]; exact Sc
  have sbc : SB Mc N (fS0 N B tr) := sb.e Sc (fun b => by
    rw [← hMc, ← hMb, ← hMa]
    simp only [mI_o _ _ _ _ _ (show (1 : Nat) ≠ 14 by decide), mI_o _ _ _ _ _ (show (1 : Nat) ≠ 27 by decide), mI_o _ _ _ _ _ (show (1 : Nat) ≠ 25 by decide)]
    exact po 1 (by decide) (by decide) (by decide) (by decide) (by omega) b) (fun b => by
    rw [← hMc, ← hMb, ← hMa]
    simp only [mI_o _ _ _ _ _ (show (2 : Nat) ≠ 14 by decide), mI_o _ _ _ _ _ (show (2 : Nat) ≠ 27 by decide), mI_o _ _ _ _ _ (show (2 : Nat) ≠ 25 by decide)]
    exact po 2 (by decide) (by decide) (by decide) (by decide) (by omega) b)
  have oc : ∀ o, o ≠ 14 → o ≠ 25 → o ≠ 27 → o ≠ 29 → ∀ b, mI Md o b = mI M6 o b := fun o n1 n2 n3 n4 b => by
    rw [← hMd, cp_I, if_neg (fun z => n4 z.1), ← hMc, ← hMb, ← hMa]
    simp only [mI_o _ _ _ _ _ n1, mI_o _ _ _ _ _ n2, mI_o _ _ _ _ _ n3]
  have d29 : ∀ v, v < N → mI Md 29 v = B v := fun v hv => by
    rw [← hMd, cp_I, if_pos ⟨rfl, by omega⟩, sbc.b hv]
    rw [fS0_R, if_neg (by decide), if_pos rfl]
  have d25 : mI Md 25 0 = nI 30 ∧ mI Md 25 2 = 0 ∧ mI Md 25 3 = 0 := by
    have g : ∀ b, mI Md 25 b = mI Ma 25 b := fun b => by
      rw [← hMd, cp_I, if_neg (by omega), ← hMc, ← hMb]
      simp only [mI_o _ _ _ _ _ (show (25 : Nat) ≠ 14 by decide), mI_o _ _ _ _ _ (show (25 : Nat) ≠ 27 by decide)]
    refine ⟨?_, ?_, ?_⟩
    · rw [g, ← hMa, mI_n _ _ _ _ (by decide), mI_n _ _ _ _ (by decide), po 25 (by decide) (by decide) (by decide) (by decide) (by omega)]; exact l30
    · rw [g, ← hMa, mI_n _ _ _ _ (by decide), mI_s]
    · rw [g, ← hMa, mI_s]
  have d27 : mI Md 27 0 = nI 40 ∧ mI Md 27 2 = 0 ∧ mI Md 27 3 = 0 := by
    have g : ∀ b, mI Md 27 b = mI Mb 27 b := fun b => by
      rw [← hMd, cp_I, if_neg (by omega), ← hMc]
      simp only [mI_o _ _ _ _ _ (show (27 : Nat) ≠ 14 by decide)]
    refine ⟨?_, ?_, ?_⟩
    · rw [g, ← hMb, mI_n _ _ _ _ (by decide), mI_n _ _ _ _ (by decide), ← hMa, mI_o _ _ _ _ _ (by decide), mI_o _ _ _ _ _ (by decide), po 27 (by decide) (by decide) (by decide) (by decide) (by omega)]; exact l40
    · rw [g, ← hMb, mI_n _ _ _ _ (by decide), mI_s]
    · rw [g, ← hMb, mI_s]
  have d14 : ∀ b, 7 ≤ b → b ≤ 15 → mI Md 14 b = 0 := fun b h1 h2 => by
    rw [← hMd, cp_I, if_neg (by omega), ← hMc]
    simp only [mI_sI, true_and]
    rcases (show b = 7 ∨ b = 8 ∨ b = 9 ∨ b = 10 ∨ b = 11 ∨ b = 12 ∨ b = 13 ∨ b = 14 ∨ b = 15 by omega) with rfl | rfl | rfl | rfl | rfl | rfl | rfl | rfl | rfl <;> rfl
  have dpl : ∀ v, v < 16 → ∀ j, j < 16 → j ≠ 10 → mI Md (14 + 17 + 2 * v) j = if j = 6 ∨ j = 7 then -1 else 0 := fun v hv j hj n => by
    rw [oc _ (by omega) (by omega) (by omega) (by omega)]
    exact a6 v (Nat.zero_le _) hv j hj n
  have dn : ∀ o, ¬ (14 ≤ o ∧ o < 63) → ∀ b, mI Md o b = mI M o b := fun o n b => by
    rw [oc o (by omega) (by omega) (by omega) (by omega), po o (by omega) (by omega) (by omega) (by omega) (by omega)]
  refine ⟨Md, ?_, Sd, fun X Y rm => ⟨q.e Sd, ?_, ⟨fun v hv => ?_, ?_⟩, ?_, ⟨?_, ?_⟩, ?_, fun v hv => ?_⟩, dn, fun o b => by rw [← hMd, ← hMc, ← hMb, ← hMa]; exact pL o b⟩
  · have ea : ∀ (M' : Mem), M'.1 = M.1 → f_X3_empty 25 M' = some (sI (sI M' 25 2 0) 25 3 0) := fun M' e => by
      rw [f_X3_empty, chk_t ((q.e e).io (i := 11) (c := 3) (by decide) (by decide) (by decide)), bnd_e, bnd_e]
    have eb : ∀ (M' : Mem), M'.1 = M.1 → f_X3_empty 27 M' = some (sI (sI M' 27 2 0) 27 3 0) := fun M' e => by
      rw [f_X3_empty, chk_t ((q.e e).io (i := 13) (c := 3) (by decide) (by decide) (by decide)), bnd_e, bnd_e]
    have ec : f_X5_clear n 15 M = some M5 := by
      have e0 : f_X5_clearLanes n (14 + 1) M = some M3 := by
        rw [f_X5_clearLanes, cs_p q, cs_r4 q, bnd_e, cs_a4 q, e1, obd_s, cs_p q1, cs_r5 q1, bnd_e, cs_a5 q1, e2, obd_s, cs_p q2, bnd_e, bnd_e, bnd_e]
        exact congrArg some hM3
      show f_X5_clear n (14 + 1) M = some M5
      rw [f_X5_clear, cs_p q, e0, obd_s, cs_p q3, cs_r6 q3, bnd_e, cs_a6 q3, e4, obd_s, cs_p q4, bnd_e]
      exact congrArg some hM5
    have qa := q.e Sa
    have qb := q.e Sb
    have qc := q.e Sc
    rw [f_X2_clear, cs_f q, cs_h1 q, bnd_e, cs_p q, ec, obd_s, show (0 : Int32) = nI 0 from rfl, e6, f_X2_clear_9, if_pos (show (16 : Int32) ≤ nI 16 by decide), cs_f q6, cs_h3 q6, bnd_e, chk_t (q6.io (i := 11) (c := 3) (by decide) (by decide) (by decide)), show f_X3_empty (14 + 11) M6 = some Ma by rw [← hMa]; exact ea M6 S6, obd_s, cs_f qa, cs_h4 qa, bnd_e, chk_t (qa.io (i := 13) (c := 3) (by decide) (by decide) (by decide)), show f_X3_empty (14 + 13) Ma = some Mb by rw [← hMb]; exact eb Ma Sa, obd_s, cs_f qb, bnd_e, bnd_e, bnd_e, bnd_e, bnd_e, bnd_e, bnd_e, bnd_e, hMc, bnd_e, cs_h0 qc, bnd_e, sbc.f, sbc.r2, bnd_e, sbc.a2, cs_h5 qc, bnd_e, cs_a15 qc, show (16 : Int32) = nI 16 from rfl, cp_st (la := mLn Mc 2) (lb := mLn Mc (14 + 15)) _ (by rw [sbc.2.2.1.1]; exact Nat.le_refl _) (by rw [qc.ln (i := 15) (c := 16) (by decide) (by decide) (by decide)]; exact Nat.le_refl _) (by decide)]
    exact congrArg some hMd
  · refine ⟨d5, d6, d7, len, fun _ => [], [], 0, fun _ => 256, ⟨ds.e Sd, ?_, ?_, ?_, ?_, ?_, ?_, ?_, ?_, ?_, ?_, ?_⟩, fun _ _ => rfl⟩
    · intro l _ z hz; cases hz
    · intro l _; exact List.nodup_nil
    · intro l _; exact trivial
    · intro l _ cs z h
      cases cs <;> cases h
    · intro l hl'
      show mI Md 18 l = nI 0
      rw [oc 18 (by decide) (by decide) (by decide) (by decide), p18 l hl']; rfl
    · intro f hf g hg
      show bt (mI Md 19 f) g = _
      rw [oc 19 (by decide) (by decide) (by decide) (by decide), p19 f hf, b_0]
      simp
    · intro k hk
      show mI Md 20 k = _
      rw [oc 20 (by decide) (by decide) (by decide) (by decide), p20 k hk, fS0_0 (by omega)]
    · refine ⟨List.nodup_nil, fun c hc => absurd hc (by simp), ?_⟩
      show mI Md 15 9 = -1
      rw [oc 15 (by decide) (by decide) (by decide) (by decide), p15]; rfl
    · refine ⟨?_, Nat.zero_le _, Nat.zero_le _, h18, h64⟩
      show mI Md 15 8 = nI 0
      rw [oc 15 (by decide) (by decide) (by decide) (by decide), p15]; rfl
    · show mI Md 15 11 = 0
      rw [oc 15 (by decide) (by decide) (by decide) (by decide), p15]; rfl
    · refine ⟨0, ?_, rfl, ?_⟩
      · show mI Md 15 10 = nI 0
        rw [oc 15 (by decide) (by decide) (by decide) (by decide), p15]; rfl
      · unfold flr
        rw [eq_comm, List.length_eq_zero_iff, List.flatMap_eq_nil_iff]
        intro l _
        rfl
  · have lim : ∀ p, p ∈ ft → p.1 < 16 ∧ p.1 ≠ 10 ∧ p.1 ≠ 7 ∧ (p.1 = 6 ∧ p.2 = 8 ∨ p.1 ≠ 6 ∧ p.2 ≠ 8 ∧ p.2 ≠ 17 ∧ p.2 ≠ 19 ∧ p.2 ≠ 20) := by decide
    refine ⟨fun p hp => ?_, ?_, fun z => ?_, fun u hu => ?_, fun w hw => by cases hw⟩
    · obtain ⟨l1, l2, l3, l4⟩ := lim p hp
      rw [dpl v hv _ l1 l2]
      rcases l4 with ⟨z1, z2⟩ | ⟨z1, z2, z3, z4, z5⟩
      · rw [if_pos (Or.inl z1), z2]; rfl
      · rw [if_neg (by omega), fS0_0 ⟨z2, z3, z4, z5⟩]
    · rw [dpl v hv 7 (by decide) (by decide)]; rfl
    · rw [fS0_0 (by omega)] at z; exact absurd z (by decide)
    · rw [dpl v hv 9 (by decide) (by decide), if_neg (by decide), b_0]; rfl
  · refine ⟨fun v hv => ?_, fun v hv => ?_, fun v hv => ?_, ?_, ?_, ?_, ?_, ?_, ?_⟩
    · rw [d14 7 (by decide) (by decide), b_0]
      symm
      apply decide_eq_false
      rintro ⟨_, z⟩
      rw [fS0_0 (by omega)] at z; exact absurd z (by decide)
    · rw [d14 8 (by decide) (by decide), b_0]
      symm
      apply decide_eq_false
      rintro ⟨_, z⟩
      rw [fS0_0 (by omega)] at z; exact absurd z (by decide)
    · rw [d14 9 (by decide) (by decide), b_0]
      symm
      apply decide_eq_false
      rintro ⟨_, z⟩
      rw [fS0_0 (by omega)] at z; exact absurd z (by decide)
    · rw [d14 10 (by decide) (by decide), fS0_0 (by omega)]
    · rw [d14 11 (by decide) (by decide), fS0_0 (by omega)]
    · rw [d14 12 (by decide) (by decide), fS0_0 (by omega)]
    · rw [d14 13 (by decide) (by decide), fS0_0 (by omega)]
    · rw [d14 14 (by decide) (by decide), fS0_0 (by omega)]
    · rw [d14 15 (by decide) (by decide), fS0_0 (by omega)]
  · unfold Rm mN mU mLn mR at rm ⊢
    rw [Sd]; exact rm
  · exact LG_0 d25.1 d25.2.1 d25.2.2
  · exact LG_0 d27.1 d27.2.1 d27.2.2
  · rw [dn 1 (by omega)]; exact sb.n
  · exact d29 v hv
/-! ===== the model started anew: what holds of it ===== -/
section
variable {N : Nat} {B : Nat → Int32} {tr : Int32}
theorem fS0_8 (v : Nat) : xR (fS0 N B tr) 8 v = -1 := by rw [fS0_R, if_pos rfl]
theorem fS0_Inv (h16 : N ≤ 16) : Inv N 0 (fS0 N B tr) := by
  have v0 : ∀ k v, k < 8 → xR (fS0 N B tr) k v = 0 := fun k v hk => fS0_0 (by omega)
  have v9 : ∀ v, xR (fS0 N B tr) 9 v = 0 := fun v => fS0_0 (by omega)
  have v10 : ∀ v, xR (fS0 N B tr) 10 v = 0 := fun v => fS0_0 (by omega)
  have oe0 : ∀ v a, v < N → a < N → oe (fS0 N B tr) 99 99 none v a = none := fun v a hv ha => by
    rw [oe_99 (by omega)]
    unfold eng
    rw [fS0_8, if_neg (m1_ne (by omega))]
    rfl
  refine ⟨fun v hv => ⟨Or.inl (v0 0 v (by decide)), fun _ => v0 0 v (by decide), Or.inl (v0 7 v (by decide)), Or.inl (v10 v)⟩, fun v hv i _ _ => ?_, fun v hv z => ?_, fun v hv => ⟨0, 0, Nat.le_refl _, Nat.le_refl _, v0 1 v (by decide), v0 2 v (by decide)⟩, fun l _ => ⟨fun x hx => ?_, fun _ => rfl⟩, fun a ha => ⟨⟨List.Pairwise.nil, List.nodup_nil, fun w hw => ?_⟩, fun _ => rfl, Or.inl ⟨fS0_8 a, v9 a, v10 a⟩⟩, fun v hv a ha => ?_, fun v hv a ha => ⟨fun s hs => ?_, fun x hx => ?_, fun x hx => ?_⟩⟩
  · rw [v0 3 v (by decide)]; exact b_0 _
  · rw [v0 0 v (by decide)] at z; exact absurd z (by decide)
  · have hx' : x ∈ (([] : List Ltr)) := hx
    simp at hx'
  · have hw' : w ∈ (([] : List Wtr)) := hw
    simp at hw'
  · rw [oe0 v a hv ha]
    unfold opn
    rw [if_neg (fun z => z.1 (v0 0 v (by decide)))]
    rfl
  · rw [oe0 v a hv ha] at hs; cases hs
  · have hx' : x ∈ (([] : List Ltr)) := hx
    simp at hx'
  · have hx' : x ∈ (([] : List Ltr)) := hx
    simp at hx'
theorem fS0_X : IX N (fS0 N B tr) := by
  refine ⟨fun a _ w hw => ?_, fun v _ z => ?_, fun x _ z => ?_⟩
  · have hw' : w ∈ (([] : List Wtr)) := hw
    simp at hw'
  · rw [fS0_0 (by omega)] at z; exact absurd z (by decide)
  · rw [fS0_0 (by omega)] at z; exact absurd z (by decide)
theorem fS0_Z : IZ N (fS0 N B tr) := by
  refine ⟨fun v _ i _ z => ?_, fun v _ _ => fS0_0 (by omega), fun v _ _ => ⟨fS0_0 (by omega), fS0_8 v⟩⟩
  rw [fS0_0 (by omega), b_0] at z; cases z
theorem fS0_Ph (a : Nat) : Ph a (fS0 N B tr) = 0 := by
  have h1 : phL a (fS0 N B tr) = 0 := by
    unfold phL
    rw [fS0_fl]; rfl
  have h2 : phB a (fS0 N B tr) = 0 := by
    unfold phB
    have : smN (phv (fS0 N B tr) a) 16 = smN (fun _ => 0) 16 := smN_c 16 (fun v _ => by
      unfold phv
      rw [fS0_0 (k := 4) (by omega), fS0_0 (k := 5) (by omega), b_0, if_neg (fun z => by cases z.1), if_neg (by decide)])
    rw [this, smN_k]
  unfold Ph
  omega
theorem fS0_SW {i : Nat} (h2 : 2 ≤ N) (h16 : N ≤ 16) (t2 : tr = 0 ∨ tr = 1) (t : tr = 1 → N % 2 = 1) (bi : ∀ v, v < N → ∀ i, N ≤ i → i < 32 → bt (B v) i = false) : SW N 0 i (fS0 N B tr) :=
  ⟨⟨h2, h16⟩, rfl, t2, t, bi, fS0_Inv h16, fS0_X, fS0_Z, Nat.zero_le _, fun a _ => by rw [fS0_Ph]; exact Nat.zero_le _⟩
theorem fS0_qm (h16 : N ≤ 16) (v : Nat) : qm N (fS0 N B tr) v = B v := by
  have hb : bkm N (fS0 N B tr) = 0 := by
    apply b_ext
    intro i hi
    rw [bkm_b h16 (fun v _ => Or.inl (fS0_0 (by omega))) hi, b_0]
    apply decide_eq_false
    rintro ⟨_, z⟩
    rw [fS0_0 (by omega)] at z; exact absurd z (by decide)
  unfold qm qby
  rw [hb, Int32.and_zero, if_pos rfl]; rfl
end
/-- the reference's big row after a maker -/
def rfm (f : Nat → Int32) (N : Nat) (tr : Int32) (C : Nat → Int32) (b : Nat) : Int32 := if 2 ≤ b ∧ b < 2 + N then C (b - 2) else bgf f (nI N) tr b
theorem rfm_RV {M : Mem} {f : Nat → Int32} {N : Nat} {tr : Int32} {C B : Nat → Int32} (tw : Bool) (h16 : N ≤ 16) (hS : RS M) (h3 : mI M 120 3 = 0) (hB : ∀ v, v < 16 → B v = if v < N then C v else f (2 + v)) (h : ∀ b, b < 10465 → mI M 121 b = rfm f N tr C b) : RV M tw 0 (fS0 N B tr) [] [] := by
  have fr0 : ∀ b, 18 ≤ b → b < 10209 → ¬ (146 ≤ b ∧ b < 850 ∧ (b - 146) % 44 = 0) → mI M 121 b = 0 := fun b h1 h2 h3 => by
    rw [h b (by omega)]
    unfold rfm
    rw [if_neg (by omega)]
    unfold bgf
    rw [if_neg (by omega), if_neg (by omega), if_neg (by omega)]
    by_cases c1 : b < 146
    · rw [if_pos c1]
    · rw [if_neg c1]
      by_cases c2 : b < 850
      · rw [if_pos c2, if_neg (by omega)]
      · rw [if_neg c2, if_pos h2]
  have fr8 : ∀ a, a < 16 → mI M 121 (146 + 44 * a) = -1 := fun a ha => by
    rw [h _ (by omega)]
    unfold rfm
    rw [if_neg (by omega)]
    unfold bgf
    rw [if_neg (by omega), if_neg (by omega), if_neg (by omega), if_neg (by omega), if_pos (by omega), if_pos (by omega)]
  refine ⟨hS, h3, fun k i hv => ?_, fun a ha => ⟨?_, by show 0 ≤ 20; omega, fun i q h => ?_, fun i _ hi => ⟨?_, ?_⟩⟩, ⟨?_, ?_, ?_⟩, ⟨?_, ?_⟩, ⟨?_, ?_⟩⟩
  · rcases ad_cases hv with ⟨k8, i6, e⟩ | ⟨k8, k11, i6, e⟩ | ⟨k12, k15, i6, e⟩ | ⟨k5, i6, e⟩ | ⟨k6, i6, e⟩ | ⟨k7, i6, e⟩ | ⟨k8, i6, e⟩ | ⟨k9, i6, e⟩ | ⟨k2, i6, e⟩
    · rw [e, fr0 _ (by omega) (by omega) (by omega), fS0_0 (by omega)]
    · by_cases c : k = 8
      · rw [e, c, show 146 + 44 * i + (8 - 8) = 146 + 44 * i by omega, fr8 i i6, fS0_8]
      · rw [e, fr0 _ (by omega) (by omega) (by omega), fS0_0 (by omega)]
    · rw [e, fr0 _ (by omega) (by omega) (by omega), fS0_0 (by omega)]
    · rw [e, fr0 _ (by omega) (by omega) (by omega), fS0_0 (by omega)]
    · rw [e, fr0 _ (by omega) (by omega) (by omega), fS0_0 (by omega)]
    · rw [e, h _ (by omega), fS0_R, if_neg (by omega), if_pos k7, hB i i6]
      unfold rfm
      by_cases c : i < N
      · rw [if_pos (by omega), if_pos c, show 2 + i - 2 = i by omega]
      · rw [if_neg (by omega), if_neg c]
        unfold bgf
        rw [if_neg (by omega), if_neg (by omega), if_pos (by omega)]
    · rw [e, fr0 _ (by omega) (by omega) (by omega), fS0_0 (by omega)]
    · rw [e, h _ (by omega), fS0_R, if_neg (by omega), if_neg (by omega), if_pos k9]
      unfold rfm
      rw [if_neg (by omega)]
      unfold bgf
      rw [if_neg (by omega), if_neg (by omega), if_neg (by omega), if_neg (by omega), if_neg (by omega), if_neg (by omega), if_pos (by omega)]
    · rw [e, h _ (by omega), fS0_R, if_neg (by omega), if_neg (by omega), if_neg (by omega), if_pos k2]
      unfold rfm
      rw [if_neg (by omega)]
      unfold bgf
      rcases (show i = 0 ∨ i = 1 by omega) with rfl | rfl
      · rfl
      · rfl
  · show mI M 121 (149 + 44 * a) = 0
    exact fr0 _ (by omega) (by omega) (by omega)
  · have h' : (([] : List Wtr))[i]? = some q := h
    simp at h'
  · exact fr0 _ (by omega) (by omega) (by omega)
  · exact fr0 _ (by omega) (by omega) (by omega)
  · rw [fS0_fl]
    exact fr0 _ (by decide) (by decide) (by decide)
  · rw [fS0_fl]; exact Nat.zero_le _
  · rw [fS0_fl]
    intro i q h
    simp at h
  · exact fr0 _ (by decide) (by decide) (by decide)
  · intro i q h
    have h' : (([] : List Row4))[i]? = some q := h
    simp at h'
  · exact fr0 _ (by decide) (by decide) (by decide)
  · intro i q h
    have h' : (([] : List Row4))[i]? = some q := h
    simp at h'
/-! ===== the class starts anew, whole ===== -/
theorem HV.kp {M M' : Mem} {h X Y N : Nat} {t : Int32} {Q : Nat → Int32} {S : St} {pb pt : List Row4} (p : HV M h X Y t N Q S pb pt) (e : M'.1 = M.1) (hI : ∀ o, (o = 1 ∨ (h ≤ o ∧ o < h + 49) ∨ 131 ≤ o) → ∀ b, mI M' o b = mI M o b) : HV M' h X Y t N Q S pb pt := by
  obtain ⟨q, pv, hp, rm, ⟨lb, lt⟩, hN, hQ⟩ := p
  have hq := q.2.2.2.2
  have lo : ∀ o, h ≤ o → o < h + 49 → ∀ b, mI M' o b = mI M o b := fun o a c b => hI o (by omega) b
  refine ⟨q.e e, ?_, hp.cg (fun o ho b => lo o (by omega) (by omega) b) (fun _ _ _ => rfl) rfl, ?_, ⟨lb.cg (fun b => lo _ (by omega) (by omega) b) (fun b => lo _ (by omega) (by omega) b), lt.cg (fun b => lo _ (by omega) (by omega) b) (fun b => lo _ (by omega) (by omega) b)⟩, by rw [hI 1 (Or.inl rfl)]; exact hN, fun v hv => by rw [lo _ (by omega) (by omega)]; exact hQ v hv⟩
  · obtain ⟨d5, d6, d7, len, K, fr, us, ow, w, hK⟩ := pv
    obtain ⟨_, _, _, y5, y6, y7, _⟩ := id w.1
    exact ⟨d5, d6, d7, len, K, fr, us, ow, w.cg (w.1.e e) (Nat.le_refl _) w.2.2.2.2.2.2.2.2.2.1.2.2.2.1 (fun i a c b => lo _ (by omega) (by omega) b) (fun b _ => hI _ (by omega) b) (fun b _ => hI _ (by omega) b) (fun b _ => hI _ (by omega) b), hK⟩
  · unfold Rm mN mU mLn mR at rm ⊢
    rw [e]; exact rm
theorem Shp1.e {M M' : Mem} (e : M'.1 = M.1) : Shp1 M M' := ⟨by unfold mN; rw [e]; exact Nat.le_refl _, fun i _ => by rw [e], fun a b _ _ => by unfold mR; rw [e]⟩
theorem GR.e {M M' : Mem} {L : Nat} (g : GR M L) (e : M'.1 = M.1) : GR M' L := by
  unfold GR mN mU mLn mR at *
  rw [e]; exact g
theorem XS.e {M M' : Mem} {L : Nat} (x : XS M L) (e : M'.1 = M.1) (hI : ∀ o, (74 ≤ o ∧ o ≤ 77) ∨ o = 114 ∨ o = 115 → ∀ b, mI M' o b = mI M o b) : XS M' L := by
  obtain ⟨e', dC, e5, e6, e7, len, pb, pt, sx, cl, q, ⟨ds, d64, d18⟩, ⟨lb, lt⟩, z0, dj⟩ := x
  have hR : ∀ a b, mR M' a b = mR M a b := fun a b => mR_e e a b
  exact ⟨e', dC, e5, e6, e7, len, pb, pt, sx.e e, cl.e e (hI 114 (by omega) 6), q.e e, ⟨ds.e e, d64, d18⟩, ⟨lb.cg (hI 74 (by omega)) (hI 75 (by omega)), lt.cg (hI 76 (by omega)) (hI 77 (by omega))⟩, by rw [hI 115 (by omega)]; exact z0, fun j a b => by rw [hR]; refine ⟨(dj j a b).1, fun i c d => by rw [hR]; exact (dj j a b).2 i c d⟩⟩
/-- the class has made its sets anew -/
def MC (N : Nat) (C : Nat → Int32) (tr : Int32) (M M' : Mem) : Prop := M'.1 = M.1 ∧ (∀ o, ¬ (1 ≤ o ∧ o ≤ 3) → ∀ b, mI M' o b = mI M o b) ∧ mI M' 1 3 = nI N ∧ mI M' 1 4 = tr ∧ (∀ v, v < N → mI M' 2 v = C v) ∧ ∀ o b, mL M' o b = mL M o b
set_option maxHeartbeats 1000000 in
theorem CW.anew {M M1 : Mem} {N N' n : Nat} {Q B : Nat → Int32} {S : St} {tr : Int32} (h : CW M N Q S) (m : MC N' B tr M M1) (h16 : N' ≤ 16) (hn : 400 ≤ n) : ∃ M2, f_X9_startAnew n 0 M1 = some (nI N', M2) ∧ CW M2 N' B (fS0 N' B tr) ∧ M2.1 = M.1 ∧ (∀ o, 119 ≤ o → o < 131 → ∀ b, mI M2 o b = mI M o b) ∧ ∀ o b, mL M2 o b = mL M o b := by
  obtain ⟨X, Y, L, p, sb, xg, xc, xv, xs, g, hL⟩ := h
  obtain ⟨m1, m2, m3, m4, m5, m6⟩ := m
  have io : ∀ {c o}, isO M c o → isO M1 c o := fun z => by unfold isO mN mC at *; rw [m1]; exact z
  have sb1 : SB M1 N' (fS0 N' B tr) := by
    obtain ⟨⟨a1, a2, a3, a4⟩, ⟨b1, b2, b3⟩, ⟨c1, c2, c3⟩, _⟩ := sb
    exact ⟨⟨io a1, io a2, io a3, io a4⟩, ⟨by rw [mR_e m1]; exact b1, by rw [mR_e m1]; exact b2, by rw [mR_e m1]; exact b3⟩, ⟨by rw [mLn_e m1]; exact c1, by rw [mLn_e m1]; exact c2, by rw [mLn_e m1]; exact c3⟩, m3, m4, m5⟩
  have q1 : CS M1 14 := p.1.e m1
  have xg1 : XG M1 := xg.s (Shp1.e m1)
  obtain ⟨l30, l40⟩ : mI M1 25 0 = nI 30 ∧ mI M1 27 0 = nI 40 := by
    rw [m2 25 (by omega), m2 27 (by omega)]
    exact ⟨p.2.2.2.2.1.1.1, p.2.2.2.2.1.2.1⟩
  have d57 := p.d57
  obtain ⟨d5, d6, d7, len, K, fr, us, ow, w, _⟩ := p.2.1
  have ds := w.1
  have hlen : mLn M (mR M (14 + 1) 5) = len := by rw [ds.1.1]; exact ds.2.2.1.1
  have u := (d57 5 (by decide) (by decide)).2.2
  rw [hlen] at u
  obtain ⟨Ma, ea, sa, pa, fa, la⟩ := hl_clear (n := n) h16 q1 (ds.e m1) u.1 u.2 l30 l40 sb1 hn
  have xga : XG Ma := xg1.s (Shp1.e sa)
  have xca : isO Ma 0 112 ∧ mR Ma 112 0 = 113 ∧ isO Ma 100 113 ∧ mLn Ma 113 = 256 := by
    have e := sa.trans m1
    refine ⟨?_, by rw [mR_e e]; exact xc.2.1, ?_, by rw [mLn_e e]; exact xc.2.2.2.1⟩
    · have := xc.1; unfold isO mN mC at *; rw [e]; exact this
    · have := xc.2.2.1; unfold isO mN mC at *; rw [e]; exact this
  obtain ⟨Mb, eb, sb', fb, gb, hb⟩ := f_fill (x := 1) (o := 113) (len := 256) (n := n) (M := Ma) (by decide) xca.2.2.1 xca.2.2.2 (by omega)
  have xgb : XG Mb := xga.s (Shp1.e sb')
  generalize hMc : sI Mb 5 7 0 = Mc
  have sc : Mc.1 = Mb.1 := by rw [← hMc]; rfl
  have S : Mc.1 = M.1 := sc.trans (sb'.trans (sa.trans m1))
  have xgc : XG Mc := xgb.s (Shp1.e sc)
  have oc : ∀ o, o ≠ 5 → ∀ b, mI Mc o b = mI Mb o b := fun o n b => by rw [← hMc, mI_o _ _ _ _ _ n]
  have oab : ∀ o, o ≠ 5 → o ≠ 113 → ∀ b, mI Mc o b = mI Ma o b := fun o n1 n2 b => by rw [oc o n1, gb o n2]
  have ob : ∀ o, o ≠ 5 → o ≠ 113 → ¬ (14 ≤ o ∧ o < 63) → ∀ b, mI Mc o b = mI M1 o b := fun o n1 n2 n3 b => by rw [oab o n1 n2, fa o n3]
  have sbc : SB Mc N' (fS0 N' B tr) := sb1.e (sc.trans (sb'.trans sa)) (fun b => ob 1 (by decide) (by decide) (by omega) b) (fun b => ob 2 (by decide) (by decide) (by omega) b)
  have gc : GR Mc L := g.e S
  have iv : isO Mb 8 5 := by have := xv.1.1; unfold isO mN mC at *; rw [sb'.trans (sa.trans m1)]; exact this
  refine ⟨Mc, ?_, ⟨_, _, L, ((pa _ _ ((g.e (m1)).r14 hL)).kp (sc.trans sb') (fun o ho b => oab o (by omega) (by omega) b)), sbc, xgc, ?_, ?_, xs.e S (fun o ho b => by rw [ob o (by omega) (by omega) (by omega), m2 o (by omega)]), gc, hL⟩, S, fun o h1 h2 b => by rw [ob o (by omega) (by omega) (by omega), m2 o (by omega)], fun o b => by rw [← hMc]; exact (hb o b).trans ((la o b).trans (m6 o b))⟩
  · rw [f_X9_startAnew, chk_t xg1.1, xg1.2.2.2.1, bnd_e, cs_f q1, ea, obd_s, chk_t xga.1, xga.2.2.2.2.2.1, bnd_e, chk_t xca.1, show f_X0_clear n 112 Ma = some Mb by rw [f_X0_clear, chk_t xca.1, xca.2.1, bnd_e, chk_t xca.2.2.1, eb, obd_s], obd_s, chk_t xgb.1, xgb.2.2.1, bnd_e, chk_t iv, chk_t (Or.inl rfl), hMc, bnd_e, xgc.2.1, bnd_e, sbc.f, sbc.n]
  · obtain ⟨a, b, c, d, e⟩ := xc.s (Shp1.e (M' := M) rfl) (fun _ => rfl) (fun _ _ => rfl)
    refine ⟨?_, by rw [mR_e S]; exact b, ?_, by rw [mLn_e S]; exact d, fun l hl => ?_⟩
    · unfold isO mN mC at *; rw [S]; exact a
    · unfold isO mN mC at *; rw [S]; exact c
    · exact ⟨by rw [oc 113 (by decide), fb l hl]; rfl, 1, by decide, by decide, rfl⟩
  · obtain ⟨⟨a1, a2, a3, a4, a5, a6, a7, a8, a9⟩, ⟨b1, b2, b3, b4, b5, b6, b7, b8⟩, ⟨c1, c2, c3, c4, c5, c6⟩, d⟩ := xv
    have io' : ∀ {c o}, isO M c o → isO Mc c o := fun z => by unfold isO mN mC at *; rw [S]; exact z
    have r : ∀ o k, mR Mc o k = mR M o k := fun o k => mR_e S o k
    have l : ∀ o, mLn Mc o = mLn M o := fun o => mLn_e S o
    refine ⟨⟨io' a1, io' a2, io' a3, io' a4, io' a5, io' a6, io' a7, io' a8, io' a9⟩, ⟨?_, ?_, ?_, ?_, ?_, ?_, ?_, ?_⟩, ⟨?_, ?_, ?_, ?_, ?_, ?_⟩, Or.inl ?_⟩
    · rw [r]; exact b1
    · rw [r]; exact b2
    · rw [r]; exact b3
    · rw [r]; exact b4
    · rw [r]; exact b5
    · rw [r]; exact b6
    · rw [r]; exact b7
    · rw [r]; exact b8
    · rw [l]; exact c1
    · rw [l]; exact c2
    · rw [l]; exact c3
    · rw [l]; exact c4
    · rw [l]; exact c5
    · rw [l]; exact c6
    · rw [← hMc, mI_s]
/-! ===== a maker of sets: both sides ===== -/
theorem PA_o {o : Nat} (h : ¬ (120 ≤ o ∧ o ≤ 130)) : o ≠ 120 ∧ o ≠ 121 ∧ o ≠ 122 := by omega
theorem WJ.mk {M M1 : Mem} {N0 A i N n : Nat} {Q C : Nat → Int32} {S : St} {tr : Int32} (w : WJ M N0 A i Q S) (m : MC N C tr M M1) (h2 : 2 ≤ N) (h16 : N ≤ 16) (t2 : tr = 0 ∨ tr = 1) (t : tr = 1 → N % 2 = 1) (bi : ∀ v, v < N → ∀ i, N ≤ i → i < 32 → bt (C v) i = false) (hn : 400 ≤ n) : ∃ M2, f_X9_startAnew n 0 M1 = some (nI N, M2) ∧ isO M2 10 120 ∧ RK M2 120 121 ∧ RV M2 false 0 S [] [] ∧ (XG M2 ∧ SB M2 N (fS0 N C tr)) ∧ ∀ M3, M3.1 = M2.1 → (∀ o, ¬ (120 ≤ o ∧ o ≤ 130) → ∀ b, mI M3 o b = mI M2 o b) → (∀ b, mI M3 120 b = mI M2 120 b) → (∀ b, b < 10465 → mI M3 121 b = rfm (mI M2 121) N tr C b) → WI (i + 1) M3 := by
  obtain ⟨hc, r, z7, sw, _⟩ := w
  let B : Nat → Int32 := fun v => if v < N then C v else mI M 121 (2 + v)
  have hB : ∀ v, v < N → B v = C v := fun v hv => if_pos hv
  have mB : MC N B tr M M1 := ⟨m.1, m.2.1, m.2.2.1, m.2.2.2.1, fun v hv => by rw [hB v hv]; exact m.2.2.2.2.1 v hv, m.2.2.2.2.2⟩
  obtain ⟨M2, e2, c2, s2, i2, l2⟩ := hc.anew mB h16 hn
  have rs2 : RS M2 := r.1.e s2
  have r2 : RV M2 false 0 S [] [] := r.mr (by unfold mN; rw [s2]; exact Nat.le_refl _) (fun o h1 h2 => ⟨by rw [s2], fun b => mR_e s2 o b, i2 o (by omega) h2⟩)
  have xsb : XG M2 ∧ SB M2 N (fS0 N C tr) := by
    obtain ⟨_, _, _, _, sb, xg, _⟩ := c2
    exact ⟨xg, sb.1, sb.2.1, sb.2.2.1, sb.2.2.2.1, sb.2.2.2.2.1, fun v hv => by rw [sb.2.2.2.2.2 v hv]; exact hB v hv⟩
  refine ⟨M2, e2, rs2.io (by decide) (by decide) (by decide), ?_, r2, xsb, fun M3 s3 i3 i120 f3 => ⟨N, 0, B, fS0 N B tr, c2.ref s3 i3, ?_, ?_, fS0_SW h2 h16 t2 t (fun v hv j a b => by rw [hB v hv]; exact bi v hv j a b), fun v hv => fS0_qm h16 v⟩⟩
  · refine ⟨rs2.io (by decide) (by decide) (by decide), rs_0 rs2, rs2.io (by decide) (by decide) (by decide), rs2.ln (by decide) (by decide) (by decide)⟩
  · refine rfm_RV (f := mI M2 121) (C := C) false h16 (rs2.e s3) (by rw [i120, i2 120 (by omega) (by omega)]; exact r.2.1) (fun v hv => ?_) f3
    show (if v < N then C v else mI M 121 (2 + v)) = _
    rw [i2 121 (by omega) (by omega)]
  · rw [i120, i2 120 (by omega) (by omega)]; exact z7
/-- a loop that writes one cell a round -/
def Wc (o k : Nat) (x : Int32) (M M' : Mem) : Prop := M'.1 = M.1 ∧ mI M' o k = x ∧ (∀ b, b ≠ k → mI M' o b = mI M o b) ∧ (∀ a, a ≠ o → ∀ b, mI M' a b = mI M a b) ∧ ∀ a b, mL M' a b = mL M a b
theorem Wc.s (M : Mem) (o k : Nat) (x : Int32) : Wc o k x M (sI M o k x) := ⟨rfl, mI_s _ _ _ _, fun b n => mI_n _ _ _ _ n, fun a n b => mI_o _ _ _ _ _ n, fun _ _ => rfl⟩
theorem Wc.r (M : Mem) (o k : Nat) : Wc o k (mI M o k) M M := ⟨rfl, rfl, fun _ _ => rfl, fun _ _ _ => rfl, fun _ _ => rfl⟩
theorem Wc.tr {o k : Nat} {x y : Int32} {M M1 M2 : Mem} (a : Wc o k x M M1) (b : Wc o k y M1 M2) : Wc o k y M M2 :=
  ⟨b.1.trans a.1, b.2.1, fun c n => (b.2.2.1 c n).trans (a.2.2.1 c n), fun c n d => (b.2.2.2.1 c n d).trans (a.2.2.2.1 c n d), fun c d => (b.2.2.2.2 c d).trans (a.2.2.2.2 c d)⟩
/-- i cells from c on are written -/
def Lp (M0 : Mem) (o c : Nat) (C : Nat → Int32) (i : Nat) (M : Mem) : Prop := M.1 = M0.1 ∧ (∀ v, v < i → mI M o (c + v) = C v) ∧ (∀ b, ¬ (c ≤ b ∧ b < c + i) → mI M o b = mI M0 o b) ∧ (∀ a, a ≠ o → ∀ b, mI M a b = mI M0 a b) ∧ ∀ a b, mL M a b = mL M0 a b
theorem Lp.r (M0 : Mem) (o c : Nat) (C : Nat → Int32) : Lp M0 o c C 0 M0 := ⟨rfl, fun v hv => by omega, fun _ _ => rfl, fun _ _ _ => rfl, fun _ _ => rfl⟩
theorem Lp.s {M0 M M' : Mem} {o c i : Nat} {C : Nat → Int32} (l : Lp M0 o c C i M) (w : Wc o (c + i) (C i) M M') : Lp M0 o c C (i + 1) M' := by
  refine ⟨w.1.trans l.1, fun v hv => ?_, fun b hb => ?_, fun a n b => (w.2.2.2.1 a n b).trans (l.2.2.2.1 a n b), fun a b => (w.2.2.2.2 a b).trans (l.2.2.2.2 a b)⟩
  · by_cases e : v = i
    · rw [e]; exact w.2.1
    · rw [w.2.2.1 _ (by omega)]; exact l.2.1 v (by omega)
  · rw [w.2.2.1 b (by omega)]; exact l.2.2.1 b (by omega)
theorem lpw {α : Type} {F : Nat → Int32 → Mem → Option α} {G : Mem → Option α} {M0 : Mem} {o c N K : Nat} {C : Nat → Int32} (step : ∀ i n M, i < N → Lp M0 o c C i M → K ≤ n → ∃ M', F (n + 1) (nI i) M = F n (nI (i + 1)) M' ∧ Wc o (c + i) (C i) M M') (stop : ∀ n M, Lp M0 o c C N M → F (n + 1) (nI N) M = G M) : ∀ (d i n : Nat) (M : Mem), i + d = N → Lp M0 o c C i M → K + d + 1 ≤ n → ∃ M', F n (nI i) M = G M' ∧ Lp M0 o c C N M' := by
  intro d
  induction d with
  | zero =>
    intro i n M hi l hn
    obtain ⟨n, rfl⟩ : ∃ m, n = m + 1 := ⟨n - 1, by omega⟩
    have : i = N := by omega
    subst this
    exact ⟨M, stop n M l, l⟩
  | succ d ih =>
    intro i n M hi l hn
    obtain ⟨n, rfl⟩ : ∃ m, n = m + 1 := ⟨n - 1, by omega⟩
    obtain ⟨M1, e1, w1⟩ := step i n M (by omega) l (by omega)
    obtain ⟨M2, e2, l2⟩ := ih (i + 1) n M1 (by omega) (l.s w1) (by omega)
    exact ⟨M2, e1.trans e2, l2⟩
/-- the class's sets: what lies where -/
def SZ (M : Mem) : Prop := (isO M 7 1 ∧ isO M 100 2 ∧ isO M 100 3) ∧ (mR M 1 0 = 2 ∧ mR M 1 1 = 3) ∧ mLn M 2 = 16 ∧ mLn M 3 = 16
theorem SZ.e {M M' : Mem} (z : SZ M) (e : M'.1 = M.1) : SZ M' := by
  unfold SZ isO mR mLn mN mC at *
  rw [e]; exact z
theorem SB.z {M : Mem} {N : Nat} {S : St} (h : SB M N S) : SZ M := ⟨⟨h.1.1, h.1.2.1, h.1.2.2.1⟩, ⟨h.2.1.1, h.2.1.2.1⟩, h.2.2.1.1, h.2.2.1.2.1⟩
section
variable {M : Mem} {α : Type}
theorem SZ.f (z : SZ M) (x : Option α) : chk (isO M 7 1) x = x := chk_t z.1.1
theorem SZ.a2 (z : SZ M) (x : Option α) : chk (isO M 100 2) x = x := chk_t z.1.2.1
theorem SZ.a3 (z : SZ M) (x : Option α) : chk (isO M 100 3) x = x := chk_t z.1.2.2
theorem SZ.r2 (z : SZ M) : mR M 1 0 = 2 := z.2.1.1
theorem SZ.r3 (z : SZ M) : mR M 1 1 = 3 := z.2.1.2
theorem SZ.i2 (z : SZ M) {k : Nat} (hk : k < 16) (x : Option α) : chk (inB (nI k) (mLn M 2)) x = x := chk_t (by rw [z.2.2.1]; exact inB_n hk (by decide))
theorem SZ.i3 (z : SZ M) {k : Nat} (hk : k < 16) (x : Option α) : chk (inB (nI k) (mLn M 3)) x = x := chk_t (by rw [z.2.2.2]; exact inB_n hk (by decide))
end
/-- the class's sets, begun -/
def Bg (N : Nat) (tr : Int32) (M M' : Mem) : Prop := M'.1 = M.1 ∧ mI M' 1 3 = nI N ∧ mI M' 1 4 = tr ∧ (∀ v, v < 16 → mI M' 2 v = 0) ∧ (∀ o, o ≠ 1 → o ≠ 2 → ∀ b, mI M' o b = mI M o b) ∧ ∀ o b, mL M' o b = mL M o b
theorem SZ.bg {M : Mem} {N n : Nat} (z : SZ M) (hn : 20 ≤ n) : ∃ M', f_X7_begin n 1 (nI N) M = some M' ∧ Bg N 0 M M' := by
  generalize hM1 : sI (sI M 1 3 (nI N)) 1 4 0 = M1
  have s1 : M1.1 = M.1 := by rw [← hM1]; rfl
  have z1 := z.e s1
  obtain ⟨M', e, s, f1, f2, f3⟩ := f_fill (x := 0) (o := 2) (len := 16) (n := n) (M := M1) (by decide) z1.1.2.1 z1.2.2.1 (by omega)
  refine ⟨M', ?_, s.trans s1, ?_, ?_, f1, fun o n1 n2 b => ?_, fun o b => ?_⟩
  · rw [f_X7_begin, z.f, bnd_e, chk_t (Or.inl rfl), bnd_e, hM1, z1.r2, bnd_e, z1.a2, e, obd_s]
  · rw [f2 1 (by decide), ← hM1, mI_n _ _ _ _ (by decide), mI_s]
  · rw [f2 1 (by decide), ← hM1, mI_s]
  · rw [f2 o n2, ← hM1, mI_o _ _ _ _ _ n1, mI_o _ _ _ _ _ n1]
  · rw [f3, ← hM1]; rfl
theorem Bg.mc {M M1 M2 : Mem} {N : Nat} {tr : Int32} {C : Nat → Int32} (b : Bg N tr M M1) (l : Lp M1 2 0 C N M2) : MC N C tr M M2 := by
  obtain ⟨b1, b2, b3, b4, b5, b6⟩ := b
  obtain ⟨l1, l2, l3, l4, l5⟩ := l
  exact ⟨l1.trans b1, fun o ho c => by rw [l4 o (by omega), b5 o (by omega) (by omega)], by rw [l4 1 (by decide)]; exact b2, by rw [l4 1 (by decide)]; exact b3, fun v hv => by have := l2 v hv; rw [Nat.zero_add] at this; exact this, fun o c => (l5 o c).trans (b6 o c)⟩
/-- the reference's maker has ended -/
def RE (N : Nat) (tr : Int32) (C : Nat → Int32) (M M' : Mem) : Prop := M'.1 = M.1 ∧ (∀ o, ¬ (120 ≤ o ∧ o ≤ 130) → ∀ b, mI M' o b = mI M o b) ∧ (∀ b, mI M' 120 b = mI M 120 b) ∧ ∀ b, b < 10465 → mI M' 121 b = rfm (mI M 121) N tr C b
theorem RE_of {M M' : Mem} {N : Nat} {tr : Int32} {C : Nat → Int32} (l : Lp (wA M 121 (bgf (mI M 121) (nI N) tr)) 121 2 C N M') : RE N tr C M M' := by
  obtain ⟨l1, l2, l3, l4, l5⟩ := l
  have w : ∀ o, o ≠ 121 → ∀ b, mI (wA M 121 (bgf (mI M 121) (nI N) tr)) o b = mI M o b := fun o n b => if_neg n
  refine ⟨l1, fun o ho b => by rw [l4 o (by omega), w o (by omega)], fun b => by rw [l4 120 (by decide), w 120 (by decide)], fun b hb => ?_⟩
  unfold rfm
  by_cases c : 2 ≤ b ∧ b < 2 + N
  · rw [if_pos c]
    have := l2 (b - 2) (by omega)
    rw [show 2 + (b - 2) = b by omega] at this
    exact this
  · rw [if_neg c, l3 b c]
    show (if (121 : Nat) = 121 then bgf (mI M 121) (nI N) tr b else M.2.1 121 b) = _
    rw [if_pos rfl]
theorem RK.e {M M' : Mem} {r A : Nat} (h : RK M r A) (e : M'.1 = M.1) : RK M' r A := by
  unfold RK isO mR mLn mN mC at *
  rw [e]; exact h
section
variable {M : Mem} {α : Type}
theorem RK.f (h : RK M 120 121) (x : Option α) : chk (isO M 10 120) x = x := chk_t h.1
theorem RK.r (h : RK M 120 121) : mR M 120 0 = 121 := h.2.1
theorem RK.a (h : RK M 120 121) (x : Option α) : chk (isO M 100 121) x = x := chk_t h.2.2.1
theorem RK.i (h : RK M 120 121) {k : Nat} (hk : k < 10465) (x : Option α) : chk (inB (nI k) (mLn M 121)) x = x := chk_t (rk_in h hk)
end
/-- a maker, both sides -/
theorem Okk.mk {M : Mem} {N0 A i N n : Nat} {Q C : Nat → Int32} {S : St} {tr : Int32} {x : Option (Int32 × Mem)} {y : Mem → Option (Int32 × Mem)} (w : WJ M N0 A i Q S) (h2 : 2 ≤ N) (h16 : N ≤ 16) (t2 : tr = 0 ∨ tr = 1) (t : tr = 1 → N % 2 = 1) (bi : ∀ v, v < N → ∀ i, N ≤ i → i < 32 → bt (C v) i = false) (hn : 400 ≤ n) (hx : ∃ M1, MC N C tr M M1 ∧ x = obd2 (f_X9_startAnew n 0 M1) fun r M14 => some (r, M14)) (hy : ∀ M2, RK M2 120 121 → ∃ M3, y M2 = some (nI N, M3) ∧ RE N tr C M2 M3) : Okk i x y := by
  obtain ⟨M1, m, ex⟩ := hx
  obtain ⟨M2, e2, io, rk, _, _, fin⟩ := w.mk m h2 h16 t2 t bi hn
  obtain ⟨M3, e3, s3, i3, i120, f3⟩ := hy M2 rk
  exact ⟨nI N, M2, M3, by rw [ex, e2, obd2_s], io, e3, fin M3 s3 i3 i120 f3⟩
/-! ===== majorities ===== -/
theorem maj_M (M M' : Mem) (n : Nat) : ∀ a b c d : Int32, f_X7_majorityFrom_4 M n a b c d = f_X7_majorityFrom_4 M' n a b c d := by
  induction n with
  | zero => intros; rfl
  | succ n ih =>
    intro a b c d
    simp only [f_X7_majorityFrom_4, bnd_e, ih]
theorem maj_10 (M : Mem) (n : Nat) : ∀ a b c d : Int32, f_X10_majorityOf_4 M n a b c d = f_X7_majorityFrom_4 M n a b c d := by
  induction n with
  | zero => intros; rfl
  | succ n ih =>
    intro a b c d
    simp only [f_X10_majorityOf_4, f_X7_majorityFrom_4, bnd_e, ih]
theorem maj_mono (M : Mem) (m n : Nat) : ∀ (a b c d x : Int32), f_X7_majorityFrom_4 M n a b c d = some x → f_X7_majorityFrom_4 M (n + m) a b c d = some x := by
  induction n with
  | zero => intro a b c d x h; exact (pk_none h).elim
  | succ n ih =>
    intro a b c d x h
    rw [show n + 1 + m = (n + m) + 1 by omega, f_X7_majorityFrom_4]
    rw [f_X7_majorityFrom_4] at h
    obtain ⟨q0, h⟩ := pk_chk h
    rw [chk_t q0]
    have hs := pk_ite h
    by_cases h1 : b / (2 : Int32) < d
    · rw [if_pos h1]; exact hs.1 h1
    · rw [if_neg h1]
      have h2 := hs.2 h1
      obtain ⟨q1, h2⟩ := pk_chk h2
      rw [chk_t q1, bnd_e, bnd_e]
      exact ih _ _ _ _ _ h2
def mjv (v N : Nat) : Int32 := (f_X7_majorityFrom_4 memE 12 (nI v) (nI N) 0 0).getD 0
set_option maxRecDepth 1000000 in
theorem maj_k : (List.range 17).all (fun N => (List.range N).all fun v => decide (N < 2) || ((f_X7_majorityFrom_4 memE 12 (nI v) (nI N) 0 0).isSome && decide ((mjv v N).toBitVec.toNat < 2 ^ N))) = true := by decide +kernel
theorem maj_e {N v : Nat} (h1 : 2 ≤ N) (h2 : N ≤ 16) (hv : v < N) : (f_X7_majorityFrom_4 memE 12 (nI v) (nI N) 0 0 = some (mjv v N)) ∧ (mjv v N).toBitVec.toNat < 2 ^ N := by
  have h := List.all_eq_true.mp (List.all_eq_true.mp maj_k N (List.mem_range.mpr (by omega))) v (List.mem_range.mpr hv)
  have h3 : ¬ N < 2 := by omega
  simp only [h3, decide_false, Bool.false_or, Bool.and_eq_true] at h
  obtain ⟨x, hx⟩ := Option.isSome_iff_exists.mp h.1
  refine ⟨?_, of_decide_eq_true h.2⟩
  rw [hx]
  unfold mjv
  rw [hx]; rfl
theorem f_maj9 {N v n : Nat} {M : Mem} (h1 : 2 ≤ N) (h2 : N ≤ 16) (hv : v < N) (hn : 12 ≤ n) : f_X7_majorityFrom n (nI v) (nI N) M = some (mjv v N) := by
  rw [f_X7_majorityFrom, maj_M M memE, show n = 12 + (n - 12) by omega]
  exact maj_mono _ _ _ _ _ _ _ _ (maj_e h1 h2 hv).1
theorem f_maj10 {N v n : Nat} {M : Mem} (h1 : 2 ≤ N) (h2 : N ≤ 16) (hv : v < N) (hn : 12 ≤ n) : f_X10_majorityOf n (nI v) (nI N) M = some (mjv v N) := by
  rw [f_X10_majorityOf, maj_10, maj_M M memE, show n = 12 + (n - 12) by omega]
  exact maj_mono _ _ _ _ _ _ _ _ (maj_e h1 h2 hv).1
theorem bt_bd {x : Int32} {N i : Nat} (h : x.toBitVec.toNat < 2 ^ N) (hi : N ≤ i) : bt x i = false := by
  unfold bt BitVec.getLsbD
  exact Nat.testBit_lt_two_pow (Nat.lt_of_lt_of_le h (Nat.pow_le_pow_right (by decide) hi))
theorem mc_maj {M : Mem} {N n : Nat} (z : SZ M) (h1 : 2 ≤ N) (h2 : N ≤ 16) (hn : 60 ≤ n) : ∃ M', f_X7_makeMajority n 1 (nI N) M = some M' ∧ MC N (fun v => mjv v N) 0 M M' := by
  obtain ⟨M1, e1, b1⟩ := z.bg (N := N) (n := n) (by omega)
  have z1 := z.e b1.1
  obtain ⟨M2, e2, l2⟩ := lpw (F := fun n x M => f_X7_makeMajority_7 n 1 (nI N) x M) (G := some) (M0 := M1) (o := 2) (c := 0) (N := N) (K := 13) (C := fun v => mjv v N) (fun i n M hi l hn => by
    have zz := z1.e l.1
    refine ⟨sI M 2 i (mjv i N), ?_, by rw [Nat.zero_add]; exact Wc.s _ _ _ _⟩
    show f_X7_makeMajority_7 (n + 1) 1 (nI N) (nI i) M = _
    rw [f_X7_makeMajority_7, if_neg (nI_ge hi (by omega)), zz.f, zz.r2, bnd_e, zz.a2, f_maj9 h1 h2 hi (by omega), obd_s, zz.i2 (by omega), sI_c (by omega), bnd_e, bnd_e, nI_1]) (fun n M l => by
    show f_X7_makeMajority_7 (n + 1) 1 (nI N) (nI N) M = _
    rw [f_X7_makeMajority_7, if_pos (nI_le (Nat.le_refl _) (by omega))]) N 0 n M1 (by omega) (Lp.r _ _ _ _) (by omega)
  exact ⟨M2, by rw [f_X7_makeMajority, z.f, e1, obd_s]; exact e2, b1.mc l2⟩
theorem rm_maj {M : Mem} {N n : Nat} (h : RK M 120 121) (h1 : 2 ≤ N) (h2 : N ≤ 16) (hn : 12000 ≤ n) : ∃ M', f_X10_majority n 120 (nI N) M = some (nI N, M') ∧ RE N 0 (fun v => mjv v N) M M' := by
  have e1 := f_begin (N := nI N) (t := 0) h (n := n) (by omega)
  have h1' : RK (wA M 121 (bgf (mI M 121) (nI N) 0)) 120 121 := h
  generalize hM1 : wA M 121 (bgf (mI M 121) (nI N) 0) = M1 at h1'
  obtain ⟨M2, e2, l2⟩ := lpw (F := fun n x M => f_X10_majority_20 n 120 (nI N) x M) (G := fun M => some (nI N, M)) (M0 := M1) (o := 121) (c := 2) (N := N) (K := 13) (C := fun v => mjv v N) (fun i n M hi l hn => by
    have zz := h1'.e l.1
    refine ⟨sI M 121 (2 + i) (mjv i N), ?_, Wc.s _ _ _ _⟩
    show f_X10_majority_20 (n + 1) 120 (nI N) (nI i) M = _
    rw [f_X10_majority_20, if_neg (nI_ge hi (by omega)), zz.f, zz.r, bnd_e, zz.a, f_maj10 h1 h2 hi (by omega), obd_s, show (2 : Int32) + nI i = nI (2 + i) by rw [show (2 : Int32) = nI 2 from rfl, nI_add], zz.i (by omega), sI_c (by omega), bnd_e, bnd_e, nI_1]) (fun n M l => by
    show f_X10_majority_20 (n + 1) 120 (nI N) (nI N) M = _
    rw [f_X10_majority_20, if_pos (nI_le (Nat.le_refl _) (by omega))]) N 0 n M1 (by omega) (Lp.r _ _ _ _) (by omega)
  refine ⟨M2, ?_, RE_of (by rw [hM1]; exact l2)⟩
  rw [f_X10_majority, show (2 : Int32) = nI 2 from rfl, show (16 : Int32) = nI 16 from rfl, is_in3 (by decide) h1 h2, obd_s, if_neg ne10, h.f, e1, if_pos rfl, obd_s, hM1]
  exact e2
theorem out2 {α : Type} {a : Int32} {L N : Nat} {x y : α} (hN : N < 1000) (hL : L ≤ N) (ha : a < nI L ∨ nI (N + 1) ≤ a) : (if a < nI L then x else if a ≤ nI N then y else x) = x := by
  by_cases c : a < nI L
  · rw [if_pos c]
  · rw [if_neg c, if_neg (Int32.not_le.mpr (gt3 hN (ha.resolve_left c)))]
theorem in2 {α : Type} {k L N : Nat} {x y : α} (hN : N < 1000) (h1 : L ≤ k) (h2 : k ≤ N) : (if nI k < nI L then x else if nI k ≤ nI N then y else x) = y := by
  rw [if_neg (nI_nlt h1 (by omega)), if_pos (nI_le h2 (by omega))]
/-- majority -/
theorem op3 {M : Mem} {i n : Nat} (h : WI i M) (a : Int32) (hn : 100000 ≤ n) : Okk i (f_X9_majority n 0 a M) (fun M1 => f_X10_majority n 120 a M1) := by
  obtain ⟨N, A, Q, S, w⟩ := h
  obtain ⟨X, Y, L, p, sb, xg, xr⟩ := id w.1
  rcases rng3 (L := 2) (N := 16) (by decide) (by decide) a with ha | ⟨k, hk1, hk2, rfl⟩
  · refine Okk.same w (r := -1) ?_ ?_
    · rw [f_X9_majority]
      exact out2 (L := 2) (N := 16) (by decide) (by decide) ha
    · show f_X10_majority n 120 a M = _
      rw [f_X10_majority, show (2 : Int32) = nI 2 from rfl, show (16 : Int32) = nI 16 from rfl, is_out3 (by decide) ha, obd_s, if_pos rfl]
  · obtain ⟨M1, e1, m1⟩ := mc_maj (n := n) sb.z hk1 hk2 (by omega)
    refine Okk.mk (n := n) (C := fun v => mjv v k) (tr := 0) w hk1 hk2 (Or.inl rfl) (fun z => absurd z (by decide)) (fun v hv i a _ => bt_bd (maj_e hk1 hk2 hv).2 a) (by omega) ⟨M1, m1, ?_⟩ (fun M2 rk => rm_maj rk hk1 hk2 (by omega))
    rw [f_X9_majority]
    refine Eq.trans (in2 (L := 2) (N := 16) (by decide) hk1 hk2) ?_
    rw [chk_t xg.1, xg.2.1, bnd_e, sb.f, e1, obd_s, chk_t (xg.s (Shp1.e m1.1)).1]
/-! ===== filled, grid, plane ===== -/
def fiO (v1 v2 v4 v5 : Int32) : Nat → Int32 → Int32 → Option Int32
  | 0, _, _ => none
  | n + 1, v6, x => if v2 ≤ v6 then some x else fiO v1 v2 v4 v5 n (v6 + 1) ((x ||| ((1 : Int32) <<< ((((v4 * v2) + v6) - ((v4 * v2) + v6) / v1 * v1) &&& 31))) ||| ((1 : Int32) <<< ((((v6 * v2) + v5) - ((v6 * v2) + v5) / v1 * v1) &&& 31)))
theorem fi_l {k : Nat → Int32 → Int32 → Int32 → Mem → Option Mem} {v1 v2 v4 v5 : Int32} {v : Nat} (h0 : ¬ v1 = 0) (hv : v < 16) : ∀ (m : Nat) (v6 : Int32) (M : Mem) (n : Nat) (x : Int32), SZ M → fiO v1 v2 v4 v5 m v6 (mI M 2 v) = some x → m ≤ n → ∃ M', f_X7_makeFilled_45 k n 1 v1 v2 (nI v) v4 v5 v6 M = k 1 v1 v2 (nI (v + 1)) M' ∧ Wc 2 v x M M' := by
  intro m
  induction m with
  | zero => intro v6 M n x z h _; cases h
  | succ m ih =>
    intro v6 M n x z h hn
    obtain ⟨n, rfl⟩ : ∃ r, n = r + 1 := ⟨n - 1, by omega⟩
    unfold fiO at h
    by_cases c : v2 ≤ v6
    · rw [if_pos c] at h
      refine ⟨M, ?_, ?_⟩
      · rw [f_X7_makeFilled_45, if_pos c, bnd_e, nI_1]
      · rw [← Option.some.inj h]; exact Wc.r M 2 v
    · rw [if_neg c] at h
      generalize hA : sI M 2 v (mI M 2 v ||| ((1 : Int32) <<< ((((v4 * v2) + v6) - ((v4 * v2) + v6) / v1 * v1) &&& 31))) = MA
      have wA : Wc 2 v (mI M 2 v ||| ((1 : Int32) <<< ((((v4 * v2) + v6) - ((v4 * v2) + v6) / v1 * v1) &&& 31))) M MA := by rw [← hA]; exact Wc.s _ _ _ _
      have zA := z.e wA.1
      generalize hB : sI MA 2 v (mI MA 2 v ||| ((1 : Int32) <<< ((((v6 * v2) + v5) - ((v6 * v2) + v5) / v1 * v1) &&& 31))) = MB
      have wB : Wc 2 v (mI MA 2 v ||| ((1 : Int32) <<< ((((v6 * v2) + v5) - ((v6 * v2) + v5) / v1 * v1) &&& 31))) MA MB := by rw [← hB]; exact Wc.s _ _ _ _
      have zB := zA.e wB.1
      obtain ⟨M', e, w⟩ := ih (v6 + 1) MB n x zB (by rw [wB.2.1, wA.2.1]; exact h) (by omega)
      refine ⟨M', ?_, wA.tr (wB.tr w)⟩
      rw [f_X7_makeFilled_45, if_neg c, z.f, z.r2, bnd_e, z.a2, z.i2 hv, chk_t h0, z.i2 hv, mI_c (by omega), sI_c (by omega), hA, bnd_e, zA.r2, bnd_e, zA.a2, zA.i2 hv, chk_t h0, zA.i2 hv, mI_c (by omega), sI_c (by omega), hB, bnd_e, bnd_e]
      exact e
set_option maxRecDepth 1000000 in
theorem fi_k : (List.range 17).all (fun N => (List.range N).all fun v => decide (N < 2) || (decide (fiO (nI N) (nI (kk N)) (nI v / nI (kk N)) (nI v - nI v / nI (kk N) * nI (kk N)) 5 0 0 = some (crv (kk N) N v)) && decide ((crv (kk N) N v).toBitVec.toNat < 2 ^ N))) = true := by decide +kernel
theorem fi_e {N v : Nat} (h1 : 2 ≤ N) (h2 : N ≤ 16) (hv : v < N) : fiO (nI N) (nI (kk N)) (nI v / nI (kk N)) (nI v - nI v / nI (kk N) * nI (kk N)) 5 0 0 = some (crv (kk N) N v) ∧ (crv (kk N) N v).toBitVec.toNat < 2 ^ N := by
  have h := List.all_eq_true.mp (List.all_eq_true.mp fi_k N (List.mem_range.mpr (by omega))) v (List.mem_range.mpr hv)
  have h3 : ¬ N < 2 := by omega
  simp only [h3, decide_false, Bool.false_or, Bool.and_eq_true] at h
  exact ⟨of_decide_eq_true h.1, of_decide_eq_true h.2⟩
theorem nI_n0 {N : Nat} (h : 0 < N) (h2 : N < 1000) : ¬ nI N = 0 := fun z => by
  have : (0 : Int32) < nI N := nI_lt (a := 0) h (by omega)
  rw [z] at this
  exact Int32.lt_irrefl this
theorem kk_3 (N : Nat) : kk N = 2 ∨ kk N = 3 ∨ kk N = 4 := by
  unfold kk
  split
  · exact Or.inl rfl
  · split
    · exact Or.inr (Or.inl rfl)
    · exact Or.inr (Or.inr rfl)
theorem mc_filled {M : Mem} {N n : Nat} (z : SZ M) (h1 : 2 ≤ N) (h2 : N ≤ 16) (hn : 60 ≤ n) : ∃ M', f_X7_makeFilled n 1 (nI N) M = some M' ∧ MC N (crv (kk N) N) 0 M M' := by
  have k3 := kk_3 N
  have main : ∀ n, 50 ≤ n → ∃ M', f_X7_makeFilled_20 n 1 (nI N) (nI (kk N)) M = some M' ∧ MC N (crv (kk N) N) 0 M M' := fun n hn => by
    obtain ⟨M1, e1, b1⟩ := z.bg (N := N) (n := n) (by omega)
    have z1 := z.e b1.1
    obtain ⟨M2, e2, l2⟩ := lpw (F := fun n x M => f_X7_makeFilled_27 n 1 (nI N) (nI (kk N)) x M) (G := some) (M0 := M1) (o := 2) (c := 0) (N := N) (K := 13) (C := crv (kk N) N) (fun i n M hi l hn => by
      have zz := z1.e l.1
      have r0 : mI M 2 i = 0 := by rw [l.2.2.1 i (by omega)]; exact b1.2.2.2.1 i (by omega)
      obtain ⟨M', e, w⟩ := fi_l (k := f_X7_makeFilled_27 n) (v1 := nI N) (v2 := nI (kk N)) (v4 := nI i / nI (kk N)) (v5 := nI i - nI i / nI (kk N) * nI (kk N)) (v := i) (nI_n0 (by omega) (by omega)) (by omega) 5 0 M n (crv (kk N) N i) zz (by rw [r0]; exact (fi_e h1 h2 hi).1) (by omega)
      refine ⟨M', ?_, by rw [Nat.zero_add]; exact w⟩
      show f_X7_makeFilled_27 (n + 1) 1 (nI N) (nI (kk N)) (nI i) M = _
      rw [f_X7_makeFilled_27, if_neg (nI_ge hi (by omega)), chk_t (nI_n0 (by omega) (by omega)), bnd_e, chk_t (nI_n0 (by omega) (by omega)), bnd_e]
      exact e) (fun n M l => by
      show f_X7_makeFilled_27 (n + 1) 1 (nI N) (nI (kk N)) (nI N) M = _
      rw [f_X7_makeFilled_27, if_pos (nI_le (Nat.le_refl _) (by omega))]) N 0 n M1 (by omega) (Lp.r _ _ _ _) (by omega)
    exact ⟨M2, by rw [f_X7_makeFilled_20, z.f, e1, obd_s]; exact e2, b1.mc l2⟩
  have sq : ∀ v : Nat, v ≤ 4 → nI v * nI v = nI (v * v) := fun v _ => pk_mul v v
  obtain ⟨n, rfl⟩ : ∃ m, n = m + 3 := ⟨n - 3, by omega⟩
  have go : ∀ (v n : Nat), v < kk N → 2 ≤ v → f_X7_makeFilled_2 (n + 1) 1 (nI N) (nI v) M = f_X7_makeFilled_2 n 1 (nI N) (nI (v + 1)) M := by
    intro v n hv hv1
    have hlt : v * v < N := by
      unfold kk at hv
      by_cases q1 : N ≤ 4
      · rw [if_pos q1] at hv; omega
      · rw [if_neg q1] at hv
        by_cases q2 : N ≤ 9
        · rw [if_pos q2] at hv
          have : v = 2 := by omega
          subst this; omega
        · rw [if_neg q2] at hv
          have : v = 2 ∨ v = 3 := by omega
          rcases this with rfl | rfl <;> omega
    have hv4 : v < 4 := by omega
    rw [f_X7_makeFilled_2, if_neg (show ¬ (4 : Int32) ≤ nI v from nI_ge (b := 4) hv4 (by decide)), sq v (by omega), if_neg (nI_ge hlt (by omega)), bnd_e, nI_1]
  have stop : ∀ n, f_X7_makeFilled_2 (n + 1) 1 (nI N) (nI (kk N)) M = f_X7_makeFilled_20 n 1 (nI N) (nI (kk N)) M := by
    intro n
    rw [f_X7_makeFilled_2]
    by_cases c : (4 : Int32) ≤ nI (kk N)
    · rw [if_pos c]
    · have hle : nI N ≤ nI (kk N) * nI (kk N) := by
        have k4 : ¬ kk N = 4 := fun e => c (by rw [e]; decide)
        rw [sq _ (by omega)]
        refine nI_le ?_ (by rcases k3 with e | e | e <;> rw [e] <;> decide)
        unfold kk at k4 ⊢
        by_cases q1 : N ≤ 4
        · rw [if_pos q1]; omega
        · rw [if_neg q1] at k4 ⊢
          by_cases q2 : N ≤ 9
          · rw [if_pos q2]; omega
          · rw [if_neg q2] at k4; omega
      rw [if_neg c, if_pos hle]
  rw [f_X7_makeFilled, show (2 : Int32) = nI 2 from rfl]
  rcases k3 with e | e | e
  · obtain ⟨M', e', m'⟩ := main (n + 2) (by omega)
    refine ⟨M', ?_, m'⟩
    have := stop (n + 2)
    rw [e] at this e'
    exact this.trans e'
  · obtain ⟨M', e', m'⟩ := main (n + 1) (by omega)
    refine ⟨M', ?_, m'⟩
    have := stop (n + 1)
    rw [go 2 (n + 2) (by omega) (by decide)]
    rw [e] at this e'
    exact this.trans e'
  · obtain ⟨M', e', m'⟩ := main n (by omega)
    refine ⟨M', ?_, m'⟩
    have := stop n
    rw [go 2 (n + 2) (by omega) (by decide), go 3 (n + 1) (by omega) (by decide)]
    rw [e] at this e'
    exact this.trans e'
theorem RE_wA (M : Mem) (N : Nat) (tr : Int32) (C : Nat → Int32) : RE N tr C M (wA M 121 (rfm (mI M 121) N tr C)) := by
  refine ⟨rfl, fun o ho b => ?_, fun b => ?_, fun b _ => ?_⟩
  · show (if o = 121 then _ else M.2.1 o b) = _
    rw [if_neg (by omega)]; rfl
  · show (if (120 : Nat) = 121 then rfm (mI M 121) N tr C b else M.2.1 120 b) = _
    rw [if_neg (by decide)]; rfl
  · show (if (121 : Nat) = 121 then rfm (mI M 121) N tr C b else M.2.1 121 b) = _
    rw [if_pos rfl]
theorem rm_filled {M : Mem} {N n : Nat} (h : RK M 120 121) (h1 : 2 ≤ N) (h2 : N ≤ 16) (hn : 12000 ≤ n) : ∃ M', f_X10_makeFilled n 120 (nI N) M = some (nI N, M') ∧ RE N 0 (crv (kk N) N) M M' :=
  ⟨_, f_filled h1 h2 h (by omega), RE_wA M N 0 (crv (kk N) N)⟩
theorem op2 {M : Mem} {i n : Nat} (h : WI i M) (a : Int32) (hn : 100000 ≤ n) : Okk i (f_X9_filled n 0 a M) (fun M1 => f_X10_filled n 120 a M1) := by
  obtain ⟨N, A, Q, S, w⟩ := h
  obtain ⟨X, Y, L, p, sb, xg, xr⟩ := id w.1
  rcases rng3 (L := 2) (N := 16) (by decide) (by decide) a with ha | ⟨k, hk1, hk2, rfl⟩
  · refine Okk.same w (r := -1) ?_ ?_
    · rw [f_X9_filled]
      exact out2 (L := 2) (N := 16) (by decide) (by decide) ha
    · show f_X10_filled n 120 a M = _
      rw [f_X10_filled, show (2 : Int32) = nI 2 from rfl, show (16 : Int32) = nI 16 from rfl, is_out3 (by decide) ha, obd_s, if_pos rfl]
  · obtain ⟨M1, e1, m1⟩ := mc_filled (n := n) sb.z hk1 hk2 (by omega)
    refine Okk.mk (n := n) (C := crv (kk k) k) (tr := 0) w hk1 hk2 (Or.inl rfl) (fun z => absurd z (by decide)) (fun v hv i a _ => bt_bd (fi_e hk1 hk2 hv).2 a) (by omega) ⟨M1, m1, ?_⟩ (fun M2 rk => ?_)
    · rw [f_X9_filled]
      refine Eq.trans (in2 (L := 2) (N := 16) (by decide) hk1 hk2) ?_
      rw [chk_t xg.1, xg.2.1, bnd_e, sb.f, e1, obd_s, chk_t (xg.s (Shp1.e m1.1)).1]
    · obtain ⟨M3, e3, r3⟩ := rm_filled (n := n) rk hk1 hk2 (by omega)
      refine ⟨M3, ?_, r3⟩
      show f_X10_filled n 120 (nI k) M2 = _
      rw [f_X10_filled, show (2 : Int32) = nI 2 from rfl, show (16 : Int32) = nI 16 from rfl, is_in3 (by decide) hk1 hk2, obd_s, if_neg ne10, rk.f, e3, obd2_s]
theorem op0 {M : Mem} {i n : Nat} (h : WI i M) (a : Int32) (hn : 100000 ≤ n) : Okk i (f_X9_grid n 0 a M) (fun M1 => f_X10_grid n 120 a M1) := by
  obtain ⟨N, A, Q, S, w⟩ := h
  obtain ⟨X, Y, L, p, sb, xg, xr⟩ := id w.1
  rcases rng3 (L := 2) (N := 4) (by decide) (by decide) a with ha | ⟨k, hk1, hk2, rfl⟩
  · refine Okk.same w (r := -1) ?_ ?_
    · rw [f_X9_grid]
      exact out2 (L := 2) (N := 4) (by decide) (by decide) ha
    · show f_X10_grid n 120 a M = _
      rw [f_X10_grid, show (2 : Int32) = nI 2 from rfl, show (4 : Int32) = nI 4 from rfl, is_out3 (by decide) ha, obd_s, if_pos rfl]
  · have sq : nI k * nI k = nI (k * k) := pk_mul k k
    have k2 : 2 ≤ k * k ∧ k * k ≤ 16 := by
      rcases (show k = 2 ∨ k = 3 ∨ k = 4 by omega) with rfl | rfl | rfl <;> decide
    obtain ⟨M1, e1, m1⟩ := mc_filled (n := n) sb.z k2.1 k2.2 (by omega)
    refine Okk.mk (n := n) (C := crv (kk (k * k)) (k * k)) (tr := 0) w k2.1 k2.2 (Or.inl rfl) (fun z => absurd z (by decide)) (fun v hv i a _ => bt_bd (fi_e k2.1 k2.2 hv).2 a) (by omega) ⟨M1, m1, ?_⟩ (fun M2 rk => ?_)
    · rw [f_X9_grid]
      refine Eq.trans (in2 (L := 2) (N := 4) (by decide) hk1 hk2) ?_
      rw [chk_t xg.1, xg.2.1, bnd_e, sb.f, sq, e1, obd_s, chk_t (xg.s (Shp1.e m1.1)).1]
    · obtain ⟨M3, e3, r3⟩ := rm_filled (n := n) rk k2.1 k2.2 (by omega)
      refine ⟨M3, ?_, r3⟩
      show f_X10_grid n 120 (nI k) M2 = _
      rw [f_X10_grid, show (2 : Int32) = nI 2 from rfl, show (4 : Int32) = nI 4 from rfl, is_in3 (by decide) hk1 hk2, obd_s, if_neg ne10, rk.f, f_X10_makeGrid, rk.f, sq, e3, obd2_s, obd2_s]
/-! ===== plane, wheel, tree ===== -/
def fpO (v1 v2 v3 : Int32) : Nat → Int32 → Int32 → Option Int32
  | 0, _, _ => none
  | n + 1, v4, x => if v1 < v4 then some x else if inB v4 4 then fpO v1 v2 v3 n (v4 + 1) (x ||| ((1 : Int32) <<< (((v3 + (l_PS (v4).toNatClampNeg)) - (v3 + (l_PS (v4).toNatClampNeg)) / v2 * v2) &&& 31))) else none
theorem fp_l {k : Nat → Int32 → Int32 → Int32 → Mem → Option Mem} {v1 v2 : Int32} {v : Nat} (h0 : ¬ v2 = 0) (hv : v < 16) : ∀ (m : Nat) (v4 : Int32) (M : Mem) (n : Nat) (x : Int32), SZ M → fpO v1 v2 (nI v) m v4 (mI M 2 v) = some x → m ≤ n → ∃ M', f_X7_makePlane_23 k n 1 v1 v2 (nI v) v4 M = k 1 v1 v2 (nI (v + 1)) M' ∧ Wc 2 v x M M' := by
  intro m
  induction m with
  | zero => intro v4 M n x z h _; cases h
  | succ m ih =>
    intro v4 M n x z h hn
    obtain ⟨n, rfl⟩ : ∃ r, n = r + 1 := ⟨n - 1, by omega⟩
    unfold fpO at h
    by_cases c : v1 < v4
    · rw [if_pos c] at h
      refine ⟨M, ?_, ?_⟩
      · rw [f_X7_makePlane_23, if_pos c, bnd_e, nI_1]
      · rw [← Option.some.inj h]; exact Wc.r M 2 v
    · rw [if_neg c] at h
      by_cases d : inB v4 4
      · rw [if_pos d] at h
        generalize hA : sI M 2 v (mI M 2 v ||| ((1 : Int32) <<< (((nI v + (l_PS (v4).toNatClampNeg)) - (nI v + (l_PS (v4).toNatClampNeg)) / v2 * v2) &&& 31))) = MA
        have wA : Wc 2 v (mI M 2 v ||| ((1 : Int32) <<< (((nI v + (l_PS (v4).toNatClampNeg)) - (nI v + (l_PS (v4).toNatClampNeg)) / v2 * v2) &&& 31))) M MA := by rw [← hA]; exact Wc.s _ _ _ _
        obtain ⟨M', e, w⟩ := ih (v4 + 1) MA n x (z.e wA.1) (by rw [wA.2.1]; exact h) (by omega)
        refine ⟨M', ?_, wA.tr w⟩
        rw [f_X7_makePlane_23, if_neg c, z.f, z.r2, bnd_e, z.a2, z.i2 hv, chk_t d, chk_t h0, z.i2 hv, mI_c (by omega), sI_c (by omega), hA, bnd_e, bnd_e]
        exact e
      · rw [if_neg d] at h; cases h
/-- the base of a node in a plane, as the reference makes it -/
def plv (q N v : Nat) : Int32 := ((((1 : Int32) <<< (nI v &&& 31)) ||| ((1 : Int32) <<< (((nI v + (1 : Int32)) - (nI v + (1 : Int32)) / nI N * nI N) &&& 31))) ||| ((1 : Int32) <<< (((nI v + (3 : Int32)) - (nI v + (3 : Int32)) / nI N * nI N) &&& 31))) ||| (if q = 3 then ((1 : Int32) <<< (((nI v + (9 : Int32)) - (nI v + (9 : Int32)) / nI N * nI N) &&& 31)) else 0)
set_option maxRecDepth 1000000 in
theorem fp_k : ([(2, 7), (3, 13)] : List (Nat × Nat)).all (fun q => (List.range q.2).all fun v => decide (fpO (nI q.1) (nI q.2) (nI v) 6 0 0 = some (plv q.1 q.2 v)) && decide ((plv q.1 q.2 v).toBitVec.toNat < 2 ^ q.2)) = true := by decide +kernel
theorem fp_e {q N v : Nat} (h : (q = 2 ∧ N = 7) ∨ (q = 3 ∧ N = 13)) (hv : v < N) : fpO (nI q) (nI N) (nI v) 6 0 0 = some (plv q N v) ∧ (plv q N v).toBitVec.toNat < 2 ^ N := by
  have m : (q, N) ∈ ([(2, 7), (3, 13)] : List (Nat × Nat)) := by
    rcases h with ⟨rfl, rfl⟩ | ⟨rfl, rfl⟩ <;> simp
  have h := List.all_eq_true.mp (List.all_eq_true.mp fp_k (q, N) m) v (List.mem_range.mpr hv)
  simp only [Bool.and_eq_true] at h
  exact ⟨of_decide_eq_true h.1, of_decide_eq_true h.2⟩
theorem mc_plane {M : Mem} {q N n : Nat} (z : SZ M) (h : (q = 2 ∧ N = 7) ∨ (q = 3 ∧ N = 13)) (hn : 60 ≤ n) : ∃ M', f_X7_makePlane n 1 (nI q) M = some M' ∧ MC N (plv q N) 0 M M' := by
  have hN : N ≤ 13 := by omega
  have hN0 : 7 ≤ N := by omega
  obtain ⟨M1, e1, b1⟩ := z.bg (N := N) (n := n) (by omega)
  have z1 := z.e b1.1
  have ex : ((nI q * nI q) + nI q) + (1 : Int32) = nI N := by
    rcases h with ⟨rfl, rfl⟩ | ⟨rfl, rfl⟩ <;> decide
  obtain ⟨M2, e2, l2⟩ := lpw (F := fun n x M => f_X7_makePlane_15 n 1 (nI q) (nI N) x M) (G := some) (M0 := M1) (o := 2) (c := 0) (N := N) (K := 13) (C := plv q N) (fun i n M hi l hn => by
    have zz := z1.e l.1
    have r0 : mI M 2 i = 0 := by rw [l.2.2.1 i (by omega)]; exact b1.2.2.2.1 i (by omega)
    obtain ⟨M', e, w⟩ := fp_l (k := f_X7_makePlane_15 n) (v1 := nI q) (v2 := nI N) (v := i) (nI_n0 (by omega) (by omega)) (by omega) 6 0 M n (plv q N i) zz (by rw [r0]; exact (fp_e h hi).1) (by omega)
    refine ⟨M', ?_, by rw [Nat.zero_add]; exact w⟩
    show f_X7_makePlane_15 (n + 1) 1 (nI q) (nI N) (nI i) M = _
    rw [f_X7_makePlane_15, if_neg (nI_ge hi (by omega))]
    exact e) (fun n M l => by
    show f_X7_makePlane_15 (n + 1) 1 (nI q) (nI N) (nI N) M = _
    rw [f_X7_makePlane_15, if_pos (nI_le (Nat.le_refl _) (by omega))]) N 0 n M1 (by omega) (Lp.r _ _ _ _) (by omega)
  exact ⟨M2, by rw [f_X7_makePlane, bnd_e, z.f, ex, e1, obd_s]; exact e2, b1.mc l2⟩
theorem rm_plane {M : Mem} {q N n : Nat} (h : RK M 120 121) (hq : (q = 2 ∧ N = 7) ∨ (q = 3 ∧ N = 13)) (hn : 12000 ≤ n) : ∃ M', f_X10_plane n 120 (nI q) M = some (nI N, M') ∧ RE N 0 (plv q N) M M' := by
  have hN : N ≤ 13 := by omega
  have hN0 : 7 ≤ N := by omega
  have e1 := f_begin (N := nI N) (t := 0) h (n := n) (by omega)
  have h1' : RK (wA M 121 (bgf (mI M 121) (nI N) 0)) 120 121 := h
  generalize hM1 : wA M 121 (bgf (mI M 121) (nI N) 0) = M1 at h1'
  obtain ⟨M2, e2, l2⟩ := lpw (F := fun n x M => f_X10_plane_32 n 120 (nI q) (nI N) x M) (G := fun M => some (nI N, M)) (M0 := M1) (o := 121) (c := 2) (N := N) (K := 13) (C := plv q N) (fun i n M hi l hn => by
    have zz := h1'.e l.1
    refine ⟨sI M 121 (2 + i) (plv q N i), ?_, Wc.s _ _ _ _⟩
    show f_X10_plane_32 (n + 1) 120 (nI q) (nI N) (nI i) M = _
    have n0 := nI_n0 (N := N) (by omega) (by omega)
    rw [f_X10_plane_32, if_neg (nI_ge hi (by omega)), zz.f, zz.r, bnd_e, zz.a, chk_t n0, chk_t n0]
    rcases hq with ⟨rfl, rfl⟩ | ⟨rfl, rfl⟩
    · rw [if_neg (show ¬ nI 2 = (3 : Int32) by decide), show (2 : Int32) + nI i = nI (2 + i) by rw [show (2 : Int32) = nI 2 from rfl, nI_add], zz.i (by omega), sI_c (by omega), bnd_e, bnd_e, nI_1]
      rw [plv, if_neg (by decide), nI_1]
    · rw [if_pos (show nI 3 = (3 : Int32) from rfl), chk_t n0, show (2 : Int32) + nI i = nI (2 + i) by rw [show (2 : Int32) = nI 2 from rfl, nI_add], zz.i (by omega), sI_c (by omega), bnd_e, bnd_e, nI_1]
      rw [plv, if_pos rfl, nI_1]) (fun n M l => by
    show f_X10_plane_32 (n + 1) 120 (nI q) (nI N) (nI N) M = _
    rw [f_X10_plane_32, if_pos (nI_le (Nat.le_refl _) (by omega))]) N 0 n M1 (by omega) (Lp.r _ _ _ _) (by omega)
  refine ⟨M2, ?_, RE_of (by rw [hM1]; exact l2)⟩
  have e3 : f_X10_plane_23 n 120 (nI q) (nI N) M = some (nI N, M2) := by
    rw [f_X10_plane_23, h.f, e1, if_pos rfl, obd_s, hM1]
    exact e2
  rw [f_X10_plane, show (2 : Int32) = nI 2 from rfl, show (3 : Int32) = nI 3 from rfl, is_in3 (by decide) (by omega) (by omega), obd_s, if_neg ne10]
  rcases hq with ⟨rfl, rfl⟩ | ⟨rfl, rfl⟩
  · rw [if_pos rfl]; exact e3
  · rw [if_neg (by decide)]; exact e3
theorem op1 {M : Mem} {i n : Nat} (h : WI i M) (a : Int32) (hn : 100000 ≤ n) : Okk i (f_X9_plane n 0 a M) (fun M1 => f_X10_plane n 120 a M1) := by
  obtain ⟨N, A, Q, S, w⟩ := h
  obtain ⟨X, Y, L, p, sb, xg, xr⟩ := id w.1
  rcases rng3 (L := 2) (N := 3) (by decide) (by decide) a with ha | ⟨k, hk1, hk2, rfl⟩
  · refine Okk.same w (r := -1) ?_ ?_
    · rw [f_X9_plane]
      exact out2 (L := 2) (N := 3) (by decide) (by decide) ha
    · show f_X10_plane n 120 a M = _
      rw [f_X10_plane, show (2 : Int32) = nI 2 from rfl, show (3 : Int32) = nI 3 from rfl, is_out3 (by decide) ha, obd_s, if_pos rfl]
  · obtain ⟨K, hK⟩ : ∃ K, (k = 2 ∧ K = 7) ∨ (k = 3 ∧ K = 13) := by
      rcases (show k = 2 ∨ k = 3 by omega) with e | e
      · exact ⟨7, Or.inl ⟨e, rfl⟩⟩
      · exact ⟨13, Or.inr ⟨e, rfl⟩⟩
    obtain ⟨M1, e1, m1⟩ := mc_plane (n := n) sb.z hK (by omega)
    refine Okk.mk (n := n) (N := K) (C := plv k K) (tr := 0) w (by omega) (by omega) (Or.inl rfl) (fun z => absurd z (by decide)) (fun v hv i a _ => bt_bd (fp_e hK hv).2 a) (by omega) ⟨M1, m1, ?_⟩ (fun M2 rk => rm_plane rk hK (by omega))
    rw [f_X9_plane]
    refine Eq.trans (in2 (L := 2) (N := 3) (by decide) hk1 hk2) ?_
    rw [chk_t xg.1, xg.2.1, bnd_e, sb.f, e1, obd_s, chk_t (xg.s (Shp1.e m1.1)).1]
/-- the base of a node in a wheel -/
def whv (N v : Nat) : Int32 := if v = 0 then (((1 : Int32) <<< (nI N &&& 31)) - (1 : Int32)) &&& (-2 : Int32) else (1 : Int32) ||| ((1 : Int32) <<< (nI v &&& 31))
set_option maxRecDepth 1000000 in
theorem wh_k : (List.range 17).all (fun N => decide (N < 3) || (decide ((((1 : Int32) <<< (nI N &&& 31)) - (1 : Int32)) - (1 : Int32) = whv N 0) && (List.range N).all fun v => decide ((whv N v).toBitVec.toNat < 2 ^ N))) = true := by decide +kernel
theorem whv_e {N v : Nat} (h1 : 3 ≤ N) (h2 : N ≤ 16) (hv : v < N) : (((1 : Int32) <<< (nI N &&& 31)) - (1 : Int32)) - (1 : Int32) = whv N 0 ∧ (whv N v).toBitVec.toNat < 2 ^ N := by
  have h := List.all_eq_true.mp wh_k N (List.mem_range.mpr (by omega))
  have h3 : ¬ N < 3 := by omega
  simp only [h3, decide_false, Bool.false_or, Bool.and_eq_true] at h
  exact ⟨of_decide_eq_true h.1, of_decide_eq_true (List.all_eq_true.mp h.2 v (List.mem_range.mpr hv))⟩
theorem Lp.sh {M0 M1 M : Mem} {o c n : Nat} {C : Nat → Int32} (w : Wc o c (C 0) M0 M1) (l : Lp M1 o (c + 1) (fun i => C (i + 1)) n M) : Lp M0 o c C (n + 1) M := by
  obtain ⟨l1, l2, l3, l4, l5⟩ := l
  refine ⟨l1.trans w.1, fun v hv => ?_, fun b hb => ?_, fun a n b => (l4 a n b).trans (w.2.2.2.1 a n b), fun a b => (l5 a b).trans (w.2.2.2.2 a b)⟩
  · by_cases e : v = 0
    · rw [e, l3 _ (by omega)]; exact w.2.1
    · have := l2 (v - 1) (by omega)
      rw [show c + 1 + (v - 1) = c + v by omega] at this
      rw [this]
      show C (v - 1 + 1) = C v
      rw [show v - 1 + 1 = v by omega]
  · rw [l3 b (by omega), w.2.2.1 b (by omega)]
theorem mc_wheel {M : Mem} {N n : Nat} (z : SZ M) (h1 : 3 ≤ N) (h2 : N ≤ 16) (hn : 60 ≤ n) : ∃ M', f_X7_makeWheel n 1 (nI N) M = some M' ∧ MC N (whv N) 0 M M' := by
  obtain ⟨M1, e1, b1⟩ := z.bg (N := N) (n := n) (by omega)
  have z1 := z.e b1.1
  have w0 : Wc 2 0 (whv N 0) M1 (sI M1 2 0 (whv N 0)) := Wc.s _ _ _ _
  generalize hMw : sI M1 2 0 (whv N 0) = Mw at w0
  have zw := z1.e w0.1
  obtain ⟨M2, e2, l2⟩ := lpw (F := fun n x M => f_X7_makeWheel_20 n 1 (nI N) (x + 1) M) (G := some) (M0 := Mw) (o := 2) (c := 0 + 1) (N := N - 1) (K := 13) (C := fun i => whv N (i + 1)) (fun i n M hi l hn => by
    have zz := zw.e l.1
    refine ⟨sI M 2 (i + 1) (whv N (i + 1)), ?_, by rw [show 0 + 1 + i = i + 1 by omega]; exact Wc.s _ _ _ _⟩
    show f_X7_makeWheel_20 (n + 1) 1 (nI N) (nI i + 1) M = f_X7_makeWheel_20 n 1 (nI N) (nI (i + 1) + 1) _
    rw [nI_1, f_X7_makeWheel_20, if_neg (nI_ge (by omega) (by omega)), zz.f, zz.r2, bnd_e, zz.a2, zz.i2 (by omega), sI_c (by omega), bnd_e, bnd_e]
    rw [whv, if_neg (by omega)]) (fun n M l => by
    show f_X7_makeWheel_20 (n + 1) 1 (nI N) (nI (N - 1) + 1) M = _
    rw [nI_1, show N - 1 + 1 = N by omega, f_X7_makeWheel_20, if_pos (nI_le (Nat.le_refl _) (by omega))]) (N - 1) 0 n Mw (by omega) (Lp.r _ _ _ _) (by omega)
  have l3 := Lp.sh (C := whv N) w0 l2
  rw [show N - 1 + 1 = N by omega] at l3
  refine ⟨M2, ?_, b1.mc l3⟩
  rw [f_X7_makeWheel, z.f, e1, obd_s, z1.f, z1.r2, bnd_e, z1.a2, f_X7_allNodes, z1.f, b1.2.1, obd_s, chk_t (show inB (0 : Int32) (mLn M1 2) by rw [z1.2.2.1]; decide), show Int32.toNatClampNeg 0 = 0 by decide, show (((1 : Int32) <<< (nI N &&& 31)) - (1 : Int32)) &&& (-2 : Int32) = whv N 0 from rfl, hMw, bnd_e]
  exact e2
theorem rm_wheel {M : Mem} {N n : Nat} (h : RK M 120 121) (h1 : 3 ≤ N) (h2 : N ≤ 16) (hn : 12000 ≤ n) : ∃ M', f_X10_wheel n 120 (nI N) M = some (nI N, M') ∧ RE N 0 (whv N) M M' := by
  have e1 := f_begin (N := nI N) (t := 0) h (n := n) (by omega)
  have h1' : RK (wA M 121 (bgf (mI M 121) (nI N) 0)) 120 121 := h
  have m0 : mI (wA M 121 (bgf (mI M 121) (nI N) 0)) 121 0 = nI N := rfl
  generalize hM1 : wA M 121 (bgf (mI M 121) (nI N) 0) = M1 at h1' m0
  have w0 : Wc 121 2 (whv N 0) M1 (sI M1 121 2 (whv N 0)) := Wc.s _ _ _ _
  generalize hMw : sI M1 121 2 (whv N 0) = Mw at w0
  have zw := h1'.e w0.1
  obtain ⟨M2, e2, l2⟩ := lpw (F := fun n x M => f_X10_wheel_32 n 120 (nI N) (x + 1) M) (G := fun M => some (nI N, M)) (M0 := Mw) (o := 121) (c := 2 + 1) (N := N - 1) (K := 13) (C := fun i => whv N (i + 1)) (fun i n M hi l hn => by
    have zz := zw.e l.1
    refine ⟨sI M 121 (2 + (i + 1)) (whv N (i + 1)), ?_, by rw [show 2 + 1 + i = 2 + (i + 1) by omega]; exact Wc.s _ _ _ _⟩
    show f_X10_wheel_32 (n + 1) 120 (nI N) (nI i + 1) M = f_X10_wheel_32 n 120 (nI N) (nI (i + 1) + 1) _
    rw [nI_1, f_X10_wheel_32, if_neg (nI_ge (by omega) (by omega)), zz.f, zz.r, bnd_e, zz.a, show (2 : Int32) + nI (i + 1) = nI (2 + (i + 1)) by rw [show (2 : Int32) = nI 2 from rfl, nI_add], zz.i (by omega), sI_c (by omega), bnd_e, bnd_e]
    rw [whv, if_neg (by omega), Int32.or_comm]) (fun n M l => by
    show f_X10_wheel_32 (n + 1) 120 (nI N) (nI (N - 1) + 1) M = _
    rw [nI_1, show N - 1 + 1 = N by omega, f_X10_wheel_32, if_pos (nI_le (Nat.le_refl _) (by omega))]) (N - 1) 0 n Mw (by omega) (Lp.r _ _ _ _) (by omega)
  have l3 := Lp.sh (C := whv N) w0 l2
  rw [show N - 1 + 1 = N by omega] at l3
  refine ⟨M2, ?_, RE_of (by rw [hM1]; exact l3)⟩
  rw [f_X10_wheel, show (3 : Int32) = nI 3 from rfl, show (16 : Int32) = nI 16 from rfl, is_in3 (by decide) h1 h2, obd_s, if_neg ne10, h.f, e1, if_pos rfl, obd_s, hM1, h1'.f, h1'.r, bnd_e, h1'.a, f_X10_all, h1'.f, h1'.r, bnd_e, h1'.a, chk_t (show inB (0 : Int32) (mLn M1 121) from rk_in h1' (k := 0) (by decide)), show Int32.toNatClampNeg 0 = 0 by decide, m0, obd_s, chk_t (show inB (2 : Int32) (mLn M1 121) from rk_in h1' (k := 2) (by decide)), show Int32.toNatClampNeg 2 = 2 by decide, (whv_e (v := 0) h1 h2 (by omega)).1, hMw, bnd_e]
  exact e2
theorem op4 {M : Mem} {i n : Nat} (h : WI i M) (a : Int32) (hn : 100000 ≤ n) : Okk i (f_X9_wheel n 0 a M) (fun M1 => f_X10_wheel n 120 a M1) := by
  obtain ⟨N, A, Q, S, w⟩ := h
  obtain ⟨X, Y, L, p, sb, xg, xr⟩ := id w.1
  rcases rng3 (L := 3) (N := 16) (by decide) (by decide) a with ha | ⟨k, hk1, hk2, rfl⟩
  · refine Okk.same w (r := -1) ?_ ?_
    · rw [f_X9_wheel]
      exact out2 (L := 3) (N := 16) (by decide) (by decide) ha
    · show f_X10_wheel n 120 a M = _
      rw [f_X10_wheel, show (3 : Int32) = nI 3 from rfl, show (16 : Int32) = nI 16 from rfl, is_out3 (by decide) ha, obd_s, if_pos rfl]
  · obtain ⟨M1, e1, m1⟩ := mc_wheel (n := n) sb.z hk1 hk2 (by omega)
    refine Okk.mk (n := n) (C := whv k) (tr := 0) w (by omega) hk2 (Or.inl rfl) (fun z => absurd z (by decide)) (fun v hv i a _ => bt_bd (whv_e hk1 hk2 hv).2 a) (by omega) ⟨M1, m1, ?_⟩ (fun M2 rk => rm_wheel rk hk1 hk2 (by omega))
    rw [f_X9_wheel]
    refine Eq.trans (in2 (L := 3) (N := 16) (by decide) hk1 hk2) ?_
    rw [chk_t xg.1, xg.2.1, bnd_e, sb.f, e1, obd_s, chk_t (xg.s (Shp1.e m1.1)).1]
/-! ===== tree ===== -/
def fuO : Nat → Int32 → Int32 → Option Int32
  | 0, _, _ => none
  | n + 1, v4, x => if v4 ≤ 0 then some x else fuO n ((v4 - (1 : Int32)) / (2 : Int32)) (x ||| ((1 : Int32) <<< (v4 &&& 31)))
def fdO (v2 : Int32) : Nat → Int32 → Int32 → Option Int32
  | 0, _, _ => none
  | n + 1, v4, x => if v2 ≤ v4 then some x else fdO v2 n (((2 : Int32) * v4) + (1 : Int32)) (x ||| ((1 : Int32) <<< (v4 &&& 31)))
theorem c2z : ¬ (2 : Int32) = 0 := by decide
theorem fd9_l {k : Nat → Int32 → Int32 → Mem → Option Mem} {v2 : Int32} {v : Nat} (hv : v < 16) : ∀ (m : Nat) (v4 : Int32) (M : Mem) (n : Nat) (x : Int32), SZ M → fdO v2 m v4 (mI M 2 v) = some x → m ≤ n → ∃ M', f_X7_makeTree_69 k n 1 v2 (nI v) v4 M = k 1 v2 (nI (v + 1)) M' ∧ Wc 2 v x M M' := by
  intro m
  induction m with
  | zero => intro v4 M n x z h _; cases h
  | succ m ih =>
    intro v4 M n x z h hn
    obtain ⟨n, rfl⟩ : ∃ r, n = r + 1 := ⟨n - 1, by omega⟩
    unfold fdO at h
    by_cases c : v2 ≤ v4
    · rw [if_pos c] at h
      refine ⟨M, ?_, ?_⟩
      · rw [f_X7_makeTree_69, if_pos c, bnd_e, nI_1]
      · rw [← Option.some.inj h]; exact Wc.r M 2 v
    · rw [if_neg c] at h
      generalize hA : sI M 2 v (mI M 2 v ||| ((1 : Int32) <<< (v4 &&& 31))) = MA
      have wA : Wc 2 v (mI M 2 v ||| ((1 : Int32) <<< (v4 &&& 31))) M MA := by rw [← hA]; exact Wc.s _ _ _ _
      obtain ⟨M', e, w⟩ := ih (((2 : Int32) * v4) + (1 : Int32)) MA n x (z.e wA.1) (by rw [wA.2.1]; exact h) (by omega)
      refine ⟨M', ?_, wA.tr w⟩
      rw [f_X7_makeTree_69, if_neg c, z.f, z.r2, bnd_e, z.a2, z.i2 hv, z.i2 hv, mI_c (by omega), sI_c (by omega), hA, bnd_e, bnd_e]
      exact e
theorem fu9_l {k : Nat → Int32 → Int32 → Mem → Option Mem} {v2 : Int32} {v : Nat} (hv : v < 16) : ∀ (m : Nat) (v4 : Int32) (M : Mem) (n : Nat) (x : Int32), SZ M → fuO m v4 (mI M 2 v) = some x → m ≤ n → ∃ M' n', f_X7_makeTree_33 k n 1 v2 (nI v) v4 M = f_X7_makeTree_69 k n' 1 v2 (nI v) (((2 : Int32) * nI v) + (1 : Int32)) M' ∧ Wc 2 v x M M' ∧ n ≤ n' + m := by
  intro m
  induction m with
  | zero => intro v4 M n x z h _; cases h
  | succ m ih =>
    intro v4 M n x z h hn
    obtain ⟨n, rfl⟩ : ∃ r, n = r + 1 := ⟨n - 1, by omega⟩
    unfold fuO at h
    by_cases c : v4 ≤ 0
    · rw [if_pos c] at h
      refine ⟨M, n, ?_, ?_, by omega⟩
      · rw [f_X7_makeTree_33, if_pos c, bnd_e]
      · rw [← Option.some.inj h]; exact Wc.r M 2 v
    · rw [if_neg c] at h
      generalize hA : sI M 2 v (mI M 2 v ||| ((1 : Int32) <<< (v4 &&& 31))) = MA
      have wA : Wc 2 v (mI M 2 v ||| ((1 : Int32) <<< (v4 &&& 31))) M MA := by rw [← hA]; exact Wc.s _ _ _ _
      obtain ⟨M', n', e, w, hn'⟩ := ih ((v4 - (1 : Int32)) / (2 : Int32)) MA n x (z.e wA.1) (by rw [wA.2.1]; exact h) (by omega)
      refine ⟨M', n', ?_, wA.tr w, by omega⟩
      rw [f_X7_makeTree_33, if_neg c, z.f, z.r2, bnd_e, z.a2, z.i2 hv, z.i2 hv, mI_c (by omega), sI_c (by omega), hA, bnd_e, chk_t c2z, bnd_e]
      exact e
theorem fd10_l {k : Nat → Int32 → Int32 → Mem → Option (Int32 × Mem)} {v2 : Int32} {v : Nat} (hv : v < 16) : ∀ (m : Nat) (v4 : Int32) (M : Mem) (n : Nat) (x : Int32), RK M 120 121 → fdO v2 m v4 (mI M 121 (2 + v)) = some x → m ≤ n → ∃ M', f_X10_tree_76 k n 120 v2 (nI v) v4 M = k 120 v2 (nI (v + 1)) M' ∧ Wc 121 (2 + v) x M M' := by
  intro m
  induction m with
  | zero => intro v4 M n x z h _; cases h
  | succ m ih =>
    intro v4 M n x z h hn
    obtain ⟨n, rfl⟩ : ∃ r, n = r + 1 := ⟨n - 1, by omega⟩
    unfold fdO at h
    by_cases c : v2 ≤ v4
    · rw [if_pos c] at h
      refine ⟨M, ?_, ?_⟩
      · rw [f_X10_tree_76, if_pos c, bnd_e, nI_1]
      · rw [← Option.some.inj h]; exact Wc.r M 121 (2 + v)
    · rw [if_neg c] at h
      generalize hA : sI M 121 (2 + v) (mI M 121 (2 + v) ||| ((1 : Int32) <<< (v4 &&& 31))) = MA
      have wA : Wc 121 (2 + v) (mI M 121 (2 + v) ||| ((1 : Int32) <<< (v4 &&& 31))) M MA := by rw [← hA]; exact Wc.s _ _ _ _
      obtain ⟨M', e, w⟩ := ih (((2 : Int32) * v4) + (1 : Int32)) MA n x (z.e wA.1) (by rw [wA.2.1]; exact h) (by omega)
      refine ⟨M', ?_, wA.tr w⟩
      rw [f_X10_tree_76, if_neg c, z.f, z.r, bnd_e, z.a, show (2 : Int32) + nI v = nI (2 + v) by rw [show (2 : Int32) = nI 2 from rfl, nI_add], bnd_e, z.i (by omega), z.i (by omega), mI_c (by omega), sI_c (by omega), hA, bnd_e, bnd_e]
      exact e
theorem fu10_l {k : Nat → Int32 → Int32 → Mem → Option (Int32 × Mem)} {v2 : Int32} {v : Nat} (hv : v < 16) : ∀ (m : Nat) (v4 : Int32) (M : Mem) (n : Nat) (x : Int32), RK M 120 121 → fuO m v4 (mI M 121 (2 + v)) = some x → m ≤ n → ∃ M' n', f_X10_tree_42 k n 120 v2 (nI v) v4 M = f_X10_tree_76 k n' 120 v2 (nI v) (nI v) M' ∧ Wc 121 (2 + v) x M M' ∧ n ≤ n' + m := by
  intro m
  induction m with
  | zero => intro v4 M n x z h _; cases h
  | succ m ih =>
    intro v4 M n x z h hn
    obtain ⟨n, rfl⟩ : ∃ r, n = r + 1 := ⟨n - 1, by omega⟩
    unfold fuO at h
    by_cases c : v4 ≤ 0
    · rw [if_pos c] at h
      refine ⟨M, n, ?_, ?_, by omega⟩
      · rw [f_X10_tree_42, if_pos c]
      · rw [← Option.some.inj h]; exact Wc.r M 121 (2 + v)
    · rw [if_neg c] at h
      generalize hA : sI M 121 (2 + v) (mI M 121 (2 + v) ||| ((1 : Int32) <<< (v4 &&& 31))) = MA
      have wA : Wc 121 (2 + v) (mI M 121 (2 + v) ||| ((1 : Int32) <<< (v4 &&& 31))) M MA := by rw [← hA]; exact Wc.s _ _ _ _
      obtain ⟨M', n', e, w, hn'⟩ := ih ((v4 - (1 : Int32)) / (2 : Int32)) MA n x (z.e wA.1) (by rw [wA.2.1]; exact h) (by omega)
      refine ⟨M', n', ?_, wA.tr w, by omega⟩
      rw [f_X10_tree_42, if_neg c, z.f, z.r, bnd_e, z.a, show (2 : Int32) + nI v = nI (2 + v) by rw [show (2 : Int32) = nI 2 from rfl, nI_add], bnd_e, z.i (by omega), z.i (by omega), mI_c (by omega), sI_c (by omega), hA, bnd_e, chk_t c2z, bnd_e]
      exact e
def tuv (v : Nat) : Int32 := (fuO 6 (nI v) 1).getD 0
def tvv (N v : Nat) : Int32 := (fdO (nI N) 6 (((2 : Int32) * nI v) + (1 : Int32)) (tuv v)).getD 0
set_option maxRecDepth 1000000 in
theorem tr_k : ([3, 7, 15] : List Nat).all (fun N => (List.range N).all fun v => (decide (fuO 6 (nI v) 1 = some (tuv v)) && decide (fdO (nI N) 6 (((2 : Int32) * nI v) + (1 : Int32)) (tuv v) = some (tvv N v))) && (decide (fdO (nI N) 7 (nI v) (tuv v) = some (tvv N v)) && decide ((tvv N v).toBitVec.toNat < 2 ^ N))) = true := by decide +kernel
theorem tr_e {N v : Nat} (h : N = 3 ∨ N = 7 ∨ N = 15) (hv : v < N) : fuO 6 (nI v) 1 = some (tuv v) ∧ fdO (nI N) 6 (((2 : Int32) * nI v) + (1 : Int32)) (tuv v) = some (tvv N v) ∧ fdO (nI N) 7 (nI v) (tuv v) = some (tvv N v) ∧ (tvv N v).toBitVec.toNat < 2 ^ N := by
  have m : N ∈ ([3, 7, 15] : List Nat) := by
    rcases h with rfl | rfl | rfl <;> simp
  have h := List.all_eq_true.mp (List.all_eq_true.mp tr_k N m) v (List.mem_range.mpr hv)
  simp only [Bool.and_eq_true] at h
  exact ⟨of_decide_eq_true h.1.1, of_decide_eq_true h.1.2, of_decide_eq_true h.2.1, of_decide_eq_true h.2.2⟩
theorem mc_tree {M : Mem} {N q n : Nat} (z : SZ M) (h : (q = 2 ∧ N = 3) ∨ (q = 3 ∧ N = 7) ∨ (q = 4 ∧ N = 15)) (hn : 60 ≤ n) : ∃ M', f_X7_makeTree n 1 (nI q) M = some M' ∧ MC N (tvv N) 1 M M' := by
  have hN : N = 3 ∨ N = 7 ∨ N = 15 := by omega
  have ex : ((1 : Int32) <<< (nI q &&& 31)) - (1 : Int32) = nI N := by
    rcases h with ⟨rfl, rfl⟩ | ⟨rfl, rfl⟩ | ⟨rfl, rfl⟩ <;> decide
  obtain ⟨M1, e1, b1⟩ := z.bg (N := N) (n := n) (by omega)
  have z1 := z.e b1.1
  generalize hMt : sI M1 1 4 1 = Mt
  have bt1 : Bg N 1 M Mt := by
    obtain ⟨a1, a2, a3, a4, a5, a6⟩ := b1
    rw [← hMt]
    exact ⟨a1, by rw [mI_n _ _ _ _ (by decide)]; exact a2, mI_s _ _ _ _, fun v hv => by rw [mI_o _ _ _ _ _ (by decide)]; exact a4 v hv, fun o n1 n2 b => by rw [mI_o _ _ _ _ _ n1]; exact a5 o n1 n2 b, a6⟩
  have zt := z.e bt1.1
  obtain ⟨M2, e2, l2⟩ := lpw (F := fun n x M => f_X7_makeTree_18 n 1 (nI N) x M) (G := some) (M0 := Mt) (o := 2) (c := 0) (N := N) (K := 15) (C := tvv N) (fun i n M hi l hn => by
    have zz := zt.e l.1
    obtain ⟨t1, t2, _, _⟩ := tr_e hN hi
    generalize hA : sI M 2 i 1 = MA
    have wA : Wc 2 i 1 M MA := by rw [← hA]; exact Wc.s _ _ _ _
    obtain ⟨MB, nB, eB, wB, hB⟩ := fu9_l (k := f_X7_makeTree_18 n) (v2 := nI N) (v := i) (by omega) 6 (nI i) MA n (tuv i) (zz.e wA.1) (by rw [wA.2.1]; exact t1) (by omega)
    obtain ⟨MC, eC, wC⟩ := fd9_l (k := f_X7_makeTree_18 n) (v2 := nI N) (v := i) (by omega) 6 _ MB nB (tvv N i) ((zz.e wA.1).e wB.1) (by rw [wB.2.1]; exact t2) (by omega)
    refine ⟨MC, ?_, by rw [Nat.zero_add]; exact wA.tr (wB.tr wC)⟩
    show f_X7_makeTree_18 (n + 1) 1 (nI N) (nI i) M = _
    rw [f_X7_makeTree_18, if_neg (nI_ge hi (by omega)), zz.f, zz.r2, bnd_e, zz.a2, zz.i2 (by omega), sI_c (by omega), hA, bnd_e, eB, eC]) (fun n M l => by
    show f_X7_makeTree_18 (n + 1) 1 (nI N) (nI N) M = _
    rw [f_X7_makeTree_18, if_pos (nI_le (Nat.le_refl _) (by omega))]) N 0 n Mt (by omega) (Lp.r _ _ _ _) (by omega)
  exact ⟨M2, by rw [f_X7_makeTree, bnd_e, z.f, ex, e1, obd_s, z1.f, chk_t (Or.inr rfl), hMt, bnd_e]; exact e2, bt1.mc l2⟩
theorem rm_tree {M : Mem} {N q n : Nat} (h : RK M 120 121) (hq : (q = 2 ∧ N = 3) ∨ (q = 3 ∧ N = 7) ∨ (q = 4 ∧ N = 15)) (hn : 12000 ≤ n) : ∃ M', f_X10_tree n 120 (nI q) M = some (nI N, M') ∧ RE N 1 (tvv N) M M' := by
  have hN : N = 3 ∨ N = 7 ∨ N = 15 := by omega
  have ex : ((1 : Int32) <<< (nI q &&& 31)) - (1 : Int32) = nI N := by
    rcases hq with ⟨rfl, rfl⟩ | ⟨rfl, rfl⟩ | ⟨rfl, rfl⟩ <;> decide
  have e1 := f_begin (N := nI N) (t := 1) h (n := n) (by omega)
  rw [if_neg ne10] at e1
  have h1' : RK (wA M 121 (bgf (mI M 121) (nI N) 1)) 120 121 := h
  generalize hM1 : wA M 121 (bgf (mI M 121) (nI N) 1) = M1 at h1' e1
  obtain ⟨M2, e2, l2⟩ := lpw (F := fun n x M => f_X10_tree_25 n 120 (nI N) x M) (G := fun M => some (nI N, M)) (M0 := M1) (o := 121) (c := 2) (N := N) (K := 15) (C := tvv N) (fun i n M hi l hn => by
    have zz := h1'.e l.1
    obtain ⟨t1, _, t2, _⟩ := tr_e hN hi
    generalize hA : sI M 121 (2 + i) 1 = MA
    have wA : Wc 121 (2 + i) 1 M MA := by rw [← hA]; exact Wc.s _ _ _ _
    obtain ⟨MB, nB, eB, wB, hB⟩ := fu10_l (k := f_X10_tree_25 n) (v2 := nI N) (v := i) (by omega) 6 (nI i) MA n (tuv i) (zz.e wA.1) (by rw [wA.2.1]; exact t1) (by omega)
    obtain ⟨MC, eC, wC⟩ := fd10_l (k := f_X10_tree_25 n) (v2 := nI N) (v := i) (by omega) 7 _ MB nB (tvv N i) ((zz.e wA.1).e wB.1) (by rw [wB.2.1]; exact t2) (by omega)
    refine ⟨MC, ?_, wA.tr (wB.tr wC)⟩
    show f_X10_tree_25 (n + 1) 120 (nI N) (nI i) M = _
    rw [f_X10_tree_25, if_neg (nI_ge hi (by omega)), zz.f, zz.r, bnd_e, zz.a, show (2 : Int32) + nI i = nI (2 + i) by rw [show (2 : Int32) = nI 2 from rfl, nI_add], zz.i (by omega), sI_c (by omega), hA, bnd_e, eB, eC]) (fun n M l => by
    show f_X10_tree_25 (n + 1) 120 (nI N) (nI N) M = _
    rw [f_X10_tree_25, if_pos (nI_le (Nat.le_refl _) (by omega))]) N 0 n M1 (by omega) (Lp.r _ _ _ _) (by omega)
  refine ⟨M2, ?_, RE_of (by rw [hM1]; exact l2)⟩
  rw [f_X10_tree, show f_X10_isIn (nI q) (2 : Int32) (4 : Int32) M = some 1 from is_in3 (L := 2) (N := 4) (by decide) (by omega) (by omega), obd_s, if_neg ne10, bnd_e, h.f, ex, e1, obd_s]
  exact e2
theorem op5 {M : Mem} {i n : Nat} (h : WI i M) (a : Int32) (hn : 100000 ≤ n) : Okk i (f_X9_tree n 0 a M) (fun M1 => f_X10_tree n 120 a M1) := by
  obtain ⟨N, A, Q, S, w⟩ := h
  obtain ⟨X, Y, L, p, sb, xg, xr⟩ := id w.1
  rcases rng3 (L := 2) (N := 4) (by decide) (by decide) a with ha | ⟨k, hk1, hk2, rfl⟩
  · refine Okk.same w (r := -1) ?_ ?_
    · rw [f_X9_tree]
      exact out2 (L := 2) (N := 4) (by decide) (by decide) ha
    · show f_X10_tree n 120 a M = _
      rw [f_X10_tree, show f_X10_isIn a (2 : Int32) (4 : Int32) M = some 0 from is_out3 (L := 2) (N := 4) (by decide) ha, obd_s, if_pos rfl]
  · obtain ⟨K, hK⟩ : ∃ K, (k = 2 ∧ K = 3) ∨ (k = 3 ∧ K = 7) ∨ (k = 4 ∧ K = 15) := by
      rcases (show k = 2 ∨ k = 3 ∨ k = 4 by omega) with e | e | e
      · exact ⟨3, Or.inl ⟨e, rfl⟩⟩
      · exact ⟨7, Or.inr (Or.inl ⟨e, rfl⟩)⟩
      · exact ⟨15, Or.inr (Or.inr ⟨e, rfl⟩)⟩
    obtain ⟨M1, e1, m1⟩ := mc_tree (n := n) sb.z hK (by omega)
    refine Okk.mk (n := n) (N := K) (C := tvv K) (tr := 1) w (by omega) (by omega) (Or.inr rfl) (fun _ => by omega) (fun v hv i a _ => bt_bd (tr_e (by omega) hv).2.2.2 a) (by omega) ⟨M1, m1, ?_⟩ (fun M2 rk => rm_tree rk hK (by omega))
    rw [f_X9_tree]
    refine Eq.trans (in2 (L := 2) (N := 4) (by decide) hk1 hk2) ?_
    rw [chk_t xg.1, xg.2.1, bnd_e, sb.f, e1, obd_s, chk_t (xg.s (Shp1.e m1.1)).1]
/-! ===== which do not meet; a base by hand ===== -/
def suB (f : Nat → Nat) (b : Nat) : Nat → Nat
  | 0 => 0
  | d + 1 => f b + suB f (b + 1) d
theorem suB_smN (f : Nat → Nat) (N : Nat) : ∀ d b, b + d = N → suB f b d = smN (fun x => if b ≤ x then f x else 0) N := by
  intro d
  induction d with
  | zero =>
    intro b hb
    have : smN (fun x => if b ≤ x then f x else 0) N = smN (fun _ => 0) N := smN_c N (fun x hx => if_neg (by omega))
    rw [this, smN_k, Nat.zero_mul]; rfl
  | succ d ih =>
    intro b hb
    show f b + suB f (b + 1) d = _
    rw [ih (b + 1) (by omega)]
    have h := smN_at (f := fun x => if b ≤ x then f x else 0) (g := fun x => if b + 1 ≤ x then f x else 0) (v := b) N (by omega) (fun x hx hn => by
      by_cases c : b ≤ x
      · show (if b ≤ x then f x else 0) = (if b + 1 ≤ x then f x else 0)
        rw [if_pos c, if_pos (by omega)]
      · show (if b ≤ x then f x else 0) = (if b + 1 ≤ x then f x else 0)
        rw [if_neg c, if_neg (by omega)])
    have e1 : (if b + 1 ≤ b then f b else 0) = 0 := if_neg (by omega)
    have e2 : (if b ≤ b then f b else 0) = f b := if_pos (Nat.le_refl _)
    simp only [e1, e2] at h
    omega
theorem suB_c {f g : Nat → Nat} : ∀ d b, (∀ x, b ≤ x → x < b + d → f x = g x) → suB f b d = suB g b d := by
  intro d
  induction d with
  | zero => intro b _; rfl
  | succ d ih =>
    intro b h
    show f b + suB f (b + 1) d = g b + suB g (b + 1) d
    rw [h b (Nat.le_refl _) (by omega), ih (b + 1) (fun x h1 h2 => h x (by omega) (by omega))]
theorem suB_le {f : Nat → Nat} {K : Nat} : ∀ d b, (∀ x, f x ≤ K) → suB f b d ≤ K * d := by
  intro d
  induction d with
  | zero => intro b _; exact Nat.le_refl _
  | succ d ih =>
    intro b h
    have := ih (b + 1) h
    have := h b
    show f b + suB f (b + 1) d ≤ K * (d + 1)
    rw [Nat.mul_succ]; omega
/-- two bases have no node in common -/
def apP (S : St) (a b : Nat) : Nat := if xR S 17 a &&& xR S 17 b = 0 then 1 else 0
theorem apP_1 (S : St) (a b : Nat) : apP S a b ≤ 1 := by
  unfold apP
  split <;> omega
theorem apP_s (S : St) (a b : Nat) : apP S a b = apP S b a := by
  unfold apP
  rw [Int32.and_comm]
/-- how many pairs -/
def apN (N : Nat) (S : St) : Nat := suB (fun a => suB (apP S a) (a + 1) (N - (a + 1))) 0 N
theorem apN_r (N : Nat) (S : St) : suB (fun a => suB (apP S a) 0 a) 0 N = apN N S := by
  have l : ∀ a, a < N → suB (apP S a) (a + 1) (N - (a + 1)) = smN (fun x => if a + 1 ≤ x then apP S a x else 0) N := fun a ha => suB_smN _ N _ _ (by omega)
  have r : ∀ a, a < N → suB (apP S a) 0 a = smN (fun x => if x < a then apP S a x else 0) N := fun a ha => by
    rw [suB_smN (apP S a) a a 0 (by omega)]
    have h1 : smN (fun x => if 0 ≤ x then apP S a x else 0) a = smN (fun x => if x < a then apP S a x else 0) a := smN_c a (fun x hx => by
      show (if 0 ≤ x then apP S a x else 0) = (if x < a then apP S a x else 0)
      rw [if_pos (Nat.zero_le _), if_pos hx])
    rw [h1]
    have h2 : ∀ d, smN (fun x => if x < a then apP S a x else 0) (a + d) = smN (fun x => if x < a then apP S a x else 0) a := by
      intro d
      induction d with
      | zero => rfl
      | succ d ih =>
        show smN _ (a + d) + (if a + d < a then _ else 0) = _
        rw [if_neg (by omega), Nat.add_zero, ih]
    have := h2 (N - a)
    rw [show a + (N - a) = N by omega] at this
    rw [this]
  unfold apN
  rw [suB_c (g := fun a => smN (fun x => if a + 1 ≤ x then apP S a x else 0) N) N 0 (fun a _ h => l a (by omega)), suB_c (g := fun a => smN (fun x => if x < a then apP S a x else 0) N) N 0 (fun a _ h => r a (by omega)), suB_smN _ N N 0 (by omega), suB_smN _ N N 0 (by omega)]
  have e : ∀ F : Nat → Nat, smN (fun x => if 0 ≤ x then F x else 0) N = smN F N := fun F => smN_c N (fun x _ => if_pos (Nat.zero_le _))
  rw [e, e, smN_sw (fun a x => if x < a then apP S a x else 0) N N]
  refine smN_c N (fun a _ => smN_c N (fun x _ => ?_))
  show (if a < x then apP S x a else 0) = (if a + 1 ≤ x then apP S a x else 0)
  by_cases c : a < x
  · rw [if_pos c, if_pos (by omega), apP_s]
  · rw [if_neg c, if_neg (by omega)]
theorem ca_16 {M : Mem} {N : Nat} {S : St} {k : Nat → Int32 → Int32 → Option Int32} (sb : SB M N S) (h16 : N ≤ 16) {a : Nat} (ha : a < N) : ∀ (d b c n : Nat), b + d = N → d + 1 ≤ n → f_X7_countApart_16 k M n 1 (nI c) (nI a) (nI b) = k 1 (nI (c + suB (apP S a) b d)) (nI (a + 1)) := by
  intro d
  induction d with
  | zero =>
    intro b c n hb hn
    obtain ⟨n, rfl⟩ : ∃ m, n = m + 1 := ⟨n - 1, by omega⟩
    rw [f_X7_countApart_16, sb.f, sb.n, if_pos (nI_le (by omega) (by omega)), bnd_e, nI_1]
    rfl
  | succ d ih =>
    intro b c n hb hn
    obtain ⟨n, rfl⟩ : ∃ m, n = m + 1 := ⟨n - 1, by omega⟩
    rw [f_X7_countApart_16, sb.f, sb.n, if_neg (nI_ge (by omega) (by omega)), sb.r2, bnd_e, sb.a2, sb.i2 (by omega), bnd_e, sb.a2, sb.i2 (by omega), mI_c (by omega), mI_c (by omega), sb.b ha, sb.b (by omega)]
    show _ = k 1 (nI (c + (apP S a b + suB (apP S a) (b + 1) d))) (nI (a + 1))
    unfold apP
    by_cases z : xR S 17 a &&& xR S 17 b = 0
    · rw [if_pos z, if_pos z, bnd_e, bnd_e, nI_1, nI_1, ih (b + 1) (c + 1) n (by omega) (by omega)]
      unfold apP
      rw [show c + 1 + suB (fun b => if xR S 17 a &&& xR S 17 b = 0 then 1 else 0) (b + 1) d = c + (1 + suB (fun b => if xR S 17 a &&& xR S 17 b = 0 then 1 else 0) (b + 1) d) by omega]
    · rw [if_neg z, if_neg z, bnd_e, nI_1, ih (b + 1) c n (by omega) (by omega), Nat.zero_add]
      rfl
theorem ca_4 {M : Mem} {N : Nat} {S : St} (sb : SB M N S) (h16 : N ≤ 16) : ∀ (d a c n : Nat), a + d = N → d + 20 ≤ n → f_X7_countApart_4 M n 1 (nI c) (nI a) = some (nI (c + suB (fun a => suB (apP S a) (a + 1) (N - (a + 1))) a d)) := by
  intro d
  induction d with
  | zero =>
    intro a c n ha hn
    obtain ⟨n, rfl⟩ : ∃ m, n = m + 1 := ⟨n - 1, by omega⟩
    rw [f_X7_countApart_4, sb.f, sb.n, if_pos (nI_le (by omega) (by omega))]
    rfl
  | succ d ih =>
    intro a c n ha hn
    obtain ⟨n, rfl⟩ : ∃ m, n = m + 1 := ⟨n - 1, by omega⟩
    rw [f_X7_countApart_4, sb.f, sb.n, if_neg (nI_ge (by omega) (by omega)), bnd_e, nI_1, ca_16 sb h16 (by omega) (N - (a + 1)) (a + 1) c n (by omega) (by omega), ih (a + 1) _ n (by omega) (by omega)]
    show some (nI (c + _ + _)) = some (nI (c + (_ + _)))
    rw [Nat.add_assoc]
theorem SB.ap {M : Mem} {N n : Nat} {S : St} (sb : SB M N S) (h16 : N ≤ 16) (hn : 60 ≤ n) : f_X7_countApart n 1 M = some (nI (apN N S)) := by
  rw [f_X7_countApart, show (0 : Int32) = nI 0 from rfl, ca_4 sb h16 N 0 0 n (by omega) (by omega), Nat.zero_add]
  rfl
theorem ra_16 {M : Mem} {N : Nat} {S : St} {tw : Bool} {t : Int32} {pb pt : List Row4} {k : Nat → Int32 → Int32 → Option Int32} (r : RV M tw t S pb pt) (h16 : N ≤ 16) {a : Nat} (ha : a < N) : ∀ (d b c n : Nat), b + d = a → d + 1 ≤ n → f_X10_apart_16 k M n 120 (nI c) (nI a) (nI b) = k 120 (nI (c + suB (apP S a) b d)) (nI (a + 1)) := by
  intro d
  induction d with
  | zero =>
    intro b c n hb hn
    obtain ⟨n, rfl⟩ : ∃ m, n = m + 1 := ⟨n - 1, by omega⟩
    rw [f_X10_apart_16, if_pos (nI_le (by omega) (by omega)), bnd_e, nI_1]
    rfl
  | succ d ih =>
    intro b c n hb hn
    obtain ⟨n, rfl⟩ : ∃ m, n = m + 1 := ⟨n - 1, by omega⟩
    rw [f_X10_apart_16, if_neg (nI_ge (by omega) (by omega)), rs_f r.1, r.base (by omega), obd_s, r.base (by omega), obd_s]
    show _ = k 120 (nI (c + (apP S a b + suB (apP S a) (b + 1) d))) (nI (a + 1))
    unfold apP
    by_cases z : xR S 17 a &&& xR S 17 b = 0
    · rw [if_pos z, if_pos z, bnd_e, bnd_e, nI_1, nI_1, ih (b + 1) (c + 1) n (by omega) (by omega)]
      unfold apP
      rw [show c + 1 + suB (fun b => if xR S 17 a &&& xR S 17 b = 0 then 1 else 0) (b + 1) d = c + (1 + suB (fun b => if xR S 17 a &&& xR S 17 b = 0 then 1 else 0) (b + 1) d) by omega]
    · rw [if_neg z, if_neg z, bnd_e, bnd_e, nI_1, show nI c + (0 : Int32) = nI c from Int32.add_zero _, ih (b + 1) c n (by omega) (by omega), Nat.zero_add]
      rfl
theorem ra_4 {M : Mem} {N : Nat} {S : St} {tw : Bool} {t : Int32} {pb pt : List Row4} (r : RV M tw t S pb pt) (hN : xR S 20 0 = nI N) (h16 : N ≤ 16) : ∀ (d a c n : Nat), a + d = N → d + 20 ≤ n → f_X10_apart_4 M n 120 (nI c) (nI a) = some (nI (c + suB (fun a => suB (apP S a) 0 a) a d)) := by
  intro d
  induction d with
  | zero =>
    intro a c n ha hn
    obtain ⟨n, rfl⟩ : ∃ m, n = m + 1 := ⟨n - 1, by omega⟩
    rw [f_X10_apart_4, rs_f r.1, rs_0 r.1, bnd_e, rs_fa r.1, rs_c0 r.1, cl0, r.N hN, if_pos (nI_le (by omega) (by omega))]
    rfl
  | succ d ih =>
    intro a c n ha hn
    obtain ⟨n, rfl⟩ : ∃ m, n = m + 1 := ⟨n - 1, by omega⟩
    rw [f_X10_apart_4, rs_f r.1, rs_0 r.1, bnd_e, rs_fa r.1, rs_c0 r.1, cl0, r.N hN, if_neg (nI_ge (by omega) (by omega)), show (0 : Int32) = nI 0 from rfl, ra_16 r h16 (N := N) (by omega) a 0 c n (by omega) (by omega), ih (a + 1) _ n (by omega) (by omega)]
    show some (nI (c + _ + _)) = some (nI (c + (_ + _)))
    rw [Nat.add_assoc]
theorem RV.ap {M : Mem} {N n : Nat} {S : St} {tw : Bool} {t : Int32} {pb pt : List Row4} (r : RV M tw t S pb pt) (hN : xR S 20 0 = nI N) (h16 : N ≤ 16) (hn : 60 ≤ n) : f_X10_apart n 120 M = some (nI (apN N S)) := by
  rw [f_X10_apart, show (0 : Int32) = nI 0 from rfl, ra_4 r hN h16 N 0 0 n (by omega) (by omega), Nat.zero_add, apN_r]
/-! ===== apart, base ===== -/
theorem op10 {M : Mem} {i n : Nat} (h : WI i M) (hn : 100000 ≤ n) : ∃ r, f_X9_apart n 0 M = some r ∧ f_X10_apart n 120 M = some r := by
  obtain ⟨N, A, Q, S, w⟩ := h
  obtain ⟨X, Y, L, p, sb, xg, xr⟩ := id w.1
  obtain ⟨_, r, z7, sw, hQ⟩ := id w
  refine ⟨nI (apN N S), ?_, r.ap sw.n sw.n16 (by omega)⟩
  rw [f_X9_apart, chk_t xg.1, xg.2.1, bnd_e, sb.f, sb.ap sw.n16 (by omega), obd_s]
theorem apN_c {N : Nat} {S S' : St} (h : ∀ v, v < N → xR S 17 v = xR S' 17 v) : apN N S = apN N S' := by
  unfold apN
  refine suB_c N 0 (fun a _ ha => suB_c _ _ (fun b _ hb => ?_))
  unfold apP
  rw [h a (by omega), h b (by omega)]
set_option maxRecDepth 100000 in
theorem allb_k : (List.range 17).all (fun N => (List.range 32).all fun i => bt (((1 : Int32) <<< (nI N &&& 31)) - 1) i == decide (i < N)) = true := by decide +kernel
theorem all_b {N i : Nat} (h16 : N ≤ 16) (hi : i < 32) : bt (((1 : Int32) <<< (nI N &&& 31)) - 1) i = decide (i < N) :=
  eq_of_beq (List.all_eq_true.mp (List.all_eq_true.mp allb_k N (List.mem_range.mpr (by omega))) i (List.mem_range.mpr hi))
theorem SB.isS {M : Mem} {N : Nat} {S : St} (sb : SB M N S) (a : Int32) : f_X7_isSetOfNodes 1 a M = some (if a &&& ((((1 : Int32) <<< (nI N &&& 31)) - 1) ^^^ (-1 : Int32)) = 0 then 1 else 0) := by
  rw [f_X7_isSetOfNodes, sb.f, f_X7_allNodes, sb.f, sb.n, obd_s]
  split <;> rfl
theorem op7 {M : Mem} {i n : Nat} (h : WI i M) (a b : Int32) (hn : 100000 ≤ n) : Okk i (f_X9_base n 0 a b M) (fun M1 => f_X10_base n 120 a b M1) := by
  obtain ⟨N, A, Q, S, w⟩ := h
  obtain ⟨X, Y, L, p, sb, xg, xr⟩ := id w.1
  obtain ⟨_, r, z7, sw, hQ⟩ := id w
  have h16 := sw.n16
  have h2 := sw.n2
  have al := f_all r sw.n
  rcases out_in (N := N) (by omega) a with ha | ⟨k, hk, rfl⟩
  · refine Okk.same w (r := -1) ?_ ?_
    · rw [f_X9_base, chk_t xg.1, xg.2.1, bnd_e, sb.f, ndc0 sb ha, obd_s, if_pos rfl]
    · show f_X10_base n 120 a b M = _
      rw [f_X10_base, rs_f r.1, ndr0 r sw.n (by omega) h16 ha, obd_s, if_pos rfl]
  · by_cases b0 : b = 0
    · refine Okk.same w (r := -1) ?_ ?_
      · rw [f_X9_base, chk_t xg.1, xg.2.1, bnd_e, sb.f, ndc sb hk h16, obd_s, if_neg ne10, if_pos b0]
      · show f_X10_base n 120 (nI k) b M = _
        rw [f_X10_base, rs_f r.1, ndr r sw.n hk h16, obd_s, if_neg ne10, if_pos b0]
    · by_cases c : b &&& ((((1 : Int32) <<< (nI N &&& 31)) - 1) ^^^ (-1 : Int32)) = 0
      · have bb : ∀ i, N ≤ i → i < 32 → bt b i = false := fun i h1 h2 => by
          have := bt_minus b (((1 : Int32) <<< (nI N &&& 31)) - 1) h2
          rw [c, b_0, all_b h16 h2, decide_eq_false (by omega)] at this
          simpa using this.symm
        let C : Nat → Int32 := fun v => if v = k then b else xR S 17 v
        generalize hM1 : sI (sI M 2 k b) 1 4 0 = M1
        have m1 : MC N C 0 M M1 := by
          rw [← hM1]
          refine ⟨rfl, fun o ho b => by rw [mI_o _ _ _ _ _ (by omega), mI_o _ _ _ _ _ (by omega)], by rw [mI_n _ _ _ _ (by decide), mI_o _ _ _ _ _ (by decide)]; exact sb.n, mI_s _ _ _ _, fun v hv => ?_, fun _ _ => rfl⟩
          rw [mI_o _ _ _ _ _ (by decide)]
          by_cases e : v = k
          · rw [e, mI_s]; exact (if_pos rfl).symm
          · rw [mI_n _ _ _ _ e, sb.b hv]; exact (if_neg e).symm
        obtain ⟨M2, e2, io, rk, r2, ⟨xg2, sb2⟩, fin⟩ := w.mk (n := n) m1 h2 h16 (Or.inl rfl) (fun z => absurd z (by decide)) (fun v hv i h1 h2 => by
          show bt (if v = k then b else xR S 17 v) i = false
          split
          · exact bb i h1 h2
          · exact sw.bi v hv i h1 h2) (by omega)
        have eb := f_begin (N := nI N) (t := 0) rk (n := n) (by omega)
        rw [if_pos rfl] at eb
        have n2 : mI M2 121 0 = nI N := r2.N sw.n
        have rkb : RK (wA M2 121 (bgf (mI M2 121) (nI N) 0)) 120 121 := rk
        generalize hMb : wA M2 121 (bgf (mI M2 121) (nI N) 0) = Mb at eb rkb
        have wc : Wc 121 (2 + k) b Mb (sI Mb 121 (2 + k) b) := Wc.s _ _ _ _
        generalize hM3 : sI Mb 121 (2 + k) b = M3 at wc
        have wI : ∀ o, o ≠ 121 → ∀ c, mI Mb o c = mI M2 o c := fun o n c => by rw [← hMb]; exact if_neg n
        have sb3 : Mb.1 = M2.1 := by rw [← hMb]; rfl
        have s3 : M3.1 = M2.1 := wc.1.trans sb3
        have f3 : ∀ c, c < 10465 → mI M3 121 c = rfm (mI M2 121) N 0 C c := fun c hc => by
          have eq : ∀ c, mI Mb 121 c = bgf (mI M2 121) (nI N) 0 c := fun c => by
            rw [← hMb]
            show (if (121 : Nat) = 121 then bgf (mI M2 121) (nI N) 0 c else M2.2.1 121 c) = _
            rw [if_pos rfl]
          unfold rfm
          by_cases q : c = 2 + k
          · rw [q, wc.2.1, if_pos (by omega)]
            show b = if 2 + k - 2 = k then b else _
            rw [if_pos (by omega)]
          · rw [wc.2.2.1 c q, eq]
            by_cases q2 : 2 ≤ c ∧ c < 2 + N
            · rw [if_pos q2]
              show _ = if c - 2 = k then b else xR S 17 (c - 2)
              rw [if_neg (by omega)]
              unfold bgf
              rw [if_neg (by omega), if_neg (by omega), if_pos (by omega)]
              have := r2.rg (k := 17) (i := c - 2) (by unfold vk; omega)
              rw [show ad 17 (c - 2) = c by show 2 + (c - 2) = c; omega] at this
              exact this
            · rw [if_neg q2]
        have i3 : ∀ o, ¬ (120 ≤ o ∧ o ≤ 130) → ∀ c, mI M3 o c = mI M2 o c := fun o ho c => by rw [wc.2.2.2.1 o (by omega), wI o (by omega)]
        have i120 : ∀ c, mI M3 120 c = mI M2 120 c := fun c => by rw [wc.2.2.2.1 120 (by decide), wI 120 (by decide)]
        have r3 := rfm_RV (M := M3) (f := mI M2 121) (N := N) (tr := 0) (C := C) (B := fun v => if v < N then C v else mI M2 121 (2 + v)) false h16 (r2.1.e s3) (by rw [i120]; exact r2.2.1) (fun v _ => rfl) f3
        have ea : apN N (fS0 N (fun v => if v < N then C v else mI M2 121 (2 + v)) 0) = apN N (fS0 N C 0) := apN_c (fun v hv => by
          show (if v < N then C v else _) = C v
          rw [if_pos hv])
        refine ⟨nI (apN N (fS0 N C 0)), M2, M3, ?_, io, ?_, fin M3 s3 i3 i120 f3⟩
        · rw [f_X9_base, chk_t xg.1, xg.2.1, bnd_e, sb.f, ndc sb hk h16, obd_s, if_neg ne10, if_neg b0, bnd_e, sb.f, sb.isS, obd_s, if_pos c, if_neg ne10, bnd_e, sb.f]
          have et : f_X7_tellByHand 1 (nI k) b M = some M1 := by
            rw [f_X7_tellByHand, sb.f, sb.r2, bnd_e, sb.a2, sb.i2 (by omega), sI_c (by omega), bnd_e, chk_t (Or.inl rfl), hM1, bnd_e]
          rw [et, obd_s, chk_t (xg.s (Shp1.e m1.1)).1, e2, obd2_s, chk_t xg2.1, xg2.2.1, bnd_e, sb2.f, sb2.ap h16 (by omega), obd_s]
        · show f_X10_base n 120 (nI k) b M2 = _
          rw [f_X10_base, rk.f, ndr r2 sw.n hk h16, obd_s, if_neg ne10, if_neg b0, f_all r2 sw.n, obd_s, if_pos c, rk.r, bnd_e, rk.a, rs_c0 r2.1, cl0, n2, eb, obd_s, rkb.f, rkb.r, bnd_e, rkb.a, show (2 : Int32) + nI k = nI (2 + k) by rw [show (2 : Int32) = nI 2 from rfl, nI_add], rkb.i (by omega), sI_c (by omega), hM3, bnd_e, r3.ap rfl h16 (by omega), obd_s, ea]
      · refine Okk.same w (r := -1) ?_ ?_
        · rw [f_X9_base, chk_t xg.1, xg.2.1, bnd_e, sb.f, ndc sb hk h16, obd_s, if_neg ne10, if_neg b0, bnd_e, sb.f, sb.isS, obd_s, if_neg c, if_pos rfl]
        · show f_X10_base n 120 (nI k) b M = _
          rw [f_X10_base, rs_f r.1, ndr r sw.n hk h16, obd_s, if_neg ne10, if_neg b0, al, obd_s, if_neg c]
/-! ===== within ===== -/
def rpl (b : Int32) (k : Nat) (x : Int32) : Int32 := ((b &&& (((1 : Int32) <<< (nI k &&& 31)) - (1 : Int32))) ||| ((b >>> ((nI k + (1 : Int32)) &&& 31)) <<< (nI k &&& 31))) ||| (if bt b k then x else 0)
theorem f_rpl9 (b x : Int32) {k : Nat} (hk : k < 32) (M : Mem) : f_X7_replaced b (nI k) x M = some (rpl b k x) := by
  rw [f_X7_replaced, bnd_e, bnd_e, f_has9 b hk, obd_s]
  unfold rpl
  cases bt b k
  · rfl
  · rfl
theorem f_rpl10 (b x : Int32) {k K : Nat} (hk : k < 32) (M : Mem) : f_X10_placed b (nI k) (nI K) x M = some (rpl b k (x <<< (nI K &&& 31))) := by
  rw [f_X10_placed, bnd_e, bnd_e, f_has10 b hk, obd_s]
  unfold rpl
  cases bt b k
  · rfl
  · rfl
set_option maxRecDepth 100000 in
theorem md_k : (List.range 16).all (fun v => (List.range 9).all fun m => decide (m < 2) || decide (nI v - nI v / nI m * nI m = nI (v % m))) = true := by decide +kernel
theorem md_e {v m : Nat} (hv : v < 16) (h1 : 2 ≤ m) (h2 : m ≤ 8) : nI v - nI v / nI m * nI m = nI (v % m) := by
  have h := List.all_eq_true.mp (List.all_eq_true.mp md_k v (List.mem_range.mpr hv)) m (List.mem_range.mpr (by omega))
  have h3 : ¬ m < 2 := by omega
  simp only [h3, decide_false, Bool.false_or] at h
  exact of_decide_eq_true h
/-- the base at a place, k's base put in for k, K kept -/
def wiC (S : St) (k m K p : Nat) : Int32 := if p < K then rpl (xR S 17 (if p < k then p else p + 1)) k (mjv ((if p < k then p else p + 1) % m) m <<< (nI K &&& 31)) else rpl (xR S 17 k) k (mjv (p - K) m <<< (nI K &&& 31))
theorem wiC_v {S : St} {k m K v : Nat} (hv : v ≤ K) (hk : k ≤ K) (n : v ≠ k) : wiC S k m K (if v ≤ k then v else v - 1) = rpl (xR S 17 v) k (mjv (v % m) m <<< (nI K &&& 31)) := by
  unfold wiC
  by_cases c : v ≤ k
  · rw [if_pos c, if_pos (show v < K by omega), if_pos (show v < k by omega)]
  · rw [if_neg c, if_pos (show v - 1 < K by omega), if_neg (show ¬ v - 1 < k by omega), show v - 1 + 1 = v by omega]
theorem wiC_j (S : St) (k m K j : Nat) : wiC S k m K (K + j) = rpl (xR S 17 k) k (mjv j m <<< (nI K &&& 31)) := by
  unfold wiC
  rw [if_neg (by omega), show K + j - K = j by omega]
theorem wiC_b {S : St} {k m K : Nat} (hb : BI (K + 1) S) (hk : k ≤ K) (h1 : 2 ≤ m) (h2 : m ≤ 8) (h3 : K + m ≤ 16) : ∀ v, v < K + m → ∀ i, K + m ≤ i → i < 32 → bt (wiC S k m K v) i = false := by
  have main : ∀ b x : Int32, (∀ i, K + 1 ≤ i → i < 32 → bt b i = false) → (∀ i, m ≤ i → bt x i = false) → ∀ i, K + m ≤ i → i < 32 → bt (rpl b k (x <<< (nI K &&& 31))) i = false := by
    intro b x hB hX i hi hi2
    unfold rpl
    rw [b_or, b_or, b_and, hB i (by omega) hi2, Bool.false_and, Bool.false_or, nI_1, b_shl k (by omega) _ hi2, b_sshr (k + 1) (by omega) _ (by omega)]
    have e1 : (if k + 1 + (i - k) < 32 then bt b (k + 1 + (i - k)) else bt b 31) = false := by
      split
      · exact hB _ (by omega) (by omega)
      · exact hB _ (by omega) (by omega)
    rw [e1, Bool.and_false, Bool.false_or]
    split
    · rw [b_shl K (by omega) _ hi2, hX _ (by omega), Bool.and_false]
    · exact b_0 _
  intro v hv i hi hi2
  unfold wiC
  split
  · exact main _ _ (fun i a b => hb _ (by split <;> omega) i a b) (fun i a => bt_bd (maj_e h1 (by omega) (Nat.mod_lt _ (by omega))).2 a) i hi hi2
  · exact main _ _ (fun i a b => hb _ (by omega) i a b) (fun i a => bt_bd (maj_e h1 (by omega) (show v - K < m by omega)).2 a) i hi hi2
theorem Lp.app {M0 M1 M2 : Mem} {o c a b : Nat} {C : Nat → Int32} (l : Lp M0 o c C a M1) (r : Lp M1 o (c + a) (fun j => C (a + j)) b M2) : Lp M0 o c C (a + b) M2 := by
  obtain ⟨l1, l2, l3, l4, l5⟩ := l
  obtain ⟨r1, r2, r3, r4, r5⟩ := r
  refine ⟨r1.trans l1, fun v hv => ?_, fun x hx => ?_, fun y n x => (r4 y n x).trans (l4 y n x), fun y x => (r5 y x).trans (l5 y x)⟩
  · by_cases e : v < a
    · rw [r3 _ (by omega)]; exact l2 v e
    · have := r2 (v - a) (by omega)
      rw [show c + a + (v - a) = c + v by omega] at this
      rw [this]
      show C (a + (v - a)) = C v
      rw [show a + (v - a) = v by omega]
  · rw [r3 x (by omega), l3 x (by omega)]
theorem nI_m1' {v : Nat} (h : 1 ≤ v) : nI v - (1 : Int32) = nI (v - 1) := by
  obtain ⟨u, rfl⟩ : ∃ u, v = u + 1 := ⟨v - 1, by omega⟩
  rw [nI_pred]; rfl
section
variable {S : St} {k m K : Nat}
theorem wi_34 {M1 : Mem} (z1 : SZ M1) (m3 : ∀ v, v < K + 1 → mI M1 3 v = xR S 17 v) (hk : k ≤ K) (h1 : 2 ≤ m) (h2 : m ≤ 8) (h3 : K + m ≤ 16) : ∀ (d v n : Nat) (M : Mem), v + d = K + 1 → Lp M1 2 0 (wiC S k m K) (if v ≤ k then v else v - 1) M → d + 30 ≤ n → ∃ M' n', f_X7_makeWithin_34 n 1 (nI k) (nI m) (nI K) (nI v) M = f_X7_makeWithin_100 n' 1 (nI k) (nI m) (nI K) (nI 0) M' ∧ Lp M1 2 0 (wiC S k m K) K M' ∧ 29 ≤ n' := by
  intro d
  induction d with
  | zero =>
    intro v n M hv l hn
    obtain ⟨n, rfl⟩ : ∃ m, n = m + 1 := ⟨n - 1, by omega⟩
    refine ⟨M, n, ?_, ?_, by omega⟩
    · rw [f_X7_makeWithin_34, if_pos (nI_lt (by omega) (by omega))]
      rfl
    · rw [if_neg (by omega), show v - 1 = K by omega] at l
      exact l
  | succ d ih =>
    intro v n M hv l hn
    obtain ⟨n, rfl⟩ : ∃ m, n = m + 1 := ⟨n - 1, by omega⟩
    have z := z1.e l.1
    by_cases c : v = k
    · obtain ⟨M', n', e, l', hn'⟩ := ih (v + 1) n M (by omega) (by
        rw [if_neg (by omega), show v + 1 - 1 = v by omega]
        rw [if_pos (by omega)] at l
        exact l) (by omega)
      refine ⟨M', n', ?_, l', hn'⟩
      rw [f_X7_makeWithin_34, if_neg (nI_nlt (by omega) (by omega)), if_pos (by rw [c]), bnd_e, nI_1]
      exact e
    · have hu : (if v ≤ k then v else v - 1) < 16 := by split <;> omega
      have wc : Wc 2 (0 + (if v ≤ k then v else v - 1)) (wiC S k m K (if v ≤ k then v else v - 1)) M (sI M 2 (if v ≤ k then v else v - 1) (wiC S k m K (if v ≤ k then v else v - 1))) := by rw [Nat.zero_add]; exact Wc.s _ _ _ _
      obtain ⟨M', n', e, l', hn'⟩ := ih (v + 1) n _ (by omega) (by
        have := l.s wc
        have eq : (if v + 1 ≤ k then v + 1 else v + 1 - 1) = (if v ≤ k then v else v - 1) + 1 := by
          by_cases q : v ≤ k
          · rw [if_pos q, if_pos (by omega)]
          · rw [if_neg q, if_neg (by omega)]; omega
        rw [eq]
        exact this) (by omega)
      refine ⟨M', n', ?_, l', hn'⟩
      have e61 : ∀ u : Int32, u = nI (if v ≤ k then v else v - 1) → f_X7_makeWithin_61 (f_X7_makeWithin_34 n) n 1 (nI k) (nI m) (nI K) (nI v) u M = f_X7_makeWithin_34 n 1 (nI k) (nI m) (nI K) (nI (v + 1)) (sI M 2 (if v ≤ k then v else v - 1) (wiC S k m K (if v ≤ k then v else v - 1))) := by
        intro u hu'
        have v3 : mI M 3 v = xR S 17 v := by rw [l.2.2.2.1 3 (by decide)]; exact m3 v (by omega)
        rw [f_X7_makeWithin_61, z.f, z.r2, bnd_e, z.a2, z.r3, bnd_e, z.a3, z.i3 (by omega), chk_t (nI_n0 (by omega) (by omega)), md_e (by omega) h1 h2, f_maj9 h1 (by omega) (Nat.mod_lt _ (by omega)) (by omega), obd_s, mI_c (by omega), v3, f_rpl9 _ _ (by omega), obd_s, hu', z.i2 hu, sI_c (by omega), wiC_v (by omega) hk c, bnd_e, bnd_e, nI_1]
      rw [f_X7_makeWithin_34, if_neg (nI_nlt (by omega) (by omega)), if_neg (nI_ne (by omega) (by omega) c)]
      by_cases q : k ≤ v
      · rw [if_pos (nI_le q (by omega)), e61 (nI v - 1) (by rw [nI_m1' (by omega), if_neg (by omega)])]
        exact e
      · rw [if_neg (nI_ge (by omega) (by omega)), e61 (nI v) (by rw [if_pos (by omega)])]
        exact e
theorem mc_within {M : Mem} {n : Nat} (sb : SB M (K + 1) S) (hk : k ≤ K) (h1 : 2 ≤ m) (h2 : m ≤ 8) (h3 : K + m ≤ 16) (hn : 200 ≤ n) : ∃ M', f_X7_makeWithin n 1 (nI k) (nI m) M = some M' ∧ MC (K + m) (wiC S k m K) 0 M M' := by
  have z := sb.z
  generalize hMa : cpI M 2 0 3 0 (K + 1) = Ma
  have sa : Ma.1 = M.1 := by rw [← hMa]; rfl
  have za := z.e sa
  have a3 : ∀ v, v < K + 1 → mI Ma 3 v = xR S 17 v := fun v hv => by rw [← hMa, cp_I, if_pos ⟨rfl, hv⟩]; exact sb.b hv
  have ao : ∀ o, o ≠ 3 → ∀ b, mI Ma o b = mI M o b := fun o n b => by rw [← hMa, cp_I, if_neg (fun z => n z.1)]
  obtain ⟨M1, e1, b1⟩ := za.bg (N := K + m) (n := n) (by omega)
  have z1 := za.e b1.1
  obtain ⟨M2, n2, e2, l2, hn2⟩ := wi_34 (S := S) (k := k) (m := m) (K := K) z1 (fun v hv => by rw [b1.2.2.2.2.1 3 (by decide) (by decide)]; exact a3 v hv) hk h1 h2 h3 (K + 1) 0 n M1 (by omega) (by rw [if_pos (Nat.zero_le _)]; exact Lp.r _ _ _ _) (by omega)
  have z2 := z1.e l2.1
  have r3 : mI M2 3 k = xR S 17 k := by rw [l2.2.2.2.1 3 (by decide), b1.2.2.2.2.1 3 (by decide) (by decide)]; exact a3 k (by omega)
  obtain ⟨M3, e3, l3⟩ := lpw (F := fun n x M => f_X7_makeWithin_100 n 1 (nI k) (nI m) (nI K) x M) (G := some) (M0 := M2) (o := 2) (c := 0 + K) (N := m) (K := 13) (C := fun j => wiC S k m K (K + j)) (fun i n M hi l hn => by
    have zz := z2.e l.1
    refine ⟨sI M 2 (K + i) (wiC S k m K (K + i)), ?_, by rw [show 0 + K + i = K + i by omega]; exact Wc.s _ _ _ _⟩
    show f_X7_makeWithin_100 (n + 1) 1 (nI k) (nI m) (nI K) (nI i) M = _
    rw [f_X7_makeWithin_100, if_neg (nI_ge hi (by omega)), zz.f, zz.r2, bnd_e, zz.a2, zz.r3, bnd_e, zz.a3, zz.i3 (by omega), f_maj9 h1 (by omega) hi (by omega), obd_s, mI_c (by omega), l.2.2.2.1 3 (by decide), r3, f_rpl9 _ _ (by omega), obd_s, nI_add, zz.i2 (by omega), sI_c (by omega), ← wiC_j, bnd_e, bnd_e, nI_1]) (fun n M l => by
    show f_X7_makeWithin_100 (n + 1) 1 (nI k) (nI m) (nI K) (nI m) M = _
    rw [f_X7_makeWithin_100, if_pos (nI_le (Nat.le_refl _) (by omega))]) m 0 n2 M2 (by omega) (Lp.r _ _ _ _) (by omega)
  have m1 := b1.mc (l2.app l3)
  refine ⟨M3, ?_, m1.1.trans sa, fun o ho b => by rw [m1.2.1 o ho, ao o (by omega)], m1.2.2.1, m1.2.2.2.1, m1.2.2.2.2.1, fun o b => by rw [m1.2.2.2.2.2, ← hMa]; rfl⟩
  rw [f_X7_makeWithin, z.f, sb.n, show nI (K + 1) - (1 : Int32) = nI K from nI_pred K, bnd_e, z.r2, bnd_e, z.a2, z.r3, bnd_e, z.a3, cp_st (la := mLn M 2) (lb := mLn M 3) (n := K + 1) _ (by rw [z.2.2.1]; omega) (by rw [z.2.2.2]; omega) (by omega), hMa, nI_add, e1, obd_s, show (0 : Int32) = nI 0 from rfl, e2]
  exact e3
end
/-! ===== within: the reference, and both ===== -/
theorem i3_2 {k : Nat} : (2 : Int32) + nI k = nI (2 + k) := by rw [show (2 : Int32) = nI 2 from rfl, nI_add]
theorem rw_40 {M2 : Mem} {S : St} {k m K : Nat} {tw : Bool} {t : Int32} {pb pt : List Row4} (r : RV M2 tw t S pb pt) (h3 : K + 1 ≤ 16) : ∀ (d v n : Nat) (M : Mem), v + d = K + 1 → Lp M2 122 0 (fun v => xR S 17 v) v M → d + 11050 ≤ n → ∃ M' n', f_X10_within_40 n 120 (nI k) (nI m) (nI K) (nI v) M = (obd (f_X10_begin n' 120 (nI K + nI m) (0 : Int32) M') fun M5 => f_X10_within_76 n' 120 (nI k) (nI m) (nI K) (0 : Int32) M5) ∧ Lp M2 122 0 (fun v => xR S 17 v) (K + 1) M' ∧ 11049 ≤ n' := by
  intro d
  induction d with
  | zero =>
    intro v n M hv l hn
    obtain ⟨n, rfl⟩ : ∃ m, n = m + 1 := ⟨n - 1, by omega⟩
    have : v = K + 1 := by omega
    subst this
    have q := r.1.e l.1
    exact ⟨M, n, by rw [f_X10_within_40, if_pos (nI_lt (by omega) (by omega)), rs_f q], l, by omega⟩
  | succ d ih =>
    intro v n M hv l hn
    obtain ⟨n, rfl⟩ : ∃ m, n = m + 1 := ⟨n - 1, by omega⟩
    have q := r.1.e l.1
    have wc : Wc 122 (0 + v) (xR S 17 v) M (sI M 122 v (xR S 17 v)) := by rw [Nat.zero_add]; exact Wc.s _ _ _ _
    obtain ⟨M', n', e, l', hn'⟩ := ih (v + 1) n _ (by omega) (l.s wc) (by omega)
    refine ⟨M', n', ?_, l', hn'⟩
    have eb : f_X10_baseOf 120 (nI v) M = some (xR S 17 v) := by
      rw [f_X10_baseOf, rs_f q, rs_0 q, bnd_e, rs_fa q, i3_2, rs_c q (by omega), mI_c (by omega), l.2.2.2.1 121 (by decide)]
      exact congrArg some (r.rg (k := 17) (i := v) (by unfold vk; omega))
    rw [f_X10_within_40, if_neg (nI_nlt (by omega) (by omega)), rs_f q, rs_1 q, bnd_e, rs_f1 q, eb, obd_s, rs_c1 q (by omega), sI_c (by omega), bnd_e, nI_1, bnd_e]
    exact e
section
variable {S : St} {k m K : Nat}
theorem rw_76 {M1 : Mem} (q1 : RS M1) (m3 : ∀ v, v < K + 1 → mI M1 122 v = xR S 17 v) (hk : k ≤ K) (h1 : 2 ≤ m) (h2 : m ≤ 8) (h3 : K + m ≤ 16) : ∀ (d v n : Nat) (M : Mem), v + d = K + 1 → Lp M1 121 2 (wiC S k m K) (if v ≤ k then v else v - 1) M → d + 30 ≤ n → ∃ M' n', f_X10_within_76 n 120 (nI k) (nI m) (nI K) (nI v) M = f_X10_within_139 n' 120 (nI k) (nI m) (nI K) (nI 0) M' ∧ Lp M1 121 2 (wiC S k m K) K M' ∧ 29 ≤ n' := by
  intro d
  induction d with
  | zero =>
    intro v n M hv l hn
    obtain ⟨n, rfl⟩ : ∃ m, n = m + 1 := ⟨n - 1, by omega⟩
    refine ⟨M, n, ?_, ?_, by omega⟩
    · rw [f_X10_within_76, if_pos (nI_lt (by omega) (by omega))]
      rfl
    · rw [if_neg (by omega), show v - 1 = K by omega] at l
      exact l
  | succ d ih =>
    intro v n M hv l hn
    obtain ⟨n, rfl⟩ : ∃ m, n = m + 1 := ⟨n - 1, by omega⟩
    have q := q1.e l.1
    by_cases c : v = k
    · obtain ⟨M', n', e, l', hn'⟩ := ih (v + 1) n M (by omega) (by
        rw [if_neg (by omega), show v + 1 - 1 = v by omega]
        rw [if_pos (by omega)] at l
        exact l) (by omega)
      refine ⟨M', n', ?_, l', hn'⟩
      rw [f_X10_within_76, if_neg (nI_nlt (by omega) (by omega)), if_pos (by rw [c]), bnd_e, nI_1]
      exact e
    · have hu : (if v ≤ k then v else v - 1) < 16 := by split <;> omega
      have wc : Wc 121 (2 + (if v ≤ k then v else v - 1)) (wiC S k m K (if v ≤ k then v else v - 1)) M (sI M 121 (2 + (if v ≤ k then v else v - 1)) (wiC S k m K (if v ≤ k then v else v - 1))) := Wc.s _ _ _ _
      obtain ⟨M', n', e, l', hn'⟩ := ih (v + 1) n _ (by omega) (by
        have := l.s wc
        have eq : (if v + 1 ≤ k then v + 1 else v + 1 - 1) = (if v ≤ k then v else v - 1) + 1 := by
          by_cases q : v ≤ k
          · rw [if_pos q, if_pos (by omega)]
          · rw [if_neg q, if_neg (by omega)]; omega
        rw [eq]
        exact this) (by omega)
      refine ⟨M', n', ?_, l', hn'⟩
      have e61 : ∀ u : Int32, u = nI (if v ≤ k then v else v - 1) → f_X10_within_108 (f_X10_within_76 n) n 120 (nI k) (nI m) (nI K) (nI v) u (2 : Int32) 121 M = f_X10_within_76 n 120 (nI k) (nI m) (nI K) (nI (v + 1)) (sI M 121 (2 + (if v ≤ k then v else v - 1)) (wiC S k m K (if v ≤ k then v else v - 1))) := by
        intro u hu'
        have v3 : mI M 122 v = xR S 17 v := by rw [l.2.2.2.1 122 (by decide)]; exact m3 v (by omega)
        rw [f_X10_within_108, rs_f q, rs_1 q, bnd_e, rs_f1 q, rs_c1 q (by omega), chk_t (nI_n0 (by omega) (by omega)), md_e (by omega) h1 h2, f_maj10 h1 (by omega) (Nat.mod_lt _ (by omega)) (by omega), obd_s, mI_c (by omega), v3, f_rpl10 _ _ (by omega), obd_s, rs_fa q, hu', i3_2, rs_c q (by omega), sI_c (by omega), wiC_v (by omega) hk c, bnd_e, bnd_e, nI_1]
      rw [f_X10_within_76, if_neg (nI_nlt (by omega) (by omega)), if_neg (nI_ne (by omega) (by omega) c), rs_f q, rs_0 q, bnd_e, rs_fa q]
      by_cases q : k ≤ v
      · rw [if_pos (nI_le q (by omega)), e61 (nI v - 1) (by rw [nI_m1' (by omega), if_neg (by omega)])]
        exact e
      · rw [if_neg (nI_ge (by omega) (by omega)), e61 (nI v) (by rw [if_pos (by omega)])]
        exact e
theorem rm_within {M : Mem} {n : Nat} {tw : Bool} {t : Int32} {pb pt : List Row4} (r : RV M tw t S pb pt) (hN : xR S 20 0 = nI (K + 1)) (hk : k ≤ K) (h1 : 2 ≤ m) (h2 : m ≤ 8) (h3 : K + m ≤ 16) (hn : 12000 ≤ n) : ∃ M', f_X10_within n 120 (nI k) (nI m) M = some (nI (K + m), M') ∧ RE (K + m) 0 (wiC S k m K) M M' := by
  obtain ⟨Ma, na, ea, la, hna⟩ := rw_40 (k := k) (m := m) (K := K) r (by omega) (K + 1) 0 n M (by omega) (Lp.r _ _ _ _) (by omega)
  have qa := r.1.e la.1
  have rka : RK Ma 120 121 := ⟨qa.io (by decide) (by decide) (by decide), rs_0 qa, qa.io (by decide) (by decide) (by decide), qa.ln (by decide) (by decide) (by decide)⟩
  have eb := f_begin (N := nI (K + m)) (t := 0) rka (n := na) (by omega)
  rw [if_pos rfl] at eb
  have bI : ∀ o, o ≠ 121 → ∀ c, mI (wA Ma 121 (bgf (mI Ma 121) (nI (K + m)) 0)) o c = mI Ma o c := fun o n c => if_neg n
  have q1 : RS (wA Ma 121 (bgf (mI Ma 121) (nI (K + m)) 0)) := qa
  generalize hM1 : wA Ma 121 (bgf (mI Ma 121) (nI (K + m)) 0) = M1 at eb bI q1
  have m3 : ∀ v, v < K + 1 → mI M1 122 v = xR S 17 v := fun v hv => by
    rw [bI 122 (by decide)]
    have := la.2.1 v hv
    rw [Nat.zero_add] at this
    exact this
  obtain ⟨M2, n2, e2, l2, hn2⟩ := rw_76 (S := S) (k := k) (m := m) (K := K) q1 m3 hk h1 h2 h3 (K + 1) 0 na M1 (by omega) (by rw [if_pos (Nat.zero_le _)]; exact Lp.r _ _ _ _) (by omega)
  have q2 := q1.e l2.1
  have r3 : mI M2 122 k = xR S 17 k := by rw [l2.2.2.2.1 122 (by decide)]; exact m3 k (by omega)
  obtain ⟨M3, e3, l3⟩ := lpw (F := fun n x M => f_X10_within_139 n 120 (nI k) (nI m) (nI K) x M) (G := fun M => some (nI (K + m), M)) (M0 := M2) (o := 121) (c := 2 + K) (N := m) (K := 13) (C := fun j => wiC S k m K (K + j)) (fun i n M hi l hn => by
    have q := q2.e l.1
    refine ⟨sI M 121 (2 + K + i) (wiC S k m K (K + i)), ?_, Wc.s _ _ _ _⟩
    show f_X10_within_139 (n + 1) 120 (nI k) (nI m) (nI K) (nI i) M = _
    rw [f_X10_within_139, if_neg (nI_ge hi (by omega)), rs_f q, rs_0 q, bnd_e, rs_fa q, rs_1 q, bnd_e, rs_f1 q, rs_c1 q (by omega), f_maj10 h1 (by omega) hi (by omega), obd_s, mI_c (by omega), l.2.2.2.1 122 (by decide), r3, f_rpl10 _ _ (by omega), obd_s, i3_2, nI_add, rs_c q (by omega), sI_c (by omega), ← wiC_j, bnd_e, bnd_e, nI_1]) (fun n M l => by
    show f_X10_within_139 (n + 1) 120 (nI k) (nI m) (nI K) (nI m) M = _
    rw [f_X10_within_139, if_pos (nI_le (Nat.le_refl _) (by omega)), nI_add]) m 0 n2 M2 (by omega) (Lp.r _ _ _ _) (by omega)
  have l23 := l2.app l3
  rw [← hM1] at l23
  obtain ⟨s3, i3, i120, f3⟩ := RE_of l23
  have q := r.1
  refine ⟨M3, ?_, s3.trans la.1, fun o ho b => by rw [i3 o ho, la.2.2.2.1 o (by omega)], fun b => by rw [i120, la.2.2.2.1 120 (by decide)], fun b hb => ?_⟩
  · rw [f_X10_within, rs_f q, rs_0 q, bnd_e, rs_fa q, rs_c0 q, cl0, r.N hN, nI_pred, bnd_e, ndr r hN (by omega) (by omega), obd_s, if_neg ne10, show f_X10_isIn (nI m) (2 : Int32) (8 : Int32) M = some 1 from is_in3 (L := 2) (N := 8) (by decide) h1 h2, obd_s, if_neg ne10, nI_add, if_pos (show nI (K + m) ≤ (16 : Int32) from nI_le (b := 16) h3 (by decide)), show (0 : Int32) = nI 0 from rfl, ea, nI_add, show (0 : Int32) = nI 0 from rfl]
    rw [show f_X10_begin na 120 (nI (K + m)) (nI 0) Ma = some M1 from eb, obd_s, e2]
    exact e3
  · rw [f3 b hb]
    have : mI Ma 121 = mI M 121 := by funext c; exact la.2.2.2.1 121 (by decide) c
    rw [this]
end
theorem op6 {M : Mem} {i n : Nat} (h : WI i M) (a b : Int32) (hn : 100000 ≤ n) : Okk i (f_X9_within n 0 a b M) (fun M1 => f_X10_within n 120 a b M1) := by
  obtain ⟨N, A, Q, S, w⟩ := h
  obtain ⟨X, Y, L, p, sb, xg, xr⟩ := id w.1
  obtain ⟨_, r, z7, sw, hQ⟩ := id w
  have h16 := sw.n16
  have h2 := sw.n2
  obtain ⟨K, rfl⟩ : ∃ K, N = K + 1 := ⟨N - 1, by omega⟩
  have hN := sw.n
  have pre : ∀ y, f_X10_within n 120 a b M = (obd (f_X10_isNode 120 a M) fun r9 => if r9 = 0 then some ((-1 : Int32), M) else obd (f_X10_isIn b (2 : Int32) (8 : Int32) M) fun r13 => if r13 = 0 then some ((-1 : Int32), M) else if (nI K + b) ≤ (16 : Int32) then f_X10_within_40 n 120 a b (nI K) (0 : Int32) M else some ((-1 : Int32), M)) ∨ y := fun y => Or.inl (by
    rw [f_X10_within, rs_f r.1, rs_0 r.1, bnd_e, rs_fa r.1, rs_c0 r.1, cl0, r.N hN, nI_pred, bnd_e])
  have pr := (pre False).resolve_right id
  rcases out_in (N := K + 1) (by omega) a with ha | ⟨k, hk, rfl⟩
  · refine Okk.same w (r := -1) ?_ ?_
    · rw [f_X9_within, chk_t xg.1, xg.2.1, bnd_e, sb.f, ndc0 sb ha, obd_s, if_pos rfl]
    · show f_X10_within n 120 a b M = _
      rw [pr, ndr0 r hN (by omega) h16 ha, obd_s, if_pos rfl]
  · rcases rng3 (L := 2) (N := 8) (by decide) (by decide) b with hb | ⟨m, hm1, hm2, rfl⟩
    · refine Okk.same w (r := -1) ?_ ?_
      · rw [f_X9_within, chk_t xg.1, xg.2.1, bnd_e, sb.f, ndc sb hk h16, obd_s, if_neg ne10]
        by_cases c : b < (2 : Int32)
        · rw [if_pos c]
        · rw [if_neg c, if_pos (show (8 : Int32) < b from gt3 (N := 8) (by decide) (hb.resolve_left c))]
      · show f_X10_within n 120 (nI k) b M = _
        rw [pr, ndr r hN hk h16, obd_s, if_neg ne10, show f_X10_isIn b (2 : Int32) (8 : Int32) M = some 0 from is_out3 (L := 2) (N := 8) (by decide) hb, obd_s, if_pos rfl]
    · by_cases c : K + m ≤ 16
      · obtain ⟨M1, e1, m1⟩ := mc_within (n := n) sb (show k ≤ K by omega) hm1 hm2 c (by omega)
        obtain ⟨M2, e2, io, rk, r2, ⟨xg2, sb2⟩, fin⟩ := w.mk (n := n) m1 (by omega) c (Or.inl rfl) (fun z => absurd z (by decide)) (wiC_b sw.bi (by omega) hm1 hm2 c) (by omega)
        obtain ⟨M3, e3, s3, i3, i120, f3⟩ := rm_within (n := n) r2 hN (show k ≤ K by omega) hm1 hm2 c (by omega)
        refine ⟨nI (K + m), M2, M3, ?_, io, e3, fin M3 s3 i3 i120 f3⟩
        rw [f_X9_within, chk_t xg.1, xg.2.1, bnd_e, sb.f, ndc sb hk h16, obd_s, if_neg ne10, if_neg (show ¬ nI m < (2 : Int32) from nI_nlt (b := 2) hm1 (by omega)), if_neg (show ¬ (8 : Int32) < nI m from nI_nlt (a := 8) (b := m) hm2 (by omega)), bnd_e, sb.f, sb.n, show nI (K + 1) - (1 : Int32) = nI K from nI_pred K, nI_add, if_pos (show nI (K + m) ≤ (16 : Int32) from nI_le (b := 16) c (by decide)), bnd_e, sb.f, e1, obd_s, chk_t (xg.s (Shp1.e m1.1)).1, e2, obd2_s]
      · have g : ¬ nI (K + m) ≤ (16 : Int32) := nI_ge (a := 16) (b := K + m) (by omega) (by omega)
        refine Okk.same w (r := -1) ?_ ?_
        · rw [f_X9_within, chk_t xg.1, xg.2.1, bnd_e, sb.f, ndc sb hk h16, obd_s, if_neg ne10, if_neg (show ¬ nI m < (2 : Int32) from nI_nlt (b := 2) hm1 (by omega)), if_neg (show ¬ (8 : Int32) < nI m from nI_nlt (a := 8) (b := m) hm2 (by omega)), bnd_e, sb.f, sb.n, show nI (K + 1) - (1 : Int32) = nI K from nI_pred K, nI_add, if_neg g]
        · show f_X10_within n 120 (nI k) (nI m) M = _
          rw [pr, ndr r hN hk h16, obd_s, if_neg ne10, show f_X10_isIn (nI m) (2 : Int32) (8 : Int32) M = some 1 from is_in3 (L := 2) (N := 8) (by decide) hm1 hm2, obd_s, if_neg ne10, nI_add, if_neg g]
/-! ===== questions, the class: each answers ===== -/
section
variable {M : Mem} {N : Nat} {S : St}
theorem cld_l (sb : SB M N S) (h16 : N ≤ 16) {k : Nat} (hk : k < 32) : ∀ (d i n : Nat) (c : Int32), i + d = N → d + 1 ≤ n → ∃ r, f_X7_loadOf_4 M n 1 (nI k) c (nI i) = some r := by
  intro d
  induction d with
  | zero =>
    intro i n c hi hn
    obtain ⟨n, rfl⟩ : ∃ m, n = m + 1 := ⟨n - 1, by omega⟩
    exact ⟨c, by rw [f_X7_loadOf_4, sb.f, sb.n, if_pos (nI_le (by omega) (by omega))]⟩
  | succ d ih =>
    intro i n c hi hn
    obtain ⟨n, rfl⟩ : ∃ m, n = m + 1 := ⟨n - 1, by omega⟩
    rw [f_X7_loadOf_4, sb.f, sb.n, if_neg (nI_ge (by omega) (by omega)), sb.r2, bnd_e, sb.a2, sb.i2 (by omega), f_has9 _ hk, obd_s]
    split
    · rw [bnd_e, nI_1]; exact ih (i + 1) n _ (by omega) (by omega)
    · rw [bnd_e, bnd_e, nI_1]; exact ih (i + 1) n _ (by omega) (by omega)
theorem SB.ld (sb : SB M N S) (h16 : N ≤ 16) {k : Nat} (hk : k < 32) {n : Nat} (hn : 20 ≤ n) : ∃ r, f_X7_loadOf n 1 (nI k) M = some r := by
  rw [f_X7_loadOf, show (0 : Int32) = nI 0 from rfl]
  exact cld_l sb h16 hk N 0 n _ (by omega) (by omega)
theorem csl_l (sb : SB M N S) (h16 : N ≤ 16) : ∀ (d i n : Nat), i + d = N → d + 21 ≤ n → ∃ r, f_X7_sameLoads_2 M n 1 (nI i) = some r := by
  intro d
  induction d with
  | zero =>
    intro i n hi hn
    obtain ⟨n, rfl⟩ : ∃ m, n = m + 1 := ⟨n - 1, by omega⟩
    exact ⟨1, by rw [f_X7_sameLoads_2, sb.f, sb.n, if_pos (nI_le (by omega) (by omega))]⟩
  | succ d ih =>
    intro i n hi hn
    obtain ⟨n, rfl⟩ : ∃ m, n = m + 1 := ⟨n - 1, by omega⟩
    obtain ⟨r1, e1⟩ := sb.ld h16 (k := i) (by omega) (n := n) (by omega)
    obtain ⟨r2, e2⟩ := sb.ld h16 (k := 0) (by omega) (n := n) (by omega)
    rw [f_X7_sameLoads_2, sb.f, sb.n, if_neg (nI_ge (by omega) (by omega)), e1, obd_s, show (0 : Int32) = nI 0 from rfl, e2, obd_s]
    split
    · rw [bnd_e, nI_1]; exact ih (i + 1) n (by omega) (by omega)
    · exact ⟨_, rfl⟩
theorem bc_s (x : Int32) (M : Mem) : ∃ r, f_J6_bitCount_0f7a4 x M = some r := ⟨_, rfl⟩
theorem cls_l (sb : SB M N S) (h16 : N ≤ 16) : ∀ (d i n : Nat) (c : Int32), i + d = N → d + 1 ≤ n → ∃ r, f_X7_leastSize_5 M n 1 c (nI i) = some r := by
  intro d
  induction d with
  | zero =>
    intro i n c hi hn
    obtain ⟨n, rfl⟩ : ∃ m, n = m + 1 := ⟨n - 1, by omega⟩
    exact ⟨c, by rw [f_X7_leastSize_5, sb.f, sb.n, if_pos (nI_le (by omega) (by omega))]⟩
  | succ d ih =>
    intro i n c hi hn
    obtain ⟨n, rfl⟩ : ∃ m, n = m + 1 := ⟨n - 1, by omega⟩
    obtain ⟨r, e⟩ := bc_s (mI M 2 (nI i).toNatClampNeg) M
    rw [f_X7_leastSize_5, sb.f, sb.n, if_neg (nI_ge (by omega) (by omega)), sb.r2, bnd_e, sb.a2, sb.i2 (by omega), e, obd_s, bnd_e, bnd_e, nI_1]
    exact ih (i + 1) n _ (by omega) (by omega)
theorem cgs_l (sb : SB M N S) (h16 : N ≤ 16) : ∀ (d i n : Nat) (c : Int32), i + d = N → d + 1 ≤ n → ∃ r, f_X7_greatestSize_4 M n 1 c (nI i) = some r := by
  intro d
  induction d with
  | zero =>
    intro i n c hi hn
    obtain ⟨n, rfl⟩ : ∃ m, n = m + 1 := ⟨n - 1, by omega⟩
    exact ⟨c, by rw [f_X7_greatestSize_4, sb.f, sb.n, if_pos (nI_le (by omega) (by omega))]⟩
  | succ d ih =>
    intro i n c hi hn
    obtain ⟨n, rfl⟩ : ∃ m, n = m + 1 := ⟨n - 1, by omega⟩
    obtain ⟨r, e⟩ := bc_s (mI M 2 (nI i).toNatClampNeg) M
    rw [f_X7_greatestSize_4, sb.f, sb.n, if_neg (nI_ge (by omega) (by omega)), sb.r2, bnd_e, sb.a2, sb.i2 (by omega), e, obd_s, bnd_e, bnd_e, nI_1]
    exact ih (i + 1) n _ (by omega) (by omega)
theorem ccm_l (sb : SB M N S) (h16 : N ≤ 16) : ∀ (d i n : Nat) (c : Int32), i + d = N → d + 1 ≤ n → ∃ r, f_X7_common_7 M n 1 c (nI i) = some r := by
  intro d
  induction d with
  | zero =>
    intro i n c hi hn
    obtain ⟨n, rfl⟩ : ∃ m, n = m + 1 := ⟨n - 1, by omega⟩
    exact ⟨c, by rw [f_X7_common_7, sb.f, sb.n, if_pos (nI_le (by omega) (by omega))]⟩
  | succ d ih =>
    intro i n c hi hn
    obtain ⟨n, rfl⟩ : ∃ m, n = m + 1 := ⟨n - 1, by omega⟩
    rw [f_X7_common_7, sb.f, sb.n, if_neg (nI_ge (by omega) (by omega)), sb.r2, bnd_e, sb.a2, sb.i2 (by omega), bnd_e, bnd_e, nI_1]
    exact ih (i + 1) n _ (by omega) (by omega)
theorem SB.lsz (sb : SB M N S) (h16 : N ≤ 16) {n : Nat} (hn : 20 ≤ n) : ∃ r, f_X7_leastSize n 1 M = some r := by
  rw [f_X7_leastSize, show (0 : Int32) = nI 0 from rfl]
  exact cls_l sb h16 N 0 n _ (by omega) (by omega)
theorem SB.gsz (sb : SB M N S) (h16 : N ≤ 16) {n : Nat} (hn : 20 ≤ n) : ∃ r, f_X7_greatestSize n 1 M = some r := by
  rw [f_X7_greatestSize, show f_X7_greatestSize_4 M n 1 0 0 = f_X7_greatestSize_4 M n 1 0 (nI 0) from rfl]
  exact cgs_l sb h16 N 0 n _ (by omega) (by omega)
theorem SB.cmn (sb : SB M N S) (h16 : N ≤ 16) {n : Nat} (hn : 20 ≤ n) : ∃ r, f_X7_common n 1 M = some r := by
  rw [f_X7_common, sb.f, f_X7_allNodes, sb.f, obd_s, show (0 : Int32) = nI 0 from rfl]
  exact ccm_l sb h16 N 0 n _ (by omega) (by omega)
theorem cin_l (sb : SB M N S) (h16 : N ≤ 16) {k : Nat} (hk : k < N) : ∀ (d i n : Nat), i + d = N → d + 1 ≤ n → ∃ r, f_X7_isNeedless_2 M n 1 (nI k) (nI i) = some r := by
  intro d
  induction d with
  | zero =>
    intro i n hi hn
    obtain ⟨n, rfl⟩ : ∃ m, n = m + 1 := ⟨n - 1, by omega⟩
    exact ⟨0, by rw [f_X7_isNeedless_2, sb.f, sb.n, if_pos (nI_le (by omega) (by omega))]⟩
  | succ d ih =>
    intro i n hi hn
    obtain ⟨n, rfl⟩ : ∃ m, n = m + 1 := ⟨n - 1, by omega⟩
    have nx := ih (i + 1) n (by omega) (by omega)
    have e38 : ∀ u, ∃ r, f_X7_isNeedless_38 (f_X7_isNeedless_2 M n) M n 1 (nI k) (nI i) u = some r := fun u => by
      rw [f_X7_isNeedless_38]
      split
      · rw [bnd_e, nI_1]; exact nx
      · rw [sb.f, sb.r2, bnd_e, sb.a2, sb.i2 (by omega), bnd_e, sb.a2, sb.i2 (by omega)]
        split
        · split
          · rw [bnd_e, nI_1]; exact nx
          · exact ⟨_, rfl⟩
        · exact ⟨_, rfl⟩
    rw [f_X7_isNeedless_2, sb.f, sb.n, if_neg (nI_ge (by omega) (by omega))]
    split
    · exact e38 _
    · rw [sb.r2, bnd_e, sb.a2, sb.i2 (by omega), bnd_e, sb.a2, sb.i2 (by omega)]
      split
      · exact e38 _
      · exact e38 _
theorem cnl_l (sb : SB M N S) (h16 : N ≤ 16) : ∀ (d i n : Nat) (c : Int32), i + d = N → d + 21 ≤ n → ∃ r, f_X7_countNeedless_4 M n 1 c (nI i) = some r := by
  intro d
  induction d with
  | zero =>
    intro i n c hi hn
    obtain ⟨n, rfl⟩ : ∃ m, n = m + 1 := ⟨n - 1, by omega⟩
    exact ⟨c, by rw [f_X7_countNeedless_4, sb.f, sb.n, if_pos (nI_le (by omega) (by omega))]⟩
  | succ d ih =>
    intro i n c hi hn
    obtain ⟨n, rfl⟩ : ∃ m, n = m + 1 := ⟨n - 1, by omega⟩
    obtain ⟨r, e⟩ := cin_l sb h16 (k := i) (by omega) N 0 n (by omega) (by omega)
    rw [f_X7_countNeedless_4, sb.f, sb.n, if_neg (nI_ge (by omega) (by omega)), f_X7_isNeedless, show f_X7_isNeedless_2 M n 1 (nI i) 0 = some r from e, obd_s]
    split
    · rw [bnd_e, nI_1]; exact ih (i + 1) n _ (by omega) (by omega)
    · rw [bnd_e, bnd_e, nI_1]; exact ih (i + 1) n _ (by omega) (by omega)
end
section
variable {M : Mem} {N A i : Nat} {Q : Nat → Int32} {S : St}
theorem WJ.c11 (w : WJ M N A i Q S) (a : Int32) {n : Nat} (hn : 100 ≤ n) : ∃ r, f_X9_load n 0 a M = some r := by
  obtain ⟨X, Y, L, p, sb, xg, xr⟩ := id w.1
  have h16 := w.2.2.2.1.n16
  rcases out_in (N := N) (by omega) a with ha | ⟨k, hk, rfl⟩
  · exact ⟨-1, by rw [f_X9_load, chk_t xg.1, xg.2.1, bnd_e, sb.f, ndc0 sb ha, obd_s, if_pos rfl]⟩
  · obtain ⟨r, e⟩ := sb.ld h16 (k := k) (by omega) (n := n) (by omega)
    exact ⟨r, by rw [f_X9_load, chk_t xg.1, xg.2.1, bnd_e, sb.f, ndc sb hk h16, obd_s, if_neg ne10, bnd_e, sb.f, e, obd_s]⟩
theorem WJ.c14 (w : WJ M N A i Q S) {n : Nat} (hn : 100 ≤ n) : ∃ r, f_X9_needless n 0 M = some r := by
  obtain ⟨X, Y, L, p, sb, xg, xr⟩ := id w.1
  obtain ⟨r, e⟩ := cnl_l sb w.2.2.2.1.n16 N 0 n 0 (by omega) (by have := w.2.2.2.1.n16; omega)
  exact ⟨r, by rw [f_X9_needless, chk_t xg.1, xg.2.1, bnd_e, sb.f, f_X7_countNeedless, show f_X7_countNeedless_4 M n 1 0 0 = some r from e, obd_s]⟩
theorem WJ.c17 (w : WJ M N A i Q S) (a : Int32) {n : Nat} (hn : 100 ≤ n) : ∃ r, f_X9_sizes n 0 a M = some r := by
  obtain ⟨X, Y, L, p, sb, xg, xr⟩ := id w.1
  have h16 := w.2.2.2.1.n16
  obtain ⟨r1, e1⟩ := sb.lsz h16 (n := n) (by omega)
  obtain ⟨r2, e2⟩ := sb.gsz h16 (n := n) (by omega)
  obtain ⟨r3, e3⟩ := sb.cmn h16 (n := n) (by omega)
  obtain ⟨r4, e4⟩ := bc_s r3 M
  rw [f_X9_sizes]
  split
  · exact ⟨r1, by rw [chk_t xg.1, xg.2.1, bnd_e, sb.f, e1, obd_s]⟩
  · split
    · exact ⟨r2, by rw [chk_t xg.1, xg.2.1, bnd_e, sb.f, e2, obd_s]⟩
    · split
      · exact ⟨r4, by rw [chk_t xg.1, xg.2.1, bnd_e, sb.f, e3, obd_s, e4, obd_s]⟩
      · exact ⟨_, rfl⟩
theorem WJ.c19 (w : WJ M N A i Q S) {n : Nat} (hn : 100 ≤ n) : ∃ r, f_X9_fair n 0 M = some r := by
  obtain ⟨X, Y, L, p, sb, xg, xr⟩ := id w.1
  have h16 := w.2.2.2.1.n16
  have h2 := w.2.2.2.1.n2
  obtain ⟨r1, e1⟩ := sb.lsz h16 (n := n) (by omega)
  obtain ⟨r2, e2⟩ := sb.gsz h16 (n := n) (by omega)
  obtain ⟨r3, e3⟩ := csl_l sb h16 (N - 1) 1 n (by omega) (by omega)
  rw [f_X9_fair, chk_t xg.1, xg.2.1, bnd_e, sb.f, e1, obd_s, bnd_e, sb.f, e2, obd_s]
  split
  · rw [bnd_e, sb.f, f_X7_sameLoads, show f_X7_sameLoads_2 M n 1 1 = some r3 from e3, obd_s]
    split
    · exact ⟨_, rfl⟩
    · exact ⟨_, rfl⟩
  · exact ⟨_, rfl⟩
theorem WJ.c9 (w : WJ M N A i Q S) (a b : Int32) : ∃ r, f_X9_meeting 0 a b M = some r := by
  obtain ⟨X, Y, L, p, sb, xg, xr⟩ := id w.1
  have h16 := w.2.2.2.1.n16
  rcases out_in (N := N) (by omega) a with ha | ⟨k, hk, rfl⟩
  · exact ⟨-1, by rw [f_X9_meeting, chk_t xg.1, xg.2.1, bnd_e, sb.f, ndc0 sb ha, obd_s, if_pos rfl]⟩
  · rcases out_in (N := N) (by omega) b with hb | ⟨m, hm, rfl⟩
    · exact ⟨-1, by rw [f_X9_meeting, chk_t xg.1, xg.2.1, bnd_e, sb.f, ndc sb hk h16, obd_s, if_neg ne10, bnd_e, sb.f, ndc0 sb hb, obd_s, if_pos rfl]⟩
    · have lw : ∀ x, ∃ r, f_X9_lowest x M = some r := fun x => by
        rw [f_X9_lowest]
        split
        · exact ⟨_, rfl⟩
        · exact ⟨_, rfl⟩
      obtain ⟨r, e⟩ := lw (((mI M 2 (nI k).toNatClampNeg) &&& (mI M 2 (nI m).toNatClampNeg))).toInt64
      exact ⟨r, by rw [f_X9_meeting, chk_t xg.1, xg.2.1, bnd_e, sb.f, ndc sb hk h16, obd_s, if_neg ne10, bnd_e, sb.f, ndc sb hm h16, obd_s, if_neg ne10, bnd_e, sb.f, sb.r2, bnd_e, sb.a2, sb.i2 (by omega), bnd_e, sb.f, sb.r2, bnd_e, sb.a2, sb.i2 (by omega), e, obd_s]⟩
/-- a node's place -/
theorem WJ.pl (w : WJ M N A i Q S) {k : Nat} (hk : k < N) {α : Type} (f : Nat → Option α) : (bnd (mR M 0 2) fun o9 => chk (isO M 2 o9) <| bnd (mR M o9 2) fun o12 => chk (isO M 102 o12) <| chk (inB (nI k) (mLn M o12)) <| bnd (mR M o12 (nI k).toNatClampNeg) fun o16 => chk (isO M 4 o16) <| f o16) = f (14 + 17 + 2 * k) := by
  obtain ⟨X, Y, L, p, sb, xg, xr⟩ := id w.1
  have h16 := w.2.2.2.1.n16
  have q := p.1
  have k6 : k < 16 := by omega
  rw [xg.2.2.2.1, bnd_e, cs_f q, cs_h2 q, bnd_e, cs_a10 q, cs_i10 q k6, cs_rpc q k6, bnd_e, cs_po q k6]
theorem WJ.c27 (w : WJ M N A i Q S) (a b : Int32) : ∃ r, f_X9_node 0 a b M = some r := by
  obtain ⟨X, Y, L, p, sb, xg, xr⟩ := id w.1
  have h16 := w.2.2.2.1.n16
  rcases out_in (N := N) (by omega) a with ha | ⟨k, hk, rfl⟩
  · exact ⟨-1, by rw [f_X9_node, chk_t xg.1, xg.2.1, bnd_e, sb.f, ndc0 sb ha, obd_s, if_pos rfl]⟩
  · obtain ⟨s7, s8, s9⟩ := has_st p (k := k) (by omega)
    generalize (if xR S 0 k = 2 then (1 : Int32) else 0) = z7 at s7
    generalize (if xR S 0 k = 1 then (1 : Int32) else 0) = z8 at s8
    generalize (if xR S 7 k = 1 then (1 : Int32) else 0) = z9 at s9
    have hw : ∃ r, f_X2_howIs 14 (nI k) M = some r := by
      rw [f_X2_howIs, cs_f p.1, s7, obd_s, s8, obd_s]
      split
      · split
        · exact ⟨_, rfl⟩
        · exact ⟨_, rfl⟩
      · exact ⟨_, rfl⟩
    obtain ⟨rw', ew⟩ := hw
    rw [f_X9_node, chk_t xg.1, xg.2.1, bnd_e, sb.f, ndc sb hk h16, obd_s, if_neg ne10, w.pl hk]
    split
    · exact ⟨rw', by rw [xg.2.2.2.1, bnd_e, cs_f p.1, ew, obd_s]⟩
    · split
      · exact ⟨_, rfl⟩
      · split
        · exact ⟨_, rfl⟩
        · split
          · exact ⟨_, rfl⟩
          · split
            · exact ⟨_, rfl⟩
            · split
              · exact ⟨_, rfl⟩
              · split
                · rw [xg.2.2.2.1, bnd_e, cs_f p.1, s9, obd_s]
                  split
                  · exact ⟨_, rfl⟩
                  · exact ⟨_, rfl⟩
                · split
                  · exact ⟨_, rfl⟩
                  · exact ⟨_, rfl⟩
theorem WJ.c28 (w : WJ M N A i Q S) (a b : Int32) : ∃ r, f_X9_arbiter 0 a b M = some r := by
  obtain ⟨X, Y, L, p, sb, xg, xr⟩ := id w.1
  have h16 := w.2.2.2.1.n16
  rcases out_in (N := N) (by omega) a with ha | ⟨k, hk, rfl⟩
  · exact ⟨-1, by rw [f_X9_arbiter, chk_t xg.1, xg.2.1, bnd_e, sb.f, ndc0 sb ha, obd_s, if_pos rfl]⟩
  · rw [f_X9_arbiter, chk_t xg.1, xg.2.1, bnd_e, sb.f, ndc sb hk h16, obd_s, if_neg ne10, w.pl hk]
    split
    · exact ⟨_, rfl⟩
    · split
      · exact ⟨_, rfl⟩
      · split
        · split
          · exact ⟨_, rfl⟩
          · exact ⟨_, rfl⟩
        · split
          · exact ⟨_, rfl⟩
          · exact ⟨_, rfl⟩
theorem WJ.c32 (w : WJ M N A i Q S) (a : Int32) : ∃ r, f_X9_handled 0 a M = some r := by
  obtain ⟨X, Y, L, p, sb, xg, xr⟩ := id w.1
  have h16 := w.2.2.2.1.n16
  rcases out_in (N := N) (by omega) a with ha | ⟨k, hk, rfl⟩
  · exact ⟨-1, by rw [f_X9_handled, chk_t xg.1, xg.2.1, bnd_e, sb.f, ndc0 sb ha, obd_s, if_pos rfl]⟩
  · rw [f_X9_handled, chk_t xg.1, xg.2.1, bnd_e, sb.f, ndc sb hk h16, obd_s, if_neg ne10, w.pl hk]
    exact ⟨_, rfl⟩
theorem WJ.c36 (w : WJ M N A i Q S) (a : Int32) : ∃ r, f_X9_unheard 0 a M = some r := by
  obtain ⟨X, Y, L, p, sb, xg, xr⟩ := id w.1
  have h16 := w.2.2.2.1.n16
  rcases out_in (N := N) (by omega) a with ha | ⟨k, hk, rfl⟩
  · exact ⟨-1, by rw [f_X9_unheard, chk_t xg.1, xg.2.1, bnd_e, sb.f, ndc0 sb ha, obd_s, if_pos rfl]⟩
  · have s8 := (has_st p (k := k) (by omega)).2.1
    generalize (if xR S 0 k = 1 then (1 : Int32) else 0) = z8 at s8
    rw [f_X9_unheard, chk_t xg.1, xg.2.1, bnd_e, sb.f, ndc sb hk h16, obd_s, if_neg ne10, xg.2.2.2.1, bnd_e, cs_f p.1, s8, obd_s]
    split
    · exact ⟨_, rfl⟩
    · have := w.pl hk (fun o => some ((mI M o 2) &&& (((mI M o 3) ||| (mI M o 5)) ^^^ (-1 : Int32))))
      rw [xg.2.2.2.1] at this
      exact ⟨_, this⟩
end
/-! ===== questions, the class: more ===== -/
theorem has_ex (x : Int32) {v : Nat} (hv : v < 32) (M : Mem) : ∃ r, f_X9_has x (nI v) M = some r := ⟨_, f_has9 x hv M⟩
theorem ahd_ex (s v s' v' : Int32) (M : Mem) : ∃ r, f_X9_isAhead s v s' v' M = some r := ⟨_, f_ah9 s v s' v' M⟩
section
variable {M : Mem} {h X Y N : Nat} {t : Int32} {Q : Nat → Int32} {S : St} {pb pt : List Row4}
theorem aw_l (p : HV M h X Y t N Q S pb pt) (h16 : N ≤ 16) {k : Nat} (hk : k < N) : ∀ (d i n : Nat) (c : Int32), i + d = N → d + 1 ≤ n → ∃ r, f_X2_awaitedBy_12 M n h (nI k) (h + 17 + 2 * k) c (nI i) = some r := by
  intro d
  have q := p.1
  induction d with
  | zero =>
    intro i n c hi hn
    obtain ⟨n, rfl⟩ : ∃ m, n = m + 1 := ⟨n - 1, by omega⟩
    exact ⟨_, by rw [f_X2_awaitedBy_12, cs_f q, cs_h0 q, bnd_e, cs_s q, p.2.2.2.2.2.1, if_pos (nI_le (by omega) (by omega))]⟩
  | succ d ih =>
    intro i n c hi hn
    obtain ⟨n, rfl⟩ : ∃ m, n = m + 1 := ⟨n - 1, by omega⟩
    obtain ⟨zh, eh⟩ := has_ex (mI M (h + 17 + 2 * k) 2 &&& (mI M (h + 17 + 2 * k) 3 ^^^ (-1 : Int32))) (v := i) (by omega) M
    rw [f_X2_awaitedBy_12, cs_f q, cs_h0 q, bnd_e, cs_s q, p.2.2.2.2.2.1, if_neg (nI_ge (by omega) (by omega)), cs_po q (show k < 16 by omega), eh, obd_s]
    split
    · rw [bnd_e, nI_1]; exact ih (i + 1) n _ (by omega) (by omega)
    · rw [cs_h2 q, bnd_e, cs_a10 q, cs_i10 q (by omega), cs_rpc q (by omega), bnd_e, cs_po q (by omega)]
      split
      · rw [bnd_e, nI_1]; exact ih (i + 1) n _ (by omega) (by omega)
      · rw [bnd_e, cs_a10 q, cs_i10 q (by omega), cs_rpc q (by omega), bnd_e, cs_po q (by omega), bnd_e, bnd_e, nI_1]
        exact ih (i + 1) n _ (by omega) (by omega)
theorem HV.aw (p : HV M h X Y t N Q S pb pt) (h16 : N ≤ 16) {k : Nat} (hk : k < N) {n : Nat} (hn : 20 ≤ n) : ∃ r, f_X2_awaitedBy n h (nI k) M = some r := by
  have q := p.1
  obtain ⟨r, e⟩ := aw_l p h16 hk N 0 n 0 (by omega) (by omega)
  exact ⟨r, by rw [f_X2_awaitedBy, cs_f q, cs_h2 q, bnd_e, cs_a10 q, cs_i10 q (by omega), cs_rpc q (by omega), bnd_e, cs_po q (by omega)]; exact e⟩
theorem ca_l (q : CS M h) {v u : Nat} (hv : v < 16) (hu : u < 16) : ∀ (d i n : Nat) (c : Int32), i + d = 16 → d + 1 ≤ n → ∃ r, f_X4_countAheadOf_4 M n (h + 17 + 2 * v) (nI u) c (nI i) = some r := by
  intro d
  induction d with
  | zero =>
    intro i n c hi hn
    obtain ⟨n, rfl⟩ : ∃ m, n = m + 1 := ⟨n - 1, by omega⟩
    exact ⟨_, by rw [f_X4_countAheadOf_4, if_pos (show (16 : Int32) ≤ nI i from nI_le (a := 16) (by omega) (by omega))]⟩
  | succ d ih =>
    intro i n c hi hn
    obtain ⟨n, rfl⟩ : ∃ m, n = m + 1 := ⟨n - 1, by omega⟩
    obtain ⟨zh, eh⟩ := has_ex (mI M (h + 17 + 2 * v) 9) (v := i) (by omega) M
    rw [f_X4_countAheadOf_4, if_neg (show ¬ (16 : Int32) ≤ nI i from nI_ge (b := 16) (by omega) (by decide)), cs_po q hv, eh, obd_s]
    split
    · rw [bnd_e, nI_1]; exact ih (i + 1) n _ (by omega) (by omega)
    · obtain ⟨za, ea⟩ := ahd_ex (mI M (h + 18 + 2 * v) (nI i).toNatClampNeg) (nI i) (mI M (h + 18 + 2 * v) (nI u).toNatClampNeg) (nI u) M
      rw [cs_pr q hv, bnd_e, cs_pa q hv, cs_pi q hv (by omega), bnd_e, cs_pa q hv, cs_pi q hv hu, ea, obd_s]
      split
      · rw [bnd_e, nI_1]; exact ih (i + 1) n _ (by omega) (by omega)
      · rw [bnd_e, bnd_e, nI_1]; exact ih (i + 1) n _ (by omega) (by omega)
theorem wa_l (q : CS M h) {v : Nat} (hv : v < 16) (a : Int32) : ∀ (d i n : Nat), i + d = 16 → d + 40 ≤ n → f_X4_waiterAt_2 M n (h + 17 + 2 * v) a (nI i) = some (-1) ∨ ∃ u, u < 16 ∧ f_X4_waiterAt_2 M n (h + 17 + 2 * v) a (nI i) = some (nI u) := by
  intro d
  induction d with
  | zero =>
    intro i n hi hn
    obtain ⟨n, rfl⟩ : ∃ m, n = m + 1 := ⟨n - 1, by omega⟩
    exact Or.inl (by rw [f_X4_waiterAt_2, if_pos (show (16 : Int32) ≤ nI i from nI_le (a := 16) (by omega) (by omega))])
  | succ d ih =>
    intro i n hi hn
    obtain ⟨n, rfl⟩ : ∃ m, n = m + 1 := ⟨n - 1, by omega⟩
    obtain ⟨r, e⟩ := ca_l q hv (u := i) (by omega) 16 0 n 0 (by omega) (by omega)
    obtain ⟨zh, eh⟩ := has_ex (mI M (h + 17 + 2 * v) 9) (v := i) (by omega) M
    have step : f_X4_waiterAt_2 M (n + 1) (h + 17 + 2 * v) a (nI i) = if zh = 0 then f_X4_waiterAt_2 M n (h + 17 + 2 * v) a (nI (i + 1)) else if r = a then some (nI i) else f_X4_waiterAt_2 M n (h + 17 + 2 * v) a (nI (i + 1)) := by
      rw [f_X4_waiterAt_2, if_neg (show ¬ (16 : Int32) ≤ nI i from nI_ge (b := 16) (by omega) (by decide)), cs_po q hv, eh, obd_s, bnd_e, nI_1, f_X4_countAheadOf, show f_X4_countAheadOf_4 M n (h + 17 + 2 * v) (nI i) 0 0 = some r from e, obd_s]
    have nx := ih (i + 1) n (by omega) (by omega)
    by_cases z0 : zh = 0
    · rw [step, if_pos z0]; exact nx
    · by_cases ra : r = a
      · exact Or.inr ⟨i, by omega, by rw [step, if_neg z0, if_pos ra]⟩
      · rw [step, if_neg z0, if_neg ra]; exact nx
theorem ka_l {d5 d6 d7 len us : Nat} (q : CS M h) (ds : DS M h d5 d6 d7 len) (hl : us ≤ len) (h9 : len ≤ 18000) : ∀ (e j n : Nat) (cs : List Nat) (x : Int32), Chn (mI M d7) x cs → (∀ c, c ∈ cs → c < us) → e < cs.length → j + e < 100000 → e + 1 ≤ n → ∃ r, f_X5_kindAt_37 M n (h + 1) (nI (j + e)) x (nI j) = some r := by
  intro e
  induction e with
  | zero =>
    intro j n cs x hc hb he hj hn
    obtain ⟨n, rfl⟩ : ∃ m, n = m + 1 := ⟨n - 1, by omega⟩
    cases cs with
    | nil => cases he
    | cons c cs =>
      have hx : x = nI c := hc.1
      have cu := hb c (by simp)
      refine ⟨_, by rw [f_X5_kindAt_37, if_pos (show nI (j + 0) ≤ nI j from Int32.le_refl _), cs_p q, ds.1.1, bnd_e, chk_t ds.2.1.1, hx, ds.2.2.1.1, chk_t (inB_n (by omega) (by omega)), f_X5_kindOf, obd_s]⟩
  | succ e ih =>
    intro j n cs x hc hb he hj hn
    obtain ⟨n, rfl⟩ : ∃ m, n = m + 1 := ⟨n - 1, by omega⟩
    cases cs with
    | nil => cases he
    | cons c cs =>
      have hx : x = nI c := hc.1
      have cu := hb c (by simp)
      rw [f_X5_kindAt_37, if_neg (nI_ge (by omega) (by omega)), cs_p q, ds.1.2.2, bnd_e, chk_t ds.2.1.2.2, hx, ds.2.2.1.2.2, chk_t (inB_n (by omega) (by omega)), bnd_e, mI_d (by omega), bnd_e, nI_1]
      have := ih (j + 1) n cs (mI M d7 c) hc.2 (fun c hc => hb c (by simp [hc])) (by simp at he; omega) (by omega) (by omega)
      rw [show j + 1 + e = j + (e + 1) by omega] at this
      exact this
theorem csi_l (q : CS M h) : ∀ (d i n : Nat) (c : Int32), i + d = 6 → d + 1 ≤ n → ∃ r, f_X5_sentInAll_4 M n (h + 1) c (nI i) = some r := by
  intro d
  induction d with
  | zero =>
    intro i n c hi hn
    obtain ⟨n, rfl⟩ : ∃ m, n = m + 1 := ⟨n - 1, by omega⟩
    exact ⟨c, by rw [f_X5_sentInAll_4, if_pos (show (6 : Int32) ≤ nI i from nI_le (a := 6) (by omega) (by omega))]⟩
  | succ d ih =>
    intro i n c hi hn
    obtain ⟨n, rfl⟩ : ∃ m, n = m + 1 := ⟨n - 1, by omega⟩
    rw [f_X5_sentInAll_4, if_neg (show ¬ (6 : Int32) ≤ nI i from nI_ge (b := 6) (by omega) (by decide)), cs_p q, cs_r6 q, bnd_e, cs_a6 q, cs_i6 q (by omega), bnd_e, bnd_e, nI_1]
    exact ih (i + 1) n _ (by omega) (by omega)
theorem te_l {l m : Nat} {xs : List Row4} (hm : m = 30 ∨ m = 40) (i1 : isO M 3 l) (r1 : mR M l 1 = l + 1) (i2 : isO M 100 (l + 1)) (n2 : mLn M (l + 1) = 4 * m) (g : LG M l m xs) (a b : Int32) : ∃ r, f_X3_tell l a b M = some r := by
  obtain ⟨g0, g2, g3, _⟩ := g
  have hh : xs.length % m < m := Nat.mod_lt _ (by omega)
  generalize xs.length % m = hd at g3 hh
  have hc : min xs.length m ≤ m := Nat.min_le_right _ _
  generalize min xs.length m = ct at g2 hc
  rw [f_X3_tell]
  split
  · exact ⟨_, by rw [chk_t i1]⟩
  · split
    · exact ⟨_, rfl⟩
    · rename_i ca
      obtain ⟨s, hs, rfl⟩ := nn_e ca
      rw [chk_t i1, g2]
      by_cases c1 : ct ≤ s
      · exact ⟨_, by rw [if_pos (nI_le c1 hs)]⟩
      · rw [if_neg (nI_ge (by omega) (by omega))]
        rcases out_in (N := 4) (by decide) b with hb | ⟨u, hu, rfl⟩
        · rcases hb with hb | hb
          · exact ⟨_, by rw [if_pos hb]⟩
          · by_cases c2 : b < 0
            · exact ⟨_, by rw [if_pos c2]⟩
            · exact ⟨_, by rw [if_neg c2, if_neg (show ¬ b < (4 : Int32) from Int32.not_lt.mpr hb)]⟩
        · rw [if_neg (show ¬ nI u < 0 from nI_nlt (b := 0) (Nat.zero_le _) (by omega)), if_pos (show nI u < (4 : Int32) from nI_lt (b := 4) hu (by decide)), g3, bnd_e, r1, bnd_e, chk_t i2]
          by_cases c2 : s + 1 ≤ hd
          · have e1 : nI hd - (1 : Int32) - nI s = nI (hd - 1 - s) := by
              rw [nI_m1' (by omega)]
              obtain ⟨z, hz⟩ : ∃ z, hd - 1 = z + s := ⟨hd - 1 - s, by omega⟩
              rw [hz, ← nI_add, show z + s - s = z by omega, Int32.add_sub_cancel]
            rw [e1, if_pos (show (0 : Int32) ≤ nI (hd - 1 - s) from nI_le (a := 0) (Nat.zero_le _) (by omega)), show (4 : Int32) = nI 4 from rfl, pk_mul, nI_add, n2, chk_t (inB_n (by omega) (by omega))]
            exact ⟨_, rfl⟩
          · have e1 : nI hd - (1 : Int32) - nI s + nI m = nI (hd + m - 1 - s) := by
              obtain ⟨z, hz⟩ : ∃ z, hd + m = z + 1 + s := ⟨hd + m - 1 - s, by omega⟩
              have e2 : nI hd + nI m = nI z + 1 + nI s := by rw [nI_add, hz, nI_1, nI_add]
              rw [show hd + m - 1 - s = z by omega]
              have e3 : nI hd - (1 : Int32) - nI s + nI m = (nI hd + nI m) - 1 - nI s := by
                simp only [Int32.sub_eq_add_neg]
                ac_rfl
              rw [e3, e2]
              simp only [Int32.sub_eq_add_neg]
              rw [show nI z + 1 + nI s + -1 + -nI s = nI z + (1 + -1) + (nI s + -nI s) by ac_rfl, show (1 : Int32) + -1 = 0 from rfl, Int32.add_right_neg, Int32.add_zero, Int32.add_zero]
            split
            · rename_i c3
              exfalso
              have : nI hd - (1 : Int32) - nI s < 0 := by
                obtain ⟨z, hz⟩ : ∃ z, s + 1 = z + hd := ⟨s + 1 - hd, by omega⟩
                have ez : 1 ≤ z := by omega
                have e4 : nI hd - (1 : Int32) - nI s = 0 - nI z := by
                  have : nI s + 1 = nI z + nI hd := by rw [nI_1, hz, nI_add]
                  have e5 : nI hd - (1 : Int32) - nI s = nI hd - (nI s + 1) := by
                    simp only [Int32.sub_eq_add_neg, Int32.neg_add]
                    ac_rfl
                  rw [e5, this]
                  simp only [Int32.sub_eq_add_neg, Int32.neg_add]
                  rw [show nI hd + (-nI z + -nI hd) = -nI z + (nI hd + -nI hd) by ac_rfl, Int32.add_right_neg, Int32.add_zero, Int32.zero_add]
                rw [e4]
                have zb : z < 64 := by omega
                have all : ∀ z, z < 64 → 1 ≤ z → (0 : Int32) - nI z < 0 := by decide +kernel
                exact all z zb ez
              exact absurd c3 (Int32.not_le.mpr this)
            · rw [g0, e1, show (4 : Int32) = nI 4 from rfl, pk_mul, nI_add, n2, chk_t (inB_n (by omega) (by omega))]
              exact ⟨_, rfl⟩
end
/-! ===== questions, the class: the calls ===== -/
theorem fl_ge {S : St} {l : Nat} (hl : l < 256) : (xL S l).length ≤ (fl S).length := by
  rw [fl_split S hl, List.length_append, List.length_append, List.length_map]; omega
section
variable {M : Mem} {N A i : Nat} {Q : Nat → Int32} {S : St}
theorem WJ.c8 (w : WJ M N A i Q S) (a b : Int32) : ∃ r, f_X9_quorum 0 a b M = some r := by
  obtain ⟨X, Y, L, p, sb, xg, xr⟩ := id w.1
  have h16 := w.2.2.2.1.n16
  have q := p.1
  rcases out_in (N := N) (by omega) a with ha | ⟨k, hk, rfl⟩
  · exact ⟨-1, by rw [f_X9_quorum, chk_t xg.1, xg.2.1, bnd_e, sb.f, ndc0 sb ha, obd_s, if_pos rfl]⟩
  · rw [f_X9_quorum, chk_t xg.1, xg.2.1, bnd_e, sb.f, ndc sb hk h16, obd_s, if_neg ne10]
    split
    · exact ⟨_, by rw [bnd_e, sb.f, sb.r2, bnd_e, sb.a2, sb.i2 (by omega)]⟩
    · split
      · exact ⟨_, by rw [xg.2.2.2.1, bnd_e, cs_f q, cs_h5 q, bnd_e, cs_a15 q, cs_i15 q (by omega)]⟩
      · split
        · exact ⟨_, w.pl hk (fun o => some (mI M o 2))⟩
        · exact ⟨_, rfl⟩
theorem WJ.c29 (w : WJ M N A i Q S) (a b c : Int32) {n : Nat} (hn : 100 ≤ n) : ∃ r, f_X9_waiting n 0 a b c M = some r := by
  obtain ⟨X, Y, L, p, sb, xg, xr⟩ := id w.1
  have h16 := w.2.2.2.1.n16
  have q := p.1
  rcases out_in (N := N) (by omega) a with ha | ⟨k, hk, rfl⟩
  · exact ⟨-1, by rw [f_X9_waiting, chk_t xg.1, xg.2.1, bnd_e, sb.f, ndc0 sb ha, obd_s, if_pos rfl]⟩
  · have k6 : k < 16 := by omega
    rw [f_X9_waiting, chk_t xg.1, xg.2.1, bnd_e, sb.f, ndc sb hk h16, obd_s, if_neg ne10]
    split
    · exact ⟨_, rfl⟩
    · split
      · rcases wa_l q k6 b 16 0 n rfl (by omega) with e | ⟨u, hu, e⟩
        · exact ⟨-1, by rw [xg.2.2.2.1, bnd_e, cs_f q, cs_h2 q, bnd_e, cs_a10 q, cs_i10 q k6, cs_rpc q k6, bnd_e, cs_po q k6, f_X4_waiterAt, show f_X4_waiterAt_2 M n (14 + 17 + 2 * k) b 0 = some (-1) from e, obd_s, if_pos rfl]⟩
        · have m1 : ¬ nI u = (-1 : Int32) := fun z => m1_ne hu z.symm
          have e' : ∀ y, (if c = 0 then some (nI u) else some (mI M (14 + 18 + 2 * k) (nI u).toNatClampNeg)) = y → (bnd (mR M 0 2) fun o13 => chk (isO M 2 o13) <| bnd (mR M o13 2) fun o16 => chk (isO M 102 o16) <| chk (inB (nI k) (mLn M o16)) <| bnd (mR M o16 (nI k).toNatClampNeg) fun o20 => chk (isO M 4 o20) <| obd (f_X4_waiterAt n o20 b M) fun r24 => if r24 = (-1 : Int32) then some (-1 : Int32) else if c = 0 then some r24 else bnd (mR M o20 10) fun o29 => chk (isO M 100 o29) <| chk (inB r24 (mLn M o29)) <| some (mI M o29 (r24).toNatClampNeg)) = y := by
            intro y hy
            rw [xg.2.2.2.1, bnd_e, cs_f q, cs_h2 q, bnd_e, cs_a10 q, cs_i10 q k6, cs_rpc q k6, bnd_e, cs_po q k6, f_X4_waiterAt, show f_X4_waiterAt_2 M n (14 + 17 + 2 * k) b 0 = some (nI u) from e, obd_s, if_neg m1, cs_pr q k6, bnd_e, cs_pa q k6, cs_pi q k6 hu]
            exact hy
          by_cases c0 : c = 0
          · exact ⟨_, e' _ (if_pos c0)⟩
          · exact ⟨_, e' _ (if_neg c0)⟩
      · exact ⟨_, rfl⟩
theorem WJ.c30 (w : WJ M N A i Q S) (hi : i ≤ 511) (a b c : Int32) {n : Nat} (hn : 10000 ≤ n) : ∃ r, f_X9_way n 0 a b c M = some r := by
  obtain ⟨X, Y, L, p, sb, xg, xr⟩ := id w.1
  have h16 := w.2.2.2.1.n16
  have fl0 := w.2.2.2.1.tfl hi
  have q := p.1
  rcases out_in (N := N) (by omega) a with ha | ⟨f, hf, rfl⟩
  · exact ⟨-1, by rw [f_X9_way, chk_t xg.1, xg.2.1, bnd_e, sb.f, ndc0 sb ha, obd_s, if_pos rfl]⟩
  · rcases out_in (N := N) (by omega) b with hb | ⟨g, hg, rfl⟩
    · exact ⟨-1, by rw [f_X9_way, chk_t xg.1, xg.2.1, bnd_e, sb.f, ndc sb hf h16, obd_s, if_neg ne10, bnd_e, sb.f, ndc0 sb hb, obd_s, if_pos rfl]⟩
    · have l6 : 16 * f + g < 256 := by omega
      rw [f_X9_way, chk_t xg.1, xg.2.1, bnd_e, sb.f, ndc sb hf h16, obd_s, if_neg ne10, bnd_e, sb.f, ndc sb hg h16, obd_s, if_neg ne10]
      split
      · exact ⟨_, by rw [xg.2.2.2.1, bnd_e, cs_f q, cs_h1 q, bnd_e, cs_p q, f_X5_countOn, cs_p q, cs_r4 q, bnd_e, cs_a4 q, c16', cs_i4 q l6, obd_s]⟩
      · obtain ⟨d5, d6, d7, len, K, fr, us, ow, pw, hK⟩ := p.2.1
        obtain ⟨ds, w1, w2, w3, w4, w5, w6, w7, w8, w9, w10⟩ := pw
        have kl : (K (16 * f + g)).length ≤ 8176 := by
          have : (K (16 * f + g)).length = (xL S (16 * f + g)).length := by rw [← hK _ l6, List.length_map]
          rw [this]
          exact Nat.le_trans (fl_ge (l := 16 * f + g) l6) fl0
        have key : ∃ r, f_X5_kindAt n (14 + 1) (nI f) (nI g) c M = some r := by
          rw [f_X5_kindAt, c16', bnd_e]
          split
          · exact ⟨_, rfl⟩
          · rename_i cn
            obtain ⟨s, hs, rfl⟩ := nn_e cn
            rw [cs_p q, cs_r4 q, bnd_e, cs_a4 q, cs_i4 q l6, mI_c (by omega), w5 _ l6]
            by_cases c2 : s < (K (16 * f + g)).length
            · rw [if_pos (nI_lt c2 (by omega)), cs_r2 q, bnd_e, cs_a2 q, cs_i2 q l6, bnd_e, mI_c (by omega)]
              have := ka_l q ds w9.2.1 w9.2.2.2.1 s 0 n ((K (16 * f + g)).map Prod.fst) (mI M (14 + 2) (16 * f + g)) (w3 _ l6) (fun c hc => by
                obtain ⟨z, hz, e⟩ := List.mem_map.mp hc
                rw [← e]; exact (w1 _ l6 z hz).1) (by rw [List.length_map]; exact c2) (by omega) (by omega)
              rw [Nat.zero_add] at this
              exact this
            · rw [if_neg (nI_nlt (by omega) (by omega))]; exact ⟨_, rfl⟩
        obtain ⟨r, e⟩ := key
        exact ⟨r, by rw [xg.2.2.2.1, bnd_e, cs_f q, cs_h1 q, bnd_e, cs_p q, e, obd_s]⟩
theorem WJ.c33 (w : WJ M N A i Q S) (a : Int32) {n : Nat} (hn : 100 ≤ n) : ∃ r, f_X9_sent n 0 a M = some r := by
  obtain ⟨X, Y, L, p, sb, xg, xr⟩ := id w.1
  have q := p.1
  obtain ⟨r, e⟩ := csi_l q 6 0 n 0 rfl (by omega)
  rcases out_in (N := 6) (by decide) a with ha | ⟨k, hk, rfl⟩
  · rw [f_X9_sent]
    split
    · exact ⟨_, rfl⟩
    · split
      · split
        · exact ⟨r, by rw [chk_t xg.1, xg.2.2.2.1, bnd_e, cs_f q, cs_h1 q, bnd_e, cs_p q, f_X5_sentInAll, show f_X5_sentInAll_4 M n (14 + 1) 0 0 = some r from e, obd_s]⟩
        · rename_i c1 c2 c3
          exfalso
          rcases ha with ha | ha
          · exact c1 ha
          · exact c3 (Int32.le_antisymm c2 ha)
      · exact ⟨_, rfl⟩
  · rw [f_X9_sent, if_neg (show ¬ nI k < 0 from nI_nlt (b := 0) (Nat.zero_le _) (by omega)), if_pos (show nI k ≤ (6 : Int32) from nI_le (b := 6) (by omega) (by decide)), if_neg (show ¬ nI k = (6 : Int32) from nI_ne (b := 6) (by omega) (by decide) (by omega))]
    exact ⟨_, by rw [chk_t xg.1, xg.2.2.2.1, bnd_e, cs_f q, cs_h1 q, bnd_e, cs_p q, cs_r6 q, bnd_e, cs_a6 q, cs_i6 q hk]⟩
theorem WJ.c34 (w : WJ M N A i Q S) (a b : Int32) : ∃ r, f_X9_book 0 a b M = some r := by
  obtain ⟨X, Y, L, p, sb, xg, xr⟩ := id w.1
  have q := p.1
  obtain ⟨i1, r1, i2, n2⟩ := cs_e11 q
  obtain ⟨r, e⟩ := te_l (Or.inl rfl) i1 r1 i2 n2 p.2.2.2.2.1.1 a b
  exact ⟨r, by rw [f_X9_book, chk_t xg.1, xg.2.2.2.1, bnd_e, cs_f q, cs_h3 q, bnd_e, chk_t i1, e, obd_s]⟩
theorem WJ.c38 (w : WJ M N A i Q S) (a b : Int32) : ∃ r, f_X9_trace 0 a b M = some r := by
  obtain ⟨X, Y, L, p, sb, xg, xr⟩ := id w.1
  have q := p.1
  obtain ⟨i1, r1, i2, n2⟩ := cs_e13 q
  obtain ⟨r, e⟩ := te_l (Or.inr rfl) i1 r1 i2 n2 p.2.2.2.2.1.2 a b
  exact ⟨r, by rw [f_X9_trace, chk_t xg.1, xg.2.2.2.1, bnd_e, cs_f q, cs_h4 q, bnd_e, chk_t i1, e, obd_s]⟩
theorem WJ.c35 (w : WJ M N A i Q S) (a : Int32) {n : Nat} (hn : 100 ≤ n) : ∃ r, f_X9_waitsFor n 0 a M = some r := by
  obtain ⟨X, Y, L, p, sb, xg, xr⟩ := id w.1
  have h16 := w.2.2.2.1.n16
  have q := p.1
  rcases out_in (N := N) (by omega) a with ha | ⟨k, hk, rfl⟩
  · exact ⟨-1, by rw [f_X9_waitsFor, chk_t xg.1, xg.2.1, bnd_e, sb.f, ndc0 sb ha, obd_s, if_pos rfl]⟩
  · have s8 := (has_st p (k := k) (by omega)).2.1
    generalize (if xR S 0 k = 1 then (1 : Int32) else 0) = z8 at s8
    obtain ⟨r, e⟩ := p.aw h16 hk (n := n) (by omega)
    rw [f_X9_waitsFor, chk_t xg.1, xg.2.1, bnd_e, sb.f, ndc sb hk h16, obd_s, if_neg ne10, xg.2.2.2.1, bnd_e, cs_f q, s8, obd_s]
    split
    · exact ⟨_, rfl⟩
    · exact ⟨r, by rw [bnd_e, cs_f q, e, obd_s]⟩
theorem cr9_l (xg : XG M) {X Y : Nat} (p : HV M 14 X Y 0 N Q S [] []) (h16 : N ≤ 16) (a : Int32) : ∀ (d j n : Nat) (x y : Int32), j + d = N → d + 1 ≤ n → ∃ r, f_X9_crowded_18 M n 0 a x y (nI j) = some r := by
  have q := p.1
  intro d
  induction d with
  | zero =>
    intro j n x y hj hn
    obtain ⟨n, rfl⟩ : ∃ m, n = m + 1 := ⟨n - 1, by omega⟩
    rw [f_X9_crowded_18, chk_t xg.1, xg.2.1, bnd_e, cs_s q, p.2.2.2.2.2.1, if_pos (nI_le (by omega) (by omega))]
    split
    · exact ⟨_, rfl⟩
    · exact ⟨_, rfl⟩
  | succ d ih =>
    intro j n x y hj hn
    obtain ⟨n, rfl⟩ : ∃ m, n = m + 1 := ⟨n - 1, by omega⟩
    have j6 : j < 16 := by omega
    obtain ⟨r, e⟩ := bc_s (mI M (14 + 17 + 2 * j) 9) M
    rw [f_X9_crowded_18, chk_t xg.1, xg.2.1, bnd_e, cs_s q, p.2.2.2.2.2.1, if_neg (nI_ge (by omega) (by omega)), xg.2.2.2.1, bnd_e, cs_f q, cs_h2 q, bnd_e, cs_a10 q, cs_i10 q j6, cs_rpc q j6, bnd_e, cs_po q j6, e, obd_s]
    split
    · rw [bnd_e, nI_1]; exact ih (j + 1) n _ _ (by omega) (by omega)
    · rw [bnd_e, nI_1]; exact ih (j + 1) n _ _ (by omega) (by omega)
theorem WJ.c37 (w : WJ M N A i Q S) (a : Int32) {n : Nat} (hn : 100 ≤ n) : ∃ r, f_X9_crowded n 0 a M = some r := by
  obtain ⟨X, Y, L, p, sb, xg, xr⟩ := id w.1
  have h16 := w.2.2.2.1.n16
  rw [f_X9_crowded]
  split
  · exact ⟨_, rfl⟩
  · split
    · exact cr9_l xg p h16 a N 0 n 0 (-1) (by omega) (by omega)
    · exact ⟨_, rfl⟩
end
/-! ===== questions, the reference: each answers ===== -/
theorem has10_ex (x : Int32) {v : Nat} (hv : v < 32) (M : Mem) : ∃ r, f_X10_has x (nI v) M = some r := ⟨_, f_has10 x hv M⟩
theorem isIn_ex (a b c : Int32) (M : Mem) : f_X10_isIn a b c M = some 0 ∨ (f_X10_isIn a b c M = some 1 ∧ ¬ a < b ∧ ¬ c < a) := by
  rw [f_X10_isIn]
  by_cases h1 : a < b
  · exact Or.inl (if_pos h1)
  · by_cases h2 : c < a
    · exact Or.inl (by rw [if_neg h1, if_pos h2])
    · exact Or.inr ⟨by rw [if_neg h1, if_neg h2], h1, h2⟩
section
variable {M : Mem} {N : Nat} {tw : Bool} {t : Int32} {S : St} {pb pt : List Row4}
/-- the test at a loop's head -/
theorem RV.hd (r : RV M tw t S pb pt) (hN : xR S 20 0 = nI N) {α : Type} (f : Int32 → Option α) : (chk (isO M 10 120) <| bnd (mR M 120 0) fun o2 => chk (isO M 100 o2) <| chk (inB (0 : Int32) (mLn M o2)) <| f (mI M o2 ((0 : Int32)).toNatClampNeg)) = f (nI N) := by
  rw [rs_f r.1, rs_0 r.1, bnd_e, rs_fa r.1, rs_c0 r.1, cl0, r.N hN]
theorem rld_l (r : RV M tw t S pb pt) (hN : xR S 20 0 = nI N) (h16 : N ≤ 16) {k : Nat} (hk : k < 32) : ∀ (d i n : Nat) (c : Int32), i + d = N → d + 1 ≤ n → ∃ x, f_X10_load_14 M n 120 (nI k) c (nI i) = some x := by
  intro d
  induction d with
  | zero =>
    intro i n c hi hn
    obtain ⟨n, rfl⟩ : ∃ m, n = m + 1 := ⟨n - 1, by omega⟩
    exact ⟨c, by rw [f_X10_load_14, rs_f r.1, rs_0 r.1, bnd_e, rs_fa r.1, rs_c0 r.1, cl0, r.N hN, if_pos (nI_le (by omega) (by omega))]⟩
  | succ d ih =>
    intro i n c hi hn
    obtain ⟨n, rfl⟩ : ∃ m, n = m + 1 := ⟨n - 1, by omega⟩
    obtain ⟨z, e⟩ := has10_ex (xR S 17 i) hk M
    rw [f_X10_load_14, rs_f r.1, rs_0 r.1, bnd_e, rs_fa r.1, rs_c0 r.1, cl0, r.N hN, if_neg (nI_ge (by omega) (by omega)), r.base (by omega), obd_s, e, obd_s]
    split
    · rw [bnd_e, bnd_e, nI_1]; exact ih (i + 1) n _ (by omega) (by omega)
    · rw [bnd_e, bnd_e, nI_1]; exact ih (i + 1) n _ (by omega) (by omega)
theorem RV.r11 (r : RV M tw t S pb pt) (hN : xR S 20 0 = nI N) (h2 : 2 ≤ N) (h16 : N ≤ 16) (a : Int32) {n : Nat} (hn : 100 ≤ n) : ∃ x, f_X10_load n 120 a M = some x := by
  rcases out_in (N := N) (by omega) a with ha | ⟨k, hk, rfl⟩
  · exact ⟨-1, by rw [f_X10_load, rs_f r.1, ndr0 r hN (by omega) h16 ha, obd_s, if_pos rfl]⟩
  · obtain ⟨x, e⟩ := rld_l r hN h16 (k := k) (by omega) N 0 n 0 (by omega) (by omega)
    exact ⟨x, by rw [f_X10_load, rs_f r.1, ndr r hN hk h16, obd_s, if_neg ne10]; exact e⟩
theorem RV.mny (r : RV M tw t S pb pt) (hB : BI N S) (h16 : N ≤ 16) {v : Nat} (hv : v < N) {n : Nat} (hn : 40 ≤ n) : ∃ x, f_X10_many n (xR S 17 v) M = some x :=
  ⟨_, f_many (fun i a b => hB v hv i (by omega) b) hn M⟩
theorem rfa_l (r : RV M tw t S pb pt) (hN : xR S 20 0 = nI N) (h2 : 2 ≤ N) (h16 : N ≤ 16) (hB : BI N S) : ∀ (d i n : Nat), i + d = N → d + 101 ≤ n → ∃ x, f_X10_fair_2 M n 120 (nI i) = some x := by
  intro d
  induction d with
  | zero =>
    intro i n hi hn
    obtain ⟨n, rfl⟩ : ∃ m, n = m + 1 := ⟨n - 1, by omega⟩
    exact ⟨1, by rw [f_X10_fair_2, rs_f r.1, rs_0 r.1, bnd_e, rs_fa r.1, rs_c0 r.1, cl0, r.N hN, if_pos (nI_le (by omega) (by omega))]⟩
  | succ d ih =>
    intro i n hi hn
    obtain ⟨n, rfl⟩ : ∃ m, n = m + 1 := ⟨n - 1, by omega⟩
    obtain ⟨x1, e1⟩ := r.mny hB h16 (v := i) (by omega) (n := n) (by omega)
    obtain ⟨x2, e2⟩ := r.mny hB h16 (v := 0) (by omega) (n := n) (by omega)
    obtain ⟨x3, e3⟩ := r.r11 hN h2 h16 (nI i) (n := n) (by omega)
    obtain ⟨x4, e4⟩ := r.r11 hN h2 h16 0 (n := n) (by omega)
    have b0 : f_X10_baseOf 120 (0 : Int32) M = some (xR S 17 0) := r.base (v := 0) (by decide)
    rw [f_X10_fair_2, rs_f r.1, rs_0 r.1, bnd_e, rs_fa r.1, rs_c0 r.1, cl0, r.N hN, if_neg (nI_ge (by omega) (by omega)), r.base (by omega), obd_s, e1, obd_s, b0, obd_s, e2, obd_s]
    split
    · rw [e3, obd_s, e4, obd_s]
      split
      · rw [bnd_e, nI_1]; exact ih (i + 1) n (by omega) (by omega)
      · exact ⟨_, rfl⟩
    · exact ⟨_, rfl⟩
theorem rsz_l (r : RV M tw t S pb pt) (hN : xR S 20 0 = nI N) (h16 : N ≤ 16) (hB : BI N S) (a : Int32) : ∀ (d i n : Nat) (x y c : Int32), i + d = N → (∀ j, 31 ≤ j → j < 32 → bt c j = false) → d + 60 ≤ n → ∃ z, f_X10_sizes_25 M n 120 a x y c (nI i) = some z := by
  intro d
  induction d with
  | zero =>
    intro i n x y c hi hc hn
    obtain ⟨n, rfl⟩ : ∃ m, n = m + 1 := ⟨n - 1, by omega⟩
    rw [f_X10_sizes_25, rs_f r.1, rs_0 r.1, bnd_e, rs_fa r.1, rs_c0 r.1, cl0, r.N hN, if_pos (nI_le (by omega) (by omega))]
    split
    · exact ⟨_, rfl⟩
    · split
      · exact ⟨_, rfl⟩
      · exact ⟨_, by rw [f_many hc (by omega) M, obd_s]⟩
  | succ d ih =>
    intro i n x y c hi hc hn
    obtain ⟨n, rfl⟩ : ∃ m, n = m + 1 := ⟨n - 1, by omega⟩
    obtain ⟨x1, e1⟩ := r.mny hB h16 (v := i) (by omega) (n := n) (by omega)
    have b := r.base (v := i) (by omega)
    have nx := fun x y => ih (i + 1) n x y (c &&& xR S 17 i) (by omega) (fun j a b => by rw [b_and, hc j a b, Bool.false_and]) (by omega)
    have e89 : ∀ x y, ∃ z, f_X10_sizes_89 (f_X10_sizes_25 M n) M n 120 a x c (nI i) y = some z := fun x y => by
      rw [f_X10_sizes_89, rs_f r.1, b, obd_s, bnd_e, bnd_e, nI_1]; exact nx x y
    have e62 : ∀ x, ∃ z, f_X10_sizes_62 (f_X10_sizes_25 M n) M n 120 a y c (nI i) x = some z := fun x => by
      rw [f_X10_sizes_62, rs_f r.1, b, obd_s, e1, obd_s]
      split
      · exact e89 _ _
      · rw [obd_s, e1, obd_s]; exact e89 _ _
    rw [f_X10_sizes_25, rs_f r.1, rs_0 r.1, bnd_e, rs_fa r.1, rs_c0 r.1, cl0, r.N hN, if_neg (nI_ge (by omega) (by omega)), b, obd_s, e1, obd_s]
    split
    · exact e62 _
    · rw [obd_s, e1, obd_s]; exact e62 _
theorem rnl_l (r : RV M tw t S pb pt) (hN : xR S 20 0 = nI N) (h16 : N ≤ 16) {k : Nat} (hk : k < N) : ∀ (d i n : Nat), i + d = N → d + 1 ≤ n → ∃ x, f_X10_isNeedless_2 M n 120 (nI k) (nI i) = some x := by
  intro d
  induction d with
  | zero =>
    intro i n hi hn
    obtain ⟨n, rfl⟩ : ∃ m, n = m + 1 := ⟨n - 1, by omega⟩
    exact ⟨0, by rw [f_X10_isNeedless_2, rs_f r.1, rs_0 r.1, bnd_e, rs_fa r.1, rs_c0 r.1, cl0, r.N hN, if_pos (nI_le (by omega) (by omega))]⟩
  | succ d ih =>
    intro i n hi hn
    obtain ⟨n, rfl⟩ : ∃ m, n = m + 1 := ⟨n - 1, by omega⟩
    have nx := ih (i + 1) n (by omega) (by omega)
    rw [f_X10_isNeedless_2, rs_f r.1, rs_0 r.1, bnd_e, rs_fa r.1, rs_c0 r.1, cl0, r.N hN, if_neg (nI_ge (by omega) (by omega)), r.base (v := i) (by omega), obd_s, r.base (v := k) (by omega), obd_s, bnd_e, nI_1]
    simp only [obd_s]
    split
    · exact nx
    · split
      · split
        · split
          · exact nx
          · exact ⟨_, rfl⟩
        · exact ⟨_, rfl⟩
      · exact nx
theorem rnc_l (r : RV M tw t S pb pt) (hN : xR S 20 0 = nI N) (h16 : N ≤ 16) : ∀ (d i n : Nat) (c : Int32), i + d = N → d + 21 ≤ n → ∃ x, f_X10_needless_4 M n 120 c (nI i) = some x := by
  intro d
  induction d with
  | zero =>
    intro i n c hi hn
    obtain ⟨n, rfl⟩ : ∃ m, n = m + 1 := ⟨n - 1, by omega⟩
    exact ⟨c, by rw [f_X10_needless_4, rs_f r.1, rs_0 r.1, bnd_e, rs_fa r.1, rs_c0 r.1, cl0, r.N hN, if_pos (nI_le (by omega) (by omega))]⟩
  | succ d ih =>
    intro i n c hi hn
    obtain ⟨n, rfl⟩ : ∃ m, n = m + 1 := ⟨n - 1, by omega⟩
    obtain ⟨z, e⟩ := rnl_l r hN h16 (k := i) (by omega) N 0 n (by omega) (by omega)
    rw [f_X10_needless_4, rs_f r.1, rs_0 r.1, bnd_e, rs_fa r.1, rs_c0 r.1, cl0, r.N hN, if_neg (nI_ge (by omega) (by omega)), f_X10_isNeedless, show f_X10_isNeedless_2 M n 120 (nI i) 0 = some z from e, obd_s]
    split
    · rw [bnd_e, bnd_e, nI_1]; exact ih (i + 1) n _ (by omega) (by omega)
    · rw [bnd_e, bnd_e, nI_1]; exact ih (i + 1) n _ (by omega) (by omega)
theorem RV.r14 (r : RV M tw t S pb pt) (hN : xR S 20 0 = nI N) (h16 : N ≤ 16) {n : Nat} (hn : 100 ≤ n) : ∃ x, f_X10_needless n 120 M = some x :=
  rnc_l r hN h16 N 0 n 0 (by omega) (by omega)
theorem RV.r17 (r : RV M tw t S pb pt) (hN : xR S 20 0 = nI N) (h16 : N ≤ 16) (hB : BI N S) (a : Int32) {n : Nat} (hn : 100 ≤ n) : ∃ x, f_X10_sizes n 120 a M = some x := by
  rw [f_X10_sizes]
  rcases isIn_ex a 0 2 M with e | ⟨e, _⟩
  · exact ⟨_, by rw [e, obd_s, if_pos rfl]⟩
  · rw [e, obd_s, if_neg ne10, rs_f r.1, f_X10_all, rs_f r.1, rs_0 r.1, bnd_e, rs_fa r.1, rs_c0 r.1, cl0, r.N hN, obd_s]
    exact rsz_l r hN h16 hB a N 0 n _ _ _ (by omega) (fun j a b => by rw [all_b h16 b, decide_eq_false (by omega)]) (by omega)
theorem RV.r19 (r : RV M tw t S pb pt) (hN : xR S 20 0 = nI N) (h2 : 2 ≤ N) (h16 : N ≤ 16) (hB : BI N S) {n : Nat} (hn : 200 ≤ n) : ∃ x, f_X10_fair n 120 M = some x :=
  rfa_l r hN h2 h16 hB (N - 1) 1 n (by omega) (by omega)
theorem fst_l {x : Int32} {k : Nat} (hk : k < 32) (hx : bt x k = true) (M : Mem) : ∀ (d i n : Nat), i + d = k → d + 1 ≤ n → ∃ z, f_X10_first_2 M n x (nI i) = some z := by
  intro d
  induction d with
  | zero =>
    intro i n hi hn
    obtain ⟨n, rfl⟩ : ∃ m, n = m + 1 := ⟨n - 1, by omega⟩
    have : i = k := by omega
    subst this
    exact ⟨nI i, by rw [f_X10_first_2, f_has10 _ hk, obd_s, if_pos hx, if_neg ne10]⟩
  | succ d ih =>
    intro i n hi hn
    obtain ⟨n, rfl⟩ : ∃ m, n = m + 1 := ⟨n - 1, by omega⟩
    obtain ⟨z, e⟩ := has10_ex x (v := i) (by omega) M
    rw [f_X10_first_2, e, obd_s]
    split
    · rw [bnd_e, nI_1]; exact ih (i + 1) n (by omega) (by omega)
    · exact ⟨_, rfl⟩
theorem RV.r9 (r : RV M tw t S pb pt) (hN : xR S 20 0 = nI N) (h2 : 2 ≤ N) (h16 : N ≤ 16) (a b : Int32) {n : Nat} (hn : 100 ≤ n) : ∃ x, f_X10_meeting n 120 a b M = some x := by
  rcases out_in (N := N) (by omega) a with ha | ⟨k, hk, rfl⟩
  · exact ⟨-1, by rw [f_X10_meeting, rs_f r.1, ndr0 r hN (by omega) h16 ha, obd_s, if_pos rfl]⟩
  · rcases out_in (N := N) (by omega) b with hb | ⟨m, hm, rfl⟩
    · exact ⟨-1, by rw [f_X10_meeting, rs_f r.1, ndr r hN hk h16, obd_s, if_neg ne10, ndr0 r hN (by omega) h16 hb, obd_s, if_pos rfl]⟩
    · rw [f_X10_meeting, rs_f r.1, ndr r hN hk h16, obd_s, if_neg ne10, ndr r hN hm h16, obd_s, if_neg ne10, r.base (by omega), obd_s, r.base (by omega), obd_s, bnd_e]
      by_cases z : xR S 17 k &&& xR S 17 m = 0
      · exact ⟨_, if_pos z⟩
      · rw [if_neg z]
        obtain ⟨j, hj, bj⟩ : ∃ j, j < 32 ∧ bt (xR S 17 k &&& xR S 17 m) j = true := by
          apply Classical.byContradiction
          intro c
          apply z
          rw [bt_z]
          intro i hi
          cases q : bt (xR S 17 k &&& xR S 17 m) i with
          | false => rfl
          | true => exact absurd ⟨i, hi, q⟩ c
        obtain ⟨x, e⟩ := fst_l hj bj M j 0 n (by omega) (by omega)
        exact ⟨x, by rw [f_X10_first, show f_X10_first_2 M n (xR S 17 k &&& xR S 17 m) 0 = some x from e, obd_s]⟩
theorem RV.r27 (r : RV M tw t S pb pt) (hN : xR S 20 0 = nI N) (h2 : 2 ≤ N) (h16 : N ≤ 16) (a b : Int32) : ∃ x, f_X10_node 120 a b M = some x := by
  rcases out_in (N := N) (by omega) a with ha | ⟨k, hk, rfl⟩
  · exact ⟨-1, by rw [f_X10_node, rs_f r.1, ndr0 r hN (by omega) h16 ha, obd_s, if_pos rfl]⟩
  · have k6 : k < 16 := by omega
    have c0 : f_X10_countOf 120 (nI k) (0 : Int32) M = some (xR S (12 + 0) k) := r.cnt k6 (w := 0) (by decide)
    rw [f_X10_node, rs_f r.1, ndr r hN hk h16, obd_s, if_neg ne10, r.get0 k6, obd_s, r.get1 k6, obd_s, r.get2 k6, obd_s, r.get4 k6, obd_s, r.get5 k6, obd_s, r.get6 k6, obd_s, r.get7 k6, obd_s, c0, obd_s]
    repeat' split
    all_goals exact ⟨_, rfl⟩
theorem RV.r28 (r : RV M tw t S pb pt) (hN : xR S 20 0 = nI N) (h2 : 2 ≤ N) (h16 : N ≤ 16) (a b : Int32) : ∃ x, f_X10_arbiter 120 a b M = some x := by
  rcases out_in (N := N) (by omega) a with ha | ⟨k, hk, rfl⟩
  · exact ⟨-1, by rw [f_X10_arbiter, rs_f r.1, ndr0 r hN (by omega) h16 ha, obd_s, if_pos rfl]⟩
  · have k6 : k < 16 := by omega
    rw [f_X10_arbiter, rs_f r.1, ndr r hN hk h16, obd_s, if_neg ne10, r.of0 k6, obd_s, obd_s, r.of1 k6, obd_s, r.of2 k6, obd_s, r.of3 k6, obd_s]
    repeat' split
    all_goals exact ⟨_, rfl⟩
theorem RV.r32 (r : RV M tw t S pb pt) (hN : xR S 20 0 = nI N) (h2 : 2 ≤ N) (h16 : N ≤ 16) (a : Int32) : ∃ x, f_X10_handled 120 a M = some x := by
  rcases out_in (N := N) (by omega) a with ha | ⟨k, hk, rfl⟩
  · exact ⟨-1, by rw [f_X10_handled, rs_f r.1, ndr0 r hN (by omega) h16 ha, obd_s, if_pos rfl]⟩
  · exact ⟨_, by rw [f_X10_handled, rs_f r.1, ndr r hN hk h16, obd_s, if_neg ne10, rs_0 r.1, bnd_e, rs_fa r.1, show (10193 : Int32) + nI k = nI (10193 + k) by rw [show (10193 : Int32) = nI 10193 from rfl, nI_add], rs_c r.1 (by omega)]⟩
theorem RV.r36 (r : RV M tw t S pb pt) (hN : xR S 20 0 = nI N) (h2 : 2 ≤ N) (h16 : N ≤ 16) (a : Int32) : ∃ x, f_X10_unheard 120 a M = some x := by
  rcases out_in (N := N) (by omega) a with ha | ⟨k, hk, rfl⟩
  · exact ⟨-1, by rw [f_X10_unheard, rs_f r.1, ndr0 r hN (by omega) h16 ha, obd_s, if_pos rfl]⟩
  · have k6 : k < 16 := by omega
    rw [f_X10_unheard, rs_f r.1, ndr r hN hk h16, obd_s, if_neg ne10, r.get0 k6, obd_s, r.get3 k6, obd_s, r.get4 k6, obd_s, r.get6 k6, obd_s]
    split
    · exact ⟨_, rfl⟩
    · exact ⟨_, rfl⟩
theorem rsa_l (q : RS M) : ∀ (d i n : Nat) (c : Int32), i + d = 6 → d + 1 ≤ n → ∃ x, f_X10_sentAll_4 M n 120 c (nI i) = some x := by
  intro d
  induction d with
  | zero =>
    intro i n c hi hn
    obtain ⟨n, rfl⟩ : ∃ m, n = m + 1 := ⟨n - 1, by omega⟩
    exact ⟨c, by rw [f_X10_sentAll_4, if_pos (show (6 : Int32) ≤ nI i from nI_le (a := 6) (by omega) (by omega))]⟩
  | succ d ih =>
    intro i n c hi hn
    obtain ⟨n, rfl⟩ : ∃ m, n = m + 1 := ⟨n - 1, by omega⟩
    rw [f_X10_sentAll_4, if_neg (show ¬ (6 : Int32) ≤ nI i from nI_ge (b := 6) (by omega) (by decide)), rs_f q, rs_0 q, bnd_e, rs_fa q, show (9859 : Int32) + nI i = nI (9859 + i) by rw [show (9859 : Int32) = nI 9859 from rfl, nI_add], rs_c q (by omega), bnd_e, bnd_e, nI_1]
    exact ih (i + 1) n _ (by omega) (by omega)
theorem RV.r33 (r : RV M tw t S pb pt) (a : Int32) {n : Nat} (hn : 100 ≤ n) : ∃ x, f_X10_sent n 120 a M = some x := by
  obtain ⟨z, e⟩ := rsa_l r.1 6 0 n 0 rfl (by omega)
  rw [f_X10_sent]
  split
  · exact ⟨z, by rw [rs_f r.1, f_X10_sentAll, show f_X10_sentAll_4 M n 120 0 0 = some z from e, obd_s]⟩
  · rcases out_in (N := 6) (by decide) a with ha | ⟨k, hk, rfl⟩
    · exact ⟨_, by rw [show f_X10_isIn a (0 : Int32) (5 : Int32) M = some 0 by
        rw [f_X10_isIn]
        by_cases c : a < 0
        · rw [if_pos c]
        · rw [if_neg c, if_pos (show (5 : Int32) < a from gt3 (N := 5) (by decide) (ha.resolve_left c))], obd_s, if_pos rfl]⟩
    · exact ⟨_, by rw [show f_X10_isIn (nI k) (0 : Int32) (5 : Int32) M = some 1 from f_isI (b := 5) M (by omega) (by decide), obd_s, if_neg ne10, rs_f r.1, rs_0 r.1, bnd_e, rs_fa r.1, show (9859 : Int32) + nI k = nI (9859 + k) by rw [show (9859 : Int32) = nI 9859 from rfl, nI_add], rs_c r.1 (by omega)]⟩
end
