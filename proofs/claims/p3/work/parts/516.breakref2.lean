/-! ===== a node breaks: the reference forgets it, goes on without it ===== -/
theorem uW_uW (S : St) (a : Nat) (u w : List Wtr) : uW (uW S a u) a w = uW S a w := by
  unfold uW
  refine Prod.ext rfl (Prod.ext ?_ rfl)
  funext b
  show up1 (up1 S.2.1 a u) a w b = up1 S.2.1 a w b
  unfold up1
  by_cases e : b = a
  · rw [if_pos e, if_pos e]
  · rw [if_neg e, if_neg e, if_neg e]
theorem fgr_l {tw : Bool} {t : Int32} {pb pt : List Row4} {a x : Nat} (ha : a < 16) (hx : x < 16) : ∀ (d : Nat) (pre suf : List Wtr) (M : Mem) (S : St) (n : Nat), pre.length = d → RV M tw t S pb pt → xW S a = pre ++ suf → (∀ w, w ∈ pre → w.1 < 16) → d + 60 ≤ n → ∃ M', f_X10_forgotten_25 n 120 (nI a) (nI x) (nI pre.length - 1) M = some M' ∧ RV M' tw t (uW S a ((pre.filter fun w => !decide (w.1 = x)) ++ suf)) pb pt ∧ Fr PA M M' := by
  intro d
  induction d with
  | zero =>
    intro pre suf M S n hd h hw hp hn
    have : pre = [] := List.length_eq_zero_iff.mp hd
    subst this
    obtain ⟨n, rfl⟩ : ∃ m, n = m + 1 := ⟨n - 1, by omega⟩
    refine ⟨M, by rw [f_X10_forgotten_25, if_pos (by decide)], ?_, Fr.rf _ _⟩
    show RV M tw t (uW S a ([] ++ suf)) pb pt
    rw [← hw, uW_id]
    exact h
  | succ d ih =>
    intro pre suf M S n hd h hw hp hn
    obtain ⟨n, rfl⟩ : ∃ m, n = m + 1 := ⟨n - 1, by omega⟩
    rcases nil_app pre with z | ⟨p, z, e⟩
    · rw [z] at hd; cases hd
    subst e
    have hpl : p.length = d := by rw [List.length_append, List.length_singleton] at hd; omega
    have hz := hp z (by simp)
    have hp' : ∀ q, q ∈ p → q.1 < 16 := fun q hq => hp q (by simp [hq])
    have hwl := h.wl ha
    have l20 : p.length < 20 := by rw [hw, List.length_append, List.length_append, List.length_singleton] at hwl; omega
    have e0 : nI (p.length + 1) - (1 : Int32) = nI p.length := nI_pred p.length
    have em : nI p.length + (-1 : Int32) = nI p.length - 1 := (Int32.sub_eq_add_neg _ _).symm
    have wn := h.wn (a := a) (i := p.length) ha l20
    have vz : mI M 121 (150 + 44 * a + 2 * p.length) = nI z.1 := ((h.2.2.2.1 a ha).2.2.1 p.length z (by rw [hw]; simp)).1
    rw [vz] at wn
    have fe : (p ++ [z]).filter (fun w : Wtr => !decide (w.1 = x)) = p.filter (fun w => !decide (w.1 = x)) ++ [z].filter (fun w => !decide (w.1 = x)) := List.filter_append _ _
    rw [List.length_append, List.length_singleton, e0, f_X10_forgotten_25, if_neg (nI_pos (by omega)), rs_f h.1, wn, obd_s, fe]
    by_cases c : z.1 = x
    · obtain ⟨M1, e1, h1, f1⟩ := h.go (n := n) ha (p := p) (q := suf) (x := z) (by rw [hw]; simp) (by omega)
      obtain ⟨M', e', h', f'⟩ := ih p suf M1 (uW S a (p ++ suf)) n hpl h1 (by rw [xW_uW, if_pos rfl]) hp' (by omega)
      rw [uW_uW] at h'
      have kz : (!decide (z.1 = x)) = false := by rw [decide_eq_true c]; rfl
      refine ⟨M', ?_, by rw [show [z].filter (fun w : Wtr => !decide (w.1 = x)) = [] by simp [c], List.append_nil]; exact h', Fr.tr (f1.toFr) f'⟩
      rw [if_pos (by rw [c]), e1, obd_s, bnd_e, em]
      exact e'
    · obtain ⟨M', e', h', f'⟩ := ih p (z :: suf) M S n hpl h (by rw [hw]; simp) hp' (by omega)
      refine ⟨M', ?_, by rw [show [z].filter (fun w : Wtr => !decide (w.1 = x)) = [z] by simp [c]]; simpa using h', f'⟩
      rw [if_neg (nI_ne (by omega) (by omega) c), bnd_e, em]
      exact e'
theorem RV.tfgt {M : Mem} {tw : Bool} {t : Int32} {S : St} {pb pt : List Row4} (h : RV M tw t S pb pt) {a x : Nat} (ha : a < 16) (hx : x < 16) (hlen : (fl S).length < 9000) (hw : ∀ w, w ∈ xW S a → w.1 < 16) {n : Nat} (hn : 9100 ≤ n) : ∃ M', f_X10_forgotten n 120 (nI a) (nI x) M = some M' ∧ RV M' tw t (fgt t a x S) pb pt ∧ Fr PA M M' := by
  unfold fgt
  rw [f_X10_forgotten, rs_f h.1, h.of0 ha, obd_s]
  by_cases c : xR S 8 a = nI x
  · rw [if_pos c, if_pos c]
    obtain ⟨M', e, h', f⟩ := h.tgF ha hlen hw hn
    exact ⟨M', by rw [e, obd_s], h', f⟩
  · rw [if_neg c, if_neg c, h.of3 ha, obd_s, bnd_e]
    have hwl := h.wl ha
    obtain ⟨M', e, h', f⟩ := fgr_l ha hx (xW S a).length (xW S a) [] M S n rfl h (by simp) hw (by omega)
    rw [List.append_nil] at h'
    exact ⟨M', e, h', f⟩
theorem RV.tgdw {M : Mem} {tw : Bool} {t : Int32} {S : St} {pb pt : List Row4} (h : RV M tw t S pb pt) {N : Nat} (hN : xR S 20 0 = nI N) (h16 : N ≤ 16) (ht : xR S 20 1 = 1 → N % 2 = 1) {x w : Nat} (hw : w < N) (hx : x < N) (hl : (fl S).length + 2 * N ≤ 9000) {n : Nat} (hn : 9300 ≤ n) : ∃ M', f_X10_goWithout n 120 (nI w) (nI x) M = some M' ∧ RV M' tw t (gdw t N x w S) pb pt ∧ Fr PA M M' := by
  have w6 : w < 16 := by omega
  rw [f_X10_goWithout, rs_f h.1, h.get3 w6, obd_s, f_without, obd_s, h.get0 w6, obd_s]
  unfold gdw
  by_cases c : xR S 0 w = 2
  · rw [if_pos c, if_pos c, h.let3 w6, obd_s]
    exact ⟨_, rfl, h.st (vk_n (k := 3) (by decide) w6) _, Fr.tad⟩
  · rw [if_neg c, if_neg c, h.get2 w6, obd_s, h.bro hN h16 (by omega), obd_s]
    obtain ⟨M1, e1, h1, f1⟩ := h.tsA (n := n) hN h16 (k := 5) (f := w) (by decide) w6 (bof (xR S 3 w) x &&& (bkm N S ^^^ (-1 : Int32))) (xR S 2 w) (by omega) (by omega)
    have len1 : (fl (sA t N 5 w (bof (xR S 3 w) x &&& (bkm N S ^^^ (-1 : Int32))) (xR S 2 w) S)).length ≤ (fl S).length + N := by
      have := sAl_len t (k := 5) w6 (bof (xR S 3 w) x &&& (bkm N S ^^^ (-1 : Int32))) (xR S 2 w) (List.range N) S (fun v hv => by have := List.mem_range.mp hv; omega)
      rw [List.length_range] at this
      exact this
    have r20 : ∀ i, xR (sA t N 5 w (bof (xR S 3 w) x &&& (bkm N S ^^^ (-1 : Int32))) (xR S 2 w) S) 20 i = xR S 20 i := fun i => sA_R (by decide)
    generalize hS1 : sA t N 5 w (bof (xR S 3 w) x &&& (bkm N S ^^^ (-1 : Int32))) (xR S 2 w) S = S1 at h1 len1 r20
    obtain ⟨M2, e2, h2, f2⟩ := h1.trst (n := n) w6 (by omega)
    have q20 : ∀ i, xR (rst w S1) 20 i = xR S 20 i := fun i => by rw [rst_R, if_neg (by omega), r20]
    obtain ⟨M3, e3, h3, f3⟩ := h2.can (n := n) (by rw [q20]; exact hN) h16 (by rw [q20]; exact ht) w6 (by omega)
    rw [show (5 : Int32) = nI 5 from rfl, e1, obd_s, rs_f h1.1, e2, obd_s, rs_f h2.1, e3, obd2_s]
    have F3 : Fr PA M M3 := Fr.tr f1 (Fr.tr f2 (f3.mo P2_A))
    by_cases d : mayA N w (rst w S1) = true
    · rw [if_pos d, if_neg ne10, if_pos d]
      obtain ⟨M4, e4, h4, f4⟩ := h3.tak (n := n) (by rw [q20]; exact hN) h16 (by rw [q20]; exact ht) w6 (by show (fl S1).length + N ≤ 9000; omega) (by omega)
      exact ⟨M4, by rw [rs_f h3.1, e4, obd_s], h4, Fr.tr F3 f4⟩
    · rw [if_neg d, if_pos rfl, if_neg d]
      exact ⟨M3, rfl, h3, F3⟩
theorem br97 {tw : Bool} {t : Int32} {pb pt : List Row4} {N : Nat} (h16 : N ≤ 16) {x : Nat} (hx : x < N) : ∀ (d i n : Nat) (M : Mem) (S : St), RV M tw t S pb pt → xR S 20 0 = nI N → (xR S 20 1 = 1 → N % 2 = 1) → i + d = N → (fl S).length + 2 * N * d ≤ 9000 → d + 9301 ≤ n → ∃ M', f_X10_breakDown_97 n 120 (nI x) (nI i) M = some (1, M') ∧ RV M' tw t (gdl t N x (List.range' i d) S) pb pt ∧ Fr PA M M' := by
  intro d
  induction d with
  | zero =>
    intro i n M S h hN ht hi hl hn
    obtain ⟨n, rfl⟩ : ∃ m, n = m + 1 := ⟨n - 1, by omega⟩
    refine ⟨M, ?_, h, Fr.rf _ _⟩
    rw [f_X10_breakDown_97, rs_f h.1, rs_0 h.1, bnd_e, rs_fa h.1, rs_c0 h.1, cl0, h.N hN, if_pos (nI_le (by omega) (by omega))]
  | succ d ih =>
    intro i n M S h hN ht hi hl hn
    obtain ⟨n, rfl⟩ : ∃ m, n = m + 1 := ⟨n - 1, by omega⟩
    have i6 : i < 16 := by omega
    rw [Nat.mul_succ] at hl
    unfold gdl
    rw [List.range'_succ, List.foldl_cons]
    have e0 : ∀ y, (if nI i = nI x then f_X10_breakDown_97 n 120 (nI x) (nI (i + 1)) M else if (if bt (xR S 3 i) x = true then (1 : Int32) else 0) = 0 then f_X10_breakDown_97 n 120 (nI x) (nI (i + 1)) M else obd (f_X10_goWithout n 120 (nI i) (nI x) M) fun M21 => f_X10_breakDown_97 n 120 (nI x) (nI (i + 1)) M21) = y → f_X10_breakDown_97 (n + 1) 120 (nI x) (nI i) M = y := by
      intro y hy
      rw [f_X10_breakDown_97, rs_f h.1, rs_0 h.1, bnd_e, rs_fa h.1, rs_c0 h.1, cl0, h.N hN, if_neg (nI_ge (by omega) (by omega)), bnd_e, nI_1, h.get3 i6, obd_s, f_has10 _ (by omega), obd_s]
      exact hy
    by_cases c : i = x
    · rw [if_pos c]
      obtain ⟨M', e', h', f'⟩ := ih (i + 1) n M S h hN ht (by omega) (by omega) (by omega)
      unfold gdl at h'
      exact ⟨M', e0 _ (by rw [if_pos (by rw [c])]; exact e'), h', f'⟩
    · rw [if_neg c]
      have nc := nI_ne (a := i) (b := x) (by omega) (by omega) c
      by_cases b : bt (xR S 3 i) x = true
      · rw [if_pos b]
        obtain ⟨M1, e1, h1, f1⟩ := h.tgdw (n := n) hN h16 ht (x := x) (w := i) (by omega) hx (by omega) (by omega)
        have l1 := gdw_len (t := t) (N := N) (x := x) (w := i) (S := S) h16 (by omega)
        obtain ⟨M', e', h', f'⟩ := ih (i + 1) n M1 _ h1 (by rw [gdw_Rk (by omega)]; exact hN) (by rw [gdw_Rk (by omega)]; exact ht) (by omega) (by omega) (by omega)
        unfold gdl at h'
        refine ⟨M', e0 _ ?_, h', Fr.tr f1 f'⟩
        rw [if_neg nc, if_pos b, if_neg ne10, e1, obd_s]
        exact e'
      · rw [if_neg b]
        obtain ⟨M', e', h', f'⟩ := ih (i + 1) n M S h hN ht (by omega) (by omega) (by omega)
        unfold gdl at h'
        refine ⟨M', e0 _ ?_, h', f'⟩
        rw [if_neg nc, if_neg b, if_pos rfl]
        exact e'
theorem br68 {tw : Bool} {t : Int32} {pb pt : List Row4} {N A : Nat} (h16 : N ≤ 16) {x : Nat} (hx : x < N) : ∀ (d i n : Nat) (M : Mem) (S : St), RV M tw t S pb pt → xR S 20 0 = nI N → i + d = N → Fg N A x i S → (fl S).length + d < 9000 → d + 9301 ≤ n → ∃ M' n', f_X10_breakDown_68 n 120 (nI x) (nI i) M = f_X10_breakDown_97 n' 120 (nI x) (0 : Int32) M' ∧ n ≤ n' + d + 1 ∧ RV M' tw t (fgl t x (List.range' i d) S) pb pt ∧ Fr PA M M' := by
  intro d
  induction d with
  | zero =>
    intro i n M S h hN hi hF hl hn
    obtain ⟨n, rfl⟩ : ∃ m, n = m + 1 := ⟨n - 1, by omega⟩
    refine ⟨M, n, ?_, by omega, h, Fr.rf _ _⟩
    rw [f_X10_breakDown_68, rs_f h.1, rs_0 h.1, bnd_e, rs_fa h.1, rs_c0 h.1, cl0, h.N hN, if_pos (nI_le (by omega) (by omega))]
  | succ d ih =>
    intro i n M S h hN hi hF hl hn
    obtain ⟨n, rfl⟩ : ∃ m, n = m + 1 := ⟨n - 1, by omega⟩
    obtain ⟨g1, g2, g3⟩ := hF i (Nat.le_refl _) (by omega)
    have w16 : ∀ w, w ∈ xW S i → w.1 < 16 := fun w hw => by have := (g1.2.2 w hw).1; omega
    unfold fgl
    rw [List.range'_succ, List.foldl_cons]
    rw [f_X10_breakDown_68, rs_f h.1, rs_0 h.1, bnd_e, rs_fa h.1, rs_c0 h.1, cl0, h.N hN, if_neg (nI_ge (by omega) (by omega))]
    by_cases c : i = x
    · rw [if_pos (by rw [c]), bnd_e, nI_1, if_pos c]
      obtain ⟨M', n', e', hn', h', f'⟩ := ih (i + 1) n M S h hN (by omega) (fun a h1 h2 => hF a (by omega) h2) (by omega) (by omega)
      unfold fgl at h'
      exact ⟨M', n', e', by omega, h', f'⟩
    · rw [if_neg (nI_ne (by omega) (by omega) c), if_neg c]
      obtain ⟨M1, e1, h1, f1⟩ := h.tfgt (n := n) (a := i) (x := x) (by omega) (by omega) (by omega) w16 (by omega)
      have l1 := fgt_len (t := t) (a := i) (x := x) (S := S) (by omega) w16
      obtain ⟨M', n', e', hn', h', f'⟩ := ih (i + 1) n M1 _ h1 (by rw [fgt_R (by omega) (by decide)]; exact hN) (by omega) hF.s (by omega) (by omega)
      unfold fgl at h'
      exact ⟨M', n', by rw [e1, obd_s, bnd_e, nI_1, e'], by omega, h', Fr.tr f1 f'⟩
theorem br48 {tw : Bool} {t : Int32} {pb pt : List Row4} {x : Nat} (hx : x < 16) : ∀ (d n : Nat) (M : Mem) (S : St), RV M tw t S pb pt → (xW S x).length = d → d + 60 ≤ n → ∃ M' n', f_X10_breakDown_48 n 120 (nI x) M = f_X10_breakDown_68 n' 120 (nI x) (0 : Int32) M' ∧ n ≤ n' + d + 1 ∧ RV M' tw t (uW S x []) pb pt ∧ Fr PA M M' := by
  intro d
  induction d with
  | zero =>
    intro n M S h hd hn
    obtain ⟨n, rfl⟩ : ∃ m, n = m + 1 := ⟨n - 1, by omega⟩
    have : xW S x = [] := List.length_eq_zero_iff.mp hd
    refine ⟨M, n, ?_, by omega, ?_, Fr.rf _ _⟩
    · rw [f_X10_breakDown_48, rs_f h.1, h.of3 hx, obd_s, this, if_pos (by decide)]
    · rw [← this, uW_id]; exact h
  | succ d ih =>
    intro n M S h hd hn
    obtain ⟨n, rfl⟩ : ∃ m, n = m + 1 := ⟨n - 1, by omega⟩
    have hwl := h.wl hx
    cases hw : xW S x with
    | nil => rw [hw] at hd; cases hd
    | cons w r =>
      rw [hw, List.length_cons] at hd
      obtain ⟨M1, e1, h1, f1⟩ := h.go (n := n) hx (p := []) (q := r) (x := w) (by rw [hw]; rfl) (by omega)
      obtain ⟨M', n', e', hn', h', f'⟩ := ih n M1 (uW S x ([] ++ r)) h1 (by rw [xW_uW, if_pos rfl, List.nil_append]; omega) (by omega)
      rw [uW_uW] at h'
      refine ⟨M', n', ?_, by omega, h', Fr.tr f1.toFr f'⟩
      rw [hw] at hwl
      rw [f_X10_breakDown_48, rs_f h.1, h.of3 hx, obd_s, hw, if_neg (by
        rw [List.length_cons]
        exact nI_ge (a := 0) (by omega) (by rw [List.length_cons] at hwl; omega))]
      show obd (f_X10_goWaiting n 120 (nI x) (nI ([] : List Wtr).length) M) _ = _
      rw [e1, obd_s, e']
theorem RV.tbd {M : Mem} {tw : Bool} {t : Int32} {S : St} {pb pt : List Row4} (h : RV M tw t S pb pt) {N A : Nat} (hI : Inv N A S) (hN : xR S 20 0 = nI N) (h16 : N ≤ 16) (ht : xR S 20 1 = 1 → N % 2 = 1) {x : Nat} (hx : x < N) (h0 : xR S 0 x = 0) (h7 : xR S 7 x = 0) (hl : (fl S).length + N + 2 * N * N < 9000) (hnd : f_X10_isNode 120 (nI x) M = some 1) {n : Nat} (hn : 19000 ≤ n) : ∃ M', f_X10_breakDown n 120 (nI x) M = some (1, M') ∧ RV M' tw t (bd t N x S) pb pt ∧ Fr PA M M' := by
  have x6 : x < 16 := by omega
  have h1 := h.st (vk_n (k := 7) (by decide) x6) 1
  generalize hM1 : sI M 121 (ad 7 x) 1 = M1 at h1
  have F1 : Fr PA M M1 := by rw [← hM1]; exact Fr.tad
  obtain ⟨M2, e2, h2, f2⟩ := h1.tdrp (n := n) x6 (by omega)
  obtain ⟨M3, e3, h3, f3⟩ := h2.tnob x6
  have hW := (hI.2.2.2.2.2.1 x x6).1.len
  obtain ⟨M4, n4, e4, hn4, h4, f4⟩ := br48 x6 (xW S x).length n M3 _ h3 rfl (by omega)
  have h4' : RV M4 tw t (b0 x S) pb pt := h4
  have r20 : ∀ i, xR (b0 x S) 20 i = xR S 20 i := fun i => by rw [b0_R, if_neg (by omega), if_neg (by omega), if_neg (by omega)]
  have F0 := b0_Fg hI h16 hx
  have l0 := b0_len (x := x) (S := S)
  obtain ⟨M5, n5, e5, hn5, h5, f5⟩ := br68 (A := A) h16 hx N 0 n4 M4 _ h4' (by rw [r20]; exact hN) (by omega) F0 (by omega) (by omega)
  have l5 := fgl_len (t := t) (A := A) (x := x) h16 N 0 (b0 x S) (by omega) F0
  have s20 : ∀ i, xR (fgl t x (List.range' 0 N) (b0 x S)) 20 i = xR S 20 i := fun i => by rw [fgl_R (by omega), r20]
  obtain ⟨M6, e6, h6, f6⟩ := br97 h16 hx N 0 n5 M5 _ h5 (by rw [s20]; exact hN) (by rw [s20]; exact ht) (by omega) (by omega) (by omega)
  refine ⟨M6, ?_, ?_, Fr.tr F1 (Fr.tr f2 (Fr.tr f3 (Fr.tr f4 (Fr.tr f5 f6))))⟩
  · rw [f_X10_breakDown, rs_f h.1, hnd, obd_s, if_neg ne10, h.get0 x6, obd_s, if_pos h0, h.get7 x6, obd_s, h7, if_neg ne01, h.let7 x6, hM1, obd_s, rs_f h1.1, e2, obd_s, rs_f h2.1, e3, obd_s, e4, show (0 : Int32) = nI 0 from rfl, e5, show (0 : Int32) = nI 0 from rfl, e6]
  · unfold bd
    rw [List.range_eq_range']
    exact h6
