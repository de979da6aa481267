/-! ===== the moves of the reference ===== -/
theorem RV.cg {M M' : Mem} {tw : Bool} {t : Int32} {S : St} {pb pt : List Row4} (h : RV M tw t S pb pt) (e1 : M'.1 = M.1) (e2 : mI M' 120 3 = mI M 120 3) (e3 : ∀ b, mI M' 121 b = mI M 121 b) (e4 : ∀ b, mI M' 123 b = mI M 123 b) : RV M' tw t S pb pt := by
  obtain ⟨hS, ht, hA, hw, hl, hb1, hb2⟩ := h
  exact ⟨hS.e e1, e2.trans ht, fun k i hv => (e3 _).trans (hA k i hv), hw.cg (fun b _ _ => e3 b) rfl, ⟨(e3 _).trans hl.1, hl.2.1, hl.2.2.cg fun j _ _ => ⟨e3 _, e4 _⟩⟩, hb1.cg (e3 _) (fun b _ _ => e3 b), hb2.cg (e3 _) (fun b _ _ => e3 b)⟩
/-- what steps and moves leave as it is -/
def FrM (M M' : Mem) : Prop := M'.1 = M.1 ∧ (∀ o, ¬ (120 ≤ o ∧ o ≤ 124) → ∀ k, mI M' o k = mI M o k) ∧ (∀ k, k ≠ 6 → mI M' 120 k = mI M 120 k) ∧ (∀ o k, mL M' o k = mL M o k)
theorem FrM.rf (M : Mem) : FrM M M := ⟨rfl, fun _ _ _ => rfl, fun _ _ => rfl, fun _ _ => rfl⟩
theorem FrM.tr {M M' M'' : Mem} (h : FrM M M') (h' : FrM M' M'') : FrM M M'' :=
  ⟨h'.1.trans h.1, fun o q k => (h'.2.1 o q k).trans (h.2.1 o q k), fun k q => (h'.2.2.1 k q).trans (h.2.2.1 k q), fun o k => (h'.2.2.2 o k).trans (h.2.2.2 o k)⟩
/-- and a draw -/
def FrG (M M' : Mem) : Prop := M'.1 = M.1 ∧ (∀ o, ¬ (120 ≤ o ∧ o ≤ 124) → ∀ k, mI M' o k = mI M o k) ∧ (∀ k, k ≠ 6 → mI M' 120 k = mI M 120 k) ∧ (∀ o k, ¬ (o = 120 ∧ k = 8) → mL M' o k = mL M o k)
theorem FrM.G {M M' : Mem} (h : FrM M M') : FrG M M' := ⟨h.1, h.2.1, h.2.2.1, fun o k _ => h.2.2.2 o k⟩
theorem FrG.rf (M : Mem) : FrG M M := (FrM.rf M).G
theorem FrG.tr {M M' M'' : Mem} (h : FrG M M') (h' : FrG M' M'') : FrG M M'' :=
  ⟨h'.1.trans h.1, fun o q k => (h'.2.1 o q k).trans (h.2.1 o q k), fun k q => (h'.2.2.1 k q).trans (h.2.2.1 k q), fun o k q => (h'.2.2.2 o k q).trans (h.2.2.2 o k q)⟩
theorem FrM.of {M M' : Mem} {P : Nat → Prop} (h : Fr P M M') (hP : ∀ o, P o → 121 ≤ o ∧ o ≤ 124) : FrM M M' :=
  ⟨h.1, fun o q k => h.2.1 o (fun z => q ⟨by have := hP o z; omega, (hP o z).2⟩) k, fun k _ => h.2.1 120 (fun z => by have := hP 120 z; omega) k, fun o k => h.2.2 o k⟩
theorem FrM.ofA {M M' : Mem} (h : Fr PA M M') : FrM M M' := FrM.of h (fun o z => by unfold PA at z; omega)
def MV (M : Mem) (cs : List Int32) : Prop := mI M 120 6 = nI cs.length ∧ ∀ i c, cs[i]? = some c → mI M 124 i = c
theorem rs_4 {M : Mem} (h : RS M) : mR M 120 4 = 124 := h.r (by decide)
theorem rs_5 {M : Mem} (h : RS M) : mR M 120 5 = 125 := h.r (by decide)
theorem rs_f4 {α : Type} {M : Mem} (h : RS M) (x : Option α) : chk (isO M 100 124) x = x := chk_t (h.io (by decide) (by decide) (by decide))
theorem rs_f5 {α : Type} {M : Mem} (h : RS M) (x : Option α) : chk (isO M 100 125) x = x := chk_t (h.io (by decide) (by decide) (by decide))
theorem rs_c4 {α : Type} {M : Mem} (h : RS M) {k : Nat} (hk : k < 288) (x : Option α) : chk (inB (nI k) (mLn M 124)) x = x := by
  refine chk_t ?_
  rw [h.ln (c := 288) (by decide) (by decide) (by decide)]; exact inB_n hk (by decide)
theorem rs_c5 {α : Type} {M : Mem} (h : RS M) {k : Nat} (hk : k < 16) (x : Option α) : chk (inB (nI k) (mLn M 125)) x = x := by
  refine chk_t ?_
  rw [h.ln (c := 16) (by decide) (by decide) (by decide)]; exact inB_n hk (by decide)
def pushM (M : Mem) (cs : List Int32) (c : Int32) : Mem := sI (sI M 124 cs.length c) 120 6 (nI (cs.length + 1))
theorem MV.push {M : Mem} {cs : List Int32} (h : MV M cs) (c : Int32) : MV (pushM M cs c) (cs ++ [c]) := by
  refine ⟨?_, fun i d hi => ?_⟩
  · unfold pushM
    rw [mI_s, List.length_append, List.length_singleton]
  · unfold pushM
    rw [mI_o _ _ _ _ _ (by decide)]
    by_cases q : i < cs.length
    · rw [List.getElem?_append_left q] at hi
      rw [mI_n _ _ _ _ (by omega)]
      exact h.2 i d hi
    · rw [List.getElem?_append_right (by omega)] at hi
      have hl := (List.getElem?_eq_some_iff.mp hi).1
      rw [List.length_singleton] at hl
      have e : i = cs.length := by omega
      subst e
      rw [Nat.sub_self] at hi
      simp at hi
      rw [mI_s, hi]
theorem pushM_F (M : Mem) (cs : List Int32) (c : Int32) : FrM M (pushM M cs c) := by
  unfold pushM
  refine ⟨rfl, fun o q k => ?_, fun k q => ?_, fun _ _ => rfl⟩
  · rw [mI_o _ _ _ _ _ (by omega), mI_o _ _ _ _ _ (by omega)]
  · rw [mI_n _ _ _ _ q, mI_o _ _ _ _ _ (by decide)]
theorem RV.push {M : Mem} {tw : Bool} {t : Int32} {S : St} {pb pt : List Row4} (h : RV M tw t S pb pt) (cs : List Int32) (c : Int32) : RV (pushM M cs c) tw t S pb pt := by
  refine h.cg rfl ?_ (fun b => ?_) (fun b => ?_)
  · exact (pushM_F M cs c).2.2.1 3 (by decide)
  · unfold pushM; rw [mI_o _ _ _ _ _ (by decide), mI_o _ _ _ _ _ (by decide)]
  · unfold pushM; rw [mI_o _ _ _ _ _ (by decide), mI_o _ _ _ _ _ (by decide)]
/-- pairs in a row, each once -/
def dd : Option Nat → List (Nat × Ltr) → List Nat
  | _, [] => []
  | o, q :: r => if o = some q.1 then dd o r else q.1 :: dd (some q.1) r
def lanes (S : St) : List Nat := (List.range 256).filter fun l => !(xL S l).isEmpty
theorem dd_same (l : Nat) (xs : List Ltr) (rest : List (Nat × Ltr)) : dd (some l) ((xs.map fun x => (l, x)) ++ rest) = dd (some l) rest := by
  induction xs with
  | nil => rfl
  | cons x xs ih =>
    rw [List.map_cons, List.cons_append]
    conv => lhs; unfold dd
    rw [if_pos rfl]
    exact ih
theorem dd_flr (L : Nat → List Ltr) : ∀ (n a : Nat) (o : Option Nat), (∀ l, o = some l → l < a) → dd o (flr L a n) = (List.range' a n).filter fun l => !(L l).isEmpty := by
  intro n
  induction n with
  | zero => intro a o _; rfl
  | succ n ih =>
    intro a o ho
    have e : flr L a (n + 1) = ((L a).map fun x => (a, x)) ++ flr L (a + 1) n := by
      unfold flr
      rw [List.range'_succ, List.flatMap_cons]
    rw [e, List.range'_succ, List.filter_cons]
    cases hL : L a with
    | nil =>
      simp only [List.map_nil, List.nil_append, List.isEmpty_nil, Bool.not_true, Bool.false_eq_true, if_false]
      exact ih (a + 1) o (fun l q => by have := ho l q; omega)
    | cons x xs =>
      rw [List.map_cons, List.cons_append]
      conv => lhs; unfold dd
      rw [if_neg (fun q => by have := ho a q; omega), dd_same]
      simp only [List.isEmpty_cons, Bool.not_false, if_true]
      rw [ih (a + 1) (some a) (fun l q => by have := Option.some.inj q; omega)]
theorem dd_fl (S : St) : dd none (fl S) = lanes S := by
  rw [fl_r, dd_flr _ _ _ _ (fun l q => by cases q)]
  unfold lanes
  rw [List.range_eq_range']
theorem lanes_len (S : St) : (lanes S).length ≤ 256 := by
  have := List.length_filter_le (fun l => !(xL S l).isEmpty) (List.range 256)
  rw [List.length_range] at this
  exact this
theorem m1_ne' (v : Nat) (h : v < 256) : ¬ (-1 : Int32) = nI v := fun q => by
  have h1 := nI_pos (n := v) (by omega)
  rw [← q] at h1
  exact h1 (by decide)
def lastI : Option Nat → Int32
  | none => -1
  | some l => nI l
set_option maxHeartbeats 1000000 in
theorem lay_1 {tw : Bool} {t : Int32} {S : St} {pb pt : List Row4} : ∀ (q p : List (Nat × Ltr)) (o : Option Nat) (cs : List Int32) (M : Mem) (n : Nat), RV M tw t S pb pt → fl S = p ++ q → (∀ l, o = some l → l < 256) → MV M cs → cs.length + (dd o q).length ≤ 288 → q.length + 1 ≤ n → ∃ M' n', n ≤ n' + q.length + 1 ∧ f_X10_layMoves_9 n 120 (lastI o) (nI p.length) M = f_X10_layMoves_83 n' 120 0 M' ∧ RV M' tw t S pb pt ∧ MV M' (cs ++ (dd o q).map nI) ∧ FrM M M' := by
  intro q
  induction q with
  | nil =>
    intro p o cs M n h e ho hm hl hn
    obtain ⟨n, rfl⟩ : ∃ m, n = m + 1 := ⟨n - 1, by omega⟩
    rw [List.append_nil] at e
    have h9 := h.2.2.2.2.1.2.1
    refine ⟨M, n, by simp, ?_, h, by simpa [dd] using hm, FrM.rf M⟩
    rw [f_X10_layMoves_9, rs_f h.1, rs_0 h.1, bnd_e, rs_fa h.1, l850, rs_c h.1 (by decide), cl_n (by decide), h.2.2.2.2.1.1, e, if_pos (nI_le (Nat.le_refl _) (by rw [e] at h9; omega))]
  | cons z q ih =>
    intro p o cs M n h e ho hm hl hn
    simp only [List.length_cons] at hn
    obtain ⟨n, rfl⟩ : ∃ m, n = m + 1 := ⟨n - 1, by omega⟩
    have h9 := h.2.2.2.2.1.2.1
    have hlen : (fl S).length = p.length + q.length + 1 := by rw [e]; simp; omega
    have hz : z.1 < 256 := (fl_mem (S := S) (by rw [e]; simp)).1
    have g := h.2.2.2.2.1.2.2 p.length z (by rw [e, List.getElem?_append_right (Nat.le_refl _)]; simp)
    rw [Nat.zero_add] at g
    have ep : (p ++ [z]).length = p.length + 1 := by simp
    have e' : fl S = (p ++ [z]) ++ q := by rw [e]; simp
    have open1 : ∀ y, (if nI z.1 = lastI o then f_X10_layMoves_9 n 120 (lastI o) (nI (p.length + 1)) M else f_X10_layMoves_9 n 120 (nI z.1) (nI (p.length + 1)) (pushM M cs (nI z.1))) = y → (nI z.1 = lastI o ∨ cs.length < 288) → f_X10_layMoves_9 (n + 1) 120 (lastI o) (nI p.length) M = y := by
      intro y hy hc
      rw [f_X10_layMoves_9, rs_f h.1, rs_0 h.1, bnd_e, rs_fa h.1, l850, rs_c h.1 (by decide), cl_n (by decide), h.2.2.2.2.1.1, hlen, if_neg (nI_ge (by omega) (by omega)), bnd_e, rs_fa h.1, c851, rs_c h.1 (by omega), f_X10_pairOf, mI_c (by omega), g.1, enc_pair hz, obd_s]
      by_cases c : nI z.1 = lastI o
      · rw [if_pos c] at hy ⊢
        rw [nI_1, bnd_e]; exact hy
      · rw [if_neg c] at hy ⊢
        have hc := hc.resolve_left c
        rw [bnd_e, rs_fa h.1, rs_c h.1 (by omega), f_X10_pairOf, mI_c (by omega), g.1, enc_pair hz, obd_s, rs_4 h.1, bnd_e, rs_f4 h.1, hm.1, rs_c4 h.1 hc, bnd_e, cl_n (by omega), mI_o _ _ _ _ _ (by decide), hm.1, nI_1, nI_1]
        simp only [bnd_e]
        exact hy
    unfold dd at hl ⊢
    by_cases c : o = some z.1
    · rw [if_pos c] at hl ⊢
      obtain ⟨M', n', i0, i1, i2, i3, i4⟩ := ih (p ++ [z]) o cs M n h e' ho hm hl (by omega)
      refine ⟨M', n', by simp only [List.length_cons]; omega, open1 _ ?_ (Or.inl (by rw [c]; rfl)), i2, i3, i4⟩
      rw [if_pos (by rw [c]; rfl), ← ep]; exact i1
    · rw [if_neg c] at hl ⊢
      simp only [List.length_cons] at hl
      have hne : ¬ nI z.1 = lastI o := by
        cases o with
        | none => exact fun q => by have := m1_ne' z.1 hz; exact this q.symm
        | some l => exact fun q => c (by rw [(nI_eq (a := z.1) (b := l) (by omega) (by have := ho l rfl; omega)).mp q])
      obtain ⟨M', n', i0, i1, i2, i3, i4⟩ := ih (p ++ [z]) (some z.1) (cs ++ [nI z.1]) (pushM M cs (nI z.1)) n (h.push cs _) e' (fun l q => by have := Option.some.inj q; omega) (hm.push _) (by simp; omega) (by omega)
      refine ⟨M', n', by simp only [List.length_cons]; omega, open1 _ ?_ (Or.inr (by omega)), i2, by simpa using i3, FrM.tr (pushM_F M cs _) i4⟩
      rw [if_neg hne, ← ep]; exact i1
def inss (N : Nat) (S : St) : List Nat := (List.range N).filter fun v => decide (xR S 0 v = 2)
def inss' (i d : Nat) (S : St) : List Nat := (List.range' i d).filter fun v => decide (xR S 0 v = 2)
def lvc (v : Nat) : Int32 := (-1 : Int32) - nI v
theorem lay_2 {tw : Bool} {t : Int32} {S : St} {pb pt : List Row4} {N : Nat} (hN : xR S 20 0 = nI N) (h16 : N ≤ 16) : ∀ (d i : Nat) (cs : List Int32) (M : Mem) (n : Nat), RV M tw t S pb pt → i + d = N → MV M cs → cs.length + d ≤ 288 → d + 1 ≤ n → ∃ M' n', n ≤ n' + d + 1 ∧ f_X10_layMoves_83 n 120 (nI i) M = f_X10_layMoves_136 n' 120 0 M' ∧ RV M' tw t S pb pt ∧ MV M' (cs ++ (inss' i d S).map lvc) ∧ FrM M M' := by
  intro d
  induction d with
  | zero =>
    intro i cs M n h hi hm hl hn
    obtain ⟨n, rfl⟩ : ∃ m, n = m + 1 := ⟨n - 1, by omega⟩
    refine ⟨M, n, by omega, ?_, h, by simpa [inss'] using hm, FrM.rf M⟩
    rw [f_X10_layMoves_83, rs_f h.1, rs_0 h.1, bnd_e, rs_fa h.1, rs_c0 h.1, cl0, h.N hN, if_pos (nI_le (by omega) (by omega))]
  | succ d ih =>
    intro i cs M n h hi hm hl hn
    obtain ⟨n, rfl⟩ : ∃ m, n = m + 1 := ⟨n - 1, by omega⟩
    have open1 : ∀ y, (if xR S 0 i = 2 then f_X10_layMoves_83 n 120 (nI (i + 1)) (pushM M cs (lvc i)) else f_X10_layMoves_83 n 120 (nI (i + 1)) M) = y → f_X10_layMoves_83 (n + 1) 120 (nI i) M = y := by
      intro y hy
      rw [f_X10_layMoves_83, rs_f h.1, rs_0 h.1, bnd_e, rs_fa h.1, rs_c0 h.1, cl0, h.N hN, if_neg (nI_ge (by omega) (by omega)), h.get0 (by omega), obd_s]
      by_cases c : xR S 0 i = 2
      · rw [if_pos c] at hy ⊢
        rw [rs_4 h.1, bnd_e, rs_f4 h.1, hm.1, rs_c4 h.1 (by omega), bnd_e, cl_n (by omega), mI_o _ _ _ _ _ (by decide), hm.1, nI_1, nI_1]
        simp only [bnd_e]
        exact hy
      · rw [if_neg c] at hy ⊢
        simp only [bnd_e, nI_1]
        exact hy
    have el : inss' i (d + 1) S = if xR S 0 i = 2 then i :: inss' (i + 1) d S else inss' (i + 1) d S := by
      unfold inss'
      rw [List.range'_succ, List.filter_cons]
      by_cases c : xR S 0 i = 2
      · rw [if_pos (decide_eq_true c), if_pos c]
      · rw [if_neg (by simpa using c), if_neg c]
    rw [el]
    by_cases c : xR S 0 i = 2
    · rw [if_pos c] at open1 ⊢
      obtain ⟨M', n', i0, i1, i2, i3, i4⟩ := ih (i + 1) (cs ++ [lvc i]) (pushM M cs (lvc i)) n (h.push cs _) (by omega) (hm.push _) (by simp; omega) (by omega)
      exact ⟨M', n', by omega, open1 _ i1, i2, by simpa using i3, FrM.tr (pushM_F M cs _) i4⟩
    · rw [if_neg c] at open1 ⊢
      obtain ⟨M', n', i0, i1, i2, i3, i4⟩ := ih (i + 1) cs M n h (by omega) hm (by omega) (by omega)
      exact ⟨M', n', by omega, open1 _ i1, i2, i3, i4⟩
def asks' (i d N : Nat) (S : St) (ask : Int32) (sn : Nat → Int32) : List Nat := (List.range' i d).filter fun v => bt ask v && (mayA N v S && decide (xR S 2 v = sn v))
def akc (v : Nat) : Int32 := nI (256 + v)
theorem c256 (v : Nat) : (256 : Int32) + nI v = nI (256 + v) := by rw [show (256 : Int32) = nI 256 from rfl, nI_add]
theorem P2_M {M M' : Mem} (h : Fr P2 M M') : FrM M M' ∧ (∀ b, mI M' 124 b = mI M 124 b) ∧ (∀ k, mI M' 125 k = mI M 125 k) ∧ ∀ k, mI M' 120 k = mI M 120 k :=
  ⟨FrM.of h (fun o z => by unfold P2 at z; omega), fun b => h.2.1 124 (by unfold P2; decide) b, fun b => h.2.1 125 (by unfold P2; decide) b, fun k => h.2.1 120 (by unfold P2; decide) k⟩
set_option maxHeartbeats 1000000 in
theorem lay_3 {tw : Bool} {t : Int32} {S : St} {pb pt : List Row4} {N : Nat} (hN : xR S 20 0 = nI N) (h16 : N ≤ 16) (ht : xR S 20 1 = 1 → N % 2 = 1) {ask : Int32} {sn : Nat → Int32} : ∀ (d i : Nat) (cs : List Int32) (M : Mem) (n : Nat), RV M tw t S pb pt → i + d = N → MV M cs → cs.length + d ≤ 288 → mI M 120 7 = ask → (∀ v, v < N → mI M 125 v = sn v) → d + 61 ≤ n → ∃ M', f_X10_layMoves_136 n 120 (nI i) M = some M' ∧ RV M' tw t S pb pt ∧ MV M' (cs ++ (asks' i d N S ask sn).map akc) ∧ FrM M M' := by
  intro d
  induction d with
  | zero =>
    intro i cs M n h hi hm hl hask hsn hn
    obtain ⟨n, rfl⟩ : ∃ m, n = m + 1 := ⟨n - 1, by omega⟩
    refine ⟨M, ?_, h, by simpa [asks'] using hm, FrM.rf M⟩
    rw [f_X10_layMoves_136, rs_f h.1, rs_0 h.1, bnd_e, rs_fa h.1, rs_c0 h.1, cl0, h.N hN, if_pos (nI_le (by omega) (by omega))]
  | succ d ih =>
    intro i cs M n h hi hm hl hask hsn hn
    obtain ⟨n, rfl⟩ : ∃ m, n = m + 1 := ⟨n - 1, by omega⟩
    obtain ⟨M1, c1, h1, f1⟩ := h.can hN h16 ht (v := i) (by omega) (n := n) (by omega)
    obtain ⟨g1, g2, g3, g4⟩ := P2_M f1
    have hm1 : MV M1 cs := ⟨(g4 6).trans hm.1, fun k c q => (g2 k).trans (hm.2 k c q)⟩
    have hask1 : mI M1 120 7 = ask := (g4 7).trans hask
    have hsn1 : ∀ v, v < N → mI M1 125 v = sn v := fun v hv => (g3 v).trans (hsn v hv)
    have el : asks' i (d + 1) N S ask sn = if (bt ask i && (mayA N i S && decide (xR S 2 i = sn i))) = true then i :: asks' (i + 1) d N S ask sn else asks' (i + 1) d N S ask sn := by
      unfold asks'
      rw [List.range'_succ, List.filter_cons]
    rw [el]
    have open1 : ∀ y, (if bt ask i = true then (if mayA N i S = true then (if xR S 2 i = sn i then f_X10_layMoves_136 n 120 (nI (i + 1)) (pushM M1 cs (akc i)) else f_X10_layMoves_136 n 120 (nI (i + 1)) M1) else f_X10_layMoves_136 n 120 (nI (i + 1)) M1) else f_X10_layMoves_136 n 120 (nI (i + 1)) M) = y → f_X10_layMoves_136 (n + 1) 120 (nI i) M = y := by
      intro y hy
      rw [f_X10_layMoves_136, rs_f h.1, rs_0 h.1, bnd_e, rs_fa h.1, rs_c0 h.1, cl0, h.N hN, if_neg (nI_ge (by omega) (by omega)), hask, f_has10 _ (by omega), obd_s, c1, obd2_s]
      cases b1 : bt ask i
      · rw [b1] at hy
        simp only [Bool.false_eq_true, if_false, if_true, bnd_e, nI_1] at hy ⊢
        exact hy
      · rw [b1] at hy
        simp only [if_true, ne10, if_false] at hy ⊢
        cases b2 : mayA N i S
        · rw [b2] at hy
          simp only [Bool.false_eq_true, if_false, if_true, bnd_e, nI_1] at hy ⊢
          exact hy
        · rw [b2] at hy
          simp only [if_true, ne10, if_false] at hy ⊢
          rw [rs_f h1.1, h1.get2 (by omega), obd_s, rs_5 h1.1, bnd_e, rs_f5 h1.1, rs_c5 h1.1 (by omega), cl_n (by omega), hsn1 i (by omega)]
          by_cases c : xR S 2 i = sn i
          · rw [if_pos c] at hy ⊢
            rw [rs_4 h1.1, bnd_e, rs_f4 h1.1, hm1.1, rs_c4 h1.1 (by omega), bnd_e, cl_n (by omega), c256, mI_o _ _ _ _ _ (by decide), hm1.1, nI_1, nI_1]
            simp only [bnd_e]
            exact hy
          · rw [if_neg c] at hy ⊢
            simp only [bnd_e, nI_1]
            exact hy
    cases b1 : bt ask i
    · rw [b1] at open1
      obtain ⟨M', i1, i2, i3, i4⟩ := ih (i + 1) cs M n h (by omega) hm (by omega) hask hsn (by omega)
      refine ⟨M', open1 _ (by simpa using i1), i2, by simpa using i3, i4⟩
    · rw [b1] at open1
      cases b2 : mayA N i S
      · rw [b2] at open1
        obtain ⟨M', i1, i2, i3, i4⟩ := ih (i + 1) cs M1 n h1 (by omega) hm1 (by omega) hask1 hsn1 (by omega)
        refine ⟨M', open1 _ (by simpa using i1), i2, by simpa using i3, FrM.tr g1 i4⟩
      · rw [b2] at open1
        by_cases c : xR S 2 i = sn i
        · have p7 : mI (pushM M1 cs (akc i)) 120 7 = ask := ((pushM_F M1 cs (akc i)).2.2.1 7 (by decide)).trans hask1
          have p5 : ∀ v, v < N → mI (pushM M1 cs (akc i)) 125 v = sn v := fun v hv => ((pushM_F M1 cs (akc i)).2.1 125 (by decide) v).trans (hsn1 v hv)
          obtain ⟨M', i1, i2, i3, i4⟩ := ih (i + 1) (cs ++ [akc i]) (pushM M1 cs (akc i)) n (h1.push cs _) (by omega) (hm1.push _) (by simp; omega) p7 p5 (by omega)
          refine ⟨M', open1 _ (by simpa [c] using i1), i2, by simpa [c] using i3, FrM.tr g1 (FrM.tr (pushM_F M1 cs _) i4)⟩
        · obtain ⟨M', i1, i2, i3, i4⟩ := ih (i + 1) cs M1 n h1 (by omega) hm1 (by omega) hask1 hsn1 (by omega)
          refine ⟨M', open1 _ (by simpa [c] using i1), i2, by simpa [c] using i3, FrM.tr g1 i4⟩
/-- the moves, as the reference writes them -/
def mvc (N : Nat) (S : St) (ask : Int32) (sn : Nat → Int32) : List Int32 := (lanes S).map nI ++ (inss N S).map lvc ++ (asks' 0 N N S ask sn).map akc
theorem inss_len (N : Nat) (S : St) : (inss N S).length ≤ N := by
  have := List.length_filter_le (fun v => decide (xR S 0 v = 2)) (List.range N)
  rw [List.length_range] at this
  exact this
theorem RV.lay {M : Mem} {tw : Bool} {t : Int32} {S : St} {pb pt : List Row4} (h : RV M tw t S pb pt) {N : Nat} (hN : xR S 20 0 = nI N) (h16 : N ≤ 16) (ht : xR S 20 1 = 1 → N % 2 = 1) {ask : Int32} {sn : Nat → Int32} (hask : mI M 120 7 = ask) (hsn : ∀ v, v < N → mI M 125 v = sn v) {n : Nat} (hn : 9200 ≤ n) : ∃ M', f_X10_layMoves n 120 M = some M' ∧ RV M' tw t S pb pt ∧ MV M' (mvc N S ask sn) ∧ FrM M M' := by
  have h9 := h.2.2.2.2.1.2.1
  generalize hM0 : sI M 120 6 0 = M0
  have h0 : RV M0 tw t S pb pt := by
    rw [← hM0]
    exact h.cg rfl (mI_n _ _ _ _ (by decide)) (fun b => mI_o _ _ _ _ _ (by decide)) (fun b => mI_o _ _ _ _ _ (by decide))
  have m0 : MV M0 [] := ⟨by rw [← hM0, mI_s]; rfl, fun i c q => by simp at q⟩
  have f0 : FrM M M0 := by
    rw [← hM0]
    exact ⟨rfl, fun o q k => mI_o _ _ _ _ _ (by omega), fun k q => mI_n _ _ _ _ q, fun _ _ => rfl⟩
  have hl1 := lanes_len S
  have hl2 := inss_len N S
  have hdd := dd_fl S
  obtain ⟨M1, n1, a0, a1, a2, a3, a4⟩ := lay_1 (fl S) [] none [] M0 n h0 (by simp) (fun l q => by cases q) m0 (by rw [hdd]; simp; omega) (by omega)
  rw [hdd, List.nil_append] at a3
  obtain ⟨M2, n2, b0, b1, b2, b3, b4⟩ := lay_2 hN h16 N 0 ((lanes S).map nI) M1 n1 a2 (by omega) a3 (by simp; omega) (by omega)
  have ei : inss' 0 N S = inss N S := by unfold inss' inss; rw [List.range_eq_range']
  rw [ei] at b3
  have f2 : FrM M M2 := FrM.tr f0 (FrM.tr a4 b4)
  obtain ⟨M3, c1, c2, c3, c4⟩ := lay_3 hN h16 ht (ask := ask) (sn := sn) N 0 _ M2 n2 b2 (by omega) b3 (by simp; omega) ((f2.2.2.1 7 (by decide)).trans hask) (fun v hv => (f2.2.1 125 (by decide) v).trans (hsn v hv)) (by omega)
  refine ⟨M3, ?_, c2, c3, FrM.tr f2 c4⟩
  have a1' : f_X10_layMoves_9 n 120 (-1) 0 M0 = f_X10_layMoves_83 n1 120 0 M1 := a1
  have b1' : f_X10_layMoves_83 n1 120 0 M1 = f_X10_layMoves_136 n2 120 0 M2 := b1
  have c1' : f_X10_layMoves_136 n2 120 0 M2 = some M3 := c1
  rw [f_X10_layMoves, rs_f h.1, bnd_e, hM0, a1', b1', c1']
