/-! ===== the quorum of a node now, by the reference ===== -/
/-- in a tree: WHOLE of v by the broken ones b -/
def whF (N : Nat) (b : Int32) : Nat → Nat → Int32
  | 0, _ => 0
  | f + 1, v =>
    let l := if 2 * v + 1 < N then whF N b f (2 * v + 1) else 0
    let r := if 2 * v + 1 < N then whF N b f (2 * v + 2) else 0
    if bt b v then (if l = 0 then 0 else if r = 0 then 0 else l ||| r)
    else if 2 * v + 1 < N then (if l = 0 then (if r = 0 then 0 else r ||| ((1 : Int32) <<< (nI v &&& 31))) else l ||| ((1 : Int32) <<< (nI v &&& 31)))
    else (1 : Int32) <<< (nI v &&& 31)
theorem whF_s (N : Nat) (b : Int32) : ∀ (f v : Nat), N ≤ v + f → v < N → ∀ f', N ≤ v + f' → whF N b f v = whF N b f' v := by
  intro f
  induction f with
  | zero => intro v h1 h2; omega
  | succ f ih =>
    intro v h1 h2 f' h3
    obtain ⟨f', rfl⟩ : ∃ m, f' = m + 1 := ⟨f' - 1, by omega⟩
    by_cases c : 2 * v + 1 < N
    · have e1 := ih (2 * v + 1) (by omega) c f' (by omega)
      by_cases c2 : 2 * v + 2 < N
      · have e2 := ih (2 * v + 2) (by omega) c2 f' (by omega)
        unfold whF
        simp only [c, if_true, e1, e2]
      · have z : ∀ g, 2 * v + 2 = N → whF N b g (2 * v + 2) = whF N b g (2 * v + 2) := fun _ _ => rfl
        have e2 : whF N b f (2 * v + 2) = whF N b f' (2 * v + 2) := by
          obtain ⟨g, rfl⟩ : ∃ m, f = m + 1 := ⟨f - 1, by omega⟩
          obtain ⟨g', rfl⟩ : ∃ m, f' = m + 1 := ⟨f' - 1, by omega⟩
          unfold whF
          have : ¬ 2 * (2 * v + 2) + 1 < N := by omega
          simp only [this, if_false]
        unfold whF
        simp only [c, if_true, e1, e2]
    · unfold whF
      simp only [c, if_false]
def wh (N : Nat) (b : Int32) (v : Nat) : Int32 := whF N b N v
theorem wh_e {N : Nat} (b : Int32) {v : Nat} (hv : v < N) (hN : N % 2 = 1) : wh N b v =
    (let l := if 2 * v + 1 < N then wh N b (2 * v + 1) else 0
    let r := if 2 * v + 1 < N then wh N b (2 * v + 2) else 0
    if bt b v then (if l = 0 then 0 else if r = 0 then 0 else l ||| r)
    else if 2 * v + 1 < N then (if l = 0 then (if r = 0 then 0 else r ||| ((1 : Int32) <<< (nI v &&& 31))) else l ||| ((1 : Int32) <<< (nI v &&& 31)))
    else (1 : Int32) <<< (nI v &&& 31)) := by
  unfold wh
  obtain ⟨f, rfl⟩ : ∃ m, N = m + 1 := ⟨N - 1, by omega⟩
  conv => lhs; unfold whF
  by_cases c : 2 * v + 1 < f + 1
  · have e1 := whF_s (f + 1) b f (2 * v + 1) (by omega) c (f + 1) (by omega)
    have e2 := whF_s (f + 1) b f (2 * v + 2) (by omega) (by omega) (f + 1) (by omega)
    simp only [c, if_true, e1, e2]
  · simp only [c, if_false]
/-- the broken ones, as the reference puts them together -/
def bk (i d : Nat) (S : St) (x : Int32) : Int32 := (List.range' i d).foldl (fun x v => x ||| (xR S 7 v <<< (nI v &&& 31))) x
theorem RV.brk {M : Mem} {tw : Bool} {t : Int32} {S : St} {pb pt : List Row4} (h : RV M tw t S pb pt) {N : Nat} (hN : xR S 20 0 = nI N) (h16 : N ≤ 16) : ∀ (d i n : Nat) (x : Int32), i + d = N → d + 1 ≤ n → f_X10_brokenOnes_4 M n 120 x (nI i) = some (bk i d S x) := by
  intro d
  induction d with
  | zero =>
    intro i n x hi hn
    obtain ⟨n, rfl⟩ : ∃ m, n = m + 1 := ⟨n - 1, by omega⟩
    rw [f_X10_brokenOnes_4, rs_f h.1, rs_0 h.1, bnd_e, rs_fa h.1, rs_c0 h.1, cl0, h.N hN, if_pos (nI_le (by omega) (by omega))]
    rfl
  | succ d ih =>
    intro i n x hi hn
    obtain ⟨n, rfl⟩ : ∃ m, n = m + 1 := ⟨n - 1, by omega⟩
    rw [f_X10_brokenOnes_4, rs_f h.1, rs_0 h.1, bnd_e, rs_fa h.1, rs_c0 h.1, cl0, h.N hN, if_neg (nI_ge (by omega) (by omega)), h.get7 (by omega), obd_s, bnd_e, bnd_e, nI_1, ih _ _ _ (by omega) (by omega)]
    unfold bk
    rw [List.range'_succ, List.foldl_cons]
def bkm (N : Nat) (S : St) : Int32 := bk 0 N S 0
theorem RV.bro {M : Mem} {tw : Bool} {t : Int32} {S : St} {pb pt : List Row4} (h : RV M tw t S pb pt) {N : Nat} (hN : xR S 20 0 = nI N) (h16 : N ≤ 16) {n : Nat} (hn : 40 ≤ n) : f_X10_brokenOnes n 120 M = some (bkm N S) := by
  rw [f_X10_brokenOnes]
  exact h.brk hN h16 N 0 n 0 (by omega) (by omega)
def fub (i d : Nat) (S : St) (b : Int32) : Int32 := match (List.range' i d).find? (fun w => decide (xR S 17 w &&& b = 0)) with
  | none => 0
  | some w => xR S 17 w
theorem RV.base {M : Mem} {tw : Bool} {t : Int32} {S : St} {pb pt : List Row4} (h : RV M tw t S pb pt) {v : Nat} (hv : v < 16) : f_X10_baseOf 120 (nI v) M = some (xR S 17 v) :=
  (f_baseOf h.toRK hv).trans (congrArg some (h.rg (k := 17) (i := v) (by unfold vk; omega)))
theorem RV.q34 {M : Mem} {tw : Bool} {t : Int32} {S : St} {pb pt : List Row4} (h : RV M tw t S pb pt) {N : Nat} (hN : xR S 20 0 = nI N) (h16 : N ≤ 16) (b : Int32) : ∀ (d i n : Nat), i + d = N → d + 1 ≤ n → f_X10_quorumBy_34 n 120 b (nI i) M = some (fub i d S b, M) := by
  intro d
  induction d with
  | zero =>
    intro i n hi hn
    obtain ⟨n, rfl⟩ : ∃ m, n = m + 1 := ⟨n - 1, by omega⟩
    rw [f_X10_quorumBy_34, rs_f h.1, rs_0 h.1, bnd_e, rs_fa h.1, rs_c0 h.1, cl0, h.N hN, if_pos (nI_le (by omega) (by omega))]
    rfl
  | succ d ih =>
    intro i n hi hn
    obtain ⟨n, rfl⟩ : ∃ m, n = m + 1 := ⟨n - 1, by omega⟩
    rw [f_X10_quorumBy_34, rs_f h.1, rs_0 h.1, bnd_e, rs_fa h.1, rs_c0 h.1, cl0, h.N hN, if_neg (nI_ge (by omega) (by omega)), h.base (by omega), obd_s]
    unfold fub
    rw [List.range'_succ, List.find?_cons]
    by_cases c : xR S 17 i &&& b = 0
    · rw [if_pos c, obd_s]
      simp [c]
    · rw [if_neg c, bnd_e, nI_1, ih _ _ (by omega) (by omega)]
      simp only [c, decide_false]
      rfl
theorem rs_1 {M : Mem} (h : RS M) : mR M 120 1 = 122 := h.r (by decide)
theorem rs_f1 {α : Type} {M : Mem} (h : RS M) (x : Option α) : chk (isO M 100 122) x = x := chk_t (h.io (by decide) (by decide) (by decide))
theorem rs_c1 {α : Type} {M : Mem} (h : RS M) {k : Nat} (hk : k < 16) (x : Option α) : chk (inB (nI k) (mLn M 122)) x = x := by
  refine chk_t ?_
  rw [h.ln (c := 16) (by decide) (by decide) (by decide)]; exact inB_n hk (by decide)
theorem RV.fr2 {M M' : Mem} {tw : Bool} {t : Int32} {S : St} {pb pt : List Row4} (h : RV M tw t S pb pt) (f : Fr (fun o => o ≠ 120 ∧ o ≠ 121 ∧ o ≠ 123) M M') : RV M' tw t S pb pt := by
  obtain ⟨hS, ht, hA, hw, hl, hb1, hb2⟩ := h
  have e : ∀ b, mI M' 121 b = mI M 121 b := fun b => f.2.1 121 (by omega) b
  refine ⟨hS.e f.1, (f.2.1 120 (by omega) 3).trans ht, fun k i hv => (e _).trans (hA k i hv), hw.cg (fun b _ _ => e b) rfl, ⟨(e _).trans hl.1, hl.2.1, hl.2.2.cg fun j _ _ => ⟨e _, f.2.1 123 (by omega) _⟩⟩, hb1.cg (e _) (fun b _ _ => e b), hb2.cg (e _) (fun b _ _ => e b)⟩
theorem c2v1 (v : Nat) : ((2 : Int32) * nI v) + (1 : Int32) = nI (2 * v + 1) := by rw [c2n, nI_1]
theorem c2v2 (v : Nat) : ((2 : Int32) * nI v) + (2 : Int32) = nI (2 * v + 2) := by rw [c2n, show (2 : Int32) = nI 2 from rfl, nI_add]
def P2 (o : Nat) : Prop := o = 122
set_option maxHeartbeats 1000000 in
theorem wh_l {tw : Bool} {t : Int32} {S : St} {pb pt : List Row4} {N : Nat} (hN : xR S 20 0 = nI N) (h16 : N ≤ 16) (hodd : N % 2 = 1) (b : Int32) : ∀ (r : Nat) (M : Mem) (n : Nat), RV M tw t S pb pt → r ≤ N → (∀ w, r ≤ w → w < N → mI M 122 w = wh N b w) → r + 2 ≤ n → ∃ M', f_X10_wholeBy_9 n 120 b (nI r - 1) M = some (wh N b 0, M') ∧ Fr P2 M M' := by
  intro r
  induction r with
  | zero =>
    intro M n h hr hw hn
    obtain ⟨n, rfl⟩ : ∃ m, n = m + 1 := ⟨n - 1, by omega⟩
    refine ⟨M, ?_, Fr.rf _ _⟩
    rw [f_X10_wholeBy_9, if_pos (by decide), rs_f h.1, rs_1 h.1, bnd_e, rs_f1 h.1, show chk (inB (0 : Int32) (mLn M 122)) (some (mI M 122 ((0 : Int32)).toNatClampNeg, M)) = some (mI M 122 ((0 : Int32)).toNatClampNeg, M) from rs_c1 h.1 (k := 0) (by decide) _, cl0, hw 0 (by omega) (by omega)]
  | succ r ih =>
    intro M n h hr hw hn
    obtain ⟨n, rfl⟩ : ∃ m, n = m + 1 := ⟨n - 1, by omega⟩
    have e1 : nI (r + 1) - (1 : Int32) = nI r := nI_pred r
    have fin : ∀ (x : Int32), x = wh N b r → ∃ M', f_X10_wholeBy_9 n 120 b (nI r + (-1 : Int32)) (sI M 122 r x) = some (wh N b 0, M') ∧ Fr P2 M M' := by
      intro x hx
      have h2 : RV (sI M 122 r x) tw t S pb pt := h.fr2 (Fr.tsI (by decide))
      obtain ⟨M', q1, q2⟩ := ih (sI M 122 r x) n h2 (by omega) (fun w hw1 hw2 => by
        rw [mI_sI]
        by_cases c : w = r
        · rw [if_pos ⟨rfl, c⟩, hx, c]
        · rw [if_neg (fun q => c q.2)]; exact hw w (by omega) hw2) (by omega)
      refine ⟨M', ?_, Fr.tr (Fr.tsI rfl) q2⟩
      rw [show nI r + (-1 : Int32) = nI r - 1 from (Int32.sub_eq_add_neg _ _).symm]
      exact q1
    rw [e1]
    have we := wh_e b (v := r) (by omega) hodd
    have hh := f_has10 b (v := r) (by omega) M
    have nb : ¬ nI r < 0 := nI_pos (by omega)
    by_cases c : 2 * r + 1 < N
    · simp only [c, if_true] at we
      have w1 := hw (2 * r + 1) (by omega) c
      have w2 := hw (2 * r + 2) (by omega) (by omega)
      have start : ∀ y, f_X10_wholeBy_71 (f_X10_wholeBy_9 n) n 120 b (nI r) 0 (wh N b (2 * r + 1)) (wh N b (2 * r + 2)) M = y → f_X10_wholeBy_9 (n + 1) 120 b (nI r) M = y := by
        intro y hy
        rw [f_X10_wholeBy_9, if_neg nb, rs_f h.1, rs_0 h.1, bnd_e, rs_fa h.1, rs_c0 h.1, cl0, h.N hN, c2v1, if_pos (nI_lt c (by omega)), f_X10_wholeBy_32, if_pos rfl, rs_f h.1, rs_1 h.1, bnd_e, rs_f1 h.1, c2v1, rs_c1 h.1 (by omega), cl_n (by omega), w1, f_X10_wholeBy_51, if_pos rfl, rs_f h.1, rs_1 h.1, bnd_e, rs_f1 h.1, c2v2, rs_c1 h.1 (by omega), cl_n (by omega), w2]
        exact hy
      have go : ∀ y, (if bt b r = true then (if wh N b (2 * r + 1) = 0 then f_X10_wholeBy_9 n 120 b (nI r + (-1 : Int32)) (sI M 122 r 0) else if wh N b (2 * r + 2) = 0 then f_X10_wholeBy_9 n 120 b (nI r + (-1 : Int32)) (sI M 122 r 0) else f_X10_wholeBy_9 n 120 b (nI r + (-1 : Int32)) (sI M 122 r (wh N b (2 * r + 1) ||| wh N b (2 * r + 2)))) else (if wh N b (2 * r + 1) = 0 then (if wh N b (2 * r + 2) = 0 then f_X10_wholeBy_9 n 120 b (nI r + (-1 : Int32)) (sI M 122 r 0) else f_X10_wholeBy_9 n 120 b (nI r + (-1 : Int32)) (sI M 122 r (wh N b (2 * r + 2) ||| ((1 : Int32) <<< (nI r &&& 31))))) else f_X10_wholeBy_9 n 120 b (nI r + (-1 : Int32)) (sI M 122 r (wh N b (2 * r + 1) ||| ((1 : Int32) <<< (nI r &&& 31)))))) = y → f_X10_wholeBy_71 (f_X10_wholeBy_9 n) n 120 b (nI r) 0 (wh N b (2 * r + 1)) (wh N b (2 * r + 2)) M = y := by
        intro y hy
        rw [f_X10_wholeBy_71, hh, obd_s]
        cases hb : bt b r
        · rw [hb] at hy
          simp only [Bool.false_eq_true, if_false, if_true] at hy ⊢
          simp only [rs_f h.1, rs_1 h.1, bnd_e, rs_f1 h.1, rs_c1 h.1 (show r < 16 by omega), cl_n (show r < 10465 by omega)]
          exact hy
        · rw [hb] at hy
          simp only [if_true, ne10, if_false] at hy ⊢
          simp only [rs_f h.1, rs_1 h.1, bnd_e, rs_f1 h.1, rs_c1 h.1 (show r < 16 by omega), cl_n (show r < 10465 by omega)]
          exact hy
      cases hb : bt b r
      · rw [hb] at we go
        simp only [Bool.false_eq_true, if_false] at we go
        by_cases c1 : wh N b (2 * r + 1) = 0
        · rw [if_pos c1] at we go
          by_cases c2 : wh N b (2 * r + 2) = 0
          · rw [if_pos c2] at we go
            obtain ⟨M', q1, q2⟩ := fin _ we.symm
            exact ⟨M', start _ (go _ q1), q2⟩
          · rw [if_neg c2] at we go
            obtain ⟨M', q1, q2⟩ := fin _ we.symm
            exact ⟨M', start _ (go _ q1), q2⟩
        · rw [if_neg c1] at we go
          obtain ⟨M', q1, q2⟩ := fin _ we.symm
          exact ⟨M', start _ (go _ q1), q2⟩
      · rw [hb] at we go
        simp only [if_true] at we go
        by_cases c1 : wh N b (2 * r + 1) = 0
        · rw [if_pos c1] at we go
          obtain ⟨M', q1, q2⟩ := fin _ we.symm
          exact ⟨M', start _ (go _ q1), q2⟩
        · rw [if_neg c1] at we go
          by_cases c2 : wh N b (2 * r + 2) = 0
          · rw [if_pos c2] at we go
            obtain ⟨M', q1, q2⟩ := fin _ we.symm
            exact ⟨M', start _ (go _ q1), q2⟩
          · rw [if_neg c2] at we go
            obtain ⟨M', q1, q2⟩ := fin _ we.symm
            exact ⟨M', start _ (go _ q1), q2⟩
    · simp only [c, if_false] at we
      have start : ∀ y, f_X10_wholeBy_71 (f_X10_wholeBy_9 n) n 120 b (nI r) 1 0 0 M = y → f_X10_wholeBy_9 (n + 1) 120 b (nI r) M = y := by
        intro y hy
        rw [f_X10_wholeBy_9, if_neg nb, rs_f h.1, rs_0 h.1, bnd_e, rs_fa h.1, rs_c0 h.1, cl0, h.N hN, c2v1, if_neg (nI_nlt (by omega) (by omega)), f_X10_wholeBy_32, if_neg ne10, f_X10_wholeBy_51, if_neg ne10]
        exact hy
      cases hb : bt b r
      · rw [hb] at we
        simp only [Bool.false_eq_true, if_false] at we
        obtain ⟨M', q1, q2⟩ := fin _ we.symm
        refine ⟨M', start _ ?_, q2⟩
        rw [f_X10_wholeBy_71, hh, obd_s, hb]
        simp only [Bool.false_eq_true, if_false, if_true, ne10, rs_f h.1, rs_1 h.1, bnd_e, rs_f1 h.1, rs_c1 h.1 (show r < 16 by omega), cl_n (show r < 10465 by omega)]
        exact q1
      · rw [hb] at we
        simp only [if_true] at we
        obtain ⟨M', q1, q2⟩ := fin _ we.symm
        refine ⟨M', start _ ?_, q2⟩
        rw [f_X10_wholeBy_71, hh, obd_s, hb]
        simp only [if_true, ne10, if_false, rs_f h.1, rs_1 h.1, bnd_e, rs_f1 h.1, rs_c1 h.1 (show r < 16 by omega), cl_n (show r < 10465 by omega)]
        exact q1
theorem rs_cI {α : Type} {M : Mem} (h : RS M) (x : Option α) : chk (inB (1 : Int32) (mLn M 121)) x = x := rs_c h (k := 1) (by decide) x
/-- the quorum of v by the broken ones b -/
def qby (N : Nat) (S : St) (v : Nat) (b : Int32) : Int32 := if xR S 17 v &&& b = 0 then xR S 17 v else if xR S 20 1 = 1 then wh N b 0 else fub 0 N S b
def qm (N : Nat) (S : St) (v : Nat) : Int32 := qby N S v (bkm N S)
theorem RV.tqby {M : Mem} {tw : Bool} {t : Int32} {S : St} {pb pt : List Row4} (h : RV M tw t S pb pt) {N : Nat} (hN : xR S 20 0 = nI N) (h16 : N ≤ 16) (ht : xR S 20 1 = 1 → N % 2 = 1) {v : Nat} (hv : v < 16) (b : Int32) {n : Nat} (hn : 60 ≤ n) : ∃ M', f_X10_quorumBy n 120 (nI v) b M = some (qby N S v b, M') ∧ RV M' tw t S pb pt ∧ Fr P2 M M' := by
  have h1 : mI M 121 ((1 : Int32)).toNatClampNeg = xR S 20 1 := h.rg (k := 20) (i := 1) (by unfold vk; omega)
  unfold qby
  by_cases c : xR S 17 v &&& b = 0
  · refine ⟨M, ?_, h, Fr.rf _ _⟩
    rw [f_X10_quorumBy, rs_f h.1, h.base hv, obd_s, if_pos c, obd_s, if_pos c]
  · rw [if_neg c]
    by_cases c2 : xR S 20 1 = 1
    · obtain ⟨M', q1, q2⟩ := wh_l hN h16 (ht c2) b N M n h (Nat.le_refl _) (fun w _ _ => by omega) (by omega)
      refine ⟨M', ?_, h.fr2 (q2.mo fun o ho => by unfold P2 at ho; omega), q2⟩
      rw [f_X10_quorumBy, rs_f h.1, h.base hv, obd_s, if_neg c, rs_0 h.1, bnd_e, rs_fa h.1, rs_cI h.1, h1, if_pos c2, f_X10_wholeBy, rs_f h.1, rs_0 h.1, bnd_e, rs_fa h.1, rs_c0 h.1, cl0, h.N hN, bnd_e, q1, obd2_s, if_pos c2]
    · refine ⟨M, ?_, h, Fr.rf _ _⟩
      rw [f_X10_quorumBy, rs_f h.1, h.base hv, obd_s, if_neg c, rs_0 h.1, bnd_e, rs_fa h.1, rs_cI h.1, h1, if_neg c2, show (0 : Int32) = nI 0 from rfl, h.q34 hN h16 b N 0 n (by omega) (by omega), if_neg c2]
theorem P2_A : ∀ o, P2 o → PA o := fun o h => by unfold P2 at h; subst h; exact ⟨by decide, by decide⟩
theorem RV.tqm {M : Mem} {tw : Bool} {t : Int32} {S : St} {pb pt : List Row4} (h : RV M tw t S pb pt) {N : Nat} (hN : xR S 20 0 = nI N) (h16 : N ≤ 16) (ht : xR S 20 1 = 1 → N % 2 = 1) {v : Nat} (hv : v < 16) {n : Nat} (hn : 60 ≤ n) : ∃ M', f_X10_quorumNow n 120 (nI v) M = some (qm N S v, M') ∧ RV M' tw t S pb pt ∧ Fr P2 M M' := by
  obtain ⟨M', q1, q2, q3⟩ := h.tqby hN h16 ht hv (bkm N S) hn
  refine ⟨M', ?_, q2, q3⟩
  rw [f_X10_quorumNow, rs_f h.1, h.bro hN h16 (by omega), obd_s, q1, obd2_s]
  rfl
