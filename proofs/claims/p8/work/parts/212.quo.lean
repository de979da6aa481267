/-! ===== the quorum of a node now, by the reference ===== -/
/-- in a tree: WHOLE of v by the broken ones b -/
def whF (N : Nat) (b : Int32) : Nat → Nat → Int32
  | 0, _ => 0
  | f + 1, v =>
    let l := if 2 * v + 1 < N then whF N b f (2 * v + 1) else 0
    let r := if 2 * v + 1 < N then whF N b f (2 * v + 2) else 0
    if bt b v then (if l = 0 then 0 else if r = 0 then 0 else l ||| r)
    else if 2 * v + 1 < N then (if l = 0 then (if r = 0 then 0 else r ||| ((1 : Int32) <<< (nI v &&& 31))) else l ||| ((1 : Int32) <<< (nI v &&& 31)))
    else (1 : Int32) <<< (nI v &&& 31)
theorem whF_s (N : Nat) (b : Int32) : ∀ (f v : Nat), N ≤ v + f → v < N → ∀ f', N ≤ v + f' → whF N b f v = whF N b f' v := by
  intro f
  induction f with
  | zero => intro v h1 h2; omega
  | succ f ih =>
    intro v h1 h2 f' h3
    obtain ⟨f', rfl⟩ : ∃ m, f' = m + 1 := ⟨f' - 1, by omega⟩
    by_cases c : 2 * v + 1 < N
    · have e1 := ih (2 * v + 1) (by omega) c f' (by omega)
      by_cases c2 : 2 * v + 2 < N
      · have e2 := ih (2 * v + 2) (by omega) c2 f' (by omega)
        unfold whF
        simp only [c, if_true, e1, e2]
      · have z : ∀ g, 2 * v + 2 = N → whF N b g (2 * v + 2) = whF N b g (2 * v + 2) := fun _ _ => rfl
        have e2 : whF N b f (2 * v + 2) = whF N b f' (2 * v + 2) := by
          obtain ⟨g, rfl⟩ : ∃ m, f = m + 1 := ⟨f - 1, by omega⟩
          obtain ⟨g', rfl⟩ : ∃ m, f' = m + 1 := ⟨f' - 1, by omega⟩
          unfold whF
          have : ¬ 2 * (2 * v + 2) + 1 < N := by omega
          simp only [this, if_false]
        unfold whF
        simp only [c, if_true, e1, e2]
    · unfold whF
      simp only [c, if_false]
def wh (N : Nat) (b : Int32) (v : Nat) : Int32 := whF N b N v
theorem wh_e {N : Nat} (b : Int32) {v : Nat} (hv : v < N) (hN : N % 2 = 1) : wh N b v =
    (let l := if 2 * v + 1 < N then wh N b (2 * v + 1) else 0
    let r := if 2 * v + 1 < N then wh N b (2 * v + 2) else 0
    if bt b v then (if l = 0 then 0 else if r = 0 then 0 else l ||| r)
    else if 2 * v + 1 < N then (if l = 0 then (if r = 0 then 0 else r ||| ((1 : Int32) <<< (nI v &&& 31))) else l ||| ((1 : Int32) <<< (nI v &&& 31)))
    else (1 : Int32) <<< (nI v &&& 31)) := by
  unfold wh
  obtain ⟨f, rfl⟩ : ∃ m, N = m + 1 := ⟨N - 1, by omega⟩
  conv => lhs; unfold whF
  by_cases c : 2 * v + 1 < f + 1
  · have e1 := whF_s (f + 1) b f (2 * v + 1) (by omega) c (f + 1) (by omega)
    have e2 := whF_s (f + 1) b f (2 * v + 2) (by omega) (by omega) (f + 1) (by omega)
    simp only [c, if_true, e1, e2]
  · simp only [c, if_false]
/-- the broken ones, as the reference puts them together -/
def bk (i d : Nat) (S : St) (x : Int32) : Int32 := (List.range' i d).foldl (fun x v => x ||| (xR S 7 v <<< (nI v &&& 31))) x
theorem RV.brk {M : Mem} {tw : Bool} {t : Int32} {S : St} {pb pt : List Row4} (h : RV M tw t S pb pt) {N : Nat} (hN : xR S 20 0 = nI N) (h16 : N ≤ 16) : ∀ (d i n : Nat) (x : Int32), i + d = N → d + 1 ≤ n → f_X10_brokenOnes_4 M n 120 x (nI i) = some (bk i d S x) := by
  intro d
  induction d with
  | zero =>
    intro i n x hi hn
    obtain ⟨n, rfl⟩ : ∃ m, n = m + 1 := ⟨n - 1, by omega⟩
    rw [f_X10_brokenOnes_4, rs_f h.1, rs_0 h.1, bnd_e, rs_fa h.1, rs_c0 h.1, cl0, h.N hN, if_pos (nI_le (by omega) (by omega))]
    rfl
  | succ d ih =>
    intro i n x hi hn
    obtain ⟨n, rfl⟩ : ∃ m, n = m + 1 := ⟨n - 1, by omega⟩
    rw [f_X10_brokenOnes_4, rs_f h.1, rs_0 h.1, bnd_e, rs_fa h.1, rs_c0 h.1, cl0, h.N hN, if_neg (nI_ge (by omega) (by omega)), h.get7 (by omega), obd_s, bnd_e, bnd_e, nI_1, ih _ _ _ (by omega) (by omega)]
    unfold bk
    rw [List.range'_succ, List.foldl_cons]
def bkm (N : Nat) (S : St) : Int32 := bk 0 N S 0
theorem RV.bro {M : Mem} {tw : Bool} {t : Int32} {S : St} {pb pt : List Row4} (h : RV M tw t S pb pt) {N : Nat} (hN : xR S 20 0 = nI N) (h16 : N ≤ 16) {n : Nat} (hn : 40 ≤ n) : f_X10_brokenOnes n 120 M = some (bkm N S) := by
  rw [f_X10_brokenOnes]
  exact h.brk hN h16 N 0 n 0 (by omega) (by omega)
def fub (i d : Nat) (S : St) (b : Int32) : Int32 := match (List.range' i d).find? (fun w => decide (xR S 17 w &&& b = 0)) with
  | none => 0
  | some w => xR S 17 w
theorem RV.base {M : Mem} {tw : Bool} {t : Int32} {S : St} {pb pt : List Row4} (h : RV M tw t S pb pt) {v : Nat} (hv : v < 16) : f_X10_baseOf 120 (nI v) M = some (xR S 17 v) :=
  (f_baseOf h.toRK hv).trans (congrArg some (h.rg (k := 17) (i := v) (by unfold vk; omega)))
theorem RV.q34 {M : Mem} {tw : Bool} {t : Int32} {S : St} {pb pt : List Row4} (h : RV M tw t S pb pt) {N : Nat} (hN : xR S 20 0 = nI N) (h16 : N ≤ 16) (b : Int32) : ∀ (d i n : Nat), i + d = N → d + 1 ≤ n → f_X10_quorumBy_34 n 120 b (nI i) M = some (fub i d S b, M) := by
  intro d
  induction d with
  | zero =>
    intro i n hi hn
    obtain ⟨n, rfl⟩ : ∃ m, n = m + 1 := ⟨n - 1, by omega⟩
    rw [f_X10_quorumBy_34, rs_f h.1, rs_0 h.1, bnd_e, rs_fa h.1, rs_c0 h.1, cl0, h.N hN, if_pos (nI_le (by omega) (by omega))]
    rfl
  | succ d ih =>
    intro i n hi hn
    obtain ⟨n, rfl⟩ : ∃ m, n = m + 1 := ⟨n - 1, by omega⟩
    rw [f_X10_quorumBy_34, rs_f h.1, rs_0 h.1, bnd_e, rs_fa h.1, rs_c0 h.1, cl0, h.N hN, if_neg (nI_ge (by omega) (by omega)), h.base (by omega), obd_s]
    unfold fub
    rw [List.range'_succ, List.find?_cons]
    by_cases c : xR S 17 i &&& b = 0
    · rw [if_pos c, obd_s]
      simp [c]
    · rw [if_neg c, bnd_e, nI_1, ih _ _ (by omega) (by omega)]
      simp only [c, decide_false]
      rfl
theorem rs_1 {M : Mem} (h : RS M) : mR M 120 1 = 122 := h.r (by decide)
theorem rs_f1 {α : Type} {M : Mem} (h : RS M) (x : Option α) : chk (isO M 100 122) x = x := chk_t (h.io (by decide) (by decide) (by decide))
theorem rs_c1 {α : Type} {M : Mem} (h : RS M) {k : Nat} (hk : k < 16) (x : Option α) : chk (inB (nI k) (mLn M 122)) x = x := by
  refine chk_t ?_
  rw [h.ln (c := 16) (by decide) (by decide) (by decide)]; exact inB_n hk (by decide)
theorem RV.fr2 {M M' : Mem} {tw : Bool} {t : Int32} {S : St} {pb pt : List Row4} (h : RV M tw t S pb pt) (f : Fr (fun o => o ≠ 120 ∧ o ≠ 121 ∧ o ≠ 123) M M') : RV M' tw t S pb pt := by
  obtain ⟨hS, ht, hA, hw, hl, hb1, hb2⟩ := h
  have e : ∀ b, mI M' 121 b = mI M 121 b := fun b => f.2.1 121 (by omega) b
  refine ⟨hS.e f.1, (f.2.1 120 (by omega) 3).trans ht, fun k i hv => (e _).trans (hA k i hv), hw.cg (fun b _ _ => e b) rfl, ⟨(e _).trans hl.1, hl.2.1, hl.2.2.cg fun j _ _ => ⟨e _, f.2.1 123 (by omega) _⟩⟩, hb1.cg (e _) (fun b _ _ => e b), hb2.cg (e _) (fun b _ _ => e b)⟩
theorem c2v1 (v : Nat) : ((2 : Int32) * nI v) + (1 : Int32) = nI (2 * v + 1) := by rw [c2n, nI_1]
theorem c2v2 (v : Nat) : ((2 : Int32) * nI v) + (2 : Int32) = nI (2 * v + 2) := by rw [c2n, show (2 : Int32) = nI 2 from rfl, nI_add]
def P2 (o : Nat) : Prop := o = 122
set_option maxHeartbeats 1000000 in
theorem wh_l {tw : Bool} {t : Int32} {S : St} {pb pt : List Row4} {N : Nat} (hN : xR S 20 0 = nI N) (h16 : N ≤ 16) (hodd : N % 2 = 1) (b : Int32) : ∀ (r : Nat) (M : Mem) (n : Nat), RV M tw t S pb pt → r ≤ N → (∀ w, r ≤ w → w < N → mI M 122 w = wh N b w) → r + 2 ≤ n → ∃ M', f_X10_wholeBy_9 n 120 b (nI r - 1) M = some (wh N b 0, M') ∧ Fr P2 M M' := by
  intro r
  induction r with
  | zero =>
    intro M n h hr hw hn
    obtain ⟨n, rfl⟩ : ∃ m, n = m + 1 := ⟨n - 1, by omega⟩
    refine ⟨M, ?_, Fr.rf _ _⟩
    rw [f_X10_wholeBy_9, if_pos (by decide), rs_f h.1, rs_1 h.1, bnd_e, rs_f1 h.1, show chk (inB (0 : Int32) (mLn M 122)) (some (mI M 122 ((0 : Int32)).toNatClampNeg, M)) = some (mI M 122 ((0 : Int32)).toNatClampNeg, M) from rs_c1 h.1 (k := 0) (by decide) _, cl0, hw 0 (by omega) (by omega)]
  | succ r ih =>
    intro M n h hr hw hn
    obtain ⟨n, rfl⟩ : ∃ m, n = m + 1 := ⟨n - 1, by omega⟩
    have e1 : nI (r + 1) - (1 : Int32) = nI r := nI_pred r
    have fin : ∀ (x : Int32), x = wh N b r → ∃ M', f_X10_wholeBy_9 n 120 b (nI r + (-1 : Int32)) (sI M 122 r x) = some (wh N b 0, M') ∧ Fr P2 M M' := by
      intro x hx
      have h2 : RV (sI M 122 r x) tw t S pb pt := h.fr2 (Fr.tsI (by decide))
      obtain ⟨M', q1, q2⟩ := ih (sI M 122 r x) n h2 (by omega) (fun w hw1 hw2 => by
        rw [mI_sI]
        by_cases c : w = r
        · rw [if_pos ⟨rfl, c⟩, hx, c]
        · rw [if_neg (fun q => c q.2)]; exact hw w (by omega) hw2) (by omega)
      refine ⟨M', ?_, Fr.tr (Fr.tsI rfl) q2⟩
      rw [show nI r + (-1 : Int32) = nI r - 1 from (Int32.sub_eq_add_neg _ _).symm]
      exact q1
    rw [e1]
    have we := wh_e b (v := r) (by omega) hodd
    have hh := f_has10 b (v := r) (by omega) M
    have nb : ¬ nI r < 0 := nI_pos (by omega)
    by_cases c : 2 * r + 1 < N
    · simp only [c, if_true] at we
      have w1 := hw (2 * r + 1) (by omega) c
      have w2 := hw (2 * r + 2) (by omega) (by omega)
      have start : ∀ y, f_X10_wholeBy_71 (f_X10_wholeBy_9 n) n 120 b (nI r) 0 (wh N b (2 * r + 1)) (wh N b (2 * r + 2)) M = y → f_X10_wholeBy_9 (n + 1) 120 b (nI r) M = y := by
        intro y hy
        rw [f_X10_wholeBy_9, if_neg nb, rs_f h.1, rs_0 h.1, bnd_e, rs_fa h.1, rs_c0 h.1, cl0, h.N hN, c2v1, if_pos (nI_lt c (by omega)), f_X10_wholeBy_32, if_pos rfl, rs_f h.1, rs_1 h.1, bnd_e, rs_f1 h.1, c2v1, rs_c1 h.1 (by omega), cl_n (by omega), w1, f_X10_wholeBy_51, if_pos rfl, rs_f h.1, rs_1 h.1, bnd_e, rs_f1 h.1, c2v2, rs_c1 h.1 (by omega), cl_n (by omega), w2]
        exact hy
      have go : ∀ y, (if bt b r = true then (if wh N b (2 * r + 1) = 0 then f_X10_wholeBy_9 n 120 b (nI r + (-1 : Int32)) (sI M 122 r 0) else if wh N b (2 * r + 2) = 0 then f_X10_wholeBy_9 n 120 b (nI r + (-1 : Int32)) (sI M 122 r 0) else f_X10_wholeBy_9 n 120 b (nI r + (-1 : Int32)) (sI M 122 r (wh N b (2 * r + 1) ||| wh N b (2 * r + 2)))) else (if wh N b (2 * r + 1) = 0 then (if wh N b (2 * r + 2) = 0 then f_X10_wholeBy_9 n 120 b (nI r + (-1 : Int32)) (sI M 122 r 0) else f_X10_wholeBy_9 n 120 b (nI r + (-1 : Int32)) (sI M 122 r (wh N b (2 * r + 2) ||| ((1 : Int32) <<< (nI r &&& 31))))) else f_X10_wholeBy_9 n 120 b (nI r + (-1 : Int32)) (sI M 122 r (wh N b (2 * r + 1) ||| ((1 : Int32) <<< (nI r &&& 31)))))) = y → f_X10_wholeBy_71 (f_X10_wholeBy_9 n) n 120 b (nI r) 0 (wh N b (2 * r + 1)) (wh N b (2 * r + 2)) M = y := by
        intro y hy
        rw [f_X10_wholeBy_71, hh, obd_s]
        cases hb : bt b r
        · rw [hb] at hy
          simp only [Bool.false_eq_true, if_false, if_true] at hy ⊢
          simp only [rs_f h.1, rs_1 h.1, bnd_e, rs_f1 h.1, rs_c1 h.1 (show r < 16 by omega), cl_n (show r < 10465 by omega)]
          exact hy
        · rw [hb] at hy
          simp only [if_true, ne10, if_false] at hy ⊢
          simp only [rs_f h.1, rs_1 h.1, bnd_e, rs_f1 h.1, rs_c1 h.1 (show r < 16 by omega), cl_n (show r < 10465 by omega)]
          exact hy
      cases hb : bt b r
      · rw [hb] at we go
        simp only [Bool.false_eq_true, if_false] at we go
        by_cases c1 : wh N b (2 * r + 1) = 0
        · rw [if_pos c1] at we go
          by_cases c2 : wh N b (2 * r + 2) = 0
          · rw [if_pos c2] at we go
            obtain ⟨M', q1, q2⟩ := fin _ we.symm
            exact ⟨M', start _ (go _ q1), q2⟩
          · rw [if_neg c2] at we go
            obtain ⟨M', q1, q2⟩ := fin _ we.symm
            exact ⟨M', start _ (go _ q1), q2⟩
        · rw [if_neg c1] at we go
          obtain ⟨M', q1, q2⟩ := fin _ we.symm
          exact ⟨M', start _ (go _ q1), q2⟩
      · rw [hb] at we go
        simp only [if_true] at we go
        by_cases c1 : wh N b (2 * r + 1) = 0
        · rw [if_pos c1] at we go
          obtain ⟨M', q1, q2⟩ := fin _ we.symm
          exact ⟨M', start _ (go _ q1), q2⟩
        · rw [if_neg c1] at we go
          by_cases c2 : wh N b (2 * r + 2) = 0
          · rw [if_pos c2] at we go
            obtain ⟨M', q1, q2⟩ := fin _ we.symm
            exact ⟨M', start _ (go _ q1), q2⟩
          · rw [if_neg c2] at we go
            obtain ⟨M', q1, q2⟩ := fin _ we.symm
            exact ⟨M', start _ (go _ q1), q2⟩
    · simp only [c, if_false] at we
      have start : ∀ y, f_X10_wholeBy_71 (f_X10_wholeBy_9 n) n 120 b (nI r) 1 0 0 M = y → f_X10_wholeBy_9 (n + 1) 120 b (nI r) M = y := by
        intro y hy
        rw [f_X10_wholeBy_9, if_neg nb, rs_f h.1, rs_0 h.1, bnd_e, rs_fa h.1, rs_c0 h.1, cl0, h.N hN, c2v1, if_neg (nI_nlt (by omega) (by omega)), f_X10_wholeBy_32, if_neg ne10, f_X10_wholeBy_51, if_neg ne10]
        exact hy
      cases hb : bt b r
      · rw [hb] at we
        simp only [Bool.false_eq_true, if_false] at we
        obtain ⟨M', q1, q2⟩ := fin _ we.symm
        refine ⟨M', start _ ?_, q2⟩
        rw [f_X10_wholeBy_71, hh, obd_s, hb]
        simp only [Bool.false_eq_true, if_false, if_true, ne10, rs_f h.1, rs_1 h.1, bnd_e, rs_f1 h.1, rs_c1 h.1 (show r < 16 by omega), cl_n (show r < 10465 by omega)]
        exact q1
      · rw [hb] at we
        simp only [if_true] at we
        obtain ⟨M', q1, q2⟩ := fin _ we.symm
        refine ⟨M', start _ ?_, q2⟩
        rw [f_X10_wholeBy_71, hh, obd_s, hb]
        simp only [if_true, ne10, if_false, rs_f h.1, rs_1 h.1, bnd_e, rs_f1 h.1, rs_c1 h.1 (show r < 16 by omega), cl_n (show r < 10465 by omega)]
        exact q1
theorem rs_cI {α : Type} {M : Mem} (h : RS M) (x : Option α) : chk (inB (1 : Int32) (mLn M 121)) x = x := rs_c h (k := 1) (by decide) x
/-- the quorum of v by the broken ones b -/
def qby (N : Nat) (S : St) (v : Nat) (b : Int32) : Int32 := if xR S 17 v &&& b = 0 then xR S 17 v else if xR S 20 1 = 1 then wh N b 0 else fub 0 N S b
def qm (N : Nat) (S : St) (v : Nat) : Int32 := qby N S v (bkm N S)
theorem RV.tqby {M : Mem} {tw : Bool} {t : Int32} {S : St} {pb pt : List Row4} (h : RV M tw t S pb pt) {N : Nat} (hN : xR S 20 0 = nI N) (h16 : N ≤ 16) (ht : xR S 20 1 = 1 → N % 2 = 1) {v : Nat} (hv : v < 16) (b : Int32) {n : Nat} (hn : 60 ≤ n) : ∃ M', f_X10_quorumBy n 120 (nI v) b M = some (qby N S v b, M') ∧ RV M' tw t S pb pt ∧ Fr P2 M M' := by
  have h1 : mI M 121 ((1 : Int32)).toNatClampNeg = xR S 20 1 := h.rg (k := 20) (i := 1) (by unfold vk; omega)
  unfold qby
  by_cases c : xR S 17 v &&& b = 0
  · refine ⟨M, ?_, h, Fr.rf _ _⟩
    rw [f_X10_quorumBy, rs_f h.1, h.base hv, obd_s, if_pos c, obd_s, if_pos c]
  · rw [if_neg c]
    by_cases c2 : xR S 20 1 = 1
    · obtain ⟨M', q1, q2⟩ := wh_l hN h16 (ht c2) b N M n h (Nat.le_refl _) (fun w _ _ => by omega) (by omega)
      refine ⟨M', ?_, h.fr2 (q2.mo fun o ho => by unfold P2 at ho; omega), q2⟩
      rw [f_X10_quorumBy, rs_f h.1, h.base hv, obd_s, if_neg c, rs_0 h.1, bnd_e, rs_fa h.1, rs_cI h.1, h1, if_pos c2, f_X10_wholeBy, rs_f h.1, rs_0 h.1, bnd_e, rs_fa h.1, rs_c0 h.1, cl0, h.N hN, bnd_e, q1, obd2_s, if_pos c2]
    · refine ⟨M, ?_, h, Fr.rf _ _⟩
      rw [f_X10_quorumBy, rs_f h.1, h.base hv, obd_s, if_neg c, rs_0 h.1, bnd_e, rs_fa h.1, rs_cI h.1, h1, if_neg c2, show (0 : Int32) = nI 0 from rfl, h.q34 hN h16 b N 0 n (by omega) (by omega), if_neg c2]
theorem P2_A : ∀ o, P2 o → PA o := fun o h => by unfold P2 at h; subst h; exact ⟨by decide, by decide⟩
theorem RV.tqm {M : Mem} {tw : Bool} {t : Int32} {S : St} {pb pt : List Row4} (h : RV M tw t S pb pt) {N : Nat} (hN : xR S 20 0 = nI N) (h16 : N ≤ 16) (ht : xR S 20 1 = 1 → N % 2 = 1) {v : Nat} (hv : v < 16) {n : Nat} (hn : 60 ≤ n) : ∃ M', f_X10_quorumNow n 120 (nI v) M = some (qm N S v, M') ∧ RV M' tw t S pb pt ∧ Fr P2 M M' := by
  obtain ⟨M', q1, q2, q3⟩ := h.tqby hN h16 ht hv (bkm N S) hn
  refine ⟨M', ?_, q2, q3⟩
  rw [f_X10_quorumNow, rs_f h.1, h.bro hN h16 (by omega), obd_s, q1, obd2_s]
  rfl
/-! ===== the reference asks, leaves ===== -/
def sAl (t : Int32) (k f : Nat) (set s : Int32) (ws : List Nat) (S : St) : St := ws.foldl (fun S w => if bt set w then sn t k f w s S else S) S
def sA (t : Int32) (N k f : Nat) (set s : Int32) (S : St) : St := sAl t k f set s (List.range N) S
theorem sAl_len (t : Int32) {k f : Nat} (hf : f < 16) (set s : Int32) : ∀ (ws : List Nat) (S : St), (∀ w, w ∈ ws → w < 16) → (fl (sAl t k f set s ws S)).length ≤ (fl S).length + ws.length := by
  intro ws
  induction ws with
  | nil => intro S _; exact Nat.le_refl _
  | cons w ws ih =>
    intro S hw
    have := hw w (by simp)
    unfold sAl
    rw [List.foldl_cons]
    have h2 := ih (if bt set w then sn t k f w s S else S) (fun w hx => hw w (by simp [hx]))
    unfold sAl at h2
    refine Nat.le_trans h2 ?_
    rw [List.length_cons]
    split
    · rw [fl_sn_len (by omega)]; omega
    · omega
theorem sn_R (t : Int32) (k f g : Nat) (s : Int32) (S : St) {a b : Nat} (h : a ≠ 16) : xR (sn t k f g s S) a b = xR S a b := by
  unfold sn
  rw [xR_uL, xR_uR, if_neg (fun q => h q.1)]
theorem sAl_R (t : Int32) (k f : Nat) (set s : Int32) {a b : Nat} (h : a ≠ 16) : ∀ (ws : List Nat) (S : St), xR (sAl t k f set s ws S) a b = xR S a b := by
  intro ws
  induction ws with
  | nil => intro S; rfl
  | cons w ws ih =>
    intro S
    unfold sAl
    rw [List.foldl_cons]
    have := ih (if bt set w then sn t k f w s S else S)
    unfold sAl at this
    rw [this]
    split
    · exact sn_R _ _ _ _ _ _ h
    · rfl
theorem RV.sal {tw : Bool} {t : Int32} {pb pt : List Row4} {N : Nat} (h16 : N ≤ 16) {k f : Nat} (hk : k < 6) (hf : f < 16) (set s : Int32) : ∀ (d i n : Nat) (M : Mem) (S : St), RV M tw t S pb pt → xR S 20 0 = nI N → i + d = N → (fl S).length + d ≤ 9000 → d + 9101 ≤ n → ∃ M', f_X10_sendAll_3 n 120 (nI k) (nI f) set s (nI i) M = some M' ∧ RV M' tw t (sAl t k f set s (List.range' i d) S) pb pt ∧ Fr PA M M' := by
  intro d
  induction d with
  | zero =>
    intro i n M S h hN hi hl hn
    obtain ⟨n, rfl⟩ : ∃ m, n = m + 1 := ⟨n - 1, by omega⟩
    refine ⟨M, ?_, h, Fr.rf _ _⟩
    rw [f_X10_sendAll_3, rs_f h.1, rs_0 h.1, bnd_e, rs_fa h.1, rs_c0 h.1, cl0, h.N hN, if_pos (nI_le (by omega) (by omega))]
  | succ d ih =>
    intro i n M S h hN hi hl hn
    obtain ⟨n, rfl⟩ : ∃ m, n = m + 1 := ⟨n - 1, by omega⟩
    have start : ∀ y, (if bt set i = true then obd (f_X10_send n 120 (nI k) (nI f) (nI i) s M) (fun M15 => f_X10_sendAll_3 n 120 (nI k) (nI f) set s (nI (i + 1)) M15) else f_X10_sendAll_3 n 120 (nI k) (nI f) set s (nI (i + 1)) M) = y → f_X10_sendAll_3 (n + 1) 120 (nI k) (nI f) set s (nI i) M = y := by
      intro y hy
      rw [f_X10_sendAll_3, rs_f h.1, rs_0 h.1, bnd_e, rs_fa h.1, rs_c0 h.1, cl0, h.N hN, if_neg (nI_ge (by omega) (by omega)), f_has10 _ (by omega), obd_s]
      simp only [bnd_e, nI_1]
      cases hb : bt set i
      · rw [hb] at hy; simpa using hy
      · rw [hb] at hy; simpa [ne10] using hy
    have el : sAl t k f set s (List.range' i (d + 1)) S = sAl t k f set s (List.range' (i + 1) d) (if bt set i then sn t k f i s S else S) := by
      unfold sAl
      rw [List.range'_succ, List.foldl_cons]
    rw [el]
    by_cases c : bt set i = true
    · obtain ⟨M1, e1, h1, f1⟩ := h.send (k := k) (f := f) (g := i) (s := s) hf (by omega) hk (by omega) (n := n) (by omega)
      obtain ⟨M2, e2, h2, f2⟩ := ih (i + 1) n M1 _ h1 ((sn_R _ _ _ _ _ _ (by decide)).trans hN) (by omega) (by rw [fl_sn_len (by omega)]; omega) (by omega)
      rw [if_pos c] at start ⊢
      exact ⟨M2, start _ (by rw [e1, obd_s, e2]), h2, Fr.tr f1 f2⟩
    · obtain ⟨M2, e2, h2, f2⟩ := ih (i + 1) n M S h hN (by omega) (by omega) (by omega)
      rw [if_neg c] at start ⊢
      exact ⟨M2, start _ e2, h2, f2⟩
theorem RV.tsA {M : Mem} {tw : Bool} {t : Int32} {S : St} {pb pt : List Row4} (h : RV M tw t S pb pt) {N : Nat} (hN : xR S 20 0 = nI N) (h16 : N ≤ 16) {k f : Nat} (hk : k < 6) (hf : f < 16) (set s : Int32) (hl : (fl S).length + N ≤ 9000) {n : Nat} (hn : 9200 ≤ n) : ∃ M', f_X10_sendAll n 120 (nI k) (nI f) set s M = some M' ∧ RV M' tw t (sA t N k f set s S) pb pt ∧ Fr PA M M' := by
  obtain ⟨M', e, h', f'⟩ := RV.sal (tw := tw) (t := t) (pb := pb) (pt := pt) h16 hk hf set s N 0 n M S h hN (by omega) hl (by omega)
  refine ⟨M', ?_, ?_, f'⟩
  · rw [f_X10_sendAll]; exact e
  · unfold sA; rw [List.range_eq_range']; exact h'
def rst (v : Nat) (S : St) : St := uR (uR (uR (uR (uR S 3 v 0) 4 v 0) 5 v 0) 6 v 0) 0 v 0
theorem RV.trst {M : Mem} {tw : Bool} {t : Int32} {S : St} {pb pt : List Row4} (h : RV M tw t S pb pt) {v : Nat} (hv : v < 16) {n : Nat} (hn : 10 ≤ n) : ∃ M', f_X10_rest n 120 (nI v) M = some M' ∧ RV M' tw t (rst v S) pb pt ∧ Fr PA M M' := by
  obtain ⟨n, rfl⟩ : ∃ m, n = m + 5 := ⟨n - 5, by omega⟩
  have h1 := h.st (vk_n (k := 3) (by decide) hv) 0
  have h2 := h1.st (vk_n (k := 4) (by decide) hv) 0
  have h3 := h2.st (vk_n (k := 5) (by decide) hv) 0
  have h4 := h3.st (vk_n (k := 6) (by decide) hv) 0
  have h5 := h4.st (vk_n (k := 0) (by decide) hv) 0
  refine ⟨_, ?_, h5, Fr.tr Fr.tad (Fr.tr Fr.tad (Fr.tr Fr.tad (Fr.tr Fr.tad Fr.tad)))⟩
  rw [f_X10_rest, f_X10_rest_2, if_neg (by decide), rs_f h.1, h.let3 hv, obd_s, show (3 : Int32) + 1 = 4 from rfl, bnd_e, f_X10_rest_2, if_neg (by decide), rs_f h1.1, h1.let4 hv, obd_s, show (4 : Int32) + 1 = 5 from rfl, bnd_e, f_X10_rest_2, if_neg (by decide), rs_f h2.1, h2.let5 hv, obd_s, show (5 : Int32) + 1 = 6 from rfl, bnd_e, f_X10_rest_2, if_neg (by decide), rs_f h3.1, h3.let6 hv, obd_s, show (6 : Int32) + 1 = 7 from rfl, bnd_e, f_X10_rest_2, if_pos (by decide), rs_f h4.1, h4.let0 hv, obd_s]
/-- to leave, to withdraw -/
def lv (t : Int32) (N v : Nat) (S : St) : St := sA t N 5 v (xR S 3 v) (xR S 2 v) (rst v S)
theorem RV.tlv {M : Mem} {tw : Bool} {t : Int32} {S : St} {pb pt : List Row4} (h : RV M tw t S pb pt) {N : Nat} (hN : xR S 20 0 = nI N) (h16 : N ≤ 16) {v : Nat} (hv : v < 16) (hl : (fl S).length + N ≤ 9000) {n : Nat} (hn : 9200 ≤ n) : ∃ M', f_X10_leaveNow n 120 (nI v) M = some M' ∧ RV M' tw t (lv t N v S) pb pt ∧ Fr PA M M' := by
  obtain ⟨M1, e1, h1, f1⟩ := h.trst hv (n := n) (by omega)
  have r2 : xR (rst v S) 2 v = xR S 2 v := by unfold rst; simp [xR_uR]
  have r20 : xR (rst v S) 20 0 = nI N := by unfold rst; simp [xR_uR, hN]
  obtain ⟨M2, e2, h2, f2⟩ := h1.tsA r20 h16 (k := 5) (f := v) (by decide) hv (xR S 3 v) (xR S 2 v) hl hn
  refine ⟨M2, ?_, h2, Fr.tr f1 f2⟩
  rw [f_X10_leaveNow, rs_f h.1, h.get3 hv, obd_s, e1, obd_s, rs_f h1.1, h1.get2 hv, obd_s, r2, show (5 : Int32) = nI 5 from rfl, e2, obd_s]
def mayA (N v : Nat) (S : St) : Bool := decide (xR S 0 v = 0) && (decide (xR S 7 v = 0) && !decide (qm N S v = 0))
theorem RV.can {M : Mem} {tw : Bool} {t : Int32} {S : St} {pb pt : List Row4} (h : RV M tw t S pb pt) {N : Nat} (hN : xR S 20 0 = nI N) (h16 : N ≤ 16) (ht : xR S 20 1 = 1 → N % 2 = 1) {v : Nat} (hv : v < 16) {n : Nat} (hn : 60 ≤ n) : ∃ M', f_X10_canAsk n 120 (nI v) M = some (if mayA N v S then 1 else 0, M') ∧ RV M' tw t S pb pt ∧ Fr P2 M M' := by
  unfold mayA
  by_cases c0 : xR S 0 v = 0
  · by_cases c7 : xR S 7 v = 0
    · obtain ⟨M', q1, q2, q3⟩ := h.tqm hN h16 ht hv hn
      refine ⟨M', ?_, q2, q3⟩
      rw [f_X10_canAsk, rs_f h.1, h.get0 hv, obd_s, if_pos c0, h.get7 hv, obd_s, if_pos c7, q1, obd2_s]
      by_cases c : qm N S v = 0
      · rw [if_pos c]; simp [c0, c7, c]
      · rw [if_neg c]; simp [c0, c7, c]
    · refine ⟨M, ?_, h, Fr.rf _ _⟩
      rw [f_X10_canAsk, rs_f h.1, h.get0 hv, obd_s, if_pos c0, h.get7 hv, obd_s, if_neg c7]
      simp [c0, c7]
  · refine ⟨M, ?_, h, Fr.rf _ _⟩
    rw [f_X10_canAsk, rs_f h.1, h.get0 hv, obd_s, if_neg c0]
    simp [c0]
theorem qm_uR {N : Nat} {S : St} {k i v : Nat} {x : Int32} (h7 : k ≠ 7) (h17 : k ≠ 17) (h20 : k ≠ 20) : qm N (uR S k i x) v = qm N S v := by
  have e7 : ∀ w, xR (uR S k i x) 7 w = xR S 7 w := fun w => by rw [xR_uR, if_neg (fun q => h7 q.1.symm)]
  have e17 : ∀ w, xR (uR S k i x) 17 w = xR S 17 w := fun w => by rw [xR_uR, if_neg (fun q => h17 q.1.symm)]
  have e20 : ∀ w, xR (uR S k i x) 20 w = xR S 20 w := fun w => by rw [xR_uR, if_neg (fun q => h20 q.1.symm)]
  unfold qm qby bkm bk fub
  simp only [e7, e17, e20]
/-- to ask -/
def ak (t : Int32) (N v : Nat) (S : St) : St :=
  let S1 := uR (uR S 1 v (xR S 1 v + 1)) 2 v (xR S 1 v + 1)
  let S2 := uR (uR (uR (uR (uR S1 3 v (qm N S v)) 4 v 0) 5 v 0) 6 v 0) 0 v 1
  let S3 := uR (uR S2 13 v (xR S 15 1)) 14 v 0
  sA t N 0 v (qm N S v) (xR S 1 v + 1) S3
set_option maxHeartbeats 2000000 in
theorem RV.tak {M : Mem} {tw : Bool} {t : Int32} {S : St} {pb pt : List Row4} (h : RV M tw t S pb pt) {N : Nat} (hN : xR S 20 0 = nI N) (h16 : N ≤ 16) (ht : xR S 20 1 = 1 → N % 2 = 1) {v : Nat} (hv : v < 16) (hl : (fl S).length + N ≤ 9000) {n : Nat} (hn : 9200 ≤ n) : ∃ M', f_X10_askNow n 120 (nI v) M = some M' ∧ RV M' tw t (ak t N v S) pb pt ∧ Fr PA M M' := by
  have v13 : vk 13 v := by unfold vk; omega
  have v14 : vk 14 v := by unfold vk; omega
  have h1 := h.st (vk_n (k := 1) (by decide) hv) (xR S 1 v + 1)
  have r1 : xR (uR S 1 v (xR S 1 v + 1)) 1 v = xR S 1 v + 1 := by rw [xR_uR, if_pos ⟨rfl, rfl⟩]
  have h2 := h1.st (vk_n (k := 2) (by decide) hv) (xR S 1 v + 1)
  generalize hM1 : sI M 121 (ad 1 v) (xR S 1 v + 1) = M1 at h1 h2
  generalize hM2 : sI M1 121 (ad 2 v) (xR S 1 v + 1) = M2 at h2
  have n20 : xR (uR (uR S 1 v (xR S 1 v + 1)) 2 v (xR S 1 v + 1)) 20 0 = nI N := by simp [xR_uR, hN]
  have n21 : xR (uR (uR S 1 v (xR S 1 v + 1)) 2 v (xR S 1 v + 1)) 20 1 = xR S 20 1 := by simp [xR_uR]
  obtain ⟨M3, e3, h3, f3⟩ := h2.tqm n20 h16 (by rw [n21]; exact ht) hv (n := n) (by omega)
  have eq : qm N (uR (uR S 1 v (xR S 1 v + 1)) 2 v (xR S 1 v + 1)) v = qm N S v := by rw [qm_uR (by decide) (by decide) (by decide), qm_uR (by decide) (by decide) (by decide)]
  rw [eq] at e3
  have h4 := h3.st (vk_n (k := 3) (by decide) hv) (qm N S v)
  have h5 := h4.st (vk_n (k := 4) (by decide) hv) 0
  have h6 := h5.st (vk_n (k := 5) (by decide) hv) 0
  have h7 := h6.st (vk_n (k := 6) (by decide) hv) 0
  have h8 := h7.st (vk_n (k := 0) (by decide) hv) 1
  have h9 := h8.st v13 (xR S 15 1)
  have h10 := h9.st v14 0
  generalize hM4 : sI M3 121 (ad 3 v) (qm N S v) = M4 at h4 h5 h6 h7 h8 h9 h10
  generalize hM5 : sI M4 121 (ad 4 v) 0 = M5 at h5 h6 h7 h8 h9 h10
  generalize hM6 : sI M5 121 (ad 5 v) 0 = M6 at h6 h7 h8 h9 h10
  generalize hM7 : sI M6 121 (ad 6 v) 0 = M7 at h7 h8 h9 h10
  generalize hM8 : sI M7 121 (ad 0 v) 1 = M8 at h8 h9 h10
  generalize hM9 : sI M8 121 (ad 13 v) (xR S 15 1) = M9 at h9 h10
  generalize hM10 : sI M9 121 (ad 14 v) 0 = M10 at h10
  have a151 : mI M8 121 9852 = xR S 15 1 := by
    have := h8.rg (k := 15) (i := 1) (by unfold vk; omega)
    rw [show ad 15 1 = 9852 from rfl] at this
    rw [this]; simp [xR_uR]
  generalize hS10 : uR (uR (uR (uR (uR (uR (uR (uR (uR S 1 v (xR S 1 v + 1)) 2 v (xR S 1 v + 1)) 3 v (qm N S v)) 4 v 0) 5 v 0) 6 v 0) 0 v 1) 13 v (xR S 15 1)) 14 v 0 = S10 at h10
  have s3 : xR S10 3 v = qm N S v := by subst hS10; simp [xR_uR]
  have s2 : xR S10 2 v = xR S 1 v + 1 := by subst hS10; simp [xR_uR]
  have s20 : xR S10 20 0 = nI N := by subst hS10; simp [xR_uR, hN]
  have sl : (fl S10).length = (fl S).length := by subst hS10; rfl
  obtain ⟨M11, e11, h11, f11⟩ := h10.tsA s20 h16 (k := 0) (f := v) (by decide) hv (qm N S v) (xR S 1 v + 1) (by omega) hn
  have ad13 : ad 13 v = 9865 + 3 * v + 1 := by have := ad_cases v13; omega
  have ad14 : ad 14 v = 9865 + 3 * v + 2 := by have := ad_cases v14; omega
  refine ⟨M11, ?_, ?_, ?_⟩
  · rw [f_X10_askNow, rs_f h.1, h.get1 hv, obd_s, h.let1 hv, obd_s, hM1, rs_f h1.1, h1.get1 hv, obd_s, r1, h1.let2 hv, obd_s, hM2, rs_f h2.1, e3, obd2_s, rs_f h3.1, h3.let3 hv, obd_s, hM4, rs_f h4.1, h4.let4 hv, obd_s, hM5, rs_f h5.1, h5.let5 hv, obd_s, hM6, rs_f h6.1, h6.let6 hv, obd_s, hM7, rs_f h7.1, h7.let0 hv, obd_s, hM8, rs_f h8.1, rs_0 h8.1, bnd_e, rs_fa h8.1, bnd_e, rs_fa h8.1, show (9852 : Int32) = nI 9852 from rfl, rs_c h8.1 (by decide), c9865, nI_1, rs_c h8.1 (by omega), bnd_e, cl_n (by omega), cl_n (by decide), a151, ← ad13, hM9, rs_0 h9.1, bnd_e, rs_fa h9.1, show nI (9865 + 3 * v) + (2 : Int32) = nI (9865 + 3 * v + 2) by rw [show (2 : Int32) = nI 2 from rfl, nI_add], rs_c h9.1 (by omega), bnd_e, cl_n (by omega), ← ad14, hM10, h10.get3 hv, obd_s, h10.get2 hv, obd_s, s3, s2, show (0 : Int32) = nI 0 from rfl, e11, obd_s]
  · unfold ak
    simp only [hS10]
    exact h11
  · have F : ∀ {M M' : Mem} {k i : Nat} {x : Int32}, sI M 121 (ad k i) x = M' → Fr PA M M' := fun e => by rw [← e]; exact Fr.tad
    exact Fr.tr (F hM1) (Fr.tr (F hM2) (Fr.tr (f3.mo P2_A) (Fr.tr (F hM4) (Fr.tr (F hM5) (Fr.tr (F hM6) (Fr.tr (F hM7) (Fr.tr (F hM8) (Fr.tr (F hM9) (Fr.tr (F hM10) f11)))))))))
/-! ===== GRANT, FAIL, INQUIRE at one that asks; a letter is brought, by the reference ===== -/
def yT (t : Int32) (v a : Nat) (S : St) : St := let S1 := sn t 4 v a (xR S 2 v) S; uR (uR S1 4 v (bof (xR S 4 v) a)) 6 v (bon (xR S 6 v) a)
theorem RV.tyT {M : Mem} {tw : Bool} {t : Int32} {S : St} {pb pt : List Row4} (h : RV M tw t S pb pt) {v a : Nat} (hv : v < 16) (ha : a < 16) (hl : (fl S).length < 9000) {n : Nat} (hn : 9100 ≤ n) : ∃ M', f_X10_yieldTo n 120 (nI v) (nI a) M = some M' ∧ RV M' tw t (yT t v a S) pb pt ∧ Fr PA M M' := by
  obtain ⟨M1, e1, h1, f1⟩ := h.send (k := 4) (f := v) (g := a) (s := xR S 2 v) hv ha (by decide) hl hn
  have r4 : xR (sn t 4 v a (xR S 2 v) S) 4 v = xR S 4 v := sn_R _ _ _ _ _ _ (by decide)
  have r6 : xR (sn t 4 v a (xR S 2 v) S) 6 v = xR S 6 v := sn_R _ _ _ _ _ _ (by decide)
  have h2 := h1.st (vk_n (k := 4) (by decide) hv) (bof (xR S 4 v) a)
  have r6' : xR (uR (sn t 4 v a (xR S 2 v) S) 4 v (bof (xR S 4 v) a)) 6 v = xR S 6 v := by rw [xR_uR, if_neg (by omega), r6]
  have h3 := h2.st (vk_n (k := 6) (by decide) hv) (bon (xR S 6 v) a)
  refine ⟨_, ?_, h3, Fr.tr f1 (Fr.tr Fr.tad Fr.tad)⟩
  rw [f_X10_yieldTo, rs_f h.1, h.get2 hv, obd_s, show (4 : Int32) = nI 4 from rfl, e1, obd_s, rs_f h1.1, show nI 4 = (4 : Int32) from rfl, h1.get4 hv, obd_s, r4, f_without, obd_s, h1.let4 hv, obd_s, rs_f h2.1, h2.get6 hv, obd_s, r6', f_with, obd_s, h2.let6 hv, obd_s]
def fdl (t : Int32) (v : Nat) (d : Int32) (ws : List Nat) (S : St) : St := ws.foldl (fun S w => if bt d w then yT t v w S else S) S
def fd (t : Int32) (N v a : Nat) (S : St) : St := uR (fdl t v (xR S 5 v) (List.range N) (uR S 6 v (bon (xR S 6 v) a))) 5 v 0
theorem yT_20 (t : Int32) (v a : Nat) (S : St) (b : Nat) : xR (yT t v a S) 20 b = xR S 20 b := by
  unfold yT
  simp only []
  rw [xR_uR, if_neg (by omega), xR_uR, if_neg (by omega), sn_R _ _ _ _ _ _ (by decide)]
theorem yT_len {t : Int32} {v a : Nat} (S : St) (h : 16 * v + a < 256) : (fl (yT t v a S)).length = (fl S).length + 1 := fl_sn_len h
theorem RV.fd28 {tw : Bool} {t : Int32} {pb pt : List Row4} {N : Nat} (h16 : N ≤ 16) {v : Nat} (hv : v < 16) (db : Int32) : ∀ (d i n : Nat) (M : Mem) (S : St), RV M tw t S pb pt → xR S 20 0 = nI N → i + d = N → (fl S).length + d ≤ 9000 → d + 9101 ≤ n → ∃ M', f_X10_failed_28 n 120 (nI v) db (nI i) M = some M' ∧ RV M' tw t (uR (fdl t v db (List.range' i d) S) 5 v 0) pb pt ∧ Fr PA M M' := by
  intro d
  induction d with
  | zero =>
    intro i n M S h hN hi hl hn
    obtain ⟨n, rfl⟩ : ∃ m, n = m + 1 := ⟨n - 1, by omega⟩
    refine ⟨_, ?_, h.st (vk_n (k := 5) (by decide) hv) 0, Fr.tad⟩
    rw [f_X10_failed_28, rs_f h.1, rs_0 h.1, bnd_e, rs_fa h.1, rs_c0 h.1, cl0, h.N hN, if_pos (nI_le (by omega) (by omega)), h.let5 hv, obd_s]
  | succ d ih =>
    intro i n M S h hN hi hl hn
    obtain ⟨n, rfl⟩ : ∃ m, n = m + 1 := ⟨n - 1, by omega⟩
    have start : ∀ y, (if bt db i = true then obd (f_X10_yieldTo n 120 (nI v) (nI i) M) (fun M15 => f_X10_failed_28 n 120 (nI v) db (nI (i + 1)) M15) else f_X10_failed_28 n 120 (nI v) db (nI (i + 1)) M) = y → f_X10_failed_28 (n + 1) 120 (nI v) db (nI i) M = y := by
      intro y hy
      rw [f_X10_failed_28, rs_f h.1, rs_0 h.1, bnd_e, rs_fa h.1, rs_c0 h.1, cl0, h.N hN, if_neg (nI_ge (by omega) (by omega)), f_has10 _ (by omega), obd_s]
      simp only [bnd_e, nI_1]
      cases hb : bt db i
      · rw [hb] at hy; simpa using hy
      · rw [hb] at hy; simpa [ne10] using hy
    have el : fdl t v db (List.range' i (d + 1)) S = fdl t v db (List.range' (i + 1) d) (if bt db i then yT t v i S else S) := by
      unfold fdl
      rw [List.range'_succ, List.foldl_cons]
    rw [el]
    by_cases c : bt db i = true
    · obtain ⟨M1, e1, h1, f1⟩ := h.tyT (v := v) (a := i) hv (by omega) (by omega) (n := n) (by omega)
      obtain ⟨M2, e2, h2, f2⟩ := ih (i + 1) n M1 _ h1 ((yT_20 _ _ _ _ _).trans hN) (by omega) (by rw [yT_len _ (by omega)]; omega) (by omega)
      rw [if_pos c] at start ⊢
      exact ⟨M2, start _ (by rw [e1, obd_s, e2]), h2, Fr.tr f1 f2⟩
    · obtain ⟨M2, e2, h2, f2⟩ := ih (i + 1) n M S h hN (by omega) (by omega) (by omega)
      rw [if_neg c] at start ⊢
      exact ⟨M2, start _ e2, h2, f2⟩
theorem RV.tfd {M : Mem} {tw : Bool} {t : Int32} {S : St} {pb pt : List Row4} (h : RV M tw t S pb pt) {N : Nat} (hN : xR S 20 0 = nI N) (h16 : N ≤ 16) {v a : Nat} (hv : v < 16) (hl : (fl S).length + N ≤ 9000) {n : Nat} (hn : 9200 ≤ n) : ∃ M', f_X10_failed n 120 (nI v) (nI a) M = some M' ∧ RV M' tw t (fd t N v a S) pb pt ∧ Fr PA M M' := by
  have h1 := h.st (vk_n (k := 6) (by decide) hv) (bon (xR S 6 v) a)
  have r5 : xR (uR S 6 v (bon (xR S 6 v) a)) 5 v = xR S 5 v := by rw [xR_uR, if_neg (by omega)]
  obtain ⟨M2, e2, h2, f2⟩ := RV.fd28 (tw := tw) (t := t) (pb := pb) (pt := pt) h16 hv (xR S 5 v) N 0 n _ _ h1 (by simpa [xR_uR] using hN) (by omega) hl (by omega)
  refine ⟨M2, ?_, ?_, Fr.tr Fr.tad f2⟩
  · rw [f_X10_failed, rs_f h.1, h.get6 hv, obd_s, f_with, obd_s, h.let6 hv, obd_s, rs_f h1.1, h1.get5 hv, obd_s, r5]
    exact e2
  · unfold fd; rw [List.range_eq_range']; exact h2
def iq (t : Int32) (v a : Nat) (S : St) : St := if bt (xR S 4 v) a then (if xR S 6 v = 0 then uR S 5 v (bon (xR S 5 v) a) else yT t v a S) else S
theorem RV.tiq {M : Mem} {tw : Bool} {t : Int32} {S : St} {pb pt : List Row4} (h : RV M tw t S pb pt) {v a : Nat} (hv : v < 16) (ha : a < 16) (hl : (fl S).length < 9000) {n : Nat} (hn : 9100 ≤ n) : ∃ M', f_X10_inquired n 120 (nI v) (nI a) M = some M' ∧ RV M' tw t (iq t v a S) pb pt ∧ Fr PA M M' := by
  unfold iq
  cases hb : bt (xR S 4 v) a
  · refine ⟨M, ?_, by simpa using h, Fr.rf _ _⟩
    rw [f_X10_inquired, rs_f h.1, h.get4 hv, obd_s, f_has10 _ (by omega), obd_s, hb]
    simp
  · rw [if_pos rfl]
    by_cases c : xR S 6 v = 0
    · rw [if_pos c]
      refine ⟨_, ?_, h.st (vk_n (k := 5) (by decide) hv) (bon (xR S 5 v) a), Fr.tad⟩
      rw [f_X10_inquired, rs_f h.1, h.get4 hv, obd_s, f_has10 _ (by omega), obd_s, hb, if_pos rfl, if_neg ne10, h.get6 hv, obd_s, if_pos c, h.get5 hv, obd_s, f_with, obd_s, h.let5 hv, obd_s]
    · rw [if_neg c]
      obtain ⟨M2, e2, h2, f2⟩ := h.tyT (v := v) (a := a) hv ha hl hn
      refine ⟨M2, ?_, h2, f2⟩
      rw [f_X10_inquired, rs_f h.1, h.get4 hv, obd_s, f_has10 _ (by omega), obd_s, hb, if_pos rfl, if_neg ne10, h.get6 hv, obd_s, if_neg c, e2, obd_s]
def gr (t : Int32) (N v a : Nat) (S : St) : St :=
  let S1 := uR (uR (uR S 4 v (bon (xR S 4 v) a)) 5 v (bof (xR S 5 v) a)) 6 v (bof (xR S 6 v) a)
  if xR S 3 v &&& ((bon (xR S 4 v) a) ^^^ (-1 : Int32)) = 0 then en t N v S1 else S1
theorem RV.tgr {M : Mem} {tw : Bool} {t : Int32} {S : St} {pb pt : List Row4} (h : RV M tw t S pb pt) {N : Nat} (hN : xR S 20 0 = nI N) (h16 : N ≤ 16) {v a : Nat} (hv : v < 16) {n : Nat} (hn : 200 ≤ n) : ∃ M', f_X10_granted n 120 (nI v) (nI a) M = some M' ∧ RV M' tw t (gr t N v a S) pb pt ∧ Fr PA M M' := by
  have h1 := h.st (vk_n (k := 4) (by decide) hv) (bon (xR S 4 v) a)
  have h2 := h1.st (vk_n (k := 5) (by decide) hv) (bof (xR S 5 v) a)
  have h3 := h2.st (vk_n (k := 6) (by decide) hv) (bof (xR S 6 v) a)
  have q5 : xR (uR S 4 v (bon (xR S 4 v) a)) 5 v = xR S 5 v := by simp [xR_uR]
  have q6 : xR (uR (uR S 4 v (bon (xR S 4 v) a)) 5 v (bof (xR S 5 v) a)) 6 v = xR S 6 v := by simp [xR_uR]
  have q3 : xR (uR (uR (uR S 4 v (bon (xR S 4 v) a)) 5 v (bof (xR S 5 v) a)) 6 v (bof (xR S 6 v) a)) 3 v = xR S 3 v := by simp [xR_uR]
  have q4 : xR (uR (uR (uR S 4 v (bon (xR S 4 v) a)) 5 v (bof (xR S 5 v) a)) 6 v (bof (xR S 6 v) a)) 4 v = bon (xR S 4 v) a := by simp [xR_uR]
  have F : Fr PA M (sI (sI (sI M 121 (ad 4 v) (bon (xR S 4 v) a)) 121 (ad 5 v) (bof (xR S 5 v) a)) 121 (ad 6 v) (bof (xR S 6 v) a)) := Fr.tr Fr.tad (Fr.tr Fr.tad Fr.tad)
  have start : ∀ y, (if xR S 3 v &&& ((bon (xR S 4 v) a) ^^^ (-1 : Int32)) = 0 then obd (f_X10_enter n 120 (nI v) (sI (sI (sI M 121 (ad 4 v) (bon (xR S 4 v) a)) 121 (ad 5 v) (bof (xR S 5 v) a)) 121 (ad 6 v) (bof (xR S 6 v) a))) (fun M30 => some M30) else some (sI (sI (sI M 121 (ad 4 v) (bon (xR S 4 v) a)) 121 (ad 5 v) (bof (xR S 5 v) a)) 121 (ad 6 v) (bof (xR S 6 v) a))) = y → f_X10_granted n 120 (nI v) (nI a) M = y := by
    intro y hy
    rw [f_X10_granted, rs_f h.1, h.get4 hv, obd_s, f_with, obd_s, h.let4 hv, obd_s, rs_f h1.1, h1.get5 hv, obd_s, q5, f_without, obd_s, h1.let5 hv, obd_s, rs_f h2.1, h2.get6 hv, obd_s, q6, f_without, obd_s, h2.let6 hv, obd_s, rs_f h3.1, h3.get3 hv, obd_s, q3, h3.get4 hv, obd_s, q4]
    exact hy
  unfold gr
  simp only []
  by_cases c : xR S 3 v &&& ((bon (xR S 4 v) a) ^^^ (-1 : Int32)) = 0
  · rw [if_pos c] at start ⊢
    obtain ⟨M', e', h', f'⟩ := h3.ten (by simpa [xR_uR] using hN) h16 hv hn
    exact ⟨M', start _ (by rw [e', obd_s]), h', Fr.tr F f'⟩
  · rw [if_neg c] at start ⊢
    exact ⟨_, start _ rfl, h3, F⟩
/-! ===== what is written down of a bringing ===== -/
def wtl (f g : Nat) (ws : List Nat) (S : St) : St := ws.foldl (fun S w => if xR S 0 w = 1 ∧ (w = f ∨ w = g) then uR S 14 w (xR S 14 w + 1) else S) S
def wt (N k f g : Nat) (s : Int32) (S : St) : St := wtl f g (List.range N) (uR (uR (uT S (nI k, nI f, nI g, s)) 15 1 (xR S 15 1 + 1)) 18 g (xR S 18 g + 1))
theorem RV.w156 {tw : Bool} {t : Int32} {pb pt : List Row4} {N : Nat} (h16 : N ≤ 16) {f g : Nat} (hf : f < 16) (hg : g < 16) : ∀ (d i n : Nat) (M : Mem) (S : St), RV M tw t S pb pt → xR S 20 0 = nI N → i + d = N → d + 1 ≤ n → ∃ M', f_X10_writeTrace_156 n 120 (nI f) (nI g) (nI i) M = some M' ∧ RV M' tw t (wtl f g (List.range' i d) S) pb pt ∧ Fr PA M M' := by
  intro d
  induction d with
  | zero =>
    intro i n M S h hN hi hn
    obtain ⟨n, rfl⟩ : ∃ m, n = m + 1 := ⟨n - 1, by omega⟩
    refine ⟨M, ?_, h, Fr.rf _ _⟩
    rw [f_X10_writeTrace_156, rs_f h.1, rs_0 h.1, bnd_e, rs_fa h.1, rs_c0 h.1, cl0, h.N hN, if_pos (nI_le (by omega) (by omega))]
  | succ d ih =>
    intro i n M S h hN hi hn
    obtain ⟨n, rfl⟩ : ∃ m, n = m + 1 := ⟨n - 1, by omega⟩
    have v14 : vk 14 i := by unfold vk; omega
    have ad14 : ad 14 i = 9865 + 3 * i + 2 := by have := ad_cases v14; omega
    have a14 : mI M 121 (9865 + 3 * i + 2) = xR S 14 i := by rw [← ad14]; exact h.rg v14
    have one : f_X10_writeTrace_190 (f_X10_writeTrace_156 n) n 120 (nI f) (nI g) (nI i) M = f_X10_writeTrace_156 n 120 (nI f) (nI g) (nI (i + 1)) (sI M 121 (ad 14 i) (xR S 14 i + 1)) := by
      rw [f_X10_writeTrace_190, rs_f h.1, rs_0 h.1, bnd_e, rs_fa h.1, c9865, show nI (9865 + 3 * i) + (2 : Int32) = nI (9865 + 3 * i + 2) by rw [show (2 : Int32) = nI 2 from rfl, nI_add], bnd_e, rs_c h.1 (by omega), rs_c h.1 (by omega), bnd_e, cl_n (by omega), a14, ← ad14, nI_1, bnd_e]
    have start : ∀ y, (if xR S 0 i = 1 ∧ (i = f ∨ i = g) then f_X10_writeTrace_156 n 120 (nI f) (nI g) (nI (i + 1)) (sI M 121 (ad 14 i) (xR S 14 i + 1)) else f_X10_writeTrace_156 n 120 (nI f) (nI g) (nI (i + 1)) M) = y → f_X10_writeTrace_156 (n + 1) 120 (nI f) (nI g) (nI i) M = y := by
      intro y hy
      rw [f_X10_writeTrace_156, rs_f h.1, rs_0 h.1, bnd_e, rs_fa h.1, rs_c0 h.1, cl0, h.N hN, if_neg (nI_ge (by omega) (by omega)), h.get0 (by omega), obd_s, one]
      simp only [bnd_e, nI_1]
      by_cases c : xR S 0 i = 1
      · rw [if_pos c]
        by_cases c1 : i = f
        · rw [if_pos ⟨c, Or.inl c1⟩] at hy
          rw [if_pos (by rw [c1])]; exact hy
        · rw [if_neg (fun q => c1 ((nI_eq (by omega) (by omega)).mp q))]
          by_cases c2 : i = g
          · rw [if_pos ⟨c, Or.inr c2⟩] at hy
            rw [if_pos (by rw [c2])]; exact hy
          · rw [if_neg (fun q => c2 ((nI_eq (by omega) (by omega)).mp q))]
            rw [if_neg (fun q => q.2.elim c1 c2)] at hy
            exact hy
      · rw [if_neg c]
        rw [if_neg (fun q => c q.1)] at hy
        exact hy
    have el : wtl f g (List.range' i (d + 1)) S = wtl f g (List.range' (i + 1) d) (if xR S 0 i = 1 ∧ (i = f ∨ i = g) then uR S 14 i (xR S 14 i + 1) else S) := by
      unfold wtl
      rw [List.range'_succ, List.foldl_cons]
    rw [el]
    by_cases c : xR S 0 i = 1 ∧ (i = f ∨ i = g)
    · rw [if_pos c] at start ⊢
      have h1 := h.st v14 (xR S 14 i + 1)
      obtain ⟨M2, e2, h2, f2⟩ := ih (i + 1) n _ _ h1 (by simpa [xR_uR] using hN) (by omega) (by omega)
      exact ⟨M2, start _ e2, h2, Fr.tr Fr.tad f2⟩
    · rw [if_neg c] at start ⊢
      obtain ⟨M2, e2, h2, f2⟩ := ih (i + 1) n M S h hN (by omega) (by omega)
      exact ⟨M2, start _ e2, h2, f2⟩
set_option maxHeartbeats 2000000 in
theorem RV.w60 {M : Mem} {tw : Bool} {t : Int32} {S : St} {pb pt : List Row4} (hS : RS M) {m : Nat} (hm : m < 40) (hA : mI M 121 9858 = nI m) {k f g : Nat} (hf : f < 16) (hg : g < 16) (s : Int32) {N : Nat} (h16 : N ≤ 16) (h : RV (sI (put4 M 10033 m (nI k, nI f, nI g, s)) 121 9858 (nI (m + 1))) tw t S pb pt) (hN : xR S 20 0 = nI N) {n : Nat} (hn : 20 ≤ n) : ∃ M', f_X10_writeTrace_60 n 120 (nI k) (nI f) (nI g) s M = some M' ∧ RV M' tw t (wtl f g (List.range N) (uR (uR S 15 1 (xR S 15 1 + 1)) 18 g (xR S 18 g + 1))) pb pt ∧ Fr PA (sI (put4 M 10033 m (nI k, nI f, nI g, s)) 121 9858 (nI (m + 1))) M' := by
  have v15 : vk 15 1 := by unfold vk; omega
  have v18 : vk 18 g := by unfold vk; omega
  have ad18 : ad 18 g = 10193 + g := by have := ad_cases v18; omega
  generalize hMa : sI M 121 (10033 + 4 * m) (nI k) = Ma
  generalize hMb : sI Ma 121 (10033 + 4 * m + 1) (nI f) = Mb
  generalize hMc : sI Mb 121 (10033 + 4 * m + 2) (nI g) = Mc
  generalize hMd : sI Mc 121 (10033 + 4 * m + 3) s = Md
  have hSa : RS Ma := by subst hMa; exact hS.e rfl
  have hSb : RS Mb := by subst hMb; exact hSa.e rfl
  have hSc : RS Mc := by subst hMc; exact hSb.e rfl
  have hSd : RS Md := by subst hMd; exact hSc.e rfl
  have hp : put4 M 10033 m (nI k, nI f, nI g, s) = Md := by
    unfold put4
    rw [hMa, hMb, hMc, hMd]
  have hB : mI Md 121 9858 = nI m := by
    rw [← hMd, mI_n _ _ _ _ (by omega), ← hMc, mI_n _ _ _ _ (by omega), ← hMb, mI_n _ _ _ _ (by omega), ← hMa, mI_n _ _ _ _ (by omega)]
    exact hA
  rw [hp] at h ⊢
  generalize hMe : sI Md 121 9858 (nI (m + 1)) = Me at h ⊢
  have h1 := h.st v15 (xR S 15 1 + 1)
  have e15 : mI Me 121 9852 = xR S 15 1 := h.rg v15
  generalize hMf : sI Me 121 (ad 15 1) (xR S 15 1 + 1) = Mf' at h1
  have e18 : mI Mf' 121 (10193 + g) = xR S 18 g := by
    have := h1.rg v18
    rw [ad18] at this
    rw [this]; simp [xR_uR]
  have h2 := h1.st v18 (xR S 18 g + 1)
  generalize hMg : sI Mf' 121 (ad 18 g) (xR S 18 g + 1) = Mg at h2
  obtain ⟨M3, e3, h3, f3⟩ := RV.w156 (tw := tw) (t := t) (pb := pb) (pt := pt) h16 hf hg N 0 n Mg _ h2 (by simpa [xR_uR] using hN) (by omega) (by omega)
  refine ⟨M3, ?_, ?_, Fr.tr (M' := Mf') ?_ (Fr.tr (M' := Mg) ?_ f3)⟩
  · rw [f_X10_writeTrace_60, rs_f hS, rs_0 hS, bnd_e, rs_fa hS, show (9858 : Int32) = nI 9858 from rfl, rs_c hS (by decide), mI_c (by decide), hA, show (10033 : Int32) = nI 10033 from rfl, c4i, bnd_e, bnd_e, rs_fa hS, rs_c hS (by omega), bnd_e, cl_n (by omega), hMa, rs_0 hSa, bnd_e, rs_fa hSa, nI_1, rs_c hSa (by omega), bnd_e, cl_n (by omega), hMb, rs_0 hSb, bnd_e, rs_fa hSb, show nI (10033 + 4 * m) + (2 : Int32) = nI (10033 + 4 * m + 2) by rw [show (2 : Int32) = nI 2 from rfl, nI_add], rs_c hSb (by omega), bnd_e, cl_n (by omega), hMc, rs_0 hSc, bnd_e, rs_fa hSc, show nI (10033 + 4 * m) + (3 : Int32) = nI (10033 + 4 * m + 3) by rw [show (3 : Int32) = nI 3 from rfl, nI_add], rs_c hSc (by omega), bnd_e, cl_n (by omega), hMd, rs_0 hSd, bnd_e, rs_fa hSd, rs_c hSd (by decide), rs_c hSd (by decide), bnd_e, cl_n (by decide), hB, nI_1, hMe, rs_0 h.1, bnd_e, rs_fa h.1, show (9852 : Int32) = nI 9852 from rfl, rs_c h.1 (by decide), rs_c h.1 (by decide), bnd_e, cl_n (by decide), e15, show (9852 : Nat) = ad 15 1 from rfl, hMf, rs_0 h1.1, bnd_e, rs_fa h1.1, show (10193 : Int32) + nI g = nI (10193 + g) by rw [show (10193 : Int32) = nI 10193 from rfl, nI_add], bnd_e, rs_c h1.1 (by omega), rs_c h1.1 (by omega), bnd_e, cl_n (by omega), e18, ← ad18, hMg]
    exact e3
  · rw [List.range_eq_range']; exact h3
  · rw [← hMf]; exact Fr.tad
  · rw [← hMg]; exact Fr.tad
set_option maxHeartbeats 1000000 in
theorem RV.twt {M : Mem} {tw : Bool} {t : Int32} {S : St} {pb pt : List Row4} (h : RV M tw t S pb pt) {N : Nat} (hN : xR S 20 0 = nI N) (h16 : N ≤ 16) {k f g : Nat} (hf : f < 16) (hg : g < 16) (s : Int32) {n : Nat} (hn : 200 ≤ n) : ∃ M', f_X10_writeTrace n 120 (nI k) (nI f) (nI g) s M = some M' ∧ RV M' tw t (wt N k f g s S) pb pt ∧ Fr PA M M' := by
  have hB := h.2.2.2.2.2.2
  have hle := lastn_le 40 (pt ++ xT S)
  have open1 : ∀ y, (if mI M 121 9858 = (40 : Int32) then f_X10_writeTrace_18 n 120 (nI k) (nI f) (nI g) s (10033 : Int32) M else f_X10_writeTrace_60 n 120 (nI k) (nI f) (nI g) s M) = y → f_X10_writeTrace n 120 (nI k) (nI f) (nI g) s M = y := by
    intro y hy
    rw [f_X10_writeTrace, rs_f h.1, rs_0 h.1, bnd_e, rs_fa h.1, show (9858 : Int32) = nI 9858 from rfl, rs_c h.1 (by decide), cl_n (by decide)]
    exact hy
  by_cases c : (lastn 40 (pt ++ xT S)).length = 40
  · have hc : mI M 121 9858 = (40 : Int32) := by rw [hB.1, c]; rfl
    rw [if_pos hc] at open1
    obtain ⟨M1, n', i0, i1, i2, i3, i4, i5⟩ := shift_T (v1 := nI k) (v2 := nI f) (v3 := nI g) (v4 := s) 156 M n h.1 (by decide) (by omega)
    rw [show nI (10189 - 156) = (10033 : Int32) from rfl] at i1
    generalize hMa : sI M1 121 9858 (nI 39) = Ma
    have hS1 : RS M1 := h.1.e i2.1
    have hSa : RS Ma := by subst hMa; exact hS1.e rfl
    have Fa : FrB 9858 10033 40 M Ma := FrB.tr i2 (by rw [← hMa]; exact FrB.s (Or.inl rfl))
    have hT : RV (sI (put4 Ma 10033 39 (nI k, nI f, nI g, s)) 121 9858 (nI (39 + 1))) tw t (uT S (nI k, nI f, nI g, s)) pb pt := by
      refine h.bookT _ (FrB.tr Fa (FrB.tr (put4_F (n := 40) (m := 39) Ma _ (by decide)) (FrB.s (Or.inl rfl)))) ?_
      rw [← List.append_assoc]
      refine RVb.push (M := M) (Ma := Ma) (by decide) (Or.inl (by decide)) hB _ 39 (by rw [if_pos c]) ?_ rfl
      rw [if_pos c]
      refine hB.2.sh fun b h1 h2 => ?_
      rw [c] at h2
      rw [← hMa, mI_n _ _ _ _ (by omega), i4 b (by omega) (by omega)]
    obtain ⟨M', e', h', f'⟩ := RV.w60 (tw := tw) (t := t) (pb := pb) (pt := pt) hSa (m := 39) (by decide) (by rw [← hMa, mI_s]) hf hg s h16 hT hN (n := n') (by omega)
    refine ⟨M', open1 _ ?_, h', Fr.tr (Fr.tr Fa.toFr (Fr.tr (put4_F (A := 9858) (n := 40) (m := 39) Ma _ (by decide)).toFr (Fr.tsI ⟨by decide, by decide⟩))) f'⟩
    rw [i1, f_X10_writeTrace_18, if_pos (by rw [show (10189 : Int32) = nI 10189 from rfl]; exact nI_le (Nat.le_refl _) (by decide)), rs_f hS1, rs_0 hS1, bnd_e, rs_fa hS1, show (9858 : Int32) = nI 9858 from rfl, rs_c hS1 (by decide), rs_c hS1 (by decide), bnd_e, cl_n (by decide), i3, hc, show (40 : Int32) - 1 = nI 39 from rfl, hMa, e']
  · have hc : ¬ mI M 121 9858 = (40 : Int32) := by
      rw [hB.1, show (40 : Int32) = nI 40 from rfl]
      exact fun q => c ((nI_eq (by omega) (by decide)).mp q)
    rw [if_neg hc] at open1
    have hT : RV (sI (put4 M 10033 (lastn 40 (pt ++ xT S)).length (nI k, nI f, nI g, s)) 121 9858 (nI ((lastn 40 (pt ++ xT S)).length + 1))) tw t (uT S (nI k, nI f, nI g, s)) pb pt := by
      refine h.bookT _ (FrB.tr (put4_F (n := 40) M _ (by omega)) (FrB.s (Or.inl rfl))) ?_
      rw [← List.append_assoc]
      refine RVb.push (M := M) (Ma := M) (by decide) (Or.inl (by decide)) hB _ _ (by rw [if_neg c]) ?_ rfl
      rw [if_neg c]
      exact hB.2
    obtain ⟨M', e', h', f'⟩ := RV.w60 (tw := tw) (t := t) (pb := pb) (pt := pt) h.1 (m := (lastn 40 (pt ++ xT S)).length) (by omega) hB.1 hf hg s h16 hT hN (n := n) (by omega)
    exact ⟨M', open1 _ e', h', Fr.tr (Fr.tr (put4_F (A := 9858) (n := 40) M _ (by omega)).toFr (Fr.tsI ⟨by decide, by decide⟩)) f'⟩
/-! ===== a letter is read, by the reference ===== -/
def rd (t : Int32) (N k f g : Nat) (s : Int32) (S : St) : St :=
  let S1 := if s ≤ xR S 1 g then S else uR S 1 g s
  if k = 0 then rq t g f s S1
  else if k = 4 then yl t g f s S1
  else if k = 5 then rl t g f s S1
  else if xR S1 0 g = 1 ∧ xR S1 2 g = s then (if k = 1 then gr t N g f S1 else if k = 2 then fd t N g f S1 else iq t g f S1)
  else S1
/-- what the hearing of f's letter by s at g rests on -/
def Hok (S : St) (f g : Nat) (s : Int32) : Prop := (∀ w, w ∈ xW S g → w.1 < 16) ∧ (xW S g).length < 20 ∧ Srt f s (xW S g) ∧ Gok S g
theorem RV.rd45 {M : Mem} {tw : Bool} {t : Int32} {S : St} {pb pt : List Row4} (h : RV M tw t S pb pt) {N : Nat} (hN : xR S 20 0 = nI N) (h2N : 2 ≤ N) (h16 : N ≤ 16) {k f g : Nat} (hk : k < 6) (hf : f < 16) (hg : g < 16) {s : Int32} (hH : Hok S f g s) (hl : (fl S).length + N ≤ 9000) {n : Nat} (hn : 9200 ≤ n) {u0 : Int32} (hu : ((xR S 0 g = 1 ∧ xR S 2 g = s) ∧ u0 = 1) ∨ (¬ (xR S 0 g = 1 ∧ xR S 2 g = s) ∧ u0 = 0)) : ∃ M', f_X10_read_45 n 120 (nI k) (nI f) (nI g) s u0 M = some M' ∧ RV M' tw t (if k = 0 then rq t g f s S else if k = 4 then yl t g f s S else if k = 5 then rl t g f s S else if xR S 0 g = 1 ∧ xR S 2 g = s then (if k = 1 then gr t N g f S else if k = 2 then fd t N g f S else iq t g f S) else S) pb pt ∧ Fr PA M M' := by
  obtain ⟨hW, hwl, hs, hG⟩ := hH
  have kd : ∀ a b : Nat, a < 6 → b < 6 → a ≠ b → ¬ nI a = nI b := fun a b ha hb hne q => hne ((nI_eq (by omega) (by omega)).mp q)
  rcases (show k = 0 ∨ k = 1 ∨ k = 2 ∨ k = 3 ∨ k = 4 ∨ k = 5 by omega) with rfl | rfl | rfl | rfl | rfl | rfl
  · obtain ⟨M', e, h', f'⟩ := h.trq (a := g) (v := f) (s := s) hg hf (by omega) hW hwl hs hG (n := n) (by omega)
    exact ⟨M', by rw [f_X10_read_45, if_pos (by rfl), rs_f h.1, e, obd_s], h', f'⟩
  · rw [if_neg (show ¬ (1 : Nat) = 0 by decide), if_neg (show ¬ (1 : Nat) = 4 by decide), if_neg (show ¬ (1 : Nat) = 5 by decide)]
    rcases hu with ⟨c, rfl⟩ | ⟨c, rfl⟩
    · rw [if_pos c, if_pos (show (1 : Nat) = 1 from rfl)]
      obtain ⟨M', e, h', f'⟩ := h.tgr hN h16 (v := g) (a := f) hg (n := n) (by omega)
      exact ⟨M', by rw [f_X10_read_45, if_neg (show ¬ nI 1 = (0 : Int32) by decide), if_pos (by rfl), if_neg ne10, rs_f h.1, e, obd_s], h', f'⟩
    · rw [if_neg c]
      exact ⟨M, by rw [f_X10_read_45, if_neg (show ¬ nI 1 = (0 : Int32) by decide), if_pos (by rfl), if_pos rfl], h, Fr.rf _ _⟩
  · rw [if_neg (show ¬ (2 : Nat) = 0 by decide), if_neg (show ¬ (2 : Nat) = 4 by decide), if_neg (show ¬ (2 : Nat) = 5 by decide)]
    rcases hu with ⟨c, rfl⟩ | ⟨c, rfl⟩
    · rw [if_pos c, if_neg (show ¬ (2 : Nat) = 1 by decide), if_pos (show (2 : Nat) = 2 from rfl)]
      obtain ⟨M', e, h', f'⟩ := h.tfd hN h16 (v := g) (a := f) hg hl (n := n) (by omega)
      exact ⟨M', by rw [f_X10_read_45, if_neg (show ¬ nI 2 = (0 : Int32) by decide), if_neg (show ¬ nI 2 = (1 : Int32) by decide), if_pos (by rfl), if_neg ne10, rs_f h.1, e, obd_s], h', f'⟩
    · rw [if_neg c]
      exact ⟨M, by rw [f_X10_read_45, if_neg (show ¬ nI 2 = (0 : Int32) by decide), if_neg (show ¬ nI 2 = (1 : Int32) by decide), if_pos (by rfl), if_pos rfl], h, Fr.rf _ _⟩
  · rw [if_neg (show ¬ (3 : Nat) = 0 by decide), if_neg (show ¬ (3 : Nat) = 4 by decide), if_neg (show ¬ (3 : Nat) = 5 by decide)]
    rcases hu with ⟨c, rfl⟩ | ⟨c, rfl⟩
    · rw [if_pos c, if_neg (show ¬ (3 : Nat) = 1 by decide), if_neg (show ¬ (3 : Nat) = 2 by decide)]
      obtain ⟨M', e, h', f'⟩ := h.tiq (v := g) (a := f) hg hf (by omega) (n := n) (by omega)
      exact ⟨M', by rw [f_X10_read_45, if_neg (show ¬ nI 3 = (0 : Int32) by decide), if_neg (show ¬ nI 3 = (1 : Int32) by decide), if_neg (show ¬ nI 3 = (2 : Int32) by decide), if_pos (by rfl), if_neg ne10, rs_f h.1, e, obd_s], h', f'⟩
    · rw [if_neg c]
      exact ⟨M, by rw [f_X10_read_45, if_neg (show ¬ nI 3 = (0 : Int32) by decide), if_neg (show ¬ nI 3 = (1 : Int32) by decide), if_neg (show ¬ nI 3 = (2 : Int32) by decide), if_pos (by rfl), if_pos rfl], h, Fr.rf _ _⟩
  · rw [if_neg (show ¬ (4 : Nat) = 0 by decide), if_pos (show (4 : Nat) = 4 from rfl)]
    obtain ⟨M', e, h', f'⟩ := h.tyl (a := g) (v := f) (s := s) hg hf (by omega) hW hwl hs (n := n) (by omega)
    exact ⟨M', by rw [f_X10_read_45, if_neg (show ¬ nI 4 = (0 : Int32) by decide), if_neg (show ¬ nI 4 = (1 : Int32) by decide), if_neg (show ¬ nI 4 = (2 : Int32) by decide), if_neg (show ¬ nI 4 = (3 : Int32) by decide), if_pos (by rfl), rs_f h.1, e, obd_s], h', f'⟩
  · rw [if_neg (show ¬ (5 : Nat) = 0 by decide), if_neg (show ¬ (5 : Nat) = 4 by decide), if_pos (show (5 : Nat) = 5 from rfl)]
    obtain ⟨M', e, h', f'⟩ := h.trl (a := g) (v := f) (s := s) hg hf (by omega) hW (n := n) (by omega)
    exact ⟨M', by rw [f_X10_read_45, if_neg (show ¬ nI 5 = (0 : Int32) by decide), if_neg (show ¬ nI 5 = (1 : Int32) by decide), if_neg (show ¬ nI 5 = (2 : Int32) by decide), if_neg (show ¬ nI 5 = (3 : Int32) by decide), if_neg (show ¬ nI 5 = (4 : Int32) by decide), if_pos (by rfl), rs_f h.1, e, obd_s], h', f'⟩
theorem RV.trd {M : Mem} {tw : Bool} {t : Int32} {S : St} {pb pt : List Row4} (h : RV M tw t S pb pt) {N : Nat} (hN : xR S 20 0 = nI N) (h2N : 2 ≤ N) (h16 : N ≤ 16) {k f g : Nat} (hk : k < 6) (hf : f < 16) (hg : g < 16) {s : Int32} (hH : Hok S f g s) (hl : (fl S).length + N ≤ 9000) {n : Nat} (hn : 9200 ≤ n) : ∃ M', f_X10_read n 120 (nI k) (nI f) (nI g) s M = some M' ∧ RV M' tw t (rd t N k f g s S) pb pt ∧ Fr PA M M' := by
  have r19 : ∀ {M : Mem} {S : St} (_ : RV M tw t S pb pt), ∃ u0, (((xR S 0 g = 1 ∧ xR S 2 g = s) ∧ u0 = 1) ∨ (¬ (xR S 0 g = 1 ∧ xR S 2 g = s) ∧ u0 = 0)) ∧ f_X10_read_19 n 120 (nI k) (nI f) (nI g) s M = f_X10_read_45 n 120 (nI k) (nI f) (nI g) s u0 M := by
    intro M S h
    by_cases c : xR S 0 g = 1
    · by_cases c2 : xR S 2 g = s
      · exact ⟨1, Or.inl ⟨⟨c, c2⟩, rfl⟩, by rw [f_X10_read_19, rs_f h.1, h.get0 hg, obd_s, if_pos c, h.get2 hg, obd_s, if_pos c2]⟩
      · exact ⟨0, Or.inr ⟨fun q => c2 q.2, rfl⟩, by rw [f_X10_read_19, rs_f h.1, h.get0 hg, obd_s, if_pos c, h.get2 hg, obd_s, if_neg c2]⟩
    · exact ⟨0, Or.inr ⟨fun q => c q.1, rfl⟩, by rw [f_X10_read_19, rs_f h.1, h.get0 hg, obd_s, if_neg c]⟩
  unfold rd
  simp only []
  by_cases c : s ≤ xR S 1 g
  · rw [if_pos c]
    obtain ⟨u0, hu, eu⟩ := r19 h
    obtain ⟨M', e, h', f'⟩ := h.rd45 hN h2N h16 hk hf hg hH hl hn hu
    exact ⟨M', by rw [f_X10_read, rs_f h.1, h.get1 hg, obd_s, if_pos c, eu, e], h', f'⟩
  · rw [if_neg c]
    have h1 := h.st (vk_n (k := 1) (by decide) hg) s
    obtain ⟨u0, hu, eu⟩ := r19 h1
    obtain ⟨M', e, h', f'⟩ := h1.rd45 (by simpa [xR_uR] using hN) h2N h16 hk hf hg (show Hok (uR S 1 g s) f g s from hH) hl hn hu
    exact ⟨M', by rw [f_X10_read, rs_f h.1, h.get1 hg, obd_s, if_neg c, h.let1 hg, obd_s, eu, e], h', Fr.tr Fr.tad f'⟩
theorem wtl_o (f g : Nat) {a : Nat} (ha : a ≠ 14) (b : Nat) : ∀ (ws : List Nat) (S : St), xR (wtl f g ws S) a b = xR S a b := by
  intro ws
  induction ws with
  | nil => intro S; rfl
  | cons w ws ih =>
    intro S
    unfold wtl
    rw [List.foldl_cons]
    have := ih (if xR S 0 w = 1 ∧ (w = f ∨ w = g) then uR S 14 w (xR S 14 w + 1) else S)
    unfold wtl at this
    rw [this]
    split
    · rw [xR_uR, if_neg (fun q => ha q.1)]
    · rfl
theorem wtl_W (f g : Nat) : ∀ (ws : List Nat) (S : St), (wtl f g ws S).2 = S.2 := by
  intro ws
  induction ws with
  | nil => intro S; rfl
  | cons w ws ih =>
    intro S
    unfold wtl
    rw [List.foldl_cons]
    have := ih (if xR S 0 w = 1 ∧ (w = f ∨ w = g) then uR S 14 w (xR S 14 w + 1) else S)
    unfold wtl at this
    rw [this]
    split
    · rfl
    · rfl
theorem wt_R {N k f g : Nat} {s : Int32} {S : St} {a : Nat} (h14 : a ≠ 14) (h15 : a ≠ 15) (h18 : a ≠ 18) (b : Nat) : xR (wt N k f g s S) a b = xR S a b := by
  unfold wt
  rw [wtl_o _ _ h14, xR_uR, if_neg (fun q => h18 q.1), xR_uR, if_neg (fun q => h15 q.1), xR_uT]
theorem wt_WL (N k f g : Nat) (s : Int32) (S : St) : xW (wt N k f g s S) = xW S ∧ xL (wt N k f g s S) = xL S := by
  have := wtl_W f g (List.range N) (uR (uR (uT S (nI k, nI f, nI g, s)) 15 1 (xR S 15 1 + 1)) 18 g (xR S 18 g + 1))
  unfold wt
  constructor
  · show (wtl f g _ _).2.1 = _
    rw [this]; rfl
  · show (wtl f g _ _).2.2.1 = _
    rw [this]; rfl
theorem fl_L {S S' : St} (h : xL S = xL S') : fl S = fl S' := by
  unfold fl; rw [h]
/-- a letter of a lane is brought -/
def br (t : Int32) (N f g : Nat) (S : St) : St := match xL S (16 * f + g) with
  | [] => S
  | x :: r => rd t N x.1.toNatClampNeg f g x.2.1 (wt N x.1.toNatClampNeg f g x.2.1 (uL S (16 * f + g) r))
/-- a letter as letters are -/
def Lok (x : Ltr) : Prop := (∃ k, k < 6 ∧ x.1 = nI k) ∧ ∃ s, s < 1048576 ∧ x.2.1 = nI s
theorem f_pairs (l : Nat) (hl : l < 256) : nI l / (16 : Int32) = nI (l / 16) ∧ nI l - nI l / (16 : Int32) * (16 : Int32) = nI (l % 16) := by
  rw [show (16 : Int32) = nI 16 from rfl]
  exact ⟨pk_div (by omega) (by decide) (by decide), pk_rem (by omega) (by decide) (by decide)⟩
set_option maxHeartbeats 1000000 in
theorem RV.tbr {M : Mem} {tw : Bool} {t : Int32} {S : St} {pb pt : List Row4} (h : RV M tw t S pb pt) {N : Nat} (hN : xR S 20 0 = nI N) (h2N : 2 ≤ N) (h16 : N ≤ 16) {f g : Nat} (hf : f < 16) (hg : g < 16) {x : Ltr} {r : List Ltr} (hx : xL S (16 * f + g) = x :: r) (hL : Lok x) (hH : Hok S f g x.2.1) (hl : (fl S).length + N ≤ 9000) {n : Nat} (hn : 9200 ≤ n) : ∃ M', f_X10_bringNow n 120 (nI (flr (xL S) 0 (16 * f + g)).length) M = some (x.1, M') ∧ RV M' tw t (br t N f g S) pb pt ∧ Fr PA M M' := by
  obtain ⟨⟨k, hk, ek⟩, sv, hsv, es⟩ := hL
  obtain ⟨g1, g2, M1, e1, h1, f1⟩ := h.take (l := 16 * f + g) (by omega) hx (n := n) (by omega)
  have kk : x.1.toNatClampNeg = k := by rw [ek, nI_clamp (by omega)]
  obtain ⟨M2, e2, h2, f2⟩ := h1.twt (N := N) (k := k) (f := f) (g := g) (by rw [xR_uL]; exact hN) h16 hf hg x.2.1 (n := n) (by omega)
  have wl := wt_WL N k f g x.2.1 (uL S (16 * f + g) r)
  have hH2 : Hok (wt N k f g x.2.1 (uL S (16 * f + g) r)) f g x.2.1 := by
    unfold Hok Gok at hH ⊢
    rw [wl.1, wt_R (by decide) (by decide) (by decide), xW_uL, xR_uL]
    exact hH
  have hlen : (fl (wt N k f g x.2.1 (uL S (16 * f + g) r))).length + N ≤ 9000 := by
    rw [fl_L wl.2]
    have a1 := fl_split S (l := 16 * f + g) (by omega)
    have a2 := fl_uL S (l := 16 * f + g) (by omega) r
    rw [hx] at a1
    have b1 := congrArg List.length a1
    have b2 := congrArg List.length a2
    simp only [List.length_append, List.length_map, List.length_cons] at b1 b2
    omega
  obtain ⟨M3, e3, h3, f3⟩ := h2.trd (N := N) (k := k) (f := f) (g := g) (s := x.2.1) (by rw [wt_R (by decide) (by decide) (by decide), xR_uL]; exact hN) h2N h16 hk hf hg hH2 hlen hn
  refine ⟨M3, ?_, ?_, Fr.tr f1 (Fr.tr f2 f3)⟩
  · obtain ⟨p1, p2⟩ := f_pairs (16 * f + g) (by omega)
    have ep : enc (16 * f + g, x) &&& (255 : Int32) = nI (16 * f + g) := enc_pair (show (16 * f + g, x).1 < 256 by show 16 * f + g < 256; omega)
    rw [f_X10_bringNow, rs_f h.1, rs_0 h.1, bnd_e, rs_fa h.1, c851, rs_c h.1 (by omega), bnd_e, cl_n (by omega), g1, f_X10_pairOf, ep, obd_s, chk_t (by decide), bnd_e, obd_s, chk_t (by decide), bnd_e, e1, obd_s, f_X10_kindOf, enc_kind (show (16 * f + g, x).1 < 256 by show 16 * f + g < 256; omega) (show k < 8 by omega) ek, obd_s, f_X10_stampOf, enc_stamp (show (16 * f + g, x).1 < 256 by show 16 * f + g < 256; omega) (show k < 8 by omega) ek hsv es, obd_s, rs_f h1.1, p2, p1, show (16 * f + g) / 16 = f by omega, show (16 * f + g) % 16 = g by omega, ← es, e2, obd_s, f_X10_kindOf, enc_kind (show (16 * f + g, x).1 < 256 by show 16 * f + g < 256; omega) (show k < 8 by omega) ek, obd_s, f_X10_stampOf, enc_stamp (show (16 * f + g, x).1 < 256 by show 16 * f + g < 256; omega) (show k < 8 by omega) ek hsv es, obd_s, rs_f h2.1, ← es, e3, obd_s, f_X10_kindOf, enc_kind (show (16 * f + g, x).1 < 256 by show 16 * f + g < 256; omega) (show k < 8 by omega) ek, obd_s, ek]
  · unfold br; rw [hx]; simp only []; rw [kk]; exact h3
/-! ===== the moves of the reference ===== -/
theorem RV.cg {M M' : Mem} {tw : Bool} {t : Int32} {S : St} {pb pt : List Row4} (h : RV M tw t S pb pt) (e1 : M'.1 = M.1) (e2 : mI M' 120 3 = mI M 120 3) (e3 : ∀ b, mI M' 121 b = mI M 121 b) (e4 : ∀ b, mI M' 123 b = mI M 123 b) : RV M' tw t S pb pt := by
  obtain ⟨hS, ht, hA, hw, hl, hb1, hb2⟩ := h
  exact ⟨hS.e e1, e2.trans ht, fun k i hv => (e3 _).trans (hA k i hv), hw.cg (fun b _ _ => e3 b) rfl, ⟨(e3 _).trans hl.1, hl.2.1, hl.2.2.cg fun j _ _ => ⟨e3 _, e4 _⟩⟩, hb1.cg (e3 _) (fun b _ _ => e3 b), hb2.cg (e3 _) (fun b _ _ => e3 b)⟩
/-- what steps and moves leave as it is -/
def FrM (M M' : Mem) : Prop := M'.1 = M.1 ∧ (∀ o, ¬ (120 ≤ o ∧ o ≤ 124) → ∀ k, mI M' o k = mI M o k) ∧ (∀ k, k ≠ 6 → mI M' 120 k = mI M 120 k) ∧ (∀ o k, mL M' o k = mL M o k)
theorem FrM.rf (M : Mem) : FrM M M := ⟨rfl, fun _ _ _ => rfl, fun _ _ => rfl, fun _ _ => rfl⟩
theorem FrM.tr {M M' M'' : Mem} (h : FrM M M') (h' : FrM M' M'') : FrM M M'' :=
  ⟨h'.1.trans h.1, fun o q k => (h'.2.1 o q k).trans (h.2.1 o q k), fun k q => (h'.2.2.1 k q).trans (h.2.2.1 k q), fun o k => (h'.2.2.2 o k).trans (h.2.2.2 o k)⟩
/-- and a draw -/
def FrG (M M' : Mem) : Prop := M'.1 = M.1 ∧ (∀ o, ¬ (120 ≤ o ∧ o ≤ 124) → ∀ k, mI M' o k = mI M o k) ∧ (∀ k, k ≠ 6 → mI M' 120 k = mI M 120 k) ∧ (∀ o k, ¬ (o = 120 ∧ k = 8) → mL M' o k = mL M o k)
theorem FrM.G {M M' : Mem} (h : FrM M M') : FrG M M' := ⟨h.1, h.2.1, h.2.2.1, fun o k _ => h.2.2.2 o k⟩
theorem FrG.rf (M : Mem) : FrG M M := (FrM.rf M).G
theorem FrG.tr {M M' M'' : Mem} (h : FrG M M') (h' : FrG M' M'') : FrG M M'' :=
  ⟨h'.1.trans h.1, fun o q k => (h'.2.1 o q k).trans (h.2.1 o q k), fun k q => (h'.2.2.1 k q).trans (h.2.2.1 k q), fun o k q => (h'.2.2.2 o k q).trans (h.2.2.2 o k q)⟩
theorem FrM.of {M M' : Mem} {P : Nat → Prop} (h : Fr P M M') (hP : ∀ o, P o → 121 ≤ o ∧ o ≤ 124) : FrM M M' :=
  ⟨h.1, fun o q k => h.2.1 o (fun z => q ⟨by have := hP o z; omega, (hP o z).2⟩) k, fun k _ => h.2.1 120 (fun z => by have := hP 120 z; omega) k, fun o k => h.2.2 o k⟩
theorem FrM.ofA {M M' : Mem} (h : Fr PA M M') : FrM M M' := FrM.of h (fun o z => by unfold PA at z; omega)
def MV (M : Mem) (cs : List Int32) : Prop := mI M 120 6 = nI cs.length ∧ ∀ i c, cs[i]? = some c → mI M 124 i = c
theorem rs_4 {M : Mem} (h : RS M) : mR M 120 4 = 124 := h.r (by decide)
theorem rs_5 {M : Mem} (h : RS M) : mR M 120 5 = 125 := h.r (by decide)
theorem rs_f4 {α : Type} {M : Mem} (h : RS M) (x : Option α) : chk (isO M 100 124) x = x := chk_t (h.io (by decide) (by decide) (by decide))
theorem rs_f5 {α : Type} {M : Mem} (h : RS M) (x : Option α) : chk (isO M 100 125) x = x := chk_t (h.io (by decide) (by decide) (by decide))
theorem rs_c4 {α : Type} {M : Mem} (h : RS M) {k : Nat} (hk : k < 288) (x : Option α) : chk (inB (nI k) (mLn M 124)) x = x := by
  refine chk_t ?_
  rw [h.ln (c := 288) (by decide) (by decide) (by decide)]; exact inB_n hk (by decide)
theorem rs_c5 {α : Type} {M : Mem} (h : RS M) {k : Nat} (hk : k < 16) (x : Option α) : chk (inB (nI k) (mLn M 125)) x = x := by
  refine chk_t ?_
  rw [h.ln (c := 16) (by decide) (by decide) (by decide)]; exact inB_n hk (by decide)
def pushM (M : Mem) (cs : List Int32) (c : Int32) : Mem := sI (sI M 124 cs.length c) 120 6 (nI (cs.length + 1))
theorem MV.push {M : Mem} {cs : List Int32} (h : MV M cs) (c : Int32) : MV (pushM M cs c) (cs ++ [c]) := by
  refine ⟨?_, fun i d hi => ?_⟩
  · unfold pushM
    rw [mI_s, List.length_append, List.length_singleton]
  · unfold pushM
    rw [mI_o _ _ _ _ _ (by decide)]
    by_cases q : i < cs.length
    · rw [List.getElem?_append_left q] at hi
      rw [mI_n _ _ _ _ (by omega)]
      exact h.2 i d hi
    · rw [List.getElem?_append_right (by omega)] at hi
      have hl := (List.getElem?_eq_some_iff.mp hi).1
      rw [List.length_singleton] at hl
      have e : i = cs.length := by omega
      subst e
      rw [Nat.sub_self] at hi
      simp at hi
      rw [mI_s, hi]
theorem pushM_F (M : Mem) (cs : List Int32) (c : Int32) : FrM M (pushM M cs c) := by
  unfold pushM
  refine ⟨rfl, fun o q k => ?_, fun k q => ?_, fun _ _ => rfl⟩
  · rw [mI_o _ _ _ _ _ (by omega), mI_o _ _ _ _ _ (by omega)]
  · rw [mI_n _ _ _ _ q, mI_o _ _ _ _ _ (by decide)]
theorem RV.push {M : Mem} {tw : Bool} {t : Int32} {S : St} {pb pt : List Row4} (h : RV M tw t S pb pt) (cs : List Int32) (c : Int32) : RV (pushM M cs c) tw t S pb pt := by
  refine h.cg rfl ?_ (fun b => ?_) (fun b => ?_)
  · exact (pushM_F M cs c).2.2.1 3 (by decide)
  · unfold pushM; rw [mI_o _ _ _ _ _ (by decide), mI_o _ _ _ _ _ (by decide)]
  · unfold pushM; rw [mI_o _ _ _ _ _ (by decide), mI_o _ _ _ _ _ (by decide)]
/-- pairs in a row, each once -/
def dd : Option Nat → List (Nat × Ltr) → List Nat
  | _, [] => []
  | o, q :: r => if o = some q.1 then dd o r else q.1 :: dd (some q.1) r
def lanes (S : St) : List Nat := (List.range 256).filter fun l => !(xL S l).isEmpty
theorem dd_same (l : Nat) (xs : List Ltr) (rest : List (Nat × Ltr)) : dd (some l) ((xs.map fun x => (l, x)) ++ rest) = dd (some l) rest := by
  induction xs with
  | nil => rfl
  | cons x xs ih =>
    rw [List.map_cons, List.cons_append]
    conv => lhs; unfold dd
    rw [if_pos rfl]
    exact ih
theorem dd_flr (L : Nat → List Ltr) : ∀ (n a : Nat) (o : Option Nat), (∀ l, o = some l → l < a) → dd o (flr L a n) = (List.range' a n).filter fun l => !(L l).isEmpty := by
  intro n
  induction n with
  | zero => intro a o _; rfl
  | succ n ih =>
    intro a o ho
    have e : flr L a (n + 1) = ((L a).map fun x => (a, x)) ++ flr L (a + 1) n := by
      unfold flr
      rw [List.range'_succ, List.flatMap_cons]
    rw [e, List.range'_succ, List.filter_cons]
    cases hL : L a with
    | nil =>
      simp only [List.map_nil, List.nil_append, List.isEmpty_nil, Bool.not_true, Bool.false_eq_true, if_false]
      exact ih (a + 1) o (fun l q => by have := ho l q; omega)
    | cons x xs =>
      rw [List.map_cons, List.cons_append]
      conv => lhs; unfold dd
      rw [if_neg (fun q => by have := ho a q; omega), dd_same]
      simp only [List.isEmpty_cons, Bool.not_false, if_true]
      rw [ih (a + 1) (some a) (fun l q => by have := Option.some.inj q; omega)]
theorem dd_fl (S : St) : dd none (fl S) = lanes S := by
  rw [fl_r, dd_flr _ _ _ _ (fun l q => by cases q)]
  unfold lanes
  rw [List.range_eq_range']
theorem lanes_len (S : St) : (lanes S).length ≤ 256 := by
  have := List.length_filter_le (fun l => !(xL S l).isEmpty) (List.range 256)
  rw [List.length_range] at this
  exact this
theorem m1_ne' (v : Nat) (h : v < 256) : ¬ (-1 : Int32) = nI v := fun q => by
  have h1 := nI_pos (n := v) (by omega)
  rw [← q] at h1
  exact h1 (by decide)
def lastI : Option Nat → Int32
  | none => -1
  | some l => nI l
set_option maxHeartbeats 1000000 in
theorem lay_1 {tw : Bool} {t : Int32} {S : St} {pb pt : List Row4} : ∀ (q p : List (Nat × Ltr)) (o : Option Nat) (cs : List Int32) (M : Mem) (n : Nat), RV M tw t S pb pt → fl S = p ++ q → (∀ l, o = some l → l < 256) → MV M cs → cs.length + (dd o q).length ≤ 288 → q.length + 1 ≤ n → ∃ M' n', n ≤ n' + q.length + 1 ∧ f_X10_layMoves_9 n 120 (lastI o) (nI p.length) M = f_X10_layMoves_83 n' 120 0 M' ∧ RV M' tw t S pb pt ∧ MV M' (cs ++ (dd o q).map nI) ∧ FrM M M' := by
  intro q
  induction q with
  | nil =>
    intro p o cs M n h e ho hm hl hn
    obtain ⟨n, rfl⟩ : ∃ m, n = m + 1 := ⟨n - 1, by omega⟩
    rw [List.append_nil] at e
    have h9 := h.2.2.2.2.1.2.1
    refine ⟨M, n, by simp, ?_, h, by simpa [dd] using hm, FrM.rf M⟩
    rw [f_X10_layMoves_9, rs_f h.1, rs_0 h.1, bnd_e, rs_fa h.1, l850, rs_c h.1 (by decide), cl_n (by decide), h.2.2.2.2.1.1, e, if_pos (nI_le (Nat.le_refl _) (by rw [e] at h9; omega))]
  | cons z q ih =>
    intro p o cs M n h e ho hm hl hn
    simp only [List.length_cons] at hn
    obtain ⟨n, rfl⟩ : ∃ m, n = m + 1 := ⟨n - 1, by omega⟩
    have h9 := h.2.2.2.2.1.2.1
    have hlen : (fl S).length = p.length + q.length + 1 := by rw [e]; simp; omega
    have hz : z.1 < 256 := (fl_mem (S := S) (by rw [e]; simp)).1
    have g := h.2.2.2.2.1.2.2 p.length z (by rw [e, List.getElem?_append_right (Nat.le_refl _)]; simp)
    rw [Nat.zero_add] at g
    have ep : (p ++ [z]).length = p.length + 1 := by simp
    have e' : fl S = (p ++ [z]) ++ q := by rw [e]; simp
    have open1 : ∀ y, (if nI z.1 = lastI o then f_X10_layMoves_9 n 120 (lastI o) (nI (p.length + 1)) M else f_X10_layMoves_9 n 120 (nI z.1) (nI (p.length + 1)) (pushM M cs (nI z.1))) = y → (nI z.1 = lastI o ∨ cs.length < 288) → f_X10_layMoves_9 (n + 1) 120 (lastI o) (nI p.length) M = y := by
      intro y hy hc
      rw [f_X10_layMoves_9, rs_f h.1, rs_0 h.1, bnd_e, rs_fa h.1, l850, rs_c h.1 (by decide), cl_n (by decide), h.2.2.2.2.1.1, hlen, if_neg (nI_ge (by omega) (by omega)), bnd_e, rs_fa h.1, c851, rs_c h.1 (by omega), f_X10_pairOf, mI_c (by omega), g.1, enc_pair hz, obd_s]
      by_cases c : nI z.1 = lastI o
      · rw [if_pos c] at hy ⊢
        rw [nI_1, bnd_e]; exact hy
      · rw [if_neg c] at hy ⊢
        have hc := hc.resolve_left c
        rw [bnd_e, rs_fa h.1, rs_c h.1 (by omega), f_X10_pairOf, mI_c (by omega), g.1, enc_pair hz, obd_s, rs_4 h.1, bnd_e, rs_f4 h.1, hm.1, rs_c4 h.1 hc, bnd_e, cl_n (by omega), mI_o _ _ _ _ _ (by decide), hm.1, nI_1, nI_1]
        simp only [bnd_e]
        exact hy
    unfold dd at hl ⊢
    by_cases c : o = some z.1
    · rw [if_pos c] at hl ⊢
      obtain ⟨M', n', i0, i1, i2, i3, i4⟩ := ih (p ++ [z]) o cs M n h e' ho hm hl (by omega)
      refine ⟨M', n', by simp only [List.length_cons]; omega, open1 _ ?_ (Or.inl (by rw [c]; rfl)), i2, i3, i4⟩
      rw [if_pos (by rw [c]; rfl), ← ep]; exact i1
    · rw [if_neg c] at hl ⊢
      simp only [List.length_cons] at hl
      have hne : ¬ nI z.1 = lastI o := by
        cases o with
        | none => exact fun q => by have := m1_ne' z.1 hz; exact this q.symm
        | some l => exact fun q => c (by rw [(nI_eq (a := z.1) (b := l) (by omega) (by have := ho l rfl; omega)).mp q])
      obtain ⟨M', n', i0, i1, i2, i3, i4⟩ := ih (p ++ [z]) (some z.1) (cs ++ [nI z.1]) (pushM M cs (nI z.1)) n (h.push cs _) e' (fun l q => by have := Option.some.inj q; omega) (hm.push _) (by simp; omega) (by omega)
      refine ⟨M', n', by simp only [List.length_cons]; omega, open1 _ ?_ (Or.inr (by omega)), i2, by simpa using i3, FrM.tr (pushM_F M cs _) i4⟩
      rw [if_neg hne, ← ep]; exact i1
def inss (N : Nat) (S : St) : List Nat := (List.range N).filter fun v => decide (xR S 0 v = 2)
def inss' (i d : Nat) (S : St) : List Nat := (List.range' i d).filter fun v => decide (xR S 0 v = 2)
def lvc (v : Nat) : Int32 := (-1 : Int32) - nI v
theorem lay_2 {tw : Bool} {t : Int32} {S : St} {pb pt : List Row4} {N : Nat} (hN : xR S 20 0 = nI N) (h16 : N ≤ 16) : ∀ (d i : Nat) (cs : List Int32) (M : Mem) (n : Nat), RV M tw t S pb pt → i + d = N → MV M cs → cs.length + d ≤ 288 → d + 1 ≤ n → ∃ M' n', n ≤ n' + d + 1 ∧ f_X10_layMoves_83 n 120 (nI i) M = f_X10_layMoves_136 n' 120 0 M' ∧ RV M' tw t S pb pt ∧ MV M' (cs ++ (inss' i d S).map lvc) ∧ FrM M M' := by
  intro d
  induction d with
  | zero =>
    intro i cs M n h hi hm hl hn
    obtain ⟨n, rfl⟩ : ∃ m, n = m + 1 := ⟨n - 1, by omega⟩
    refine ⟨M, n, by omega, ?_, h, by simpa [inss'] using hm, FrM.rf M⟩
    rw [f_X10_layMoves_83, rs_f h.1, rs_0 h.1, bnd_e, rs_fa h.1, rs_c0 h.1, cl0, h.N hN, if_pos (nI_le (by omega) (by omega))]
  | succ d ih =>
    intro i cs M n h hi hm hl hn
    obtain ⟨n, rfl⟩ : ∃ m, n = m + 1 := ⟨n - 1, by omega⟩
    have open1 : ∀ y, (if xR S 0 i = 2 then f_X10_layMoves_83 n 120 (nI (i + 1)) (pushM M cs (lvc i)) else f_X10_layMoves_83 n 120 (nI (i + 1)) M) = y → f_X10_layMoves_83 (n + 1) 120 (nI i) M = y := by
      intro y hy
      rw [f_X10_layMoves_83, rs_f h.1, rs_0 h.1, bnd_e, rs_fa h.1, rs_c0 h.1, cl0, h.N hN, if_neg (nI_ge (by omega) (by omega)), h.get0 (by omega), obd_s]
      by_cases c : xR S 0 i = 2
      · rw [if_pos c] at hy ⊢
        rw [rs_4 h.1, bnd_e, rs_f4 h.1, hm.1, rs_c4 h.1 (by omega), bnd_e, cl_n (by omega), mI_o _ _ _ _ _ (by decide), hm.1, nI_1, nI_1]
        simp only [bnd_e]
        exact hy
      · rw [if_neg c] at hy ⊢
        simp only [bnd_e, nI_1]
        exact hy
    have el : inss' i (d + 1) S = if xR S 0 i = 2 then i :: inss' (i + 1) d S else inss' (i + 1) d S := by
      unfold inss'
      rw [List.range'_succ, List.filter_cons]
      by_cases c : xR S 0 i = 2
      · rw [if_pos (decide_eq_true c), if_pos c]
      · rw [if_neg (by simpa using c), if_neg c]
    rw [el]
    by_cases c : xR S 0 i = 2
    · rw [if_pos c] at open1 ⊢
      obtain ⟨M', n', i0, i1, i2, i3, i4⟩ := ih (i + 1) (cs ++ [lvc i]) (pushM M cs (lvc i)) n (h.push cs _) (by omega) (hm.push _) (by simp; omega) (by omega)
      exact ⟨M', n', by omega, open1 _ i1, i2, by simpa using i3, FrM.tr (pushM_F M cs _) i4⟩
    · rw [if_neg c] at open1 ⊢
      obtain ⟨M', n', i0, i1, i2, i3, i4⟩ := ih (i + 1) cs M n h (by omega) hm (by omega) (by omega)
      exact ⟨M', n', by omega, open1 _ i1, i2, i3, i4⟩
def asks' (i d N : Nat) (S : St) (ask : Int32) (sn : Nat → Int32) : List Nat := (List.range' i d).filter fun v => bt ask v && (mayA N v S && decide (xR S 2 v = sn v))
def akc (v : Nat) : Int32 := nI (256 + v)
theorem c256 (v : Nat) : (256 : Int32) + nI v = nI (256 + v) := by rw [show (256 : Int32) = nI 256 from rfl, nI_add]
theorem P2_M {M M' : Mem} (h : Fr P2 M M') : FrM M M' ∧ (∀ b, mI M' 124 b = mI M 124 b) ∧ (∀ k, mI M' 125 k = mI M 125 k) ∧ ∀ k, mI M' 120 k = mI M 120 k :=
  ⟨FrM.of h (fun o z => by unfold P2 at z; omega), fun b => h.2.1 124 (by unfold P2; decide) b, fun b => h.2.1 125 (by unfold P2; decide) b, fun k => h.2.1 120 (by unfold P2; decide) k⟩
set_option maxHeartbeats 1000000 in
theorem lay_3 {tw : Bool} {t : Int32} {S : St} {pb pt : List Row4} {N : Nat} (hN : xR S 20 0 = nI N) (h16 : N ≤ 16) (ht : xR S 20 1 = 1 → N % 2 = 1) {ask : Int32} {sn : Nat → Int32} : ∀ (d i : Nat) (cs : List Int32) (M : Mem) (n : Nat), RV M tw t S pb pt → i + d = N → MV M cs → cs.length + d ≤ 288 → mI M 120 7 = ask → (∀ v, v < N → mI M 125 v = sn v) → d + 61 ≤ n → ∃ M', f_X10_layMoves_136 n 120 (nI i) M = some M' ∧ RV M' tw t S pb pt ∧ MV M' (cs ++ (asks' i d N S ask sn).map akc) ∧ FrM M M' := by
  intro d
  induction d with
  | zero =>
    intro i cs M n h hi hm hl hask hsn hn
    obtain ⟨n, rfl⟩ : ∃ m, n = m + 1 := ⟨n - 1, by omega⟩
    refine ⟨M, ?_, h, by simpa [asks'] using hm, FrM.rf M⟩
    rw [f_X10_layMoves_136, rs_f h.1, rs_0 h.1, bnd_e, rs_fa h.1, rs_c0 h.1, cl0, h.N hN, if_pos (nI_le (by omega) (by omega))]
  | succ d ih =>
    intro i cs M n h hi hm hl hask hsn hn
    obtain ⟨n, rfl⟩ : ∃ m, n = m + 1 := ⟨n - 1, by omega⟩
    obtain ⟨M1, c1, h1, f1⟩ := h.can hN h16 ht (v := i) (by omega) (n := n) (by omega)
    obtain ⟨g1, g2, g3, g4⟩ := P2_M f1
    have hm1 : MV M1 cs := ⟨(g4 6).trans hm.1, fun k c q => (g2 k).trans (hm.2 k c q)⟩
    have hask1 : mI M1 120 7 = ask := (g4 7).trans hask
    have hsn1 : ∀ v, v < N → mI M1 125 v = sn v := fun v hv => (g3 v).trans (hsn v hv)
    have el : asks' i (d + 1) N S ask sn = if (bt ask i && (mayA N i S && decide (xR S 2 i = sn i))) = true then i :: asks' (i + 1) d N S ask sn else asks' (i + 1) d N S ask sn := by
      unfold asks'
      rw [List.range'_succ, List.filter_cons]
    rw [el]
    have open1 : ∀ y, (if bt ask i = true then (if mayA N i S = true then (if xR S 2 i = sn i then f_X10_layMoves_136 n 120 (nI (i + 1)) (pushM M1 cs (akc i)) else f_X10_layMoves_136 n 120 (nI (i + 1)) M1) else f_X10_layMoves_136 n 120 (nI (i + 1)) M1) else f_X10_layMoves_136 n 120 (nI (i + 1)) M) = y → f_X10_layMoves_136 (n + 1) 120 (nI i) M = y := by
      intro y hy
      rw [f_X10_layMoves_136, rs_f h.1, rs_0 h.1, bnd_e, rs_fa h.1, rs_c0 h.1, cl0, h.N hN, if_neg (nI_ge (by omega) (by omega)), hask, f_has10 _ (by omega), obd_s, c1, obd2_s]
      cases b1 : bt ask i
      · rw [b1] at hy
        simp only [Bool.false_eq_true, if_false, if_true, bnd_e, nI_1] at hy ⊢
        exact hy
      · rw [b1] at hy
        simp only [if_true, ne10, if_false] at hy ⊢
        cases b2 : mayA N i S
        · rw [b2] at hy
          simp only [Bool.false_eq_true, if_false, if_true, bnd_e, nI_1] at hy ⊢
          exact hy
        · rw [b2] at hy
          simp only [if_true, ne10, if_false] at hy ⊢
          rw [rs_f h1.1, h1.get2 (by omega), obd_s, rs_5 h1.1, bnd_e, rs_f5 h1.1, rs_c5 h1.1 (by omega), cl_n (by omega), hsn1 i (by omega)]
          by_cases c : xR S 2 i = sn i
          · rw [if_pos c] at hy ⊢
            rw [rs_4 h1.1, bnd_e, rs_f4 h1.1, hm1.1, rs_c4 h1.1 (by omega), bnd_e, cl_n (by omega), c256, mI_o _ _ _ _ _ (by decide), hm1.1, nI_1, nI_1]
            simp only [bnd_e]
            exact hy
          · rw [if_neg c] at hy ⊢
            simp only [bnd_e, nI_1]
            exact hy
    cases b1 : bt ask i
    · rw [b1] at open1
      obtain ⟨M', i1, i2, i3, i4⟩ := ih (i + 1) cs M n h (by omega) hm (by omega) hask hsn (by omega)
      refine ⟨M', open1 _ (by simpa using i1), i2, by simpa using i3, i4⟩
    · rw [b1] at open1
      cases b2 : mayA N i S
      · rw [b2] at open1
        obtain ⟨M', i1, i2, i3, i4⟩ := ih (i + 1) cs M1 n h1 (by omega) hm1 (by omega) hask1 hsn1 (by omega)
        refine ⟨M', open1 _ (by simpa using i1), i2, by simpa using i3, FrM.tr g1 i4⟩
      · rw [b2] at open1
        by_cases c : xR S 2 i = sn i
        · have p7 : mI (pushM M1 cs (akc i)) 120 7 = ask := ((pushM_F M1 cs (akc i)).2.2.1 7 (by decide)).trans hask1
          have p5 : ∀ v, v < N → mI (pushM M1 cs (akc i)) 125 v = sn v := fun v hv => ((pushM_F M1 cs (akc i)).2.1 125 (by decide) v).trans (hsn1 v hv)
          obtain ⟨M', i1, i2, i3, i4⟩ := ih (i + 1) (cs ++ [akc i]) (pushM M1 cs (akc i)) n (h1.push cs _) (by omega) (hm1.push _) (by simp; omega) p7 p5 (by omega)
          refine ⟨M', open1 _ (by simpa [c] using i1), i2, by simpa [c] using i3, FrM.tr g1 (FrM.tr (pushM_F M1 cs _) i4)⟩
        · obtain ⟨M', i1, i2, i3, i4⟩ := ih (i + 1) cs M1 n h1 (by omega) hm1 (by omega) hask1 hsn1 (by omega)
          refine ⟨M', open1 _ (by simpa [c] using i1), i2, by simpa [c] using i3, FrM.tr g1 i4⟩
/-- the moves, as the reference writes them -/
def mvc (N : Nat) (S : St) (ask : Int32) (sn : Nat → Int32) : List Int32 := (lanes S).map nI ++ (inss N S).map lvc ++ (asks' 0 N N S ask sn).map akc
theorem inss_len (N : Nat) (S : St) : (inss N S).length ≤ N := by
  have := List.length_filter_le (fun v => decide (xR S 0 v = 2)) (List.range N)
  rw [List.length_range] at this
  exact this
theorem RV.lay {M : Mem} {tw : Bool} {t : Int32} {S : St} {pb pt : List Row4} (h : RV M tw t S pb pt) {N : Nat} (hN : xR S 20 0 = nI N) (h16 : N ≤ 16) (ht : xR S 20 1 = 1 → N % 2 = 1) {ask : Int32} {sn : Nat → Int32} (hask : mI M 120 7 = ask) (hsn : ∀ v, v < N → mI M 125 v = sn v) {n : Nat} (hn : 9200 ≤ n) : ∃ M', f_X10_layMoves n 120 M = some M' ∧ RV M' tw t S pb pt ∧ MV M' (mvc N S ask sn) ∧ FrM M M' := by
  have h9 := h.2.2.2.2.1.2.1
  generalize hM0 : sI M 120 6 0 = M0
  have h0 : RV M0 tw t S pb pt := by
    rw [← hM0]
    exact h.cg rfl (mI_n _ _ _ _ (by decide)) (fun b => mI_o _ _ _ _ _ (by decide)) (fun b => mI_o _ _ _ _ _ (by decide))
  have m0 : MV M0 [] := ⟨by rw [← hM0, mI_s]; rfl, fun i c q => by simp at q⟩
  have f0 : FrM M M0 := by
    rw [← hM0]
    exact ⟨rfl, fun o q k => mI_o _ _ _ _ _ (by omega), fun k q => mI_n _ _ _ _ q, fun _ _ => rfl⟩
  have hl1 := lanes_len S
  have hl2 := inss_len N S
  have hdd := dd_fl S
  obtain ⟨M1, n1, a0, a1, a2, a3, a4⟩ := lay_1 (fl S) [] none [] M0 n h0 (by simp) (fun l q => by cases q) m0 (by rw [hdd]; simp; omega) (by omega)
  rw [hdd, List.nil_append] at a3
  obtain ⟨M2, n2, b0, b1, b2, b3, b4⟩ := lay_2 hN h16 N 0 ((lanes S).map nI) M1 n1 a2 (by omega) a3 (by simp; omega) (by omega)
  have ei : inss' 0 N S = inss N S := by unfold inss' inss; rw [List.range_eq_range']
  rw [ei] at b3
  have f2 : FrM M M2 := FrM.tr f0 (FrM.tr a4 b4)
  obtain ⟨M3, c1, c2, c3, c4⟩ := lay_3 hN h16 ht (ask := ask) (sn := sn) N 0 _ M2 n2 b2 (by omega) b3 (by simp; omega) ((f2.2.2.1 7 (by decide)).trans hask) (fun v hv => (f2.2.1 125 (by decide) v).trans (hsn v hv)) (by omega)
  refine ⟨M3, ?_, c2, c3, FrM.tr f2 c4⟩
  have a1' : f_X10_layMoves_9 n 120 (-1) 0 M0 = f_X10_layMoves_83 n1 120 0 M1 := a1
  have b1' : f_X10_layMoves_83 n1 120 0 M1 = f_X10_layMoves_136 n2 120 0 M2 := b1
  have c1' : f_X10_layMoves_136 n2 120 0 M2 = some M3 := c1
  rw [f_X10_layMoves, rs_f h.1, bnd_e, hM0, a1', b1', c1']
/-! ===== what holds of the model's state ===== -/
theorem nd_le : ∀ (n : Nat) (l : List Nat), l.Nodup → (∀ x, x ∈ l → x < n) → l.length ≤ n := by
  intro n
  induction n with
  | zero =>
    intro l _ h
    cases l with
    | nil => exact Nat.le_refl _
    | cons a r => exact absurd (h a (by simp)) (by omega)
  | succ n ih =>
    intro l hd h
    by_cases c : n ∈ l
    · have h1 := ih (l.erase n) (hd.erase n) (fun x hx => by
        have h2 := (hd.mem_erase_iff.mp hx)
        have h3 := h x h2.2
        have h4 := h2.1
        omega)
      have h5 := List.length_erase_of_mem c
      omega
    · have h1 := ih l hd (fun x hx => by
        have h3 := h x hx
        have h4 : x ≠ n := fun e => c (e ▸ hx)
        omega)
      omega
theorem ahd_t {s v s' v' s'' v'' : Int32} (h : ahd s v s' v' = true) (h' : ahd s' v' s'' v'' = true) : ahd s v s'' v'' = true := by
  unfold ahd at *
  have q := of_decide_eq_true h
  have q' := of_decide_eq_true h'
  clear h h'
  refine decide_eq_true ?_
  simp only [Int32.lt_iff_toInt_lt, ← Int32.toInt_inj] at *
  omega
theorem ahd_tot {s v s' v' : Int32} (h : ahd s v s' v' = false) (hne : ¬ (s = s' ∧ v = v')) : ahd s' v' s v = true := by
  unfold ahd at *
  have q := of_decide_eq_false h
  clear h
  refine decide_eq_true ?_
  simp only [Int32.lt_iff_toInt_lt, ← Int32.toInt_inj] at *
  omega
theorem ahd_ir (s v : Int32) : ahd s v s v = false := by
  unfold ahd
  refine decide_eq_false ?_
  rintro (h | ⟨_, h⟩)
  · exact Int32.lt_irrefl h
  · exact Int32.lt_irrefl h
theorem ahd_as {s v s' v' : Int32} (h : ahd s v s' v' = true) : ahd s' v' s v = false := by
  cases c : ahd s' v' s v
  · rfl
  · have := ahd_t h c
    rw [ahd_ir] at this
    exact absurd this (by decide)
def aw (x y : Wtr) : Prop := ahd x.2 (nI x.1) y.2 (nI y.1) = true
/-- those that wait: by turns, each node once -/
def Wok (N A : Nat) (l : List Wtr) : Prop := l.Pairwise aw ∧ (l.map Prod.fst).Nodup ∧ ∀ w, w ∈ l → w.1 < N ∧ ∃ s, s ≤ A ∧ w.2 = nI s
theorem Wok.len {N A : Nat} {l : List Wtr} (h : Wok N A l) : l.length ≤ N := by
  have := nd_le N (l.map Prod.fst) h.2.1 (fun x hx => by
    obtain ⟨w, hw, rfl⟩ := List.mem_map.mp hx
    exact (h.2.2 w hw).1)
  rwa [List.length_map] at this
theorem Wok.tl {N A : Nat} {w : Wtr} {l : List Wtr} (h : Wok N A (w :: l)) : Wok N A l :=
  ⟨(List.pairwise_cons.mp h.1).2, by have := h.2.1; rw [List.map_cons] at this; exact (List.nodup_cons.mp this).2, fun x hx => h.2.2 x (List.mem_cons_of_mem _ hx)⟩
theorem Srt_of {v : Nat} {s : Int32} : ∀ {l : List Wtr}, l.Pairwise aw → Srt v s l := by
  intro l
  induction l with
  | nil => intro _ x hx; simp [spl] at hx
  | cons w r ih =>
    intro h x hx
    unfold spl at hx
    by_cases c : ahw v s w = true
    · rw [if_pos c] at hx
      rcases List.mem_cons.mp hx with rfl | hx
      · exact c
      · exact ahd_t c ((List.pairwise_cons.mp h).1 x hx)
    · rw [if_neg c] at hx
      exact ih (List.pairwise_cons.mp h).2 x hx
theorem ins_perm {v : Nat} {s : Int32} {l : List Wtr} {x : Wtr} : x ∈ ins v s l ↔ x = (v, s) ∨ x ∈ l := by
  refine ⟨ins_mem, fun h => ?_⟩
  unfold ins
  rcases h with rfl | h
  · simp
  · rw [← spl_ap (ahw v s) l] at h
    rcases List.mem_append.mp h with h | h
    · exact List.mem_append_left _ h
    · exact List.mem_append_right _ (List.mem_cons_of_mem _ h)
theorem ins_Wok {N A v s : Nat} {l : List Wtr} (h : Wok N A l) (hv : v < N) (h16 : N ≤ 16) (hs : s ≤ A) (hn : v ∉ l.map Prod.fst) : Wok N A (ins v (nI s) l) := by
  have hsp := spl_ap (ahw v (nI s)) l
  have hsrt := Srt_of (v := v) (s := nI s) h.1
  have h1 := spl_1 (ahw v (nI s)) l
  refine ⟨?_, ?_, fun w hw => ?_⟩
  · unfold ins
    have hp : ((spl (ahw v (nI s)) l).1 ++ (spl (ahw v (nI s)) l).2).Pairwise aw := by rw [hsp]; exact h.1
    rw [List.pairwise_append] at hp ⊢
    refine ⟨hp.1, List.pairwise_cons.mpr ⟨fun y hy => hsrt y hy, hp.2.1⟩, fun x hx y hy => ?_⟩
    rcases List.mem_cons.mp hy with rfl | hy
    · refine ahd_tot (h1 x hx) (fun q => ?_)
      have hxl : x ∈ l := by rw [← hsp]; exact List.mem_append_left _ hx
      have := (h.2.2 x hxl).1
      have e : v = x.1 := (nI_eq (by omega) (by omega)).mp q.2
      exact hn (by rw [e]; exact List.mem_map_of_mem hxl)
    · exact hp.2.2 x hx y hy
  · unfold ins
    have hp : ((spl (ahw v (nI s)) l).1.map Prod.fst ++ (spl (ahw v (nI s)) l).2.map Prod.fst).Nodup := by rw [← List.map_append, hsp]; exact h.2.1
    have hn2 : v ∉ (spl (ahw v (nI s)) l).1.map Prod.fst ++ (spl (ahw v (nI s)) l).2.map Prod.fst := by rw [← List.map_append, hsp]; exact hn
    rw [List.mem_append, not_or] at hn2
    rw [List.map_append, List.map_cons]
    rw [List.nodup_append] at hp ⊢
    refine ⟨hp.1, List.nodup_cons.mpr ⟨hn2.2, hp.2.1⟩, fun a ha b hb => ?_⟩
    rcases List.mem_cons.mp hb with rfl | hb
    · exact fun e => hn2.1 (e ▸ ha)
    · exact hp.2.2 a ha b hb
  · rcases ins_mem hw with rfl | hw
    · exact ⟨hv, s, hs, rfl⟩
    · exact h.2.2 w hw
theorem gone_sub {v : Nat} {s : Int32} {l : List Wtr} : (gone v s l).Sublist l := by
  induction l with
  | nil => exact List.Sublist.refl _
  | cons w r ih =>
    unfold gone
    by_cases c : w = (v, s)
    · rw [if_pos c]; exact List.sublist_cons_self _ _
    · rw [if_neg c]; exact ih.cons₂ _
theorem Wok.sub {N A : Nat} {l l' : List Wtr} (h : Wok N A l) (q : l'.Sublist l) : Wok N A l' :=
  ⟨h.1.sublist q, h.2.1.sublist (q.map _), fun w hw => h.2.2 w (q.subset hw)⟩
/-- the stamp by which v waits -/
def engW (l : List Wtr) (v : Nat) : Option Int32 := match l with
  | [] => none
  | w :: r => if w.1 = v then some w.2 else engW r v
theorem engW_none {l : List Wtr} {v : Nat} : engW l v = none ↔ v ∉ l.map Prod.fst := by
  induction l with
  | nil => simp [engW]
  | cons w r ih =>
    unfold engW
    rw [List.map_cons, List.mem_cons, not_or]
    by_cases c : w.1 = v
    · rw [if_pos c]; simp [c]
    · rw [if_neg c, ih]; exact ⟨fun h => ⟨fun e => c e.symm, h⟩, fun h => h.2⟩
theorem engW_some {l : List Wtr} {v : Nat} {s : Int32} (hd : (l.map Prod.fst).Nodup) : engW l v = some s ↔ (v, s) ∈ l := by
  induction l with
  | nil => simp [engW]
  | cons w r ih =>
    rw [List.map_cons] at hd
    have hd2 := List.nodup_cons.mp hd
    unfold engW
    by_cases c : w.1 = v
    · rw [if_pos c]
      constructor
      · intro h
        have : w = (v, s) := Prod.ext c (Option.some.inj h)
        rw [this]; simp
      · intro h
        rcases List.mem_cons.mp h with h | h
        · rw [← h]
        · exact absurd (List.mem_map_of_mem (f := Prod.fst) h) (by rw [← c]; exact hd2.1)
    · rw [if_neg c, ih hd2.2]
      constructor
      · intro h; exact List.mem_cons_of_mem _ h
      · intro h
        rcases List.mem_cons.mp h with h | h
        · exact absurd (congrArg Prod.fst h).symm c
        · exact h
def eng (S : St) (a v : Nat) : Option Int32 := if xR S 8 a = nI v then some (xR S 9 a) else engW (xW S a) v
theorem engW_ins {N A v s : Nat} {l : List Wtr} (h : Wok N A l) (hv : v < N) (h16 : N ≤ 16) (hs : s ≤ A) (hn : v ∉ l.map Prod.fst) (u : Nat) : engW (ins v (nI s) l) u = if u = v then some (nI s) else engW l u := by
  have hd := (ins_Wok h hv h16 hs hn).2.1
  by_cases c : u = v
  · rw [if_pos c, engW_some hd, c]; exact ins_perm.mpr (Or.inl rfl)
  · rw [if_neg c]
    cases e : engW l u with
    | none =>
      rw [engW_none] at e ⊢
      intro q
      obtain ⟨w, hw, rfl⟩ := List.mem_map.mp q
      rcases ins_mem hw with rfl | hw
      · exact c rfl
      · exact e (List.mem_map_of_mem hw)
    | some z =>
      rw [engW_some h.2.1] at e
      rw [engW_some hd]
      exact ins_perm.mpr (Or.inr e)
theorem engW_gone {l : List Wtr} (hd : (l.map Prod.fst).Nodup) {v : Nat} {s : Int32} (hm : engW l v = some s) (u : Nat) : engW (gone v s l) u = if u = v then none else engW l u := by
  induction l with
  | nil => simp [engW] at hm
  | cons w r ih =>
    rw [List.map_cons] at hd
    have hd2 := List.nodup_cons.mp hd
    unfold gone
    by_cases c : w = (v, s)
    · rw [if_pos c]
      subst c
      by_cases q : u = v
      · rw [if_pos q, engW_none, q]; exact hd2.1
      · rw [if_neg q]
        conv => rhs; unfold engW
        rw [if_neg (fun e => q e.symm)]
    · rw [if_neg c]
      have hm2 : w.1 ≠ v := by
        intro e
        unfold engW at hm
        rw [if_pos e] at hm
        exact c (Prod.ext e (Option.some.inj hm))
      have hm3 : engW r v = some s := by
        unfold engW at hm
        rwa [if_neg hm2] at hm
      have := ih hd2.2 hm3
      unfold engW
      by_cases q : w.1 = u
      · rw [if_pos q, if_pos q, if_neg (fun e => hm2 (q.trans e))]
      · rw [if_neg q, if_neg q]; exact this
theorem gone_id {l : List Wtr} {v : Nat} {s : Int32} (h : (v, s) ∉ l) : gone v s l = l := by
  induction l with
  | nil => rfl
  | cons w r ih =>
    unfold gone
    rw [if_neg (fun e => h (by rw [e]; simp)), ih (fun q => h (List.mem_cons_of_mem _ q))]
/-- a lane's REQUESTs and RELEASEs, from what the arbiter knows on -/
def run : Option Int32 → List Ltr → Option (Option Int32)
  | e, [] => some e
  | e, x :: r => if x.1 = nI 0 then (if e = none then run (some x.2.1) r else none) else if x.1 = nI 5 then (if e = some x.2.1 then run none r else none) else run e r
theorem run_ap (r : List Ltr) (x : Ltr) : ∀ e, run e (r ++ [x]) = (run e r).bind fun e' => run e' [x] := by
  induction r with
  | nil => intro e; rfl
  | cons y r ih =>
    intro e
    rw [List.cons_append]
    unfold run
    split
    · split
      · exact ih _
      · rfl
    · split
      · split
        · exact ih _
        · rfl
      · exact ih _
theorem run_other {e : Option Int32} {x : Ltr} (h0 : ¬ x.1 = nI 0) (h5 : ¬ x.1 = nI 5) : run e [x] = some e := by
  unfold run
  rw [if_neg h0, if_neg h5]; rfl
theorem run_req {s : Int32} {t : Int32} : run none [(nI 0, s, t)] = some (some s) := by
  unfold run
  rw [if_pos rfl, if_pos rfl]; rfl
theorem run_rel {s : Int32} {t : Int32} : run (some s) [(nI 5, s, t)] = some none := by
  unfold run
  rw [if_neg (show ¬ nI 5 = nI 0 by decide), if_pos rfl, if_pos rfl]; rfl
/-- v's asking at a that isn't over -/
def opn (S : St) (v a : Nat) : Option Int32 := if xR S 0 v ≠ 0 ∧ bt (xR S 3 v) a = true then some (xR S 2 v) else none
/-- s is a stamp of v's; of its latest, while it asks, only at those in use -/
def Zok (S : St) (v a : Nat) (s : Int32) : Prop := ∃ n m, s = nI n ∧ xR S 2 v = nI m ∧ n ≤ m ∧ m < 1048576 ∧ (n = m → xR S 0 v = 1 → bt (xR S 3 v) a = true)
/-- what holds of S, but that of v0 at a0 the arbiter's part is e0 -/
def oe (S : St) (v0 a0 : Nat) (e0 : Option Int32) (v a : Nat) : Option Int32 := if v = v0 ∧ a = a0 then e0 else eng S a v
def IA (N : Nat) (S : St) : Prop := ∀ v, v < 16 → (xR S 0 v = 0 ∨ xR S 0 v = 1 ∨ xR S 0 v = 2) ∧ (N ≤ v → xR S 0 v = 0) ∧ (xR S 7 v = 0 ∨ xR S 7 v = 1) ∧ (xR S 10 v = 0 ∨ xR S 10 v = 1)
def IB (N : Nat) (S : St) : Prop := ∀ v, v < 16 → ∀ i, N ≤ i → i < 32 → bt (xR S 3 v) i = false
def IC (S : St) : Prop := ∀ v, v < 16 → xR S 0 v = 1 → ∀ i, i < 32 → (bt (xR S 4 v) i = true → bt (xR S 3 v) i = true) ∧ (bt (xR S 5 v) i = true → bt (xR S 3 v) i = true)
def ID (A : Nat) (S : St) : Prop := ∀ v, v < 16 → ∃ c m, c ≤ A ∧ m ≤ c ∧ xR S 1 v = nI c ∧ xR S 2 v = nI m
def IE (N A : Nat) (S : St) : Prop := ∀ l, l < 256 → (∀ x, x ∈ xL S l → (∃ k, k < 6 ∧ x.1 = nI k) ∧ ∃ s, s ≤ A ∧ x.2.1 = nI s) ∧ (¬ (l / 16 < N ∧ l % 16 < N) → xL S l = [])
def IF (N A : Nat) (S : St) : Prop := ∀ a, a < 16 → Wok N A (xW S a) ∧ (N ≤ a → xW S a = []) ∧ ((xR S 8 a = -1 ∧ xR S 9 a = 0 ∧ xR S 10 a = 0) ∨ ∃ g, g < N ∧ xR S 8 a = nI g ∧ g ∉ (xW S a).map Prod.fst ∧ ∃ s, s ≤ A ∧ xR S 9 a = nI s)
def IG (N : Nat) (S : St) (v0 a0 : Nat) (e0 : Option Int32) : Prop := ∀ v, v < N → ∀ a, a < N → run (oe S v0 a0 e0 v a) (xL S (16 * v + a)) = some (opn S v a)
def IH (N : Nat) (S : St) (v0 a0 : Nat) (e0 : Option Int32) : Prop := ∀ v, v < N → ∀ a, a < N → (∀ s, oe S v0 a0 e0 v a = some s → Zok S v a s) ∧ (∀ x, x ∈ xL S (16 * v + a) → x.1 = nI 0 → Zok S v a x.2.1) ∧ (∀ x, x ∈ xL S (16 * a + v) → (x.1 = nI 1 ∨ x.1 = nI 2 ∨ x.1 = nI 3) → Zok S v a x.2.1)
def InvG (N A : Nat) (S : St) (v0 a0 : Nat) (e0 : Option Int32) : Prop := IA N S ∧ IB N S ∧ IC S ∧ ID A S ∧ IE N A S ∧ IF N A S ∧ IG N S v0 a0 e0 ∧ IH N S v0 a0 e0
def Inv (N A : Nat) (S : St) : Prop := InvG N A S 99 99 none
theorem oe_99 {S : St} {e0 : Option Int32} {v a : Nat} (hv : v < 16) : oe S 99 99 e0 v a = eng S a v := by
  unfold oe
  rw [if_neg (by omega)]
theorem oe_id {S : St} {v0 a0 v a : Nat} : oe S v0 a0 (eng S a0 v0) v a = eng S a v := by
  unfold oe
  by_cases c : v = v0 ∧ a = a0
  · rw [if_pos c, c.1, c.2]
  · rw [if_neg c]
theorem InvG.id {N A : Nat} {S : St} {v0 a0 : Nat} (h16 : N ≤ 16) : InvG N A S v0 a0 (eng S a0 v0) ↔ Inv N A S := by
  have e : ∀ v, v < N → ∀ a, oe S v0 a0 (eng S a0 v0) v a = oe S 99 99 none v a := fun v hv a => by rw [oe_id, oe_99 (by omega)]
  unfold Inv InvG IG IH
  constructor
  · rintro ⟨a, b, c, d, f, g, i, j⟩
    exact ⟨a, b, c, d, f, g, fun v hv a ha => (e v hv a) ▸ i v hv a ha, fun v hv a ha => (e v hv a) ▸ j v hv a ha⟩
  · rintro ⟨a, b, c, d, f, g, i, j⟩
    exact ⟨a, b, c, d, f, g, fun v hv a ha => (e v hv a).symm ▸ i v hv a ha, fun v hv a ha => (e v hv a).symm ▸ j v hv a ha⟩
