/-! ===== the reference asks, leaves ===== -/
def sAl (t : Int32) (k f : Nat) (set s : Int32) (ws : List Nat) (S : St) : St := ws.foldl (fun S w => if bt set w then sn t k f w s S else S) S
def sA (t : Int32) (N k f : Nat) (set s : Int32) (S : St) : St := sAl t k f set s (List.range N) S
theorem sAl_len (t : Int32) {k f : Nat} (hf : f < 16) (set s : Int32) : ∀ (ws : List Nat) (S : St), (∀ w, w ∈ ws → w < 16) → (fl (sAl t k f set s ws S)).length ≤ (fl S).length + ws.length := by
  intro ws
  induction ws with
  | nil => intro S _; exact Nat.le_refl _
  | cons w ws ih =>
    intro S hw
    have := hw w (by simp)
    unfold sAl
    rw [List.foldl_cons]
    have h2 := ih (if bt set w then sn t k f w s S else S) (fun w hx => hw w (by simp [hx]))
    unfold sAl at h2
    refine Nat.le_trans h2 ?_
    rw [List.length_cons]
    split
    · rw [fl_sn_len (by omega)]; omega
    · omega
theorem sn_R (t : Int32) (k f g : Nat) (s : Int32) (S : St) {a b : Nat} (h : a ≠ 16) : xR (sn t k f g s S) a b = xR S a b := by
  unfold sn
  rw [xR_uL, xR_uR, if_neg (fun q => h q.1)]
theorem sAl_R (t : Int32) (k f : Nat) (set s : Int32) {a b : Nat} (h : a ≠ 16) : ∀ (ws : List Nat) (S : St), xR (sAl t k f set s ws S) a b = xR S a b := by
  intro ws
  induction ws with
  | nil => intro S; rfl
  | cons w ws ih =>
    intro S
    unfold sAl
    rw [List.foldl_cons]
    have := ih (if bt set w then sn t k f w s S else S)
    unfold sAl at this
    rw [this]
    split
    · exact sn_R _ _ _ _ _ _ h
    · rfl
theorem RV.sal {tw : Bool} {t : Int32} {pb pt : List Row4} {N : Nat} (h16 : N ≤ 16) {k f : Nat} (hk : k < 6) (hf : f < 16) (set s : Int32) : ∀ (d i n : Nat) (M : Mem) (S : St), RV M tw t S pb pt → xR S 20 0 = nI N → i + d = N → (fl S).length + d ≤ 9000 → d + 9101 ≤ n → ∃ M', f_X10_sendAll_3 n 120 (nI k) (nI f) set s (nI i) M = some M' ∧ RV M' tw t (sAl t k f set s (List.range' i d) S) pb pt ∧ Fr PA M M' := by
  intro d
  induction d with
  | zero =>
    intro i n M S h hN hi hl hn
    obtain ⟨n, rfl⟩ : ∃ m, n = m + 1 := ⟨n - 1, by omega⟩
    refine ⟨M, ?_, h, Fr.rf _ _⟩
    rw [f_X10_sendAll_3, rs_f h.1, rs_0 h.1, bnd_e, rs_fa h.1, rs_c0 h.1, cl0, h.N hN, if_pos (nI_le (by omega) (by omega))]
  | succ d ih =>
    intro i n M S h hN hi hl hn
    obtain ⟨n, rfl⟩ : ∃ m, n = m + 1 := ⟨n - 1, by omega⟩
    have start : ∀ y, (if bt set i = true then obd (f_X10_send n 120 (nI k) (nI f) (nI i) s M) (fun M15 => f_X10_sendAll_3 n 120 (nI k) (nI f) set s (nI (i + 1)) M15) else f_X10_sendAll_3 n 120 (nI k) (nI f) set s (nI (i + 1)) M) = y → f_X10_sendAll_3 (n + 1) 120 (nI k) (nI f) set s (nI i) M = y := by
      intro y hy
      rw [f_X10_sendAll_3, rs_f h.1, rs_0 h.1, bnd_e, rs_fa h.1, rs_c0 h.1, cl0, h.N hN, if_neg (nI_ge (by omega) (by omega)), f_has10 _ (by omega), obd_s]
      simp only [bnd_e, nI_1]
      cases hb : bt set i
      · rw [hb] at hy; simpa using hy
      · rw [hb] at hy; simpa [ne10] using hy
    have el : sAl t k f set s (List.range' i (d + 1)) S = sAl t k f set s (List.range' (i + 1) d) (if bt set i then sn t k f i s S else S) := by
      unfold sAl
      rw [List.range'_succ, List.foldl_cons]
    rw [el]
    by_cases c : bt set i = true
    · obtain ⟨M1, e1, h1, f1⟩ := h.send (k := k) (f := f) (g := i) (s := s) hf (by omega) hk (by omega) (n := n) (by omega)
      obtain ⟨M2, e2, h2, f2⟩ := ih (i + 1) n M1 _ h1 ((sn_R _ _ _ _ _ _ (by decide)).trans hN) (by omega) (by rw [fl_sn_len (by omega)]; omega) (by omega)
      rw [if_pos c] at start ⊢
      exact ⟨M2, start _ (by rw [e1, obd_s, e2]), h2, Fr.tr f1 f2⟩
    · obtain ⟨M2, e2, h2, f2⟩ := ih (i + 1) n M S h hN (by omega) (by omega) (by omega)
      rw [if_neg c] at start ⊢
      exact ⟨M2, start _ e2, h2, f2⟩
theorem RV.tsA {M : Mem} {tw : Bool} {t : Int32} {S : St} {pb pt : List Row4} (h : RV M tw t S pb pt) {N : Nat} (hN : xR S 20 0 = nI N) (h16 : N ≤ 16) {k f : Nat} (hk : k < 6) (hf : f < 16) (set s : Int32) (hl : (fl S).length + N ≤ 9000) {n : Nat} (hn : 9200 ≤ n) : ∃ M', f_X10_sendAll n 120 (nI k) (nI f) set s M = some M' ∧ RV M' tw t (sA t N k f set s S) pb pt ∧ Fr PA M M' := by
  obtain ⟨M', e, h', f'⟩ := RV.sal (tw := tw) (t := t) (pb := pb) (pt := pt) h16 hk hf set s N 0 n M S h hN (by omega) hl (by omega)
  refine ⟨M', ?_, ?_, f'⟩
  · rw [f_X10_sendAll]; exact e
  · unfold sA; rw [List.range_eq_range']; exact h'
def rst (v : Nat) (S : St) : St := uR (uR (uR (uR (uR S 3 v 0) 4 v 0) 5 v 0) 6 v 0) 0 v 0
theorem RV.trst {M : Mem} {tw : Bool} {t : Int32} {S : St} {pb pt : List Row4} (h : RV M tw t S pb pt) {v : Nat} (hv : v < 16) {n : Nat} (hn : 10 ≤ n) : ∃ M', f_X10_rest n 120 (nI v) M = some M' ∧ RV M' tw t (rst v S) pb pt ∧ Fr PA M M' := by
  obtain ⟨n, rfl⟩ : ∃ m, n = m + 5 := ⟨n - 5, by omega⟩
  have h1 := h.st (vk_n (k := 3) (by decide) hv) 0
  have h2 := h1.st (vk_n (k := 4) (by decide) hv) 0
  have h3 := h2.st (vk_n (k := 5) (by decide) hv) 0
  have h4 := h3.st (vk_n (k := 6) (by decide) hv) 0
  have h5 := h4.st (vk_n (k := 0) (by decide) hv) 0
  refine ⟨_, ?_, h5, Fr.tr Fr.tad (Fr.tr Fr.tad (Fr.tr Fr.tad (Fr.tr Fr.tad Fr.tad)))⟩
  rw [f_X10_rest, f_X10_rest_2, if_neg (by decide), rs_f h.1, h.let3 hv, obd_s, show (3 : Int32) + 1 = 4 from rfl, bnd_e, f_X10_rest_2, if_neg (by decide), rs_f h1.1, h1.let4 hv, obd_s, show (4 : Int32) + 1 = 5 from rfl, bnd_e, f_X10_rest_2, if_neg (by decide), rs_f h2.1, h2.let5 hv, obd_s, show (5 : Int32) + 1 = 6 from rfl, bnd_e, f_X10_rest_2, if_neg (by decide), rs_f h3.1, h3.let6 hv, obd_s, show (6 : Int32) + 1 = 7 from rfl, bnd_e, f_X10_rest_2, if_pos (by decide), rs_f h4.1, h4.let0 hv, obd_s]
/-- to leave, to withdraw -/
def lv (t : Int32) (N v : Nat) (S : St) : St := sA t N 5 v (xR S 3 v) (xR S 2 v) (rst v S)
theorem RV.tlv {M : Mem} {tw : Bool} {t : Int32} {S : St} {pb pt : List Row4} (h : RV M tw t S pb pt) {N : Nat} (hN : xR S 20 0 = nI N) (h16 : N ≤ 16) {v : Nat} (hv : v < 16) (hl : (fl S).length + N ≤ 9000) {n : Nat} (hn : 9200 ≤ n) : ∃ M', f_X10_leaveNow n 120 (nI v) M = some M' ∧ RV M' tw t (lv t N v S) pb pt ∧ Fr PA M M' := by
  obtain ⟨M1, e1, h1, f1⟩ := h.trst hv (n := n) (by omega)
  have r2 : xR (rst v S) 2 v = xR S 2 v := by unfold rst; simp [xR_uR]
  have r20 : xR (rst v S) 20 0 = nI N := by unfold rst; simp [xR_uR, hN]
  obtain ⟨M2, e2, h2, f2⟩ := h1.tsA r20 h16 (k := 5) (f := v) (by decide) hv (xR S 3 v) (xR S 2 v) hl hn
  refine ⟨M2, ?_, h2, Fr.tr f1 f2⟩
  rw [f_X10_leaveNow, rs_f h.1, h.get3 hv, obd_s, e1, obd_s, rs_f h1.1, h1.get2 hv, obd_s, r2, show (5 : Int32) = nI 5 from rfl, e2, obd_s]
def mayA (N v : Nat) (S : St) : Bool := decide (xR S 0 v = 0) && (decide (xR S 7 v = 0) && !decide (qm N S v = 0))
theorem RV.can {M : Mem} {tw : Bool} {t : Int32} {S : St} {pb pt : List Row4} (h : RV M tw t S pb pt) {N : Nat} (hN : xR S 20 0 = nI N) (h16 : N ≤ 16) (ht : xR S 20 1 = 1 → N % 2 = 1) {v : Nat} (hv : v < 16) {n : Nat} (hn : 60 ≤ n) : ∃ M', f_X10_canAsk n 120 (nI v) M = some (if mayA N v S then 1 else 0, M') ∧ RV M' tw t S pb pt ∧ Fr P2 M M' := by
  unfold mayA
  by_cases c0 : xR S 0 v = 0
  · by_cases c7 : xR S 7 v = 0
    · obtain ⟨M', q1, q2, q3⟩ := h.tqm hN h16 ht hv hn
      refine ⟨M', ?_, q2, q3⟩
      rw [f_X10_canAsk, rs_f h.1, h.get0 hv, obd_s, if_pos c0, h.get7 hv, obd_s, if_pos c7, q1, obd2_s]
      by_cases c : qm N S v = 0
      · rw [if_pos c]; simp [c0, c7, c]
      · rw [if_neg c]; simp [c0, c7, c]
    · refine ⟨M, ?_, h, Fr.rf _ _⟩
      rw [f_X10_canAsk, rs_f h.1, h.get0 hv, obd_s, if_pos c0, h.get7 hv, obd_s, if_neg c7]
      simp [c0, c7]
  · refine ⟨M, ?_, h, Fr.rf _ _⟩
    rw [f_X10_canAsk, rs_f h.1, h.get0 hv, obd_s, if_neg c0]
    simp [c0]
theorem qm_uR {N : Nat} {S : St} {k i v : Nat} {x : Int32} (h7 : k ≠ 7) (h17 : k ≠ 17) (h20 : k ≠ 20) : qm N (uR S k i x) v = qm N S v := by
  have e7 : ∀ w, xR (uR S k i x) 7 w = xR S 7 w := fun w => by rw [xR_uR, if_neg (fun q => h7 q.1.symm)]
  have e17 : ∀ w, xR (uR S k i x) 17 w = xR S 17 w := fun w => by rw [xR_uR, if_neg (fun q => h17 q.1.symm)]
  have e20 : ∀ w, xR (uR S k i x) 20 w = xR S 20 w := fun w => by rw [xR_uR, if_neg (fun q => h20 q.1.symm)]
  unfold qm qby bkm bk fub
  simp only [e7, e17, e20]
/-- to ask -/
def ak (t : Int32) (N v : Nat) (S : St) : St :=
  let S1 := uR (uR S 1 v (xR S 1 v + 1)) 2 v (xR S 1 v + 1)
  let S2 := uR (uR (uR (uR (uR S1 3 v (qm N S v)) 4 v 0) 5 v 0) 6 v 0) 0 v 1
  let S3 := uR (uR S2 13 v (xR S 15 1)) 14 v 0
  sA t N 0 v (qm N S v) (xR S 1 v + 1) S3
set_option maxHeartbeats 2000000 in
theorem RV.tak {M : Mem} {tw : Bool} {t : Int32} {S : St} {pb pt : List Row4} (h : RV M tw t S pb pt) {N : Nat} (hN : xR S 20 0 = nI N) (h16 : N ≤ 16) (ht : xR S 20 1 = 1 → N % 2 = 1) {v : Nat} (hv : v < 16) (hl : (fl S).length + N ≤ 9000) {n : Nat} (hn : 9200 ≤ n) : ∃ M', f_X10_askNow n 120 (nI v) M = some M' ∧ RV M' tw t (ak t N v S) pb pt ∧ Fr PA M M' := by
  have v13 : vk 13 v := by unfold vk; omega
  have v14 : vk 14 v := by unfold vk; omega
  have h1 := h.st (vk_n (k := 1) (by decide) hv) (xR S 1 v + 1)
  have r1 : xR (uR S 1 v (xR S 1 v + 1)) 1 v = xR S 1 v + 1 := by rw [xR_uR, if_pos ⟨rfl, rfl⟩]
  have h2 := h1.st (vk_n (k := 2) (by decide) hv) (xR S 1 v + 1)
  generalize hM1 : sI M 121 (ad 1 v) (xR S 1 v + 1) = M1 at h1 h2
  generalize hM2 : sI M1 121 (ad 2 v) (xR S 1 v + 1) = M2 at h2
  have n20 : xR (uR (uR S 1 v (xR S 1 v + 1)) 2 v (xR S 1 v + 1)) 20 0 = nI N := by simp [xR_uR, hN]
  have n21 : xR (uR (uR S 1 v (xR S 1 v + 1)) 2 v (xR S 1 v + 1)) 20 1 = xR S 20 1 := by simp [xR_uR]
  obtain ⟨M3, e3, h3, f3⟩ := h2.tqm n20 h16 (by rw [n21]; exact ht) hv (n := n) (by omega)
  have eq : qm N (uR (uR S 1 v (xR S 1 v + 1)) 2 v (xR S 1 v + 1)) v = qm N S v := by rw [qm_uR (by decide) (by decide) (by decide), qm_uR (by decide) (by decide) (by decide)]
  rw [eq] at e3
  have h4 := h3.st (vk_n (k := 3) (by decide) hv) (qm N S v)
  have h5 := h4.st (vk_n (k := 4) (by decide) hv) 0
  have h6 := h5.st (vk_n (k := 5) (by decide) hv) 0
  have h7 := h6.st (vk_n (k := 6) (by decide) hv) 0
  have h8 := h7.st (vk_n (k := 0) (by decide) hv) 1
  have h9 := h8.st v13 (xR S 15 1)
  have h10 := h9.st v14 0
  generalize hM4 : sI M3 121 (ad 3 v) (qm N S v) = M4 at h4 h5 h6 h7 h8 h9 h10
  generalize hM5 : sI M4 121 (ad 4 v) 0 = M5 at h5 h6 h7 h8 h9 h10
  generalize hM6 : sI M5 121 (ad 5 v) 0 = M6 at h6 h7 h8 h9 h10
  generalize hM7 : sI M6 121 (ad 6 v) 0 = M7 at h7 h8 h9 h10
  generalize hM8 : sI M7 121 (ad 0 v) 1 = M8 at h8 h9 h10
  generalize hM9 : sI M8 121 (ad 13 v) (xR S 15 1) = M9 at h9 h10
  generalize hM10 : sI M9 121 (ad 14 v) 0 = M10 at h10
  have a151 : mI M8 121 9852 = xR S 15 1 := by
    have := h8.rg (k := 15) (i := 1) (by unfold vk; omega)
    rw [show ad 15 1 = 9852 from rfl] at this
    rw [this]; simp [xR_uR]
  generalize hS10 : uR (uR (uR (uR (uR (uR (uR (uR (uR S 1 v (xR S 1 v + 1)) 2 v (xR S 1 v + 1)) 3 v (qm N S v)) 4 v 0) 5 v 0) 6 v 0) 0 v 1) 13 v (xR S 15 1)) 14 v 0 = S10 at h10
  have s3 : xR S10 3 v = qm N S v := by subst hS10; simp [xR_uR]
  have s2 : xR S10 2 v = xR S 1 v + 1 := by subst hS10; simp [xR_uR]
  have s20 : xR S10 20 0 = nI N := by subst hS10; simp [xR_uR, hN]
  have sl : (fl S10).length = (fl S).length := by subst hS10; rfl
  obtain ⟨M11, e11, h11, f11⟩ := h10.tsA s20 h16 (k := 0) (f := v) (by decide) hv (qm N S v) (xR S 1 v + 1) (by omega) hn
  have ad13 : ad 13 v = 9865 + 3 * v + 1 := by have := ad_cases v13; omega
  have ad14 : ad 14 v = 9865 + 3 * v + 2 := by have := ad_cases v14; omega
  refine ⟨M11, ?_, ?_, ?_⟩
  · rw [f_X10_askNow, rs_f h.1, h.get1 hv, obd_s, h.let1 hv, obd_s, hM1, rs_f h1.1, h1.get1 hv, obd_s, r1, h1.let2 hv, obd_s, hM2, rs_f h2.1, e3, obd2_s, rs_f h3.1, h3.let3 hv, obd_s, hM4, rs_f h4.1, h4.let4 hv, obd_s, hM5, rs_f h5.1, h5.let5 hv, obd_s, hM6, rs_f h6.1, h6.let6 hv, obd_s, hM7, rs_f h7.1, h7.let0 hv, obd_s, hM8, rs_f h8.1, rs_0 h8.1, bnd_e, rs_fa h8.1, bnd_e, rs_fa h8.1, show (9852 : Int32) = nI 9852 from rfl, rs_c h8.1 (by decide), c9865, nI_1, rs_c h8.1 (by omega), bnd_e, cl_n (by omega), cl_n (by decide), a151, ← ad13, hM9, rs_0 h9.1, bnd_e, rs_fa h9.1, show nI (9865 + 3 * v) + (2 : Int32) = nI (9865 + 3 * v + 2) by rw [show (2 : Int32) = nI 2 from rfl, nI_add], rs_c h9.1 (by omega), bnd_e, cl_n (by omega), ← ad14, hM10, h10.get3 hv, obd_s, h10.get2 hv, obd_s, s3, s2, show (0 : Int32) = nI 0 from rfl, e11, obd_s]
  · unfold ak
    simp only [hS10]
    exact h11
  · have F : ∀ {M M' : Mem} {k i : Nat} {x : Int32}, sI M 121 (ad k i) x = M' → Fr PA M M' := fun e => by rw [← e]; exact Fr.tad
    exact Fr.tr (F hM1) (Fr.tr (F hM2) (Fr.tr (f3.mo P2_A) (Fr.tr (F hM4) (Fr.tr (F hM5) (Fr.tr (F hM6) (Fr.tr (F hM7) (Fr.tr (F hM8) (Fr.tr (F hM9) (Fr.tr (F hM10) f11)))))))))
