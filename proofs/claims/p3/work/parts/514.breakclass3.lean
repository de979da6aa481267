/-! ===== the class breaks a node, the whole ===== -/
theorem gF_10 {t : Int32} {a : Nat} {S : St} : xR (gF t a S) 10 a = 0 := by
  unfold gF
  cases hw : xW S a with
  | nil => exact (nob_8 a S).2.2
  | cons w r =>
    simp only []
    rw [sn_R _ _ _ _ _ _ (by decide), xR_uW, xR_uR, if_neg (by omega), xR_uR, if_neg (by omega)]
    exact (nob_8 a S).2.2
theorem fgl_IA {t : Int32} {N x : Nat} : ∀ (ws : List Nat) (S : St), IA N S → IA N (fgl t x ws S) := by
  intro ws
  induction ws with
  | nil => intro S h; exact h
  | cons w ws ih =>
    intro S h
    unfold fgl
    rw [List.foldl_cons]
    refine ih _ ?_
    split
    · exact h
    · intro v hv
      obtain ⟨x1, x2, x3, x4⟩ := h v hv
      rw [fgt_R (k := 0) (by omega) (by decide), fgt_R (k := 7) (by omega) (by decide)]
      refine ⟨x1, x2, x3, ?_⟩
      by_cases c : v = w
      · subst c
        unfold fgt
        split
        · exact Or.inl gF_10
        · exact x4
      · rw [fgt_R (Or.inl c) (by decide)]; exact x4
theorem b0_R {x : Nat} {S : St} {k i : Nat} : xR (b0 x S) k i = if i = x ∧ k = 7 then 1 else if i = x ∧ k = 8 then -1 else if i = x ∧ (k = 9 ∨ k = 10) then 0 else xR S k i := by
  have e : xR (b0 x S) k i = xR (nob x (uR S 7 x 1)) k i := rfl
  rw [e]
  by_cases c7 : i = x ∧ k = 7
  · rw [if_pos c7, nob_R (by omega), xR_uR, if_pos ⟨c7.2, c7.1⟩]
  · rw [if_neg c7]
    by_cases c8 : i = x ∧ k = 8
    · rw [if_pos c8, c8.1, c8.2]; exact (nob_8 x _).1
    · rw [if_neg c8]
      by_cases c9 : i = x ∧ (k = 9 ∨ k = 10)
      · rw [if_pos c9, c9.1]
        rcases c9.2 with z | z
        · rw [z]; exact (nob_8 x _).2.1
        · rw [z]; exact (nob_8 x _).2.2
      · rw [if_neg c9, nob_R (by omega), xR_uR, if_neg (by omega)]
theorem b0_W {x : Nat} {S : St} (a : Nat) : xW (b0 x S) a = if a = x then [] else xW S a := rfl
theorem b0_L {x : Nat} {S : St} (l : Nat) : xL (b0 x S) l = if l < 256 ∧ (l / 16 = x ∨ l % 16 = x) then [] else xL S l := rfl
theorem b0_len {x : Nat} {S : St} : (fl (b0 x S)).length ≤ (fl S).length := fl_le_L (fun l _ => by
  rw [b0_L]; split
  · exact Or.inl rfl
  · exact Or.inr rfl)
theorem b0_Fg {N A x : Nat} {S : St} (hI : Inv N A S) (h16 : N ≤ 16) (hx : x < N) : Fg N A x 0 (b0 x S) := by
  intro a _ ha
  rw [b0_W, b0_R]
  by_cases c : a = x
  · subst c
    rw [if_pos rfl, if_neg (by omega), if_pos ⟨rfl, rfl⟩]
    exact ⟨⟨List.Pairwise.nil, List.nodup_nil, fun w hw => by cases hw⟩, fun _ => by simp, fun _ => ⟨rfl, rfl⟩⟩
  · rw [if_neg c, if_neg (by omega), if_neg (by omega), if_neg (by omega)]
    have hF := hI.2.2.2.2.2.1 a (by omega)
    refine ⟨hF.1, fun z => ?_, fun z => absurd z c⟩
    rcases hF.2.2 with y | ⟨g, y1, y2, y3, _⟩
    · rw [y.1] at z; exact absurd z (m1_ne (by omega))
    · have : g = x := (nI_eq (by omega) (by omega)).mp (y2.symm.trans z)
      rw [← this]; exact y3
theorem HV.brkN {M : Mem} {h X Y N A n : Nat} {t : Int32} {Q : Nat → Int32} {S : St} {pb pt : List Row4} (p : HV M h X Y t N Q S pb pt) (s : SB M N S) (hI : Inv N A S) (h16 : N ≤ 16) (ht : xR S 20 1 = 1 → N % 2 = 1) (ht2 : xR S 20 1 = 0 ∨ xR S 20 1 = 1) (hz : ∀ v, N ≤ v → v < 16 → xR S 7 v = 0) {x : Nat} (hx : x < N) (h3 : xR S 3 x = 0) (hl : (fl S).length + N + 2 * N * N < 9000) (hn : 9100 ≤ n) : ∃ M', f_X2_breakNode n h (nI x) M = some M' ∧ HV M' h X Y t N (fun v => qm N (uR S 7 x 1) v) (bd t N x S) pb pt ∧ FrW4 M M' h := by
  have q := p.1
  have x6 : x < 16 := by omega
  have h7 : ∀ v, v < 16 → xR S 7 v = 0 ∨ xR S 7 v = 1 := fun v hv => (hI.1 v hv).2.2.1
  obtain ⟨p1, f1⟩ := p.st7 (x := x) (y := bon (mI M h 9) x) (z := 1) x6 (fun u hu => by
    rw [bt_on _ (by omega) hu, p.2.2.1.2.2.2.1 u hu]
    by_cases c : u = x
    · rw [if_pos c, decide_eq_true c, Bool.or_true, decide_eq_true (show u < 16 ∧ (1 : Int32) = 1 from ⟨by omega, rfl⟩)]
    · rw [if_neg c, decide_eq_false c, Bool.or_false])
  have hh := q.2.2.2.2.2.1
  have s1 : SB (sI M h 9 (bon (mI M h 9) x)) N (uR S 7 x 1) := by
    refine s.cg (Nat.le_refl _) (fun _ _ => rfl) (fun _ => rfl) (fun b => mI_o _ _ _ _ _ (by omega)) (fun b => mI_o _ _ _ _ _ (by omega)) ?_ (fun v => ?_)
    · rw [xR_uR, if_neg (by omega)]
    · rw [xR_uR, if_neg (by omega)]
  have r20 : xR (uR S 7 x 1) 20 1 = xR S 20 1 := by rw [xR_uR, if_neg (by omega)]
  obtain ⟨M2, e2, p2, f2⟩ := p1.renew (n := n) s1 h16 (by omega) (by rw [r20]; exact ht) (by rw [r20]; exact ht2) (fun v hv => by
    rw [xR_uR]; split
    · exact Or.inr rfl
    · exact h7 v hv) (fun v a b => by rw [xR_uR, if_neg (by omega)]; exact hz v a b) (by omega)
  obtain ⟨M3, e3, p3, f3⟩ := p2.forget x6
  obtain ⟨p4, f4⟩ := p3.tW (M' := sI M3 (h + 17 + 2 * x) 9 0) (l := []) x6 rfl (fun _ _ => rfl) (fun o n1 _ b => by rw [mI_o _ _ _ _ _ n1]) (fun b n => by rw [mI_n _ _ _ _ n]) (fun u hu => by rw [mI_s, b_0]; simp) (fun w hw => by cases hw)
  generalize hM4 : sI M3 (h + 17 + 2 * x) 9 0 = M4 at p4 f4
  have hE : ∀ l, l < 256 → ¬ (l / 16 < N ∧ l % 16 < N) → xL S l = [] := fun l hl => (hI.2.2.2.2.1 l hl).2
  obtain ⟨M5, n5, e5, hn5, p5, f5⟩ := bk27 h16 hx N 0 n M4 _ p4 (by omega) (by show (fl S).length ≤ 9000; omega) (by omega)
  rw [drl_e hx h16 (show ∀ l, l < 256 → ¬ (l / 16 < N ∧ l % 16 < N) → xL (uW (nob x (uR S 7 x 1)) x []) l = [] from hE)] at p5
  have p5' : HV M5 h X Y t N (fun v => qm N (uR S 7 x 1) v) (b0 x S) pb pt := p5
  have F0 := b0_Fg hI h16 hx
  have l0 := b0_len (x := x) (S := S)
  obtain ⟨M6, n6, e6, hn6, p6, f6⟩ := bk64 (A := A) h16 hx N 0 n5 M5 _ p5' (by omega) F0 (by omega) (by omega)
  have ia0 : IA N (b0 x S) := by
    intro v hv
    obtain ⟨y1, y2, y3, y4⟩ := hI.1 v hv
    rw [b0_R, b0_R, b0_R, if_neg (by omega), if_neg (by omega), if_neg (by omega), if_neg (show ¬ (v = x ∧ 7 = 8) by omega), if_neg (show ¬ (v = x ∧ (7 = 9 ∨ 7 = 10)) by omega), if_neg (show ¬ (v = x ∧ 10 = 7) by omega), if_neg (show ¬ (v = x ∧ 10 = 8) by omega)]
    refine ⟨y1, y2, ?_, ?_⟩
    · split
      · exact Or.inr rfl
      · exact y3
    · split
      · exact Or.inl rfl
      · exact y4
  have l6 := fgl_len (t := t) (A := A) (x := x) h16 N 0 (b0 x S) (by omega) F0
  have r6 : ∀ k i, k < 8 ∨ (10 < k ∧ k ≠ 16) → xR (fgl t x (List.range' 0 N) (b0 x S)) k i = xR (b0 x S) k i := fun k i hk => fgl_R hk _ _
  have kq : Qk (uR S 7 x 1) (fgl t x (List.range' 0 N) (b0 x S)) := fun k hk i => by
    rw [r6 k i (by omega), b0_R, xR_uR]
    by_cases c : i = x ∧ k = 7
    · rw [if_pos c, if_pos ⟨c.2, c.1⟩]
    · rw [if_neg c, if_neg (by omega), if_neg (by omega), if_neg (by omega)]
  have hm : 2 * N * N = 2 * N * N := rfl
  obtain ⟨M7, e7, p7, f7⟩ := bk89 (Q := fun v => qm N (uR S 7 x 1) v) h16 hx N 0 n6 M6 _ p6 (by omega) (fgl_IA _ _ ia0) (fun v a b => by rw [r6 7 v (by omega), b0_R, if_neg (by omega), if_neg (by omega), if_neg (by omega)]; exact hz v a b) (by rw [r6 7 x (by omega), b0_R, if_pos ⟨rfl, rfl⟩]) (fun v hv => kq.m N v) (by rw [r6 3 x (by omega), b0_R, if_neg (by omega), if_neg (by omega), if_neg (by omega)]; exact h3) (by omega) (by omega)
  refine ⟨M7, ?_, ?_, f1.w4.tr (f2.w4.tr (f3.w4.tr (f4.w4.tr (f5.w4.tr (f6.w4.tr f7.w4)))))⟩
  · rw [f_X2_breakNode, cs_f q, show (mI M h 9 ||| ((1 : Int32) <<< (nI x &&& 31))) = bon (mI M h 9) x from rfl, bnd_e, e2, obd_s, cs_f p2.1, cs_h2 p2.1, bnd_e, cs_a10 p2.1, cs_i10 p2.1 x6, cs_rpc p2.1 x6, bnd_e, cs_po p2.1 x6, f_X4_forgetAll, cs_po p2.1 x6, e3, obd_s, cs_po p3.1 x6, hM4, bnd_e, obd_s, show (0 : Int32) = nI 0 from rfl, e5, show (0 : Int32) = nI 0 from rfl, e6, show (0 : Int32) = nI 0 from rfl, e7]
  · unfold bd
    rw [List.range_eq_range']
    exact p7
