/-! ===== the class takes a kept state up again: rows filled, cells pulled ===== -/
theorem fill_l {x : Int32} {o len : Nat} (hL : len < 2 ^ 31) : ∀ (d i n : Nat) (M : Mem), i + d = len → isO M 100 o → mLn M o = len → d + 1 ≤ n → ∃ M', f_J7_fill_53178_5 n o x (nI i) (nI len) M = some M' ∧ M'.1 = M.1 ∧ (∀ j, i ≤ j → j < len → mI M' o j = x) ∧ (∀ j, j < i → mI M' o j = mI M o j) ∧ (∀ a, a ≠ o → ∀ b, mI M' a b = mI M a b) ∧ (∀ a b, mL M' a b = mL M a b) := by
  intro d
  induction d with
  | zero =>
    intro i n M hi hO hl hn
    obtain ⟨n, rfl⟩ : ∃ m, n = m + 1 := ⟨n - 1, by omega⟩
    refine ⟨M, ?_, rfl, fun j a b => by omega, fun _ _ => rfl, fun _ _ _ => rfl, fun _ _ => rfl⟩
    rw [f_J7_fill_53178_5, if_pos (nI_le (by omega) (by omega))]
  | succ d ih =>
    intro i n M hi hO hl hn
    obtain ⟨n, rfl⟩ : ∃ m, n = m + 1 := ⟨n - 1, by omega⟩
    obtain ⟨M', e, s, f1, f2, f3, f4⟩ := ih (i + 1) n (sI M o i x) (by omega) hO hl (by omega)
    refine ⟨M', ?_, s, fun j a b => ?_, fun j a => ?_, fun a na b => ?_, fun a b => f4 a b⟩
    · rw [f_J7_fill_53178_5, if_neg (nI_ge (by omega) (by omega)), chk_t hO, hl, chk_t (inB_n (by omega) hL), sI_d (by omega), bnd_e, nI_1, bnd_e]
      exact e
    · by_cases z : j = i
      · rw [z, f2 i (by omega), mI_s]
      · exact f1 j (by omega) b
    · rw [f2 j (by omega), mI_n _ _ _ _ (by omega)]
    · rw [f3 a na, mI_o _ _ _ _ _ na]
theorem f_fill {x : Int32} {o len n : Nat} {M : Mem} (hL : len < 2 ^ 31) (hO : isO M 100 o) (hl : mLn M o = len) (hn : len + 1 ≤ n) : ∃ M', f_J7_fill_53178 n o x M = some M' ∧ M'.1 = M.1 ∧ (∀ j, j < len → mI M' o j = x) ∧ (∀ a, a ≠ o → ∀ b, mI M' a b = mI M a b) ∧ (∀ a b, mL M' a b = mL M a b) := by
  obtain ⟨M', e, s, f1, f2, f3, f4⟩ := fill_l (x := x) hL len 0 n M (by omega) hO hl hn
  refine ⟨M', ?_, s, fun j hj => f1 j (Nat.zero_le _) hj, f3, f4⟩
  rw [f_J7_fill_53178, chk_t hO, hl, n32, bnd_e]
  exact e
def emL (S : St) : St := (S.1, S.2.1, fun _ => [], S.2.2.2)
theorem fl_emL (S : St) : fl (emL S) = [] := by
  unfold fl
  rw [List.flatMap_eq_nil_iff]
  intro l _
  rfl
set_option maxHeartbeats 1000000 in
theorem HV.clear {M : Mem} {X Y N n : Nat} {t : Int32} {Q : Nat → Int32} {S : St} {pb pt : List Row4} (p : HV M 63 X Y t N Q S pb pt) (hn : 300 ≤ n) : ∃ M', f_X5_clearLanes n 64 M = some M' ∧ HV M' 63 X Y t N Q (emL S) pb pt ∧ FrH M M' 63 := by
  have q := p.1
  have hq := q.2.2.2.2
  obtain ⟨d5, d6, d7, len, K, fr, us, ow, w, hK⟩ := p.2.1
  obtain ⟨M1, e1, s1, f1, g1, h1⟩ := f_fill (x := 0) (o := 63 + 4) (len := 256) (n := n) (M := M) (by decide) (q.io (i := 4) (by decide) (by decide) (by decide)) (q.ln (i := 4) (by decide) (by decide) (by decide)) (by omega)
  have q1 := q.e s1
  obtain ⟨M2, e2, s2, f2, g2, h2⟩ := f_fill (x := 0) (o := 63 + 5) (len := 16) (n := n) (M := M1) (by decide) (q1.io (i := 5) (by decide) (by decide) (by decide)) (q1.ln (i := 5) (by decide) (by decide) (by decide)) (by omega)
  have q2 := q1.e s2
  generalize hM3 : sI (sI (sI M2 (63 + 1) 8 0) (63 + 1) 9 (-1)) (63 + 1) 10 0 = M3
  have s3 : M3.1 = M.1 := by rw [← hM3]; exact s2.trans s1
  have o3 : ∀ a, a ≠ 64 → a ≠ 67 → a ≠ 68 → ∀ b, mI M3 a b = mI M a b := fun a n4 n7 n8 b => by
    rw [← hM3, mI_o _ _ _ _ _ n4, mI_o _ _ _ _ _ n4, mI_o _ _ _ _ _ n4, g2 a n8, g1 a n7]
  have c3 : ∀ b, b ≠ 8 → b ≠ 9 → b ≠ 10 → mI M3 64 b = mI M 64 b := fun b n8 n9 n10 => by
    rw [← hM3, mI_n _ _ _ _ n10, mI_n _ _ _ _ n9, mI_n _ _ _ _ n8, g2 64 (by decide), g1 64 (by decide)]
  have fP : FrP M M3 63 := ⟨by unfold mN; rw [s3]; exact Nat.le_refl _, fun i _ => by rw [s3], fun a b _ _ => by unfold mR; rw [s3], fun o _ n _ _ _ b => o3 o (by omega) (by omega) (by omega) b, fun o _ b => by rw [← hM3]; exact (h2 o b).trans (h1 o b), fun j _ _ => Or.inl (by unfold mR; rw [s3])⟩
  have ht := w.2.2.2.2.2.2.2.2.2.2.1
  have hl := w.2.2.2.2.2.2.2.2.2.1
  refine ⟨M3, ?_, p.frP fP (q.e s3) ⟨d5, d6, d7, len, fun _ => [], [], 0, fun _ => 256, ⟨w.1.e s3, ?_, ?_, ?_, ?_, ?_, ?_, ?_, ?_, ?_, ?_, ?_⟩, fun _ _ => rfl⟩ ?_ (fun _ _ _ => rfl) rfl rfl rfl, fP.toH⟩
  · rw [f_X5_clearLanes, cs_p q, cs_r4 q, bnd_e, cs_a4 q, e1, obd_s, cs_p q1, cs_r5 q1, bnd_e, cs_a5 q1, e2, obd_s, cs_p q2, bnd_e, bnd_e, bnd_e]
    exact congrArg some hM3
  · intro l _ q hq; cases hq
  · intro l _; exact List.nodup_nil
  · intro l _; exact trivial
  · intro l _ cs z h
    cases cs <;> cases h
  · intro l hl'
    rw [← hM3, mI_o _ _ _ _ _ (by decide), mI_o _ _ _ _ _ (by decide), mI_o _ _ _ _ _ (by decide), g2 _ (by decide), f1 l hl']
    rfl
  · intro f hf g hg
    rw [← hM3, mI_o _ _ _ _ _ (by decide), mI_o _ _ _ _ _ (by decide), mI_o _ _ _ _ _ (by decide), f2 f hf, b_0]
    simp
  · intro k hk
    rw [o3 _ (by decide) (by decide) (by decide)]
    exact w.2.2.2.2.2.2.2.1 k hk
  · refine ⟨List.nodup_nil, fun c hc => absurd hc (by simp), ?_⟩
    show mI M3 64 9 = -1
    rw [← hM3, mI_n _ _ _ _ (by decide), mI_s]
  · refine ⟨?_, Nat.zero_le _, Nat.zero_le _, hl.2.2.2.1, hl.2.2.2.2⟩
    rw [← hM3, mI_n _ _ _ _ (by decide), mI_n _ _ _ _ (by decide), mI_s]
    rfl
  · show mI M3 64 11 = t
    rw [c3 _ (by decide) (by decide) (by decide)]; exact ht
  · refine ⟨0, ?_, rfl, ?_⟩
    · rw [← hM3, mI_s]; rfl
    · have := fl_emL S
      unfold flr
      rw [eq_comm, List.length_eq_zero_iff, List.flatMap_eq_nil_iff]
      intro l _
      rfl
  · have rm := p.2.2.2.1
    unfold Rm mN mU mLn mR at rm ⊢
    rw [s3]; exact rm
/-- M is M0, but for what a place's taking up writes; r cells were pulled -/
def Rdy (M0 M : Mem) (dC r : Nat) : Prop := M.1 = M0.1 ∧ mI M 114 6 = mI M0 114 6 ∧ (∀ b, mI M dC b = mI M0 dC b) ∧ mI M 114 7 = nI r
theorem SX.e {M M' : Mem} (x : SX M) (e : M'.1 = M.1) : SX M' := by
  unfold SX isO mR mLn mN mC at *
  rw [e]; exact x
theorem CL.e {M M' : Mem} {dC L e : Nat} (c : CL M dC L e) (s : M'.1 = M.1) (h6 : mI M' 114 6 = mI M 114 6) : CL M' dC L e := by
  unfold CL isO mR mLn mN mC at *
  rw [s, h6]; exact c
theorem pull1 {M : Mem} {dC L e r : Nat} (sx : SX M) (c : CL M dC L e) (h7 : mI M 114 7 = nI r) (hr : r < e) : f_X6_pull 114 M = some (mI M dC r, sI M 114 7 (nI (r + 1))) := by
  obtain ⟨c1, c2, c3, c4, c5, c6, c7, c8, _⟩ := c
  rw [f_X6_pull, chk_t sx.1, c5, h7, if_neg (nI_ge (by omega) (by omega)), c1, bnd_e, chk_t c2, c3, chk_t (inB_n (by omega) (by omega)), mI_d (by omega), bnd_e, nI_1, bnd_e]
theorem Rdy.p {M0 M : Mem} {dC L e r : Nat} (sx : SX M0) (c : CL M0 dC L e) (y : Rdy M0 M dC r) (hr : r < e) : f_X6_pull 114 M = some (mI M0 dC r, sI M 114 7 (nI (r + 1))) ∧ Rdy M0 (sI M 114 7 (nI (r + 1))) dC (r + 1) := by
  obtain ⟨y1, y2, y3, y4⟩ := y
  have hd : dC ≠ 114 := by have := c.2.2.2.1; omega
  refine ⟨?_, y1, ?_, fun b => ?_, mI_s _ _ _ _⟩
  · rw [pull1 (sx.e y1) (c.e y1 y2) y4 hr, y3]
  · rw [mI_n _ _ _ _ (by decide)]; exact y2
  · rw [mI_o _ _ _ _ _ hd]; exact y3 b
theorem Rdy.w {M0 M : Mem} {dC r o : Nat} (y : Rdy M0 M dC r) (h1 : o ≠ 114) (h2 : o ≠ dC) (k : Nat) (x : Int32) : Rdy M0 (sI M o k x) dC r := by
  obtain ⟨y1, y2, y3, y4⟩ := y
  refine ⟨y1, ?_, fun b => ?_, ?_⟩
  · rw [mI_o _ _ _ _ _ h1.symm]; exact y2
  · rw [mI_o _ _ _ _ _ h2.symm]; exact y3 b
  · rw [mI_o _ _ _ _ _ h1.symm]; exact y4
/-- pull, and write it down -/
theorem Rdy.pw {M0 M : Mem} {dC L e r P k : Nat} (sx : SX M0) (c : CL M0 dC L e) (y : Rdy M0 M dC r) (hr : r < e) (h1 : P ≠ 114) (h2 : P ≠ dC) {x : Int32} (hx : mI M0 dC r = x) : ∃ M', Rdy M0 M' dC (r + 1) ∧ f_X6_pull 114 M = some (x, sI M 114 7 (nI (r + 1))) ∧ sI (sI M 114 7 (nI (r + 1))) P k x = M' ∧ mI M' P k = x ∧ (∀ b, b ≠ k → mI M' P b = mI M P b) ∧ (∀ o, o ≠ 114 → o ≠ P → ∀ b, mI M' o b = mI M o b) ∧ (∀ b, b ≠ 7 → mI M' 114 b = mI M 114 b) ∧ (∀ a b, mL M' a b = mL M a b) := by
  obtain ⟨e1, y1⟩ := y.p sx c hr
  rw [hx] at e1
  refine ⟨_, y1.w h1 h2 k x, e1, rfl, mI_s _ _ _ _, fun b n => ?_, fun o n1 n2 b => ?_, fun b n => ?_, fun _ _ => rfl⟩
  · rw [mI_n _ _ _ _ n, mI_o _ _ _ _ _ h1]
  · rw [mI_o _ _ _ _ _ n2, mI_o _ _ _ _ _ n1]
  · rw [mI_o _ _ _ _ _ h1.symm, mI_n _ _ _ _ n]
theorem rp_l {M0 : Mem} {dC L e P P2 : Nat} {w : Int32} {g : Nat → Int32} (sx : SX M0) (c : CL M0 dC L e) (hp : isO M0 4 P) (h10 : mR M0 P 10 = P2) (h2 : isO M0 100 P2) (hl2 : mLn M0 P2 = 16) (n1 : P ≠ 114) (n2 : P2 ≠ 114) (n3 : P ≠ P2) (n5 : P2 ≠ dC) : ∀ (d j n : Nat) (M : Mem) (r : Nat), j + d = 16 → Rdy M0 M dC r → mI M P 9 = w → (∀ i x, (((List.range' j d).filter fun u => bt w u).map g)[i]? = some x → mI M0 dC (r + i) = x) → r + ((List.range' j d).filter fun u => bt w u).length ≤ e → d + 1 ≤ n → ∃ M', f_X6_recallPlace_90 n 114 P (nI j) M = some M' ∧ Rdy M0 M' dC (r + ((List.range' j d).filter fun u => bt w u).length) ∧ (∀ u, j ≤ u → u < 16 → bt w u = true → mI M' P2 u = g u) ∧ (∀ u, u < j → mI M' P2 u = mI M P2 u) ∧ (∀ o, o ≠ 114 → o ≠ P2 → ∀ b, mI M' o b = mI M o b) ∧ (∀ b, b ≠ 7 → mI M' 114 b = mI M 114 b) ∧ (∀ a b, mL M' a b = mL M a b) := by
  intro d
  induction d with
  | zero =>
    intro j n M r hj y hw hx he hn
    obtain ⟨n, rfl⟩ : ∃ m, n = m + 1 := ⟨n - 1, by omega⟩
    refine ⟨M, ?_, y, fun u a b => by omega, fun _ _ => rfl, fun _ _ _ _ => rfl, fun _ _ => rfl, fun _ _ => rfl⟩
    rw [f_X6_recallPlace_90, if_pos (show (16 : Int32) ≤ nI j from nI_le (a := 16) (by omega) (by omega))]
  | succ d ih =>
    intro j n M r hj y hw hx he hn
    obtain ⟨n, rfl⟩ : ∃ m, n = m + 1 := ⟨n - 1, by omega⟩
    rw [List.range'_succ, List.filter_cons] at hx he ⊢
    have io : ∀ {M : Mem} {r : Nat}, Rdy M0 M dC r → ∀ c o, isO M0 c o → isO M c o := fun y c o z => by
      unfold isO mN mC at *
      rw [y.1]; exact z
    have hd : ∀ z : Option Mem, (if (if bt w j = true then (1 : Int32) else 0) = 0 then f_X6_recallPlace_90 n 114 P (nI (j + 1)) M else obd2 (f_X6_pull 114 M) fun r15 M16 => chk (isO M16 100 P2) <| chk (inB (nI j) (mLn M16 P2)) <| bnd (sI M16 P2 (nI j).toNatClampNeg r15) fun M19 => f_X6_recallPlace_90 n 114 P (nI (j + 1)) M19) = z → f_X6_recallPlace_90 (n + 1) 114 P (nI j) M = z := by
      intro z hz
      rw [f_X6_recallPlace_90, if_neg (show ¬ (16 : Int32) ≤ nI j from nI_ge (a := j) (b := 16) (by omega) (by decide)), chk_t (io y 4 P hp), hw, f_has9 _ (by omega), obd_s, nI_1, bnd_e, show mR M P 10 = P2 by unfold mR; rw [y.1]; exact h10, bnd_e, chk_t (io y 100 P2 h2), chk_t (io y 6 114 sx.1)]
      simp only [bnd_e]
      simp only [bnd_e] at hz
      exact hz
    by_cases z : bt w j = true
    · rw [if_pos z] at hx he ⊢
      rw [List.length_cons] at he ⊢
      rw [List.map_cons] at hx
      have hx0 : mI M0 dC r = g j := hx 0 (g j) rfl
      obtain ⟨M1, y1, e1, w1, a1, a2, a3, a4, a5⟩ := y.pw (k := j) sx c (by omega) n2 n5 hx0
      obtain ⟨M2, e2, y2, b1, b2, b3, b4, b5⟩ := ih (j + 1) n M1 (r + 1) (by omega) y1 (by rw [a3 P n1 n3]; exact hw) (fun i x hi => by
        have := hx (i + 1) x hi
        rw [show r + 1 + i = r + (i + 1) by omega]; exact this) (by omega) (by omega)
      refine ⟨M2, hd _ ?_, by rw [show r + (((List.range' (j + 1) d).filter fun u => bt w u).length + 1) = r + 1 + ((List.range' (j + 1) d).filter fun u => bt w u).length by omega]; exact y2, fun u u1 u2 u3 => ?_, fun u hu => ?_, fun o o1 o2 b => by rw [b3 o o1 o2, a3 o o1 o2], fun b n => by rw [b4 b n, a4 b n], fun a b => by rw [b5, a5]⟩
      · have i16 : isO (sI M 114 7 (nI (r + 1))) 100 P2 := io y 100 P2 h2
        have l16 : mLn (sI M 114 7 (nI (r + 1))) P2 = 16 := by
          have : mLn M P2 = 16 := by unfold mLn; rw [y.1]; exact hl2
          exact this
        rw [if_pos z, if_neg ne10, e1, obd2_s, chk_t i16, l16, chk_t (inB_n (by omega) (by decide)), sI_c (by omega), w1, bnd_e, e2]
      · by_cases v : u = j
        · rw [v, b2 j (by omega), a1]
        · exact b1 u (by omega) u2 u3
      · rw [b2 u (by omega), a2 u (by omega)]
    · rw [if_neg z] at hx he ⊢
      obtain ⟨M2, e2, y2, b1, b2, b3, b4, b5⟩ := ih (j + 1) n M r (by omega) y hw hx he (by omega)
      refine ⟨M2, hd _ ?_, y2, fun u u1 u2 u3 => ?_, fun u hu => b2 u (by omega), b3, b4, b5⟩
      · rw [if_neg z, if_pos rfl, e2]
      · exact b1 u (by
          by_cases v : u = j
          · rw [v] at u3; exact absurd u3 z
          · omega) u2 u3
