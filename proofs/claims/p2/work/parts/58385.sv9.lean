/-! ===== the tree's wholes, listed and added ===== -/
/-- the nodes from k on are listed -/
def LSD (M : Mem) (N k : Nat) : Prop := TWn N M (ttD N (N - k)) ∧ ∀ u, k ≤ u → u < N → mI M 12 u = nI (ttD N (N - (u + 1))) ∧ mI M 13 u = nI (ttD N (N - u)) ∧ ∀ β, Ex β M (ttD N (N - (u + 1))) (ttD N (N - u)) ↔ ¬ wh N β u = 0
theorem aw9v {N : Nat} (hN : N = 3 ∨ N = 7 ∨ N = 15) (h16 : N ≤ 16) (hodd : N % 2 = 1) : ∀ (k n : Nat) (M : Mem), k ≤ N → W5 M → LSD M N k → k + 1000 ≤ n → ∃ M' n', LSD M' N 0 ∧ Fx M M' ∧ (∀ o b, mL M' o b = mL M o b) ∧ f_X8_addWholes_9 n 5 (nI N) (nB k) M = f_X8_addWholes_80 n' 5 (nI (ttD N (N - 1))) M' ∧ 999 ≤ n' := by
  intro k
  induction k with
  | zero =>
    intro n M hk w h hn
    obtain ⟨n, rfl⟩ : ∃ m, n = m + 1 := ⟨n - 1, by omega⟩
    obtain ⟨⟨w1, w2, w3, w4, w5, w6, w7, w8, w9⟩, ⟨y1, y2, y3, y4, y5, y6, y7, y8⟩, ⟨z1, z2, z3, z4, z5, z6⟩⟩ := id w
    have e0 : mI M 12 0 = nI (ttD N (N - 1)) := (h.2 0 (Nat.le_refl _) (by omega)).1
    exact ⟨M, n, h, Fx.rf M, fun _ _ => rfl, by rw [f_X8_addWholes_9, if_pos (show nB 0 < (0 : Int32) by decide), chk_t w1, y5, bnd_e, chk_t w8, z5, chk_t (show inB (0 : Int32) 16 by decide), show mI M 12 ((0 : Int32)).toNatClampNeg = nI (ttD N (N - 1)) from e0, bnd_e], by omega⟩
  | succ v ih =>
    intro n M hk w h hn
    obtain ⟨n, rfl⟩ : ∃ m, n = m + 1 := ⟨n - 1, by omega⟩
    have v16 : v < 16 := by omega
    obtain ⟨tw, hu⟩ := h
    obtain ⟨te, ⟨t305, tle⟩, tu⟩ := tt_e hN (show v < N by omega)
    generalize hc : ttD N (N - (v + 1)) = c at *
    obtain ⟨⟨w1, w2, w3, w4, w5, w6, w7, w8, w9⟩, ⟨y1, y2, y3, y4, y5, y6, y7, y8⟩, ⟨z1, z2, z3, z4, z5, z6⟩⟩ := id w
    have f0 : Fx M (sI M 12 v (nI c)) := Fx.s (by omega)
    generalize hM1 : sI M 12 v (nI c) = M1 at f0
    have W1 := w.e f0.1
    have i11 : ∀ b, mI M1 11 b = mI M 11 b := fun b => by rw [← hM1, mI_o _ _ _ _ _ (by decide)]
    have t1 : TWn N M1 c := ⟨by rw [← hM1, mI_o _ _ _ _ _ (by decide)]; exact tw.1, tw.2.1, fun j hj => by rw [i11]; exact tw.2.2 j hj⟩
    have r12 : ∀ u, u ≠ v → mI M1 12 u = mI M 12 u := fun u n => by rw [← hM1, mI_n _ _ _ _ n]
    have r12v : mI M1 12 v = nI c := by rw [← hM1, mI_s]
    have r13 : ∀ u, mI M1 13 u = mI M 13 u := fun u => by rw [← hM1, mI_o _ _ _ _ _ (by decide)]
    have rest : ∀ (M2 : Mem), TWn N M2 (ttD N (N - v)) → FvT M1 M2 → (∀ j, j < c → mI M2 11 j = mI M1 11 j) → (∀ β, Ex β M2 c (ttD N (N - v)) ↔ ¬ wh N β v = 0) → ∃ M' n', LSD M' N 0 ∧ Fx M M' ∧ (∀ o b, mL M' o b = mL M o b) ∧ (chk (isO M2 8 5) <| bnd (mR M2 5 5) fun o24 => chk (isO M2 100 o24) <| chk (inB (nI v) (mLn M2 o24)) <| bnd (sI M2 o24 (nI v).toNatClampNeg (mI M2 5 6)) fun M28 => bnd (nI v + (-1 : Int32)) fun x32 => f_X8_addWholes_9 n 5 (nI N) x32 M28) = f_X8_addWholes_80 n' 5 (nI (ttD N (N - 1))) M' ∧ 999 ≤ n' := by
      intro M2 t2 fw kp xv
      have W2 := W1.e fw.1
      obtain ⟨⟨u1, u2, u3, u4, u5, u6, u7, u8, u9⟩, ⟨x1, x2, x3, x4, x5, x6, x7, x8⟩, ⟨q1, q2, q3, q4, q5, q6⟩⟩ := id W2
      have f3 : Fx M2 (sI M2 13 v (nI (ttD N (N - v)))) := Fx.s (by omega)
      have i3 : ∀ b, mI (sI M2 13 v (nI (ttD N (N - v)))) 11 b = mI M2 11 b := fun b => mI_o _ _ _ _ _ (by decide)
      have exc : ∀ β a b, Ex β (sI M2 13 v (nI (ttD N (N - v)))) a b ↔ Ex β M2 a b := fun β a b => Ex_c (c := b) (fun j _ => i3 j) (Nat.le_refl _)
      obtain ⟨M', n', h', f', l', e', hn'⟩ := ih n (sI M2 13 v (nI (ttD N (N - v)))) (by omega) (W2.e rfl) ⟨⟨by rw [mI_o _ _ _ _ _ (by decide)]; exact t2.1, t2.2.1, fun j hj => by rw [i3]; exact t2.2.2 j hj⟩, fun u huk huN => by
        by_cases e : u = v
        · refine ⟨?_, ?_, fun β => ?_⟩
          · rw [e, mI_o _ _ _ _ _ (by decide), fw.2.1 12 (by decide) (by decide), hc]; exact r12v
          · rw [e, mI_s]
          · rw [exc, e, hc]; exact xv β
        · obtain ⟨a1, a2, a3⟩ := hu u (by omega) huN
          refine ⟨by rw [mI_o _ _ _ _ _ (by decide), fw.2.1 12 (by decide) (by decide), r12 u e]; exact a1, by rw [mI_n _ _ _ _ e, fw.2.1 13 (by decide) (by decide), r13]; exact a2, fun β => ?_⟩
          rw [exc, Ex_c (c := c) (M := M) (fun j hj => by rw [kp j hj, i11]) (tu u (by omega) huN)]
          exact a3 β⟩ (by omega)
      exact ⟨M', n', h', (f0.tr fw.x).tr (f3.tr f'), fun o b => by rw [l', show mL (sI M2 13 v (nI (ttD N (N - v)))) o b = mL M2 o b from rfl, fw.2.2.2, ← hM1]; rfl, by rw [chk_t u1, x6, bnd_e, chk_t u9, q6, chk_t (inB_n v16 (by decide)), t2.1, sI_c (by omega), bnd_e, nB_s, bnd_e]; exact e', hn'⟩
    have hd : ∀ y, (if nI N ≤ (((2 : Int32) * nI v) + (2 : Int32)) then (obd (f_X8_listWhole 5 ((1 : Int32) <<< (nI v &&& 31)) M1) fun M22 => chk (isO M22 8 5) <| bnd (mR M22 5 5) fun o24 => chk (isO M22 100 o24) <| chk (inB (nI v) (mLn M22 o24)) <| bnd (sI M22 o24 (nI v).toNatClampNeg (mI M22 5 6)) fun M28 => bnd (nI v + (-1 : Int32)) fun x32 => f_X8_addWholes_9 n 5 (nI N) x32 M28) else (obd (f_X8_listWholes n 5 (nI v) (((2 : Int32) * nI v) + (1 : Int32)) (((2 : Int32) * nI v) + (2 : Int32)) M1) fun M22 => chk (isO M22 8 5) <| bnd (mR M22 5 5) fun o24 => chk (isO M22 100 o24) <| chk (inB (nI v) (mLn M22 o24)) <| bnd (sI M22 o24 (nI v).toNatClampNeg (mI M22 5 6)) fun M28 => bnd (nI v + (-1 : Int32)) fun x32 => f_X8_addWholes_9 n 5 (nI N) x32 M28)) = y → f_X8_addWholes_9 (n + 1) 5 (nI N) (nB (v + 1)) M = y := by
      intro y hy
      rw [show nB (v + 1) = nI v from rfl, f_X8_addWholes_9, if_neg (show ¬ nI v < (0 : Int32) from nI_nlt (b := 0) (Nat.zero_le _) (by omega)), chk_t w1, y5, bnd_e, chk_t w8, z5, chk_t (inB_n v16 (by decide)), tw.1, sI_c (by omega), hM1, bnd_e]
      exact hy
    have e22 : ((2 : Int32) * nI v) + (2 : Int32) = nI (2 * v + 2) := by rw [show (2 : Int32) = nI 2 from rfl, pk_mul, nI_add]
    have e21 : ((2 : Int32) * nI v) + (1 : Int32) = nI (2 * v + 1) := by rw [show (2 : Int32) = nI 2 from rfl, pk_mul, nI_1]
    by_cases leaf : N ≤ 2 * v + 2
    · rw [if_pos leaf] at te
      obtain ⟨M2, e2, t2, fw, x2, kp⟩ := lw1v W1 t1 (SN.one h16 (show v < N by omega)) (by omega)
      rw [← te] at t2
      obtain ⟨M', n', h', f', l', e', hn'⟩ := rest M2 t2 fw kp (fun β => by
        rw [te, Ex_s (show c < c + 1 by omega), x2, Dj_one (by omega), wh_nz (show v < N by omega) h16 hodd, if_pos leaf]
        exact ⟨fun z => z.elim id (fun z => absurd z Ex_0), Or.inl⟩)
      exact ⟨M', n', h', f', l', (hd _ (by rw [e22, if_pos (nI_le leaf (by omega)), e2, obd_s])).trans e', hn'⟩
    · rw [if_neg leaf] at te
      obtain ⟨l1, l2, l3⟩ := hu (2 * v + 1) (by omega) (by omega)
      obtain ⟨r1, r2, r3⟩ := hu (2 * v + 2) (by omega) (by omega)
      have ul := tu (2 * v + 1) (by omega) (by omega)
      have ur := tu (2 * v + 2) (by omega) (by omega)
      obtain ⟨_, ⟨_, lel⟩, _⟩ := tt_e hN (show 2 * v + 1 < N by omega)
      obtain ⟨_, ⟨_, ler⟩, _⟩ := tt_e hN (show 2 * v + 2 < N by omega)
      rw [show 2 * v + 1 + 1 = 2 * v + 2 by omega] at l1 l3 lel
      rw [show 2 * v + 2 + 1 = 2 * v + 3 by omega] at r1 r3 ler
      generalize ttD N (N - (2 * v + 1)) = p1 at *
      generalize ttD N (N - (2 * v + 2)) = p2 at *
      generalize ttD N (N - (2 * v + 3)) = p3 at *
      have a1 : mI M1 12 (2 * v + 1) = nI p2 := by rw [r12 _ (by omega)]; exact l1
      obtain ⟨M2, e2, t2, fw, kp, X2⟩ := lw8v (v := v) (l := 2 * v + 1) (r := 2 * v + 2) (ar := p3) (br := p2) (bl := p1) h16 (show v < N by omega) (by omega) (by omega) ler (p1 - p2) p2 n M1 c (by omega) W1 t1 (by rw [r12 _ (by omega)]; exact r1) (by rw [r13]; exact r2) (by rw [r13]; exact l2) ul ur (by omega) (by omega)
      rw [← te] at t2 X2
      obtain ⟨M', n', h', f', l', e', hn'⟩ := rest M2 t2 fw kp (fun β => by
        rw [X2 β, wh_nz (show v < N by omega) h16 hodd, if_neg leaf, ← l3 β, ← r3 β, Ex_c (c := c) (fun j _ => i11 j) ul, Ex_c (c := c) (fun j _ => i11 j) ur])
      have W1' := W1
      obtain ⟨⟨u1, u2, u3, u4, u5, u6, u7, u8, u9⟩, ⟨x1, x2, x3, x4, x5, x6, x7, x8⟩, ⟨q1, q2, q3, q4, q5, q6⟩⟩ := W1'
      have eW : f_X8_listWholes n 5 (nI v) (nI (2 * v + 1)) (nI (2 * v + 2)) M1 = some M2 := by
        rw [f_X8_listWholes, chk_t u1, x5, bnd_e, chk_t u8, q5, chk_t (inB_n (by omega) (by decide)), mI_c (by omega), a1, bnd_e]
        exact e2
      exact ⟨M', n', h', f', l', (hd _ (by rw [e22, e21, if_neg (nI_ge (by omega) (by omega)), eW, obd_s])).trans e', hn'⟩
theorem aw80v {N b : Nat} (h16 : N ≤ 16) : ∀ (d j n : Nat) (M : Mem) (c : Nat), j + d = b → W5 M → TWn N M c → F1 M 8 9 N → mI M 13 0 = nI b → b ≤ c → d + 1 ≤ n → ∃ M', f_X8_addWholes_80 n 5 (nI j) M = some M' ∧ FLq 9 M M' ∧ ∀ X, fb (mL M' 9) X = true ↔ fb (mL M 9) X = true ∨ ∃ i, j ≤ i ∧ i < b ∧ mI M 11 i = nI X ∧ X < 65536 := by
  intro d
  induction d with
  | zero =>
    intro j n M c hj w h f hb hc hn
    obtain ⟨n, rfl⟩ : ∃ m, n = m + 1 := ⟨n - 1, by omega⟩
    have h305 := h.2.1
    obtain ⟨⟨w1, w2, w3, w4, w5, w6, w7, w8, w9⟩, ⟨y1, y2, y3, y4, y5, y6, y7, y8⟩, ⟨z1, z2, z3, z4, z5, z6⟩⟩ := w
    exact ⟨M, by rw [f_X8_addWholes_80, chk_t w1, y6, bnd_e, chk_t w9, z6, chk_t (show inB (0 : Int32) 16 by decide), show mI M 13 ((0 : Int32)).toNatClampNeg = nI b from hb, if_pos (nI_le (by omega) (by omega))], FLq.rf 9 M, fun X => ⟨Or.inl, fun z => z.elim id (fun ⟨i, h1, h2, _⟩ => by omega)⟩⟩
  | succ d ih =>
    intro j n M c hj w h f hb hc hn
    obtain ⟨n, rfl⟩ : ∃ m, n = m + 1 := ⟨n - 1, by omega⟩
    have h305 := h.2.1
    obtain ⟨⟨w1, w2, w3, w4, w5, w6, w7, w8, w9⟩, ⟨y1, y2, y3, y4, y5, y6, y7, y8⟩, ⟨z1, z2, z3, z4, z5, z6⟩⟩ := id w
    obtain ⟨k, hk, ek⟩ := SO.k (x := mI M 11 j) (fun i a b => h.2.2 j (by omega) i (by omega) b)
    obtain ⟨M1, e1, f1, x1⟩ := f.addv hk
    have t1 : TWn N M1 c := ⟨by rw [f1.2.1]; exact h.1, h.2.1, fun j hj => by rw [f1.2.1]; exact h.2.2 j hj⟩
    obtain ⟨M', e', f', x'⟩ := ih (j + 1) n M1 c (by omega) (w.e f1.1) t1 (f.l f1.lg) (by rw [f1.2.1]; exact hb) hc (by omega)
    refine ⟨M', by rw [f_X8_addWholes_80, chk_t w1, y6, bnd_e, chk_t w9, z6, chk_t (show inB (0 : Int32) 16 by decide), show mI M 13 ((0 : Int32)).toNatClampNeg = nI b from hb, if_neg (nI_ge (by omega) (by omega)), y2, bnd_e, chk_t w4, y4, bnd_e, chk_t w7, z4, chk_t (inB_n (by omega) (by decide)), mI_c (by omega), ek, e1, obd_s, bnd_e, nI_1]; exact e', f1.tr f', fun X => ?_⟩
    rw [x' X, x1 X, Bool.or_eq_true, decide_eq_true_eq]
    constructor
    · rintro ((a | a) | ⟨i, h1, h2, h3, h4⟩)
      · exact Or.inl a
      · exact Or.inr ⟨j, Nat.le_refl _, by omega, by rw [a]; exact ek, by omega⟩
      · exact Or.inr ⟨i, by omega, h2, by rw [← f1.2.1]; exact h3, h4⟩
    · rintro (a | ⟨i, h1, h2, h3, h4⟩)
      · exact Or.inl (Or.inl a)
      · by_cases z : i = j
        · rw [z, ek] at h3
          exact Or.inl (Or.inr ((nI_eq (by omega) (by omega)).mp h3.symm))
        · exact Or.inr ⟨i, by omega, h2, by rw [f1.2.1]; exact h3, h4⟩
/-! the bases added -/
def bsN (S : St) (v : Nat) : Nat := (xR S 17 v).toBitVec.toNat
theorem bsN_e (S : St) (v : Nat) : xR S 17 v = nI (bsN S v) := nI_tn _
theorem bsN_lt {N : Nat} {S : St} (h16 : N ≤ 16) (bi : BI N S) {v : Nat} (hv : v < N) : bsN S v < 2 ^ N := bt_hi (by omega) (fun i a b => bi v hv i a b)
theorem sub_iff {X Y : Nat} (hX : X < 65536) (hY : Y < 65536) : nI Y &&& (nI X ^^^ (-1 : Int32)) = 0 ↔ ∀ i, Y.testBit i = true → X.testBit i = true := by
  constructor
  · intro h i hi
    have i32 : i < 32 := by
      apply Decidable.byContradiction
      intro c
      rw [Nat.testBit_lt_two_pow (Nat.lt_of_lt_of_le hY (show 2 ^ 16 ≤ 2 ^ i from Nat.pow_le_pow_right (by decide) (by omega)))] at hi
      cases hi
    have := bt_minus (nI Y) (nI X) i32
    rw [h, b_0, bt_nI _ i32, bt_nI _ i32, hi, Bool.true_and] at this
    cases z : X.testBit i
    · rw [z] at this; cases this
    · rfl
  · intro h
    refine b_ext fun i hi => ?_
    rw [bt_minus _ _ hi, bt_nI _ hi, bt_nI _ hi, b_0]
    cases z : Y.testBit i
    · rfl
    · rw [h i z]; rfl
theorem tb_hi {N X : Nat} (h : X < 2 ^ N) {i : Nat} (hi : N ≤ i) : X.testBit i = false := Nat.testBit_lt_two_pow (Nat.lt_of_lt_of_le h (Nat.pow_le_pow_right (by decide) hi))
/-- the closure of a family of sets of the N nodes -/
theorem upF_N {F : Nat → Bool} {N X : Nat} (hF : ∀ Y, F Y = true → Y < 2 ^ N) : upF F N X = true ↔ X < 2 ^ N ∧ ∃ Y, F Y = true ∧ ∀ i, Y.testBit i = true → X.testBit i = true := by
  rw [upF_iff]
  constructor
  · rintro ⟨Y, h1, h2, h3⟩
    refine ⟨?_, Y, h1, h3⟩
    apply Nat.lt_pow_two_of_testBit
    intro i hi
    rw [← h2 i hi]
    exact tb_hi (hF Y h1) hi
  · rintro ⟨hX, Y, h1, h3⟩
    exact ⟨Y, h1, fun i hi => by rw [tb_hi (hF Y h1) hi, tb_hi hX hi], h3⟩
