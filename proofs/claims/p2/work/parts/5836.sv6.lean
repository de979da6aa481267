/-! ===== counts of sets, the class ===== -/
theorem smN_fl (f : Nat → Nat) : ∀ u, smN (fun w => smN (fun j => f (64 * w + j)) 64) u = smN f (64 * u) := by
  intro u
  induction u with
  | zero => rfl
  | succ u ih =>
    rw [show 64 * (u + 1) = 64 * u + 64 by omega, smN_ap f (64 * u) 64, ← ih]
    rfl
theorem smN_z {f : Nat → Nat} : ∀ n, (∀ i, i < n → f i = 0) → smN f n = 0 := by
  intro n
  induction n with
  | zero => intro _; rfl
  | succ n ih =>
    intro h
    show smN f n + f n = 0
    rw [ih (fun i hi => h i (by omega)), h n (by omega)]
theorem smN_cut {f : Nat → Nat} {a b : Nat} (h : a ≤ b) (z : ∀ i, a ≤ i → i < b → f i = 0) : smN f b = smN f a := by
  obtain ⟨c, rfl⟩ : ∃ c, b = a + c := ⟨b - a, by omega⟩
  rw [smN_ap, smN_z c (fun i hi => z (a + i) (by omega) (by omega)), Nat.add_zero]
def smL (f : Nat → Int64) : Nat → Int64
  | 0 => 0
  | n + 1 => smL f n + f n
theorem smL_ap (f : Nat → Int64) (a : Nat) : ∀ b, smL f (a + b) = smL f a + smL (fun i => f (a + i)) b := by
  intro b
  induction b with
  | zero => exact (Int64.add_zero _).symm
  | succ b ih =>
    show smL f (a + b) + f (a + b) = smL f a + (smL (fun i => f (a + i)) b + f (a + b))
    rw [ih, Int64.add_assoc]
theorem smL_c {f g : Nat → Int64} : ∀ n, (∀ i, i < n → f i = g i) → smL f n = smL g n := by
  intro n
  induction n with
  | zero => intro _; rfl
  | succ n ih =>
    intro h
    show smL f n + f n = smL g n + g n
    rw [ih (fun i hi => h i (by omega)), h n (by omega)]
theorem smL_z {f : Nat → Int64} : ∀ n, (∀ i, i < n → f i = 0) → smL f n = 0 := by
  intro n
  induction n with
  | zero => intro _; rfl
  | succ n ih =>
    intro h
    show smL f n + f n = 0
    rw [ih (fun i hi => h i (by omega)), h n (by omega), Int64.add_zero]
theorem smL_add (f g : Nat → Int64) : ∀ n, smL f n + smL g n = smL (fun i => f i + g i) n := by
  intro n
  induction n with
  | zero => exact Int64.add_zero _
  | succ n ih =>
    show smL f n + f n + (smL g n + g n) = smL (fun i => f i + g i) n + (f n + g n)
    rw [← ih]
    ac_rfl
theorem smL_fl (f : Nat → Int64) : ∀ u, smL (fun w => smL (fun j => f (64 * w + j)) 64) u = smL f (64 * u) := by
  intro u
  induction u with
  | zero => rfl
  | succ u ih =>
    rw [show 64 * (u + 1) = 64 * u + 64 by omega, smL_ap f (64 * u) 64, ← ih]
    rfl
theorem smL_cut {f : Nat → Int64} {a b : Nat} (h : a ≤ b) (z : ∀ i, a ≤ i → i < b → f i = 0) : smL f b = smL f a := by
  obtain ⟨c, rfl⟩ : ∃ c, b = a + c := ⟨b - a, by omega⟩
  rw [smL_ap, smL_z c (fun i hi => z (a + i) (by omega) (by omega)), Int64.add_zero]
theorem smL_one (x : Int64) (V : Int64) : ∀ n, nL (smN (fun i => if qb x i = true then 1 else 0) n) * V = smL (fun i => if qb x i = true then V else 0) n := by
  intro n
  induction n with
  | zero => exact Int64.zero_mul
  | succ n ih =>
    show nL (smN (fun i => if qb x i = true then 1 else 0) n + (if qb x n = true then 1 else 0)) * V = smL (fun i => if qb x i = true then V else 0) n + (if qb x n = true then V else 0)
    rw [← nL_add, Int64.add_mul, ih]
    congr 1
    by_cases c : qb x n = true
    · rw [if_pos c, if_pos c]; exact Int64.one_mul _
    · rw [if_neg c, if_neg c]; exact Int64.zero_mul
/-- of all sets, or those with a node -/
def hvp (a : Int32) (h : Nat → Bool) : Prop := (a = -1 ∧ ∀ X, h X = true) ∨ ∃ v, v < 16 ∧ a = nI v ∧ ∀ X, h X = X.testBit v
section
variable {M : Mem} {o q N : Nat}
theorem F1.hvv (f : F1 M o q N) (h16 : N ≤ 16) {k : Nat} (hk : k < us6 N) {a : Int32} {h : Nat → Bool} (ha : hvp a h) : ∃ r, f_X1_having o (nI k) a M = some r ∧ ∀ j, j < 64 → qb r j = (fb (mL M q) (64 * k + j) && h (64 * k + j)) := by
  have u := us_b h16
  have ib : inB (nI k) 1024 := inB_n (by omega) (by decide)
  rcases ha with ⟨rfl, hh⟩ | ⟨v, hv, rfl, hh⟩
  · refine ⟨mL M q k, by rw [f_X1_having, if_neg (show ¬ (0 : Int32) ≤ -1 by decide), chk_t f.1.1, f.1.2.1, bnd_e, chk_t f.1.2.2.1, f.1.2.2.2, chk_t ib, mL_c (by omega)], fun j hj => ?_⟩
    rw [fb_w _ hj, hh, Bool.and_true]
  · rw [f_X1_having, if_pos (show (0 : Int32) ≤ nI v from nI_le (a := 0) (Nat.zero_le _) (by omega))]
    by_cases c : 6 ≤ v
    · rw [if_pos (show (6 : Int32) ≤ nI v from nI_le (a := 6) c (by omega)), show nI v - (6 : Int32) = nI (v - 6) by rw [show (6 : Int32) = nI 6 from rfl, nI_sb c], sh_bit (nI k) (show v - 6 < 32 by omega), bt_nI _ (show v - 6 < 32 by omega)]
      have tb : ∀ j, j < 64 → (64 * k + j).testBit v = k.testBit (v - 6) := fun j hj => by
        have := d64 (64 * k + j) (v - 6)
        rw [show (64 * k + j) / 64 = k by omega, show 6 + (v - 6) = v by omega] at this
        exact this.symm
      by_cases b : k.testBit (v - 6) = true
      · refine ⟨mL M q k, by rw [if_pos b, if_neg ne10, chk_t f.1.1, f.1.2.1, bnd_e, chk_t f.1.2.2.1, f.1.2.2.2, chk_t ib, mL_c (by omega)], fun j hj => ?_⟩
        rw [fb_w _ hj, hh, tb j hj, b, Bool.and_true]
      · refine ⟨0, by rw [if_neg b, if_pos rfl], fun j hj => ?_⟩
        rw [qb_0, hh, tb j hj]
        cases z : k.testBit (v - 6)
        · rw [Bool.and_false]
        · exact absurd z b
    · rw [if_neg (show ¬ (6 : Int32) ≤ nI v from nI_ge (b := 6) (by omega) (by decide))]
      refine ⟨mL M q k &&& l_HV v, by rw [chk_t f.1.1, f.1.2.1, bnd_e, chk_t f.1.2.2.1, f.1.2.2.2, chk_t ib, chk_t (inB_n (show v < 6 by omega) (by decide)), mL_c (by omega), nI_clamp (show v < 2 ^ 31 by omega)], fun j hj => ?_⟩
      have tb : (64 * k + j).testBit v = j.testBit v := by
        have := m64 (64 * k + j) v
        rw [show (64 * k + j) % 64 = j by omega, decide_eq_true (show v < 6 by omega), Bool.true_and] at this
        exact this.symm
      rw [qb_and, fb_w _ hj, hv_k v (by omega) j hj, hh, tb]
/-- how many sets of a word -/
def cwd (W : Nat → Int64) (h : Nat → Bool) (w : Nat) : Nat := smN (fun j => if (fb W (64 * w + j) && h (64 * w + j)) = true then 1 else 0) 64
theorem cwd_e {x : Int64} {W : Nat → Int64} {h : Nat → Bool} {w : Nat} (e : ∀ j, j < 64 → qb x j = (fb W (64 * w + j) && h (64 * w + j))) : cnw x = cwd W h w :=
  smN_c 64 (fun j hj => by rw [e j hj])
theorem F1.tbv (f : F1 M o q N) (h16 : N ≤ 16) {v : Nat} (hv : v < 16) : ∀ (d i n : Nat) (c : Int32) (a l : Nat), i + d = us6 N → c + nI l = nI (2 * a) → d + 1 ≤ n → ∃ r, f_X1_turnedBy_4 M n o (nI v) c (nI i) = some r ∧ r + nI (l + smN (fun t => cwd (mL M q) (fun _ => true) (i + t)) d) = nI (2 * (a + smN (fun t => cwd (mL M q) (fun X => X.testBit v) (i + t)) d)) := by
  have u := us_b h16
  intro d
  induction d with
  | zero =>
    intro i n c a l hi hc hn
    obtain ⟨n, rfl⟩ : ∃ m, n = m + 1 := ⟨n - 1, by omega⟩
    exact ⟨c, by rw [f_X1_turnedBy_4, chk_t f.1.1, f.2.2, if_pos (nI_le (by omega) (by omega))], hc⟩
  | succ d ih =>
    intro i n c a l hi hc hn
    obtain ⟨n, rfl⟩ : ∃ m, n = m + 1 := ⟨n - 1, by omega⟩
    obtain ⟨x, ex, hx⟩ := f.hvv h16 (k := i) (by omega) (a := nI v) (h := fun X => X.testBit v) (Or.inr ⟨v, hv, rfl, fun _ => rfl⟩)
    have cx : cnw x = cwd (mL M q) (fun X => X.testBit v) i := cwd_e hx
    have cy : cnw (mL M q i) = cwd (mL M q) (fun _ => true) i := cwd_e (fun j hj => by rw [fb_w _ hj, Bool.and_true])
    have sh : ∀ g : Nat → Nat, smN (fun t => g (i + t)) (d + 1) = g i + smN (fun t => g (i + 1 + t)) d := fun g => by
      rw [Nat.add_comm d 1, smN_ap]
      show (0 + g (i + 0)) + _ = _
      rw [Nat.zero_add, Nat.add_zero]
      congr 1
      apply smN_c
      intro t _
      show g (i + (1 + t)) = g (i + 1 + t)
      rw [Nat.add_assoc]
    obtain ⟨r, er, hr⟩ := ih (i + 1) n (c + (((2 : Int32) * nI (cnw x)) - nI (cnw (mL M q i)))) (a + cwd (mL M q) (fun X => X.testBit v) i) (l + cwd (mL M q) (fun _ => true) i) (by omega) (by
      rw [cx, cy, ← nI_add]
      have e2 : ∀ z y : Int32, z - y + y = z := fun z y => Int32.sub_add_cancel z y
      have e3 : c + ((2 : Int32) * nI (cwd (mL M q) (fun X => X.testBit v) i) - nI (cwd (mL M q) (fun _ => true) i)) + (nI l + nI (cwd (mL M q) (fun _ => true) i)) = (c + nI l) + ((2 : Int32) * nI (cwd (mL M q) (fun X => X.testBit v) i) - nI (cwd (mL M q) (fun _ => true) i) + nI (cwd (mL M q) (fun _ => true) i)) := by ac_rfl
      rw [e3, e2, hc, show (2 : Int32) = nI 2 from rfl, pk_mul, nI_add]
      congr 1
      omega) (by omega)
    refine ⟨r, ?_, ?_⟩
    · rw [f_X1_turnedBy_4, chk_t f.1.1, f.2.2, if_neg (nI_ge (by omega) (by omega)), ex, obd_s, f_bcw, obd_s, f.1.2.1, bnd_e, chk_t f.1.2.2.1, f.1.2.2.2, chk_t (inB_n (by omega) (by decide)), mL_c (by omega), f_bcw, obd_s, bnd_e, bnd_e, nI_1]
      exact er
    · rw [sh (cwd (mL M q) (fun _ => true)), sh (cwd (mL M q) (fun X => X.testBit v)), ← Nat.add_assoc, ← Nat.add_assoc]
      exact hr
/-- how many sets of the family are with a node -/
def cfm (F : Nat → Bool) (n : Nat) : Nat := smN (fun X => if F X = true then 1 else 0) n
theorem F1.tb_s (f : F1 M o q N) (h16 : N ≤ 16) {F : Nat → Bool} (hF : ∀ X, X < 2 ^ N → fb (mL M q) X = F X) (h0 : ∀ X, 2 ^ N ≤ X → X < 64 * us6 N → fb (mL M q) X = false) {v : Nat} (hv : v < 16) {n : Nat} (hn : 1100 ≤ n) : ∃ r, f_X1_turnedBy n o (nI v) M = some r ∧ r + nI (cfm F (2 ^ N)) = nI (2 * cfm (fun X => F X && X.testBit v) (2 ^ N)) := by
  have u := us_b h16
  have u2 := us_N2 h16
  obtain ⟨r, e, h⟩ := f.tbv h16 hv (us6 N) 0 n 0 0 0 (by omega) (by decide) (by omega)
  have fl : ∀ g : Nat → Bool, smN (fun t => cwd (mL M q) g (0 + t)) (us6 N) = cfm (fun X => F X && g X) (2 ^ N) := fun g => by
    have e1 : smN (fun t => cwd (mL M q) g (0 + t)) (us6 N) = smN (fun w => smN (fun j => (fun X => if (fb (mL M q) X && g X) = true then 1 else 0) (64 * w + j)) 64) (us6 N) := smN_c _ (fun w _ => by rw [Nat.zero_add]; rfl)
    rw [e1, smN_fl (fun X => if (fb (mL M q) X && g X) = true then 1 else 0), smN_cut (f := (fun X => if (fb (mL M q) X && g X) = true then 1 else 0)) u2 (fun X h1 h2 => by show (if (fb (mL M q) X && g X) = true then 1 else 0) = 0; rw [h0 X h1 h2]; rfl)]
    exact smN_c _ (fun X hX => by rw [hF X hX])
  refine ⟨r, e, ?_⟩
  rw [fl, fl, Nat.zero_add, Nat.zero_add] at h
  have e2 : cfm (fun X => F X && (fun _ => true) X) (2 ^ N) = cfm F (2 ^ N) := smN_c _ (fun X _ => by show (if (F X && true) = true then 1 else 0) = _; rw [Bool.and_true])
  rw [e2] at h
  exact h
theorem nI_L : ∀ k, k < 65 → (nI k).toInt64 = nL k := by decide +kernel
theorem cnw_64 (x : Int64) : cnw x ≤ 64 := by
  have h := smN_le (f := fun i => if qb x i = true then 1 else 0) (g := fun _ => 1) 64 (fun i _ => by show (if qb x i = true then 1 else 0) ≤ 1; split <;> omega)
  rw [smN_k] at h
  exact h
theorem wg26v {K : Nat → Int32 → Nat → Int64 → Int32 → Option Int64} {i w : Nat} {a : Int32} (hi : i < 1024) (hw : isO M 101 w) (hl : mLn M w = 17) : ∀ (d j n : Nat) (c x : Int64), j + d = 7 → d + 1 ≤ n → f_X1_weigh_26 K M n o a w c (nI i) x (nI j) = K o a w (c + smL (fun b => if qb x b = true ∧ j ≤ pcw b then mL M w (pcN i + pcw b) else 0) 64) (nI (i + 1)) := by
  have bc : f_J6_bitCount_0f7a4 (nI i) M = some (nI (pcN i)) := by
    rw [f_bcx (bt_hk (j := 16) (by omega)) M, pc_N]
  have pl := pcN_10 hi
  intro d
  induction d with
  | zero =>
    intro j n c x hj hn
    obtain ⟨n, rfl⟩ : ∃ m, n = m + 1 := ⟨n - 1, by omega⟩
    rw [f_X1_weigh_26, if_pos (show (6 : Int32) < nI j from nI_lt (a := 6) (by omega) (by omega)), bnd_e, nI_1, smL_z 64 (fun b hb => if_neg (fun z => by have := pcw_6 b hb; have := z.2; omega)), Int64.add_zero]
  | succ d ih =>
    intro j n c x hj hn
    obtain ⟨n, rfl⟩ : ∃ m, n = m + 1 := ⟨n - 1, by omega⟩
    have j7 : j < 7 := by omega
    rw [f_X1_weigh_26, if_neg (show ¬ (6 : Int32) < nI j from nI_nl (a := 6) (by omega) (by decide))]
    by_cases z : lg_cmp x (0 : Int64) = 0
    · rw [if_pos z, bnd_e, nI_1, smL_z 64 (fun b hb => if_neg (fun y => by rw [(lg_z x).mp z b hb] at y; cases y.1)), Int64.add_zero]
    · rw [if_neg z, chk_t (inB_n j7 (by decide)), f_bcw, obd_s, bc, obd_s, chk_t hw, nI_add, hl, chk_t (inB_n (by omega) (by decide)), bnd_e, bnd_e, nI_1, mL_c (by omega), nI_L _ (by have := cnw_64 (x &&& l_OS (nI j).toNatClampNeg); omega), nI_clamp (show j < 2 ^ 31 by omega), ih (j + 1) n _ x (by omega) (by omega)]
      refine congrArg (fun z => K o a w z (nI (i + 1))) ?_
      have e1 : nL (cnw (x &&& l_OS j)) * mL M w (pcN i + j) = smL (fun b => if qb (x &&& l_OS j) b = true then mL M w (pcN i + j) else 0) 64 := smL_one _ _ 64
      rw [e1, Int64.add_assoc, smL_add]
      refine congrArg (fun z => c + z) ?_
      apply smL_c
      intro b hb
      have qe : qb (x &&& l_OS j) b = true ↔ qb x b = true ∧ pcw b = j := by rw [qb_and, Bool.and_eq_true, os_k j j7 b hb, decide_eq_true_eq]
      by_cases c1 : qb x b = true
      · by_cases c2 : pcw b = j
        · rw [if_pos (qe.mpr ⟨c1, c2⟩), if_neg (fun y => by have := y.2; omega), if_pos ⟨c1, by omega⟩, Int64.add_zero, c2]
        · rw [if_neg (fun y => c2 (qe.mp y).2), Int64.zero_add]
          by_cases c3 : j + 1 ≤ pcw b
          · rw [if_pos ⟨c1, c3⟩, if_pos ⟨c1, by omega⟩]
          · rw [if_neg (fun y => c3 y.2), if_neg (fun y => by have := y.2; omega)]
      · rw [if_neg (fun y => c1 (qe.mp y).1), if_neg (fun y => c1 y.1), if_neg (fun y => c1 y.1), Int64.add_zero]
/-- what a word's sets weigh -/
def wwd (W V : Nat → Int64) (h : Nat → Bool) (w : Nat) : Int64 := smL (fun j => if (fb W (64 * w + j) && h (64 * w + j)) = true then V (pcN w + pcw j) else 0) 64
theorem F1.wgv (f : F1 M o q N) (h16 : N ≤ 16) {w : Nat} {a : Int32} {h : Nat → Bool} (ha : hvp a h) (hw : isO M 101 w) (hl : mLn M w = 17) : ∀ (d i n : Nat) (c : Int64), i + d = us6 N → d + 20 ≤ n → f_X1_weigh_5 M n o a w c (nI i) = some (c + smL (fun t => wwd (mL M q) (mL M w) h (i + t)) d) := by
  have u := us_b h16
  intro d
  induction d with
  | zero =>
    intro i n c hi hn
    obtain ⟨n, rfl⟩ : ∃ m, n = m + 1 := ⟨n - 1, by omega⟩
    rw [f_X1_weigh_5, chk_t f.1.1, f.2.2, if_pos (nI_le (by omega) (by omega))]
    exact congrArg some (Int64.add_zero c).symm
  | succ d ih =>
    intro i n c hi hn
    obtain ⟨n, rfl⟩ : ∃ m, n = m + 1 := ⟨n - 1, by omega⟩
    obtain ⟨x, ex, hx⟩ := f.hvv h16 (k := i) (by omega) ha
    rw [f_X1_weigh_5, chk_t f.1.1, f.2.2, if_neg (nI_ge (by omega) (by omega)), ex, obd_s]
    have e := wg26v (M := M) (o := o) (K := f_X1_weigh_5 M n) (i := i) (a := a) (by omega) hw hl 7 0 n c x rfl (by omega)
    refine Eq.trans e ?_
    rw [ih (i + 1) n _ (by omega) (by omega), Nat.add_comm d 1, smL_ap, Int64.add_assoc]
    refine congrArg some (congrArg (fun z => c + z) (congr (congrArg HAdd.hAdd ?_) ?_))
    · show _ = (0 : Int64) + wwd (mL M q) (mL M w) h (i + 0)
      rw [Int64.zero_add, Nat.add_zero]
      exact smL_c 64 (fun b hb => by
        rw [hx b hb]
        by_cases z : (fb (mL M q) (64 * i + b) && h (64 * i + b)) = true
        · rw [if_pos ⟨z, Nat.zero_le _⟩, if_pos z]
        · rw [if_neg (fun y => z y.1), if_neg z])
    · exact smL_c d (fun t _ => by rw [Nat.add_assoc])
theorem F1.wg_s (f : F1 M o q N) (h16 : N ≤ 16) {F : Nat → Bool} (hF : ∀ X, X < 2 ^ N → fb (mL M q) X = F X) (h0 : ∀ X, 2 ^ N ≤ X → X < 64 * us6 N → fb (mL M q) X = false) {w : Nat} {a : Int32} {h : Nat → Bool} (ha : hvp a h) (hw : isO M 101 w) (hl : mLn M w = 17) {n : Nat} (hn : 1100 ≤ n) : f_X1_weigh n o a w M = some (smL (fun X => if (F X && h X) = true then mL M w (pcN X) else 0) (2 ^ N)) := by
  have u := us_b h16
  have u2 := us_N2 h16
  have e := f.wgv h16 ha hw hl (us6 N) 0 n 0 (by omega) (by omega)
  rw [Int64.zero_add] at e
  rw [f_X1_weigh]
  refine Eq.trans e (congrArg some ?_)
  have e1 : smL (fun t => wwd (mL M q) (mL M w) h (0 + t)) (us6 N) = smL (fun w' => smL (fun j => (fun X => if (fb (mL M q) X && h X) = true then mL M w (pcN X) else 0) (64 * w' + j)) 64) (us6 N) := smL_c _ (fun w' hw' => by
    rw [Nat.zero_add]
    unfold wwd
    exact smL_c 64 (fun j hj => by
      have : pcN (64 * w' + j) = pcN w' + pcw j := by
        rw [pcN_64 (by omega), show (64 * w' + j) / 64 = w' by omega, show (64 * w' + j) % 64 = j by omega]
      show _ = if (fb (mL M q) (64 * w' + j) && h (64 * w' + j)) = true then mL M w (pcN (64 * w' + j)) else 0
      rw [this]))
  rw [e1, smL_fl (fun X => if (fb (mL M q) X && h X) = true then mL M w (pcN X) else 0), smL_cut (f := (fun X => if (fb (mL M q) X && h X) = true then mL M w (pcN X) else 0)) u2 (fun X h1 h2 => by show (if (fb (mL M q) X && h X) = true then mL M w (pcN X) else 0) = 0; rw [h0 X h1 h2]; rfl)]
  exact smL_c _ (fun X hX => by rw [hF X hX])
end
