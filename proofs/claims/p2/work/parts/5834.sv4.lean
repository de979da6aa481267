/-! ===== the least set that is better, the least that stops all: the class ===== -/
theorem sh_or {i k : Nat} (hi : i < 1024) (hk : k < 64) : (nI i <<< ((6 : Int32) &&& 31)) ||| nI k = nI (64 * i + k) := by
  apply b_ext
  intro j hj
  rw [b_or, show (6 : Int32) = nI 6 from rfl, b_shl 6 (by decide) _ hj, bt_nI _ hj, bt_nI _ hj, show (64 : Nat) = 2 ^ 6 from rfl, Nat.testBit_two_pow_mul_add _ (show k < 2 ^ 6 from hk)]
  by_cases c : j < 6
  · rw [if_pos c, decide_eq_false (show ¬ 6 ≤ j by omega), Bool.false_and, Bool.false_or]
  · rw [if_neg c, decide_eq_true (show 6 ≤ j by omega), Bool.true_and, bt_nI _ (show j - 6 < 32 by omega), Nat.testBit_lt_two_pow (Nat.lt_of_lt_of_le hk (show 2 ^ 6 ≤ 2 ^ j from Nat.pow_le_pow_right (by decide) (by omega))), Bool.or_false]
def gd (W : Nat → Int64) (N X : Nat) : Prop := fb W X = false ∧ fb W (2 ^ N - 1 - X) = false
theorem fb_w (W : Nat → Int64) {i j : Nat} (hj : j < 64) : fb W (64 * i + j) = qb (W i) j := by
  unfold fb
  rw [show (64 * i + j) / 64 = i by omega, show (64 * i + j) % 64 = j by omega]
theorem us_N2 {N : Nat} (h16 : N ≤ 16) : 2 ^ N ≤ 64 * us6 N := by
  by_cases c : 6 ≤ N
  · rw [us_64 c]; exact Nat.le_refl _
  · have := us_1 (show N ≤ 6 by omega)
    have p6 : 2 ^ N ≤ 2 ^ 6 := Nat.pow_le_pow_right (by decide) (by omega)
    omega
section
variable {M : Mem} {o q N : Nat}
theorem F1.lbv (f : F1 M o q N) (h16 : N ≤ 16) : ∀ (d i n : Nat), i + d = us6 N → d + 20 ≤ n → ∃ r, f_X1_leastBetter_2 M n o (nI i) = some r ∧ ((∃ X, 64 * i ≤ X ∧ X < 2 ^ N ∧ gd (mL M q) N X ∧ r = nI X ∧ ∀ Y, 64 * i ≤ Y → Y < X → ¬ gd (mL M q) N Y) ∨ (r = -1 ∧ ∀ Y, 64 * i ≤ Y → Y < 2 ^ N → ¬ gd (mL M q) N Y)) := by
  have u := us_b h16
  have u2 := us_N2 h16
  intro d
  induction d with
  | zero =>
    intro i n hi hn
    obtain ⟨n, rfl⟩ : ∃ m, n = m + 1 := ⟨n - 1, by omega⟩
    exact ⟨-1, by rw [f_X1_leastBetter_2, chk_t f.1.1, f.2.2, if_pos (nI_le (by omega) (by omega))], Or.inr ⟨rfl, fun Y h1 h2 => by omega⟩⟩
  | succ d ih =>
    intro i n hi hn
    obtain ⟨n, rfl⟩ : ∃ m, n = m + 1 := ⟨n - 1, by omega⟩
    obtain ⟨x, ex, hx⟩ := f.wrv h16 (k := i) (n := n) (by omega) (by omega)
    have bit : ∀ j, j < 64 → (qb ((mL M q i ^^^ (-1 : Int64)) &&& x) j = true ↔ 64 * i + j < 2 ^ N ∧ gd (mL M q) N (64 * i + j)) := fun j hj => by
      rw [qb_and, qb_not _ hj, hx j hj, ← fb_w (mL M q) hj]
      unfold gd
      simp only [Bool.and_eq_true, Bool.not_eq_true', decide_eq_true_eq]
      exact ⟨fun ⟨a, b, c⟩ => ⟨b, a, c⟩, fun ⟨a, b, c⟩ => ⟨b, a, c⟩⟩
    rw [f_X1_leastBetter_2, chk_t f.1.1, f.2.2, if_neg (nI_ge (by omega) (by omega)), f.1.2.1, bnd_e, chk_t f.1.2.2.1, f.1.2.2.2, chk_t (inB_n (by omega) (by decide)), ex, obd_s, bnd_e, mL_c (by omega)]
    by_cases z : lg_cmp ((mL M q i ^^^ (-1 : Int64)) &&& x) (0 : Int64) = 0
    · have no : ∀ Y, 64 * i ≤ Y → Y < 64 * (i + 1) → Y < 2 ^ N → ¬ gd (mL M q) N Y := fun Y h1 h2 h3 h4 => by
        have := (lg_z _).mp z (Y - 64 * i) (by omega)
        have b := (bit (Y - 64 * i) (by omega)).mpr (by rw [show 64 * i + (Y - 64 * i) = Y by omega]; exact ⟨h3, h4⟩)
        rw [this] at b; cases b
      obtain ⟨r, e, h⟩ := ih (i + 1) n (by omega) (by omega)
      refine ⟨r, by rw [if_pos z, bnd_e, nI_1]; exact e, ?_⟩
      rcases h with ⟨X, h1, h2, h3, h4, h5⟩ | ⟨h1, h2⟩
      · refine Or.inl ⟨X, by omega, h2, h3, h4, fun Y a b => ?_⟩
        rcases Nat.lt_or_ge Y (64 * (i + 1)) with c | c
        · exact no Y a c (by omega)
        · exact h5 Y c b
      · refine Or.inr ⟨h1, fun Y a b => ?_⟩
        rcases Nat.lt_or_ge Y (64 * (i + 1)) with c | c
        · exact no Y a c b
        · exact h2 Y c b
    · have some1 : ∃ j, j < 64 ∧ qb ((mL M q i ^^^ (-1 : Int64)) &&& x) j = true := by
        apply Decidable.byContradiction
        intro c
        apply z
        rw [lg_z]
        intro j hj
        cases hb : qb ((mL M q i ^^^ (-1 : Int64)) &&& x) j
        · rfl
        · exact absurd ⟨j, hj, hb⟩ c
      obtain ⟨k, hk, e, hb, hl⟩ := f_lowx some1 M
      obtain ⟨b1, b2⟩ := (bit k hk).mp hb
      refine ⟨nI (64 * i + k), by rw [if_neg z, e, obd_s, sh_or (by omega) hk], Or.inl ⟨64 * i + k, by omega, b1, b2, rfl, fun Y a b c => ?_⟩⟩
      have := hl (Y - 64 * i) (by omega)
      have b' := (bit (Y - 64 * i) (by omega)).mpr (by rw [show 64 * i + (Y - 64 * i) = Y by omega]; exact ⟨by omega, c⟩)
      rw [this] at b'; cases b'
end
/-! the least set that stops all -/
theorem pcN_64 {m : Nat} (h : m < 2 ^ 31) : pcN m = pcN (m / 64) + pcw (m % 64) := by
  rw [pcN_half h, pcN_half (show m / 2 < 2 ^ 31 by omega), Nat.div_div_eq_div_mul, pcN_half (show m / (2 * 2) < 2 ^ 31 by omega), Nat.div_div_eq_div_mul, pcN_half (show m / (2 * 2 * 2) < 2 ^ 31 by omega), Nat.div_div_eq_div_mul, pcN_half (show m / (2 * 2 * 2 * 2) < 2 ^ 31 by omega), Nat.div_div_eq_div_mul, pcN_half (show m / (2 * 2 * 2 * 2 * 2) < 2 ^ 31 by omega), Nat.div_div_eq_div_mul]
  have e : m / (2 * 2 * 2 * 2 * 2 * 2) = m / 64 := rfl
  rw [e]
  unfold pcw
  have e1 : m % 64 % 2 = m % 2 := by omega
  have e2 : m % 64 / 2 % 2 = m / 2 % 2 := by omega
  have e3 : m % 64 / 4 % 2 = m / (2 * 2) % 2 := by omega
  have e4 : m % 64 / 8 % 2 = m / (2 * 2 * 2) % 2 := by omega
  have e5 : m % 64 / 16 % 2 = m / (2 * 2 * 2 * 2) % 2 := by omega
  have e6 : m % 64 / 32 % 2 = m / (2 * 2 * 2 * 2 * 2) % 2 := by omega
  rw [e1, e2, e3, e4, e5, e6]
  omega
theorem pcN_10 {i : Nat} (h : i < 1024) : pcN i ≤ 10 := by
  rw [← pc_N]
  exact pc_lj (x := nI i) (j := 10) (by decide) (bt_hk (j := 10) (by omega))
/-- X stops all -/
def sto (W : Nat → Int64) (N X : Nat) : Prop := X < 2 ^ N ∧ fb W (2 ^ N - 1 - X) = false
def Pij (i j X : Nat) : Prop := X / 64 < i ∨ (X / 64 = i ∧ pcw (X % 64) < j)
def LsI (W : Nat → Int64) (N i j : Nat) (v1 v2 : Int32) : Prop := (v1 = -1 ∧ v2 = nI 17 ∧ ∀ X, Pij i j X → ¬ sto W N X) ∨ ∃ m, v1 = nI m ∧ v2 = nI (pcN m) ∧ sto W N m ∧ Pij i j m ∧ ∀ X, Pij i j X → sto W N X → pcN m < pcN X ∨ (pcN m = pcN X ∧ m ≤ X)
theorem LsI.nx {W : Nat → Int64} {N i : Nat} {v1 v2 : Int32} (h : LsI W N i 7 v1 v2) : LsI W N (i + 1) 0 v1 v2 := by
  have p : ∀ X, Pij (i + 1) 0 X ↔ Pij i 7 X := fun X => by
    unfold Pij
    have := pcw_6 (X % 64) (Nat.mod_lt _ (by decide))
    constructor
    · rintro (h | ⟨_, h⟩)
      · by_cases c : X / 64 = i
        · exact Or.inr ⟨c, by omega⟩
        · exact Or.inl (by omega)
      · omega
    · rintro (h | ⟨h, _⟩)
      · exact Or.inl (by omega)
      · exact Or.inl (by omega)
  rcases h with ⟨a, b, c⟩ | ⟨m, a, b, c, d, e⟩
  · exact Or.inl ⟨a, b, fun X hX => c X ((p X).mp hX)⟩
  · exact Or.inr ⟨m, a, b, c, (p m).mpr d, fun X hX => e X ((p X).mp hX)⟩
theorem ls25v {M : Mem} {o N i : Nat} {W : Nat → Int64} {K : Nat → Int32 → Int32 → Int32 → Option Int32} (h16 : N ≤ 16) (hi : i < 1024) {x : Int64} (hx : ∀ j, j < 64 → (qb x j = true ↔ sto W N (64 * i + j))) : ∀ (d j n : Nat) (v1 v2 : Int32), j + d = 7 → LsI W N i j v1 v2 → d + 1 ≤ n → ∃ v1' v2', LsI W N (i + 1) 0 v1' v2' ∧ f_X1_leastStop_25 K M n o v1 v2 (nI i) x (nI j) = K o v1' v2' (nI (i + 1)) := by
  have p2 := p16 h16
  have pl := pcN_10 hi
  have bc : f_J6_bitCount_0f7a4 (nI i) M = some (nI (pcN i)) := by
    rw [f_bcx (bt_hk (j := 16) (by omega)) M, pc_N]
  have pX : ∀ X, X < 2 ^ N → X / 64 = i → pcN X = pcN i + pcw (X % 64) := fun X h e => by rw [pcN_64 (by omega), e]
  intro d
  induction d with
  | zero =>
    intro j n v1 v2 hj h hn
    obtain ⟨n, rfl⟩ : ∃ m, n = m + 1 := ⟨n - 1, by omega⟩
    obtain rfl : j = 7 := by omega
    exact ⟨v1, v2, h.nx, by rw [f_X1_leastStop_25, if_pos (show (6 : Int32) < nI 7 from nI_lt (a := 6) (b := 7) (by omega) (by omega)), bnd_e, nI_1]⟩
  | succ d ih =>
    intro j n v1 v2 hj h hn
    obtain ⟨n, rfl⟩ : ∃ m, n = m + 1 := ⟨n - 1, by omega⟩
    have split : ∀ X, Pij i (j + 1) X → Pij i j X ∨ (X / 64 = i ∧ pcw (X % 64) = j) := fun X hX => by
      rcases hX with c | ⟨c, c'⟩
      · exact Or.inl (Or.inl c)
      · rcases Nat.lt_or_ge (pcw (X % 64)) j with e | e
        · exact Or.inl (Or.inr ⟨c, e⟩)
        · exact Or.inr ⟨c, by omega⟩
    have mono : ∀ X, Pij i j X → Pij i (j + 1) X := fun X hX => by
      rcases hX with c | ⟨c, c'⟩
      · exact Or.inl c
      · exact Or.inr ⟨c, by omega⟩
    rw [f_X1_leastStop_25, if_neg (show ¬ (6 : Int32) < nI j from nI_nl (a := 6) (by omega) (by decide)), bc, obd_s, nI_add, bnd_e]
    by_cases c : v2 ≤ nI (pcN i + j)
    · rw [if_pos c, bnd_e, nI_1]
      refine ih (j + 1) n v1 v2 (by omega) ?_ (by omega)
      rcases h with ⟨a, b, _⟩ | ⟨m, a, b, hm, pm, e⟩
      · rw [b] at c
        exact absurd c (nI_ge (by omega) (by decide))
      · have cm : pcN m ≤ pcN i + j := by
          apply Decidable.byContradiction
          intro z
          rw [b] at c
          have : pcN m ≤ 32 := by rw [← pc_N]; exact pc_le _
          exact absurd c (nI_ge (by omega) (by omega))
        refine Or.inr ⟨m, a, b, hm, mono m pm, fun X hX sX => ?_⟩
        rcases split X hX with hX | ⟨h1, h2⟩
        · exact e X hX sX
        · have px := pX X sX.1 h1
          rcases Nat.lt_or_ge (pcN m) (pcN X) with z | z
          · exact Or.inl z
          · refine Or.inr ⟨by omega, ?_⟩
            rcases pm with q | ⟨q1, q2⟩
            · omega
            · have := pX m hm.1 q1
              omega
    · have j7 : j < 7 := by omega
      have gb : ∀ b, b < 64 → (qb (x &&& l_OS j) b = true ↔ sto W N (64 * i + b) ∧ pcw b = j) := fun b hb => by
        rw [qb_and, Bool.and_eq_true, hx b hb, os_k j j7 b hb, decide_eq_true_eq]
      have big : ∀ m, v2 = nI (pcN m) → pcN i + j < pcN m := fun m e => by
        apply Decidable.byContradiction
        intro z
        have : pcN m ≤ 32 := by rw [← pc_N]; exact pc_le _
        exact c (by rw [e]; exact nI_le (by omega) (by omega))
      rw [if_neg c, chk_t (inB_n j7 (by decide))]
      simp only [nI_clamp (show j < 2 ^ 31 by omega)]
      by_cases z : lg_cmp (x &&& l_OS j) (0 : Int64) = 0
      · rw [if_pos z, bnd_e, nI_1]
        have no : ∀ X, X / 64 = i → pcw (X % 64) = j → ¬ sto W N X := fun X h1 h2 sX => by
          have e := (lg_z _).mp z (X % 64) (Nat.mod_lt _ (by decide))
          have g := (gb (X % 64) (Nat.mod_lt _ (by decide))).mpr ⟨by rw [show 64 * i + X % 64 = X by omega]; exact sX, h2⟩
          rw [e] at g; cases g
        refine ih (j + 1) n v1 v2 (by omega) ?_ (by omega)
        rcases h with ⟨a, b, hn⟩ | ⟨m, a, b, hm, pm, e⟩
        · refine Or.inl ⟨a, b, fun X hX => ?_⟩
          rcases split X hX with hX | ⟨h1, h2⟩
          · exact hn X hX
          · exact no X h1 h2
        · refine Or.inr ⟨m, a, b, hm, mono m pm, fun X hX sX => ?_⟩
          rcases split X hX with hX | ⟨h1, h2⟩
          · exact e X hX sX
          · exact absurd sX (no X h1 h2)
      · have some1 : ∃ b, b < 64 ∧ qb (x &&& l_OS j) b = true := by
          apply Decidable.byContradiction
          intro c
          apply z
          rw [lg_z]
          intro b hb
          cases hq : qb (x &&& l_OS j) b
          · rfl
          · exact absurd ⟨b, hb, hq⟩ c
        obtain ⟨k, hk, e, hb, hl⟩ := f_lowx some1 M
        obtain ⟨s1, s2⟩ := (gb k hk).mp hb
        rw [if_neg z, chk_t (inB_n j7 (by decide)), e, obd_s, sh_or hi hk, bnd_e, bnd_e, nI_1]
        have pk : pcN (64 * i + k) = pcN i + j := by
          rw [pX _ s1.1 (by omega), show (64 * i + k) % 64 = k by omega, s2]
        refine ih (j + 1) n _ _ (by omega) (Or.inr ⟨64 * i + k, rfl, by rw [pk], s1, Or.inr ⟨by omega, by rw [show (64 * i + k) % 64 = k by omega]; omega⟩, fun X hX sX => ?_⟩) (by omega)
        rcases split X hX with hX | ⟨h1, h2⟩
        · rcases h with ⟨a, b, hn⟩ | ⟨m, a, b, hm, pm, em⟩
          · exact absurd sX (hn X hX)
          · have := big m b
            rcases em X hX sX with q | ⟨q, _⟩
            · exact Or.inl (by omega)
            · exact Or.inl (by omega)
        · refine Or.inr ⟨by rw [pk, pX X sX.1 h1, h2], ?_⟩
          apply Decidable.byContradiction
          intro lt
          have := hl (X % 64) (by omega)
          have g := (gb (X % 64) (Nat.mod_lt _ (by decide))).mpr ⟨by rw [show 64 * i + X % 64 = X by omega]; exact sX, h2⟩
          rw [this] at g; cases g
theorem F1.lsv {M : Mem} {o q N : Nat} (f : F1 M o q N) (h16 : N ≤ 16) : ∀ (d i n : Nat) (v1 v2 : Int32), i + d = us6 N → LsI (mL M q) N i 0 v1 v2 → d + 20 ≤ n → ∃ r v2', f_X1_leastStop_7 M n o v1 v2 (nI i) = some r ∧ LsI (mL M q) N (us6 N) 0 r v2' := by
  have u := us_b h16
  intro d
  induction d with
  | zero =>
    intro i n v1 v2 hi h hn
    obtain ⟨n, rfl⟩ : ∃ m, n = m + 1 := ⟨n - 1, by omega⟩
    obtain rfl : i = us6 N := by omega
    exact ⟨v1, v2, by rw [f_X1_leastStop_7, chk_t f.1.1, f.2.2, if_pos (nI_le (by omega) (by omega))], h⟩
  | succ d ih =>
    intro i n v1 v2 hi h hn
    obtain ⟨n, rfl⟩ : ∃ m, n = m + 1 := ⟨n - 1, by omega⟩
    obtain ⟨x, ex, hx⟩ := f.wrv h16 (k := i) (n := n) (by omega) (by omega)
    obtain ⟨w1, w2, hw, ew⟩ := ls25v (M := M) (o := o) (K := f_X1_leastStop_7 M n) (W := mL M q) h16 (show i < 1024 by omega) (x := x) (fun j hj => by
      rw [hx j hj]
      unfold sto
      simp only [Bool.and_eq_true, Bool.not_eq_true', decide_eq_true_eq]) 7 0 n v1 v2 rfl h (by omega)
    obtain ⟨r, v2', e, hr⟩ := ih (i + 1) n w1 w2 (by omega) hw (by omega)
    refine ⟨r, v2', ?_, hr⟩
    rw [f_X1_leastStop_7, chk_t f.1.1, f.2.2, if_neg (nI_ge (by omega) (by omega)), ex, obd_s]
    exact ew.trans e
/-- m is the least set of those that stop all -/
def isMin (W : Nat → Int64) (N m : Nat) : Prop := sto W N m ∧ ∀ X, sto W N X → pcN m < pcN X ∨ (pcN m = pcN X ∧ m ≤ X)
theorem F1.lsm {M : Mem} {o q N : Nat} (f : F1 M o q N) (h16 : N ≤ 16) (ex : ∃ X, sto (mL M q) N X) {n : Nat} (hn : 1100 ≤ n) : ∃ m, f_X1_leastStop n o M = some (nI m) ∧ isMin (mL M q) N m := by
  have u := us_b h16
  have u2 := us_N2 h16
  obtain ⟨r, v2', e, h⟩ := f.lsv h16 (us6 N) 0 n (-1) (nI 17) (by omega) (Or.inl ⟨rfl, rfl, fun X hX => by
    rcases hX with c | ⟨_, c⟩ <;> omega⟩) (by omega)
  have all : ∀ X, sto (mL M q) N X → Pij (us6 N) 0 X := fun X hX => Or.inl (by have := hX.1; omega)
  rcases h with ⟨_, _, c⟩ | ⟨m, a, _, hm, _, hX⟩
  · obtain ⟨X, sX⟩ := ex
    exact absurd sX (c X (all X sX))
  · exact ⟨m, by rw [f_X1_leastStop]; rw [a] at e; exact e, hm, fun X sX => hX X (all X sX) sX⟩
