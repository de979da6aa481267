/-! ===== the survey, the reference: what it answers ===== -/
theorem nI_comp {N b : Nat} (h16 : N ≤ 16) (hb : b < 2 ^ N) {i : Nat} (hi : i < 32) : bt (nI (2 ^ N - 1 - b)) i = (decide (i < N) && !bt (nI b) i) := by
  rw [bt_nI _ hi, bt_nI _ hi, show 2 ^ N - 1 - b = 2 ^ N - (b + 1) by omega, Nat.testBit_two_pow_sub_succ hb]
theorem pc_comp : ∀ N, N ≤ 16 → ∀ b, b < 2 ^ N → pcN b + pcN (2 ^ N - 1 - b) = N := by
  intro N
  induction N with
  | zero =>
    intro _ b hb
    have : b = 0 := by omega
    rw [this]
    decide
  | succ N ih =>
    intro h b hb
    have p := p16 (N := N) (by omega)
    rw [Nat.pow_succ] at hb ⊢
    rw [pcN_half (show b < 2 ^ 31 by omega), pcN_half (show 2 ^ N * 2 - 1 - b < 2 ^ 31 by omega), show (2 ^ N * 2 - 1 - b) / 2 = 2 ^ N - 1 - b / 2 by omega]
    have := ih (by omega) (b / 2) (by omega)
    omega
theorem smL_rev (f : Nat → Int64) : ∀ n, smL f n = smL (fun t => f (n - 1 - t)) n := by
  intro n
  induction n with
  | zero => rfl
  | succ n ih =>
    rw [Nat.add_comm n 1, smL_ap (fun t => f (1 + n - 1 - t)) 1 n]
    have e1 : smL (fun t => f (1 + n - 1 - t)) 1 = f n := by
      show (0 : Int64) + f (1 + n - 1 - 0) = f n
      rw [Int64.zero_add, show 1 + n - 1 - 0 = n by omega]
    have e2 : smL (fun i => f (1 + n - 1 - (1 + i))) n = smL f n := by
      rw [ih]
      exact smL_c n (fun i hi => by rw [show 1 + n - 1 - (1 + i) = n - 1 - i by omega])
    rw [e1]
    refine Eq.trans ?_ (congrArg (fun z => f n + z) e2.symm)
    rw [Nat.add_comm 1 n]
    show smL f n + f n = f n + smL f n
    exact Int64.add_comm _ _
theorem lvB_iff {N : Nat} {S : St} {X : Nat} : lvB N S X = true ↔ ∃ v, v < N ∧ xR S 17 v &&& (nI X ^^^ (-1 : Int32)) = 0 := by
  unfold lvB
  rw [List.any_eq_true]
  constructor
  · rintro ⟨v, h1, h2⟩
    have := List.mem_range'_1.mp h1
    exact ⟨v, by omega, of_decide_eq_true h2⟩
  · rintro ⟨v, h1, h2⟩
    exact ⟨v, List.mem_range'_1.mpr ⟨Nat.zero_le _, by omega⟩, decide_eq_true h2⟩
/-- by the broken ones b there is no quorum -/
def stb (N : Nat) (S : St) (b : Nat) : Prop := cor N S (nI b) = 0
def od (N u k : Nat) : Int64 := pwv (nI u).toInt64 (pcN k) 1 * pwv ((10 : Int64) - (nI u).toInt64) (N - pcN k) 1
def mll (N : Nat) (a : Int64) : Int32 := if N < 6 then (a * pwv 10 (6 - N) 1).toInt32 else (a / pwv 10 (N - 6) 1).toInt32
section
variable {M : Mem} {N : Nat} {tw : Bool} {t : Int32} {S : St} {pb pt : List Row4}
theorem mny_v {k n : Nat} (hk : k < 65536) (hn : 40 ≤ n) (M : Mem) : f_X10_many n (nI k) M = some (nI (pcN k)) := by
  rw [mny_k hk hn, pc_N]
theorem pcN_le {k : Nat} (h16 : N ≤ 16) (hk : k < 2 ^ N) : pcN k ≤ N := by
  have := pc_comp N h16 k hk
  omega
theorem RV.oddsv (r : RV M tw t S pb pt) (hN : xR S 20 0 = nI N) (h16 : N ≤ 16) {k n : Nat} (hk : k < 2 ^ N) (u : Nat) (hn : 100 ≤ n) : f_X10_oddsOf n 120 (nI k) (nI u) M = some (od N u k) := by
  have p := p16 h16
  have pl := pcN_le h16 hk
  have e1 := pw_v M (nI u).toInt64 (pcN k) (by omega) (pcN k) 0 n 1 (by omega) (by omega)
  have e2 := pw_v M ((10 : Int64) - (nI u).toInt64) (N - pcN k) (by omega) (N - pcN k) 0 n 1 (by omega) (by omega)
  rw [f_X10_oddsOf, mny_v (by omega) (by omega), obd_s, f_X10_power, show f_X10_power_5 M n (nI u).toInt64 (nI (pcN k)) 1 0 = some (pwv (nI u).toInt64 (pcN k) 1) from e1, obd_s, rs_f r.1, rs_0 r.1, bnd_e, rs_fa r.1, rs_c0 r.1, obd_s, cl0, r.N hN, nI_sb pl, f_X10_power, show f_X10_power_5 M n ((10 : Int64) - (nI u).toInt64) (nI (N - pcN k)) 1 0 = some (pwv ((10 : Int64) - (nI u).toInt64) (N - pcN k) 1) from e2, obd_s]
  rfl
theorem RV.millv (r : RV M tw t S pb pt) (hN : xR S 20 0 = nI N) (h16 : N ≤ 16) (a : Int64) {n : Nat} (hn : 100 ≤ n) : f_X10_millionths n 120 a M = some (mll N a) := by
  have h0 : mI M 121 ((0 : Int32).toNatClampNeg) = nI N := by rw [cl0]; exact r.N hN
  unfold mll
  by_cases c : N < 6
  · have e1 := pw_v M 10 (6 - N) (by omega) (6 - N) 0 n 1 (by omega) (by omega)
    rw [f_X10_millionths, rs_f r.1, rs_0 r.1, bnd_e, rs_fa r.1, rs_c0 r.1, h0, if_pos (show nI N < (6 : Int32) from nI_lt (b := 6) c (by decide)), bnd_e, rs_fa r.1, rs_c0 r.1, h0, f_X10_power, show (6 : Int32) - nI N = nI (6 - N) by rw [show (6 : Int32) = nI 6 from rfl, nI_sb (by omega)], show f_X10_power_5 M n 10 (nI (6 - N)) 1 0 = some (pwv 10 (6 - N) 1) from e1, obd_s, if_pos c]
  · have e1 := pw_v M 10 (N - 6) (by omega) (N - 6) 0 n 1 (by omega) (by omega)
    rw [f_X10_millionths, rs_f r.1, rs_0 r.1, bnd_e, rs_fa r.1, rs_c0 r.1, h0, if_neg (show ¬ nI N < (6 : Int32) from nI_nl (a := N) (b := 6) (by omega) (by omega)), bnd_e, rs_fa r.1, rs_c0 r.1, h0, f_X10_power, show nI N - (6 : Int32) = nI (N - 6) by rw [show (6 : Int32) = nI 6 from rfl, nI_sb (by omega)], show f_X10_power_5 M n 10 (nI (N - 6)) 1 0 = some (pwv 10 (N - 6) 1) from e1, obd_s, chk_t (pw10 (N - 6) (by omega)), if_neg c]
theorem rlv_v (r : RV M tw t S pb pt) (hN : xR S 20 0 = nI N) (h16 : N ≤ 16) (b : Int32) : ∀ (d i n : Nat), i + d = N → d + 1 ≤ n → f_X10_isLive_2 M n 120 b (nI i) = some (if (List.range' i d).any (fun v => decide (xR S 17 v &&& (b ^^^ (-1 : Int32)) = 0)) = true then 1 else 0) := by
  intro d
  induction d with
  | zero =>
    intro i n hi hn
    obtain ⟨n, rfl⟩ : ∃ m, n = m + 1 := ⟨n - 1, by omega⟩
    rw [f_X10_isLive_2, rs_f r.1, rs_0 r.1, bnd_e, rs_fa r.1, rs_c0 r.1, cl0, r.N hN, if_pos (nI_le (by omega) (by omega))]
    rfl
  | succ d ih =>
    intro i n hi hn
    obtain ⟨n, rfl⟩ : ∃ m, n = m + 1 := ⟨n - 1, by omega⟩
    rw [f_X10_isLive_2, rs_f r.1, rs_0 r.1, bnd_e, rs_fa r.1, rs_c0 r.1, cl0, r.N hN, if_neg (nI_ge (by omega) (by omega)), r.base (by omega), obd_s, List.range'_succ, List.any_cons]
    by_cases c : xR S 17 i &&& (b ^^^ (-1 : Int32)) = 0
    · rw [if_pos c, decide_eq_true c, Bool.true_or, if_pos rfl]
    · rw [if_neg c, decide_eq_false c, Bool.false_or, bnd_e, nI_1, ih (i + 1) n (by omega) (by omega)]
theorem RV.lvv (r : RV M tw t S pb pt) (hN : xR S 20 0 = nI N) (h16 : N ≤ 16) (X : Nat) {n : Nat} (hn : 100 ≤ n) : f_X10_isLive n 120 (nI X) M = some (if lvB N S X = true then 1 else 0) :=
  rlv_v r hN h16 (nI X) N 0 n (by omega) (by omega)
theorem nI_orb {i v : Nat} (hv : v < 16) : nI i ||| ((1 : Int32) <<< (nI v &&& 31)) = nI (i ||| 2 ^ v) := by
  apply b_ext
  intro j hj
  rw [bt_or1 _ (by omega) hj, bt_nI _ hj, bt_nI _ hj, Nat.testBit_or, Nat.testBit_two_pow]
  congr 1
  by_cases c : j = v
  · rw [decide_eq_true c, decide_eq_true c.symm]
  · rw [decide_eq_false c, decide_eq_false (fun z => c z.symm)]
/-- a set without v that is not live but with v -/
def pvt (N : Nat) (S : St) (v X : Nat) : Bool := !X.testBit v && (!lvB N S X && lvB N S (X ||| 2 ^ v))
theorem rpv_v (r : RV M tw t S pb pt) (hN : xR S 20 0 = nI N) (h16 : N ≤ 16) {v : Nat} (hv : v < 16) : ∀ (d i n c : Nat), i + d = 2 ^ N → d + 101 ≤ n → f_X10_pivotal_14 M n 120 (nI v) (nI c) (nI i) = some (nI (c + smN (fun t => if pvt N S v (i + t) = true then 1 else 0) d)) := by
  have p := p16 h16
  intro d
  induction d with
  | zero =>
    intro i n c hi hn
    obtain ⟨n, rfl⟩ : ∃ m, n = m + 1 := ⟨n - 1, by omega⟩
    rw [f_X10_pivotal_14, rs_f r.1, r.al hN h16, obd_s, if_pos (nI_lt (by omega) (by omega))]
    rfl
  | succ d ih =>
    intro i n c hi hn
    obtain ⟨n, rfl⟩ : ∃ m, n = m + 1 := ⟨n - 1, by omega⟩
    have sh : smN (fun t => if pvt N S v (i + t) = true then 1 else 0) (d + 1) = (if pvt N S v i = true then 1 else 0) + smN (fun t => if pvt N S v (i + 1 + t) = true then 1 else 0) d := by
      rw [Nat.add_comm d 1, smN_ap]
      congr 1
      · show 0 + _ = _
        rw [Nat.zero_add]; rfl
      · exact smN_c d (fun t _ => by rw [Nat.add_assoc])
    have nx : ∀ x : Nat, x = (if pvt N S v i = true then 1 else 0) → f_X10_pivotal_14 M n 120 (nI v) (nI (c + x)) (nI (i + 1)) = some (nI (c + smN (fun t => if pvt N S v (i + t) = true then 1 else 0) (d + 1))) := fun x hx => by
      rw [ih (i + 1) n (c + x) (by omega) (by omega), sh, hx, Nat.add_assoc]
    have z0 : nI c + (0 : Int32) = nI (c + 0) := by rw [Int32.add_zero]; rfl
    rw [f_X10_pivotal_14, rs_f r.1, r.al hN h16, obd_s, if_neg (nI_nl (by omega) (by omega)), f_has10 _ (show v < 32 by omega), obd_s, bt_nI _ (show v < 32 by omega), nI_orb hv, r.lvv hN h16 i (n := n) (by omega), obd_s, r.lvv hN h16 (i ||| 2 ^ v) (n := n) (by omega), obd_s]
    simp only [bnd_e]
    rw [nI_1, nI_1, z0]
    by_cases b1 : i.testBit v = true
    · rw [if_pos b1, if_neg ne10]
      exact nx 0 (by unfold pvt; rw [b1]; rfl)
    · have f1 : i.testBit v = false := by cases z : i.testBit v <;> first | rfl | exact absurd z b1
      rw [if_neg b1, if_pos rfl]
      by_cases b2 : lvB N S i = true
      · rw [if_pos b2, if_neg ne10]
        exact nx 0 (by unfold pvt; rw [b2, f1]; rfl)
      · have f2 : lvB N S i = false := by cases z : lvB N S i <;> first | rfl | exact absurd z b2
        rw [if_neg b2, if_pos rfl]
        by_cases b3 : lvB N S (i ||| 2 ^ v) = true
        · rw [if_pos b3, if_neg ne10]
          exact nx 1 (by unfold pvt; rw [f1, f2, b3]; rfl)
        · have f3 : lvB N S (i ||| 2 ^ v) = false := by cases z : lvB N S (i ||| 2 ^ v) <;> first | rfl | exact absurd z b3
          rw [if_neg b3, if_pos rfl]
          exact nx 0 (by unfold pvt; rw [f1, f2, f3]; rfl)
/-- meets all bases and holds none -/
def btr (N : Nat) (S : St) (X : Nat) : Prop := ∀ v, v < N → ¬ xR S 17 v &&& nI X = 0 ∧ ¬ xR S 17 v &&& (nI X ^^^ (-1 : Int32)) = 0
theorem rib_v (r : RV M tw t S pb pt) (hN : xR S 20 0 = nI N) (h16 : N ≤ 16) (X : Nat) : ∀ (d i n : Nat), i + d = N → d + 1 ≤ n → (f_X10_isBetter_2 M n 120 (nI X) (nI i) = some 1 ∧ ∀ v, i ≤ v → v < N → ¬ xR S 17 v &&& nI X = 0 ∧ ¬ xR S 17 v &&& (nI X ^^^ (-1 : Int32)) = 0) ∨ (f_X10_isBetter_2 M n 120 (nI X) (nI i) = some 0 ∧ ¬ btr N S X) := by
  intro d
  induction d with
  | zero =>
    intro i n hi hn
    obtain ⟨n, rfl⟩ : ∃ m, n = m + 1 := ⟨n - 1, by omega⟩
    exact Or.inl ⟨by rw [f_X10_isBetter_2, rs_f r.1, rs_0 r.1, bnd_e, rs_fa r.1, rs_c0 r.1, cl0, r.N hN, if_pos (nI_le (by omega) (by omega))], fun v h1 h2 => by omega⟩
  | succ d ih =>
    intro i n hi hn
    obtain ⟨n, rfl⟩ : ∃ m, n = m + 1 := ⟨n - 1, by omega⟩
    have st : ∀ y, (if xR S 17 i &&& nI X = 0 then some (0 : Int32) else if xR S 17 i &&& (nI X ^^^ (-1 : Int32)) = 0 then some 0 else f_X10_isBetter_2 M n 120 (nI X) (nI (i + 1))) = y → f_X10_isBetter_2 M (n + 1) 120 (nI X) (nI i) = y := fun y hy => by
      rw [f_X10_isBetter_2, rs_f r.1, rs_0 r.1, bnd_e, rs_fa r.1, rs_c0 r.1, cl0, r.N hN, if_neg (nI_ge (by omega) (by omega)), r.base (by omega), obd_s, obd_s, bnd_e, nI_1]
      exact hy
    by_cases c1 : xR S 17 i &&& nI X = 0
    · exact Or.inr ⟨st _ (if_pos c1), fun h => (h i (by omega)).1 c1⟩
    · by_cases c2 : xR S 17 i &&& (nI X ^^^ (-1 : Int32)) = 0
      · exact Or.inr ⟨st _ (by rw [if_neg c1, if_pos c2]), fun h => (h i (by omega)).2 c2⟩
      · rcases ih (i + 1) n (by omega) (by omega) with ⟨e, h⟩ | ⟨e, h⟩
        · refine Or.inl ⟨st _ (by rw [if_neg c1, if_neg c2]; exact e), fun v h1 h2 => ?_⟩
          by_cases z : v = i
          · rw [z]; exact ⟨c1, c2⟩
          · exact h v (by omega) h2
        · exact Or.inr ⟨st _ (by rw [if_neg c1, if_neg c2]; exact e), h⟩
theorem rbt_v (r : RV M tw t S pb pt) (hN : xR S 20 0 = nI N) (h16 : N ≤ 16) : ∀ (d i n : Nat), i + d = 2 ^ N → d + 101 ≤ n → (∃ X, i ≤ X ∧ X < 2 ^ N ∧ btr N S X ∧ (∀ Y, i ≤ Y → Y < X → ¬ btr N S Y) ∧ f_X10_better_2 M n 120 (nI i) = some (nI X)) ∨ ((∀ Y, i ≤ Y → Y < 2 ^ N → ¬ btr N S Y) ∧ f_X10_better_2 M n 120 (nI i) = some (-1)) := by
  have p := p16 h16
  intro d
  induction d with
  | zero =>
    intro i n hi hn
    obtain ⟨n, rfl⟩ : ∃ m, n = m + 1 := ⟨n - 1, by omega⟩
    exact Or.inr ⟨fun Y h1 h2 => by omega, by rw [f_X10_better_2, rs_f r.1, r.al hN h16, obd_s, if_pos (nI_lt (by omega) (by omega))]⟩
  | succ d ih =>
    intro i n hi hn
    obtain ⟨n, rfl⟩ : ∃ m, n = m + 1 := ⟨n - 1, by omega⟩
    have st : ∀ q y, f_X10_isBetter n 120 (nI i) M = some q → (if q = 0 then f_X10_better_2 M n 120 (nI (i + 1)) else some (nI i)) = y → f_X10_better_2 M (n + 1) 120 (nI i) = y := fun q y e hy => by
      rw [f_X10_better_2, rs_f r.1, r.al hN h16, obd_s, if_neg (nI_nl (by omega) (by omega)), e, obd_s, bnd_e, nI_1]
      exact hy
    rcases rib_v r hN h16 i N 0 n (by omega) (by omega) with ⟨e, h⟩ | ⟨e, h⟩
    · exact Or.inl ⟨i, Nat.le_refl _, by omega, fun v hv => h v (Nat.zero_le _) hv, fun Y a b => by omega, st 1 _ e (if_neg ne10)⟩
    · rcases ih (i + 1) n (by omega) (by omega) with ⟨X, h1, h2, h3, h4, h5⟩ | ⟨h1, h2⟩
      · refine Or.inl ⟨X, by omega, h2, h3, fun Y a b => ?_, st 0 _ e (by rw [if_pos rfl]; exact h5)⟩
        by_cases z : Y = i
        · rw [z]; exact h
        · exact h4 Y (by omega) b
      · refine Or.inr ⟨fun Y a b => ?_, st 0 _ e (by rw [if_pos rfl]; exact h2)⟩
        by_cases z : Y = i
        · rw [z]; exact h
        · exact h1 Y (by omega) b
end
section
variable {N : Nat} {tw : Bool} {t : Int32} {S : St} {pb pt : List Row4}
theorem RV.sbv (cq : ∀ b, cor N S b = 0 ↔ ∀ v, v < N → qby N S v b = 0) (hN : xR S 20 0 = nI N) (h16 : N ≤ 16) (ht : xR S 20 1 = 1 → N % 2 = 1) (b : Int32) {M : Mem} (r : RV M tw t S pb pt) {n : Nat} (hn : 100 ≤ n) : ∃ M', f_X10_stopsBy n 120 b M = some (if cor N S b = 0 then 1 else 0, M') ∧ RV M' tw t S pb pt ∧ Fr P2 M M' := by
  obtain ⟨y, M', e, hy, r', f'⟩ := rst_v (M := M) hN h16 ht b N 0 n M r (by omega) (by omega)
  refine ⟨M', ?_, r', f'⟩
  have hy2 : y = if cor N S b = 0 then 1 else 0 := by
    rcases hy with ⟨e, h⟩ | ⟨e, v, hv, h⟩
    · rw [if_pos ((cq b).mpr (fun v hv => h v (Nat.zero_le _) hv))]; exact e
    · rw [if_neg (fun z => h ((cq b).mp z v hv))]; exact e
  rw [f_X10_stopsBy, show f_X10_stopsBy_2 n 120 b 0 M = some (y, M') from e, hy2]
def isMinT (N : Nat) (S : St) (m : Nat) : Prop := (m < 2 ^ N ∧ stb N S m) ∧ ∀ X, X < 2 ^ N → stb N S X → pcN m < pcN X ∨ (pcN m = pcN X ∧ m ≤ X)
theorem rwk_v (cq : ∀ b, cor N S b = 0 ↔ ∀ v, v < N → qby N S v b = 0) (hN : xR S 20 0 = nI N) (h16 : N ≤ 16) (ht : xR S 20 1 = 1 → N % 2 = 1) (v1 : Int32) : ∀ (k m n : Nat) (M : Mem), RV M tw t S pb pt → k < 2 ^ N + 1 → m < 2 ^ N → stb N S m → (∀ X, k ≤ X → X < 2 ^ N → stb N S X → pcN m < pcN X ∨ (pcN m = pcN X ∧ m ≤ X)) → k ≤ m + 1 → k + 201 ≤ n → ∃ m' M', isMinT N S m' ∧ f_X10_weakest_21 n 120 v1 (nI m) (nI k - 1) M = some (if v1 = 0 then nI (pcN m') else nI m', M') ∧ RV M' tw t S pb pt ∧ Fr P2 M M' := by
  have p := p16 h16
  intro k
  induction k with
  | zero =>
    intro m n M r hk hm sm h hkm hn
    obtain ⟨n, rfl⟩ : ∃ j, n = j + 1 := ⟨n - 1, by omega⟩
    refine ⟨m, M, ⟨⟨hm, sm⟩, fun X hX sX => h X (Nat.zero_le _) hX sX⟩, ?_, r, Fr.rf _ _⟩
    rw [show nI 0 - (1 : Int32) = -1 by decide, f_X10_weakest_21, if_pos (show (-1 : Int32) < 0 by decide)]
    by_cases z : v1 = 0
    · rw [if_pos z, if_pos z, mny_v (by omega) (by omega), obd_s]
    · rw [if_neg z, if_neg z]
  | succ k ih =>
    intro m n M r hk hm sm h hkm hn
    obtain ⟨n, rfl⟩ : ∃ j, n = j + 1 := ⟨n - 1, by omega⟩
    obtain ⟨M1, e1, r1, f1⟩ := RV.sbv cq hN h16 ht (nI k) r (n := n) (by omega)
    have d1 : nI k + (-1 : Int32) = nI k - 1 := (Int32.sub_eq_add_neg _ _).symm
    have pk : pcN k ≤ 32 := by rw [← pc_N]; exact pc_le _
    have pm : pcN m ≤ 32 := by rw [← pc_N]; exact pc_le _
    rw [nI_pred, f_X10_weakest_21, if_neg (show ¬ nI k < (0 : Int32) from nI_nl (a := k) (b := 0) (by omega) (by omega)), mny_v (show k < 65536 by omega) (by omega), obd_s, mny_v (show m < 65536 by omega) (by omega), obd_s]
    by_cases c : nI (pcN m) < nI (pcN k)
    · have lt : pcN m < pcN k := by
        apply Decidable.byContradiction
        intro z
        exact absurd c (nI_nl (by omega) (by omega))
      obtain ⟨m', M', h1, h2, h3, h4⟩ := ih m n M r (by omega) hm sm (fun X a b sX => by
        by_cases z : X = k
        · rw [z]; exact Or.inl lt
        · exact h X (by omega) b sX) (by omega) (by omega)
      exact ⟨m', M', h1, by rw [if_pos c, bnd_e, d1]; exact h2, h3, h4⟩
    · have le : pcN k ≤ pcN m := by
        apply Decidable.byContradiction
        intro z
        exact c (nI_lt (by omega) (by omega))
      rw [if_neg c, rs_f r.1, e1, obd2_s]
      by_cases z : cor N S (nI k) = 0
      · obtain ⟨m', M', h1, h2, h3, h4⟩ := ih k n M1 r1 (by omega) (by omega) z (fun X a b sX => by
          by_cases e : X = k
          · rw [e]; exact Or.inr ⟨rfl, Nat.le_refl _⟩
          · rcases h X (by omega) b sX with q | ⟨q, _⟩
            · exact Or.inl (by omega)
            · by_cases w : pcN k = pcN X
              · exact Or.inr ⟨w, by omega⟩
              · exact Or.inl (by omega)) (by omega) (by omega)
        exact ⟨m', M', h1, by rw [if_pos z, if_neg ne10, bnd_e, d1]; exact h2, h3, f1.tr h4⟩
      · obtain ⟨m', M', h1, h2, h3, h4⟩ := ih m n M1 r1 (by omega) hm sm (fun X a b sX => by
          by_cases e : X = k
          · rw [e] at sX; exact absurd sX z
          · exact h X (by omega) b sX) (by omega) (by omega)
        exact ⟨m', M', h1, by rw [if_neg z, if_pos rfl, bnd_e, d1]; exact h2, h3, f1.tr h4⟩
theorem rch_v (cq : ∀ b, cor N S b = 0 ↔ ∀ v, v < N → qby N S v b = 0) (hN : xR S 20 0 = nI N) (h16 : N ≤ 16) (ht : xR S 20 1 = 1 → N % 2 = 1) (u : Nat) : ∀ (d i n : Nat) (c : Int64) (M : Mem), RV M tw t S pb pt → i + d = 2 ^ N → d + 201 ≤ n → ∃ M', f_X10_chance_17 n 120 (nI u) c (nI i) M = some (mll N (c + smL (fun t => if cor N S (nI (i + t)) = 0 then 0 else od N u (i + t)) d), M') ∧ RV M' tw t S pb pt ∧ Fr P2 M M' := by
  have p := p16 h16
  intro d
  induction d with
  | zero =>
    intro i n c M r hi hn
    obtain ⟨n, rfl⟩ : ∃ j, n = j + 1 := ⟨n - 1, by omega⟩
    refine ⟨M, ?_, r, Fr.rf _ _⟩
    rw [f_X10_chance_17, rs_f r.1, r.al hN h16, obd_s, if_pos (nI_lt (by omega) (by omega)), r.millv hN h16 c (n := n) (by omega), obd_s]
    show _ = some (mll N (c + 0), M)
    rw [Int64.add_zero]
  | succ d ih =>
    intro i n c M r hi hn
    obtain ⟨n, rfl⟩ : ∃ j, n = j + 1 := ⟨n - 1, by omega⟩
    obtain ⟨M1, e1, r1, f1⟩ := RV.sbv cq hN h16 ht (nI i) r (n := n) (by omega)
    have sh : ∀ x : Int64, x = (if cor N S (nI i) = 0 then 0 else od N u i) → c + x + smL (fun t => if cor N S (nI (i + 1 + t)) = 0 then 0 else od N u (i + 1 + t)) d = c + smL (fun t => if cor N S (nI (i + t)) = 0 then 0 else od N u (i + t)) (d + 1) := fun x hx => by
      rw [Nat.add_comm d 1, smL_ap, Int64.add_assoc]
      congr 2
      · show x = (0 : Int64) + (if cor N S (nI (i + 0)) = 0 then 0 else od N u (i + 0))
        rw [Int64.zero_add, hx]; rfl
      · exact smL_c d (fun t _ => by rw [Nat.add_assoc])
    rw [f_X10_chance_17, rs_f r.1, r.al hN h16, obd_s, if_neg (nI_nl (by omega) (by omega)), e1, obd2_s]
    by_cases z : cor N S (nI i) = 0
    · obtain ⟨M', e', r', f'⟩ := ih (i + 1) n c M1 r1 (by omega) (by omega)
      refine ⟨M', ?_, r', f1.tr f'⟩
      rw [if_pos z, if_neg ne10, bnd_e, nI_1, e', ← sh 0 (by rw [if_pos z]), Int64.add_zero]
    · obtain ⟨M', e', r', f'⟩ := ih (i + 1) n (c + od N u i) M1 r1 (by omega) (by omega)
      refine ⟨M', ?_, r', f1.tr f'⟩
      rw [if_neg z, if_pos rfl, rs_f r1.1, r1.oddsv hN h16 (show i < 2 ^ N by omega) u (by omega), obd_s, bnd_e, bnd_e, nI_1, e', ← sh (od N u i) (by rw [if_neg z])]
theorem rco_v (hN : xR S 20 0 = nI N) (h16 : N ≤ 16) (ht : xR S 20 1 = 1 → N % 2 = 1) {v : Nat} (hv : v < 16) (qc : ∀ b, qby N S v b = 0 ↔ cor N S b = 0) (u : Nat) : ∀ (d i n : Nat) (c : Int64) (M : Mem), RV M tw t S pb pt → i + d = 2 ^ N → d + 201 ≤ n → ∃ M', f_X10_chanceOf_25 n 120 (nI v) (nI u) c (nI i) M = some (mll N (c + smL (fun t => if (i + t).testBit v = true then 0 else if cor N S (nI (i + t)) = 0 then 0 else od N u (i + t)) d), M') ∧ RV M' tw t S pb pt ∧ Fr P2 M M' := by
  have p := p16 h16
  intro d
  induction d with
  | zero =>
    intro i n c M r hi hn
    obtain ⟨n, rfl⟩ : ∃ j, n = j + 1 := ⟨n - 1, by omega⟩
    refine ⟨M, ?_, r, Fr.rf _ _⟩
    rw [f_X10_chanceOf_25, rs_f r.1, r.al hN h16, obd_s, if_pos (nI_lt (by omega) (by omega)), r.millv hN h16 c (n := n) (by omega), obd_s]
    show _ = some (mll N (c + 0), M)
    rw [Int64.add_zero]
  | succ d ih =>
    intro i n c M r hi hn
    obtain ⟨n, rfl⟩ : ∃ j, n = j + 1 := ⟨n - 1, by omega⟩
    obtain ⟨M1, e1, r1, f1⟩ := r.tqby (n := n) hN h16 ht hv (nI i) (by omega)
    have sh : ∀ x : Int64, x = (if i.testBit v = true then 0 else if cor N S (nI i) = 0 then 0 else od N u i) → c + x + smL (fun t => if (i + 1 + t).testBit v = true then 0 else if cor N S (nI (i + 1 + t)) = 0 then 0 else od N u (i + 1 + t)) d = c + smL (fun t => if (i + t).testBit v = true then 0 else if cor N S (nI (i + t)) = 0 then 0 else od N u (i + t)) (d + 1) := fun x hx => by
      rw [Nat.add_comm d 1, smL_ap, Int64.add_assoc]
      congr 2
      · show x = (0 : Int64) + (if (i + 0).testBit v = true then 0 else if cor N S (nI (i + 0)) = 0 then 0 else od N u (i + 0))
        rw [Int64.zero_add, hx]; rfl
      · exact smL_c d (fun t _ => by rw [Nat.add_assoc])
    rw [f_X10_chanceOf_25, rs_f r.1, r.al hN h16, obd_s, if_neg (nI_nl (by omega) (by omega)), f_has10 _ (show v < 32 by omega), obd_s, bt_nI _ (show v < 32 by omega)]
    by_cases b : i.testBit v = true
    · obtain ⟨M', e', r', f'⟩ := ih (i + 1) n c M r (by omega) (by omega)
      refine ⟨M', ?_, r', f'⟩
      rw [if_pos b, if_neg ne10, bnd_e, nI_1, e', ← sh 0 (by rw [if_pos b]), Int64.add_zero]
    · rw [if_neg b, if_pos rfl, e1, obd2_s]
      by_cases z : cor N S (nI i) = 0
      · obtain ⟨M', e', r', f'⟩ := ih (i + 1) n c M1 r1 (by omega) (by omega)
        refine ⟨M', ?_, r', f1.tr f'⟩
        rw [if_pos ((qc _).mpr z), bnd_e, nI_1, e', ← sh 0 (by rw [if_neg b, if_pos z]), Int64.add_zero]
      · obtain ⟨M', e', r', f'⟩ := ih (i + 1) n (c + od N u i) M1 r1 (by omega) (by omega)
        refine ⟨M', ?_, r', f1.tr f'⟩
        rw [if_neg (fun y => z ((qc _).mp y)), rs_f r1.1, r1.oddsv hN h16 (show i < 2 ^ N by omega) u (by omega), obd_s, bnd_e, bnd_e, nI_1, e', ← sh (od N u i) (by rw [if_neg b, if_neg z])]
end
