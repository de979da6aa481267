/-! ===== which do not meet; a base by hand ===== -/
def suB (f : Nat → Nat) (b : Nat) : Nat → Nat
  | 0 => 0
  | d + 1 => f b + suB f (b + 1) d
theorem suB_smN (f : Nat → Nat) (N : Nat) : ∀ d b, b + d = N → suB f b d = smN (fun x => if b ≤ x then f x else 0) N := by
  intro d
  induction d with
  | zero =>
    intro b hb
    have : smN (fun x => if b ≤ x then f x else 0) N = smN (fun _ => 0) N := smN_c N (fun x hx => if_neg (by omega))
    rw [this, smN_k, Nat.zero_mul]; rfl
  | succ d ih =>
    intro b hb
    show f b + suB f (b + 1) d = _
    rw [ih (b + 1) (by omega)]
    have h := smN_at (f := fun x => if b ≤ x then f x else 0) (g := fun x => if b + 1 ≤ x then f x else 0) (v := b) N (by omega) (fun x hx hn => by
      by_cases c : b ≤ x
      · show (if b ≤ x then f x else 0) = (if b + 1 ≤ x then f x else 0)
        rw [if_pos c, if_pos (by omega)]
      · show (if b ≤ x then f x else 0) = (if b + 1 ≤ x then f x else 0)
        rw [if_neg c, if_neg (by omega)])
    have e1 : (if b + 1 ≤ b then f b else 0) = 0 := if_neg (by omega)
    have e2 : (if b ≤ b then f b else 0) = f b := if_pos (Nat.le_refl _)
    simp only [e1, e2] at h
    omega
theorem suB_c {f g : Nat → Nat} : ∀ d b, (∀ x, b ≤ x → x < b + d → f x = g x) → suB f b d = suB g b d := by
  intro d
  induction d with
  | zero => intro b _; rfl
  | succ d ih =>
    intro b h
    show f b + suB f (b + 1) d = g b + suB g (b + 1) d
    rw [h b (Nat.le_refl _) (by omega), ih (b + 1) (fun x h1 h2 => h x (by omega) (by omega))]
theorem suB_le {f : Nat → Nat} {K : Nat} : ∀ d b, (∀ x, f x ≤ K) → suB f b d ≤ K * d := by
  intro d
  induction d with
  | zero => intro b _; exact Nat.le_refl _
  | succ d ih =>
    intro b h
    have := ih (b + 1) h
    have := h b
    show f b + suB f (b + 1) d ≤ K * (d + 1)
    rw [Nat.mul_succ]; omega
/-- two bases have no node in common -/
def apP (S : St) (a b : Nat) : Nat := if xR S 17 a &&& xR S 17 b = 0 then 1 else 0
theorem apP_1 (S : St) (a b : Nat) : apP S a b ≤ 1 := by
  unfold apP
  split <;> omega
theorem apP_s (S : St) (a b : Nat) : apP S a b = apP S b a := by
  unfold apP
  rw [Int32.and_comm]
/-- how many pairs -/
def apN (N : Nat) (S : St) : Nat := suB (fun a => suB (apP S a) (a + 1) (N - (a + 1))) 0 N
theorem apN_r (N : Nat) (S : St) : suB (fun a => suB (apP S a) 0 a) 0 N = apN N S := by
  have l : ∀ a, a < N → suB (apP S a) (a + 1) (N - (a + 1)) = smN (fun x => if a + 1 ≤ x then apP S a x else 0) N := fun a ha => suB_smN _ N _ _ (by omega)
  have r : ∀ a, a < N → suB (apP S a) 0 a = smN (fun x => if x < a then apP S a x else 0) N := fun a ha => by
    rw [suB_smN (apP S a) a a 0 (by omega)]
    have h1 : smN (fun x => if 0 ≤ x then apP S a x else 0) a = smN (fun x => if x < a then apP S a x else 0) a := smN_c a (fun x hx => by
      show (if 0 ≤ x then apP S a x else 0) = (if x < a then apP S a x else 0)
      rw [if_pos (Nat.zero_le _), if_pos hx])
    rw [h1]
    have h2 : ∀ d, smN (fun x => if x < a then apP S a x else 0) (a + d) = smN (fun x => if x < a then apP S a x else 0) a := by
      intro d
      induction d with
      | zero => rfl
      | succ d ih =>
        show smN _ (a + d) + (if a + d < a then _ else 0) = _
        rw [if_neg (by omega), Nat.add_zero, ih]
    have := h2 (N - a)
    rw [show a + (N - a) = N by omega] at this
    rw [this]
  unfold apN
  rw [suB_c (g := fun a => smN (fun x => if a + 1 ≤ x then apP S a x else 0) N) N 0 (fun a _ h => l a (by omega)), suB_c (g := fun a => smN (fun x => if x < a then apP S a x else 0) N) N 0 (fun a _ h => r a (by omega)), suB_smN _ N N 0 (by omega), suB_smN _ N N 0 (by omega)]
  have e : ∀ F : Nat → Nat, smN (fun x => if 0 ≤ x then F x else 0) N = smN F N := fun F => smN_c N (fun x _ => if_pos (Nat.zero_le _))
  rw [e, e, smN_sw (fun a x => if x < a then apP S a x else 0) N N]
  refine smN_c N (fun a _ => smN_c N (fun x _ => ?_))
  show (if a < x then apP S x a else 0) = (if a + 1 ≤ x then apP S a x else 0)
  by_cases c : a < x
  · rw [if_pos c, if_pos (by omega), apP_s]
  · rw [if_neg c, if_neg (by omega)]
theorem ca_16 {M : Mem} {N : Nat} {S : St} {k : Nat → Int32 → Int32 → Option Int32} (sb : SB M N S) (h16 : N ≤ 16) {a : Nat} (ha : a < N) : ∀ (d b c n : Nat), b + d = N → d + 1 ≤ n → f_X7_countApart_16 k M n 1 (nI c) (nI a) (nI b) = k 1 (nI (c + suB (apP S a) b d)) (nI (a + 1)) := by
  intro d
  induction d with
  | zero =>
    intro b c n hb hn
    obtain ⟨n, rfl⟩ : ∃ m, n = m + 1 := ⟨n - 1, by omega⟩
    rw [f_X7_countApart_16, sb.f, sb.n, if_pos (nI_le (by omega) (by omega)), bnd_e, nI_1]
    rfl
  | succ d ih =>
    intro b c n hb hn
    obtain ⟨n, rfl⟩ : ∃ m, n = m + 1 := ⟨n - 1, by omega⟩
    rw [f_X7_countApart_16, sb.f, sb.n, if_neg (nI_ge (by omega) (by omega)), sb.r2, bnd_e, sb.a2, sb.i2 (by omega), bnd_e, sb.a2, sb.i2 (by omega), mI_c (by omega), mI_c (by omega), sb.b ha, sb.b (by omega)]
    show _ = k 1 (nI (c + (apP S a b + suB (apP S a) (b + 1) d))) (nI (a + 1))
    unfold apP
    by_cases z : xR S 17 a &&& xR S 17 b = 0
    · rw [if_pos z, if_pos z, bnd_e, bnd_e, nI_1, nI_1, ih (b + 1) (c + 1) n (by omega) (by omega)]
      unfold apP
      rw [show c + 1 + suB (fun b => if xR S 17 a &&& xR S 17 b = 0 then 1 else 0) (b + 1) d = c + (1 + suB (fun b => if xR S 17 a &&& xR S 17 b = 0 then 1 else 0) (b + 1) d) by omega]
    · rw [if_neg z, if_neg z, bnd_e, nI_1, ih (b + 1) c n (by omega) (by omega), Nat.zero_add]
      rfl
theorem ca_4 {M : Mem} {N : Nat} {S : St} (sb : SB M N S) (h16 : N ≤ 16) : ∀ (d a c n : Nat), a + d = N → d + 20 ≤ n → f_X7_countApart_4 M n 1 (nI c) (nI a) = some (nI (c + suB (fun a => suB (apP S a) (a + 1) (N - (a + 1))) a d)) := by
  intro d
  induction d with
  | zero =>
    intro a c n ha hn
    obtain ⟨n, rfl⟩ : ∃ m, n = m + 1 := ⟨n - 1, by omega⟩
    rw [f_X7_countApart_4, sb.f, sb.n, if_pos (nI_le (by omega) (by omega))]
    rfl
  | succ d ih =>
    intro a c n ha hn
    obtain ⟨n, rfl⟩ : ∃ m, n = m + 1 := ⟨n - 1, by omega⟩
    rw [f_X7_countApart_4, sb.f, sb.n, if_neg (nI_ge (by omega) (by omega)), bnd_e, nI_1, ca_16 sb h16 (by omega) (N - (a + 1)) (a + 1) c n (by omega) (by omega), ih (a + 1) _ n (by omega) (by omega)]
    show some (nI (c + _ + _)) = some (nI (c + (_ + _)))
    rw [Nat.add_assoc]
theorem SB.ap {M : Mem} {N n : Nat} {S : St} (sb : SB M N S) (h16 : N ≤ 16) (hn : 60 ≤ n) : f_X7_countApart n 1 M = some (nI (apN N S)) := by
  rw [f_X7_countApart, show (0 : Int32) = nI 0 from rfl, ca_4 sb h16 N 0 0 n (by omega) (by omega), Nat.zero_add]
  rfl
theorem ra_16 {M : Mem} {N : Nat} {S : St} {tw : Bool} {t : Int32} {pb pt : List Row4} {k : Nat → Int32 → Int32 → Option Int32} (r : RV M tw t S pb pt) (h16 : N ≤ 16) {a : Nat} (ha : a < N) : ∀ (d b c n : Nat), b + d = a → d + 1 ≤ n → f_X10_apart_16 k M n 120 (nI c) (nI a) (nI b) = k 120 (nI (c + suB (apP S a) b d)) (nI (a + 1)) := by
  intro d
  induction d with
  | zero =>
    intro b c n hb hn
    obtain ⟨n, rfl⟩ : ∃ m, n = m + 1 := ⟨n - 1, by omega⟩
    rw [f_X10_apart_16, if_pos (nI_le (by omega) (by omega)), bnd_e, nI_1]
    rfl
  | succ d ih =>
    intro b c n hb hn
    obtain ⟨n, rfl⟩ : ∃ m, n = m + 1 := ⟨n - 1, by omega⟩
    rw [f_X10_apart_16, if_neg (nI_ge (by omega) (by omega)), rs_f r.1, r.base (by omega), obd_s, r.base (by omega), obd_s]
    show _ = k 120 (nI (c + (apP S a b + suB (apP S a) (b + 1) d))) (nI (a + 1))
    unfold apP
    by_cases z : xR S 17 a &&& xR S 17 b = 0
    · rw [if_pos z, if_pos z, bnd_e, bnd_e, nI_1, nI_1, ih (b + 1) (c + 1) n (by omega) (by omega)]
      unfold apP
      rw [show c + 1 + suB (fun b => if xR S 17 a &&& xR S 17 b = 0 then 1 else 0) (b + 1) d = c + (1 + suB (fun b => if xR S 17 a &&& xR S 17 b = 0 then 1 else 0) (b + 1) d) by omega]
    · rw [if_neg z, if_neg z, bnd_e, bnd_e, nI_1, show nI c + (0 : Int32) = nI c from Int32.add_zero _, ih (b + 1) c n (by omega) (by omega), Nat.zero_add]
      rfl
theorem ra_4 {M : Mem} {N : Nat} {S : St} {tw : Bool} {t : Int32} {pb pt : List Row4} (r : RV M tw t S pb pt) (hN : xR S 20 0 = nI N) (h16 : N ≤ 16) : ∀ (d a c n : Nat), a + d = N → d + 20 ≤ n → f_X10_apart_4 M n 120 (nI c) (nI a) = some (nI (c + suB (fun a => suB (apP S a) 0 a) a d)) := by
  intro d
  induction d with
  | zero =>
    intro a c n ha hn
    obtain ⟨n, rfl⟩ : ∃ m, n = m + 1 := ⟨n - 1, by omega⟩
    rw [f_X10_apart_4, rs_f r.1, rs_0 r.1, bnd_e, rs_fa r.1, rs_c0 r.1, cl0, r.N hN, if_pos (nI_le (by omega) (by omega))]
    rfl
  | succ d ih =>
    intro a c n ha hn
    obtain ⟨n, rfl⟩ : ∃ m, n = m + 1 := ⟨n - 1, by omega⟩
    rw [f_X10_apart_4, rs_f r.1, rs_0 r.1, bnd_e, rs_fa r.1, rs_c0 r.1, cl0, r.N hN, if_neg (nI_ge (by omega) (by omega)), show (0 : Int32) = nI 0 from rfl, ra_16 r h16 (N := N) (by omega) a 0 c n (by omega) (by omega), ih (a + 1) _ n (by omega) (by omega)]
    show some (nI (c + _ + _)) = some (nI (c + (_ + _)))
    rw [Nat.add_assoc]
theorem RV.ap {M : Mem} {N n : Nat} {S : St} {tw : Bool} {t : Int32} {pb pt : List Row4} (r : RV M tw t S pb pt) (hN : xR S 20 0 = nI N) (h16 : N ≤ 16) (hn : 60 ≤ n) : f_X10_apart n 120 M = some (nI (apN N S)) := by
  rw [f_X10_apart, show (0 : Int32) = nI 0 from rfl, ra_4 r hN h16 N 0 0 n (by omega) (by omega), Nat.zero_add, apN_r]
