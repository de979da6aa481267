/-! ===== equal answers: is ===== -/
/-- whom k waits for, one arbiter more -/
def awst (S : St) (k : Nat) (c : Int32) (v : Nat) : Int32 :=
  if bt (xR S 3 k &&& (xR S 4 k ^^^ (-1 : Int32))) v = true then (if xR S 8 v = -1 then c else if xR S 8 v = nI k then c else c ||| ((1 : Int32) <<< (xR S 8 v &&& 31))) else c
def awk (N : Nat) (S : St) (k : Nat) : Int32 := (List.range' 0 N).foldl (awst S k) 0
theorem wn_v {M : Mem} {tw : Bool} {t : Int32} {S : St} {pb pt : List Row4} {N : Nat} (r : RV M tw t S pb pt) (hN : xR S 20 0 = nI N) (h16 : N ≤ 16) (k : Nat) : ∀ (d v m : Nat) (c : Int32), v + d = N → d + 1 ≤ m → f_X10_waitsNow_21 M m 120 (nI k) c (xR S 3 k &&& (xR S 4 k ^^^ (-1 : Int32))) (nI v) = some ((List.range' v d).foldl (awst S k) c) := by
  intro d
  induction d with
  | zero =>
    intro v m c hv hm
    obtain ⟨m, rfl⟩ : ∃ k, m = k + 1 := ⟨m - 1, by omega⟩
    rw [f_X10_waitsNow_21, rs_f r.1, rs_0 r.1, bnd_e, rs_fa r.1, rs_c0 r.1, cl0, r.N hN, if_pos (nI_le (by omega) (by omega))]
    rfl
  | succ d ih =>
    intro v m c hv hm
    obtain ⟨m, rfl⟩ : ∃ k, m = k + 1 := ⟨m - 1, by omega⟩
    have v6 : v < 16 := by omega
    rw [f_X10_waitsNow_21, rs_f r.1, rs_0 r.1, bnd_e, rs_fa r.1, rs_c0 r.1, cl0, r.N hN, if_neg (nI_ge (by omega) (by omega)), f_has10 _ (by omega), obd_s, r.of0 v6]
    simp only [obd_s, bnd_e]
    rw [nI_1, List.range'_succ, List.foldl_cons]
    by_cases z : bt (xR S 3 k &&& (xR S 4 k ^^^ (-1 : Int32))) v = true
    · rw [if_pos z, if_neg ne10]
      by_cases g0 : xR S 8 v = -1
      · have e : awst S k c v = c := by unfold awst; rw [if_pos z, if_pos g0]
        rw [if_pos g0, e]
        exact ih (v + 1) m c (by omega) (by omega)
      · rw [if_neg g0]
        by_cases gk : xR S 8 v = nI k
        · have e : awst S k c v = c := by unfold awst; rw [if_pos z, if_neg g0, if_pos gk]
          rw [if_pos gk, e]
          exact ih (v + 1) m c (by omega) (by omega)
        · have e : awst S k c v = c ||| ((1 : Int32) <<< (xR S 8 v &&& 31)) := by unfold awst; rw [if_pos z, if_neg g0, if_neg gk]
          rw [if_neg gk, e]
          exact ih (v + 1) m _ (by omega) (by omega)
    · have e : awst S k c v = c := by unfold awst; rw [if_neg z]
      rw [if_neg z, if_pos rfl, e]
      exact ih (v + 1) m c (by omega) (by omega)
theorem RV.wnv {M : Mem} {tw : Bool} {t : Int32} {S : St} {pb pt : List Row4} {N : Nat} (r : RV M tw t S pb pt) (hN : xR S 20 0 = nI N) (h16 : N ≤ 16) {k : Nat} (hk : k < 16) {n : Nat} (hn : 20 ≤ n) : f_X10_waitsNow n 120 (nI k) M = some (awk N S k) := by
  rw [f_X10_waitsNow, rs_f r.1, r.get3 hk, obd_s, r.get4 hk, obd_s, bnd_e]
  exact wn_v r hN h16 k N 0 n 0 (by omega) (by omega)
section
variable {M : Mem} {X Y N A : Nat} {t : Int32} {Q : Nat → Int32} {S : St} {pb pt : List Row4}
theorem aw_v (p : HV M 14 X Y t N Q S pb pt) (hF : IF N A S) (h16 : N ≤ 16) {k : Nat} (hk : k < N) : ∀ (d v n : Nat) (c : Int32), v + d = N → d + 1 ≤ n → f_X2_awaitedBy_12 M n 14 (nI k) (14 + 17 + 2 * k) c (nI v) = some ((List.range' v d).foldl (awst S k) (c &&& (((1 : Int32) <<< (nI k &&& 31)) ^^^ (-1 : Int32)))) := by
  have q := p.1
  have f2 : mI M (14 + 17 + 2 * k) 2 = xR S 3 k := (p.2.2.1.1 k (by omega)).1 (2, 3) (by decide)
  have f3 : mI M (14 + 17 + 2 * k) 3 = xR S 4 k := (p.2.2.1.1 k (by omega)).1 (3, 4) (by decide)
  intro d
  induction d with
  | zero =>
    intro v n c hv hn
    obtain ⟨n, rfl⟩ : ∃ m, n = m + 1 := ⟨n - 1, by omega⟩
    rw [f_X2_awaitedBy_12, cs_f q, cs_h0 q, bnd_e, cs_s q, p.2.2.2.2.2.1, if_pos (nI_le (by omega) (by omega))]
    rfl
  | succ d ih =>
    intro v n c hv hn
    obtain ⟨n, rfl⟩ : ∃ m, n = m + 1 := ⟨n - 1, by omega⟩
    have v6 : v < 16 := by omega
    have f6 : mI M (14 + 17 + 2 * v) 6 = xR S 8 v := (p.2.2.1.1 v v6).1 (6, 8) (by decide)
    rw [f_X2_awaitedBy_12, cs_f q, cs_h0 q, bnd_e, cs_s q, p.2.2.2.2.2.1, if_neg (nI_ge (by omega) (by omega)), cs_po q (show k < 16 by omega), f2, f3, f_has9 _ (by omega), obd_s]
    simp only [bnd_e]
    rw [nI_1, List.range'_succ, List.foldl_cons]
    by_cases z : bt (xR S 3 k &&& (xR S 4 k ^^^ (-1 : Int32))) v = true
    · rw [if_pos z, if_neg ne10]
      rw [cs_h2 q, cs_a10 q, cs_i10 q v6, cs_rpc q v6, cs_po q v6, f6]
      rcases (hF v v6).2.2 with ⟨g0, _⟩ | ⟨g, hg, g0, _⟩
      · have e : ∀ c, awst S k c v = c := fun c => by unfold awst; rw [if_pos z, if_pos g0]
        rw [if_pos g0, e]
        exact ih (v + 1) n c (by omega) (by omega)
      · have gn : ¬ xR S 8 v = -1 := by rw [g0]; exact nI_m1 (by omega)
        rw [if_neg gn, cs_a10 q, cs_i10 q v6, cs_po q v6, g0]
        have eI := ih (v + 1) n (c ||| ((1 : Int32) <<< (nI g &&& 31))) (by omega) (by omega)
        by_cases gk : g = k
        · have e : ∀ c, awst S k c v = c := fun c => by unfold awst; rw [if_pos z, if_neg gn, if_pos (by rw [g0, gk])]
          rw [e]
          rw [gk, ob_off c (show k < 32 by omega)] at eI
          rw [gk]
          exact eI
        · have e : ∀ c, awst S k c v = c ||| ((1 : Int32) <<< (nI g &&& 31)) := fun c => by unfold awst; rw [if_pos z, if_neg gn, if_neg (by rw [g0]; exact nI_ne (by omega) (by omega) gk), g0]
          rw [e]
          rw [ob_on c (show k < 32 by omega) (show g < 32 by omega) gk] at eI
          exact eI
    · have e : ∀ c, awst S k c v = c := fun c => by unfold awst; rw [if_neg z]
      rw [if_neg z, if_pos rfl, e]
      exact ih (v + 1) n c (by omega) (by omega)
theorem HV.awv (p : HV M 14 X Y t N Q S pb pt) (hF : IF N A S) (h16 : N ≤ 16) {k : Nat} (hk : k < N) {n : Nat} (hn : 20 ≤ n) : f_X2_awaitedBy n 14 (nI k) M = some (awk N S k) := by
  have q := p.1
  have e := aw_v p hF h16 hk N 0 n 0 (by omega) (by omega)
  rw [Int32.zero_and] at e
  rw [f_X2_awaitedBy, cs_f q, cs_h2 q, bnd_e, cs_a10 q, cs_i10 q (show k < 16 by omega), cs_rpc q (show k < 16 by omega), bnd_e, cs_po q (show k < 16 by omega)]
  exact e
end
/-- x waits for y -/
def Ed (N : Nat) (S : St) (x y : Nat) : Prop := x < N ∧ y < 32 ∧ xR S 0 x = 1 ∧ bt (awk N S x) y = true
/-- v waits for u, round others -/
def Rch (N : Nat) (S : St) (v u : Nat) : Prop := ∀ Z : Nat → Prop, (∀ x, Ed N S v x → Z x) → (∀ x y, Z x → Ed N S x y → Z y) → Z u
theorem Rch.tr {N : Nat} {S : St} {v x u : Nat} (h1 : Rch N S v x) (h2 : Rch N S x u) : Rch N S v u := fun Z a b => h2 Z (fun y e => b x y (h1 Z a b) e) b
theorem Rch.st {N : Nat} {S : St} {v x u : Nat} (h1 : Rch N S v x) (e : Ed N S x u) : Rch N S v u := fun Z a b => b x u (h1 Z a b) e
theorem Rch.no {N : Nat} {S : St} {v u : Nat} (h : ¬ xR S 0 v = 1) : ¬ Rch N S v u := fun r => r (fun _ => False) (fun _ e => h e.2.2.1) (fun _ _ f _ => f)
def Wsh (N : Nat) (S : St) (t : Nat) (T : Nat → Int32) : Prop := (∀ v, v < N → ∀ u, u < 32 → bt (T v) u = true → Rch N S v u) ∧ (∀ v u, Ed N S v u → bt (T v) u = true) ∧ (∀ x, x < t → ∀ v, v < N → ∀ u, u < 32 → bt (T v) x = true → bt (T x) u = true → bt (T v) u = true)
theorem Wsh.step {N t : Nat} {S : St} {T T' : Nat → Int32} (ht : t < N) (w : Wsh N S t T) (h16 : N ≤ 16) (e : ∀ v, v < N → T' v = if bt (T v) t = true then T v ||| T t else T v) : Wsh N S (t + 1) T' := by
  have up : ∀ v, v < N → ∀ u, bt (T v) u = true → bt (T' v) u = true := fun v hv u h => by
    rw [e v hv]
    by_cases c : bt (T v) t = true
    · rw [if_pos c, b_or, h]; rfl
    · rw [if_neg c]; exact h
  have mk : ∀ v, v < N → ∀ u, bt (T v) t = true → bt (T t) u = true → bt (T' v) u = true := fun v hv u h1 h2 => by
    rw [e v hv, if_pos h1, b_or, h2, Bool.or_true]
  have spl : ∀ v, v < N → ∀ u, bt (T' v) u = true → bt (T v) u = true ∨ (bt (T v) t = true ∧ bt (T t) u = true) := fun v hv u h => by
    rw [e v hv] at h
    by_cases c : bt (T v) t = true
    · rw [if_pos c, b_or] at h
      rcases (Bool.or_eq_true _ _).mp h with h | h
      · exact Or.inl h
      · exact Or.inr ⟨c, h⟩
    · rw [if_neg c] at h; exact Or.inl h
  obtain ⟨w1, w2, w3⟩ := w
  refine ⟨fun v hv u hu h => ?_, fun v u h => up v h.1 u (w2 v u h), fun x hx v hv u hu h1 h2 => ?_⟩
  · rcases spl v hv u h with a | ⟨a, b⟩
    · exact w1 v hv u hu a
    · exact (w1 v hv t (by omega) a).tr (w1 t ht u hu b)
  · rcases Nat.lt_or_ge x t with c | c
    · have xN : x < N := by omega
      rcases spl v hv x h1 with a | ⟨a, a'⟩
      · rcases spl x xN u h2 with b | ⟨b, b'⟩
        · exact up v hv u (w3 x c v hv u hu a b)
        · exact mk v hv u (w3 x c v hv t (by omega) a b) b'
      · rcases spl x xN u h2 with b | ⟨b, b'⟩
        · exact mk v hv u a (w3 x c t ht u hu a' b)
        · exact mk v hv u a b'
    · obtain rfl : x = t := by omega
      have b : bt (T x) u = true := by
        rcases spl x ht u h2 with b | ⟨b, b'⟩
        · exact b
        · exact b'
      rcases spl v hv x h1 with a | ⟨a, a'⟩
      · exact mk v hv u a b
      · exact mk v hv u a b
theorem Wsh.fin {N : Nat} {S : St} {T : Nat → Int32} (w : Wsh N S N T) {v u : Nat} (hv : v < N) (hu : u < 32) : bt (T v) u = true ↔ Rch N S v u :=
  ⟨w.1 v hv u hu, fun h => (h (fun y => y < 32 ∧ bt (T v) y = true) (fun x e => ⟨e.2.1, w.2.1 v x e⟩) (fun x y hx e => ⟨e.2.1, w.2.2 x e.1 v hv y e.2.1 hx.2 (w.2.1 x y e)⟩)).2⟩
section
variable {X Y N A : Nat} {t : Int32} {Q : Nat → Int32} {S : St} {pb pt : List Row4}
theorem rd115v {M : Mem} (p : HV M 14 X Y t N Q S pb pt) (h16 : N ≤ 16) : ∀ (d i n : Nat) (c : Int32), i + d = N → d + 1 ≤ n → ∃ y, f_X2_round_115 n 14 c (nI i) M = some (y, M) ∧ ∀ j, j < 32 → (bt y j = true ↔ bt c j = true ∨ (i ≤ j ∧ j < N ∧ bt (mI M (14 + 16) j) j = true)) := by
  intro d
  have q := p.1
  induction d with
  | zero =>
    intro i n c hi hn
    obtain ⟨n, rfl⟩ : ∃ m, n = m + 1 := ⟨n - 1, by omega⟩
    exact ⟨c, by rw [f_X2_round_115, cs_f q, cs_h0 q, bnd_e, cs_s q, p.2.2.2.2.2.1, if_pos (nI_le (by omega) (by omega))], fun j _ => ⟨Or.inl, fun z => z.elim id (fun z => by omega)⟩⟩
  | succ d ih =>
    intro i n c hi hn
    obtain ⟨n, rfl⟩ : ∃ m, n = m + 1 := ⟨n - 1, by omega⟩
    obtain ⟨y, e, hy⟩ := ih (i + 1) n (c ||| (mI M (14 + 16) i &&& ((1 : Int32) <<< (nI i &&& 31)))) (by omega) (by omega)
    refine ⟨y, by rw [f_X2_round_115, cs_f q, cs_h0 q, bnd_e, cs_s q, p.2.2.2.2.2.1, if_neg (nI_ge (by omega) (by omega)), cs_h6 q, bnd_e, cs_a16 q, cs_i16 q (by omega), bnd_e, bnd_e, nI_1, nI_clamp (show i < 2 ^ 31 by omega)]; exact e, fun j hj => ?_⟩
    rw [hy j hj, b_or, b_and, b_one (show i < 32 by omega) hj, Bool.or_eq_true, Bool.and_eq_true, decide_eq_true_eq]
    constructor
    · rintro ((h | ⟨h1, h2⟩) | ⟨h1, h2, h3⟩)
      · exact Or.inl h
      · exact Or.inr ⟨by omega, by omega, by rw [h2] at h1 ⊢; exact h1⟩
      · exact Or.inr ⟨by omega, h2, h3⟩
    · rintro (h | ⟨h1, h2, h3⟩)
      · exact Or.inl (Or.inl h)
      · by_cases c : j = i
        · exact Or.inl (Or.inr ⟨by rw [c] at h3 ⊢; exact h3, c⟩)
        · exact Or.inr ⟨by omega, h2, h3⟩
theorem rd60v (h16 : N ≤ 16) {K : Nat → Int32 → Mem → Option (Int32 × Mem)} {k : Nat} (hk : k < N) (T : Nat → Int32) : ∀ (d i n : Nat) (M : Mem), HV M 14 X Y t N Q S pb pt → (∀ v, v < N → mI M (14 + 16) v = if v < i ∧ bt (T v) k = true then T v ||| T k else T v) → i + d = N → d + 1 ≤ n → ∃ M2, HV M2 14 X Y t N Q S pb pt ∧ Fr P30 M M2 ∧ (∀ v, v < N → mI M2 (14 + 16) v = if bt (T v) k = true then T v ||| T k else T v) ∧ f_X2_round_60 K n 14 (nI k) (nI i) M = K 14 (nI (k + 1)) M2 := by
  intro d
  have oo : ∀ x : Int32, x ||| x = x := fun x => b_ext fun i _ => by rw [b_or, Bool.or_self]
  induction d with
  | zero =>
    intro i n M p hT hi hn
    have q := p.1
    obtain ⟨n, rfl⟩ : ∃ m, n = m + 1 := ⟨n - 1, by omega⟩
    refine ⟨M, p, Fr.rf _ _, fun v hv => ?_, by rw [f_X2_round_60, cs_f q, cs_h0 q, bnd_e, cs_s q, p.2.2.2.2.2.1, if_pos (nI_le (by omega) (by omega)), bnd_e, nI_1]⟩
    rw [hT v hv]
    by_cases c : bt (T v) k = true
    · rw [if_pos ⟨by omega, c⟩, if_pos c]
    · rw [if_neg (fun z => c z.2), if_neg c]
  | succ d ih =>
    intro i n M p hT hi hn
    have q := p.1
    obtain ⟨n, rfl⟩ : ∃ m, n = m + 1 := ⟨n - 1, by omega⟩
    have i6 : i < 16 := by omega
    have k6 : k < 16 := by omega
    have hTi : mI M (14 + 16) i = T i := by rw [hT i (by omega), if_neg (by omega)]
    have hTk : mI M (14 + 16) k = T k := by
      rw [hT k hk]
      by_cases c : k < i ∧ bt (T k) k = true
      · rw [if_pos c, oo]
      · rw [if_neg c]
    rw [f_X2_round_60, cs_f q, cs_h0 q, bnd_e, cs_s q, p.2.2.2.2.2.1, if_neg (nI_ge (by omega) (by omega)), cs_h6 q, bnd_e, cs_a16 q, cs_i16 q i6, mI_c (M := M) (o := 14 + 16) (k := i) (by omega), hTi, f_has9 _ (show k < 32 by omega), obd_s]
    by_cases c : bt (T i) k = true
    · rw [if_pos c, if_neg ne10, bnd_e, cs_a16 q, cs_i16 q i6, bnd_e, cs_a16 q, cs_i16 q k6, cs_i16 q i6, mI_c (M := M) (o := 14 + 16) (k := i) (by omega), mI_c (M := M) (o := 14 + 16) (k := k) (by omega), hTi, hTk, sI_c (by omega), bnd_e, bnd_e, nI_1]
      have f1 := f30_s M i (T i ||| T k)
      obtain ⟨M2, p2, f2, h2, e2⟩ := ih (i + 1) n _ (p.f30 f1) (fun v hv => by
        by_cases z : v = i
        · rw [z, mI_s, if_pos ⟨by omega, c⟩]
        · rw [mI_n _ _ _ _ z, hT v hv]
          by_cases y : v < i ∧ bt (T v) k = true
          · rw [if_pos y, if_pos ⟨by omega, y.2⟩]
          · rw [if_neg y, if_neg (fun y' => y ⟨by omega, y'.2⟩)]) (by omega) (by omega)
      exact ⟨M2, p2, f1.tr f2, h2, e2⟩
    · rw [if_neg c, if_pos rfl, bnd_e, nI_1]
      exact ih (i + 1) n M p (fun v hv => by
        rw [hT v hv]
        by_cases y : v < i ∧ bt (T v) k = true
        · rw [if_pos y, if_pos ⟨by omega, y.2⟩]
        · rw [if_neg y, if_neg (fun y' => y ⟨by
            have : v ≠ i := fun z => c (by rw [← z]; exact y'.2)
            omega, y'.2⟩)]) (by omega) (by omega)
theorem rd47v (h16 : N ≤ 16) : ∀ (d i n : Nat) (M : Mem), HV M 14 X Y t N Q S pb pt → Wsh N S i (fun v => mI M (14 + 16) v) → i + d = N → d + 20 ≤ n → ∃ y M2, f_X2_round_47 n 14 (nI i) M = some (y, M2) ∧ Fr P30 M M2 ∧ ∀ j, j < 32 → (bt y j = true ↔ j < N ∧ Rch N S j j) := by
  intro d
  induction d with
  | zero =>
    intro i n M p w hi hn
    have q := p.1
    obtain ⟨n, rfl⟩ : ∃ m, n = m + 1 := ⟨n - 1, by omega⟩
    obtain rfl : i = N := by omega
    obtain ⟨y, e, hy⟩ := rd115v p h16 i 0 n 0 (by omega) (by omega)
    refine ⟨y, M, by rw [f_X2_round_47, cs_f q, cs_h0 q, bnd_e, cs_s q, p.2.2.2.2.2.1, if_pos (nI_le (by omega) (by omega))]; exact e, Fr.rf _ _, fun j hj => ?_⟩
    rw [hy j hj, b_0]
    constructor
    · rintro (h | ⟨_, h2, h3⟩)
      · cases h
      · exact ⟨h2, (w.fin h2 hj).mp h3⟩
    · rintro ⟨h2, h3⟩
      exact Or.inr ⟨by omega, h2, (w.fin h2 hj).mpr h3⟩
  | succ d ih =>
    intro i n M p w hi hn
    have q := p.1
    obtain ⟨n, rfl⟩ : ∃ m, n = m + 1 := ⟨n - 1, by omega⟩
    obtain ⟨M2, p2, f2, h2, e2⟩ := rd60v (X := X) (Y := Y) (t := t) (Q := Q) (S := S) (pb := pb) (pt := pt) h16 (K := f_X2_round_47 n) (k := i) (by omega) (fun v => mI M (14 + 16) v) N 0 n M p (fun v hv => by rw [if_neg (by omega)]) (by omega) (by omega)
    obtain ⟨y, M3, e3, f3, hy⟩ := ih (i + 1) n M2 p2 (w.step (by omega) h16 h2) (by omega) (by omega)
    exact ⟨y, M3, by rw [f_X2_round_47, cs_f q, cs_h0 q, bnd_e, cs_s q, p.2.2.2.2.2.1, if_neg (nI_ge (by omega) (by omega))]; exact e2.trans e3, f2.tr f3, hy⟩
theorem rd2v (hF : IF N A S) (h16 : N ≤ 16) : ∀ (d i n : Nat) (M : Mem), HV M 14 X Y t N Q S pb pt → (∀ v, v < i → mI M (14 + 16) v = if xR S 0 v = 1 then awk N S v else 0) → i + d = N → d + 60 ≤ n → ∃ y M2, f_X2_round_2 n 14 (nI i) M = some (y, M2) ∧ Fr P30 M M2 ∧ ∀ j, j < 32 → (bt y j = true ↔ j < N ∧ Rch N S j j) := by
  intro d
  induction d with
  | zero =>
    intro i n M p hT hi hn
    have q := p.1
    obtain ⟨n, rfl⟩ : ∃ m, n = m + 1 := ⟨n - 1, by omega⟩
    obtain rfl : i = N := by omega
    have w : Wsh i S 0 (fun v => mI M (14 + 16) v) := by
      refine ⟨fun v hv u hu h => ?_, fun v u h => ?_, fun x hx => by omega⟩
      · replace h : bt (mI M (14 + 16) v) u = true := h
        rw [hT v hv] at h
        by_cases c : xR S 0 v = 1
        · rw [if_pos c] at h
          exact fun Z a b => a u ⟨hv, hu, c, h⟩
        · rw [if_neg c, b_0] at h; cases h
      · show bt (mI M (14 + 16) v) u = true
        rw [hT v h.1, if_pos h.2.2.1]
        exact h.2.2.2
    obtain ⟨y, M2, e, f, hy⟩ := rd47v h16 i 0 n M p w (by omega) (by omega)
    exact ⟨y, M2, by rw [f_X2_round_2, cs_f q, cs_h0 q, bnd_e, cs_s q, p.2.2.2.2.2.1, if_pos (nI_le (by omega) (by omega))]; exact e, f, hy⟩
  | succ d ih =>
    intro i n M p hT hi hn
    have q := p.1
    obtain ⟨n, rfl⟩ : ∃ m, n = m + 1 := ⟨n - 1, by omega⟩
    have i6 : i < 16 := by omega
    have s8 := (has_st p (k := i) i6).2.1
    have nx : ∀ x : Int32, x = (if xR S 0 i = 1 then awk N S i else 0) → ∃ y M2, f_X2_round_2 n 14 (nI (i + 1)) (sI M (14 + 16) i x) = some (y, M2) ∧ Fr P30 M M2 ∧ ∀ j, j < 32 → (bt y j = true ↔ j < N ∧ Rch N S j j) := fun x hx => by
      have f1 := f30_s M i x
      obtain ⟨y, M2, e2, f2, hy⟩ := ih (i + 1) n _ (p.f30 f1) (fun v hv => by
        by_cases z : v = i
        · rw [z, mI_s, hx]
        · rw [mI_n _ _ _ _ z]; exact hT v (by omega)) (by omega) (by omega)
      exact ⟨y, M2, e2, f1.tr f2, hy⟩
    rw [f_X2_round_2, cs_f q, cs_h0 q, bnd_e, cs_s q, p.2.2.2.2.2.1, if_neg (nI_ge (by omega) (by omega)), cs_h6 q, bnd_e, cs_a16 q, s8, obd_s]
    by_cases c : xR S 0 i = 1
    · rw [if_pos c, if_neg ne10, p.awv hF h16 (k := i) (by omega) (n := n) (by omega), obd_s, cs_i16 q i6, bnd_e, bnd_e, nI_1, nI_clamp (show i < 2 ^ 31 by omega)]
      exact nx _ (by rw [if_pos c])
    · rw [if_neg c, if_pos rfl, cs_i16 q i6, bnd_e, bnd_e, nI_1, nI_clamp (show i < 2 ^ 31 by omega)]
      exact nx _ (by rw [if_neg c])
end
section
variable {M : Mem} {N : Nat} {tw : Bool} {t : Int32} {S : St} {pb pt : List Row4}
theorem rc18v (r : RV M tw t S pb pt) (hN : xR S 20 0 = nI N) (h16 : N ≤ 16) {k : Nat} {K : Nat → Int32 → Int32 → Option Int32} {G : Int32 → Prop} {v4 : Int32} (hK0 : (∀ w u, Ed N S w u → bt v4 w = true → bt v4 u = true) → ∃ x, K 120 v4 0 = some x ∧ G x) (hK1 : ∀ y, (∀ j, j < 32 → bt v4 j = true → bt y j = true) → y ≠ v4 → (∀ u, u < 32 → bt y u = true → Rch N S k u) → ∃ x, K 120 y 1 = some x ∧ G x) : ∀ (d i n : Nat) (v2 : Int32), i + d = N → (∀ j, j < 32 → bt v4 j = true → bt v2 j = true) → (∀ u, u < 32 → bt v2 u = true → Rch N S k u) → (∀ w u, w < i → Ed N S w u → bt v4 w = true → bt v2 u = true) → d + 30 ≤ n → ∃ x, f_X10_reached_18 K M n 120 v2 v4 (nI i) = some x ∧ G x := by
  intro d
  induction d with
  | zero =>
    intro i n v2 hi hs h3 h4 hn
    obtain ⟨n, rfl⟩ : ∃ m, n = m + 1 := ⟨n - 1, by omega⟩
    rw [f_X10_reached_18, rs_f r.1, rs_0 r.1, bnd_e, rs_fa r.1, rs_c0 r.1, cl0, r.N hN, if_pos (nI_le (by omega) (by omega))]
    by_cases c : v2 = v4
    · rw [if_pos c, c]
      exact hK0 (fun w u e h => by rw [← c]; exact h4 w u (by have := e.1; omega) e h)
    · rw [if_neg c]; exact hK1 v2 hs c h3
  | succ d ih =>
    intro i n v2 hi hs h3 h4 hn
    obtain ⟨n, rfl⟩ : ∃ m, n = m + 1 := ⟨n - 1, by omega⟩
    have i6 : i < 16 := by omega
    rw [f_X10_reached_18, rs_f r.1, rs_0 r.1, bnd_e, rs_fa r.1, rs_c0 r.1, cl0, r.N hN, if_neg (nI_ge (by omega) (by omega)), f_has10 _ (show i < 32 by omega), obd_s, r.get0 i6]
    simp only [obd_s, bnd_e, r.wnv hN h16 i6 (n := n) (by omega)]
    rw [nI_1]
    by_cases c : bt v4 i = true
    · rw [if_pos c, if_neg ne10]
      by_cases c1 : xR S 0 i = 1
      · rw [if_pos c1]
        refine ih (i + 1) n (v2 ||| awk N S i) (by omega) (fun j hj hb => by rw [b_or, hs j hj hb]; rfl) (fun u hu hb => ?_) (fun w u hw e hb => ?_) (by omega)
        · rw [b_or] at hb
          rcases (Bool.or_eq_true _ _).mp hb with a | a
          · exact h3 u hu a
          · exact (h3 i (by omega) (hs i (by omega) c)).st ⟨by omega, hu, c1, a⟩
        · rw [b_or]
          by_cases z : w = i
          · rw [show bt (awk N S i) u = true by rw [← z]; exact e.2.2.2, Bool.or_true]
          · rw [h4 w u (by omega) e hb]; rfl
      · rw [if_neg c1]
        exact ih (i + 1) n v2 (by omega) hs h3 (fun w u hw e hb => h4 w u (by
          have : w ≠ i := fun z => c1 (by rw [← z]; exact e.2.2.1)
          omega) e hb) (by omega)
    · rw [if_neg c, if_pos rfl]
      exact ih (i + 1) n v2 (by omega) hs h3 (fun w u hw e hb => h4 w u (by
        have : w ≠ i := fun z => c (by rw [← z]; exact hb)
        omega) e hb) (by omega)
theorem rc8v (r : RV M tw t S pb pt) (hN : xR S 20 0 = nI N) (h16 : N ≤ 16) {k : Nat} : ∀ (d n : Nat) (v2 v3 : Int32), 32 ≤ cb v2 + d → d + 60 ≤ n → (∀ u, u < 32 → bt v2 u = true → Rch N S k u) → (∀ u, Ed N S k u → bt v2 u = true) → (v3 = 0 → ∀ w u, Ed N S w u → bt v2 w = true → bt v2 u = true) → ∃ x, f_X10_reached_8 M n 120 v2 v3 = some x ∧ (∀ u, u < 32 → bt x u = true → Rch N S k u) ∧ (∀ u, Ed N S k u → bt x u = true) ∧ ∀ w u, Ed N S w u → bt x w = true → bt x u = true := by
  intro d
  induction d with
  | zero =>
    intro n v2 v3 hc hn a1 a2 a3
    obtain ⟨n, rfl⟩ : ∃ m, n = m + 1 := ⟨n - 1, by omega⟩
    rw [f_X10_reached_8]
    by_cases c : v3 = 0
    · rw [if_pos c]; exact ⟨v2, rfl, a1, a2, a3 c⟩
    · rw [if_neg c]
      obtain ⟨n', rfl⟩ : ∃ m, n = m + 1 := ⟨n - 1, by omega⟩
      refine rc18v r hN h16 (k := k) (fun h => ⟨v2, by rw [f_X10_reached_8, if_pos rfl], a1, a2, h⟩) (fun y hs hy _ => ?_) N 0 (n' + 1) v2 (by omega) (fun j _ h => h) a1 (fun w u hw => by omega) (by omega)
      have := cb_lt hs hy
      have := cb_32 y
      omega
  | succ d ih =>
    intro n v2 v3 hc hn a1 a2 a3
    obtain ⟨n, rfl⟩ : ∃ m, n = m + 1 := ⟨n - 1, by omega⟩
    rw [f_X10_reached_8]
    by_cases c : v3 = 0
    · rw [if_pos c]; exact ⟨v2, rfl, a1, a2, a3 c⟩
    · rw [if_neg c]
      refine rc18v r hN h16 (k := k) (fun h => ?_) (fun y hs hy h3 => ?_) N 0 n v2 (by omega) (fun j _ h => h) a1 (fun w u hw => by omega) (by omega)
      · obtain ⟨n', rfl⟩ : ∃ m, n = m + 1 := ⟨n - 1, by omega⟩
        exact ⟨v2, by rw [f_X10_reached_8, if_pos rfl], a1, a2, h⟩
      · have := cb_lt hs hy
        exact ih n y 1 (by omega) (by omega) h3 (fun u e => hs u e.2.1 (a2 u e)) (fun z => absurd z (by decide))
theorem RV.rchv (r : RV M tw t S pb pt) (hN : xR S 20 0 = nI N) (h16 : N ≤ 16) {k : Nat} (hk : k < N) (h1 : xR S 0 k = 1) {n : Nat} (hn : 100 ≤ n) : ∃ x, f_X10_reached n 120 (nI k) M = some x ∧ ∀ u, u < 32 → (bt x u = true ↔ Rch N S k u) := by
  obtain ⟨x, e, x1, x2, x3⟩ := rc8v r hN h16 (k := k) 32 n (awk N S k) 1 (by omega) (by omega) (fun u hu h Z a b => a u ⟨hk, hu, h1, h⟩) (fun u e => e.2.2.2) (fun z => absurd z (by decide))
  exact ⟨x, by rw [f_X10_reached, rs_f r.1, r.wnv hN h16 (show k < 16 by omega) (n := n) (by omega), obd_s]; exact e, fun u hu => ⟨x1 u hu, fun h => h (fun y => bt x y = true) x2 (fun w y hw e => x3 w y e hw)⟩⟩
theorem rro_v (r : RV M tw t S pb pt) (hN : xR S 20 0 = nI N) (h16 : N ≤ 16) : ∀ (d i n : Nat) (c : Int32), i + d = N → d + 101 ≤ n → ∃ z, f_X10_roundOnes_4 M n 120 c (nI i) = some z ∧ ∀ j, j < 32 → (bt z j = true ↔ bt c j = true ∨ (i ≤ j ∧ j < N ∧ Rch N S j j)) := by
  intro d
  induction d with
  | zero =>
    intro i n c hi hn
    obtain ⟨n, rfl⟩ : ∃ m, n = m + 1 := ⟨n - 1, by omega⟩
    exact ⟨c, by rw [f_X10_roundOnes_4, rs_f r.1, rs_0 r.1, bnd_e, rs_fa r.1, rs_c0 r.1, cl0, r.N hN, if_pos (nI_le (by omega) (by omega))], fun j _ => ⟨Or.inl, fun z => z.elim id (fun z => by omega)⟩⟩
  | succ d ih =>
    intro i n c hi hn
    obtain ⟨n, rfl⟩ : ∃ m, n = m + 1 := ⟨n - 1, by omega⟩
    have i6 : i < 16 := by omega
    have skip : ¬ Rch N S i i → ∃ z, f_X10_roundOnes_4 M n 120 c (nI (i + 1)) = some z ∧ ∀ j, j < 32 → (bt z j = true ↔ bt c j = true ∨ (i ≤ j ∧ j < N ∧ Rch N S j j)) := fun no => by
      obtain ⟨z, e, hz⟩ := ih (i + 1) n c (by omega) (by omega)
      refine ⟨z, e, fun j hj => ?_⟩
      rw [hz j hj]
      constructor
      · rintro (h | ⟨h1, h2, h3⟩)
        · exact Or.inl h
        · exact Or.inr ⟨by omega, h2, h3⟩
      · rintro (h | ⟨h1, h2, h3⟩)
        · exact Or.inl h
        · have : j ≠ i := fun q => no (by rw [q] at h3; exact h3)
          exact Or.inr ⟨by omega, h2, h3⟩
    rw [f_X10_roundOnes_4, rs_f r.1, rs_0 r.1, bnd_e, rs_fa r.1, rs_c0 r.1, cl0, r.N hN, if_neg (nI_ge (by omega) (by omega)), r.get0 i6]
    by_cases c1 : xR S 0 i = 1
    · obtain ⟨x, ex, hx⟩ := r.rchv hN h16 (k := i) (by omega) c1 (n := n) (by omega)
      simp only [obd_s, bnd_e, ex, f_has10 x (show i < 32 by omega)]
      rw [nI_1, if_pos c1]
      by_cases b : bt x i = true
      · rw [if_pos b, if_neg ne10]
        obtain ⟨z, e, hz⟩ := ih (i + 1) n (c ||| ((1 : Int32) <<< (nI i &&& 31))) (by omega) (by omega)
        refine ⟨z, e, fun j hj => ?_⟩
        rw [hz j hj, bt_or1 _ (show i < 32 by omega) hj, Bool.or_eq_true, decide_eq_true_eq]
        constructor
        · rintro ((h | h) | ⟨h1, h2, h3⟩)
          · exact Or.inl h
          · exact Or.inr ⟨by omega, by omega, by rw [h]; exact (hx i (by omega)).mp b⟩
          · exact Or.inr ⟨by omega, h2, h3⟩
        · rintro (h | ⟨h1, h2, h3⟩)
          · exact Or.inl (Or.inl h)
          · by_cases q : j = i
            · exact Or.inl (Or.inr q)
            · exact Or.inr ⟨by omega, h2, h3⟩
      · rw [if_neg b, if_pos rfl]
        exact skip (fun h => b ((hx i (by omega)).mpr h))
    · simp only [obd_s, bnd_e]
      rw [nI_1, if_neg c1]
      exact skip (Rch.no c1)
end
theorem mvc_l0 {N : Nat} {S : St} {sn : Nat → Int32} : (mvc N S 0 sn).length = (mv0 N S).length := by
  have e : asks' 0 N N S 0 sn = [] := by
    unfold asks'
    rw [List.filter_eq_nil_iff]
    intro v _ h
    rw [b_0] at h
    cases h
  unfold mvc mv0
  rw [e]
  simp only [List.length_append, List.length_map, List.length_nil, Nat.add_zero]
theorem eq31 {M : Mem} {i n : Nat} (h : WI i M) (a : Int32) (hn : 100000 ≤ n) : Okk i (f_X9_is n 0 a M) (fun M1 => f_X10_is n 120 a M1) := by
  obtain ⟨N, A, Q, S, w⟩ := h
  obtain ⟨X, Y, L, p, sb, xg, xr⟩ := id w.1
  obtain ⟨_, r, z7, sw, hQ⟩ := id w
  have h16 := sw.n16
  have h2 := sw.n2
  have q := p.1
  obtain ⟨g7, g8, g9, g10, g11, g12, g13, g14, g15⟩ := p.2.2.1.2
  have hA := sw.inv.1
  have fin : ∀ (x : Int32) (M1 M2 : Mem), f_X9_is n 0 a M = some (x, M1) → Fr P30 M M1 → f_X10_is n 120 a M1 = some (x, M2) → RV M2 false 0 S [] [] → FrM M1 M2 → Okk i (f_X9_is n 0 a M) (fun M1 => f_X10_is n 120 a M1) := fun x M1 M2 e1 f1 e2 r2 f2 => by
    have o1 : ∀ o, o ≠ 4 → o ≠ 30 → ∀ b, mI M1 o b = mI M o b := fun o _ n2 b => f1.2.1 o n2 b
    have r1 := r.ow f1.1 o1
    refine ⟨x, M1, M2, e1, r1.1.io (by decide) (by decide) (by decide), e2, w.own f1.1 o1 r2 f2.1 (fun o ho b => f2.2.1 o (by omega) b) ?_ (fun o b => (f2.2.2.2 o b).trans (f1.2.2 o b))⟩
    rw [f2.2.2.1 7 (by decide), o1 120 (by decide) (by decide)]; exact z7
  have same : ∀ x : Int32, f_X9_is n 0 a M = some (x, M) → f_X10_is n 120 a M = some (x, M) → Okk i (f_X9_is n 0 a M) (fun M1 => f_X10_is n 120 a M1) := fun x e1 e2 => fin x M M e1 (Fr.rf _ _) e2 r (FrM.rf _)
  have rg : ∀ j, j < 6 → mI M 121 (9851 + j) = xR S 15 j := fun j hj => by
    have e := r.rg (k := 15) (i := j) (by unfold vk; omega)
    rw [show ad 15 j = 9851 + j from rfl] at e
    exact e
  by_cases a0 : a = (0 : Int32)
  · exact same (nI N) (by rw [f_X9_is, if_pos a0, chk_t xg.1, xg.2.1, bnd_e, sb.f, sb.n]) (by rw [f_X10_is, if_pos a0, rs_f r.1, rs_0 r.1, bnd_e, rs_fa r.1, rs_c0 r.1, cl0, r.N sw.n])
  by_cases a1 : a = (1 : Int32)
  · exact same (nI (fl S).length) (by rw [f_X9_is, if_neg a0, if_pos a1, chk_t xg.1, xg.2.2.2.1, bnd_e, cs_f q, cs_h1 q, bnd_e, cs_p q, p.tot]) (by rw [f_X10_is, if_neg a0, if_pos a1, rs_f r.1, rs_0 r.1, bnd_e, rs_fa r.1, l850, rs_c r.1 (by decide), cl_n (by decide), r.2.2.2.2.1.1])
  by_cases a2 : a = (2 : Int32)
  · obtain ⟨y, ey, hy⟩ := r.insd sw.n h16 (n := n) (by omega)
    have e : mI M 14 7 = y := b_ext fun j hj => by
      rw [g7 j hj, hy j hj]
      congr 1
      apply propext
      refine ⟨fun z => ⟨?_, z.2⟩, fun z => ⟨by omega, z.2⟩⟩
      apply Decidable.byContradiction
      intro c
      have z0 := (hA j z.1).2.1 (by omega)
      have z2 := z.2
      rw [z0] at z2
      exact absurd z2 (by decide)
    exact same y (by rw [f_X9_is, if_neg a0, if_neg a1, if_pos a2, chk_t xg.1, xg.2.2.2.1, bnd_e, cs_f q, e]) (by rw [f_X10_is, if_neg a0, if_neg a1, if_pos a2, rs_f r.1, ey, obd_s])
  by_cases a3 : a = (3 : Int32)
  · obtain ⟨y, ey, hy⟩ := r.askg sw.n h16 (n := n) (by omega)
    have e : mI M 14 8 = y := b_ext fun j hj => by
      rw [g8 j hj, hy j hj]
      congr 1
      apply propext
      refine ⟨fun z => ⟨?_, z.2⟩, fun z => ⟨by omega, z.2⟩⟩
      apply Decidable.byContradiction
      intro c
      have z0 := (hA j z.1).2.1 (by omega)
      have z2 := z.2
      rw [z0] at z2
      exact absurd z2 (by decide)
    exact same y (by rw [f_X9_is, if_neg a0, if_neg a1, if_neg a2, if_pos a3, chk_t xg.1, xg.2.2.2.1, bnd_e, cs_f q, e]) (by rw [f_X10_is, if_neg a0, if_neg a1, if_neg a2, if_pos a3, rs_f r.1, ey, obd_s])
  by_cases a4 : a = (4 : Int32)
  · have e : mI M 14 9 = bkm N S := b_ext fun j hj => by
      rw [g9 j hj, bkm_b h16 sw.h7 hj]
      congr 1
      apply propext
      refine ⟨fun z => ⟨?_, z.2⟩, fun z => ⟨by omega, z.2⟩⟩
      apply Decidable.byContradiction
      intro c
      have z0 := (sw.iz.2.2 j (by omega) z.1).1
      have z2 := z.2
      rw [z0] at z2
      exact absurd z2 (by decide)
    exact same (bkm N S) (by rw [f_X9_is, if_neg a0, if_neg a1, if_neg a2, if_neg a3, if_pos a4, chk_t xg.1, xg.2.2.2.1, bnd_e, cs_f q, e]) (by rw [f_X10_is, if_neg a0, if_neg a1, if_neg a2, if_neg a3, if_pos a4, rs_f r.1, r.bro sw.n h16 (n := n) (by omega), obd_s])
  by_cases a5 : a = (5 : Int32)
  · exact same (xR S 15 0) (by rw [f_X9_is, if_neg a0, if_neg a1, if_neg a2, if_neg a3, if_neg a4, if_pos a5, chk_t xg.1, xg.2.2.2.1, bnd_e, cs_f q, g11]) (by rw [f_X10_is, if_neg a0, if_neg a1, if_neg a2, if_neg a3, if_neg a4, if_pos a5, rs_f r.1, rs_0 r.1, bnd_e, rs_fa r.1, show (9851 : Int32) = nI 9851 from rfl, rs_c r.1 (by decide), cl_n (by decide), rg 0 (by decide)])
  by_cases a6 : a = (6 : Int32)
  · exact same (xR S 15 1) (by rw [f_X9_is, if_neg a0, if_neg a1, if_neg a2, if_neg a3, if_neg a4, if_neg a5, if_pos a6, chk_t xg.1, xg.2.2.2.1, bnd_e, cs_f q, g10]) (by rw [f_X10_is, if_neg a0, if_neg a1, if_neg a2, if_neg a3, if_neg a4, if_neg a5, if_pos a6, rs_f r.1, rs_0 r.1, bnd_e, rs_fa r.1, show (9852 : Int32) = nI 9852 from rfl, rs_c r.1 (by decide), cl_n (by decide), rg 1 (by decide)])
  by_cases a7 : a = (7 : Int32)
  · exact same (xR S 15 2) (by rw [f_X9_is, if_neg a0, if_neg a1, if_neg a2, if_neg a3, if_neg a4, if_neg a5, if_neg a6, if_pos a7, chk_t xg.1, xg.2.2.2.1, bnd_e, cs_f q, g12]) (by rw [f_X10_is, if_neg a0, if_neg a1, if_neg a2, if_neg a3, if_neg a4, if_neg a5, if_neg a6, if_pos a7, rs_f r.1, rs_0 r.1, bnd_e, rs_fa r.1, show (9853 : Int32) = nI 9853 from rfl, rs_c r.1 (by decide), cl_n (by decide), rg 2 (by decide)])
  by_cases a8 : a = (8 : Int32)
  · exact same (xR S 15 3) (by rw [f_X9_is, if_neg a0, if_neg a1, if_neg a2, if_neg a3, if_neg a4, if_neg a5, if_neg a6, if_neg a7, if_pos a8, chk_t xg.1, xg.2.2.2.1, bnd_e, cs_f q, g14]) (by rw [f_X10_is, if_neg a0, if_neg a1, if_neg a2, if_neg a3, if_neg a4, if_neg a5, if_neg a6, if_neg a7, if_pos a8, rs_f r.1, rs_0 r.1, bnd_e, rs_fa r.1, show (9854 : Int32) = nI 9854 from rfl, rs_c r.1 (by decide), cl_n (by decide), rg 3 (by decide)])
  by_cases a9 : a = (9 : Int32)
  · exact same (xR S 15 4) (by rw [f_X9_is, if_neg a0, if_neg a1, if_neg a2, if_neg a3, if_neg a4, if_neg a5, if_neg a6, if_neg a7, if_neg a8, if_pos a9, chk_t xg.1, xg.2.2.2.1, bnd_e, cs_f q, g15]) (by rw [f_X10_is, if_neg a0, if_neg a1, if_neg a2, if_neg a3, if_neg a4, if_neg a5, if_neg a6, if_neg a7, if_neg a8, if_pos a9, rs_f r.1, rs_0 r.1, bnd_e, rs_fa r.1, show (9855 : Int32) = nI 9855 from rfl, rs_c r.1 (by decide), cl_n (by decide), rg 4 (by decide)])
  by_cases a10 : a = (10 : Int32)
  · obtain ⟨M2, e2, r2, m2, f2⟩ := r.lay sw.n h16 sw.t (ask := 0) (sn := fun v => mI M 125 v) z7 (fun _ _ => rfl) (n := n) (by omega)
    have em : f_X10_movesNow n 120 M = some (nI (mv0 N S).length, M2) := by
      rw [f_X10_movesNow, rs_f r.1, e2, obd_s, rs_f r2.1, m2.1, mvc_l0]
    exact fin (nI (mv0 N S).length) M M2 (by rw [f_X9_is, if_neg a0, if_neg a1, if_neg a2, if_neg a3, if_neg a4, if_neg a5, if_neg a6, if_neg a7, if_neg a8, if_neg a9, if_pos a10, chk_t xg.1, xg.2.2.2.1, bnd_e, cs_f q, p.cm sw.inv h16 (n := n) (by omega), obd_s]) (Fr.rf _ _) (by rw [f_X10_is, if_neg a0, if_neg a1, if_neg a2, if_neg a3, if_neg a4, if_neg a5, if_neg a6, if_neg a7, if_neg a8, if_neg a9, if_pos a10, rs_f r.1, em, obd2_s]) r2 f2
  by_cases a11 : a = (11 : Int32)
  · exact same (xR S 15 5) (by rw [f_X9_is, if_neg a0, if_neg a1, if_neg a2, if_neg a3, if_neg a4, if_neg a5, if_neg a6, if_neg a7, if_neg a8, if_neg a9, if_neg a10, if_pos a11, chk_t xg.1, xg.2.2.2.1, bnd_e, cs_f q, g13]) (by rw [f_X10_is, if_neg a0, if_neg a1, if_neg a2, if_neg a3, if_neg a4, if_neg a5, if_neg a6, if_neg a7, if_neg a8, if_neg a9, if_neg a10, if_pos a11, rs_f r.1, rs_0 r.1, bnd_e, rs_fa r.1, show (9856 : Int32) = nI 9856 from rfl, rs_c r.1 (by decide), cl_n (by decide), rg 5 (by decide)])
  by_cases a12 : a = (12 : Int32)
  · obtain ⟨y, M1, e1, f1, hy⟩ := rd2v (X := X) (Y := Y) (t := 0) (Q := Q) (pb := []) (pt := []) sw.inv.2.2.2.2.2.1 h16 N 0 n M p (fun v hv => by omega) (by omega) (by omega)
    have r1 := r.ow f1.1 (fun o _ n2 b => f1.2.1 o n2 b)
    obtain ⟨z, ez, hz⟩ := rro_v r1 sw.n h16 N 0 n 0 (by omega) (by omega)
    have yz : y = z := b_ext fun j hj => by
      apply Bool.eq_iff_iff.mpr
      rw [hy j hj, hz j hj, b_0]
      exact ⟨fun x => Or.inr ⟨Nat.zero_le _, x⟩, fun x => x.elim (fun x => by cases x) (fun x => x.2)⟩
    refine fin y M1 M1 (by rw [f_X9_is, if_neg a0, if_neg a1, if_neg a2, if_neg a3, if_neg a4, if_neg a5, if_neg a6, if_neg a7, if_neg a8, if_neg a9, if_neg a10, if_neg a11, if_pos a12, chk_t xg.1, xg.2.2.2.1, bnd_e, cs_f q, f_X2_round, show f_X2_round_2 n 14 (0 : Int32) M = some (y, M1) from e1, obd2_s]) f1 ?_ r1 (FrM.rf _)
    rw [f_X10_is, if_neg a0, if_neg a1, if_neg a2, if_neg a3, if_neg a4, if_neg a5, if_neg a6, if_neg a7, if_neg a8, if_neg a9, if_neg a10, if_neg a11, if_pos a12, rs_f r1.1, f_X10_roundOnes, show f_X10_roundOnes_4 M1 n 120 (0 : Int32) (0 : Int32) = some z from ez, obd_s, yz]
  exact same (-1) (by rw [f_X9_is, if_neg a0, if_neg a1, if_neg a2, if_neg a3, if_neg a4, if_neg a5, if_neg a6, if_neg a7, if_neg a8, if_neg a9, if_neg a10, if_neg a11, if_neg a12]) (by rw [f_X10_is, if_neg a0, if_neg a1, if_neg a2, if_neg a3, if_neg a4, if_neg a5, if_neg a6, if_neg a7, if_neg a8, if_neg a9, if_neg a10, if_neg a11, if_neg a12])
