/-! ===== a crowd's turn, on the model ===== -/
def idl (S : St) : Nat → Nat
  | 0 => 0
  | n + 1 => idl S n + (if xR S 0 n = 0 then 1 else 0)
theorem idl_c {S S' : St} {v : Nat} : ∀ n, (∀ u, u < n → u ≠ v → xR S' 0 u = 0 → xR S 0 u = 0) → idl S' n ≤ idl S n + (if v < n then 1 else 0) := by
  intro n
  induction n with
  | zero => intro _; exact Nat.zero_le _
  | succ n ih =>
    intro h
    have i := ih (fun u hu => h u (by omega))
    have hn := h n (by omega)
    unfold idl
    by_cases c : n = v
    · subst c
      rw [if_neg (Nat.lt_irrefl _)] at i
      rw [if_pos (show n < n + 1 by omega)]
      split <;> split <;> omega
    · have e : (if v < n + 1 then 1 else 0) = (if v < n then 1 else 0) := by
        by_cases d : v < n
        · rw [if_pos d, if_pos (by omega)]
        · rw [if_neg d, if_neg (by omega)]
      rw [e]
      by_cases z : xR S' 0 n = 0
      · rw [if_pos z, if_pos (hn c z)]; omega
      · rw [if_neg z]; omega
theorem idl_a {S S' : St} (n : Nat) (h : ∀ u, u < n → xR S' 0 u = 0 → xR S 0 u = 0) : idl S' n ≤ idl S n := by
  have := idl_c (v := n) n (fun u hu _ => h u hu)
  rwa [if_neg (Nat.lt_irrefl _)] at this
theorem idl_b {S S' : St} {v : Nat} (h0 : xR S 0 v = 0) (h1 : ¬ xR S' 0 v = 0) : ∀ n, (∀ u, u < n → u ≠ v → xR S' 0 u = 0 → xR S 0 u = 0) → idl S' n + (if v < n then 1 else 0) ≤ idl S n := by
  intro n
  induction n with
  | zero => intro _; exact Nat.le_refl _
  | succ n ih =>
    intro h
    have i := ih (fun u hu => h u (by omega))
    have hn := h n (by omega)
    unfold idl
    by_cases c : n = v
    · subst c
      rw [if_neg (Nat.lt_irrefl _)] at i
      rw [if_pos (show n < n + 1 by omega), if_pos h0, if_neg h1]
      omega
    · have e : (if v < n + 1 then 1 else 0) = (if v < n then 1 else 0) := by
        by_cases d : v < n
        · rw [if_pos d, if_pos (by omega)]
        · rw [if_neg d, if_neg (by omega)]
      rw [e]
      by_cases z : xR S' 0 n = 0
      · rw [if_pos z, if_pos (hn c z)]; omega
      · rw [if_neg z]; omega
theorem idl_le (S : St) : ∀ n, idl S n ≤ n := by
  intro n
  induction n with
  | zero => exact Nat.le_refl _
  | succ n ih => unfold idl; split <;> omega
/-- letters on the way, and those that idle ones may yet send -/
def Psi (N : Nat) (S : St) : Nat := (fl S).length + N * idl S N
theorem Qk.tr {S S' S'' : St} (h : Qk S S') (h' : Qk S' S'') : Qk S S'' := fun k hk i => (h' k hk i).trans (h k hk i)
theorem Qk.rf (S : St) : Qk S S := fun _ _ _ => rfl
theorem ak_Psi {N v : Nat} {S : St} (h16 : N ≤ 16) (hv : v < N) (h0 : xR S 0 v = 0) (t : Int32) : Psi N (ak t N v S) ≤ Psi N S := by
  have a := ak_len (N := N) (v := v) (S := S) h16 (by omega) t
  have b := idl_b (S := S) (S' := ak t N v S) (v := v) h0 (by rw [ak_R (by decide), if_pos rfl, if_pos rfl]; decide) N (fun u _ n z => by rwa [ak_R (by decide), if_neg n] at z)
  rw [if_pos hv] at b
  have c : N * (idl (ak t N v S) N + 1) ≤ N * idl S N := Nat.mul_le_mul_left N b
  rw [Nat.mul_succ] at c
  unfold Psi
  omega
theorem ak_12 {t : Int32} {N v : Nat} {S : St} (u : Nat) : xR (ak t N v S) 12 u = xR S 12 u := by
  rw [ak_R (by decide)]
  by_cases c : u = v
  · rw [if_pos c]; rfl
  · rw [if_neg c]
theorem akl_J {N : Nat} (h16 : N ≤ 16) (t : Int32) : ∀ (d i B : Nat) (S : St), i + d ≤ N → Inv N B S → B + d < 1048576 → (∀ v, v < N → ∀ i, N ≤ i → i < 32 → bt (qm N S v) i = false) → Inv N (B + d) (akl t N (List.range' i d) S) ∧ Psi N (akl t N (List.range' i d) S) ≤ Psi N S ∧ Qk S (akl t N (List.range' i d) S) ∧ ∀ u, xR (akl t N (List.range' i d) S) 12 u = xR S 12 u := by
  intro d
  induction d with
  | zero => intro i B S _ hI _ _; exact ⟨hI, Nat.le_refl _, Qk.rf S, fun _ => rfl⟩
  | succ d ih =>
    intro i B S hi hI hB hQ
    have el : akl t N (List.range' i (d + 1)) S = akl t N (List.range' (i + 1) d) (if mayA N i S then ak t N i S else S) := by
      unfold akl
      rw [List.range'_succ, List.foldl_cons]
    rw [el]
    by_cases c : mayA N i S = true
    · rw [if_pos c]
      have c0 : xR S 0 i = 0 := by
        unfold mayA at c
        exact of_decide_eq_true (Bool.and_eq_true _ _ |>.mp c).1
      have hI1 := hI.tak h16 (v := i) (by omega) c0 (by omega) (hQ i (by omega)) t
      have k := Qk.ak t N i S
      obtain ⟨a1, a2, a3, a4⟩ := ih (i + 1) (B + 1) (ak t N i S) (by omega) hI1 (by omega) (fun v hv => by rw [k.m]; exact hQ v hv)
      rw [show B + (d + 1) = B + 1 + d by omega]
      exact ⟨a1, Nat.le_trans a2 (ak_Psi h16 (by omega) c0 t), k.tr a3, fun u => (a4 u).trans (ak_12 u)⟩
    · rw [if_neg c]
      obtain ⟨a1, a2, a3, a4⟩ := ih (i + 1) B S (by omega) hI (by omega) hQ
      exact ⟨a1.mo (by omega), a2, a3, a4⟩
/-- what holds of a crowd after r turns -/
def CJ (N A P : Nat) (S0 S : St) (r : Nat) : Prop := Inv N (A + N * r) S ∧ Psi N S ≤ P + 2 * N * r ∧ Qk S0 S ∧ ∀ u, ∃ m, m ≤ r ∧ xR S 12 u = xR S0 12 u + nI m
theorem CJ.aA {N A P r : Nat} {S0 S : St} (h : CJ N A P S0 S r) (h16 : N ≤ 16) (hA : A + N * (r + 1) < 1048576) (hQ : ∀ v, v < N → ∀ i, N ≤ i → i < 32 → bt (qm N S0 v) i = false) (t : Int32) : Inv N (A + N * (r + 1)) (akA t N S) ∧ Psi N (akA t N S) ≤ P + 2 * N * r ∧ Qk S0 (akA t N S) ∧ ∀ u, ∃ m, m ≤ r ∧ xR (akA t N S) 12 u = xR S0 12 u + nI m := by
  obtain ⟨h1, h2, h3, h4⟩ := h
  rw [Nat.mul_succ] at hA
  have e : akA t N S = akl t N (List.range' 0 N) S := by unfold akA; rw [List.range_eq_range']
  obtain ⟨a1, a2, a3, a4⟩ := akl_J h16 t N 0 (A + N * r) S (by omega) h1 (by omega) (fun v hv => by rw [h3.m]; exact hQ v hv)
  rw [e, Nat.mul_succ, ← Nat.add_assoc]
  exact ⟨a1, by omega, h3.tr a3, fun u => by rw [a4]; exact h4 u⟩
theorem mv0_in {N A : Nat} {S : St} (hI : Inv N A S) (h16 : N ≤ 16) {c : Nat} (h : c ∈ mv0 N S) : (c < 256 ∧ c / 16 < N ∧ c % 16 < N ∧ xL S c ≠ []) ∨ (256 ≤ c ∧ c < 272 ∧ c - 256 < N ∧ xR S 0 (c - 256) = 2) := by
  unfold mv0 at h
  rcases List.mem_append.mp h with h | h
  · have := lanes_in h
    by_cases q : c / 16 < N ∧ c % 16 < N
    · exact Or.inl ⟨this.1, q.1, q.2, this.2⟩
    · exact absurd ((hI.2.2.2.2.1 c this.1).2 q) this.2
  · obtain ⟨v, hv, rfl⟩ := List.mem_map.mp h
    have := inss_in hv
    exact Or.inr ⟨by omega, by omega, by omega, by rw [show 256 + v - 256 = v by omega]; exact this.2⟩
theorem dm_Inv {N A c : Nat} {S : St} (hI : Inv N A S) (h16 : N ≤ 16) (hA : A < 1048576) (h : c ∈ mv0 N S) (t : Int32) : Inv N A (dm t N c S) := by
  unfold dm
  rcases mv0_in hI h16 h with ⟨h1, h2, h3, _⟩ | ⟨h1, h2, h3, h4⟩
  · rw [if_pos h1]
    exact hI.tbr h16 hA h2 h3 t
  · rw [if_neg (by omega), if_pos h2]
    exact hI.tlv h16 h3 (by rw [h4]; decide) t
theorem dm_Psi {N A c : Nat} {S : St} (hI : Inv N A S) (h2N : 2 ≤ N) (h16 : N ≤ 16) (h : c ∈ mv0 N S) (t : Int32) : Psi N (dm t N c S) ≤ Psi N S + 2 * N := by
  unfold dm Psi
  rcases mv0_in hI h16 h with ⟨h1, h2, h3, _⟩ | ⟨h1, h2, h3, h4⟩
  · rw [if_pos h1]
    have a := br_len hI h2N h16 h2 h3 t
    have b := idl_a (S := S) (S' := br t N (c / 16) (c % 16) S) N (fun u _ => (Kq.tbr S t N (c / 16) (c % 16)).2.1 u)
    have := Nat.mul_le_mul_left N b
    omega
  · rw [if_neg (by omega), if_pos h2]
    have a := lv_len (N := N) (v := c - 256) (S := S) h16 (by omega) t
    have b := idl_c (S := S) (S' := lv t N (c - 256) S) (v := c - 256) N (fun u _ n z => by rwa [lv_R (by decide), if_neg (by omega)] at z)
    rw [if_pos h3] at b
    have := Nat.mul_le_mul_left N b
    rw [Nat.mul_succ] at this
    omega
theorem CJ.c1 {N A P r : Nat} {S0 S : St} (h : CJ N A P S0 S r) (h2N : 2 ≤ N) (h16 : N ≤ 16) (hA : A + N * (r + 1) < 1048576) (hQ : ∀ v, v < N → ∀ i, N ≤ i → i < 32 → bt (qm N S0 v) i = false) (t : Int32) (g : Int64) (b : Bool) : CJ N A P S0 (cr1 t N (S, g, b)).1 (r + 1) := by
  have ad : ∀ x, x ≤ P + 2 * N * r → x ≤ P + 2 * N * (r + 1) := fun x hx => by rw [Nat.mul_succ]; omega
  unfold cr1
  cases b with
  | false =>
    obtain ⟨h1, h2, h3, h4⟩ := h
    exact ⟨h1.mo (by rw [Nat.mul_succ]; omega), ad _ h2, h3, fun u => by obtain ⟨m, hm, e⟩ := h4 u; exact ⟨m, by omega, e⟩⟩
  | true =>
    obtain ⟨a1, a2, a3, a4⟩ := h.aA h16 hA hQ t
    have stay : CJ N A P S0 (akA t N S) (r + 1) := ⟨a1, ad _ a2, a3, fun u => by obtain ⟨m, hm, e⟩ := a4 u; exact ⟨m, by omega, e⟩⟩
    simp only [if_true]
    by_cases c : mv0 N (akA t N S) = []
    · rw [if_pos c]; exact stay
    · rw [if_neg c]
      cases hc : (mv0 N (akA t N S))[dk g (mv0 N (akA t N S)).length]? with
      | none => exact stay
      | some k =>
        simp only []
        have hk := List.mem_of_getElem? hc
        have k272 : k < 272 := by
          rcases mv0_in a1 h16 hk with z | z <;> omega
        have kk := dm_K (N := N) (c := k) (v0 := k - 256) (S := akA t N S) t k272 (Or.inr rfl)
        refine ⟨dm_Inv a1 h16 hA hk t, ?_, a3.tr (fun k' hk' i => kk.1 k' i hk'), fun u => ?_⟩
        · have := dm_Psi a1 h2N h16 hk t
          rw [Nat.mul_succ]
          omega
        · obtain ⟨m, hm, e⟩ := a4 u
          rcases kk.2.2 u with z | z
          · exact ⟨m, by omega, by rw [z, e]⟩
          · exact ⟨m + 1, by omega, by rw [z, e, Int32.add_assoc, nI_1]⟩
theorem Psi_fl {N : Nat} {S : St} : (fl S).length ≤ Psi N S := Nat.le_add_right _ _
/-! ===== the class: a crowd's turns ===== -/
def XT (M : Mem) : Prop := isO M 9 0 ∧ mR M 0 0 = 1 ∧ mR M 0 2 = 14 ∧ mR M 0 3 = 63 ∧ 131 ≤ mN M
theorem XT.fr {M M' : Mem} {h : Nat} (x : XT M) (f : FrH M M' h) : XT M' := by
  obtain ⟨⟨a1, a2⟩, b, c, d, e⟩ := x
  obtain ⟨f1, f2, f3, _⟩ := f
  refine ⟨⟨by omega, ?_⟩, ?_, ?_, ?_, by omega⟩
  · rw [mC, f2 0 a1]; exact a2
  · rw [f3 0 0 a1 (by omega)]; exact b
  · rw [f3 0 2 a1 (by omega)]; exact c
  · rw [f3 0 3 a1 (by omega)]; exact d
theorem XT.sL {M : Mem} (x : XT M) (o k : Nat) (y : Int64) : XT (sL M o k y) := x
theorem XT.frD {M M' : Mem} {h : Nat} (x : XT M) (f : FrD M M' h) : XT M' := by
  obtain ⟨y, f⟩ := f
  exact (x.sL h 16 y).fr f
theorem crn_f (t : Int32) (N : Nat) (S : St) (g : Int64) : ∀ n, crn t N n (S, g, false) = (S, g, false) := by
  intro n
  induction n with
  | zero => rfl
  | succ n ih => exact ih
theorem cr1_e {t : Int32} {N : Nat} {S : St} {g : Int64} (h : mv0 N (akA t N S) = []) : cr1 t N (S, g, true) = (akA t N S, g, false) := by
  unfold cr1
  simp only [if_true]
  rw [if_pos h]
theorem cr1_s {t : Int32} {N c : Nat} {S : St} {g : Int64} (h : mv0 N (akA t N S) ≠ []) (hc : (mv0 N (akA t N S))[dk g (mv0 N (akA t N S)).length]? = some c) : cr1 t N (S, g, true) = (dm t N c (akA t N S), drw g, true) := by
  unfold cr1
  simp only [if_true]
  rw [if_neg h, hc]
set_option maxHeartbeats 1000000 in
theorem HV.crl {N A P T X Y : Nat} {t w : Int32} {Q : Nat → Int32} {S0 : St} {pb pt : List Row4} (h2N : 2 ≤ N) (h16 : N ≤ 16) (hT : T ≤ 500) (hQ : ∀ v, v < N → qm N S0 v = Q v) (hQb : ∀ v, v < N → ∀ i, N ≤ i → i < 32 → bt (qm N S0 v) i = false) (hA : ∀ r, r ≤ T → A + N * (r + 1) < 1048576) (hP : ∀ r, r ≤ T → P + 2 * N * r + N * N + N ≤ 9000) : ∀ (d i n : Nat) (M : Mem) (S : St) (g : Int64) (b : Bool), i + d = T → HV M 63 X Y t N Q S pb pt → XT M → mL M 63 16 = g → Gk g → CJ N A P S0 S i → d + 60 ≤ n → ∃ M' n', f_X9_crowd_52 n 0 (nI T) w (if b then 1 else 0) (nI i) M = f_X9_crowd_85 n' 0 w M' ∧ 40 ≤ n' ∧ HV M' 63 X Y t N Q (crn t N d (S, g, b)).1 pb pt ∧ FrD M M' 63 ∧ CJ N A P S0 (crn t N d (S, g, b)).1 T := by
  intro d
  induction d with
  | zero =>
    intro i n M S g b hi p x hg hG J hn
    obtain ⟨n, rfl⟩ : ∃ m, n = m + 1 := ⟨n - 1, by omega⟩
    refine ⟨M, n, ?_, by omega, p, (FrH.rf _ _).D, by rw [show T = i by omega]; exact J⟩
    rw [f_X9_crowd_52, if_pos (nI_le (by omega) (by omega))]
  | succ d ih =>
    intro i n M S g b hi p x hg hG J hn
    obtain ⟨n, rfl⟩ : ∃ m, n = m + 1 := ⟨n - 1, by omega⟩
    have next := J.c1 h2N h16 (hA i (by omega)) hQb t g b
    cases b with
    | false =>
      have e : crn t N (d + 1) (S, g, false) = (S, g, false) := crn_f _ _ _ _ _
      rw [e]
      refine ⟨M, n, ?_, by omega, p, (FrH.rf _ _).D, ?_⟩
      · rw [f_X9_crowd_52, if_neg (nI_ge (by omega) (by omega)), if_neg (show ¬ false = true by decide), if_pos rfl]
      · have ad : ∀ d i, i + d = T → CJ N A P S0 S i → CJ N A P S0 S T := by
          intro d
          induction d with
          | zero => intro i hi J; rw [show T = i by omega]; exact J
          | succ d ih2 => intro i hi J; exact ih2 (i + 1) (by omega) (J.c1 h2N h16 (hA i (by omega)) hQb t g false)
        exact ad (d + 1) i hi J
    | true =>
      obtain ⟨a1, a2, a3, a4⟩ := J.aA h16 (hA i (by omega)) hQb t
      have hPi := hP i (by omega)
      have hps := J.2.1
      have hfl := Psi_fl (N := N) (S := S)
      have hfl1 := Psi_fl (N := N) (S := akA t N S)
      obtain ⟨M1, e1, p1, f1⟩ := p.takA h16 J.1.1 (fun v hv => by rw [J.2.2.1.m]; exact hQ v hv) (by omega) (n := n) (by omega)
      have x1 := x.fr f1
      have g1 : mL M1 63 16 = g := (f1.2.2.2.2.1 63 (by have := x.2.2.2.2; omega) 16).trans hg
      obtain ⟨s1, s2⟩ := p1.dr (n := n) a1 (hA i (by omega)) h2N h16 (by omega) (by have := x1.2.2.2.2; omega) g1 hG (by omega)
      have hd : ∀ y : Option (Int32 × Mem), (obd2 (f_X2_moveByDraw n 63 M1) fun r16 M17 => bnd (nI i + (1 : Int32)) fun x18 => f_X9_crowd_52 n 0 (nI T) w r16 x18 M17) = y → f_X9_crowd_52 (n + 1) 0 (nI T) w (if true = true then 1 else 0) (nI i) M = y := by
        intro y hy
        rw [f_X9_crowd_52, if_neg (nI_ge (by omega) (by omega)), if_pos rfl, if_neg ne10, chk_t x.1, x.2.2.2.1, bnd_e, cs_f p.1, e1, obd_s, chk_t x1.1, x1.2.2.2.1, bnd_e, cs_f p1.1]
        exact hy
      have ec : crn t N (d + 1) (S, g, true) = crn t N d (cr1 t N (S, g, true)) := rfl
      rw [ec]
      by_cases c : mv0 N (akA t N S) = []
      · have em := s1 c
        rw [cr1_e c] at next ⊢
        obtain ⟨M', n', e', hn', p', f', J'⟩ := ih (i + 1) n M1 _ g false (by omega) p1 x1 g1 hG next (by omega)
        refine ⟨M', n', hd _ ?_, hn', p', f1.D.tr f', J'⟩
        rw [em, obd2_s, nI_1, bnd_e]
        exact e'
      · obtain ⟨k, M2, hk, em, p2, g2, f2⟩ := s2 c
        rw [cr1_s c hk] at next ⊢
        obtain ⟨M', n', e', hn', p', f', J'⟩ := ih (i + 1) n M2 _ (drw g) true (by omega) p2 (x1.frD f2) g2 (Gk_drw hG) next (by omega)
        refine ⟨M', n', hd _ ?_, hn', p', (f1.D.tr f2).tr f', J'⟩
        rw [em, obd2_s, nI_1, bnd_e]
        exact e'
/-! ===== the reference: a crowd's turns ===== -/
theorem FrG.ofA {M M' : Mem} (f : Fr PA M M') : FrG M M' := (FrM.ofA f).G
set_option maxHeartbeats 1000000 in
theorem RV.crl {N A P T : Nat} {tw : Bool} {t w e1 e2 e3 : Int32} {S0 : St} {pb pt : List Row4} (h2N : 2 ≤ N) (h16 : N ≤ 16) (hT : T ≤ 500) (hN0 : xR S0 20 0 = nI N) (ht0 : xR S0 20 1 = 1 → N % 2 = 1) (hQb : ∀ v, v < N → ∀ i, N ≤ i → i < 32 → bt (qm N S0 v) i = false) (hA : ∀ r, r ≤ T → A + N * (r + 1) < 1048576) (hP : ∀ r, r ≤ T → P + 2 * N * r + N * N + N ≤ 9000) : ∀ (d i n : Nat) (M : Mem) (S : St) (g : Int64) (b : Bool), i + d = T → RV M tw t S pb pt → mI M 120 7 = 0 → mL M 120 8 = g → Gk g → CJ N A P S0 S i → d + 12000 ≤ n → ∃ M' n', f_X10_crowd_102 n 120 (nI T) w e1 e2 e3 (if b then 1 else 0) (nI i) M = f_X10_crowd_129 n' 120 w e1 e2 e3 M' ∧ 11000 ≤ n' ∧ RV M' tw t (crn t N d (S, g, b)).1 pb pt ∧ FrG M M' := by
  intro d
  induction d with
  | zero =>
    intro i n M S g b hi p hk hg hG J hn
    obtain ⟨n, rfl⟩ : ∃ m, n = m + 1 := ⟨n - 1, by omega⟩
    refine ⟨M, n, ?_, by omega, p, FrG.rf _⟩
    rw [f_X10_crowd_102, if_pos (nI_le (by omega) (by omega))]
  | succ d ih =>
    intro i n M S g b hi p hk hg hG J hn
    obtain ⟨n, rfl⟩ : ∃ m, n = m + 1 := ⟨n - 1, by omega⟩
    have next := J.c1 h2N h16 (hA i (by omega)) hQb t g b
    cases b with
    | false =>
      have e : crn t N (d + 1) (S, g, false) = (S, g, false) := crn_f _ _ _ _ _
      rw [e]
      refine ⟨M, n, ?_, by omega, p, FrG.rf _⟩
      rw [f_X10_crowd_102, if_neg (nI_ge (by omega) (by omega)), if_neg (show ¬ false = true by decide), if_pos rfl]
    | true =>
      obtain ⟨a1, a2, a3, a4⟩ := J.aA h16 (hA i (by omega)) hQb t
      have hPi := hP i (by omega)
      have hps := J.2.1
      have hfl := Psi_fl (N := N) (S := S)
      have hfl1 := Psi_fl (N := N) (S := akA t N S)
      have hk20 := J.2.2.1 20 (by omega)
      obtain ⟨M1, e1', p1, f1⟩ := p.takA (N := N) (by rw [hk20]; exact hN0) h16 (by rw [hk20]; exact ht0) (by omega) (n := n) (by omega)
      have k1 : mI M1 120 7 = 0 := (f1.2.1 120 (by unfold PA; omega) 7).trans hk
      have g1 : mL M1 120 8 = g := (f1.2.2 120 8).trans hg
      have ka := a3 20 (by omega)
      obtain ⟨M2, s1, s2, f2⟩ := p1.goO (n := n) a1 (by rw [ka]; exact hN0) h2N h16 (by rw [ka]; exact ht0) (hA i (by omega)) (by omega) k1 g1 hG (by omega)
      have hd : ∀ y : Option (Int32 × Mem), (obd2 (f_X10_goOnce n 120 M1) fun r10 M11 => bnd (nI i + (1 : Int32)) fun x12 => f_X10_crowd_102 n 120 (nI T) w e1 e2 e3 r10 x12 M11) = y → f_X10_crowd_102 (n + 1) 120 (nI T) w e1 e2 e3 (if true = true then 1 else 0) (nI i) M = y := by
        intro y hy
        rw [f_X10_crowd_102, if_neg (nI_ge (by omega) (by omega)), if_pos rfl, if_neg ne10, rs_f p.1, e1', obd_s, rs_f p1.1]
        exact hy
      have ec : crn t N (d + 1) (S, g, true) = crn t N d (cr1 t N (S, g, true)) := rfl
      rw [ec]
      have k2 : mI M2 120 7 = 0 := (f2.2.2.1 7 (by decide)).trans k1
      by_cases c : mv0 N (akA t N S) = []
      · obtain ⟨em, p2, g2⟩ := s1 c
        rw [cr1_e c] at next ⊢
        obtain ⟨M', n', e', hn', p', f'⟩ := ih (i + 1) n M2 _ g false (by omega) p2 k2 g2 hG next (by omega)
        refine ⟨M', n', hd _ ?_, hn', p', FrG.tr (FrG.ofA f1) (FrG.tr f2 f')⟩
        rw [em, obd2_s, nI_1, bnd_e]
        exact e'
      · obtain ⟨k, hk', em, p2, g2⟩ := s2 c
        rw [cr1_s c hk'] at next ⊢
        obtain ⟨M', n', e', hn', p', f'⟩ := ih (i + 1) n M2 _ (drw g) true (by omega) p2 k2 g2 (Gk_drw hG) next (by omega)
        refine ⟨M', n', hd _ ?_, hn', p', FrG.tr (FrG.ofA f1) (FrG.tr f2 f')⟩
        rw [em, obd2_s, nI_1, bnd_e]
        exact e'
/-! ===== what is told of a crowd ===== -/
def sa6 (S : St) : Int32 := (((((0 + xR S 16 0) + xR S 16 1) + xR S 16 2) + xR S 16 3) + xR S 16 4) + xR S 16 5
def nwE (S0 S : St) (v : Nat) : Int32 := xR S 12 v - xR S0 12 v
def fwl (S0 S : St) (ws : List Nat) (x : Int32) : Int32 := ws.foldl (fun x v => if xR S0 7 v = 0 then (if x = -1 then nwE S0 S v else if x ≤ nwE S0 S v then x else nwE S0 S v) else x) x
def mwl (S0 S : St) (ws : List Nat) (x : Int32) : Int32 := ws.foldl (fun x v => mxI x (nwE S0 S v)) x
def cT (N : Nat) (S0 S : St) (w : Nat) : Int32 :=
  if w = 0 then xR S 15 0 - xR S0 15 0 else if w = 1 then fwl S0 S (List.range N) (-1) else if w = 2 then mwl S0 S (List.range N) 0 else if w = 3 then xR S 15 2 - xR S0 15 2 else if w = 4 then sa6 S - sa6 S0 else xR S 15 4
theorem fwl_s (S0 S : St) (i d : Nat) (x : Int32) : fwl S0 S (List.range' i (d + 1)) x = fwl S0 S (List.range' (i + 1) d) (if xR S0 7 i = 0 then (if x = -1 then nwE S0 S i else if x ≤ nwE S0 S i then x else nwE S0 S i) else x) := by
  unfold fwl
  rw [List.range'_succ, List.foldl_cons]
theorem mwl_s (S0 S : St) (i d : Nat) (x : Int32) : mwl S0 S (List.range' i (d + 1)) x = mwl S0 S (List.range' (i + 1) d) (mxI x (nwE S0 S i)) := by
  unfold mwl
  rw [List.range'_succ, List.foldl_cons]
/-- what is looked at of the hall itself -/
def HH (M : Mem) (k : Nat) (S : St) : Prop := CS M k ∧ (∀ v, v < 16 → mI M (k + 17 + 2 * v) 11 = xR S 12 v) ∧ (∀ v, v < 16 → bt (mI M k 9) v = decide (xR S 7 v = 1)) ∧ mI M k 11 = xR S 15 0 ∧ mI M k 12 = xR S 15 2 ∧ ∀ j, j < 6 → mI M (k + 6) j = xR S 16 j
theorem HV.hh {M : Mem} {h X Y N : Nat} {t : Int32} {Q : Nat → Int32} {S : St} {pb pt : List Row4} (p : HV M h X Y t N Q S pb pt) : HH M h S := by
  obtain ⟨d5, d6, d7, len, K, fr, us, ow, w, _⟩ := p.2.1
  refine ⟨p.1, fun v hv => p.fs hv (a := 11) (k := 12) (by decide), fun v hv => ?_, p.gs (b := 11) (j := 0) (by decide), p.gs (b := 12) (j := 2) (by decide), w.2.2.2.2.2.2.2.1⟩
  rw [p.2.2.1.2.2.2.1 v (by omega)]
  simp [hv]
theorem HH.cg {M M' : Mem} {k : Nat} {S : St} (h : HH M k S) (q : CS M' k) (hI : ∀ o, k ≤ o → o < k + 49 → ¬ (k + 7 ≤ o ∧ o ≤ k + 9) → ∀ b, mI M' o b = mI M o b) : HH M' k S := by
  obtain ⟨_, a2, a3, a4, a5, a6⟩ := h
  exact ⟨q, fun v hv => by rw [hI _ (by omega) (by omega) (by omega)]; exact a2 v hv, fun v hv => by rw [hI k (by omega) (by omega) (by omega)]; exact a3 v hv, by rw [hI k (by omega) (by omega) (by omega)]; exact a4, by rw [hI k (by omega) (by omega) (by omega)]; exact a5, fun j hj => by rw [hI _ (by omega) (by omega) (by omega)]; exact a6 j hj⟩
theorem f_sent {M : Mem} {k n : Nat} {S : St} (q : CS M k) (h : ∀ j, j < 6 → mI M (k + 6) j = xR S 16 j) (hn : 7 ≤ n) : f_X5_sentInAll n (k + 1) M = some (sa6 S) := by
  obtain ⟨n, rfl⟩ : ∃ m, n = m + 7 := ⟨n - 7, by omega⟩
  have st : ∀ j m x, j < 6 → f_X5_sentInAll_4 M (m + 1) (k + 1) x (nI j) = f_X5_sentInAll_4 M m (k + 1) (x + xR S 16 j) (nI (j + 1)) := fun j m x hj => by
    rw [f_X5_sentInAll_4, if_neg (show ¬ (6 : Int32) ≤ nI j from nI_ge (a := j) (b := 6) hj (by decide)), cs_p q, cs_r6 q, bnd_e, cs_a6 q, cs_i6 q hj, mI_c (by omega), h j hj, bnd_e, nI_1, bnd_e]
  rw [f_X5_sentInAll, show (0 : Int32) = nI 0 from rfl, st 0 _ _ (by decide), st 1 _ _ (by decide), st 2 _ _ (by decide), st 3 _ _ (by decide), st 4 _ _ (by decide), st 5 _ _ (by decide), f_X5_sentInAll_4, if_pos (by decide)]
  rfl
theorem f_nw {M : Mem} {X Y N : Nat} {t : Int32} {Q : Nat → Int32} {S0 S : St} {pb pt : List Row4} (p : HV M 63 X Y t N Q S pb pt) (x : XT M) (o : HH M 14 S0) {v : Nat} (hv : v < 16) : f_X9_newEntries 0 (nI v) M = some (nwE S0 S v) := by
  have q := p.1
  have q0 := o.1
  rw [f_X9_newEntries, chk_t x.1, x.2.2.2.1, bnd_e, cs_f q, cs_h2 q, bnd_e, cs_a10 q, cs_i10 q hv, cs_rpc q hv, bnd_e, cs_po q hv, x.2.2.1, bnd_e, cs_f q0, cs_h2 q0, bnd_e, cs_a10 q0, cs_i10 q0 hv, cs_rpc q0 hv, bnd_e, cs_po q0 hv, p.fs hv (a := 11) (k := 12) (by decide), o.2.1 v hv]
  rfl
theorem few_l {M : Mem} {X Y N : Nat} {t : Int32} {Q : Nat → Int32} {S0 S : St} {pb pt : List Row4} (p : HV M 63 X Y t N Q S pb pt) (x : XT M) (o : HH M 14 S0) (h16 : N ≤ 16) (h7 : ∀ v, v < 16 → xR S0 7 v = 0 ∨ xR S0 7 v = 1) : ∀ (d i n : Nat) (y : Int32), i + d = N → d + 1 ≤ n → f_X9_fewestNewEntries_4 M n 0 y (nI i) = some (fwl S0 S (List.range' i d) y) := by
  intro d
  induction d with
  | zero =>
    intro i n y hi hn
    obtain ⟨n, rfl⟩ : ∃ m, n = m + 1 := ⟨n - 1, by omega⟩
    rw [f_X9_fewestNewEntries_4, chk_t x.1, x.2.1, bnd_e, cs_s p.1, p.2.2.2.2.2.1, if_pos (nI_le (by omega) (by omega))]
    rfl
  | succ d ih =>
    intro i n y hi hn
    obtain ⟨n, rfl⟩ : ∃ m, n = m + 1 := ⟨n - 1, by omega⟩
    have en := f_nw p x o (v := i) (by omega)
    rw [fwl_s, f_X9_fewestNewEntries_4, chk_t x.1, x.2.1, bnd_e, cs_s p.1, p.2.2.2.2.2.1, if_neg (nI_ge (by omega) (by omega)), x.2.2.1, bnd_e, cs_f o.1, f_has9 _ (by omega), obd_s, o.2.2.1 i (by omega)]
    have tk : f_X9_fewestNewEntries_43 (f_X9_fewestNewEntries_4 M n) M n 0 (nI i) = some (fwl S0 S (List.range' (i + 1) d) (nwE S0 S i)) := by
      rw [f_X9_fewestNewEntries_43, chk_t x.1, en, obd_s, nI_1, bnd_e, ih _ _ _ (by omega) (by omega)]
    by_cases c : xR S0 7 i = 0
    · rw [if_pos c, if_neg (show ¬ decide (xR S0 7 i = 1) = true from fun z => by rw [c] at z; exact absurd (of_decide_eq_true z) (by decide)), if_pos rfl]
      by_cases c1 : y = -1
      · rw [if_pos c1, if_pos c1, tk]
      · rw [if_neg c1, if_neg c1, en, obd_s]
        by_cases c2 : y ≤ nwE S0 S i
        · rw [if_pos c2, if_pos c2, nI_1, bnd_e, ih _ _ _ (by omega) (by omega)]
        · rw [if_neg c2, if_neg c2, tk]
    · have c1 := (h7 i (by omega)).resolve_left c
      rw [if_neg c, if_pos (decide_eq_true c1), if_neg ne10, nI_1, bnd_e, ih _ _ _ (by omega) (by omega)]
theorem most_l {M : Mem} {X Y N : Nat} {t : Int32} {Q : Nat → Int32} {S0 S : St} {pb pt : List Row4} (p : HV M 63 X Y t N Q S pb pt) (x : XT M) (o : HH M 14 S0) (h16 : N ≤ 16) : ∀ (d i n : Nat) (y : Int32), i + d = N → d + 1 ≤ n → f_X9_mostNewEntries_4 M n 0 y (nI i) = some (mwl S0 S (List.range' i d) y) := by
  intro d
  induction d with
  | zero =>
    intro i n y hi hn
    obtain ⟨n, rfl⟩ : ∃ m, n = m + 1 := ⟨n - 1, by omega⟩
    rw [f_X9_mostNewEntries_4, chk_t x.1, x.2.1, bnd_e, cs_s p.1, p.2.2.2.2.2.1, if_pos (nI_le (by omega) (by omega))]
    rfl
  | succ d ih =>
    intro i n y hi hn
    obtain ⟨n, rfl⟩ : ∃ m, n = m + 1 := ⟨n - 1, by omega⟩
    rw [mwl_s, f_X9_mostNewEntries_4, chk_t x.1, x.2.1, bnd_e, cs_s p.1, p.2.2.2.2.2.1, if_neg (nI_ge (by omega) (by omega)), f_nw p x o (v := i) (by omega), obd_s, bnd_e, nI_1, bnd_e, ih _ _ _ (by omega) (by omega)]
    rfl
theorem c85 {M : Mem} {X Y N n : Nat} {t : Int32} {Q : Nat → Int32} {S0 S : St} {pb pt : List Row4} (p : HV M 63 X Y t N Q S pb pt) (x : XT M) (o : HH M 14 S0) (h16 : N ≤ 16) (h7 : ∀ v, v < 16 → xR S0 7 v = 0 ∨ xR S0 7 v = 1) {w : Nat} (hw : w < 6) (hn : 17 ≤ n) : f_X9_crowd_85 n 0 (nI w) M = some (cT N S0 S w, M) := by
  have q := p.1
  have q0 := o.1
  obtain ⟨o1, o2, o3, o4, o5, o6⟩ := id o
  have er : List.range N = List.range' 0 N := List.range_eq_range'
  unfold cT
  rw [f_X9_crowd_85]
  rcases (show w = 0 ∨ w = 1 ∨ w = 2 ∨ w = 3 ∨ w = 4 ∨ w = 5 by omega) with rfl | rfl | rfl | rfl | rfl | rfl
  · rw [if_pos (show nI 0 = (0 : Int32) from rfl), if_pos rfl, chk_t x.1, x.2.2.2.1, bnd_e, cs_f q, x.2.2.1, bnd_e, cs_f q0, p.gs (b := 11) (j := 0) (by decide), o4]
  · rw [if_neg (show ¬ nI 1 = (0 : Int32) by decide), if_pos (show nI 1 = (1 : Int32) from rfl), if_neg (show ¬ (1 : Nat) = 0 by decide), if_pos rfl, chk_t x.1, f_X9_fewestNewEntries, er, show f_X9_fewestNewEntries_4 M n 0 (-1) 0 = _ from few_l p x o h16 h7 N 0 n (-1) (by omega) (by omega), obd_s]
  · rw [if_neg (show ¬ nI 2 = (0 : Int32) by decide), if_neg (show ¬ nI 2 = (1 : Int32) by decide), if_pos (show nI 2 = (2 : Int32) from rfl), if_neg (show ¬ (2 : Nat) = 0 by decide), if_neg (show ¬ (2 : Nat) = 1 by decide), if_pos rfl, chk_t x.1, f_X9_mostNewEntries, er, show f_X9_mostNewEntries_4 M n 0 0 0 = _ from most_l p x o h16 N 0 n 0 (by omega) (by omega), obd_s]
  · rw [if_neg (show ¬ nI 3 = (0 : Int32) by decide), if_neg (show ¬ nI 3 = (1 : Int32) by decide), if_neg (show ¬ nI 3 = (2 : Int32) by decide), if_pos (show nI 3 = (3 : Int32) from rfl), if_neg (show ¬ (3 : Nat) = 0 by decide), if_neg (show ¬ (3 : Nat) = 1 by decide), if_neg (show ¬ (3 : Nat) = 2 by decide), if_pos rfl, chk_t x.1, x.2.2.2.1, bnd_e, cs_f q, x.2.2.1, bnd_e, cs_f q0, p.gs (b := 12) (j := 2) (by decide), o5]
  · have s1 := f_sent (n := n) q p.hh.2.2.2.2.2 (by omega)
    have s2 := f_sent (n := n) q0 o6 (by omega)
    rw [if_neg (show ¬ nI 4 = (0 : Int32) by decide), if_neg (show ¬ nI 4 = (1 : Int32) by decide), if_neg (show ¬ nI 4 = (2 : Int32) by decide), if_neg (show ¬ nI 4 = (3 : Int32) by decide), if_pos (show nI 4 = (4 : Int32) from rfl), if_neg (show ¬ (4 : Nat) = 0 by decide), if_neg (show ¬ (4 : Nat) = 1 by decide), if_neg (show ¬ (4 : Nat) = 2 by decide), if_neg (show ¬ (4 : Nat) = 3 by decide), if_pos rfl, chk_t x.1, x.2.2.2.1, bnd_e, cs_f q, cs_h1 q, bnd_e, cs_p q, s1, obd_s, x.2.2.1, bnd_e, cs_f q0, cs_h1 q0, bnd_e, cs_p q0, s2, obd_s]
  · rw [if_neg (show ¬ nI 5 = (0 : Int32) by decide), if_neg (show ¬ nI 5 = (1 : Int32) by decide), if_neg (show ¬ nI 5 = (2 : Int32) by decide), if_neg (show ¬ nI 5 = (3 : Int32) by decide), if_neg (show ¬ nI 5 = (4 : Int32) by decide), if_neg (show ¬ (5 : Nat) = 0 by decide), if_neg (show ¬ (5 : Nat) = 1 by decide), if_neg (show ¬ (5 : Nat) = 2 by decide), if_neg (show ¬ (5 : Nat) = 3 by decide), if_neg (show ¬ (5 : Nat) = 4 by decide), chk_t x.1, x.2.2.2.1, bnd_e, cs_f q, p.gs (b := 15) (j := 4) (by decide)]
/-! ===== the reference: what is told of a crowd ===== -/
theorem rs_10 {M : Mem} (h : RS M) : mR M 120 10 = 127 := h.r (by decide)
theorem rs_f10 {α : Type} {M : Mem} (h : RS M) (x : Option α) : chk (isO M 100 127) x = x := chk_t (h.io (by decide) (by decide) (by decide))
theorem rs_c10 {α : Type} {M : Mem} (h : RS M) {k : Nat} (hk : k < 16) (x : Option α) : chk (inB (nI k) (mLn M 127)) x = x := by
  refine chk_t ?_
  rw [h.ln (c := 16) (by decide) (by decide) (by decide)]; exact inB_n hk (by decide)
theorem mx_nle (a b : Int32) : mxI a b = if b ≤ a then a else b := by
  unfold mxI
  by_cases c : a < b
  · rw [if_pos c, if_neg (Int32.not_le.mpr c)]
  · rw [if_neg c, if_pos (Int32.not_lt.mp c)]
/-- as cT, but of none 0 -/
def cR (N : Nat) (S0 S : St) (w : Nat) : Int32 :=
  if w = 0 then xR S 15 0 - xR S0 15 0 else if w = 1 then (if fwl S0 S (List.range N) (-1) = -1 then 0 else fwl S0 S (List.range N) (-1)) else if w = 2 then mwl S0 S (List.range N) 0 else if w = 3 then xR S 15 2 - xR S0 15 2 else if w = 4 then sa6 S - sa6 S0 else xR S 15 4
theorem RV.sent {M : Mem} {tw : Bool} {t : Int32} {S : St} {pb pt : List Row4} (p : RV M tw t S pb pt) {n : Nat} (hn : 7 ≤ n) : f_X10_sentAll n 120 M = some (sa6 S) := by
  obtain ⟨n, rfl⟩ : ∃ m, n = m + 7 := ⟨n - 7, by omega⟩
  have st : ∀ j m x, j < 6 → f_X10_sentAll_4 M (m + 1) 120 x (nI j) = f_X10_sentAll_4 M m 120 (x + xR S 16 j) (nI (j + 1)) := fun j m x hj => by
    have e := p.rg (k := 16) (i := j) (by unfold vk; omega)
    rw [show ad 16 j = 9859 + j from rfl] at e
    rw [f_X10_sentAll_4, if_neg (show ¬ (6 : Int32) ≤ nI j from nI_ge (a := j) (b := 6) hj (by decide)), rs_f p.1, rs_0 p.1, bnd_e, rs_fa p.1, show (9859 : Int32) + nI j = nI (9859 + j) by rw [show (9859 : Int32) = nI 9859 from rfl, nI_add], rs_c p.1 (by omega), cl_n (by omega), e, bnd_e, nI_1, bnd_e]
  rw [f_X10_sentAll, show (0 : Int32) = nI 0 from rfl, st 0 _ _ (by decide), st 1 _ _ (by decide), st 2 _ _ (by decide), st 3 _ _ (by decide), st 4 _ _ (by decide), st 5 _ _ (by decide), f_X10_sentAll_4, if_pos (by decide)]
  rfl
set_option maxHeartbeats 1000000 in
theorem tld_l {M : Mem} {tw : Bool} {t : Int32} {S0 S : St} {pb pt : List Row4} {N w : Nat} (p : RV M tw t S pb pt) (hN : xR S 20 0 = nI N) (h16 : N ≤ 16) (h7 : ∀ v, v < 16 → xR S 7 v = xR S0 7 v) (ht : ∀ v, v < N → mI M 127 v = xR S0 12 v) (hw : w < 6) : ∀ (d i n : Nat) (x y : Int32), i + d = N → d + 8 ≤ n → f_X10_crowdTold_9 M n 120 (nI w) (xR S0 15 0) (xR S0 15 2) (sa6 S0) x y (nI i) = some (if w = 0 then xR S 15 0 - xR S0 15 0 else if w = 1 then (if fwl S0 S (List.range' i d) x = -1 then 0 else fwl S0 S (List.range' i d) x) else if w = 2 then mwl S0 S (List.range' i d) y else if w = 3 then xR S 15 2 - xR S0 15 2 else if w = 4 then sa6 S - sa6 S0 else xR S 15 4) := by
  intro d
  induction d with
  | zero =>
    intro i n x y hi hn
    obtain ⟨n, rfl⟩ : ∃ m, n = m + 1 := ⟨n - 1, by omega⟩
    have g0 : mI M 121 9851 = xR S 15 0 := p.rg (k := 15) (i := 0) (by unfold vk; omega)
    have g2 : mI M 121 9853 = xR S 15 2 := p.rg (k := 15) (i := 2) (by unfold vk; omega)
    have g4 : mI M 121 9855 = xR S 15 4 := p.rg (k := 15) (i := 4) (by unfold vk; omega)
    rw [f_X10_crowdTold_9, rs_f p.1, rs_0 p.1, bnd_e, rs_fa p.1, rs_c0 p.1, cl0, p.N hN, if_pos (nI_le (by omega) (by omega))]
    rcases (show w = 0 ∨ w = 1 ∨ w = 2 ∨ w = 3 ∨ w = 4 ∨ w = 5 by omega) with rfl | rfl | rfl | rfl | rfl | rfl
    · rw [if_pos (show nI 0 = (0 : Int32) from rfl), if_pos rfl, bnd_e, rs_fa p.1, show (9851 : Int32) = nI 9851 from rfl, rs_c p.1 (by decide), cl_n (by decide), g0]
    · rw [if_neg (show ¬ nI 1 = (0 : Int32) by decide), if_pos (show nI 1 = (1 : Int32) from rfl), if_neg (show ¬ (1 : Nat) = 0 by decide), if_pos rfl]
      show (if x = -1 then some 0 else some x) = some (if x = -1 then 0 else x)
      by_cases c : x = -1
      · rw [if_pos c, if_pos c]
      · rw [if_neg c, if_neg c]
    · rw [if_neg (show ¬ nI 2 = (0 : Int32) by decide), if_neg (show ¬ nI 2 = (1 : Int32) by decide), if_pos (show nI 2 = (2 : Int32) from rfl), if_neg (show ¬ (2 : Nat) = 0 by decide), if_neg (show ¬ (2 : Nat) = 1 by decide), if_pos rfl]
      rfl
    · rw [if_neg (show ¬ nI 3 = (0 : Int32) by decide), if_neg (show ¬ nI 3 = (1 : Int32) by decide), if_neg (show ¬ nI 3 = (2 : Int32) by decide), if_pos (show nI 3 = (3 : Int32) from rfl), if_neg (show ¬ (3 : Nat) = 0 by decide), if_neg (show ¬ (3 : Nat) = 1 by decide), if_neg (show ¬ (3 : Nat) = 2 by decide), if_pos rfl, bnd_e, rs_fa p.1, show (9853 : Int32) = nI 9853 from rfl, rs_c p.1 (by decide), cl_n (by decide), g2]
    · have s1 := p.sent (n := n) (by omega)
      rw [if_neg (show ¬ nI 4 = (0 : Int32) by decide), if_neg (show ¬ nI 4 = (1 : Int32) by decide), if_neg (show ¬ nI 4 = (2 : Int32) by decide), if_neg (show ¬ nI 4 = (3 : Int32) by decide), if_pos (show nI 4 = (4 : Int32) from rfl), if_neg (show ¬ (4 : Nat) = 0 by decide), if_neg (show ¬ (4 : Nat) = 1 by decide), if_neg (show ¬ (4 : Nat) = 2 by decide), if_neg (show ¬ (4 : Nat) = 3 by decide), if_pos rfl, s1, obd_s]
    · rw [if_neg (show ¬ nI 5 = (0 : Int32) by decide), if_neg (show ¬ nI 5 = (1 : Int32) by decide), if_neg (show ¬ nI 5 = (2 : Int32) by decide), if_neg (show ¬ nI 5 = (3 : Int32) by decide), if_neg (show ¬ nI 5 = (4 : Int32) by decide), if_neg (show ¬ (5 : Nat) = 0 by decide), if_neg (show ¬ (5 : Nat) = 1 by decide), if_neg (show ¬ (5 : Nat) = 2 by decide), if_neg (show ¬ (5 : Nat) = 3 by decide), if_neg (show ¬ (5 : Nat) = 4 by decide), bnd_e, rs_fa p.1, show (9855 : Int32) = nI 9855 from rfl, rs_c p.1 (by decide), cl_n (by decide), g4]
  | succ d ih =>
    intro i n x y hi hn
    obtain ⟨n, rfl⟩ : ∃ m, n = m + 1 := ⟨n - 1, by omega⟩
    have i6 : i < 16 := by omega
    have ec : f_X10_countOf 120 (nI i) (0 : Int32) M = some (xR S 12 i) := p.cnt i6 (w := 0) (by decide)
    have k65 : ∀ x', f_X10_crowdTold_65 (f_X10_crowdTold_9 M n) M n 120 (nI w) (xR S0 15 0) (xR S0 15 2) (sa6 S0) x' y (nI i) (nwE S0 S i) = f_X10_crowdTold_9 M n 120 (nI w) (xR S0 15 0) (xR S0 15 2) (sa6 S0) x' (mxI y (nwE S0 S i)) (nI (i + 1)) := by
      intro x'
      rw [f_X10_crowdTold_65, mx_nle, nI_1]
      by_cases c : nwE S0 S i ≤ y
      · rw [if_pos c, if_pos c, bnd_e]
      · rw [if_neg c, if_neg c, bnd_e]
    rw [fwl_s, mwl_s, f_X10_crowdTold_9, rs_f p.1, rs_0 p.1, bnd_e, rs_fa p.1, rs_c0 p.1, cl0, p.N hN, if_neg (nI_ge (by omega) (by omega)), ec, obd_s, rs_10 p.1, bnd_e, rs_f10 p.1, rs_c10 p.1 i6, mI_c (by omega), ht i (by omega), show xR S 12 i - xR S0 12 i = nwE S0 S i from rfl, bnd_e, p.get7 i6, obd_s, h7 i i6]
    by_cases c : xR S0 7 i = 0
    · rw [if_pos c, if_pos c]
      by_cases c1 : x = -1
      · rw [if_pos c1, if_pos c1, k65, ih _ _ _ _ (by omega) (by omega)]
      · rw [if_neg c1, if_neg c1]
        by_cases c2 : x ≤ nwE S0 S i
        · rw [if_pos c2, if_pos c2, k65, ih _ _ _ _ (by omega) (by omega)]
        · rw [if_neg c2, if_neg c2, k65, ih _ _ _ _ (by omega) (by omega)]
    · rw [if_neg c, if_neg c, k65, ih _ _ _ _ (by omega) (by omega)]
theorem RV.told {M : Mem} {tw : Bool} {t : Int32} {S0 S : St} {pb pt : List Row4} {N w n : Nat} (p : RV M tw t S pb pt) (hN : xR S 20 0 = nI N) (h16 : N ≤ 16) (h7 : ∀ v, v < 16 → xR S 7 v = xR S0 7 v) (ht : ∀ v, v < N → mI M 127 v = xR S0 12 v) (hw : w < 6) (hn : 30 ≤ n) : f_X10_crowdTold n 120 (nI w) (xR S0 15 0) (xR S0 15 2) (sa6 S0) M = some (cR N S0 S w) := by
  have := tld_l p hN h16 h7 ht hw N 0 n (-1) 0 (by omega) (by omega)
  rw [f_X10_crowdTold]
  unfold cR
  rw [List.range_eq_range']
  exact this
/-! ===== a crowd: the two answers ===== -/
theorem f_isI {a b : Nat} (M : Mem) (h : a ≤ b) (hb : b < 2 ^ 31) : f_X10_isIn (nI a) (0 : Int32) (nI b) M = some 1 := by
  rw [f_X10_isIn, if_neg (show ¬ nI a < 0 from nI_nlt (b := 0) (by omega) (by omega)), if_neg (nI_nlt h hb)]
theorem c59_l {tw : Bool} {t a1 a2 a3 x19 x25 r28 : Int32} {S0 : St} {pb pt : List Row4} {N : Nat} (hN : xR S0 20 0 = nI N) (h16 : N ≤ 16) : ∀ (d i n : Nat) (M : Mem), i + d = N → RV M tw t S0 pb pt → (∀ v, v < i → mI M 127 v = xR S0 12 v) → d + 1 ≤ n → ∃ M' n', f_X10_crowd_59 n 120 a1 a2 a3 x19 x25 r28 (nI i) M = f_X10_crowd_102 n' 120 a2 a3 x19 x25 r28 (1 : Int32) (0 : Int32) (sL M' 120 8 (a1.toInt64)) ∧ n ≤ n' + d + 1 ∧ RV M' tw t S0 pb pt ∧ (∀ v, v < N → mI M' 127 v = xR S0 12 v) ∧ ∀ k, mI M' 120 k = mI M 120 k := by
  intro d
  induction d with
  | zero =>
    intro i n M hi p ht hn
    obtain ⟨n, rfl⟩ : ∃ m, n = m + 1 := ⟨n - 1, by omega⟩
    refine ⟨M, n, ?_, by omega, p, fun v hv => ht v (by omega), fun _ => rfl⟩
    rw [f_X10_crowd_59, rs_f p.1, rs_0 p.1, bnd_e, rs_fa p.1, rs_c0 p.1, cl0, p.N hN, if_pos (nI_le (by omega) (by omega)), bnd_e]
  | succ d ih =>
    intro i n M hi p ht hn
    obtain ⟨n, rfl⟩ : ∃ m, n = m + 1 := ⟨n - 1, by omega⟩
    have i6 : i < 16 := by omega
    have ec : f_X10_countOf 120 (nI i) (0 : Int32) M = some (xR S0 12 i) := p.cnt i6 (w := 0) (by decide)
    generalize hMa : sI M 127 i (xR S0 12 i) = Ma
    have pa : RV Ma tw t S0 pb pt := p.cg (by rw [← hMa]; rfl) (by rw [← hMa, mI_o _ _ _ _ _ (by decide)]) (fun b => by rw [← hMa, mI_o _ _ _ _ _ (by decide)]) (fun b => by rw [← hMa, mI_o _ _ _ _ _ (by decide)])
    obtain ⟨M', n', e', hn', p', t', k'⟩ := ih (i + 1) n Ma (by omega) pa (fun v hv => by
      rw [← hMa]
      by_cases c : v = i
      · rw [c, mI_s]
      · rw [mI_n _ _ _ _ c]; exact ht v (by omega)) (by omega)
    refine ⟨M', n', ?_, by omega, p', t', fun k => by rw [k', ← hMa, mI_o _ _ _ _ _ (by decide)]⟩
    rw [f_X10_crowd_59, rs_f p.1, rs_0 p.1, bnd_e, rs_fa p.1, rs_c0 p.1, cl0, p.N hN, if_neg (nI_ge (by omega) (by omega)), rs_10 p.1, bnd_e, rs_f10 p.1, ec, obd_s, rs_c10 p.1 i6, sI_d (by omega), hMa, bnd_e, nI_1, bnd_e]
    exact e'
/-- what a crowd rests on -/
def CK (N A P T : Nat) (S0 : St) : Prop := 2 ≤ N ∧ N ≤ 16 ∧ T ≤ 500 ∧ CJ N A P S0 S0 0 ∧ xR S0 20 0 = nI N ∧ (xR S0 20 1 = 1 → N % 2 = 1) ∧ (∀ v, v < N → ∀ i, N ≤ i → i < 32 → bt (qm N S0 v) i = false) ∧ (∀ r, r ≤ T → A + N * (r + 1) < 1048576) ∧ ∀ r, r ≤ T → P + 2 * N * r + N * N + N ≤ 9000
theorem CJ_n {N A P T : Nat} {S0 : St} (hk : CK N A P T S0) (t : Int32) : ∀ (d i : Nat) (q : St × Int64 × Bool), i + d ≤ T → CJ N A P S0 q.1 i → CJ N A P S0 (crn t N d q).1 (i + d) := by
  obtain ⟨h2N, h16, hT, _, _, _, hQb, hA, _⟩ := hk
  intro d
  induction d with
  | zero => intro i q _ J; exact J
  | succ d ih =>
    intro i q hi J
    obtain ⟨S, g, b⟩ := q
    have := ih (i + 1) (cr1 t N (S, g, b)) (by omega) (J.c1 h2N h16 (hA i (by omega)) hQb t g b)
    rw [show i + (d + 1) = i + 1 + d by omega]
    exact this
theorem lN_Gk {s : Nat} (h : s < 2 ^ 31) : Gk ((nI s).toInt64) := ⟨s, h, nI_l h⟩
set_option maxHeartbeats 1000000 in
theorem RV.crowd {M : Mem} {tw : Bool} {t : Int32} {S0 : St} {pb pt : List Row4} {N A P T s w n : Nat} (p : RV M tw t S0 pb pt) (hk : CK N A P T S0) (h7 : mI M 120 7 = 0) (hs : s < 2 ^ 31) (hw : w < 6) (hn : 13000 ≤ n) : ∃ M', f_X10_crowd n 120 (nI s) (nI T) (nI w) M = some (cR N S0 (crn t N T (S0, (nI s).toInt64, true)).1 w, M') := by
  obtain ⟨h2N, h16, hT, J, hN, ht, hQb, hA, hP⟩ := id hk
  have ea := f_aside p.1 (n := n) (by omega)
  generalize hMa : cpF M 121 126 0 = Ma at ea
  have pa : RV Ma tw t S0 pb pt := by
    have o : ∀ o, o ≠ 126 → ∀ b, mI Ma o b = mI M o b := fun o n b => by
      rw [← hMa]
      show (if o = 126 ∧ 0 ≤ b ∧ b < 10465 then M.2.1 121 b else M.2.1 o b) = M.2.1 o b
      rw [if_neg (fun z => n z.1)]
    exact p.cg (by rw [← hMa]; rfl) (o 120 (by decide) 3) (o 121 (by decide)) (o 123 (by decide))
  have ka : mI Ma 120 7 = 0 := by
    rw [← hMa]
    show (if 120 = 126 ∧ 0 ≤ 7 ∧ 7 < 10465 then M.2.1 121 7 else M.2.1 120 7) = 0
    rw [if_neg (by decide)]; exact h7
  have g0 : mI Ma 121 9851 = xR S0 15 0 := pa.rg (k := 15) (i := 0) (by unfold vk; omega)
  have g2 : mI Ma 121 9853 = xR S0 15 2 := pa.rg (k := 15) (i := 2) (by unfold vk; omega)
  have sn := pa.sent (n := n) (by omega)
  obtain ⟨M1, n1, e1, hn1, p1, t1, k1⟩ := c59_l (a1 := nI s) (a2 := nI T) (a3 := nI w) (x19 := xR S0 15 0) (x25 := xR S0 15 2) (r28 := sa6 S0) hN h16 N 0 n Ma (by omega) pa (fun v hv => by omega) (by omega)
  have p2 : RV (sL M1 120 8 ((nI s).toInt64)) tw t S0 pb pt := p1.tsL _ _ _
  obtain ⟨M3, n3, e3, hn3, p3, f3⟩ := RV.crl (w := nI w) (e1 := xR S0 15 0) (e2 := xR S0 15 2) (e3 := sa6 S0) h2N h16 hT hN ht hQb hA hP T 0 n1 (sL M1 120 8 ((nI s).toInt64)) S0 ((nI s).toInt64) true (by omega) p2 (by
    show mI M1 120 7 = 0
    rw [k1]; exact ka) (mL_s _ _ _ _) (lN_Gk hs) J (by omega)
  have J3 := CJ_n hk t T 0 (S0, (nI s).toInt64, true) (by omega) J
  have r20 := J3.2.2.1 20 (by omega) 0
  have tl := p3.told (S0 := S0) (n := n3) (w := w) (r20.trans hN) h16 (fun v _ => J3.2.2.1 7 (by omega) v) (fun v hv => by
    rw [f3.2.1 127 (by decide) v]; exact t1 v hv) hw (by omega)
  have eb := f_back p3.1 (n := n3) (by omega)
  refine ⟨cpF M3 126 121 0, ?_⟩
  rw [f_X10_crowd, if_neg (show ¬ nI s < 0 from nI_nlt (b := 0) (by omega) hs), show (500 : Int32) = nI 500 from rfl, f_isI M hT (by decide), obd_s, if_neg ne10, show (5 : Int32) = nI 5 from rfl, f_isI M (show w ≤ 5 by omega) (by decide), obd_s, if_neg ne10, rs_f p.1, ea, obd_s, rs_f pa.1, rs_0 pa.1, bnd_e, rs_fa pa.1, show (9851 : Int32) = nI 9851 from rfl, rs_c pa.1 (by decide), cl_n (by decide), g0, bnd_e, bnd_e, rs_fa pa.1, show (9853 : Int32) = nI 9853 from rfl, rs_c pa.1 (by decide), cl_n (by decide), g2, bnd_e, sn, obd_s, show (0 : Int32) = nI 0 from rfl, e1]
  have e3' : f_X10_crowd_102 n1 120 (nI T) (nI w) (xR S0 15 0) (xR S0 15 2) (sa6 S0) (1 : Int32) (0 : Int32) (sL M1 120 8 ((nI s).toInt64)) = f_X10_crowd_129 n3 120 (nI w) (xR S0 15 0) (xR S0 15 2) (sa6 S0) M3 := e3
  rw [e3', f_X10_crowd_129, rs_f p3.1, tl, obd_s, eb, obd_s]
theorem idl_clr (S : St) : ∀ n, idl (clr S) n = idl S n := by
  intro n
  induction n with
  | zero => rfl
  | succ n ih => unfold idl; rw [ih]; rfl
theorem CJ_clr {N A P : Nat} {S : St} (J : CJ N A P S S 0) : CJ N A P (clr S) (clr S) 0 := by
  obtain ⟨h1, h2, h3, h4⟩ := J
  refine ⟨h1, ?_, fun _ _ _ => rfl, fun u => h4 u⟩
  unfold Psi at h2 ⊢
  rw [idl_clr]
  exact h2
/-- the reference's objects stay -/
def FrO (M M' : Mem) : Prop := mN M ≤ mN M' ∧ ∀ o, 112 ≤ o → o < 131 → M'.1.2.1 o = M.1.2.1 o ∧ (∀ b, mR M' o b = mR M o b) ∧ (∀ b, mI M' o b = mI M o b) ∧ ∀ b, mL M' o b = mL M o b
theorem FrH.o {M M' : Mem} (f : FrH M M' 63) (hN : 131 ≤ mN M) (hR : ∀ i, 5 ≤ i → i ≤ 7 → mR M 64 i = 63 + 2 + i ∨ 131 ≤ mR M 64 i) : FrO M M' := by
  obtain ⟨f1, f2, f3, f4, f5, f6⟩ := f
  have r5 := hR 5 (by decide) (by decide)
  have r6 := hR 6 (by decide) (by decide)
  have r7 := hR 7 (by decide) (by decide)
  refine ⟨f1, fun o h1 h2 => ⟨f2 o (by omega), fun b => f3 o b (by omega) (by omega), fun b => f4 o (by omega) (by omega) (show o ≠ mR M 64 5 by omega) (show o ≠ mR M 64 6 by omega) (show o ≠ mR M 64 7 by omega) b, fun b => f5 o (by omega) b⟩⟩
theorem FrH.r57 {M M' : Mem} (f : FrH M M' 63) (hN : 131 ≤ mN M) (hR : ∀ i, 5 ≤ i → i ≤ 7 → mR M 64 i = 63 + 2 + i ∨ 131 ≤ mR M 64 i) : ∀ i, 5 ≤ i → i ≤ 7 → mR M' 64 i = 63 + 2 + i ∨ 131 ≤ mR M' 64 i := by
  intro i a b
  have z : mR M' 64 i = mR M 64 i ∨ mN M ≤ mR M' 64 i := f.2.2.2.2.2 i a b
  rcases z with z | z
  · rw [z]; exact hR i a b
  · exact Or.inr (by omega)
theorem FrO.tr {M M' M'' : Mem} (f : FrO M M') (f' : FrO M' M'') : FrO M M'' := by
  refine ⟨Nat.le_trans f.1 f'.1, fun o h1 h2 => ?_⟩
  obtain ⟨a1, a2, a3, a4⟩ := f.2 o h1 h2
  obtain ⟨b1, b2, b3, b4⟩ := f'.2 o h1 h2
  exact ⟨b1.trans a1, fun b => (b2 b).trans (a2 b), fun b => (b3 b).trans (a3 b), fun b => (b4 b).trans (a4 b)⟩
set_option maxHeartbeats 1000000 in
theorem HV.crowd {M : Mem} {X Y X' Y' N A P T s w n : Nat} {t : Int32} {Q : Nat → Int32} {S0 : St} {pb pt pb' pt' : List Row4} (p : HV M 14 X Y t N Q S0 pb pt) (r : TR M 63 X' Y' pb' pt') (x : XT M) (hz : ∃ u, u ≤ 64 ∧ mI M 15 8 = nI u) (hD : ∀ i j, 5 ≤ i → i ≤ 7 → 5 ≤ j → j ≤ 7 → mR M 64 i ≠ mR M 15 j) (hR : ∀ i, 5 ≤ i → i ≤ 7 → mR M 64 i = 63 + 2 + i) (hk : CK N A P T S0) (hQ : ∀ v, v < N → qm N S0 v = Q v) (hs : s < 2 ^ 31) (hw : w < 6) (hn : 1000 ≤ n) : ∃ M', f_X9_crowd n 0 (nI s) (nI T) (nI w) M = some (cT N S0 (crn t N T (clr S0, (nI s).toInt64, true)).1 w, M') ∧ FrO M M' := by
  obtain ⟨h2N, h16, hT, J, hN, ht, hQb, hA, hP⟩ := id hk
  have hI := J.1
  have hAA := hI.1
  have hFF := hI.2.2.2.2.2.1
  obtain ⟨M1, e1, p1, f1⟩ := p.copy (n := n) r (by omega) h16 hD (fun v hv => (hAA v hv).2.2.2) (fun v hv w hw => by have := ((hFF v hv).1.2.2 w hw).1; omega) (by omega)
  have x1 := x.fr f1
  generalize hM2 : sL M1 63 16 ((nI s).toInt64) = M2
  have p2 : HV M2 63 X' Y' t N Q (clr S0) pb' pt' := by rw [← hM2]; exact p1.tsL _ _ _
  have x2 : XT M2 := by rw [← hM2]; exact x1.sL _ _ _
  have g2 : mL M2 63 16 = (nI s).toInt64 := by rw [← hM2, mL_s]
  have J0 : CJ N A P (clr S0) (clr S0) 0 := CJ_clr J
  obtain ⟨M3, n3, e3, hn3, p3, f3, J3⟩ := HV.crl (w := nI w) (S0 := clr S0) h2N h16 hT hQ hQb hA hP T 0 n M2 (clr S0) ((nI s).toInt64) true (by omega) p2 x2 g2 (lN_Gk hs) J0 (by omega)
  have x3 := x2.frD f3
  obtain ⟨y, f3⟩ := f3
  have hN1 := x.2.2.2.2
  have o14 : HH M3 14 S0 := by
    have q1 : mN M ≤ mN M1 := f1.1
    have cs3 : CS M3 14 := by
      have c := p.1
      refine ⟨fun i hi hn => ?_, fun q hq => ?_, ?_, ?_, c.2.2.2.2.1, c.2.2.2.2.2.1, x3.2.2.2.2⟩
      · rw [f3.2.1 (14 + i) (by show 14 + i < mN M2; rw [← hM2]; show 14 + i < mN M1; omega), ← hM2]
        show M1.1.2.1 (14 + i) = _
        rw [f1.2.1 (14 + i) (by omega)]
        exact c.1 i hi hn
      · have hb : ∀ z, z ∈ tH → z.1 < 49 := by decide
        have hb' := hb q hq
        rw [f3.2.2.1 (14 + q.1) q.2.1 (by show 14 + q.1 < mN M2; rw [← hM2]; show 14 + q.1 < mN M1; omega) (by omega), ← hM2]
        show mR M1 (14 + q.1) q.2.1 = _
        rw [f1.2.2.1 (14 + q.1) q.2.1 (by omega) (by omega)]
        exact c.2.1 q hq
      · rw [f3.2.2.1 14 0 (by show 14 < mN M2; rw [← hM2]; show 14 < mN M1; omega) (by omega), ← hM2]
        show mR M1 14 0 = 1
        rw [f1.2.2.1 14 0 (by omega) (by omega)]
        exact c.2.2.1
      · have c1 := p3.1.2.2.2.1
        exact c1
    refine p.hh.cg cs3 (fun o h1 h2 h3 b => ?_)
    have m1 : mI M1 o b = mI M o b := f1.2.2.2.1 o (by omega) (by omega) (by rw [hR 5 (by decide) (by decide)]; omega) (by rw [hR 6 (by decide) (by decide)]; omega) (by rw [hR 7 (by decide) (by decide)]; omega) b
    have rr : ∀ j, 5 ≤ j → j ≤ 7 → o ≠ mR M1 64 j := fun j a b => by
      have z' : mR M1 64 j = mR M 64 j ∨ mN M ≤ mR M1 64 j := f1.2.2.2.2.2 j a b
      rcases z' with z | z
      · rw [z, hR j a b]; omega
      · omega
    have m3 : mI M3 o b = mI M1 o b := by
      have := f3.2.2.2.1 o (by show o < mN M2; rw [← hM2]; show o < mN M1; omega) (by omega) (by
        show o ≠ mR M2 64 5
        rw [← hM2]; exact rr 5 (by decide) (by decide)) (by
        show o ≠ mR M2 64 6
        rw [← hM2]; exact rr 6 (by decide) (by decide)) (by
        show o ≠ mR M2 64 7
        rw [← hM2]; exact rr 7 (by decide) (by decide)) b
      rw [this, ← hM2]; rfl
    rw [m3, m1]
  have c := c85 (n := n3) p3 x3 o14 h16 (fun v hv => (hAA v hv).2.2.1) hw (by omega)
  have hR' : ∀ i, 5 ≤ i → i ≤ 7 → mR M 64 i = 63 + 2 + i ∨ 131 ≤ mR M 64 i := fun i a b => Or.inl (hR i a b)
  have O1 := f1.o hN1 hR'
  have O2 : FrO M1 M2 := by
    rw [← hM2]
    refine ⟨Nat.le_refl _, fun o a b => ⟨rfl, fun _ => rfl, fun _ => rfl, fun b' => ?_⟩⟩
    rw [mL_sL, if_neg (by omega)]
  have hR2 : ∀ i, 5 ≤ i → i ≤ 7 → mR (sL M2 63 16 y) 64 i = 63 + 2 + i ∨ 131 ≤ mR (sL M2 63 16 y) 64 i := fun i a b => by
    rw [← hM2]; exact f1.r57 hN1 hR' i a b
  have O3 := f3.o (by show 131 ≤ mN M2; rw [← hM2]; exact Nat.le_trans hN1 O1.1) hR2
  have O3' : FrO M2 M3 := by
    refine FrO.tr (M' := sL M2 63 16 y) ⟨Nat.le_refl _, fun o a b => ⟨rfl, fun _ => rfl, fun _ => rfl, fun b' => ?_⟩⟩ O3
    rw [mL_sL, if_neg (by omega)]
  refine ⟨M3, ?_, (O1.tr O2).tr O3'⟩
  rw [f_X9_crowd, if_neg (show ¬ nI s < 0 from nI_nlt (b := 0) (by omega) hs), if_neg (show ¬ nI T < 0 from nI_nlt (b := 0) (by omega) (by omega)), if_neg (show ¬ (500 : Int32) < nI T from nI_nlt (a := 500) (by omega) (by decide)), if_neg (show ¬ nI w < 0 from nI_nlt (b := 0) (by omega) (by omega)), if_pos (show nI w ≤ (5 : Int32) from nI_le (b := 5) (by omega) (by decide)), chk_t x.1, x.2.2.2.1, bnd_e, chk_t (show isO M 2 63 from r.1.io (i := 0) (by decide) (by decide) (by decide)), x.2.2.1, bnd_e, cs_f p.1, e1, obd_s, chk_t x1.1, x1.2.2.2.1, bnd_e, cs_f p1.1, hM2, bnd_e]
  have e3' : f_X9_crowd_52 n 0 (nI T) (nI w) (1 : Int32) (0 : Int32) M2 = f_X9_crowd_85 n3 0 (nI w) M3 := e3
  rw [e3', c]
