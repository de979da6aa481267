/-! ===== a crowd's turn, on the model ===== -/
def idl (S : St) : Nat → Nat
  | 0 => 0
  | n + 1 => idl S n + (if xR S 0 n = 0 then 1 else 0)
theorem idl_c {S S' : St} {v : Nat} : ∀ n, (∀ u, u < n → u ≠ v → xR S' 0 u = 0 → xR S 0 u = 0) → idl S' n ≤ idl S n + (if v < n then 1 else 0) := by
  intro n
  induction n with
  | zero => intro _; exact Nat.zero_le _
  | succ n ih =>
    intro h
    have i := ih (fun u hu => h u (by omega))
    have hn := h n (by omega)
    unfold idl
    by_cases c : n = v
    · subst c
      rw [if_neg (Nat.lt_irrefl _)] at i
      rw [if_pos (show n < n + 1 by omega)]
      split <;> split <;> omega
    · have e : (if v < n + 1 then 1 else 0) = (if v < n then 1 else 0) := by
        by_cases d : v < n
        · rw [if_pos d, if_pos (by omega)]
        · rw [if_neg d, if_neg (by omega)]
      rw [e]
      by_cases z : xR S' 0 n = 0
      · rw [if_pos z, if_pos (hn c z)]; omega
      · rw [if_neg z]; omega
theorem idl_a {S S' : St} (n : Nat) (h : ∀ u, u < n → xR S' 0 u = 0 → xR S 0 u = 0) : idl S' n ≤ idl S n := by
  have := idl_c (v := n) n (fun u hu _ => h u hu)
  rwa [if_neg (Nat.lt_irrefl _)] at this
theorem idl_b {S S' : St} {v : Nat} (h0 : xR S 0 v = 0) (h1 : ¬ xR S' 0 v = 0) : ∀ n, (∀ u, u < n → u ≠ v → xR S' 0 u = 0 → xR S 0 u = 0) → idl S' n + (if v < n then 1 else 0) ≤ idl S n := by
  intro n
  induction n with
  | zero => intro _; exact Nat.le_refl _
  | succ n ih =>
    intro h
    have i := ih (fun u hu => h u (by omega))
    have hn := h n (by omega)
    unfold idl
    by_cases c : n = v
    · subst c
      rw [if_neg (Nat.lt_irrefl _)] at i
      rw [if_pos (show n < n + 1 by omega), if_pos h0, if_neg h1]
      omega
    · have e : (if v < n + 1 then 1 else 0) = (if v < n then 1 else 0) := by
        by_cases d : v < n
        · rw [if_pos d, if_pos (by omega)]
        · rw [if_neg d, if_neg (by omega)]
      rw [e]
      by_cases z : xR S' 0 n = 0
      · rw [if_pos z, if_pos (hn c z)]; omega
      · rw [if_neg z]; omega
theorem idl_le (S : St) : ∀ n, idl S n ≤ n := by
  intro n
  induction n with
  | zero => exact Nat.le_refl _
  | succ n ih => unfold idl; split <;> omega
/-- letters on the way, and those that idle ones may yet send -/
def Psi (N : Nat) (S : St) : Nat := (fl S).length + N * idl S N
theorem Qk.tr {S S' S'' : St} (h : Qk S S') (h' : Qk S' S'') : Qk S S'' := fun k hk i => (h' k hk i).trans (h k hk i)
theorem Qk.rf (S : St) : Qk S S := fun _ _ _ => rfl
theorem ak_Psi {N v : Nat} {S : St} (h16 : N ≤ 16) (hv : v < N) (h0 : xR S 0 v = 0) (t : Int32) : Psi N (ak t N v S) ≤ Psi N S := by
  have a := ak_len (N := N) (v := v) (S := S) h16 (by omega) t
  have b := idl_b (S := S) (S' := ak t N v S) (v := v) h0 (by rw [ak_R (by decide), if_pos rfl, if_pos rfl]; decide) N (fun u _ n z => by rwa [ak_R (by decide), if_neg n] at z)
  rw [if_pos hv] at b
  have c : N * (idl (ak t N v S) N + 1) ≤ N * idl S N := Nat.mul_le_mul_left N b
  rw [Nat.mul_succ] at c
  unfold Psi
  omega
theorem ak_12 {t : Int32} {N v : Nat} {S : St} (u : Nat) : xR (ak t N v S) 12 u = xR S 12 u := by
  rw [ak_R (by decide)]
  by_cases c : u = v
  · rw [if_pos c]; rfl
  · rw [if_neg c]
theorem akl_J {N : Nat} (h16 : N ≤ 16) (t : Int32) : ∀ (d i B : Nat) (S : St), i + d ≤ N → Inv N B S → B + d < 1048576 → (∀ v, v < N → ∀ i, N ≤ i → i < 32 → bt (qm N S v) i = false) → Inv N (B + d) (akl t N (List.range' i d) S) ∧ Psi N (akl t N (List.range' i d) S) ≤ Psi N S ∧ Qk S (akl t N (List.range' i d) S) ∧ ∀ u, xR (akl t N (List.range' i d) S) 12 u = xR S 12 u := by
  intro d
  induction d with
  | zero => intro i B S _ hI _ _; exact ⟨hI, Nat.le_refl _, Qk.rf S, fun _ => rfl⟩
  | succ d ih =>
    intro i B S hi hI hB hQ
    have el : akl t N (List.range' i (d + 1)) S = akl t N (List.range' (i + 1) d) (if mayA N i S then ak t N i S else S) := by
      unfold akl
      rw [List.range'_succ, List.foldl_cons]
    rw [el]
    by_cases c : mayA N i S = true
    · rw [if_pos c]
      have c0 : xR S 0 i = 0 := by
        unfold mayA at c
        exact of_decide_eq_true (Bool.and_eq_true _ _ |>.mp c).1
      have hI1 := hI.tak h16 (v := i) (by omega) c0 (by omega) (hQ i (by omega)) t
      have k := Qk.ak t N i S
      obtain ⟨a1, a2, a3, a4⟩ := ih (i + 1) (B + 1) (ak t N i S) (by omega) hI1 (by omega) (fun v hv => by rw [k.m]; exact hQ v hv)
      rw [show B + (d + 1) = B + 1 + d by omega]
      exact ⟨a1, Nat.le_trans a2 (ak_Psi h16 (by omega) c0 t), k.tr a3, fun u => (a4 u).trans (ak_12 u)⟩
    · rw [if_neg c]
      obtain ⟨a1, a2, a3, a4⟩ := ih (i + 1) B S (by omega) hI (by omega) hQ
      exact ⟨a1.mo (by omega), a2, a3, a4⟩
/-- what holds of a crowd after r turns -/
def CJ (N A P : Nat) (S0 S : St) (r : Nat) : Prop := Inv N (A + N * r) S ∧ Psi N S ≤ P + 2 * N * r ∧ Qk S0 S ∧ ∀ u, ∃ m, m ≤ r ∧ xR S 12 u = xR S0 12 u + nI m
theorem CJ.aA {N A P r : Nat} {S0 S : St} (h : CJ N A P S0 S r) (h16 : N ≤ 16) (hA : A + N * (r + 1) < 1048576) (hQ : ∀ v, v < N → ∀ i, N ≤ i → i < 32 → bt (qm N S0 v) i = false) (t : Int32) : Inv N (A + N * (r + 1)) (akA t N S) ∧ Psi N (akA t N S) ≤ P + 2 * N * r ∧ Qk S0 (akA t N S) ∧ ∀ u, ∃ m, m ≤ r ∧ xR (akA t N S) 12 u = xR S0 12 u + nI m := by
  obtain ⟨h1, h2, h3, h4⟩ := h
  rw [Nat.mul_succ] at hA
  have e : akA t N S = akl t N (List.range' 0 N) S := by unfold akA; rw [List.range_eq_range']
  obtain ⟨a1, a2, a3, a4⟩ := akl_J h16 t N 0 (A + N * r) S (by omega) h1 (by omega) (fun v hv => by rw [h3.m]; exact hQ v hv)
  rw [e, Nat.mul_succ, ← Nat.add_assoc]
  exact ⟨a1, by omega, h3.tr a3, fun u => by rw [a4]; exact h4 u⟩
theorem mv0_in {N A : Nat} {S : St} (hI : Inv N A S) (h16 : N ≤ 16) {c : Nat} (h : c ∈ mv0 N S) : (c < 256 ∧ c / 16 < N ∧ c % 16 < N ∧ xL S c ≠ []) ∨ (256 ≤ c ∧ c < 272 ∧ c - 256 < N ∧ xR S 0 (c - 256) = 2) := by
  unfold mv0 at h
  rcases List.mem_append.mp h with h | h
  · have := lanes_in h
    by_cases q : c / 16 < N ∧ c % 16 < N
    · exact Or.inl ⟨this.1, q.1, q.2, this.2⟩
    · exact absurd ((hI.2.2.2.2.1 c this.1).2 q) this.2
  · obtain ⟨v, hv, rfl⟩ := List.mem_map.mp h
    have := inss_in hv
    exact Or.inr ⟨by omega, by omega, by omega, by rw [show 256 + v - 256 = v by omega]; exact this.2⟩
theorem dm_Inv {N A c : Nat} {S : St} (hI : Inv N A S) (h16 : N ≤ 16) (hA : A < 1048576) (h : c ∈ mv0 N S) (t : Int32) : Inv N A (dm t N c S) := by
  unfold dm
  rcases mv0_in hI h16 h with ⟨h1, h2, h3, _⟩ | ⟨h1, h2, h3, h4⟩
  · rw [if_pos h1]
    exact hI.tbr h16 hA h2 h3 t
  · rw [if_neg (by omega), if_pos h2]
    exact hI.tlv h16 h3 (by rw [h4]; decide) t
theorem dm_Psi {N A c : Nat} {S : St} (hI : Inv N A S) (h2N : 2 ≤ N) (h16 : N ≤ 16) (h : c ∈ mv0 N S) (t : Int32) : Psi N (dm t N c S) ≤ Psi N S + 2 * N := by
  unfold dm Psi
  rcases mv0_in hI h16 h with ⟨h1, h2, h3, _⟩ | ⟨h1, h2, h3, h4⟩
  · rw [if_pos h1]
    have a := br_len hI h2N h16 h2 h3 t
    have b := idl_a (S := S) (S' := br t N (c / 16) (c % 16) S) N (fun u _ => (Kq.tbr S t N (c / 16) (c % 16)).2.1 u)
    have := Nat.mul_le_mul_left N b
    omega
  · rw [if_neg (by omega), if_pos h2]
    have a := lv_len (N := N) (v := c - 256) (S := S) h16 (by omega) t
    have b := idl_c (S := S) (S' := lv t N (c - 256) S) (v := c - 256) N (fun u _ n z => by rwa [lv_R (by decide), if_neg (by omega)] at z)
    rw [if_pos h3] at b
    have := Nat.mul_le_mul_left N b
    rw [Nat.mul_succ] at this
    omega
theorem CJ.c1 {N A P r : Nat} {S0 S : St} (h : CJ N A P S0 S r) (h2N : 2 ≤ N) (h16 : N ≤ 16) (hA : A + N * (r + 1) < 1048576) (hQ : ∀ v, v < N → ∀ i, N ≤ i → i < 32 → bt (qm N S0 v) i = false) (t : Int32) (g : Int64) (b : Bool) : CJ N A P S0 (cr1 t N (S, g, b)).1 (r + 1) := by
  have ad : ∀ x, x ≤ P + 2 * N * r → x ≤ P + 2 * N * (r + 1) := fun x hx => by rw [Nat.mul_succ]; omega
  unfold cr1
  cases b with
  | false =>
    obtain ⟨h1, h2, h3, h4⟩ := h
    exact ⟨h1.mo (by rw [Nat.mul_succ]; omega), ad _ h2, h3, fun u => by obtain ⟨m, hm, e⟩ := h4 u; exact ⟨m, by omega, e⟩⟩
  | true =>
    obtain ⟨a1, a2, a3, a4⟩ := h.aA h16 hA hQ t
    have stay : CJ N A P S0 (akA t N S) (r + 1) := ⟨a1, ad _ a2, a3, fun u => by obtain ⟨m, hm, e⟩ := a4 u; exact ⟨m, by omega, e⟩⟩
    simp only [if_true]
    by_cases c : mv0 N (akA t N S) = []
    · rw [if_pos c]; exact stay
    · rw [if_neg c]
      cases hc : (mv0 N (akA t N S))[dk g (mv0 N (akA t N S)).length]? with
      | none => exact stay
      | some k =>
        simp only []
        have hk := List.mem_of_getElem? hc
        have k272 : k < 272 := by
          rcases mv0_in a1 h16 hk with z | z <;> omega
        have kk := dm_K (N := N) (c := k) (v0 := k - 256) (S := akA t N S) t k272 (Or.inr rfl)
        refine ⟨dm_Inv a1 h16 hA hk t, ?_, a3.tr (fun k' hk' i => kk.1 k' i hk'), fun u => ?_⟩
        · have := dm_Psi a1 h2N h16 hk t
          rw [Nat.mul_succ]
          omega
        · obtain ⟨m, hm, e⟩ := a4 u
          rcases kk.2.2 u with z | z
          · exact ⟨m, by omega, by rw [z, e]⟩
          · exact ⟨m + 1, by omega, by rw [z, e, Int32.add_assoc, nI_1]⟩
theorem Psi_fl {N : Nat} {S : St} : (fl S).length ≤ Psi N S := Nat.le_add_right _ _
