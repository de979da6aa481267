/-! ===== leaving, asking: what they cost ===== -/
theorem lv_phv {t : Int32} {N v a : Nat} {S : St} : phv (lv t N v S) a v = 0 := by
  unfold phv
  have e : ∀ k, 3 ≤ k → k ≤ 6 → xR (lv t N v S) k v = 0 := fun k h1 h2 => by rw [lv_R (by omega), if_pos ⟨rfl, Or.inr ⟨h1, h2⟩⟩]
  rw [e 4 (by decide) (by decide), e 3 (by decide) (by decide), e 5 (by decide) (by decide), b_0]
  simp
theorem lv_phL {t : Int32} {N v a : Nat} {S : St} (h16 : N ≤ 16) (hv : v < 16) : phL a (lv t N v S) = phL a S + (if a < N ∧ bt (xR S 3 v) a = true then 1 else 0) := by
  unfold lv
  rw [phL_sA h16 hv (by omega), phL_c (S' := rst v S) (S := S) rfl]
theorem lv_W {t : Int32} {N v : Nat} {S : St} : xW (lv t N v S) = xW S := by unfold lv; rw [sA_W]; rfl
theorem lv_X {N A : Nat} {S : St} (hI : Inv N A S) (h16 : N ≤ 16) (hX : IX N S) {v : Nat} (hv : v < N) (h0 : xR S 0 v ≠ 0) (t : Int32) : IX N (lv t N v S) ∧ ∀ a, a < 16 → Ph a (lv t N v S) ≤ Ph a S + (if xR S 0 v = 2 then 0 else 1) := by
  obtain ⟨hQ, hV, hK⟩ := hX
  refine ⟨⟨hQ.cg lv_W (fun k b hk => by rw [lv_R (by omega), if_neg (by omega)]), ?_, ?_⟩, fun a ha => ?_⟩
  · intro u hu h2 i hi hb
    by_cases c : u = v
    · subst c
      rw [lv_R (by decide), if_pos ⟨rfl, by omega⟩] at h2
      exact absurd h2 (by decide)
    · rw [lv_R (by decide), if_neg (by omega)] at h2 hb ⊢
      exact hV u hu h2 i hi hb
  · refine hK.st h16 (fun x => by rw [lv_R (by decide), if_neg (by omega)]) (fun x hx _ z => ?_) (fun u x hu hx _ z => ?_) ?_
    · rw [lv_R (by decide)]; split
      · rfl
      · exact z
    · rw [lv_R (by decide)]; split
      · exact b_0 _
      · exact z
    · have uv : Ub S v := fun q => h0 (hK v hv q).1
      have r7 : ∀ x, xR (rst v S) 7 x = xR S 7 x := fun x => by rw [rst_R, if_neg (by omega)]
      refine LK.tr (S' := rst v S) (LK.eq rfl) r7 ?_
      exact LK.tsA h16 (by omega) (by unfold Ub; rw [r7]; exact uv) (fun i hi hb => by unfold Ub; rw [r7]; exact hK.use hv hi hb)
  · refine Ph_at (v := v) (by omega) (fun k u hu hk => by rw [lv_R (by omega), if_neg (by omega)]) (d := if a < N ∧ bt (xR S 3 v) a = true then 1 else 0) (Nat.le_of_eq (lv_phL h16 (by omega))) ?_
    rw [lv_phv]
    by_cases c : xR S 0 v = 2
    · rw [if_pos c]
      unfold phv
      have : (if a < N ∧ bt (xR S 3 v) a = true then 1 else 0 : Nat) ≤ if bt (xR S 4 v) a = true ∧ bt (xR S 3 v) a = true then 1 else 0 := ite_le (fun z => ⟨hV v hv c a z.1 z.2, z.2⟩)
      omega
    · rw [if_neg c]
      have : (if a < N ∧ bt (xR S 3 v) a = true then 1 else 0 : Nat) ≤ 1 := by split <;> omega
      omega
theorem ak_phv {t : Int32} {N v a : Nat} {S : St} : phv (ak t N v S) a v = 0 := by
  unfold phv
  have e4 : xR (ak t N v S) 4 v = 0 := by rw [ak_R (by decide), if_pos rfl]; rfl
  have e5 : xR (ak t N v S) 5 v = 0 := by rw [ak_R (by decide), if_pos rfl]; rfl
  rw [e4, e5, b_0]
  simp
theorem ak_phL {t : Int32} {N v a : Nat} {S : St} (h16 : N ≤ 16) (hv : v < 16) : phL a (ak t N v S) = phL a S + (if a < N ∧ bt (qm N S v) a = true then 1 else 0) := by
  unfold ak
  simp only []
  rw [phL_sA h16 hv (by omega)]
  rfl
theorem ak_Ro {t : Int32} {N v : Nat} {S : St} {k u : Nat} (hk : k ≠ 16) (hu : u ≠ v) : xR (ak t N v S) k u = xR S k u := by rw [ak_R hk, if_neg hu]
theorem ak_Rk {t : Int32} {N v : Nat} {S : St} {k u : Nat} (hk : 7 ≤ k ∧ k ≠ 13 ∧ k ≠ 14 ∧ k ≠ 16) : xR (ak t N v S) k u = xR S k u := by
  rw [ak_R (by omega)]
  by_cases c : u = v
  · rw [if_pos c, if_neg (by omega), if_neg (by omega), if_neg (by omega), if_neg (by omega), if_neg (by omega), if_neg (by omega), if_neg (by omega), if_neg (by omega), if_neg (by omega)]
  · rw [if_neg c]
theorem ak_X {N : Nat} {S : St} (h16 : N ≤ 16) (hX : IX N S) {v : Nat} (hv : v < N) (h7 : Ub S v) (hU : ∀ i, i < N → bt (qm N S v) i = true → Ub S i) (t : Int32) : IX N (ak t N v S) ∧ ∀ a, a < 16 → Ph a (ak t N v S) ≤ Ph a S + (if a < N ∧ bt (qm N S v) a = true then 1 else 0) := by
  obtain ⟨hQ, hV, hK⟩ := hX
  refine ⟨⟨hQ.cg ak_W (fun k b hk => ak_Rk (by omega)), ?_, ?_⟩, fun a ha => ?_⟩
  · intro u hu h2 i hi hb
    by_cases c : u = v
    · subst c
      have : xR (ak t N u S) 0 u = 1 := by rw [ak_R (by decide), if_pos rfl]; rfl
      rw [this] at h2
      exact absurd h2 (by decide)
    · rw [ak_Ro (by decide) c] at h2 hb ⊢
      exact hV u hu h2 i hi hb
  · refine hK.st h16 (fun x => ak_Rk (by omega)) (fun x hx q z => ?_) (fun u x hu hx q z => ?_) ?_
    · by_cases c : x = v
      · subst c; exact absurd q h7
      · rw [ak_Ro (by decide) c]; exact z
    · by_cases c : u = v
      · subst c
        have : xR (ak t N u S) 3 u = qm N S u := by rw [ak_R (by decide), if_pos rfl]; rfl
        rw [this]
        cases hb : bt (qm N S u) x with
        | false => rfl
        | true => exact absurd q (hU x hx hb)
      · rw [ak_Ro (by decide) c]; exact z
    · intro f g hf hg q e
      rw [ak_L h16 (by omega) (by omega), if_neg]
      · exact e
      · rintro ⟨z1, z2, z3⟩
        have e1 : f = v := by omega
        have e2 : (16 * f + g) % 16 = g := by omega
        rw [e2] at z2 z3
        subst e1
        exact q.elim h7 (hU g z2 z3)
  · refine Ph_at (v := v) (by omega) (fun k u hu hk => ak_Ro (by omega) hu) (d := if a < N ∧ bt (qm N S v) a = true then 1 else 0) (Nat.le_of_eq (ak_phL h16 (by omega))) ?_
    rw [ak_phv]
    omega
