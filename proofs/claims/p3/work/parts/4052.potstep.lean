/-! ===== the steps: what they send is paid for ===== -/
theorem ite_le {A B : Prop} [Decidable A] [Decidable B] (h : A → B) : (if A then 1 else 0 : Nat) ≤ if B then 1 else 0 := by
  by_cases a : A
  · rw [if_pos a, if_pos (h a)]; exact Nat.le_refl _
  · rw [if_neg a]; exact Nat.zero_le _
theorem ite_or {A B e : Prop} [Decidable A] [Decidable B] [Decidable e] (h : A → B ∨ e) : (if A then 1 else 0 : Nat) ≤ (if B then 1 else 0) + if e then 1 else 0 := by
  by_cases a : A
  · rcases h a with b | b
    · rw [if_pos a, if_pos b]; exact Nat.le_add_right _ _
    · rw [if_pos a, if_pos b]; exact Nat.le_add_left _ _
  · rw [if_neg a]; exact Nat.zero_le _
theorem phv_le {S S' : St} {a v : Nat} {e : Prop} [Decidable e] (h1 : bt (xR S' 4 v) a = true ∧ bt (xR S' 3 v) a = true → (bt (xR S 4 v) a = true ∧ bt (xR S 3 v) a = true) ∨ e) (h2 : bt (xR S' 5 v) a = true → bt (xR S 5 v) a = true) : phv S' a v ≤ phv S a v + if e then 1 else 0 := by
  unfold phv
  have p1 := ite_or h1
  have p2 := ite_le h2
  omega
theorem Ph_at {a v : Nat} {S S' : St} (hv : v < 16) (h : ∀ k u, u ≠ v → k = 3 ∨ k = 4 ∨ k = 5 → xR S' k u = xR S k u) {d e : Nat} (hL : phL a S' ≤ phL a S + d) (hB : phv S' a v + d ≤ phv S a v + e) : Ph a S' ≤ Ph a S + e := by
  have := phB_at (a := a) hv h
  unfold Ph
  omega
theorem gr_WL {t : Int32} {N v a : Nat} {S : St} : xW (gr t N v a S) = xW S ∧ xL (gr t N v a S) = xL S := by
  unfold gr
  simp only []
  split
  · exact ⟨en_WL.1, en_WL.2⟩
  · exact ⟨rfl, rfl⟩
theorem gr_R {t : Int32} {N v a : Nat} {S : St} {k u : Nat} (hk : k < 11) (h : u ≠ v ∨ k = 1 ∨ k = 2 ∨ k = 3 ∨ 7 ≤ k) : xR (gr t N v a S) k u = xR S k u := by
  unfold gr
  simp only []
  split
  · rw [en_R hk, if_neg (by omega), if_neg (by omega), xR_uR, if_neg (by omega), xR_uR, if_neg (by omega), xR_uR, if_neg (by omega)]
  · rw [xR_uR, if_neg (by omega), xR_uR, if_neg (by omega), xR_uR, if_neg (by omega)]
theorem gr_4 {t : Int32} {N v a : Nat} {S : St} : xR (gr t N v a S) 4 v = bon (xR S 4 v) a := by
  unfold gr
  simp only []
  split
  · rw [en_R (by decide), if_neg (by omega), if_neg (by omega)]; simp [xR_uR]
  · simp [xR_uR]
theorem gr_5 {t : Int32} {N v a : Nat} {S : St} : xR (gr t N v a S) 5 v = 0 ∨ xR (gr t N v a S) 5 v = bof (xR S 5 v) a := by
  unfold gr
  simp only []
  split
  · left; rw [en_R (by decide), if_neg (by omega), if_pos ⟨rfl, rfl⟩]
  · right; simp [xR_uR]
theorem gr_Ph {t : Int32} {N v f a : Nat} {S : St} (hv : v < 16) (hf : f < 16) (ha : a < 16) : Ph a (gr t N v f S) ≤ Ph a S + if a = f then 1 else 0 := by
  refine Ph_at hv (fun k u hu hk => gr_R (by omega) (Or.inl hu)) (d := 0) (Nat.le_of_eq (phL_c gr_WL.2)) (phv_le ?_ ?_)
  · rw [gr_4, gr_R (by decide) (by omega), bt_on _ (by omega) (by omega)]
    rintro ⟨z1, z2⟩
    rcases Bool.or_eq_true _ _ |>.mp z1 with z1 | z1
    · exact Or.inl ⟨z1, z2⟩
    · exact Or.inr (of_decide_eq_true z1)
  · rcases gr_5 (t := t) (N := N) (v := v) (a := f) (S := S) with z | z
    · rw [z, b_0]; intro q; cases q
    · rw [z, bt_off _ (by omega) (by omega)]
      exact fun q => (Bool.and_eq_true _ _ |>.mp q).1
theorem fd_e (t : Int32) (N v f : Nat) (S : St) : fd t N v f S = uR (uR (uR (sA t N 4 v (xR S 5 v) (xR S 2 v) (uR S 6 v (bon (xR S 6 v) f))) 4 v (bfl (xR S 5 v) (List.range N) (xR S 4 v))) 6 v (bnl (xR S 5 v) (List.range N) (bon (xR S 6 v) f))) 5 v 0 := by
  unfold fd sA
  rw [fdl_e, xR_uR, if_neg (by omega), xR_uR, if_neg (by omega), xR_uR, if_pos ⟨rfl, rfl⟩]
theorem fd_R {t : Int32} {N v f : Nat} {S : St} {k u : Nat} (hk : k ≠ 16) (h : u ≠ v ∨ (k ≠ 4 ∧ k ≠ 5 ∧ k ≠ 6)) : xR (fd t N v f S) k u = xR S k u := by
  rw [fd_e, xR_uR, if_neg (by omega), xR_uR, if_neg (by omega), xR_uR, if_neg (by omega), sA_R hk, xR_uR, if_neg (by omega)]
theorem fd_4 {t : Int32} {N v f : Nat} {S : St} : xR (fd t N v f S) 4 v = bfl (xR S 5 v) (List.range N) (xR S 4 v) := by
  rw [fd_e, xR_uR, if_neg (by omega), xR_uR, if_neg (by omega), xR_uR, if_pos ⟨rfl, rfl⟩]
theorem fd_5 {t : Int32} {N v f : Nat} {S : St} : xR (fd t N v f S) 5 v = 0 := by
  rw [fd_e, xR_uR, if_pos ⟨rfl, rfl⟩]
theorem fd_W {t : Int32} {N v f : Nat} {S : St} : xW (fd t N v f S) = xW S := by
  rw [fd_e, xW_uR, xW_uR, xW_uR, sA_W]; rfl
theorem fd_L {t : Int32} {N v f : Nat} {S : St} : xL (fd t N v f S) = xL (sA t N 4 v (xR S 5 v) (xR S 2 v) (uR S 6 v (bon (xR S 6 v) f))) := by
  rw [fd_e]; rfl
theorem fd_Ph {t : Int32} {N v f a : Nat} {S : St} (h16 : N ≤ 16) (hv : v < 16) (ha : a < 16) : Ph a (fd t N v f S) ≤ Ph a S := by
  refine Ph_at (e := 0) hv (fun k u hu hk => fd_R (by omega) (Or.inl hu)) (d := if a < N ∧ bt (xR S 5 v) a = true then 1 else 0) (Nat.le_of_eq ?_) ?_
  · rw [phL_c fd_L, phL_sA h16 hv (by omega), phL_c (S' := uR S 6 v (bon (xR S 6 v) f)) (S := S) rfl]
  · unfold phv
    rw [fd_4, fd_5, b_0, fd_R (by decide) (by omega), if_neg (show ¬ false = true by decide)]
    have p1 : (if bt (bfl (xR S 5 v) (List.range N) (xR S 4 v)) a = true ∧ bt (xR S 3 v) a = true then 1 else 0 : Nat) ≤ if bt (xR S 4 v) a = true ∧ bt (xR S 3 v) a = true then 1 else 0 := ite_le (fun z => ⟨by
      have := z.1
      rw [bfl_b _ _ _ (fun w hw => by have := List.mem_range.mp hw; omega) a (by omega)] at this
      exact (Bool.and_eq_true _ _ |>.mp this).1, z.2⟩)
    have p2 : (if a < N ∧ bt (xR S 5 v) a = true then 1 else 0 : Nat) ≤ if bt (xR S 5 v) a = true then 1 else 0 := ite_le (fun z => z.2)
    omega
theorem yT_R {t : Int32} {v f : Nat} {S : St} {k u : Nat} (hk : k ≠ 16) (h : u ≠ v ∨ (k ≠ 4 ∧ k ≠ 6)) : xR (yT t v f S) k u = xR S k u := by
  unfold yT
  simp only []
  rw [xR_uR, if_neg (by omega), xR_uR, if_neg (by omega), sn_R _ _ _ _ _ _ hk]
theorem yT_4 {t : Int32} {v f : Nat} {S : St} : xR (yT t v f S) 4 v = bof (xR S 4 v) f := by
  unfold yT
  simp only []
  rw [xR_uR, if_neg (by omega), xR_uR, if_pos ⟨rfl, rfl⟩]
theorem yT_WL {t : Int32} {v f : Nat} {S : St} : xW (yT t v f S) = xW S ∧ xL (yT t v f S) = xL (sn t 4 v f (xR S 2 v) S) := ⟨rfl, rfl⟩
theorem iq_Ph {t : Int32} {v f a : Nat} {S : St} (hv : v < 16) (hf : f < 16) (ha : a < 16) : Ph a (iq t v f S) ≤ Ph a S + if a = f then 1 else 0 := by
  unfold iq
  by_cases c : bt (xR S 4 v) f = true
  · rw [if_pos c]
    by_cases c6 : xR S 6 v = 0
    · rw [if_pos c6]
      refine Ph_at hv (fun k u hu hk => by rw [xR_uR, if_neg (by omega)]) (d := 0) (Nat.le_of_eq (phL_c rfl)) ?_
      have e4 : xR (uR S 5 v (bon (xR S 5 v) f)) 4 v = xR S 4 v := by rw [xR_uR, if_neg (by omega)]
      have e3 : xR (uR S 5 v (bon (xR S 5 v) f)) 3 v = xR S 3 v := by rw [xR_uR, if_neg (by omega)]
      have e5 : xR (uR S 5 v (bon (xR S 5 v) f)) 5 v = bon (xR S 5 v) f := by rw [xR_uR, if_pos ⟨rfl, rfl⟩]
      unfold phv
      rw [e4, e3, e5, bt_on _ (by omega) (by omega)]
      have p : (if (bt (xR S 5 v) a || decide (a = f)) = true then 1 else 0 : Nat) ≤ (if bt (xR S 5 v) a = true then 1 else 0) + if a = f then 1 else 0 := ite_or (fun z => by
        rcases Bool.or_eq_true _ _ |>.mp z with z | z
        · exact Or.inl z
        · exact Or.inr (of_decide_eq_true z))
      omega
    · rw [if_neg c6]
      refine Ph_at hv (fun k u hu hk => yT_R (by omega) (Or.inl hu)) (d := if a = f then 1 else 0) (Nat.le_of_eq ?_) ?_
      · rw [phL_c yT_WL.2, phL_sn hv hf (by decide), if_pos (show (4 : Nat) = 0 ∨ (4 : Nat) = 4 ∨ (4 : Nat) = 5 by decide)]
        by_cases d : a = f
        · rw [if_pos d, if_pos d.symm]
        · rw [if_neg d, if_neg (fun z => d z.symm)]
      · have := phv_le (S := S) (S' := yT t v f S) (a := a) (v := v) (e := False) (by
          rw [yT_4, yT_R (by decide) (by omega), bt_off _ (by omega) (by omega)]
          exact fun z => Or.inl ⟨(Bool.and_eq_true _ _ |>.mp z.1).1, z.2⟩) (by rw [yT_R (by decide) (by omega)]; exact id)
        rw [if_neg (fun z => z)] at this
        omega
  · rw [if_neg c]; exact Nat.le_add_right _ _
theorem Ph_R {a : Nat} {S S' : St} {e : Nat} (h : ∀ k v, k = 3 ∨ k = 4 ∨ k = 5 → xR S' k v = xR S k v) (hL : phL a S' ≤ phL a S + e) : Ph a S' ≤ Ph a S + e := by
  have := phB_c (a := a) h
  unfold Ph
  omega
theorem gF_R {t : Int32} {a : Nat} {S : St} {k i : Nat} (h : i ≠ a ∨ k < 8 ∨ 10 < k) (hk : k ≠ 16) : xR (gF t a S) k i = xR S k i := by
  unfold gF
  cases hw : xW S a with
  | nil => simp only []; exact nob_R h
  | cons w r =>
    simp only []
    rw [sn_R _ _ _ _ _ _ hk, xR_uW, xR_uR, if_neg (by omega), xR_uR, if_neg (by omega), nob_R h]
theorem phL_snA {a : Nat} {t : Int32} {k f g : Nat} {s : Int32} {S : St} (hf : f < 16) (hg : g < 16) (hk : 1 ≤ k ∧ k ≤ 3) : phL a (sn t k f g s S) = phL a S + (if f = a then 1 else 0) := by
  rw [phL_sn hf hg (by omega), if_neg (show ¬ (k = 0 ∨ k = 4 ∨ k = 5) by omega)]
theorem gF_phL {t : Int32} {a b : Nat} {S : St} (ha : a < 16) (hW : ∀ w, w ∈ xW S a → w.1 < 16) : phL b (gF t a S) ≤ phL b S + if b = a then 1 else 0 := by
  unfold gF
  cases hw : xW S a with
  | nil => simp only []; rw [phL_c (S' := nob a S) (S := S) rfl]; exact Nat.le_add_right _ _
  | cons w r =>
    simp only []
    rw [phL_snA ha (hW w (by rw [hw]; simp)) (by decide), phL_c (S' := uW (uR (uR (nob a S) 8 a (nI w.1)) 9 a w.2) a r) (S := S) rfl]
    exact Nat.add_le_add_left (ite_le (fun z => z.symm)) _
theorem gF_Ph {t : Int32} {a b : Nat} {S : St} (ha : a < 16) (hW : ∀ w, w ∈ xW S a → w.1 < 16) : Ph b (gF t a S) ≤ Ph b S + if b = a then 1 else 0 :=
  Ph_R (fun k v hk => gF_R (by omega) (by omega)) (gF_phL ha hW)
theorem Ph_uW {b a : Nat} {S : St} (w : List Wtr) : Ph b (uW S a w) = Ph b S := rfl
theorem Ph_sn {b : Nat} {t : Int32} {k f g : Nat} {s : Int32} {S : St} (hf : f < 16) (hg : g < 16) (hk : k < 6) : Ph b (sn t k f g s S) = Ph b S + (if (if k = 0 ∨ k = 4 ∨ k = 5 then g else f) = b then 1 else 0) := by
  unfold Ph
  rw [phL_sn hf hg hk, phB_c (S' := sn t k f g s S) (S := S) (fun k' v hk' => sn_R _ _ _ _ _ _ (by omega))]
  omega
theorem Ph_snA {b : Nat} {t : Int32} {k f g : Nat} {s : Int32} {S : St} (hf : f < 16) (hg : g < 16) (hk : 1 ≤ k ∧ k ≤ 3) : Ph b (sn t k f g s S) = Ph b S + (if f = b then 1 else 0) := by
  rw [Ph_sn hf hg (by omega), if_neg (show ¬ (k = 0 ∨ k = 4 ∨ k = 5) by omega)]
theorem Ph_uR {b : Nat} {S : St} {k i : Nat} {x : Int32} (h : k ≠ 3 ∧ k ≠ 4 ∧ k ≠ 5) : Ph b (uR S k i x) = Ph b S := by
  unfold Ph
  rw [phB_c (S' := uR S k i x) (S := S) (fun k' v hk' => by rw [xR_uR, if_neg (by omega)]), phL_c (S' := uR S k i x) (S := S) rfl]
/-- a's inquiry: out where one that waits is ahead of the granted -/
def IQa (S : St) (a : Nat) : Prop := ∀ w, w ∈ xW S a → ¬ xR S 8 a = -1 → ahd w.2 (nI w.1) (xR S 9 a) (xR S 8 a) = true → xR S 10 a = 1
theorem IQa.cg {S S' : St} {a : Nat} (h : IQa S a) (hW : xW S' a = xW S a) (h8 : xR S' 8 a = xR S 8 a) (h9 : xR S' 9 a = xR S 9 a) (h10 : xR S' 10 a = xR S 10 a) : IQa S' a := by
  unfold IQa; rw [hW, h8, h9, h10]; exact h
theorem gF_IQ {t : Int32} {a : Nat} {S : St} (hp : (xW S a).Pairwise aw) : IQa (gF t a S) a := by
  unfold gF
  cases hw : xW S a with
  | nil =>
    simp only []
    intro w _ h8
    exact absurd (nob_8 a S).1 h8
  | cons w r =>
    simp only []
    rw [hw] at hp
    have hp1 := (List.pairwise_cons.mp hp).1
    intro y hy _ hh
    rw [sn_W, xW_uW, if_pos rfl] at hy
    rw [sn_R _ _ _ _ _ _ (by decide), sn_R _ _ _ _ _ _ (by decide), xR_uW, xR_uR, if_pos ⟨rfl, rfl⟩, xR_uR, if_neg (by omega), xR_uR, if_pos ⟨rfl, rfl⟩] at hh
    have := ahd_as (hp1 y hy)
    rw [this] at hh
    cases hh
