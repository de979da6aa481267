/-! ===== a crowd: letters, and what may yet become letters ===== -/
/-- what v may yet send to a: its next asking -/
def th1 (N : Nat) (S : St) (a v : Nat) : Nat := if xR S 0 v = 1 then (if bt (xR S 4 v) a = true ∨ (bt (qm N S v) a = true ∧ ¬ bt (xR S 3 v) a = true) then 1 else 0) else (if bt (qm N S v) a = true then 1 else 0)
def th (N : Nat) (S : St) (a : Nat) : Nat := smN (th1 N S a) N
def TH (N : Nat) (S : St) : Nat := smN (fun a => Ph a S + th N S a) 16
theorem th1_1 (N : Nat) (S : St) (a v : Nat) : th1 N S a v ≤ 1 := by
  unfold th1
  split
  · split <;> omega
  · split <;> omega
theorem th1_c {N a v : Nat} {S S' : St} (h : ∀ k, k = 0 ∨ k = 3 ∨ k = 4 → xR S' k v = xR S k v) (hq : qm N S' v = qm N S v) : th1 N S' a v = th1 N S a v := by
  unfold th1
  rw [h 0 (by omega), h 3 (by omega), h 4 (by omega), hq]
theorem PhS_TH (N : Nat) (S : St) : PhS S ≤ TH N S := smN_le 16 (fun _ _ => Nat.le_add_right _ _)
theorem TH_fl (N : Nat) (S : St) : (fl S).length ≤ TH N S := Nat.le_trans (fl_PhS S) (PhS_TH N S)
theorem TH_0 {N : Nat} (h16 : N ≤ 16) (S : St) : TH N S ≤ PhS S + 256 := by
  have h1 : ∀ a, th N S a ≤ 16 := fun a => by
    have := smN_le (f := th1 N S a) (g := fun _ => 1) N (fun v _ => th1_1 N S a v)
    rw [smN_k] at this
    unfold th
    omega
  have h2 : TH N S = PhS S + smN (fun a => th N S a) 16 := smN_add _ _ 16
  have h3 := smN_le (f := fun a => th N S a) (g := fun _ => 16) 16 (fun a _ => h1 a)
  rw [smN_k] at h3
  omega
theorem TH_ak {N v : Nat} {S : St} (h16 : N ≤ 16) (hX : IX N S) (hv : v < N) (h0 : xR S 0 v = 0) (h7 : Ub S v) (hU : ∀ i, i < N → bt (qm N S v) i = true → Ub S i) (t : Int32) : TH N (ak t N v S) ≤ TH N S := by
  refine smN_le 16 (fun a ha => ?_)
  have h1 := (ak_X h16 hX hv h7 hU t).2 a ha
  have qk : qm N (ak t N v S) v = qm N S v := (Qk.ak t N v S).m N v
  have h2 : th N (ak t N v S) a + th1 N S a v = th N S a + th1 N (ak t N v S) a v := smN_at N hv (fun u hu ne => th1_c (fun k hk => ak_Ro (by omega) ne) ((Qk.ak t N v S).m N u))
  have e1 : th1 N (ak t N v S) a v = 0 := by
    unfold th1
    have k0 : xR (ak t N v S) 0 v = 1 := by rw [ak_R (by decide), if_pos rfl]; rfl
    have k3 : xR (ak t N v S) 3 v = qm N S v := by rw [ak_R (by decide), if_pos rfl]; rfl
    have k4 : xR (ak t N v S) 4 v = 0 := by rw [ak_R (by decide), if_pos rfl]; rfl
    rw [qk, k0, k3, k4, if_pos rfl]
    refine if_neg (fun z => ?_)
    rcases z with z | z
    · have : bt (0 : Int32) a = true := z
      rw [b_0] at this; cases this
    · exact z.2 z.1
  have e2 : th1 N S a v = if bt (qm N S v) a = true then 1 else 0 := by
    unfold th1
    rw [if_neg (by rw [h0]; decide)]
  rw [e1, e2] at h2
  have h3 : (if a < N ∧ bt (qm N S v) a = true then 1 else 0 : Nat) ≤ (if bt (qm N S v) a = true then 1 else 0) := ite_le (fun z => z.2)
  show Ph a (ak t N v S) + th N (ak t N v S) a ≤ Ph a S + th N S a
  omega
theorem TH_lv {N A v : Nat} {S : St} (hI : Inv N A S) (h16 : N ≤ 16) (hX : IX N S) (hv : v < N) (h2 : xR S 0 v = 2) (t : Int32) : TH N (lv t N v S) ≤ TH N S := by
  refine smN_le 16 (fun a ha => ?_)
  have h1 := (lv_X hI h16 hX hv (by rw [h2]; decide) t).2 a ha
  rw [if_pos h2] at h1
  have qk : Qk S (lv t N v S) := fun k hk i => by rw [lv_R (by omega), if_neg (by omega)]
  have h3 : th N (lv t N v S) a = th N S a := smN_c N (fun u hu => by
    by_cases c : u = v
    · subst c
      unfold th1
      have l0 : xR (lv t N u S) 0 u = 0 := by rw [lv_R (by decide), if_pos ⟨rfl, Or.inl rfl⟩]
      rw [qk.m, l0, if_neg ne01, h2, if_neg (show ¬ (2 : Int32) = 1 by decide)]
    · exact th1_c (fun k hk => by rw [lv_R (by omega), if_neg (fun z => c z.1)]) (qk.m N u))
  show Ph a (lv t N v S) + th N (lv t N v S) a ≤ Ph a S + th N S a
  omega
/-- g has heard f: at most f's grant is new, or g is in -/
def TG (S S' : St) (f g : Nat) : Prop := (∀ k u, u ≠ g → k = 0 ∨ k = 3 ∨ k = 4 → xR S' k u = xR S k u) ∧ ((xR S' 0 g = xR S 0 g ∧ xR S' 3 g = xR S 3 g ∧ ∀ a, a < 16 → bt (xR S' 4 g) a = true → bt (xR S 4 g) a = true ∨ a = f) ∨ (xR S 0 g = 1 ∧ xR S' 0 g = 2 ∧ ∀ a, a < 16 → bt (xR S 3 g) a = true → bt (xR S 4 g) a = true ∨ a = f))
theorem TG.k {S S' : St} {f g : Nat} (h : ∀ k u, k = 0 ∨ k = 3 ∨ k = 4 → xR S' k u = xR S k u) : TG S S' f g :=
  ⟨fun k u _ hk => h k u hk, Or.inl ⟨h 0 g (by omega), h 3 g (by omega), fun a _ z => by rw [h 4 g (by omega)] at z; exact Or.inl z⟩⟩
theorem TG.pre {S S1 S' : St} {f g : Nat} (h : ∀ k u, k = 0 ∨ k = 3 ∨ k = 4 → xR S1 k u = xR S k u) (p : TG S1 S' f g) : TG S S' f g := by
  obtain ⟨p1, p2⟩ := p
  refine ⟨fun k u n hk => (p1 k u n hk).trans (h k u hk), ?_⟩
  rw [h 0 g (by omega), h 3 g (by omega), h 4 g (by omega)] at p2
  exact p2
theorem TG.tgr {t : Int32} {N f g : Nat} {S : St} (hf : f < 16) (h1 : xR S 0 g = 1) : TG S (gr t N g f S) f g := by
  refine ⟨fun k u n hk => gr_R (by omega) (Or.inl n), ?_⟩
  by_cases c : xR S 3 g &&& ((bon (xR S 4 g) f) ^^^ (-1 : Int32)) = 0
  · refine Or.inr ⟨h1, ?_, fun a ha z => ?_⟩
    · unfold gr
      simp only []
      rw [if_pos c, en_12 (by decide), if_pos ⟨rfl, rfl⟩]
    · have := bt_z.mp c a (by omega)
      rw [bt_minus _ _ (by omega), z, bt_on _ (by omega) (by omega)] at this
      cases b : bt (xR S 4 g) a with
      | true => exact Or.inl rfl
      | false =>
        rw [b] at this
        simp only [Bool.false_or, Bool.true_and] at this
        refine Or.inr (Decidable.byContradiction fun ne => ?_)
        rw [decide_eq_false ne] at this
        cases this
  · refine Or.inl ⟨?_, gr_R (by decide) (by omega), fun a ha z => ?_⟩
    · unfold gr
      simp only []
      rw [if_neg c, xR_uR, if_neg (by omega), xR_uR, if_neg (by omega), xR_uR, if_neg (by omega)]
    · rw [gr_4, bt_on _ (by omega) (by omega)] at z
      rcases (Bool.or_eq_true _ _).mp z with z | z
      · exact Or.inl z
      · exact Or.inr (of_decide_eq_true z)
theorem TG.tfd {t : Int32} {N f g : Nat} {S : St} (h16 : N ≤ 16) : TG S (fd t N g f S) f g := by
  refine ⟨fun k u n hk => fd_R (by omega) (Or.inl n), Or.inl ⟨fd_R (by decide) (by omega), fd_R (by decide) (by omega), fun a ha z => ?_⟩⟩
  rw [fd_4, bfl_b _ _ _ (fun w hw => by have := List.mem_range.mp hw; omega) a (by omega)] at z
  exact Or.inl ((Bool.and_eq_true _ _).mp z).1
theorem TG.tiq {t : Int32} {f g : Nat} {S : St} (hf : f < 16) : TG S (iq t g f S) f g := by
  refine ⟨fun k u n hk => iq_R (by omega) (Or.inl n), Or.inl ⟨iq_R (by decide) (by omega), iq_R (by decide) (by omega), fun a ha z => ?_⟩⟩
  unfold iq at z
  by_cases c : bt (xR S 4 g) f = true
  · rw [if_pos c] at z
    by_cases d : xR S 6 g = 0
    · rw [if_pos d, xR_uR, if_neg (by omega)] at z
      exact Or.inl z
    · rw [if_neg d, yT_4, bt_off _ (by omega) (by omega)] at z
      exact Or.inl ((Bool.and_eq_true _ _).mp z).1
  · rw [if_neg c] at z; exact Or.inl z
theorem TG.trd {t s : Int32} {N k f g : Nat} {S : St} (h16 : N ≤ 16) (hf : f < 16) : TG S (rd t N k f g s S) f g := by
  unfold rd
  simp only []
  have h : ∀ k' u, k' = 0 ∨ k' = 3 ∨ k' = 4 → xR (if s ≤ xR S 1 g then S else uR S 1 g s) k' u = xR S k' u := fun k' u hk => by
    split
    · rfl
    · rw [xR_uR, if_neg (by omega)]
  generalize (if s ≤ xR S 1 g then S else uR S 1 g s) = S1 at h ⊢
  refine TG.pre h ?_
  split
  · exact TG.k (fun k' u hk => rq_R (by omega) (by omega))
  · split
    · exact TG.k (fun k' u hk => yl_R (by omega) (by omega))
    · split
      · exact TG.k (fun k' u hk => rl_R (by omega) (by omega))
      · split
        · rename_i c
          split
          · exact TG.tgr hf c.1
          · split
            · exact TG.tfd h16
            · exact TG.tiq hf
        · exact TG.k (fun _ _ _ => rfl)
theorem TG.tbr {t : Int32} {N f g : Nat} {S : St} (h16 : N ≤ 16) (hf : f < 16) : TG S (br t N f g S) f g := by
  unfold br
  split
  · exact TG.k (fun _ _ _ => rfl)
  · refine TG.pre (fun k u hk => ?_) (TG.trd h16 hf)
    rw [wt_R (by omega) (by omega) (by omega)]
    rfl
theorem TH_br {N A f g : Nat} {S : St} (hI : Inv N A S) (h16 : N ≤ 16) (hA : A < 1048576) (hX : IX N S) (hf : f < N) (hg : g < N) (t : Int32) : TH N (br t N f g S) ≤ TH N S + 1 := by
  obtain ⟨t1, t2⟩ := TG.tbr (t := t) (g := g) (S := S) h16 (show f < 16 by omega)
  have qk : Qk S (br t N f g S) := fun k hk i => (Kq.tbr S t N f g).1 k i hk
  have hPh := (br_X hI h16 hA hX hf hg t).2
  have key : ∀ a, a < 16 → th1 N (br t N f g S) a g ≤ th1 N S a g + (if a = f then 1 else 0) := by
    intro a ha
    have q := qk.m N g
    by_cases af : a = f
    · rw [if_pos af]
      have := th1_1 N (br t N f g S) a g
      omega
    · rw [if_neg af, Nat.add_zero]
      unfold th1
      rw [q]
      rcases t2 with ⟨u0, u3, u4⟩ | ⟨u0, u2, u4⟩
      · rw [u0, u3]
        by_cases c : xR S 0 g = 1
        · rw [if_pos c, if_pos c]
          refine ite_le (fun z => ?_)
          rcases z with z | z
          · exact Or.inl ((u4 a ha z).resolve_right af)
          · exact Or.inr z
        · rw [if_neg c, if_neg c]; exact Nat.le_refl _
      · rw [u2, if_neg (show ¬ (2 : Int32) = 1 by decide), if_pos u0]
        refine ite_le (fun z => ?_)
        by_cases b : bt (xR S 3 g) a = true
        · exact Or.inl ((u4 a ha b).resolve_right af)
        · exact Or.inr ⟨z, b⟩
  have h2 : ∀ a, a < 16 → th N (br t N f g S) a ≤ th N S a + (if a = f then 1 else 0) := by
    intro a ha
    have e : th N (br t N f g S) a + th1 N S a g = th N S a + th1 N (br t N f g S) a g := smN_at N hg (fun u hu ne => th1_c (fun k hk => t1 k u ne hk) (qk.m N u))
    have := key a ha
    omega
  have h3 : TH N (br t N f g S) ≤ smN (fun a => (Ph a S + th N S a) + (if f = a then 1 else 0)) 16 := smN_le 16 (fun a ha => by
    have := h2 a ha
    have := hPh a ha
    show Ph a (br t N f g S) + th N (br t N f g S) a ≤ (Ph a S + th N S a) + (if f = a then 1 else 0)
    by_cases c : a = f
    · rw [if_pos c] at *
      rw [if_pos c.symm]; omega
    · rw [if_neg c] at *
      rw [if_neg (fun z => c z.symm)]; omega)
  rw [smN_add, smN_one 16 (by omega)] at h3
  exact h3
/-- what holds of a crowd -/
def TJ (N A B : Nat) (S0 S : St) : Prop := Inv N A S ∧ IX N S ∧ TH N S ≤ B ∧ Qk S0 S
/-- what it rests on -/
def TC (N : Nat) (S0 : St) : Prop := (∀ v, v < N → ∀ i, N ≤ i → i < 32 → bt (qm N S0 v) i = false) ∧ ∀ v, v < N → ∀ i, i < N → bt (qm N S0 v) i = true → Ub S0 i
theorem TJ.mo {N A A' B B' : Nat} {S0 S : St} (h : TJ N A B S0 S) (a : A ≤ A') (b : B ≤ B') : TJ N A' B' S0 S := ⟨h.1.mo a, h.2.1, Nat.le_trans h.2.2.1 b, h.2.2.2⟩
theorem TJ.tak {N A B v : Nat} {S0 S : St} (h : TJ N A B S0 S) (c : TC N S0) (h16 : N ≤ 16) (hv : v < N) (hA : A + 1 < 1048576) (hm : mayA N v S = true) (t : Int32) : TJ N (A + 1) B S0 (ak t N v S) := by
  obtain ⟨hI, hX, hT, hQ⟩ := h
  have c0 : xR S 0 v = 0 := by
    unfold mayA at hm
    exact of_decide_eq_true (Bool.and_eq_true _ _ |>.mp hm).1
  have c7 : xR S 7 v = 0 := by
    unfold mayA at hm
    exact of_decide_eq_true (Bool.and_eq_true _ _ |>.mp ((Bool.and_eq_true _ _).mp hm).2).1
  have u7 : Ub S v := by unfold Ub; rw [c7]; decide
  have hU : ∀ i, i < N → bt (qm N S v) i = true → Ub S i := fun i hi hb => by
    rw [hQ.m] at hb
    have := c.2 v hv i hi hb
    unfold Ub at this ⊢
    rw [hQ 7 (by omega)]; exact this
  exact ⟨hI.tak h16 hv c0 hA (by rw [hQ.m]; exact c.1 v hv) t, (ak_X h16 hX hv u7 hU t).1, Nat.le_trans (TH_ak h16 hX hv c0 u7 hU t) hT, hQ.tr (Qk.ak t N v S)⟩
theorem akl_c {t : Int32} {N i d : Nat} {S : St} : akl t N (List.range' i (d + 1)) S = akl t N (List.range' (i + 1) d) (if mayA N i S then ak t N i S else S) := by
  unfold akl
  rw [List.range'_succ, List.foldl_cons]
theorem TJ.takl {N B : Nat} {S0 : St} (c : TC N S0) (h16 : N ≤ 16) (t : Int32) : ∀ (d i A : Nat) (S : St), TJ N A B S0 S → i + d ≤ N → A + d < 1048576 → TJ N (A + d) B S0 (akl t N (List.range' i d) S) := by
  intro d
  induction d with
  | zero => intro i A S h _ _; exact h
  | succ d ih =>
    intro i A S h hi hA
    rw [akl_c, show A + (d + 1) = A + 1 + d by omega]
    by_cases m : mayA N i S = true
    · rw [if_pos m]
      exact ih (i + 1) (A + 1) _ (h.tak c h16 (by omega) (by omega) m t) (by omega) (by omega)
    · rw [if_neg m]
      exact ih (i + 1) (A + 1) S (h.mo (by omega) (Nat.le_refl _)) (by omega) (by omega)
theorem TJ.tdm {N A B m : Nat} {S0 S : St} (h : TJ N A B S0 S) (h16 : N ≤ 16) (hA : A < 1048576) (hm : m ∈ mv0 N S) (t : Int32) : TJ N A (B + 1) S0 (dm t N m S) := by
  obtain ⟨hI, hX, hT, hQ⟩ := h
  rcases mv0_in hI h16 hm with ⟨h1, h2, h3, h4⟩ | ⟨h1, h2, h3, h4⟩
  · rw [dm_1 h1]
    refine ⟨hI.tbr h16 hA h2 h3 t, (br_X hI h16 hA hX h2 h3 t).1, ?_, hQ.tr (fun k hk i => (Kq.tbr S t N (m / 16) (m % 16)).1 k i hk)⟩
    have := TH_br hI h16 hA hX h2 h3 t
    omega
  · rw [dm_2 h1 h2]
    have h0 : xR S 0 (m - 256) ≠ 0 := by rw [h4]; decide
    refine ⟨hI.tlv h16 h3 h0 t, (lv_X hI h16 hX h3 h0 t).1, ?_, hQ.tr (fun k hk i => by rw [lv_R (by omega), if_neg (by omega)])⟩
    have := TH_lv hI h16 hX h3 h4 t
    omega
theorem TJ.tkA {N A B : Nat} {S0 S : St} (h : TJ N A B S0 S) (c : TC N S0) (h16 : N ≤ 16) (hA : A + N < 1048576) (t : Int32) : TJ N (A + N) B S0 (akA t N S) := by
  have e : akA t N S = akl t N (List.range' 0 N) S := by unfold akA; rw [List.range_eq_range']
  rw [e]
  exact TJ.takl c h16 t N 0 A S h (by omega) hA
theorem TJ.c1 {N A B : Nat} {S0 S : St} (h : TJ N A B S0 S) (c : TC N S0) (h16 : N ≤ 16) (hA : A + N < 1048576) (t : Int32) (g : Int64) (b : Bool) : TJ N (A + N) (B + 1) S0 (cr1 t N (S, g, b)).1 := by
  unfold cr1
  cases b with
  | false => exact h.mo (by omega) (by omega)
  | true =>
    have a1 := h.tkA c h16 hA t
    have stay := a1.mo (Nat.le_refl _) (show B ≤ B + 1 by omega)
    simp only [if_true]
    by_cases z : mv0 N (akA t N S) = []
    · rw [if_pos z]; exact stay
    · rw [if_neg z]
      cases hc : (mv0 N (akA t N S))[dk g (mv0 N (akA t N S)).length]? with
      | none => exact stay
      | some k => exact a1.tdm h16 (by omega) (List.mem_of_getElem? hc) t
