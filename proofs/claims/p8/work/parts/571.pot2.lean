/-! ===== a crowd: letters, and what may yet become letters ===== -/
/-- what v may yet send to a: its next asking -/
def th1 (N : Nat) (S : St) (a v : Nat) : Nat := if xR S 0 v = 1 then (if bt (xR S 4 v) a = true ∨ (bt (qm N S v) a = true ∧ ¬ bt (xR S 3 v) a = true) then 1 else 0) else (if bt (qm N S v) a = true then 1 else 0)
def th (N : Nat) (S : St) (a : Nat) : Nat := smN (th1 N S a) N
def TH (N : Nat) (S : St) : Nat := smN (fun a => Ph a S + th N S a) 16
theorem th1_1 (N : Nat) (S : St) (a v : Nat) : th1 N S a v ≤ 1 := by
  unfold th1
  split
  · split <;> omega
  · split <;> omega
theorem th1_c {N a v : Nat} {S S' : St} (h : ∀ k, k = 0 ∨ k = 3 ∨ k = 4 → xR S' k v = xR S k v) (hq : qm N S' v = qm N S v) : th1 N S' a v = th1 N S a v := by
  unfold th1
  rw [h 0 (by omega), h 3 (by omega), h 4 (by omega), hq]
theorem PhS_TH (N : Nat) (S : St) : PhS S ≤ TH N S := smN_le 16 (fun _ _ => Nat.le_add_right _ _)
theorem TH_fl (N : Nat) (S : St) : (fl S).length ≤ TH N S := Nat.le_trans (fl_PhS S) (PhS_TH N S)
theorem TH_0 {N : Nat} (h16 : N ≤ 16) (S : St) : TH N S ≤ PhS S + 256 := by
  have h1 : ∀ a, th N S a ≤ 16 := fun a => by
    have := smN_le (f := th1 N S a) (g := fun _ => 1) N (fun v _ => th1_1 N S a v)
    rw [smN_k] at this
    unfold th
    omega
  have h2 : TH N S = PhS S + smN (fun a => th N S a) 16 := smN_add _ _ 16
  have h3 := smN_le (f := fun a => th N S a) (g := fun _ => 16) 16 (fun a _ => h1 a)
  rw [smN_k] at h3
  omega
theorem TH_ak {N v : Nat} {S : St} (h16 : N ≤ 16) (hX : IX N S) (hv : v < N) (h0 : xR S 0 v = 0) (h7 : Ub S v) (hU : ∀ i, i < N → bt (qm N S v) i = true → Ub S i) (t : Int32) : TH N (ak t N v S) ≤ TH N S := by
  refine smN_le 16 (fun a ha => ?_)
  have h1 := (ak_X h16 hX hv h7 hU t).2 a ha
  have qk : qm N (ak t N v S) v = qm N S v := (Qk.ak t N v S).m N v
  have h2 : th N (ak t N v S) a + th1 N S a v = th N S a + th1 N (ak t N v S) a v := smN_at N hv (fun u hu ne => th1_c (fun k hk => ak_Ro (by omega) ne) ((Qk.ak t N v S).m N u))
  have e1 : th1 N (ak t N v S) a v = 0 := by
    unfold th1
    have k0 : xR (ak t N v S) 0 v = 1 := by rw [ak_R (by decide), if_pos rfl]; rfl
    have k3 : xR (ak t N v S) 3 v = qm N S v := by rw [ak_R (by decide), if_pos rfl]; rfl
    have k4 : xR (ak t N v S) 4 v = 0 := by rw [ak_R (by decide), if_pos rfl]; rfl
    rw [qk, k0, k3, k4, if_pos rfl]
    refine if_neg (fun z => ?_)
    rcases z with z | z
    · have : bt (0 : Int32) a = true := z
      rw [b_0] at this; cases this
    · exact z.2 z.1
  have e2 : th1 N S a v = if bt (qm N S v) a = true then 1 else 0 := by
    unfold th1
    rw [if_neg (by rw [h0]; decide)]
  rw [e1, e2] at h2
  have h3 : (if a < N ∧ bt (qm N S v) a = true then 1 else 0 : Nat) ≤ (if bt (qm N S v) a = true then 1 else 0) := ite_le (fun z => z.2)
  show Ph a (ak t N v S) + th N (ak t N v S) a ≤ Ph a S + th N S a
  omega
theorem TH_lv {N A v : Nat} {S : St} (hI : Inv N A S) (h16 : N ≤ 16) (hX : IX N S) (hv : v < N) (h2 : xR S 0 v = 2) (t : Int32) : TH N (lv t N v S) ≤ TH N S := by
  refine smN_le 16 (fun a ha => ?_)
  have h1 := (lv_X hI h16 hX hv (by rw [h2]; decide) t).2 a ha
  rw [if_pos h2] at h1
  have qk : Qk S (lv t N v S) := fun k hk i => by rw [lv_R (by omega), if_neg (by omega)]
  have h3 : th N (lv t N v S) a = th N S a := smN_c N (fun u hu => by
    by_cases c : u = v
    · subst c
      unfold th1
      have l0 : xR (lv t N u S) 0 u = 0 := by rw [lv_R (by decide), if_pos ⟨rfl, Or.inl rfl⟩]
      rw [qk.m, l0, if_neg ne01, h2, if_neg (show ¬ (2 : Int32) = 1 by decide)]
    · exact th1_c (fun k hk => by rw [lv_R (by omega), if_neg (fun z => c z.1)]) (qk.m N u))
  show Ph a (lv t N v S) + th N (lv t N v S) a ≤ Ph a S + th N S a
  omega
/-- g has heard f: at most f's grant is new, or g is in -/
def TG (S S' : St) (f g : Nat) : Prop := (∀ k u, u ≠ g → k = 0 ∨ k = 3 ∨ k = 4 → xR S' k u = xR S k u) ∧ ((xR S' 0 g = xR S 0 g ∧ xR S' 3 g = xR S 3 g ∧ ∀ a, a < 16 → bt (xR S' 4 g) a = true → bt (xR S 4 g) a = true ∨ a = f) ∨ (xR S 0 g = 1 ∧ xR S' 0 g = 2 ∧ ∀ a, a < 16 → bt (xR S 3 g) a = true → bt (xR S 4 g) a = true ∨ a = f))
theorem TG.k {S S' : St} {f g : Nat} (h : ∀ k u, k = 0 ∨ k = 3 ∨ k = 4 → xR S' k u = xR S k u) : TG S S' f g :=
  ⟨fun k u _ hk => h k u hk, Or.inl ⟨h 0 g (by omega), h 3 g (by omega), fun a _ z => by rw [h 4 g (by omega)] at z; exact Or.inl z⟩⟩
theorem TG.pre {S S1 S' : St} {f g : Nat} (h : ∀ k u, k = 0 ∨ k = 3 ∨ k = 4 → xR S1 k u = xR S k u) (p : TG S1 S' f g) : TG S S' f g := by
  obtain ⟨p1, p2⟩ := p
  refine ⟨fun k u n hk => (p1 k u n hk).trans (h k u hk), ?_⟩
  rw [h 0 g (by omega), h 3 g (by omega), h 4 g (by omega)] at p2
  exact p2
theorem TG.tgr {t : Int32} {N f g : Nat} {S : St} (hf : f < 16) (h1 : xR S 0 g = 1) : TG S (gr t N g f S) f g := by
  refine ⟨fun k u n hk => gr_R (by omega) (Or.inl n), ?_⟩
  by_cases c : xR S 3 g &&& ((bon (xR S 4 g) f) ^^^ (-1 : Int32)) = 0
  · refine Or.inr ⟨h1, ?_, fun a ha z => ?_⟩
    · unfold gr
      simp only []
      rw [if_pos c, en_12 (by decide), if_pos ⟨rfl, rfl⟩]
    · have := bt_z.mp c a (by omega)
      rw [bt_minus _ _ (by omega), z, bt_on _ (by omega) (by omega)] at this
      cases b : bt (xR S 4 g) a with
      | true => exact Or.inl rfl
      | false =>
        rw [b] at this
        simp only [Bool.false_or, Bool.true_and] at this
        refine Or.inr (Decidable.byContradiction fun ne => ?_)
        rw [decide_eq_false ne] at this
        cases this
  · refine Or.inl ⟨?_, gr_R (by decide) (by omega), fun a ha z => ?_⟩
    · unfold gr
      simp only []
      rw [if_neg c, xR_uR, if_neg (by omega), xR_uR, if_neg (by omega), xR_uR, if_neg (by omega)]
    · rw [gr_4, bt_on _ (by omega) (by omega)] at z
      rcases (Bool.or_eq_true _ _).mp z with z | z
      · exact Or.inl z
      · exact Or.inr (of_decide_eq_true z)
theorem TG.tfd {t : Int32} {N f g : Nat} {S : St} (h16 : N ≤ 16) : TG S (fd t N g f S) f g := by
  refine ⟨fun k u n hk => fd_R (by omega) (Or.inl n), Or.inl ⟨fd_R (by decide) (by omega), fd_R (by decide) (by omega), fun a ha z => ?_⟩⟩
  rw [fd_4, bfl_b _ _ _ (fun w hw => by have := List.mem_range.mp hw; omega) a (by omega)] at z
  exact Or.inl ((Bool.and_eq_true _ _).mp z).1
theorem TG.tiq {t : Int32} {f g : Nat} {S : St} (hf : f < 16) : TG S (iq t g f S) f g := by
  refine ⟨fun k u n hk => iq_R (by omega) (Or.inl n), Or.inl ⟨iq_R (by decide) (by omega), iq_R (by decide) (by omega), fun a ha z => ?_⟩⟩
  unfold iq at z
  by_cases c : bt (xR S 4 g) f = true
  · rw [if_pos c] at z
    by_cases d : xR S 6 g = 0
    · rw [if_pos d, xR_uR, if_neg (by omega)] at z
      exact Or.inl z
    · rw [if_neg d, yT_4, bt_off _ (by omega) (by omega)] at z
      exact Or.inl ((Bool.and_eq_true _ _).mp z).1
  · rw [if_neg c] at z; exact Or.inl z
theorem TG.trd {t s : Int32} {N k f g : Nat} {S : St} (h16 : N ≤ 16) (hf : f < 16) : TG S (rd t N k f g s S) f g := by
  unfold rd
  simp only []
  have h : ∀ k' u, k' = 0 ∨ k' = 3 ∨ k' = 4 → xR (if s ≤ xR S 1 g then S else uR S 1 g s) k' u = xR S k' u := fun k' u hk => by
    split
    · rfl
    · rw [xR_uR, if_neg (by omega)]
  generalize (if s ≤ xR S 1 g then S else uR S 1 g s) = S1 at h ⊢
  refine TG.pre h ?_
  split
  · exact TG.k (fun k' u hk => rq_R (by omega) (by omega))
  · split
    · exact TG.k (fun k' u hk => yl_R (by omega) (by omega))
    · split
      · exact TG.k (fun k' u hk => rl_R (by omega) (by omega))
      · split
        · rename_i c
          split
          · exact TG.tgr hf c.1
          · split
            · exact TG.tfd h16
            · exact TG.tiq hf
        · exact TG.k (fun _ _ _ => rfl)
theorem TG.tbr {t : Int32} {N f g : Nat} {S : St} (h16 : N ≤ 16) (hf : f < 16) : TG S (br t N f g S) f g := by
  unfold br
  split
  · exact TG.k (fun _ _ _ => rfl)
  · refine TG.pre (fun k u hk => ?_) (TG.trd h16 hf)
    rw [wt_R (by omega) (by omega) (by omega)]
    rfl
theorem TH_br {N A f g : Nat} {S : St} (hI : Inv N A S) (h16 : N ≤ 16) (hA : A < 1048576) (hX : IX N S) (hf : f < N) (hg : g < N) (t : Int32) : TH N (br t N f g S) ≤ TH N S + 1 := by
  obtain ⟨t1, t2⟩ := TG.tbr (t := t) (g := g) (S := S) h16 (show f < 16 by omega)
  have qk : Qk S (br t N f g S) := fun k hk i => (Kq.tbr S t N f g).1 k i hk
  have hPh := (br_X hI h16 hA hX hf hg t).2
  have key : ∀ a, a < 16 → th1 N (br t N f g S) a g ≤ th1 N S a g + (if a = f then 1 else 0) := by
    intro a ha
    have q := qk.m N g
    by_cases af : a = f
    · rw [if_pos af]
      have := th1_1 N (br t N f g S) a g
      omega
    · rw [if_neg af, Nat.add_zero]
      unfold th1
      rw [q]
      rcases t2 with ⟨u0, u3, u4⟩ | ⟨u0, u2, u4⟩
      · rw [u0, u3]
        by_cases c : xR S 0 g = 1
        · rw [if_pos c, if_pos c]
          refine ite_le (fun z => ?_)
          rcases z with z | z
          · exact Or.inl ((u4 a ha z).resolve_right af)
          · exact Or.inr z
        · rw [if_neg c, if_neg c]; exact Nat.le_refl _
      · rw [u2, if_neg (show ¬ (2 : Int32) = 1 by decide), if_pos u0]
        refine ite_le (fun z => ?_)
        by_cases b : bt (xR S 3 g) a = true
        · exact Or.inl ((u4 a ha b).resolve_right af)
        · exact Or.inr ⟨z, b⟩
  have h2 : ∀ a, a < 16 → th N (br t N f g S) a ≤ th N S a + (if a = f then 1 else 0) := by
    intro a ha
    have e : th N (br t N f g S) a + th1 N S a g = th N S a + th1 N (br t N f g S) a g := smN_at N hg (fun u hu ne => th1_c (fun k hk => t1 k u ne hk) (qk.m N u))
    have := key a ha
    omega
  have h3 : TH N (br t N f g S) ≤ smN (fun a => (Ph a S + th N S a) + (if f = a then 1 else 0)) 16 := smN_le 16 (fun a ha => by
    have := h2 a ha
    have := hPh a ha
    show Ph a (br t N f g S) + th N (br t N f g S) a ≤ (Ph a S + th N S a) + (if f = a then 1 else 0)
    by_cases c : a = f
    · rw [if_pos c] at *
      rw [if_pos c.symm]; omega
    · rw [if_neg c] at *
      rw [if_neg (fun z => c z.symm)]; omega)
  rw [smN_add, smN_one 16 (by omega)] at h3
  exact h3
/-- what holds of a crowd -/
def TJ (N A B : Nat) (S0 S : St) : Prop := Inv N A S ∧ IX N S ∧ TH N S ≤ B ∧ Qk S0 S
/-- what it rests on -/
def TC (N : Nat) (S0 : St) : Prop := (∀ v, v < N → ∀ i, N ≤ i → i < 32 → bt (qm N S0 v) i = false) ∧ ∀ v, v < N → ∀ i, i < N → bt (qm N S0 v) i = true → Ub S0 i
theorem TJ.mo {N A A' B B' : Nat} {S0 S : St} (h : TJ N A B S0 S) (a : A ≤ A') (b : B ≤ B') : TJ N A' B' S0 S := ⟨h.1.mo a, h.2.1, Nat.le_trans h.2.2.1 b, h.2.2.2⟩
theorem TJ.tak {N A B v : Nat} {S0 S : St} (h : TJ N A B S0 S) (c : TC N S0) (h16 : N ≤ 16) (hv : v < N) (hA : A + 1 < 1048576) (hm : mayA N v S = true) (t : Int32) : TJ N (A + 1) B S0 (ak t N v S) := by
  obtain ⟨hI, hX, hT, hQ⟩ := h
  have c0 : xR S 0 v = 0 := by
    unfold mayA at hm
    exact of_decide_eq_true (Bool.and_eq_true _ _ |>.mp hm).1
  have c7 : xR S 7 v = 0 := by
    unfold mayA at hm
    exact of_decide_eq_true (Bool.and_eq_true _ _ |>.mp ((Bool.and_eq_true _ _).mp hm).2).1
  have u7 : Ub S v := by unfold Ub; rw [c7]; decide
  have hU : ∀ i, i < N → bt (qm N S v) i = true → Ub S i := fun i hi hb => by
    rw [hQ.m] at hb
    have := c.2 v hv i hi hb
    unfold Ub at this ⊢
    rw [hQ 7 (by omega)]; exact this
  exact ⟨hI.tak h16 hv c0 hA (by rw [hQ.m]; exact c.1 v hv) t, (ak_X h16 hX hv u7 hU t).1, Nat.le_trans (TH_ak h16 hX hv c0 u7 hU t) hT, hQ.tr (Qk.ak t N v S)⟩
theorem akl_c {t : Int32} {N i d : Nat} {S : St} : akl t N (List.range' i (d + 1)) S = akl t N (List.range' (i + 1) d) (if mayA N i S then ak t N i S else S) := by
  unfold akl
  rw [List.range'_succ, List.foldl_cons]
theorem TJ.takl {N B : Nat} {S0 : St} (c : TC N S0) (h16 : N ≤ 16) (t : Int32) : ∀ (d i A : Nat) (S : St), TJ N A B S0 S → i + d ≤ N → A + d < 1048576 → TJ N (A + d) B S0 (akl t N (List.range' i d) S) := by
  intro d
  induction d with
  | zero => intro i A S h _ _; exact h
  | succ d ih =>
    intro i A S h hi hA
    rw [akl_c, show A + (d + 1) = A + 1 + d by omega]
    by_cases m : mayA N i S = true
    · rw [if_pos m]
      exact ih (i + 1) (A + 1) _ (h.tak c h16 (by omega) (by omega) m t) (by omega) (by omega)
    · rw [if_neg m]
      exact ih (i + 1) (A + 1) S (h.mo (by omega) (Nat.le_refl _)) (by omega) (by omega)
theorem TJ.tdm {N A B m : Nat} {S0 S : St} (h : TJ N A B S0 S) (h16 : N ≤ 16) (hA : A < 1048576) (hm : m ∈ mv0 N S) (t : Int32) : TJ N A (B + 1) S0 (dm t N m S) := by
  obtain ⟨hI, hX, hT, hQ⟩ := h
  rcases mv0_in hI h16 hm with ⟨h1, h2, h3, h4⟩ | ⟨h1, h2, h3, h4⟩
  · rw [dm_1 h1]
    refine ⟨hI.tbr h16 hA h2 h3 t, (br_X hI h16 hA hX h2 h3 t).1, ?_, hQ.tr (fun k hk i => (Kq.tbr S t N (m / 16) (m % 16)).1 k i hk)⟩
    have := TH_br hI h16 hA hX h2 h3 t
    omega
  · rw [dm_2 h1 h2]
    have h0 : xR S 0 (m - 256) ≠ 0 := by rw [h4]; decide
    refine ⟨hI.tlv h16 h3 h0 t, (lv_X hI h16 hX h3 h0 t).1, ?_, hQ.tr (fun k hk i => by rw [lv_R (by omega), if_neg (by omega)])⟩
    have := TH_lv hI h16 hX h3 h4 t
    omega
theorem TJ.tkA {N A B : Nat} {S0 S : St} (h : TJ N A B S0 S) (c : TC N S0) (h16 : N ≤ 16) (hA : A + N < 1048576) (t : Int32) : TJ N (A + N) B S0 (akA t N S) := by
  have e : akA t N S = akl t N (List.range' 0 N) S := by unfold akA; rw [List.range_eq_range']
  rw [e]
  exact TJ.takl c h16 t N 0 A S h (by omega) hA
theorem TJ.c1 {N A B : Nat} {S0 S : St} (h : TJ N A B S0 S) (c : TC N S0) (h16 : N ≤ 16) (hA : A + N < 1048576) (t : Int32) (g : Int64) (b : Bool) : TJ N (A + N) (B + 1) S0 (cr1 t N (S, g, b)).1 := by
  unfold cr1
  cases b with
  | false => exact h.mo (by omega) (by omega)
  | true =>
    have a1 := h.tkA c h16 hA t
    have stay := a1.mo (Nat.le_refl _) (show B ≤ B + 1 by omega)
    simp only [if_true]
    by_cases z : mv0 N (akA t N S) = []
    · rw [if_pos z]; exact stay
    · rw [if_neg z]
      cases hc : (mv0 N (akA t N S))[dk g (mv0 N (akA t N S)).length]? with
      | none => exact stay
      | some k => exact a1.tdm h16 (by omega) (List.mem_of_getElem? hc) t
/-! ===== crowd, from any state between the calls ===== -/
section
variable {N B : Nat} {S0 : St}
theorem HV.aa2 {h X Y : Nat} {t : Int32} {Q : Nat → Int32} {pb pt : List Row4} (c : TC N S0) (h16 : N ≤ 16) (hB : B + 16 ≤ 9000) (hQ : ∀ v, v < N → qm N S0 v = Q v) : ∀ (d i n A : Nat) (M : Mem) (S : St), HV M h X Y t N Q S pb pt → TJ N A B S0 S → A + d < 1048576 → i + d = N → d + 18 ≤ n → ∃ M', f_X2_letAllAsk_2 n h (nI i) M = some M' ∧ HV M' h X Y t N Q (akl t N (List.range' i d) S) pb pt ∧ FrH M M' h := by
  intro d
  induction d with
  | zero =>
    intro i n A M S p hJ hA hi hn
    obtain ⟨n, rfl⟩ : ∃ m, n = m + 1 := ⟨n - 1, by omega⟩
    refine ⟨M, ?_, p, FrH.rf _ _⟩
    have q := p.1
    rw [f_X2_letAllAsk_2, cs_f q, cs_h0 q, bnd_e, cs_s q, p.2.2.2.2.2.1, if_pos (nI_le (by omega) (by omega))]
  | succ d ih =>
    intro i n A M S p hJ hA hi hn
    obtain ⟨n, rfl⟩ : ∃ m, n = m + 1 := ⟨n - 1, by omega⟩
    have q := p.1
    have hQ' : ∀ v, v < N → qm N S v = Q v := fun v hv => by rw [hJ.2.2.2.m]; exact hQ v hv
    have em := p.may hJ.1.1 h16 (v := i) (by omega) (hQ' i (by omega))
    rw [akl_c, f_X2_letAllAsk_2, cs_f q, cs_h0 q, bnd_e, cs_s q, p.2.2.2.2.2.1, if_neg (nI_ge (by omega) (by omega)), em, obd_s]
    by_cases m : mayA N i S = true
    · rw [if_pos m, if_pos m, if_neg ne10]
      have c0 : xR S 0 i = 0 := by
        unfold mayA at m
        exact of_decide_eq_true (Bool.and_eq_true _ _ |>.mp m).1
      have hl := TH_fl N S
      have hT := hJ.2.2.1
      obtain ⟨M2, e2, p2, f2⟩ := p.tak h16 (v := i) (by omega) (by rw [c0]; decide) (hQ' i (by omega)) (by omega) (n := n) (by omega)
      obtain ⟨M3, e3, p3, f3⟩ := ih (i + 1) n (A + 1) M2 _ p2 (hJ.tak c h16 (by omega) (by omega) m t) (by omega) (by omega) (by omega)
      exact ⟨M3, by rw [e2, obd_s, nI_1, bnd_e, e3], p3, f2.tr f3⟩
    · rw [if_neg m, if_neg m, if_pos rfl]
      obtain ⟨M3, e3, p3, f3⟩ := ih (i + 1) n (A + 1) M S p (hJ.mo (by omega) (Nat.le_refl _)) (by omega) (by omega) (by omega)
      exact ⟨M3, by rw [nI_1, bnd_e, e3], p3, f3⟩
theorem HV.tk2 {M : Mem} {h X Y A n : Nat} {t : Int32} {Q : Nat → Int32} {S : St} {pb pt : List Row4} (p : HV M h X Y t N Q S pb pt) (c : TC N S0) (h16 : N ≤ 16) (hB : B + 16 ≤ 9000) (hQ : ∀ v, v < N → qm N S0 v = Q v) (hJ : TJ N A B S0 S) (hA : A + N < 1048576) (hn : 40 ≤ n) : ∃ M', f_X2_letAllAsk n h M = some M' ∧ HV M' h X Y t N Q (akA t N S) pb pt ∧ FrH M M' h := by
  obtain ⟨M', e, p', f'⟩ := HV.aa2 (t := t) (Q := Q) (pb := pb) (pt := pt) c h16 hB hQ N 0 n A M S p hJ hA (by omega) (by omega)
  refine ⟨M', ?_, ?_, f'⟩
  · rw [f_X2_letAllAsk]; exact e
  · unfold akA; rw [List.range_eq_range']; exact p'
theorem RV.aa2 {tw : Bool} {t : Int32} {pb pt : List Row4} (c : TC N S0) (h16 : N ≤ 16) (hB : B + 16 ≤ 9000) (hN : xR S0 20 0 = nI N) (ht : xR S0 20 1 = 1 → N % 2 = 1) : ∀ (d i n A : Nat) (M : Mem) (S : St), RV M tw t S pb pt → TJ N A B S0 S → A + d < 1048576 → i + d = N → d + 9201 ≤ n → ∃ M', f_X10_askAll_2 n 120 (nI i) M = some M' ∧ RV M' tw t (akl t N (List.range' i d) S) pb pt ∧ Fr PA M M' := by
  intro d
  induction d with
  | zero =>
    intro i n A M S h hJ hA hi hn
    obtain ⟨n, rfl⟩ : ∃ m, n = m + 1 := ⟨n - 1, by omega⟩
    have hN' : xR S 20 0 = nI N := by rw [hJ.2.2.2 20 (by omega)]; exact hN
    refine ⟨M, ?_, h, Fr.rf _ _⟩
    rw [f_X10_askAll_2, rs_f h.1, rs_0 h.1, bnd_e, rs_fa h.1, rs_c0 h.1, cl0, h.N hN', if_pos (nI_le (by omega) (by omega))]
  | succ d ih =>
    intro i n A M S h hJ hA hi hn
    obtain ⟨n, rfl⟩ : ∃ m, n = m + 1 := ⟨n - 1, by omega⟩
    have hN' : xR S 20 0 = nI N := by rw [hJ.2.2.2 20 (by omega)]; exact hN
    have ht' : xR S 20 1 = 1 → N % 2 = 1 := by rw [hJ.2.2.2 20 (by omega)]; exact ht
    obtain ⟨M1, e1, h1, f1⟩ := h.can hN' h16 ht' (v := i) (by omega) (n := n) (by omega)
    have open1 : ∀ y, (if mayA N i S = true then obd (f_X10_askNow n 120 (nI i) M1) (fun M17 => f_X10_askAll_2 n 120 (nI (i + 1)) M17) else f_X10_askAll_2 n 120 (nI (i + 1)) M1) = y → f_X10_askAll_2 (n + 1) 120 (nI i) M = y := by
      intro y hy
      rw [f_X10_askAll_2, rs_f h.1, rs_0 h.1, bnd_e, rs_fa h.1, rs_c0 h.1, cl0, h.N hN', if_neg (nI_ge (by omega) (by omega)), e1, obd2_s]
      cases b : mayA N i S
      · rw [b] at hy
        simp only [Bool.false_eq_true, if_false, if_true, bnd_e, nI_1] at hy ⊢
        exact hy
      · rw [b] at hy
        simp only [if_true, ne10, if_false] at hy ⊢
        rw [rs_f h1.1]
        simp only [bnd_e, nI_1]
        exact hy
    rw [akl_c]
    by_cases m : mayA N i S = true
    · rw [if_pos m] at open1 ⊢
      have hl := TH_fl N S
      have hT := hJ.2.2.1
      obtain ⟨M2, e2, h2, f2⟩ := h1.tak hN' h16 ht' (v := i) (by omega) (by omega) (n := n) (by omega)
      obtain ⟨M3, e3, h3, f3⟩ := ih (i + 1) n (A + 1) M2 _ h2 (hJ.tak c h16 (by omega) (by omega) m t) (by omega) (by omega) (by omega)
      exact ⟨M3, open1 _ (by rw [e2, obd_s, e3]), h3, Fr.tr (f1.mo P2_A) (Fr.tr f2 f3)⟩
    · rw [if_neg m] at open1 ⊢
      obtain ⟨M3, e3, h3, f3⟩ := ih (i + 1) n (A + 1) M1 S h1 (hJ.mo (by omega) (Nat.le_refl _)) (by omega) (by omega) (by omega)
      exact ⟨M3, open1 _ e3, h3, Fr.tr (f1.mo P2_A) f3⟩
theorem RV.tk2 {M : Mem} {A n : Nat} {tw : Bool} {t : Int32} {S : St} {pb pt : List Row4} (h : RV M tw t S pb pt) (c : TC N S0) (h16 : N ≤ 16) (hB : B + 16 ≤ 9000) (hN : xR S0 20 0 = nI N) (ht : xR S0 20 1 = 1 → N % 2 = 1) (hJ : TJ N A B S0 S) (hA : A + N < 1048576) (hn : 9300 ≤ n) : ∃ M', f_X10_askAll n 120 M = some M' ∧ RV M' tw t (akA t N S) pb pt ∧ Fr PA M M' := by
  obtain ⟨M', e, h', f'⟩ := RV.aa2 (tw := tw) (t := t) (pb := pb) (pt := pt) c h16 hB hN ht N 0 n A M S h hJ hA (by omega) (by omega)
  refine ⟨M', ?_, ?_, f'⟩
  · rw [f_X10_askAll]; exact e
  · unfold akA; rw [List.range_eq_range']; exact h'
set_option maxHeartbeats 1000000 in
theorem HV.cr2 {A T X Y : Nat} {t w : Int32} {Q : Nat → Int32} {pb pt : List Row4} (h2N : 2 ≤ N) (h16 : N ≤ 16) (hT : T ≤ 500) (hQ : ∀ v, v < N → qm N S0 v = Q v) (c : TC N S0) (hA : A + 16 * (T + 1) < 1048576) (hB : B + T + 16 ≤ 9000) : ∀ (d i n : Nat) (M : Mem) (S : St) (g : Int64) (b : Bool), i + d = T → HV M 63 X Y t N Q S pb pt → XT M → mL M 63 16 = g → Gk g → TJ N (A + 16 * i) (B + i) S0 S → d + 60 ≤ n → ∃ M' n' S', f_X9_crowd_52 n 0 (nI T) w (if b then 1 else 0) (nI i) M = f_X9_crowd_85 n' 0 w M' ∧ 40 ≤ n' ∧ HV M' 63 X Y t N Q S' pb pt ∧ FrD M M' 63 := by
  intro d
  induction d with
  | zero =>
    intro i n M S g b hi p x hg hG J hn
    obtain ⟨n, rfl⟩ : ∃ m, n = m + 1 := ⟨n - 1, by omega⟩
    refine ⟨M, n, S, ?_, by omega, p, (FrH.rf _ _).D⟩
    rw [f_X9_crowd_52, if_pos (nI_le (by omega) (by omega))]
  | succ d ih =>
    intro i n M S g b hi p x hg hG J hn
    obtain ⟨n, rfl⟩ : ∃ m, n = m + 1 := ⟨n - 1, by omega⟩
    have next := (J.c1 c h16 (by omega) t g b).mo (A' := A + 16 * (i + 1)) (B' := B + (i + 1)) (by omega) (by omega)
    cases b with
    | false =>
      refine ⟨M, n, S, ?_, by omega, p, (FrH.rf _ _).D⟩
      rw [f_X9_crowd_52, if_neg (nI_ge (by omega) (by omega)), if_neg (show ¬ false = true by decide), if_pos rfl]
    | true =>
      have ja := J.tkA c h16 (by omega) t
      have hfl := TH_fl N S
      have hfl1 := TH_fl N (akA t N S)
      have jT := J.2.2.1
      have jaT := ja.2.2.1
      obtain ⟨M1, e1, p1, f1⟩ := p.tk2 c h16 (B := B + i) (by omega) hQ J (by omega) (n := n) (by omega)
      have x1 := x.fr f1
      have g1 : mL M1 63 16 = g := (f1.2.2.2.2.1 63 (by have := x.2.2.2.2; omega) 16).trans hg
      obtain ⟨s1, s2⟩ := p1.dr (n := n) ja.1 (by omega) h2N h16 (by omega) (by have := x1.2.2.2.2; omega) g1 hG (by omega)
      have hd : ∀ y : Option (Int32 × Mem), (obd2 (f_X2_moveByDraw n 63 M1) fun r16 M17 => bnd (nI i + (1 : Int32)) fun x18 => f_X9_crowd_52 n 0 (nI T) w r16 x18 M17) = y → f_X9_crowd_52 (n + 1) 0 (nI T) w (if true = true then 1 else 0) (nI i) M = y := by
        intro y hy
        rw [f_X9_crowd_52, if_neg (nI_ge (by omega) (by omega)), if_pos rfl, if_neg ne10, chk_t x.1, x.2.2.2.1, bnd_e, cs_f p.1, e1, obd_s, chk_t x1.1, x1.2.2.2.1, bnd_e, cs_f p1.1]
        exact hy
      by_cases k : mv0 N (akA t N S) = []
      · have em := s1 k
        rw [cr1_e k] at next
        obtain ⟨M', n', S', e', hn', p', f'⟩ := ih (i + 1) n M1 _ g false (by omega) p1 x1 g1 hG next (by omega)
        refine ⟨M', n', S', hd _ ?_, hn', p', f1.D.tr f'⟩
        rw [em, obd2_s, nI_1, bnd_e]
        exact e'
      · obtain ⟨m, M2, hk, em, p2, g2, f2⟩ := s2 k
        rw [cr1_s k hk] at next
        obtain ⟨M', n', S', e', hn', p', f'⟩ := ih (i + 1) n M2 _ (drw g) true (by omega) p2 (x1.frD f2) g2 (Gk_drw hG) next (by omega)
        refine ⟨M', n', S', hd _ ?_, hn', p', (f1.D.tr f2).tr f'⟩
        rw [em, obd2_s, nI_1, bnd_e]
        exact e'
set_option maxHeartbeats 1000000 in
theorem RV.cr2 {A T : Nat} {tw : Bool} {t w e1 e2 e3 : Int32} {pb pt : List Row4} (h2N : 2 ≤ N) (h16 : N ≤ 16) (hT : T ≤ 500) (hN0 : xR S0 20 0 = nI N) (ht0 : xR S0 20 1 = 1 → N % 2 = 1) (c : TC N S0) (hA : A + 16 * (T + 1) < 1048576) (hB : B + T + 16 ≤ 9000) : ∀ (d i n : Nat) (M : Mem) (S : St) (g : Int64) (b : Bool), i + d = T → RV M tw t S pb pt → mI M 120 7 = 0 → mL M 120 8 = g → Gk g → TJ N (A + 16 * i) (B + i) S0 S → d + 12000 ≤ n → ∃ M' n' S', f_X10_crowd_102 n 120 (nI T) w e1 e2 e3 (if b then 1 else 0) (nI i) M = f_X10_crowd_129 n' 120 w e1 e2 e3 M' ∧ 11000 ≤ n' ∧ RV M' tw t S' pb pt ∧ Qk S0 S' ∧ FrG M M' := by
  intro d
  induction d with
  | zero =>
    intro i n M S g b hi p hk hg hG J hn
    obtain ⟨n, rfl⟩ : ∃ m, n = m + 1 := ⟨n - 1, by omega⟩
    refine ⟨M, n, S, ?_, by omega, p, J.2.2.2, FrG.rf _⟩
    rw [f_X10_crowd_102, if_pos (nI_le (by omega) (by omega))]
  | succ d ih =>
    intro i n M S g b hi p hk hg hG J hn
    obtain ⟨n, rfl⟩ : ∃ m, n = m + 1 := ⟨n - 1, by omega⟩
    have next := (J.c1 c h16 (by omega) t g b).mo (A' := A + 16 * (i + 1)) (B' := B + (i + 1)) (by omega) (by omega)
    cases b with
    | false =>
      refine ⟨M, n, S, ?_, by omega, p, J.2.2.2, FrG.rf _⟩
      rw [f_X10_crowd_102, if_neg (nI_ge (by omega) (by omega)), if_neg (show ¬ false = true by decide), if_pos rfl]
    | true =>
      have ja := J.tkA c h16 (by omega) t
      have hfl := TH_fl N S
      have hfl1 := TH_fl N (akA t N S)
      have jT := J.2.2.1
      have jaT := ja.2.2.1
      have ka := ja.2.2.2 20 (by omega)
      obtain ⟨M1, e1', p1, f1⟩ := p.tk2 c h16 (B := B + i) (by omega) hN0 ht0 J (by omega) (n := n) (by omega)
      have k1 : mI M1 120 7 = 0 := (f1.2.1 120 (by unfold PA; omega) 7).trans hk
      have g1 : mL M1 120 8 = g := (f1.2.2 120 8).trans hg
      obtain ⟨M2, s1, s2, f2⟩ := p1.goO (n := n) ja.1 (by rw [ka]; exact hN0) h2N h16 (by rw [ka]; exact ht0) (by omega) (by omega) k1 g1 hG (by omega)
      have hd : ∀ y : Option (Int32 × Mem), (obd2 (f_X10_goOnce n 120 M1) fun r10 M11 => bnd (nI i + (1 : Int32)) fun x12 => f_X10_crowd_102 n 120 (nI T) w e1 e2 e3 r10 x12 M11) = y → f_X10_crowd_102 (n + 1) 120 (nI T) w e1 e2 e3 (if true = true then 1 else 0) (nI i) M = y := by
        intro y hy
        rw [f_X10_crowd_102, if_neg (nI_ge (by omega) (by omega)), if_pos rfl, if_neg ne10, rs_f p.1, e1', obd_s, rs_f p1.1]
        exact hy
      have k2 : mI M2 120 7 = 0 := (f2.2.2.1 7 (by decide)).trans k1
      by_cases k : mv0 N (akA t N S) = []
      · obtain ⟨em, p2, g2⟩ := s1 k
        rw [cr1_e k] at next
        obtain ⟨M', n', S', e', hn', p', q', f'⟩ := ih (i + 1) n M2 _ g false (by omega) p2 k2 g2 hG next (by omega)
        refine ⟨M', n', S', hd _ ?_, hn', p', q', FrG.tr (FrG.ofA f1) (FrG.tr f2 f')⟩
        rw [em, obd2_s, nI_1, bnd_e]
        exact e'
      · obtain ⟨m, hk', em, p2, g2⟩ := s2 k
        rw [cr1_s k hk'] at next
        obtain ⟨M', n', S', e', hn', p', q', f'⟩ := ih (i + 1) n M2 _ (drw g) true (by omega) p2 k2 g2 (Gk_drw hG) next (by omega)
        refine ⟨M', n', S', hd _ ?_, hn', p', q', FrG.tr (FrG.ofA f1) (FrG.tr f2 f')⟩
        rw [em, obd2_s, nI_1, bnd_e]
        exact e'
end
def P127 (o : Nat) : Prop := o = 127
theorem c59_2 {tw : Bool} {t a1 a2 a3 x19 x25 r28 : Int32} {S0 : St} {pb pt : List Row4} {N : Nat} (hN : xR S0 20 0 = nI N) (h16 : N ≤ 16) : ∀ (d i n : Nat) (M : Mem), i + d = N → RV M tw t S0 pb pt → (∀ v, v < i → mI M 127 v = xR S0 12 v) → d + 1 ≤ n → ∃ M' n', f_X10_crowd_59 n 120 a1 a2 a3 x19 x25 r28 (nI i) M = f_X10_crowd_102 n' 120 a2 a3 x19 x25 r28 (1 : Int32) (0 : Int32) (sL M' 120 8 (a1.toInt64)) ∧ n ≤ n' + d + 1 ∧ RV M' tw t S0 pb pt ∧ (∀ v, v < N → mI M' 127 v = xR S0 12 v) ∧ Fr P127 M M' := by
  intro d
  induction d with
  | zero =>
    intro i n M hi p ht hn
    obtain ⟨n, rfl⟩ : ∃ m, n = m + 1 := ⟨n - 1, by omega⟩
    refine ⟨M, n, ?_, by omega, p, fun v hv => ht v (by omega), Fr.rf _ _⟩
    rw [f_X10_crowd_59, rs_f p.1, rs_0 p.1, bnd_e, rs_fa p.1, rs_c0 p.1, cl0, p.N hN, if_pos (nI_le (by omega) (by omega)), bnd_e]
  | succ d ih =>
    intro i n M hi p ht hn
    obtain ⟨n, rfl⟩ : ∃ m, n = m + 1 := ⟨n - 1, by omega⟩
    have i6 : i < 16 := by omega
    have ec : f_X10_countOf 120 (nI i) (0 : Int32) M = some (xR S0 12 i) := p.cnt i6 (w := 0) (by decide)
    have fa : Fr P127 M (sI M 127 i (xR S0 12 i)) := Fr.tsI (show P127 127 from rfl)
    generalize hMa : sI M 127 i (xR S0 12 i) = Ma at fa
    have pa : RV Ma tw t S0 pb pt := p.cg (by rw [← hMa]; rfl) (by rw [← hMa, mI_o _ _ _ _ _ (by decide)]) (fun b => by rw [← hMa, mI_o _ _ _ _ _ (by decide)]) (fun b => by rw [← hMa, mI_o _ _ _ _ _ (by decide)])
    obtain ⟨M', n', e', hn', p', t', k'⟩ := ih (i + 1) n Ma (by omega) pa (fun v hv => by
      rw [← hMa]
      by_cases c : v = i
      · rw [c, mI_s]
      · rw [mI_n _ _ _ _ c]; exact ht v (by omega)) (by omega)
    refine ⟨M', n', ?_, by omega, p', t', fa.tr k'⟩
    rw [f_X10_crowd_59, rs_f p.1, rs_0 p.1, bnd_e, rs_fa p.1, rs_c0 p.1, cl0, p.N hN, if_neg (nI_ge (by omega) (by omega)), rs_10 p.1, bnd_e, rs_f10 p.1, ec, obd_s, rs_c10 p.1 i6, sI_d (by omega), hMa, bnd_e, nI_1, bnd_e]
    exact e'
/-- the class in its trial: what it leaves of the reference -/
theorem WJ.trf {M M2 : Mem} {N A i X0 Y0 : Nat} {Q : Nat → Int32} {S : St} {pb pt : List Row4} (w : WJ M N A i Q S) (tr : TR M 63 X0 Y0 pb pt) (fD : FrD M M2 63) : RV M2 false 0 S [] [] ∧ mI M2 120 7 = 0 := by
  obtain ⟨X, Y, L, p, _⟩ := id w.1
  have fo : ∀ o, 120 ≤ o → o < 131 → M2.1.2.1 o = M.1.2.1 o ∧ (∀ b, mR M2 o b = mR M o b) ∧ ∀ b, mI M2 o b = mI M o b := by
    obtain ⟨x, f⟩ := id fD
    have hN := p.1.2.2.2.2.2.2
    have r57 : ∀ i, 5 ≤ i → i ≤ 7 → mR M 64 i = 63 + 2 + i ∨ 131 ≤ mR M 64 i := by
      obtain ⟨_, ⟨e5, e6, e7, len, ds, _⟩, _⟩ := tr
      obtain ⟨⟨y5, y6, y7⟩, _, _, x5, x6, x7, _⟩ := ds
      have y5' : mR M 64 5 = e5 := y5
      have y6' : mR M 64 6 = e6 := y6
      have y7' : mR M 64 7 = e7 := y7
      intro i a b
      rcases (show i = 5 ∨ i = 6 ∨ i = 7 by omega) with rfl | rfl | rfl
      · rw [y5']; exact x5
      · rw [y6']; exact x6
      · rw [y7']; exact x7
    have fo := FrH.o (M := sL M 63 16 x) f hN r57
    intro o a b
    obtain ⟨g1, g2, g3, _⟩ := fo.2 o (by omega) b
    exact ⟨g1, g2, g3⟩
  have n2 : mN M ≤ mN M2 := by
    obtain ⟨x, f⟩ := id fD
    exact f.1
  exact ⟨w.2.1.mr n2 fo, by rw [(fo 120 (by decide) (by decide)).2.2]; exact w.2.2.1⟩
/-- put aside -/
theorem RV.as {M : Mem} {t : Int32} {S : St} {pb pt : List Row4} (r : RV M false t S pb pt) {n : Nat} (hn : 10466 ≤ n) : ∃ Ma, f_X10_putAside n 120 M = some Ma ∧ RV Ma false t S pb pt ∧ Ma.1 = M.1 ∧ (∀ o, o ≠ 126 → ∀ b, mI Ma o b = mI M o b) ∧ (∀ b, b < 10465 → mI Ma 126 b = mI M 121 b) ∧ ∀ o b, mL Ma o b = mL M o b := by
  have oa : ∀ o, o ≠ 126 → ∀ b, mI (cpF M 121 126 0) o b = mI M o b := fun o n b => by
    show (if o = 126 ∧ 0 ≤ b ∧ b < 10465 then M.2.1 121 b else M.2.1 o b) = M.2.1 o b
    rw [if_neg (fun z => n z.1)]
  refine ⟨cpF M 121 126 0, f_aside r.1 hn, r.cg rfl (oa 120 (by decide) 3) (oa 121 (by decide)) (oa 123 (by decide)), rfl, oa, fun b hb => ?_, fun _ _ => rfl⟩
  show (if 126 = 126 ∧ 0 ≤ b ∧ b < 10465 then M.2.1 121 b else M.2.1 126 b) = M.2.1 121 b
  rw [if_pos ⟨rfl, Nat.zero_le _, hb⟩]
theorem WJ.tc {M : Mem} {N A i : Nat} {Q : Nat → Int32} {S : St} (w : WJ M N A i Q S) : TC N S := by
  have sw := w.2.2.2.1
  have h7 : ∀ v, v < 16 → xR S 7 v = 0 ∨ xR S 7 v = 1 := fun v hv => (sw.inv.1 v hv).2.2.1
  exact ⟨qm_hi sw.bi sw.n16 sw.t, fun v hv => qm_ub sw.bi sw.n16 sw.t h7 hv⟩
theorem TH_clr (N : Nat) (S : St) : TH N (clr S) = TH N S := smN_c 16 (fun a _ => by
  have : Ph a (clr S) = Ph a S := (clr_SE S).tPh a
  show Ph a (clr S) + th N (clr S) a = Ph a S + th N S a
  rw [this]
  rfl)
theorem WJ.tj {M : Mem} {N A i : Nat} {Q : Nat → Int32} {S : St} (w : WJ M N A i Q S) (hi : i ≤ 511) : TJ N A 8432 S S ∧ TJ N A 8432 S (clr S) := by
  have sw := w.2.2.2.1
  have h1 := sw.ps hi
  have h2 := TH_0 sw.n16 S
  exact ⟨⟨sw.inv, sw.ix, by omega, fun _ _ _ => rfl⟩, ⟨sw.inv.clr, (clr_SE S).sy.tix sw.n16 sw.ix, by rw [TH_clr]; omega, fun _ _ _ => rfl⟩⟩
theorem op46 {M : Mem} {i n : Nat} (h : WI i M) (hi : i ≤ 511) (a b c : Int32) (hn : 100000 ≤ n) : Oks i (f_X9_crowd n 0 a b c M) (fun M1 => f_X10_crowd n 120 a b c M1) := by
  obtain ⟨N, A, Q, S, w⟩ := h
  obtain ⟨X, Y, L, p, sb, xg, xr⟩ := id w.1
  obtain ⟨_, r, z7, sw, hQ⟩ := id w
  have h16 := sw.n16
  have h2 := sw.n2
  have hA := sw.a
  by_cases ha : a < 0
  · refine (Okk.same w (r := -1) ?_ ?_).ks
    · rw [f_X9_crowd, if_pos ha]
    · show f_X10_crowd n 120 a b c M = _
      rw [f_X10_crowd, if_pos ha]
  · rcases up500 b with hb | ⟨T, hT, rfl⟩
    · refine (Okk.same w (r := -1) ?_ ?_).ks
      · rw [f_X9_crowd, if_neg ha]
        by_cases q : b < 0
        · rw [if_pos q]
        · rw [if_neg q, if_pos (show (500 : Int32) < b from gt3 (N := 500) (by decide) (hb.resolve_left q))]
      · show f_X10_crowd n 120 a b c M = _
        have : f_X10_isIn b (0 : Int32) (500 : Int32) M = some 0 := by
          rw [f_X10_isIn]
          by_cases q : b < 0
          · rw [if_pos q]
          · rw [if_neg q, if_pos (show (500 : Int32) < b from gt3 (N := 500) (by decide) (hb.resolve_left q))]
        rw [f_X10_crowd, if_neg ha, this, obd_s, if_pos rfl]
    · have nT : ¬ nI T < 0 := nI_nlt (b := 0) (Nat.zero_le _) (by omega)
      have mT : ¬ (500 : Int32) < nI T := nI_nlt (a := 500) (by omega) (by decide)
      rcases out_in (N := 6) (by decide) c with hc | ⟨u, hu, rfl⟩
      · refine (Okk.same w (r := -1) ?_ ?_).ks
        · rw [f_X9_crowd, if_neg ha, if_neg nT, if_neg mT]
          by_cases q : c < 0
          · rw [if_pos q]
          · rw [if_neg q, if_neg (show ¬ c ≤ (5 : Int32) from Int32.not_le.mpr (gt3 (N := 5) (by decide) (hc.resolve_left q)))]
        · show f_X10_crowd n 120 a (nI T) c M = _
          have : f_X10_isIn c (0 : Int32) (5 : Int32) M = some 0 := by
            rw [f_X10_isIn]
            by_cases q : c < 0
            · rw [if_pos q]
            · rw [if_neg q, if_pos (show (5 : Int32) < c from gt3 (N := 5) (by decide) (hc.resolve_left q))]
          rw [f_X10_crowd, if_neg ha, show (500 : Int32) = nI 500 from rfl, f_isI M hT (by decide), obd_s, if_neg ne10, this, obd_s, if_pos rfl]
      · obtain ⟨s, hs, rfl⟩ := nn_e ha
        have tc := w.tc
        obtain ⟨jr, jc⟩ := w.tj hi
        obtain ⟨X0, Y0, pb, pt, tr, dj, fin⟩ := w.1.tri
        have x0 : XT M := ⟨xg.1, xg.2.1, xg.2.2.2.1, xg.2.2.2.2.1, p.1.2.2.2.2.2.2⟩
        obtain ⟨M1, e1, p1, f1⟩ := p.copy tr (by omega) h16 dj (fun v hv => (sw.inv.1 v hv).2.2.2) (fun v hv w hw => by have := ((sw.inv.2.2.2.2.2.1 v hv).1.2.2 w hw).1; omega) (n := n) (by omega)
        have x1 := x0.fr f1
        obtain ⟨M2, n2, S2, e2, hn2, p2, f2⟩ := HV.cr2 (A := A) (B := 8432) (S0 := S) (t := 0) (w := nI u) h2 h16 hT (fun v hv => hQ v hv) tc (by omega) (by omega) T 0 n (sL M1 63 16 ((nI s).toInt64)) (clr S) _ true (by omega) (p1.tsL _ _ _) (x1.sL _ _ _) (mL_s _ _ _ _) (lN_Gk hs) jc (by omega)
        have fD : FrD M M2 63 := f1.D.tr (FrD.tr ⟨_, FrH.rf _ _⟩ f2)
        have cw := fin M2 0 Q S2 pb pt fD p2
        have x2 := x0.frD fD
        obtain ⟨r2, z2⟩ := w.trf tr fD
        have e85 : f_X9_crowd_85 n2 0 (nI u) M2 = some (cT N S S2 u, M2) := by
          obtain ⟨_, _, _, p14, _⟩ := id cw
          exact c85 p2 x2 p14.hh h16 (fun v hv => (sw.inv.1 v hv).2.2.1) (by omega) (by omega)
        have ec : f_X9_crowd n 0 (nI s) (nI T) (nI u) M = some (cT N S S2 u, M2) := by
          rw [f_X9_crowd, if_neg (show ¬ nI s < 0 from nI_nlt (b := 0) (by omega) hs), if_neg nT, if_neg mT, if_neg (show ¬ nI u < 0 from nI_nlt (b := 0) (by omega) (by omega)), if_pos (show nI u ≤ (5 : Int32) from nI_le (b := 5) (by omega) (by decide)), chk_t xg.1, xg.2.2.2.2.1, bnd_e, cs_f tr.1, xg.2.2.2.1, bnd_e, cs_f p.1, e1, obd_s, chk_t x1.1, x1.2.2.2.1, bnd_e, cs_f p1.1, bnd_e]
          refine Eq.trans (show _ = f_X9_crowd_52 n 0 (nI T) (nI u) (if true then 1 else 0) (nI 0) (sL M1 63 16 ((nI s).toInt64)) from rfl) ?_
          rw [e2, e85]
        -- the reference
        obtain ⟨Ma, ea, pa, sa, oa, ob, la⟩ := r2.as (n := n) (by omega)
        have g0 : mI Ma 121 9851 = xR S 15 0 := pa.rg (k := 15) (i := 0) (by unfold vk; omega)
        have g2 : mI Ma 121 9853 = xR S 15 2 := pa.rg (k := 15) (i := 2) (by unfold vk; omega)
        have sn := pa.sent (n := n) (by omega)
        obtain ⟨M3, n3, e3, hn3, p3, t3, k3⟩ := c59_2 (a1 := nI s) (a2 := nI T) (a3 := nI u) (x19 := xR S 15 0) (x25 := xR S 15 2) (r28 := sa6 S) sw.n h16 N 0 n Ma (by omega) pa (fun v hv => by omega) (by omega)
        have z3 : mI M3 120 7 = 0 := by rw [k3.2.1 120 (by unfold P127; decide), oa 120 (by decide)]; exact z2
        obtain ⟨M4, n4, S4, e4, hn4, p4, q4, f4⟩ := RV.cr2 (A := A) (B := 8432) (S0 := S) (w := nI u) (e1 := xR S 15 0) (e2 := xR S 15 2) (e3 := sa6 S) h2 h16 hT sw.n sw.t tc (by omega) (by omega) T 0 n3 (sL M3 120 8 ((nI s).toInt64)) S _ true (by omega) (p3.tsL _ _ _) z3 (mL_s _ _ _ _) (lN_Gk hs) jr (by omega)
        have f41 : M4.1 = M3.1 := f4.1
        have f42 : ∀ o, ¬ (120 ≤ o ∧ o ≤ 124) → ∀ k, mI M4 o k = mI M3 o k := f4.2.1
        have f43 : ∀ k, k ≠ 6 → mI M4 120 k = mI M3 120 k := f4.2.2.1
        have tl := p4.told (S0 := S) (n := n4) (w := u) ((q4 20 (by omega) 0).trans sw.n) h16 (fun v _ => q4 7 (by omega) v) (fun v hv => by
          rw [f42 127 (by decide) v]; exact t3 v hv) hu (by omega)
        have eb := f_back p4.1 (n := n4) (by omega)
        have er : f_X10_crowd n 120 (nI s) (nI T) (nI u) M2 = some (cR N S S4 u, cpF M4 126 121 0) := by
          rw [f_X10_crowd, if_neg (show ¬ nI s < 0 from nI_nlt (b := 0) (by omega) hs), show (500 : Int32) = nI 500 from rfl, f_isI M2 hT (by decide), obd_s, if_neg ne10, show (5 : Int32) = nI 5 from rfl, f_isI M2 (show u ≤ 5 by omega) (by decide), obd_s, if_neg ne10, rs_f r2.1, ea, obd_s, rs_f pa.1, rs_0 pa.1, bnd_e, rs_fa pa.1, show (9851 : Int32) = nI 9851 from rfl, rs_c pa.1 (by decide), cl_n (by decide), g0, bnd_e, bnd_e, rs_fa pa.1, show (9853 : Int32) = nI 9853 from rfl, rs_c pa.1 (by decide), cl_n (by decide), g2, bnd_e, sn, obd_s, show (0 : Int32) = nI 0 from rfl, e3]
          have e4' : f_X10_crowd_102 n3 120 (nI T) (nI u) (xR S 15 0) (xR S 15 2) (sa6 S) (1 : Int32) (0 : Int32) (sL M3 120 8 ((nI s).toInt64)) = f_X10_crowd_129 n4 120 (nI u) (xR S 15 0) (xR S 15 2) (sa6 S) M4 := e4
          rw [e4', f_X10_crowd_129, rs_f p4.1, tl, obd_s, eb, obd_s]
        have k7 : ∀ o, o ≠ 127 → ∀ b, mI M3 o b = mI Ma o b := fun o n b => k3.2.1 o n b
        refine ⟨_, _, M2, _, ec, r2.1.io (by decide) (by decide) (by decide), er, w.rfb cw r2 z2 (f41.trans (k3.1.trans sa)) (fun o ho b => by rw [f42 o (by omega), k7 o (by omega), oa o (by omega)]) (by rw [f43 3 (by decide), k7 120 (by decide), oa 120 (by decide)]) (by rw [f43 7 (by decide), k7 120 (by decide), oa 120 (by decide)]) (fun b hb => by rw [f42 126 (by decide), k7 126 (by decide)]; exact ob b hb) (fun o ho b => (f4.2.2.2 o b (by omega)).trans ((mL_o _ _ _ _ (by omega)).trans ((k3.2.2 o b).trans (la o b))))⟩
/-! ===== the reference's search once more, with what it leaves ===== -/
def FrZ (M M' : Mem) : Prop := M'.1 = M.1 ∧ (∀ o, (o < 120 ∨ 130 < o) ∨ o = 126 → ∀ b, mI M' o b = mI M o b) ∧ mI M' 120 3 = mI M 120 3 ∧ ∀ o b, mL M' o b = mL M o b
theorem FrZ.rf (M : Mem) : FrZ M M := ⟨rfl, fun _ _ _ => rfl, rfl, fun _ _ => rfl⟩
theorem FrZ.tr {M M' M'' : Mem} (h : FrZ M M') (h' : FrZ M' M'') : FrZ M M'' := ⟨h'.1.trans h.1, fun o n b => (h'.2.1 o n b).trans (h.2.1 o n b), h'.2.2.1.trans h.2.2.1, fun o b => (h'.2.2.2 o b).trans (h.2.2.2 o b)⟩
/-- all is brought back -/
def FZ (M M' : Mem) : Prop := ∃ Mz, M' = cpF (sI Mz 120 7 0) 126 121 0 ∧ Mz.1 = M.1 ∧ (∀ o, (o < 120 ∨ 130 < o) → ∀ b, mI Mz o b = mI M o b) ∧ (∀ b, b < 10465 → mI Mz 126 b = mI M 121 b) ∧ mI Mz 120 3 = mI M 120 3 ∧ ∀ o b, mL Mz o b = mL M o b
def P125 (o : Nat) : Prop := o = 125
section
variable {N A P most : Nat} {S0 : St} {t : Int32} {pb pt : List Row4} {ask : Int32} {sn : Nat → Int32} {nd : Option Nat}
set_option maxHeartbeats 1000000 in
theorem s100_2 (k : SK N A P most S0) (K : Nat → Int32 → Int32 → Int32 → Mem → Option Mem) {i : Nat} {p : St × Nat} {l : List (St × Nat)} (hi : i < most) (v2 : Int32) : ∀ (e j n : Nat) (M : Mem) (q : Bq), j + e = (mvl N p.1 ask sn).length → q.1[i]? = some p → GQ N A P most S0 q → RM N A P S0 t pb pt ask sn nd M q l → e + 20100 ≤ n → ∃ M', f_X10_search_100 K n 120 (nI most) v2 (nI i) (nI (mvl N p.1 ask sn).length) (nI j) M = K 120 (nI most) v2 (nI (i + 1)) M' ∧ GQ N A P most S0 (exl N most p.1 p.2 ((mvl N p.1 ask sn).drop j) q) ∧ RM N A P S0 t pb pt ask sn nd M' (exl N most p.1 p.2 ((mvl N p.1 ask sn).drop j) q) l ∧ FrZ M M' := by
  obtain ⟨h2, h16, h40, hA, hP, hN0, ht0, hQ⟩ := id k
  intro e
  induction e with
  | zero =>
    intro j n M q hj hp gq hM hn
    obtain ⟨n, rfl⟩ : ∃ m, n = m + 1 := ⟨n - 1, by omega⟩
    have hml := mvl_len (N := N) p.1 ask sn
    rw [List.drop_of_length_le (by omega)]
    refine ⟨M, ?_, gq, hM, FrZ.rf M⟩
    rw [f_X10_search_100, if_pos (nI_le (by omega) (by omega)), nI_1, bnd_e]
  | succ e ih =>
    intro j n M q hj hp gq hM hn
    obtain ⟨n, rfl⟩ : ∃ m, n = m + 1 := ⟨n - 1, by omega⟩
    have hml := mvl_len (N := N) p.1 ask sn
    obtain ⟨⟨S, d, r, g⟩, hq, hc, hask, hsn⟩ := hM
    obtain ⟨⟨Si, a1, a2, a3⟩, a4⟩ := hq.2.2 i p hp
    obtain ⟨dp, gp⟩ := gq.2.2 i p hp
    have g2 := a3.tmx k.2.1 g
    obtain ⟨M1, e1, r1, s1, o1, L1⟩ := r.lays a2 (show i < 40 by omega) (n := n) (by omega)
    have sp : SE (mix Si S) p.1 := (mix_SE (a3.2.2.1.ss g.2.2.1)).tr a1
    have tR := g2.tR k
    obtain ⟨M2, e2, r2, m2, f2⟩ := r1.lay tR.1 h16 tR.2 (ask := ask) (sn := sn) ((o1 120 (by decide) 7).trans hask) (fun v hv => (o1 125 (by decide) v).trans (hsn v hv)) (n := n) (by omega)
    have hmv : mvl N (mix Si S) ask sn = mvl N p.1 ask sn := sp.sy.tmv h16 ask (fun _ _ => rfl)
    have hjl : j < (mvl N p.1 ask sn).length := by omega
    have hcj : (mvl N (mix Si S) ask sn)[j]? = some ((mvl N p.1 ask sn)[j]) := by rw [hmv]; exact List.getElem?_eq_getElem hjl
    generalize hcc : (mvl N p.1 ask sn)[j] = c at hcj
    have hcm : c ∈ mvl N p.1 ask sn := by rw [← hcc]; exact List.getElem_mem hjl
    have hcm2 : c ∈ mvl N (mix Si S) ask sn := by rw [hmv]; exact hcm
    have ok := mvl_ok gp.1 h16 hcm
    have ok2 := mvl_ok g2.1 h16 hcm2
    obtain ⟨M3, e3, r3, f3⟩ := r2.tdm g2.1 tR.1 h2 h16 tR.2 (by omega) (g2.fl k (by omega)) m2 hcj (n := n) (by omega)
    have g3 := g2.mv h2 h16 (by omega) hQ ok2 t
    have gm := gp.mv h2 h16 (by omega) hQ ok 0
    have sm : SE (dm t N c (mix Si S)) (dm 0 N c p.1) := sp.tdm g2.1 h16 (by
      rcases ok2 with z | z | z
      · exact Or.inl z
      · exact Or.inr (Or.inl ⟨z.1, z.2.1, z.2.2.1⟩)
      · exact Or.inr (Or.inr ⟨z.1, z.2.1⟩))
    have pa : ∀ o, ¬ PA o → ∀ b, mI M3 o b = mI M2 o b := f3.2.1
    have n120 : ¬ PA 120 := by unfold PA; decide
    have n125 : ¬ PA 125 := by unfold PA; decide
    have n128 : ¬ PA 128 := by unfold PA; decide
    have n129 : ¬ PA 129 := by unfold PA; decide
    have k3 : ∀ b, b ≠ 6 → mI M3 120 b = mI M 120 b := fun b hb => by rw [pa 120 n120, f2.2.2.1 b hb, o1 120 (by decide)]
    have far3 : ∀ o, 125 ≤ o → ∀ b, mI M3 o b = mI M o b := fun o ho b => by
      rw [pa o (by unfold PA; omega), f2.2.1 o (by omega), o1 o (by omega)]
    have hq3 : RQ N A P S0 M3 q := hq.cg (k3 13 (by decide)) (k3 14 (by decide)) (far3 128 (by decide)) (far3 129 (by decide))
    obtain ⟨M4, e4, r4, hq4, f4⟩ := r3.meet h16 (by omega) h40 g3 (by omega) sm hq3 gq (n := n) (by omega)
    have k4 : ∀ b, b ≠ 6 → b ≠ 13 → b ≠ 14 → mI M4 120 b = mI M 120 b := fun b h6 h13 h14 => (f4.2.2.1 b h13 h14).trans (k3 b h6)
    have hM4 : RM N A P S0 t pb pt ask sn nd M4 (met1 most q (dm 0 N c p.1) (p.2 + 1)) l :=
      ⟨⟨_, _, r4, g3⟩, hq4, hc.cg (fun b z1 z2 => k4 b (by omega) (by omega) (by omega)), (k4 7 (by decide) (by decide) (by decide)).trans hask, fun v hv => by rw [f4.2.1 125 (by decide) (by decide) (by decide), far3 125 (by decide)]; exact hsn v hv⟩
    have hiq : i < q.1.length := by
      rcases Nat.lt_or_ge i q.1.length with z | z
      · exact z
      · rw [List.getElem?_eq_none z] at hp; cases hp
    have z4 : FrZ M M4 := ⟨f4.1.trans (f3.1.trans (f2.1.trans s1)), fun o ho b => by rw [f4.2.1 o (by omega) (by omega) (by omega), pa o (by unfold PA; omega), f2.2.1 o (by omega), o1 o (by omega)], k4 3 (by decide) (by decide) (by decide), fun o b => (f4.2.2.2 o b).trans ((f3.2.2 o b).trans ((f2.2.2.2 o b).trans (L1 o b)))⟩
    obtain ⟨M', e', gq', hM', z'⟩ := ih (j + 1) n M4 (met1 most q (dm 0 N c p.1) (p.2 + 1)) (by omega) (met1_pre hp) (gq.m hiq (by omega) gm) hM4 (by omega)
    have ed : (mvl N p.1 ask sn).drop j = c :: (mvl N p.1 ask sn).drop (j + 1) := by rw [List.drop_eq_getElem_cons hjl, hcc]
    rw [ed, exl_c]
    refine ⟨M', ?_, gq', hM', z4.tr z'⟩
    rw [f_X10_search_100, if_neg (nI_ge (by omega) (by omega)), rs_f r.1, e1, obd_s, rs_f r1.1, e2, obd_s, rs_f r2.1, e3, obd_s, rs_f r3.1, rs_12 r3.1, bnd_e, rs_f12 r3.1, rs_c12 r3.1 (show i < 40 by omega), mI_c (by omega), far3 129 (by decide), a4, nI_1, e4, obd_s, nI_1, bnd_e]
    exact e'
set_option maxHeartbeats 1000000 in
theorem s72_2 (k : SK N A P most S0) (hnd : ∀ v, nd = some v → v < N) : ∀ (d i m n : Nat) (M : Mem) (q : Bq), i + d = most → d + 1 ≤ m → i ≤ q.1.length → GQ N A P most S0 q → RM N A P S0 t pb pt ask sn nd M q (q.1.take i) → d + 20900 ≤ n → ∃ M' Mz, f_X10_search_72 n 120 (nI most) (nodI nd) (nI i) M = some M' ∧ M' = cpF (sI Mz 120 7 0) 126 121 0 ∧ FrZ M Mz ∧ RS M' ∧ GQ N A P most S0 (bfs N most ask sn m i q) ∧ RQ N A P S0 M' (bfs N most ask sn m i q) ∧ RC N ask sn nd M' (bfs N most ask sn m i q).1 := by
  obtain ⟨h2, h16, h40, hA, hP, hN0, ht0, hQ⟩ := id k
  have stop : ∀ (i m n : Nat) (M : Mem) (q : Bq), i = q.1.length → GQ N A P most S0 q → RM N A P S0 t pb pt ask sn nd M q (q.1.take i) → 1 ≤ m → 10600 ≤ n → ∃ M' Mz, f_X10_search_72 n 120 (nI most) (nodI nd) (nI i) M = some M' ∧ M' = cpF (sI Mz 120 7 0) 126 121 0 ∧ FrZ M Mz ∧ RS M' ∧ GQ N A P most S0 (bfs N most ask sn m i q) ∧ RQ N A P S0 M' (bfs N most ask sn m i q) ∧ RC N ask sn nd M' (bfs N most ask sn m i q).1 := by
    intro i m n M q hi gq hM hm hn
    obtain ⟨n, rfl⟩ : ∃ j, n = j + 1 := ⟨n - 1, by omega⟩
    obtain ⟨m, rfl⟩ : ∃ j, m = j + 1 := ⟨m - 1, by omega⟩
    obtain ⟨⟨S, d, r, g⟩, hq, hc, hask, hsn⟩ := hM
    have eb : bfs N most ask sn (m + 1) i q = q := by
      unfold bfs
      rw [List.getElem?_eq_none (by omega)]
    rw [eb]
    rw [hi, List.take_length] at hc
    have hl := gq.1
    have S1 : RS (sI M 120 7 0) := r.1.e rfl
    have ef := f_back S1 (n := n) (by omega)
    have fin : ∀ o, o ≠ 121 → ∀ b, mI (cpF (sI M 120 7 0) 126 121 0) o b = mI (sI M 120 7 0) o b := fun o n b => by
      show (if o = 121 ∧ 0 ≤ b ∧ b < 10465 then (sI M 120 7 0).2.1 126 b else (sI M 120 7 0).2.1 o b) = (sI M 120 7 0).2.1 o b
      rw [if_neg (fun z => n z.1)]
    have f120 : ∀ b, b ≠ 7 → mI (cpF (sI M 120 7 0) 126 121 0) 120 b = mI M 120 b := fun b n => by rw [fin 120 (by decide), mI_n _ _ _ _ n]
    have fO : ∀ o, o ≠ 121 → o ≠ 120 → ∀ b, mI (cpF (sI M 120 7 0) 126 121 0) o b = mI M o b := fun o n1 n2 b => by rw [fin o n1, mI_o _ _ _ _ _ n2]
    refine ⟨cpF (sI M 120 7 0) 126 121 0, M, ?_, rfl, FrZ.rf M, S1.e rfl, gq, hq.cg (f120 13 (by decide)) (f120 14 (by decide)) (fO 128 (by decide) (by decide)) (fO 129 (by decide) (by decide)), hc.cg (fun b z1 z2 => f120 b (by omega))⟩
    rw [f_X10_search_72, rs_f r.1, hq.1, if_pos (by rw [hi]; exact Int32.le_refl _), bnd_e, ef, obd_s]
  intro d
  induction d with
  | zero =>
    intro i m n M q hi hm hil gq hM hn
    exact stop i m n M q (by have := gq.1; omega) gq hM (by omega) (by omega)
  | succ d ih =>
    intro i m n M q hi hm hil gq hM hn
    by_cases c : i = q.1.length
    · exact stop i m n M q c gq hM (by omega) (by omega)
    · obtain ⟨n, rfl⟩ : ∃ j, n = j + 1 := ⟨n - 1, by omega⟩
      obtain ⟨m, rfl⟩ : ∃ j, m = j + 1 := ⟨m - 1, by omega⟩
      have hlt : i < q.1.length := by omega
      have hl := gq.1
      obtain ⟨p, hp⟩ : ∃ p, q.1[i]? = some p := ⟨_, List.getElem?_eq_getElem hlt⟩
      obtain ⟨⟨S, dS, r, g⟩, hq, hc, hask, hsn⟩ := id hM
      obtain ⟨⟨Si, a1, a2, a3⟩, a4⟩ := hq.2.2 i p hp
      obtain ⟨dp, gp⟩ := gq.2.2 i p hp
      have g2 := a3.tmx k.2.1 g
      obtain ⟨M1, e1, r1, s1, o1, L1⟩ := r.lays a2 (show i < 40 by omega) (n := n) (by omega)
      have sp : SE (mix Si S) p.1 := (mix_SE (a3.2.2.1.ss g.2.2.1)).tr a1
      have tR := g2.tR k
      have hq1 : RQ N A P S0 M1 q := hq.cg (o1 120 (by decide) 13) (o1 120 (by decide) 14) (o1 128 (by decide)) (o1 129 (by decide))
      have hc1 : RC N ask sn nd M1 (q.1.take i) := hc.cg (fun b _ _ => o1 120 (by decide) b)
      have len : (q.1.take i).length ≤ 40 := by rw [List.length_take]; omega
      have c2 : cTwo N (q.1.take i) < 100 := by
        have := List.length_filter_le (fun p => sTwo N p.1) (q.1.take i)
        unfold cTwo; omega
      have c3 : cStk N ask sn (q.1.take i) < 100 := by
        have := List.length_filter_le (fun p => sStk N ask sn p.1) (q.1.take i)
        unfold cStk; omega
      have mx : ∀ l : List (St × Nat), (∀ p, p ∈ l → (fl p.1).length ≤ 9000) → cMx l ≤ 9000 := by
        have gen : ∀ (l : List (St × Nat)) (x : Nat), x ≤ 9000 → (∀ p, p ∈ l → (fl p.1).length ≤ 9000) → l.foldl (fun m p => max m (fl p.1).length) x ≤ 9000 := by
          intro l
          induction l with
          | nil => intro x hx _; exact hx
          | cons p l ihl =>
            intro x hx h
            rw [List.foldl_cons]
            exact ihl _ (Nat.max_le.mpr ⟨hx, h p (by simp)⟩) (fun q hq => h q (List.mem_cons_of_mem _ hq))
        intro l h
        exact gen l 0 (by omega) h
      have c4 : cMx (q.1.take i) ≤ 9000 := mx _ (fun p' hp' => by
        obtain ⟨j, hj⟩ := List.getElem?_of_mem (List.mem_of_mem_take hp')
        obtain ⟨dj, gj⟩ := gq.2.2 j p' hj
        have hjl : j < q.1.length := by
          rcases Nat.lt_or_ge j q.1.length with z | z
          · exact z
          · rw [List.getElem?_eq_none z] at hj; cases hj
        have := gj.fl k (by omega)
        omega)
      obtain ⟨M2, e2, r2, hc2, f2⟩ := r1.look (d := 0) (q := q) (p0 := p) (i := i) (ask := ask) (sn := sn) (nd := nd) h2 tR.1 h16 tR.2 ((o1 120 (by decide) 7).trans hask) (fun v hv => (o1 125 (by decide) v).trans (hsn v hv)) sp hp (by omega) ((o1 129 (by decide) i).trans a4) hnd hc1 ⟨c2, c3⟩ c4 (n := n) (by omega)
      have hq2 : RQ N A P S0 M2 q := hq1.cg (f2.2.2.1 13 (by decide) (by decide)) (f2.2.2.1 14 (by decide) (by decide)) (f2.2.1 128 (by decide)) (f2.2.1 129 (by decide))
      have ask2 : mI M2 120 7 = ask := (f2.2.2.1 7 (by decide) (by decide)).trans ((o1 120 (by decide) 7).trans hask)
      have sn2 : ∀ v, v < N → mI M2 125 v = sn v := fun v hv => (f2.2.1 125 (by decide) v).trans ((o1 125 (by decide) v).trans (hsn v hv))
      obtain ⟨M3, e3, r3, f3⟩ := r2.mvN tR.1 h16 tR.2 ask2 sn2 (n := n) (by omega)
      have hmv : mvl N (mix Si S) ask sn = mvl N p.1 ask sn := sp.sy.tmv h16 ask (fun _ _ => rfl)
      rw [hmv] at e3
      have hM3 : RM N A P S0 t pb pt ask sn nd M3 q (q.1.take (i + 1)) := ⟨⟨_, _, r3, g2⟩, hq2.cg (f3.2.2.1 13 (by decide)) (f3.2.2.1 14 (by decide)) (f3.2.1 128 (by decide)) (f3.2.1 129 (by decide)), hc2.cg (fun b z1 z2 => f3.2.2.1 b (by omega)), (f3.2.2.1 7 (by decide)).trans ask2, fun v hv => (f3.2.1 125 (by decide) v).trans (sn2 v hv)⟩
      have hml := mvl_len (N := N) p.1 ask sn
      obtain ⟨M4, e4, gq4, hM4, z4⟩ := s100_2 (t := t) (pb := pb) (pt := pt) (ask := ask) (sn := sn) (nd := nd) k (f_X10_search_72 n) (i := i) (p := p) (l := q.1.take (i + 1)) (by omega) (nodI nd) (mvl N p.1 ask sn).length 0 n M3 q (by omega) hp gq hM3 (by omega)
      rw [List.drop_zero] at gq4 hM4
      obtain ⟨b1, b2⟩ := exl_pre (N := N) (most := most) (S := p.1) (d := p.2) (mvl N p.1 ask sn) q hp
      have eb : bfs N most ask sn (m + 1) i q = bfs N most ask sn m (i + 1) (exl N most p.1 p.2 (mvl N p.1 ask sn) q) := by
        show (match q.1[i]? with
          | none => q
          | some p => bfs N most ask sn m (i + 1) (exl N most p.1 p.2 (mvl N p.1 ask sn) q)) = _
        rw [hp]
      rw [eb]
      rw [← b2] at hM4
      have hi1 : i + 1 ≤ (exl N most p.1 p.2 (mvl N p.1 ask sn) q).1.length := by
        rcases Nat.lt_or_ge i (exl N most p.1 p.2 (mvl N p.1 ask sn) q).1.length with z | z
        · exact z
        · rw [List.getElem?_eq_none z] at b1; cases b1
      obtain ⟨M', Mz, e', hz, zz, R⟩ := ih (i + 1) m n M4 _ (by omega) (by omega) hi1 gq4 hM4 (by omega)
      have z3 : FrZ M M3 := ⟨f3.1.trans (f2.1.trans s1), fun o ho b => by rw [f3.2.1 o (by omega), f2.2.1 o (by omega), o1 o (by omega)], by rw [f3.2.2.1 3 (by decide), f2.2.2.1 3 (by decide) (by decide), o1 120 (by decide)], fun o b => (f3.2.2.2 o b).trans ((f2.2.2.2 o b).trans (L1 o b))⟩
      refine ⟨M', Mz, ?_, hz, z3.tr (z4.tr zz), R⟩
      rw [f_X10_search_72, rs_f r.1, hq.1, if_neg (nI_ge hlt (by omega)), e1, obd_s, rs_f r1.1, e2, obd_s, rs_f r2.1, e3, obd2_s]
      exact e4.trans e'
end
theorem s6_2 {t : Int32} {S0 : St} {pb pt : List Row4} {N most : Nat} {v2 : Int32} (hN : xR S0 20 0 = nI N) (h16 : N ≤ 16) : ∀ (d i n : Nat) (M : Mem), i + d = N → RV M false t S0 pb pt → (∀ v, v < i → mI M 125 v = xR S0 2 v) → d + 1 ≤ n → ∃ M' n', f_X10_search_6 n 120 (nI most) v2 (nI i) M = f_X10_search_6 (n' + 1) 120 (nI most) v2 (nI N) M' ∧ n ≤ n' + 1 + d ∧ RV M' false t S0 pb pt ∧ (∀ v, v < N → mI M' 125 v = xR S0 2 v) ∧ Fr P125 M M' := by
  intro d
  induction d with
  | zero =>
    intro i n M hi p hs hn
    exact ⟨M, n - 1, by rw [show i = N by omega, show n - 1 + 1 = n by omega], by omega, p, fun v hv => hs v (by omega), Fr.rf _ _⟩
  | succ d ih =>
    intro i n M hi p hs hn
    obtain ⟨n, rfl⟩ : ∃ m, n = m + 1 := ⟨n - 1, by omega⟩
    have fa : Fr P125 M (sI M 125 i (xR S0 2 i)) := Fr.tsI (show P125 125 from rfl)
    generalize hMa : sI M 125 i (xR S0 2 i) = Ma at fa
    have pa : RV Ma false t S0 pb pt := p.cg (by rw [← hMa]; rfl) (by rw [← hMa, mI_o _ _ _ _ _ (by decide)]) (fun b => by rw [← hMa, mI_o _ _ _ _ _ (by decide)]) (fun b => by rw [← hMa, mI_o _ _ _ _ _ (by decide)])
    obtain ⟨M', n', e, hn', p', s', k'⟩ := ih (i + 1) n Ma (by omega) pa (fun v hv => by
      rw [← hMa]
      by_cases c : v = i
      · rw [c, mI_s]
      · rw [mI_n _ _ _ _ c]; exact hs v (by omega)) (by omega)
    refine ⟨M', n', ?_, by omega, p', s', fa.tr k'⟩
    rw [f_X10_search_6, rs_f p.1, rs_0 p.1, bnd_e, rs_fa p.1, rs_c0 p.1, cl0, p.N hN, if_neg (nI_ge (by omega) (by omega)), rs_5 p.1, bnd_e, rs_f5 p.1, p.get2 (by omega), obd_s, rs_c5 p.1 (by omega), sI_c (by omega), hMa, bnd_e, nI_1, bnd_e]
    exact e
set_option maxHeartbeats 1000000 in
theorem RV.srch2 {N A P most n : Nat} {S0 : St} {M : Mem} {t : Int32} {pb pt : List Row4} {ask : Int32} {nd : Option Nat} (p : RV M false t S0 pb pt) (k : SK N A P most S0) (hm : 0 < most) (g : GS N A P S0 S0 0) (hask : mI M 120 7 = ask) (hnd : ∀ v, nd = some v → v < N) (hn : 30000 ≤ n) : ∃ M', f_X10_search n 120 (nI most) (nodI nd) M = some M' ∧ FZ M M' ∧ RS M' ∧ GQ N A P most S0 (bfq N most ask S0) ∧ RQ N A P S0 M' (bfq N most ask S0) ∧ RC N ask (fun v => xR S0 2 v) nd M' (bfq N most ask S0).1 := by
  obtain ⟨h2, h16, h40, hA, hP, hN0, ht0, hQ⟩ := id k
  have ea := f_aside p.1 (n := n) (by omega)
  generalize hMa : cpF M 121 126 0 = Ma at ea
  have oa : ∀ o, o ≠ 126 → ∀ b, mI Ma o b = mI M o b := fun o n b => by
    rw [← hMa]
    show (if o = 126 ∧ 0 ≤ b ∧ b < 10465 then M.2.1 121 b else M.2.1 o b) = M.2.1 o b
    rw [if_neg (fun z => n z.1)]
  have pa : RV Ma false t S0 pb pt := p.cg (by rw [← hMa]; rfl) (oa 120 (by decide) 3) (oa 121 (by decide)) (oa 123 (by decide))
  obtain ⟨M1, n1, e1, hn1, p1, s1, k1⟩ := s6_2 (most := most) (v2 := nodI nd) hN0 h16 N 0 n Ma (by omega) pa (fun v hv => by omega) (by omega)
  generalize hMb : sI (sI (sI (sI (sI (sI M1 120 13 (0 : Int32)) 120 14 (0 : Int32)) 120 15 (0 : Int32)) 120 16 (0 : Int32)) 120 17 (0 : Int32)) 120 18 (-1 : Int32) = Mb
  have b13 : mI Mb 120 13 = 0 := by rw [← hMb, mI_n _ _ _ _ (by decide), mI_n _ _ _ _ (by decide), mI_n _ _ _ _ (by decide), mI_n _ _ _ _ (by decide), mI_n _ _ _ _ (by decide), mI_s]
  have b14 : mI Mb 120 14 = 0 := by rw [← hMb, mI_n _ _ _ _ (by decide), mI_n _ _ _ _ (by decide), mI_n _ _ _ _ (by decide), mI_n _ _ _ _ (by decide), mI_s]
  have b15 : mI Mb 120 15 = 0 := by rw [← hMb, mI_n _ _ _ _ (by decide), mI_n _ _ _ _ (by decide), mI_n _ _ _ _ (by decide), mI_s]
  have b16 : mI Mb 120 16 = 0 := by rw [← hMb, mI_n _ _ _ _ (by decide), mI_n _ _ _ _ (by decide), mI_s]
  have b17 : mI Mb 120 17 = 0 := by rw [← hMb, mI_n _ _ _ _ (by decide), mI_s]
  have b18 : mI Mb 120 18 = -1 := by rw [← hMb, mI_s]
  have bo : ∀ o, o ≠ 120 → ∀ b, mI Mb o b = mI M1 o b := fun o n b => by rw [← hMb, mI_o _ _ _ _ _ n, mI_o _ _ _ _ _ n, mI_o _ _ _ _ _ n, mI_o _ _ _ _ _ n, mI_o _ _ _ _ _ n, mI_o _ _ _ _ _ n]
  have bk : ∀ b, b < 13 → mI Mb 120 b = mI M1 120 b := fun b hb => by rw [← hMb, mI_n _ _ _ _ (by omega), mI_n _ _ _ _ (by omega), mI_n _ _ _ _ (by omega), mI_n _ _ _ _ (by omega), mI_n _ _ _ _ (by omega), mI_n _ _ _ _ (by omega)]
  have pb' : RV Mb false t S0 pb pt := p1.cg (by rw [← hMb]; rfl) (bk 3 (by decide)) (bo 121 (by decide)) (bo 123 (by decide))
  have q0 : RQ N A P S0 Mb ([], false) := ⟨b13, b14, fun i p hp => by simp at hp⟩
  have g0 : GQ N A P most S0 ([], false) := ⟨Nat.zero_le _, fun z => absurd z (by decide), fun i p hp => by simp at hp⟩
  obtain ⟨M2, e2, p2, q2, f2⟩ := pb'.meet (dd := 0) h16 (by omega) h40 g (by omega) (SE.rf S0) q0 g0 (n := n1) (by omega)
  have em : met1 most ([], false) S0 0 = ([(S0, 0)], false) := by
    unfold met1
    have : knw ([] : List (St × Nat)) S0 = false := by
      cases e : knw ([] : List (St × Nat)) S0 with
      | false => rfl
      | true =>
        obtain ⟨q, hq, _⟩ := knw_t.mp e
        simp at hq
    rw [show (([], false) : Bq).1 = [] from rfl, this, if_neg (by decide), if_pos (by simpa using hm)]
    rfl
  rw [em] at q2
  have o2 : ∀ b, b ≠ 13 → b ≠ 14 → mI M2 120 b = mI Mb 120 b := f2.2.2.1
  have hM2 : RM N A P S0 t pb pt ask (fun v => xR S0 2 v) nd M2 ([(S0, 0)], false) ((([(S0, 0)], false) : Bq).1.take 0) := by
    refine ⟨⟨S0, 0, p2, g⟩, q2, ⟨?_, ?_, ?_, ?_⟩, ?_, fun v hv => ?_⟩
    · rw [o2 15 (by decide) (by decide)]; exact b15
    · rw [o2 16 (by decide) (by decide)]; exact b16
    · rw [o2 17 (by decide) (by decide)]; exact b17
    · rw [o2 18 (by decide) (by decide), b18]
      cases nd <;> rfl
    · rw [o2 7 (by decide) (by decide), bk 7 (by decide), k1.2.1 120 (by unfold P125; decide), oa 120 (by decide)]
      exact hask
    · rw [f2.2.1 125 (by decide) (by decide) (by decide), bo 125 (by decide)]
      exact s1 v hv
  obtain ⟨M3, Mz, e3, hz, zz, S3, G3, Q3, C3⟩ := s72_2 (t := t) (pb := pb) (pt := pt) (ask := ask) (sn := fun v => xR S0 2 v) (nd := nd) k hnd most 0 (most + 1) n1 M2 ([(S0, 0)], false) (by omega) (by omega) (Nat.zero_le _) (SK_Q0 g hm) hM2 (by omega)
  have k5 : ∀ o, o ≠ 125 → ∀ b, mI M1 o b = mI Ma o b := fun o n b => k1.2.1 o n b
  have zM : ∀ o, o ≠ 120 → o ≠ 125 → o ≠ 128 → o ≠ 129 → ∀ b, mI M2 o b = mI Ma o b := fun o n1 n2 n3 n4 b => by rw [f2.2.1 o n1 n3 n4, bo o n1, k5 o n2]
  have s2 : M2.1 = M.1 := f2.1.trans ((show Mb.1 = M1.1 by rw [← hMb]; rfl).trans (k1.1.trans (show Ma.1 = M.1 by rw [← hMa]; rfl)))
  have a126 : ∀ b, b < 10465 → mI Ma 126 b = mI M 121 b := fun b hb => by
    rw [← hMa]
    show (if 126 = 126 ∧ 0 ≤ b ∧ b < 10465 then M.2.1 121 b else M.2.1 126 b) = M.2.1 121 b
    rw [if_pos ⟨rfl, Nat.zero_le _, hb⟩]
  have fz : FZ M M3 := ⟨Mz, hz, zz.1.trans s2, fun o ho b => by rw [zz.2.1 o (Or.inl ho), zM o (by omega) (by omega) (by omega) (by omega), oa o (by omega)], fun b hb => by rw [zz.2.1 126 (Or.inr rfl), zM 126 (by decide) (by decide) (by decide) (by decide)]; exact a126 b hb, by rw [zz.2.2.1, o2 3 (by decide) (by decide), bk 3 (by decide), k5 120 (by decide), oa 120 (by decide)], fun o b => (zz.2.2.2 o b).trans ((f2.2.2.2 o b).trans (by rw [← hMb]; exact (k1.2.2 o b).trans (by rw [← hMa]; rfl)))⟩
  refine ⟨M3, ?_, fz, S3, G3, Q3, C3⟩
  rw [f_X10_search, rs_f p.1, ea, obd_s, show (0 : Int32) = nI 0 from rfl, e1, f_X10_search_6, rs_f p1.1, rs_0 p1.1, bnd_e, rs_fa p1.1, rs_c0 p1.1, cl0, p1.N hN0, if_pos (Int32.le_refl _), bnd_e, chk_t (Or.inl rfl), bnd_e, bnd_e, bnd_e, bnd_e, bnd_e, hMb, show (0 : Int32) = nI 0 from rfl, e2, obd_s]
  exact e3
set_option maxHeartbeats 1000000 in
theorem RV.sby2 {N A P most n w : Nat} {S0 : St} {M : Mem} {t : Int32} {pb pt : List Row4} {ask : Int32} (p : RV M false t S0 pb pt) (k : SK N A P most S0) (hm : 0 < most) (g : GS N A P S0 S0 0) (ha : ask &&& ((((1 : Int32) <<< (nI N &&& 31)) - 1) ^^^ (-1 : Int32)) = 0) (hw : w < 6) (hn : 30000 ≤ n) : ∃ M', f_X10_searchedBy n 120 ask (nI most) (nI w) M = some (cSe N ask (fun v => xR S0 2 v) (bfq N most ask S0) w, M') ∧ FZ (sI M 120 7 ask) M' := by
  obtain ⟨h2, h16, h40, hA, hP, hN0, ht0, hQ⟩ := id k
  have pa : RV (sI M 120 7 ask) false t S0 pb pt := p.cg rfl (mI_n _ _ _ _ (by decide)) (fun b => mI_o _ _ _ _ _ (by decide)) (fun b => mI_o _ _ _ _ _ (by decide))
  obtain ⟨M1, e1, F1, S1, G1, Q1, C1⟩ := pa.srch2 (nd := none) k hm g (mI_s _ _ _ _) (fun v z => by cases z) hn
  have hpos := bfq_pos N most ask S0
  generalize bfq N most ask S0 = q at G1 Q1 C1 hpos ⊢
  have hl := G1.1
  refine ⟨M1, ?_, F1⟩
  have i1 : f_X10_isIn (nI most) (1 : Int32) (40 : Int32) M = some 1 := is_in3 (L := 1) (N := 40) (by decide) hm h40
  rw [f_X10_searchedBy, rs_f p.1, f_all p hN0, obd_s, if_pos ha, i1, obd_s, if_neg ne10, show (5 : Int32) = nI 5 from rfl, f_isI M (show w ≤ 5 by omega) (by decide), obd_s, if_neg ne10, bnd_e, show f_X10_search n 120 (nI most) (-1) (sI M 120 7 ask) = some M1 from e1, obd_s]
  unfold cSe
  rcases (show w = 0 ∨ w = 1 ∨ w = 2 ∨ w = 3 ∨ w = 4 ∨ w = 5 by omega) with rfl | rfl | rfl | rfl | rfl | rfl
  · rw [if_pos (show nI 0 = (0 : Int32) from rfl), if_pos rfl, rs_f S1, Q1.1]
  · rw [if_neg (show ¬ nI 1 = (0 : Int32) by decide), if_pos (show nI 1 = (1 : Int32) from rfl), if_neg (show ¬ (1 : Nat) = 0 by decide), if_pos rfl, rs_f S1, C1.1]
  · rw [if_neg (show ¬ nI 2 = (0 : Int32) by decide), if_neg (show ¬ nI 2 = (1 : Int32) by decide), if_pos (show nI 2 = (2 : Int32) from rfl), if_neg (show ¬ (2 : Nat) = 0 by decide), if_neg (show ¬ (2 : Nat) = 1 by decide), if_pos rfl, rs_f S1, C1.2.1]
  · rw [if_neg (show ¬ nI 3 = (0 : Int32) by decide), if_neg (show ¬ nI 3 = (1 : Int32) by decide), if_neg (show ¬ nI 3 = (2 : Int32) by decide), if_pos (show nI 3 = (3 : Int32) from rfl), if_neg (show ¬ (3 : Nat) = 0 by decide), if_neg (show ¬ (3 : Nat) = 1 by decide), if_neg (show ¬ (3 : Nat) = 2 by decide), if_pos rfl, rs_f S1, C1.2.2.1]
  · rw [if_neg (show ¬ nI 4 = (0 : Int32) by decide), if_neg (show ¬ nI 4 = (1 : Int32) by decide), if_neg (show ¬ nI 4 = (2 : Int32) by decide), if_neg (show ¬ nI 4 = (3 : Int32) by decide), if_pos (show nI 4 = (4 : Int32) from rfl), if_neg (show ¬ (4 : Nat) = 0 by decide), if_neg (show ¬ (4 : Nat) = 1 by decide), if_neg (show ¬ (4 : Nat) = 2 by decide), if_neg (show ¬ (4 : Nat) = 3 by decide), if_pos rfl, rs_f S1, Q1.2.1]
    cases q.2
    · rfl
    · rfl
  · obtain ⟨p5, h5⟩ : ∃ p5, q.1[q.1.length - 1]? = some p5 := ⟨_, List.getElem?_eq_getElem (by omega)⟩
    have d5 := (Q1.2.2 _ p5 h5).2
    have e1 : nI q.1.length - (1 : Int32) = nI (q.1.length - 1) := by rw [show (1 : Int32) = nI 1 from rfl, nI_sb hpos]
    rw [if_neg (show ¬ nI 5 = (0 : Int32) by decide), if_neg (show ¬ nI 5 = (1 : Int32) by decide), if_neg (show ¬ nI 5 = (2 : Int32) by decide), if_neg (show ¬ nI 5 = (3 : Int32) by decide), if_neg (show ¬ nI 5 = (4 : Int32) by decide), if_neg (show ¬ (5 : Nat) = 0 by decide), if_neg (show ¬ (5 : Nat) = 1 by decide), if_neg (show ¬ (5 : Nat) = 2 by decide), if_neg (show ¬ (5 : Nat) = 3 by decide), if_neg (show ¬ (5 : Nat) = 4 by decide), rs_f S1, rs_12 S1, bnd_e, rs_f12 S1, Q1.1, e1, rs_c12 S1 (by omega), mI_c (by omega), d5, h5]
theorem RV.ssn2 {N A P most n v : Nat} {S0 : St} {M : Mem} {t : Int32} {pb pt : List Row4} (p : RV M false t S0 pb pt) (k : SK N A P most S0) (hm : 0 < most) (g : GS N A P S0 S0 0) (h7 : mI M 120 7 = 0) (hv : v < N) (hnd : f_X10_isNode 120 (nI v) M = some 1) (hn : 30000 ≤ n) : ∃ M', f_X10_soonest n 120 (nI v) (nI most) M = some (cSon v (bfq N most 0 S0).1, M') ∧ FZ M M' := by
  obtain ⟨h2, h16, h40, hA, hP, hN0, ht0, hQ⟩ := id k
  obtain ⟨M1, e1, F1, S1, G1, Q1, C1⟩ := p.srch2 (nd := some v) k hm g h7 (fun u z => by cases z; exact hv) hn
  refine ⟨M1, ?_, F1⟩
  have i1 : f_X10_isIn (nI most) (1 : Int32) (40 : Int32) M = some 1 := is_in3 (L := 1) (N := 40) (by decide) hm h40
  rw [f_X10_soonest, rs_f p.1, hnd, obd_s, if_neg ne10, i1, obd_s, if_neg ne10, show f_X10_search n 120 (nI most) (nI v) M = some M1 from e1, obd_s, rs_f S1, C1.2.2.2]
  rfl
/-! ===== searched, searchedBy, soonest, from any state between the calls ===== -/
theorem tell_out {c : Int32} (h : Out 6 c) {M : Mem} : f_X6_tell 114 c M = some (-1) := by
  have n : ∀ k, k < 6 → ¬ c = nI k := fun k hk e => by
    rw [e] at h
    rcases h with h | h
    · exact absurd h (show ¬ nI k < 0 from nI_nl (a := k) (b := 0) (Nat.zero_le _) (by omega))
    · exact absurd h (nI_ge hk (by decide))
  rw [f_X6_tell, if_neg (show ¬ c = (0 : Int32) from n 0 (by decide)), if_neg (show ¬ c = (1 : Int32) from n 1 (by decide)), if_neg (show ¬ c = (2 : Int32) from n 2 (by decide)), if_neg (show ¬ c = (3 : Int32) from n 3 (by decide)), if_neg (show ¬ c = (4 : Int32) from n 4 (by decide)), if_neg (show ¬ c = (5 : Int32) from n 5 (by decide))]
theorem WJ.sk {M : Mem} {N A i m : Nat} {Q : Nat → Int32} {S : St} (w : WJ M N A i Q S) (hi : i ≤ 511) (h40 : m ≤ 40) : SK N A 8176 m S ∧ GS N A 8176 S S 0 := by
  have sw := w.2.2.2.1
  have h16 := sw.n16
  have tc := w.tc
  refine ⟨⟨sw.n2, h16, h40, by have := sw.a; omega, by omega, sw.n, sw.t, tc.1⟩, sw.inv, ⟨sw.ix, tc.2, sw.ps hi⟩, Qk.rf S, Kn.rf N S⟩
theorem WJ.run {M : Mem} {N A i m n : Nat} {Q : Nat → Int32} {S : St} (w : WJ M N A i Q S) (hi : i ≤ 511) (ask : Int32) (h1 : 1 ≤ m) (h40 : m ≤ 40) (hn : 100000 ≤ n) : ∃ M1, f_X6_run n 114 14 ask (nI m) M = some M1 ∧ CW M1 N Q S ∧ RV M1 false 0 S [] [] ∧ mI M1 120 7 = 0 ∧ GQ N A 8176 m S (bfq N m ask S) ∧ (∃ D X0 Y0 pb pt, CM D X0 Y0 0 N Q pb pt A 8176 m S ask (fun v => xR S 2 v) M1 (bfq N m ask S)) ∧ isO M1 9 0 ∧ mR M1 0 5 = 114 ∧ isO M1 6 114 := by
  obtain ⟨X, Y, L, p, sb, xg, xr⟩ := id w.1
  obtain ⟨sk, gs⟩ := w.sk hi h40
  obtain ⟨X0, Y0, pb, pt, sr, hX, hY, dj, sep, fin⟩ := w.1.sea
  have hN := p.1.2.2.2.2.2.2
  obtain ⟨M1, e1, gq, cm, f⟩ := run_w p sr sk h1 gs hX hY (fun v hv => w.2.2.2.2 v hv) dj sep (n := n) (by omega)
  have cw := fin M1 0 Q pb pt A 8176 m S ask _ _ cm f
  obtain ⟨f1, f2, f3, f4, f5⟩ := id f
  have r1 : RV M1 false 0 S [] [] := w.2.1.mr f1 (fun o a b => ⟨f2 o (by omega), fun c => f3 o c (by omega) (by omega) (by omega), f4 o (Or.inl ⟨b, by omega, by omega⟩)⟩)
  obtain ⟨_, _, _, _, _, xg1, _, _, xs1, _⟩ := id cw
  obtain ⟨_, _, _, _, _, _, _, _, sx1, _⟩ := xs1
  exact ⟨M1, e1, cw, r1, by rw [f4 120 (Or.inl ⟨by decide, by decide, by decide⟩)]; exact w.2.2.1, gq, ⟨_, _, _, _, _, cm⟩, xg1.1, xg1.2.2.2.2.2.2, sx1.1⟩
theorem WJ.fz {M M1 M2 : Mem} {N A i : Nat} {Q : Nat → Int32} {S : St} {ask : Int32} (w : WJ M N A i Q S) (cw : CW M1 N Q S) (r1 : RV M1 false 0 S [] []) (z1 : mI M1 120 7 = 0) (f : FZ (sI M1 120 7 ask) M2) : WI (i + 1) M2 := by
  obtain ⟨Mz, rfl, e, hI, h6, h3, h8⟩ := f
  have oz : ∀ o, o ≠ 120 → ∀ b, mI (sI Mz 120 7 0) o b = mI Mz o b := fun o n b => mI_o _ _ _ _ _ n
  have om : ∀ o, o ≠ 120 → ∀ b, mI (sI M1 120 7 ask) o b = mI M1 o b := fun o n b => mI_o _ _ _ _ _ n
  refine w.rfb cw r1 z1 (show Mz.1 = M1.1 from e) (fun o ho b => by rw [oz o (by omega), hI o (by omega), om o (by omega)]) (by rw [mI_n _ _ _ _ (by decide), h3, mI_n _ _ _ _ (by decide)]) (by rw [mI_s, z1]) (fun b hb => by rw [oz 126 (by decide), h6 b hb, om 121 (by decide)]) (fun o _ b => h8 o b)
theorem FZ.e {M1 M2 : Mem} (f : FZ M1 M2) : FZ (sI M1 120 7 (mI M1 120 7)) M2 := by
  have e : sI M1 120 7 (mI M1 120 7) = M1 := by
    refine Prod.ext rfl (Prod.ext ?_ rfl)
    funext a b
    show (if a = 120 ∧ b = 7 then mI M1 120 7 else M1.2.1 a b) = M1.2.1 a b
    by_cases c : a = 120 ∧ b = 7
    · rw [if_pos c, c.1, c.2]; rfl
    · rw [if_neg c]
  rw [e]; exact f
/-- both of them have searched -/
theorem WJ.both {M : Mem} {N A i m n : Nat} {Q : Nat → Int32} {S : St} (w : WJ M N A i Q S) (hi : i ≤ 511) (ask : Int32) (ha : ask &&& ((((1 : Int32) <<< (nI N &&& 31)) - 1) ^^^ (-1 : Int32)) = 0) (h1 : 1 ≤ m) (h40 : m ≤ 40) (c : Int32) (hn : 100000 ≤ n) : ∃ M1 r M2, f_X6_run n 114 14 ask (nI m) M = some M1 ∧ f_X6_tell 114 c M1 = some r ∧ isO M1 9 0 ∧ mR M1 0 5 = 114 ∧ isO M1 6 114 ∧ isO M1 10 120 ∧ f_X10_searchedBy n 120 ask (nI m) c M1 = some (r, M2) ∧ WI (i + 1) M2 := by
  obtain ⟨M1, e1, cw, r1, z1, gq, ⟨D, X0, Y0, pb, pt, cm⟩, i0, i5, i6⟩ := w.run hi ask h1 h40 hn
  obtain ⟨sk, gs⟩ := w.sk hi h40
  have io := r1.1.io (i := 120) (c := 10) (by decide) (by decide) (by decide)
  have sw := w.2.2.2.1
  rcases out_in (N := 6) (by decide) c with h | ⟨u, hu, rfl⟩
  · refine ⟨M1, -1, M1, e1, tell_out h, i0, i5, i6, io, ?_, N, A, Q, S, cw, r1, z1, sw.mo, w.2.2.2.2⟩
    have i1 : f_X10_isIn (nI m) (1 : Int32) (40 : Int32) M1 = some 1 := is_in3 (L := 1) (N := 40) (by decide) h1 h40
    rw [f_X10_searchedBy, rs_f r1.1, f_all r1 sw.n, obd_s, if_pos ha, i1, obd_s, if_neg ne10, out_is h (lt_of (by decide)), obd_s, if_pos rfl]
  · obtain ⟨M2, e2, f2⟩ := r1.sby2 (n := n) (w := u) sk h1 gs ha hu (by omega)
    exact ⟨M1, _, M2, e1, f_tellE cm (bfq_dn _ _ _ _) hu, i0, i5, i6, io, e2, w.fz cw r1 z1 f2⟩
theorem op42 {M : Mem} {i n : Nat} (h : WI i M) (hi : i ≤ 511) (a b c : Int32) (hn : 100000 ≤ n) : Okk i (f_X9_searchedBy n 0 a b c M) (fun M1 => f_X10_searchedBy n 120 a b c M1) := by
  obtain ⟨N, A, Q, S, w⟩ := h
  obtain ⟨X, Y, L, p, sb, xg, xc, xv, xs, xr⟩ := id w.1
  obtain ⟨_, r, z7, sw, hQ⟩ := id w
  by_cases ha : a &&& ((((1 : Int32) <<< (nI N &&& 31)) - 1) ^^^ (-1 : Int32)) = 0
  · rcases rng3 (L := 1) (N := 40) (by decide) (by decide) b with hb | ⟨m, h1, h40, rfl⟩
    · refine Okk.same w (r := -1) ?_ ?_
      · rw [f_X9_searchedBy, chk_t xg.1, xg.2.1, bnd_e, sb.f, sb.isS, if_pos ha, obd_s, if_neg ne10]
        by_cases q : b < 1
        · rw [if_pos q]
        · rw [if_neg q, if_neg (show ¬ b ≤ (40 : Int32) from Int32.not_le.mpr (gt3 (N := 40) (by decide) (hb.resolve_left q)))]
      · show f_X10_searchedBy n 120 a b c M = _
        rw [f_X10_searchedBy, rs_f r.1, f_all r sw.n, obd_s, if_pos ha, show (40 : Int32) = nI 40 from rfl, show (1 : Int32) = nI 1 from rfl]
        rw [is_out3 (by decide) hb, obd_s, if_pos rfl]
    · obtain ⟨M1, y, M2, e1, et, i0, i5, i6, io, e2, wi⟩ := w.both hi a ha h1 h40 c hn
      refine ⟨y, M1, M2, ?_, io, e2, wi⟩
      obtain ⟨_, _, _, _, _, _, _, _, sx, _⟩ := xs
      rw [f_X9_searchedBy, chk_t xg.1, xg.2.1, bnd_e, sb.f, sb.isS, if_pos ha, obd_s, if_neg ne10, if_neg (show ¬ nI m < (1 : Int32) from nI_nl (a := m) (b := 1) h1 (by omega)), if_pos (show nI m ≤ (40 : Int32) from nI_le (a := m) (b := 40) h40 (by decide)), xg.2.2.2.2.2.2, bnd_e, chk_t sx.1, xg.2.2.2.1, bnd_e, cs_f p.1, e1, obd_s, chk_t i0, i5, bnd_e, chk_t i6, et, obd_s]
  · refine Okk.same w (r := -1) ?_ ?_
    · rw [f_X9_searchedBy, chk_t xg.1, xg.2.1, bnd_e, sb.f, sb.isS, if_neg ha, obd_s, if_pos rfl]
    · show f_X10_searchedBy n 120 a b c M = _
      rw [f_X10_searchedBy, rs_f r.1, f_all r sw.n, obd_s, if_neg ha]
theorem and0 (x : Int32) : (0 : Int32) &&& x = 0 := by
  refine b_ext fun i _ => ?_
  rw [b_and, b_0]; rfl
theorem op41 {M : Mem} {i n : Nat} (h : WI i M) (hi : i ≤ 511) (a b : Int32) (hn : 100000 ≤ n) : Okk i (f_X9_searched n 0 a b M) (fun M1 => f_X10_searched n 120 a b M1) := by
  obtain ⟨N, A, Q, S, w⟩ := h
  obtain ⟨X, Y, L, p, sb, xg, xc, xv, xs, xr⟩ := id w.1
  obtain ⟨_, r, z7, sw, hQ⟩ := id w
  have ha := and0 ((((1 : Int32) <<< (nI N &&& 31)) - 1) ^^^ (-1 : Int32))
  rcases rng3 (L := 1) (N := 40) (by decide) (by decide) a with hb | ⟨m, h1, h40, rfl⟩
  · refine Okk.same w (r := -1) ?_ ?_
    · rw [f_X9_searched]
      by_cases q : a < 1
      · rw [if_pos q]
      · rw [if_neg q, if_neg (show ¬ a ≤ (40 : Int32) from Int32.not_le.mpr (gt3 (N := 40) (by decide) (hb.resolve_left q)))]
    · show f_X10_searched n 120 a b M = _
      rw [f_X10_searched, rs_f r.1, f_X10_searchedBy, rs_f r.1, f_all r sw.n, obd_s, if_pos ha, show (40 : Int32) = nI 40 from rfl, show (1 : Int32) = nI 1 from rfl]
      rw [is_out3 (by decide) hb, obd_s, if_pos rfl, obd2_s]
  · obtain ⟨M1, y, M2, e1, et, i0, i5, i6, io, e2, wi⟩ := w.both hi 0 ha h1 h40 b hn
    refine ⟨y, M1, M2, ?_, io, ?_, wi⟩
    · obtain ⟨_, _, _, _, _, _, _, _, sx, _⟩ := xs
      rw [f_X9_searched, if_neg (show ¬ nI m < (1 : Int32) from nI_nl (a := m) (b := 1) h1 (by omega)), if_pos (show nI m ≤ (40 : Int32) from nI_le (a := m) (b := 40) h40 (by decide)), chk_t xg.1, xg.2.2.2.2.2.2, bnd_e, chk_t sx.1, xg.2.2.2.1, bnd_e, cs_f p.1, e1, obd_s, chk_t i0, i5, bnd_e, chk_t i6, et, obd_s]
    · show f_X10_searched n 120 (nI m) b M1 = _
      rw [f_X10_searched, chk_t io, e2, obd2_s]
theorem op45 {M : Mem} {i n : Nat} (h : WI i M) (hi : i ≤ 511) (a b : Int32) (hn : 100000 ≤ n) : Okk i (f_X9_soonest n 0 a b M) (fun M1 => f_X10_soonest n 120 a b M1) := by
  obtain ⟨N, A, Q, S, w⟩ := h
  obtain ⟨X, Y, L, p, sb, xg, xc, xv, xs, xr⟩ := id w.1
  obtain ⟨_, r, z7, sw, hQ⟩ := id w
  have h16 := sw.n16
  have h2 := sw.n2
  rcases out_in (N := N) (by omega) a with ha | ⟨v, hv, rfl⟩
  · refine Okk.same w (r := -1) ?_ ?_
    · rw [f_X9_soonest, chk_t xg.1, xg.2.1, bnd_e, sb.f, ndc0 sb ha, obd_s, if_pos rfl]
    · show f_X10_soonest n 120 a b M = _
      rw [f_X10_soonest, rs_f r.1, ndr0 r sw.n (by omega) h16 ha, obd_s, if_pos rfl]
  · rcases rng3 (L := 1) (N := 40) (by decide) (by decide) b with hb | ⟨m, h1, h40, rfl⟩
    · refine Okk.same w (r := -1) ?_ ?_
      · rw [f_X9_soonest, chk_t xg.1, xg.2.1, bnd_e, sb.f, ndc sb hv h16, obd_s, if_neg ne10]
        by_cases q : b < 1
        · rw [if_pos q]
        · rw [if_neg q, if_neg (show ¬ b ≤ (40 : Int32) from Int32.not_le.mpr (gt3 (N := 40) (by decide) (hb.resolve_left q)))]
      · show f_X10_soonest n 120 (nI v) b M = _
        rw [f_X10_soonest, rs_f r.1, ndr r sw.n hv h16, obd_s, if_neg ne10, show (40 : Int32) = nI 40 from rfl, show (1 : Int32) = nI 1 from rfl]
        rw [is_out3 (by decide) hb, obd_s, if_pos rfl]
    · obtain ⟨M1, e1, cw, r1, z1, gq, ⟨D, X0, Y0, pb, pt, cm⟩, i0, i5, i6⟩ := w.run hi 0 h1 h40 hn
      obtain ⟨sk, gs⟩ := w.sk hi h40
      have io := r1.1.io (i := 120) (c := 10) (by decide) (by decide) (by decide)
      obtain ⟨M2, e2, f2⟩ := r1.ssn2 (n := n) sk h1 gs z1 hv (ndr r1 sw.n hv h16) (by omega)
      refine ⟨_, M1, M2, ?_, io, e2, w.fz cw r1 z1 f2.e⟩
      obtain ⟨_, _, _, _, _, _, _, _, sx, _⟩ := xs
      rw [f_X9_soonest, chk_t xg.1, xg.2.1, bnd_e, sb.f, ndc sb hv h16, obd_s, if_neg ne10, if_neg (show ¬ nI m < (1 : Int32) from nI_nl (a := m) (b := 1) h1 (by omega)), if_pos (show nI m ≤ (40 : Int32) from nI_le (a := m) (b := 40) h40 (by decide)), xg.2.2.2.2.2.2, bnd_e, chk_t sx.1, xg.2.2.2.1, bnd_e, cs_f p.1, e1, obd_s, chk_t i0, i5, bnd_e, chk_t i6, f_sonE cm gq h40 (by omega) (by omega), obd_s]
/-! ===== a clock: what is due grows less ===== -/
/-- lanes are longer at most, by letters of that time -/
def LN (t : Int32) (S S' : St) : Prop := ∀ l, ∃ ys, xL S' l = xL S l ++ ys ∧ ∀ y : Ltr, y ∈ ys → y.2.2 = t
theorem LN.eq {t : Int32} {S S' : St} (h : xL S' = xL S) : LN t S S' := fun l => ⟨[], by rw [h, List.append_nil], fun y hy => by cases hy⟩
theorem LN.rf (t : Int32) (S : St) : LN t S S := LN.eq rfl
theorem LN.tr {t : Int32} {S S' S'' : St} (h : LN t S S') (h' : LN t S' S'') : LN t S S'' := fun l => by
  obtain ⟨a, e, p⟩ := h l
  obtain ⟨b, e', p'⟩ := h' l
  refine ⟨a ++ b, by rw [e', e, List.append_assoc], fun y hy => ?_⟩
  rcases List.mem_append.mp hy with z | z
  · exact p y z
  · exact p' y z
theorem LN.tsn {t : Int32} {k f g : Nat} {s : Int32} {S : St} : LN t S (sn t k f g s S) := fun l => by
  rw [sn_L]
  by_cases c : l = 16 * f + g
  · rw [if_pos c, c]
    exact ⟨[(nI k, s, t)], rfl, fun y hy => by rw [List.mem_singleton] at hy; rw [hy]⟩
  · rw [if_neg c]
    exact ⟨[], (List.append_nil _).symm, fun y hy => by cases hy⟩
theorem LN.tsAl {t : Int32} {k f : Nat} {set s : Int32} : ∀ (ws : List Nat) (S : St), LN t S (sAl t k f set s ws S) := by
  intro ws
  induction ws with
  | nil => intro S; exact LN.rf t S
  | cons w ws ih =>
    intro S
    have e : sAl t k f set s (w :: ws) S = sAl t k f set s ws (if bt set w then (sn t k f w s S) else S) := by
      unfold sAl
      rw [List.foldl_cons]
    rw [e]
    refine LN.tr ?_ (ih _)
    split
    · exact LN.tsn
    · exact LN.rf t S
theorem LN.tgF {t : Int32} {a : Nat} {S : St} : LN t S (gF t a S) := by
  unfold gF
  split
  · exact LN.eq rfl
  · exact LN.tr (LN.eq rfl) LN.tsn
theorem LN.trq3 {t : Int32} {a : Nat} {S : St} : LN t S (rq3 t a S) := by
  unfold rq3
  split
  · exact LN.rf t S
  · exact LN.tr (LN.eq rfl) LN.tsn
theorem LN.trq2 {t : Int32} {a : Nat} {S : St} : ∀ old : List Wtr, LN t S (rq2 t a old S) := by
  intro old
  cases old with
  | nil => exact LN.rf t S
  | cons w r =>
    show LN t S (if ahd w.2 (nI w.1) (xR S 9 a) (xR S 8 a) then _ else S)
    split
    · exact LN.tsn
    · exact LN.rf t S
theorem LN.trq {t : Int32} {a v : Nat} {s : Int32} {S : St} : LN t S (rq t a v s S) := by
  unfold rq
  split
  · exact LN.tr (LN.eq rfl) LN.tgF
  · split
    · exact LN.tr (S' := uW S a (ins v s (xW S a))) (LN.eq rfl) (LN.tr (LN.trq2 _) LN.trq3)
    · exact LN.tr (LN.eq rfl) LN.tsn
theorem LN.tyl {t : Int32} {a v : Nat} {s : Int32} {S : St} : LN t S (yl t a v s S) := by
  unfold yl
  split
  · exact LN.tr (LN.eq rfl) LN.tgF
  · exact LN.rf t S
theorem LN.trl {t : Int32} {a v : Nat} {s : Int32} {S : St} : LN t S (rl t a v s S) := by
  unfold rl
  split
  · exact LN.tgF
  · exact LN.eq rfl
theorem LN.tyT {t : Int32} {v a : Nat} {S : St} : LN t S (yT t v a S) := by
  unfold yT
  simp only []
  exact LN.tr LN.tsn (LN.eq rfl)
theorem LN.tfdl {t : Int32} {v : Nat} {d : Int32} : ∀ (ws : List Nat) (S : St), LN t S (fdl t v d ws S) := by
  intro ws
  induction ws with
  | nil => intro S; exact LN.rf t S
  | cons w ws ih =>
    intro S
    have e : fdl t v d (w :: ws) S = fdl t v d ws (if bt d w then yT t v w S else S) := by
      unfold fdl
      rw [List.foldl_cons]
    rw [e]
    refine LN.tr ?_ (ih _)
    split
    · exact LN.tyT
    · exact LN.rf t S
theorem LN.tfd {t : Int32} {N v a : Nat} {S : St} : LN t S (fd t N v a S) := by
  unfold fd
  exact LN.tr (S' := uR S 6 v (bon (xR S 6 v) a)) (LN.eq rfl) (LN.tr (LN.tfdl _ _) (LN.eq rfl))
theorem LN.tiq {t : Int32} {v a : Nat} {S : St} : LN t S (iq t v a S) := by
  unfold iq
  split
  · split
    · exact LN.eq rfl
    · exact LN.tyT
  · exact LN.rf t S
theorem LN.trd {t s : Int32} {N k f g : Nat} {S : St} : LN t S (rd t N k f g s S) := by
  unfold rd
  simp only []
  have h : LN t S (if s ≤ xR S 1 g then S else uR S 1 g s) := by
    split
    · exact LN.rf t S
    · exact LN.eq rfl
  generalize (if s ≤ xR S 1 g then S else uR S 1 g s) = S1 at h ⊢
  refine LN.tr h ?_
  split
  · exact LN.trq
  · split
    · exact LN.tyl
    · split
      · exact LN.trl
      · split
        · split
          · exact LN.eq gr_WL.2
          · split
            · exact LN.tfd
            · exact LN.tiq
        · exact LN.rf t S1
/-- whether a letter is due -/
def due (t : Int32) (dl : Nat → Int32) (l : Nat) (x : Ltr) : Bool := !decide (t < x.2.2 + dl l)
def cnt (t : Int32) (dl : Nat → Int32) (S : St) : Nat := smN (fun l => ((xL S l).filter (due t dl l)).length) 256
theorem cnt_LN {t : Int32} {dl : Nat → Int32} {S S' : St} (h : LN t S S') (hd : ∀ l, l < 256 → t < t + dl l) : cnt t dl S' = cnt t dl S := by
  refine smN_c 256 (fun l hl => ?_)
  obtain ⟨ys, e, p⟩ := h l
  show ((xL S' l).filter (due t dl l)).length = ((xL S l).filter (due t dl l)).length
  rw [e, List.filter_append]
  have : ys.filter (due t dl l) = [] := by
    rw [List.filter_eq_nil_iff]
    intro y hy
    unfold due
    rw [p y hy, decide_eq_true (hd l hl)]
    decide
  rw [this, List.append_nil]
theorem cnt_br {t : Int32} {dl : Nat → Int32} {S : St} {N f g : Nat} {x : Ltr} {r : List Ltr} (hl : 16 * f + g < 256) (hx : xL S (16 * f + g) = x :: r) (hd : ∀ l, l < 256 → t < t + dl l) (du : due t dl (16 * f + g) x = true) : cnt t dl (br t N f g S) + 1 = cnt t dl S := by
  have e : br t N f g S = rd t N x.1.toNatClampNeg f g x.2.1 (wt N x.1.toNatClampNeg f g x.2.1 (uL S (16 * f + g) r)) := by
    unfold br
    rw [hx]
  have h1 : LN t (uL S (16 * f + g) r) (br t N f g S) := by
    rw [e]
    exact LN.tr (LN.eq (wt_WL _ _ _ _ _ _).2) LN.trd
  rw [cnt_LN h1 hd]
  have h2 := smN_at (f := fun l => ((xL (uL S (16 * f + g) r) l).filter (due t dl l)).length) (g := fun l => ((xL S l).filter (due t dl l)).length) 256 hl (fun l _ n => by
    show ((xL (uL S (16 * f + g) r) l).filter (due t dl l)).length = ((xL S l).filter (due t dl l)).length
    rw [xL_uL, if_neg n])
  have e1 : ((xL (uL S (16 * f + g) r) (16 * f + g)).filter (due t dl (16 * f + g))).length + 1 = ((xL S (16 * f + g)).filter (due t dl (16 * f + g))).length := by
    rw [xL_uL, if_pos rfl, hx, List.filter_cons, if_pos du, List.length_cons]
  show smN _ 256 + 1 = smN _ 256
  omega
theorem fl_smN (L : Nat → List Ltr) : ∀ n, (flr L 0 n).length = smN (fun l => (L l).length) n := by
  intro n
  induction n with
  | zero => rfl
  | succ n ih =>
    have := flr_len_ap L n 0 1
    rw [this, ih, flr_len_s]
    show _ = smN _ n + (L n).length
    rw [Nat.zero_add]
    rfl
theorem cnt_le (t : Int32) (dl : Nat → Int32) (S : St) : cnt t dl S ≤ (fl S).length := by
  rw [fl_r, fl_smN]
  exact smN_le 256 (fun l _ => List.length_filter_le _ _)
section
variable {N A : Nat} {P : Nat → Nat} {S0 S : St}
theorem GI.tb (h : GI N A P S0 S) (h16 : N ≤ 16) (hA : A < 1048576) {f g : Nat} (h2 : f < N) (h3 : g < N) (t : Int32) : GI N A P S0 (br t N f g S) := by
  obtain ⟨hI, hX, hZ, hP, hR⟩ := h
  obtain ⟨x1, x2⟩ := br_X hI h16 hA hX h2 h3 t
  have kk : Qk S (br t N f g S) := fun k z i => (Kq.tbr S t N f g).1 k i z
  refine ⟨hI.tbr h16 hA h2 h3 t, x1, hZ.tbr hI h16 h2 h3 t, fun a ha => Nat.le_trans (x2 a ha) (hP a ha), fun k i hk => ?_⟩
  rcases hk with rfl | hk
  · rw [kk 7 (by omega)]; exact hR 7 i (by omega)
  · rw [br_19 (by omega)]; exact hR k i (by omega)
theorem GI.tl (h : GI N A P S0 S) (h16 : N ≤ 16) {v : Nat} (h3 : v < N) (h4 : xR S 0 v = 2) (t : Int32) : GI N A P S0 (lv t N v S) := by
  obtain ⟨hI, hX, hZ, hP, hR⟩ := h
  have h0 : xR S 0 v ≠ 0 := by rw [h4]; decide
  obtain ⟨x1, x2⟩ := lv_X hI h16 hX h3 h0 t
  rw [if_pos h4] at x2
  exact ⟨hI.tlv h16 h3 h0 t, x1, hZ.tlv t, fun a ha => Nat.le_trans (x2 a ha) (hP a ha), fun k i hk => by rw [lv_R (by omega), if_neg (by omega)]; exact hR k i (by omega)⟩
/-- with the letters' times at 0 -/
theorem GI.tz (h : GI N A P S0 S) (h16 : N ≤ 16) : GI N A P S0 (fS 0 S S) := by
  obtain ⟨hI, hX, hZ, hP, hR⟩ := h
  have sm : Sam S (fS 0 S S) := ⟨rfl, fun _ _ _ _ => rfl⟩
  have se : SE S (fS 0 S S) := ⟨fun _ _ _ _ => rfl, fun _ _ => rfl, fun l _ => by
    show (xL S l).map lk = ((xL S l).map (wn 0)).map lk
    rw [List.map_map]
    rfl⟩
  exact ⟨hI.wn (t := 0) h16 sm (fun _ _ => rfl), se.tix h16 hX, hZ, fun a ha => by rw [← se.tPh a]; exact hP a ha, fun _ _ _ => hR _ _ ‹_›⟩
end
