/-! ===== the asker's steps keep it ===== -/
def Asr (v : Nat) (S S' : St) : Prop := xW S' = xW S ∧ ∀ k i, (i ≠ v ∨ k = 1 ∨ k = 2 ∨ k = 3 ∨ 7 ≤ k) → k < 11 → k ≠ 6 → xR S' k i = xR S k i
theorem Asr.inv {N A v : Nat} {S S' : St} (q : Asr v S S') (h16 : N ≤ 16) (hv : v < N) (h : Inv N A S) (hL : xL S' = xL S) (hA : xR S' 0 v = 1 ∨ xR S' 0 v = 2) (ho : xR S 0 v = 1) (hC : xR S' 0 v = 1 → ∀ i, i < 32 → (bt (xR S' 4 v) i = true → bt (xR S 3 v) i = true) ∧ (bt (xR S' 5 v) i = true → bt (xR S 3 v) i = true)) : Inv N A S' := by
  obtain ⟨qW, qR⟩ := q
  obtain ⟨ja, jb, jc, jd, je, jf, jg, jh⟩ := h
  have r : ∀ k, (k = 1 ∨ k = 2 ∨ k = 3 ∨ k = 7 ∨ k = 8 ∨ k = 9 ∨ k = 10) → xR S' k = xR S k := fun k hk => funext fun i => qR k i (by omega) (by omega) (by omega)
  have r1 := r 1 (by omega); have r2 := r 2 (by omega); have r3 := r 3 (by omega); have r7 := r 7 (by omega); have r8 := r 8 (by omega); have r9 := r 9 (by omega); have r10 := r 10 (by omega)
  have n1 : ¬ xR S 0 v = 0 := by rw [ho]; exact ne10
  have n1' : ¬ xR S' 0 v = 0 := by rcases hA with z | z <;> rw [z] <;> decide
  have ro : ∀ u b, opn S' u b = opn S u b := fun u b => by
    unfold opn
    rw [r3, r2]
    by_cases c : u = v
    · subst c
      by_cases d : bt (xR S 3 u) b = true
      · rw [if_pos ⟨n1', d⟩, if_pos ⟨n1, d⟩]
      · rw [if_neg (fun z => d z.2), if_neg (fun z => d z.2)]
    · rw [qR 0 u (Or.inl c) (by decide) (by decide)]
  have re : ∀ u b, oe S' 99 99 none u b = oe S 99 99 none u b := fun u b => by unfold oe eng; rw [r8, r9, qW]
  have rz : ∀ {u b s}, Zok S u b s → Zok S' u b s := fun {u b s} z => z.cg (by rw [r2]) (fun q1 => by
    by_cases c : u = v
    · subst c; exact ⟨ho, fun d => by rw [r3]; exact d⟩
    · rw [qR 0 u (Or.inl c) (by decide) (by decide)] at q1
      exact ⟨q1, fun d => by rw [r3]; exact d⟩)
  refine ⟨?_, ?_, ?_, ?_, ?_, ?_, ?_, ?_⟩
  · intro u hu
    rw [r7, r10]
    obtain ⟨x1, x2, x3, x4⟩ := ja u hu
    by_cases c : u = v
    · subst c
      exact ⟨Or.inr hA, fun z => absurd hv (by omega), x3, x4⟩
    · rw [qR 0 u (Or.inl c) (by decide) (by decide)]; exact ⟨x1, x2, x3, x4⟩
  · unfold IB; rw [r3]; exact jb
  · intro u hu h1 i hi
    rw [r3]
    by_cases c : u = v
    · subst c; exact hC h1 i hi
    · rw [qR 0 u (Or.inl c) (by decide) (by decide)] at h1
      rw [qR 4 u (Or.inl c) (by decide) (by decide), qR 5 u (Or.inl c) (by decide) (by decide)]
      exact jc u hu h1 i hi
  · unfold ID; rw [r1, r2]; exact jd
  · unfold IE; rw [hL]; exact je
  · unfold IF; rw [qW, r8, r9, r10]; exact jf
  · intro u hu b hb
    rw [re, ro, hL]; exact jg u hu b hb
  · intro u hu b hb
    rw [hL]
    obtain ⟨j1, j2, j3⟩ := jh u hu b hb
    exact ⟨fun s z => rz (j1 s (by rw [← re]; exact z)), fun x q1 q2 => rz (j2 x q1 q2), fun x q1 q2 => rz (j3 x q1 q2)⟩
theorem en0_R {t : Int32} {N v : Nat} {S : St} {k i : Nat} (hk : k < 11) : xR (en0 t N v S) k i = if k = 0 ∧ i = v then 2 else if k = 5 ∧ i = v then 0 else xR S k i := by
  have n15 : ∀ {S : St} {j : Nat} {x : Int32}, xR (uR S 15 j x) k i = xR S k i := fun {S j x} => by rw [xR_uR, if_neg (by omega)]
  have n12 : ∀ {S : St} {j : Nat} {x : Int32}, xR (uR S 12 j x) k i = xR S k i := fun {S j x} => by rw [xR_uR, if_neg (by omega)]
  have ni : ∀ (c : Prop) [Decidable c] (A B : St), xR (if c then A else B) k i = if c then xR A k i else xR B k i := fun c _ A B => by split <;> rfl
  unfold en0
  simp only []
  rw [xR_uE, n15, ni, n15, ite_self, ni, n15, ite_self, ni, n15, ite_self, n12, n15, xR_uR, xR_uR]
  by_cases c5 : k = 5 ∧ i = v
  · rw [if_pos c5, if_neg (by omega), if_pos c5]
  · rw [if_neg c5]
    by_cases c0 : k = 0 ∧ i = v
    · rw [if_pos c0, if_pos c0]
    · rw [if_neg c0, if_neg c0, if_neg c5]
theorem en0_WL {t : Int32} {N v : Nat} {S : St} : xW (en0 t N v S) = xW S ∧ xL (en0 t N v S) = xL S := by
  have nW : ∀ (c : Prop) [Decidable c] (A B : St), xW (if c then A else B) = if c then xW A else xW B := fun c _ A B => by split <;> rfl
  have nL : ∀ (c : Prop) [Decidable c] (A B : St), xL (if c then A else B) = if c then xL A else xL B := fun c _ A B => by split <;> rfl
  unfold en0
  simp only []
  constructor
  · simp only [xW_uE, xW_uR, nW, ite_self]
  · simp only [xL_uE, xL_uR, nL, ite_self]
theorem en_R {t : Int32} {N v : Nat} {S : St} {k i : Nat} (hk : k < 11) : xR (en t N v S) k i = if k = 0 ∧ i = v then 2 else if k = 5 ∧ i = v then 0 else xR S k i := by
  unfold en
  rw [xR_uR, if_neg (by omega)]
  exact en0_R hk
theorem en_WL {t : Int32} {N v : Nat} {S : St} : xW (en t N v S) = xW S ∧ xL (en t N v S) = xL S := ⟨(en0_WL (t := t)).1, (en0_WL (t := t)).2⟩
theorem Inv.ten {N A v : Nat} {S : St} (h : Inv N A S) (h16 : N ≤ 16) (hv : v < N) (h1 : xR S 0 v = 1) (t : Int32) : Inv N A (en t N v S) := by
  refine Asr.inv (v := v) (S := S) ⟨en_WL.1, fun k i hk hk2 _ => ?_⟩ h16 hv h en_WL.2 (Or.inr ?_) h1 (fun z => ?_)
  · rw [en_R hk2, if_neg (by omega), if_neg (by omega)]
  · rw [en_R (by decide), if_pos ⟨rfl, rfl⟩]
  · rw [en_R (by decide), if_pos ⟨rfl, rfl⟩] at z
    exact absurd z (by decide)
theorem Inv.tgr {N A v a : Nat} {S : St} (h : Inv N A S) (h16 : N ≤ 16) (hv : v < N) (ha : a < N) (h1 : xR S 0 v = 1) (hb : bt (xR S 3 v) a = true) (t : Int32) : Inv N A (gr t N v a S) := by
  have hs : Inv N A (uR (uR (uR S 4 v (bon (xR S 4 v) a)) 5 v (bof (xR S 5 v) a)) 6 v (bof (xR S 6 v) a)) := by
    refine Asr.inv (v := v) (S := S) ⟨rfl, fun k i hk hk2 hk3 => ?_⟩ h16 hv h rfl (Or.inl ?_) h1 (fun _ i hi => ⟨fun z => ?_, fun z => ?_⟩)
    · rw [xR_uR, if_neg (by omega), xR_uR, if_neg (by omega), xR_uR, if_neg (by omega)]
    · simpa [xR_uR] using h1
    · have e : xR (uR (uR (uR S 4 v (bon (xR S 4 v) a)) 5 v (bof (xR S 5 v) a)) 6 v (bof (xR S 6 v) a)) 4 v = bon (xR S 4 v) a := by simp [xR_uR]
      rw [e, bt_on _ (by omega) hi] at z
      rcases Bool.or_eq_true _ _ |>.mp z with z | z
      · exact (h.2.2.1 v (by omega) h1 i hi).1 z
      · rw [of_decide_eq_true z]; exact hb
    · have e : xR (uR (uR (uR S 4 v (bon (xR S 4 v) a)) 5 v (bof (xR S 5 v) a)) 6 v (bof (xR S 6 v) a)) 5 v = bof (xR S 5 v) a := by simp [xR_uR]
      rw [e, bt_off _ (by omega) hi] at z
      exact (h.2.2.1 v (by omega) h1 i hi).2 (Bool.and_eq_true _ _ |>.mp z).1
  unfold gr
  simp only []
  split
  · exact hs.ten h16 hv (by simpa [xR_uR] using h1) t
  · exact hs
theorem stampA {N A v : Nat} {S : St} (h : Inv N A S) (hv : v < 16) : ∃ n, n ≤ A ∧ xR S 2 v = nI n := by
  obtain ⟨c, m, h1, h2, _, h4⟩ := h.2.2.2.1 v hv
  exact ⟨m, by omega, h4⟩
theorem Inv.tyT {N A v a : Nat} {S : St} (h : Inv N A S) (h16 : N ≤ 16) (hv : v < N) (ha : a < N) (h1 : xR S 0 v = 1) (t : Int32) : Inv N A (yT t v a S) := by
  have hs := InvG.tsn h h16 (t := t) (k := 4) (f := v) (g := a) (by decide) hv ha (stampA (v := v) h (by omega)) (fun z => absurd z (by decide))
  have e1 : xR (sn t 4 v a (xR S 2 v) S) 0 v = 1 := by rw [sn_R _ _ _ _ _ _ (by decide)]; exact h1
  unfold yT
  simp only []
  refine Asr.inv (v := v) (S := sn t 4 v a (xR S 2 v) S) ⟨rfl, fun k i hk hk2 hk3 => ?_⟩ h16 hv hs rfl (Or.inl ?_) e1 (fun _ i hi => ⟨fun z => ?_, fun z => ?_⟩)
  · rw [xR_uR, if_neg (by omega), xR_uR, if_neg (by omega)]
  · rw [xR_uR, if_neg (by omega), xR_uR, if_neg (by omega)]; exact e1
  · rw [xR_uR, if_neg (by omega), xR_uR, if_pos ⟨rfl, rfl⟩, bt_off _ (by omega) hi] at z
    rw [sn_R _ _ _ _ _ _ (by decide)]
    exact (h.2.2.1 v (by omega) h1 i hi).1 (Bool.and_eq_true _ _ |>.mp z).1
  · rw [xR_uR, if_neg (by omega), xR_uR, if_neg (by omega), sn_R _ _ _ _ _ _ (by decide)] at z
    rw [sn_R _ _ _ _ _ _ (by decide)]
    exact (h.2.2.1 v (by omega) h1 i hi).2 z
theorem yT_R0 (t : Int32) (v a : Nat) (S : St) (i : Nat) : xR (yT t v a S) 0 i = xR S 0 i := by
  unfold yT
  simp only []
  rw [xR_uR, if_neg (by omega), xR_uR, if_neg (by omega), sn_R _ _ _ _ _ _ (by decide)]
theorem Inv.tfdl {N A v : Nat} (h16 : N ≤ 16) (hv : v < N) (t : Int32) (db : Int32) : ∀ (ws : List Nat) (S : St), Inv N A S → xR S 0 v = 1 → (∀ w, w ∈ ws → w < N) → Inv N A (fdl t v db ws S) ∧ xR (fdl t v db ws S) 0 v = 1 := by
  intro ws
  induction ws with
  | nil => intro S h h1 _; exact ⟨h, h1⟩
  | cons w ws ih =>
    intro S h h1 hw
    unfold fdl
    rw [List.foldl_cons]
    have := ih (if bt db w then yT t v w S else S) (by
      split
      · exact h.tyT h16 hv (hw w (by simp)) h1 t
      · exact h) (by
      split
      · rw [yT_R0]; exact h1
      · exact h1) (fun x hx => hw x (by simp [hx]))
    unfold fdl at this
    exact this
theorem Inv.tfd {N A v a : Nat} {S : St} (h : Inv N A S) (h16 : N ≤ 16) (hv : v < N) (h1 : xR S 0 v = 1) (t : Int32) : Inv N A (fd t N v a S) := by
  have h0 : Inv N A (uR S 6 v (bon (xR S 6 v) a)) := InvG.reg h ⟨rfl, fun k _ hk i => by rw [xR_uR, if_neg (fun z => hk z.1)]⟩ rfl
  obtain ⟨h2, h3⟩ := Inv.tfdl h16 hv t (xR S 5 v) (List.range N) _ h0 (by rw [xR_uR, if_neg (by omega)]; exact h1) (fun w hw => List.mem_range.mp hw)
  unfold fd
  refine Asr.inv (v := v) (S := fdl t v (xR S 5 v) (List.range N) (uR S 6 v (bon (xR S 6 v) a))) ⟨rfl, fun k i hk hk2 hk3 => ?_⟩ h16 hv h2 rfl (Or.inl ?_) h3 (fun _ i hi => ⟨fun z => ?_, fun z => ?_⟩)
  · rw [xR_uR, if_neg (by omega)]
  · rw [xR_uR, if_neg (by omega)]; exact h3
  · rw [xR_uR, if_neg (by omega)] at z
    exact (h2.2.2.1 v (by omega) h3 i hi).1 z
  · rw [xR_uR, if_pos ⟨rfl, rfl⟩, b_0] at z
    exact absurd z (by decide)
theorem Inv.tiq {N A v a : Nat} {S : St} (h : Inv N A S) (h16 : N ≤ 16) (hv : v < N) (ha : a < N) (h1 : xR S 0 v = 1) (t : Int32) : Inv N A (iq t v a S) := by
  unfold iq
  split
  · rename_i hb
    split
    · refine Asr.inv (v := v) (S := S) ⟨rfl, fun k i hk hk2 hk3 => ?_⟩ h16 hv h rfl (Or.inl ?_) h1 (fun _ i hi => ⟨fun z => ?_, fun z => ?_⟩)
      · rw [xR_uR, if_neg (by omega)]
      · rw [xR_uR, if_neg (by omega)]; exact h1
      · rw [xR_uR, if_neg (by omega)] at z
        exact (h.2.2.1 v (by omega) h1 i hi).1 z
      · rw [xR_uR, if_pos ⟨rfl, rfl⟩, bt_on _ (by omega) hi] at z
        rcases Bool.or_eq_true _ _ |>.mp z with z | z
        · exact (h.2.2.1 v (by omega) h1 i hi).2 z
        · rw [of_decide_eq_true z]
          exact (h.2.2.1 v (by omega) h1 a (by omega)).1 hb
    · exact h.tyT h16 hv ha h1 t
  · exact h
theorem sAl_L {t : Int32} {k f : Nat} (hf : f < 16) (set s : Int32) : ∀ (d i : Nat) (S : St) (l : Nat), l < 256 → i + d ≤ 16 → xL (sAl t k f set s (List.range' i d) S) l = if l / 16 = f ∧ i ≤ l % 16 ∧ l % 16 < i + d ∧ bt set (l % 16) = true then xL S l ++ [(nI k, s, t)] else xL S l := by
  intro d
  induction d with
  | zero =>
    intro i S l hl hi
    rw [if_neg (by omega)]; rfl
  | succ d ih =>
    intro i S l hl hi
    unfold sAl
    rw [List.range'_succ, List.foldl_cons]
    have := ih (i + 1) (if bt set i then sn t k f i s S else S) l hl (by omega)
    unfold sAl at this
    rw [this]
    have e1 : xL (if bt set i then sn t k f i s S else S) l = if l = 16 * f + i ∧ bt set i = true then xL S l ++ [(nI k, s, t)] else xL S l := by
      by_cases c : bt set i = true
      · rw [if_pos c, sn_L]
        by_cases c2 : l = 16 * f + i
        · rw [if_pos c2, if_pos ⟨c2, c⟩, c2]
        · rw [if_neg c2, if_neg (fun z => c2 z.1)]
      · rw [if_neg c, if_neg (fun z => c z.2)]
    rw [e1]
    by_cases c : l = 16 * f + i ∧ bt set i = true
    · have q1 : l % 16 = i := by omega
      have q2 : l / 16 = f := by omega
      rw [if_pos c, if_neg (by omega), if_pos ⟨q2, by omega, by omega, by rw [q1]; exact c.2⟩]
    · rw [if_neg c]
      by_cases c2 : l / 16 = f ∧ i + 1 ≤ l % 16 ∧ l % 16 < i + 1 + d ∧ bt set (l % 16) = true
      · rw [if_pos c2, if_pos ⟨c2.1, by omega, by omega, c2.2.2.2⟩]
      · rw [if_neg c2, if_neg]
        rintro ⟨z1, z2, z3, z4⟩
        by_cases c3 : l % 16 = i
        · exact c ⟨by omega, by rw [← c3]; exact z4⟩
        · exact c2 ⟨z1, by omega, by omega, z4⟩
theorem sA_L {t : Int32} {N k f : Nat} (h16 : N ≤ 16) (hf : f < 16) (set s : Int32) (S : St) {l : Nat} (hl : l < 256) : xL (sA t N k f set s S) l = if l / 16 = f ∧ l % 16 < N ∧ bt set (l % 16) = true then xL S l ++ [(nI k, s, t)] else xL S l := by
  unfold sA
  rw [List.range_eq_range', sAl_L hf set s N 0 S l hl (by omega)]
  by_cases c : l / 16 = f ∧ l % 16 < N ∧ bt set (l % 16) = true
  · rw [if_pos c, if_pos ⟨c.1, by omega, by omega, c.2.2⟩]
  · rw [if_neg c, if_neg (fun z => c ⟨z.1, by omega, z.2.2.2⟩)]
theorem sAl_W (t : Int32) (k f : Nat) (set s : Int32) : ∀ (ws : List Nat) (S : St), xW (sAl t k f set s ws S) = xW S := by
  intro ws
  induction ws with
  | nil => intro S; rfl
  | cons w ws ih =>
    intro S
    unfold sAl
    rw [List.foldl_cons]
    have := ih (if bt set w then sn t k f w s S else S)
    unfold sAl at this
    rw [this]
    split <;> rfl
theorem sA_R {t : Int32} {N k f : Nat} {set s : Int32} {S : St} {a b : Nat} (h : a ≠ 16) : xR (sA t N k f set s S) a b = xR S a b := sAl_R t k f set s h _ S
theorem sA_W {t : Int32} {N k f : Nat} {set s : Int32} {S : St} : xW (sA t N k f set s S) = xW S := sAl_W t k f set s _ S
theorem rst_R {v : Nat} {S : St} {k i : Nat} : xR (rst v S) k i = if i = v ∧ (k = 0 ∨ (3 ≤ k ∧ k ≤ 6)) then 0 else xR S k i := by
  unfold rst
  simp only [xR_uR]
  by_cases c : i = v ∧ (k = 0 ∨ (3 ≤ k ∧ k ≤ 6))
  · rw [if_pos c]
    obtain ⟨c1, c2⟩ := c
    rcases (show k = 0 ∨ k = 3 ∨ k = 4 ∨ k = 5 ∨ k = 6 by omega) with rfl | rfl | rfl | rfl | rfl <;> simp [c1]
  · rw [if_neg c, if_neg (by omega), if_neg (by omega), if_neg (by omega), if_neg (by omega), if_neg (by omega)]
theorem Inv.tlv {N A v : Nat} {S : St} (h : Inv N A S) (h16 : N ≤ 16) (hv : v < N) (h1 : xR S 0 v ≠ 0) (t : Int32) : Inv N A (lv t N v S) := by
  have st := stampA h (show v < 16 by omega)
  obtain ⟨ja, jb, jc, jd, je, jf, jg, jh⟩ := h
  have eR : ∀ k i, k ≠ 16 → xR (lv t N v S) k i = if i = v ∧ (k = 0 ∨ (3 ≤ k ∧ k ≤ 6)) then 0 else xR S k i := fun k i hk => by
    unfold lv; rw [sA_R hk, rst_R]
  have r : ∀ k, (k = 1 ∨ k = 2 ∨ k = 7 ∨ k = 8 ∨ k = 9 ∨ k = 10) → xR (lv t N v S) k = xR S k := fun k hk => funext fun i => by rw [eR k i (by omega), if_neg (by omega)]
  have r1 := r 1 (by omega); have r2 := r 2 (by omega); have r7 := r 7 (by omega); have r8 := r 8 (by omega); have r9 := r 9 (by omega); have r10 := r 10 (by omega)
  have eW : xW (lv t N v S) = xW S := by unfold lv; rw [sA_W]; rfl
  have eL : ∀ l, l < 256 → xL (lv t N v S) l = if l / 16 = v ∧ l % 16 < N ∧ bt (xR S 3 v) (l % 16) = true then xL S l ++ [(nI 5, xR S 2 v, t)] else xL S l := fun l hl => by
    unfold lv; rw [sA_L h16 (by omega) _ _ _ hl]; rfl
  have e0 : xR (lv t N v S) 0 v = 0 := by rw [eR 0 v (by decide), if_pos ⟨rfl, Or.inl rfl⟩]
  have e0' : ∀ u, u ≠ v → ∀ k, k ≠ 16 → xR (lv t N v S) k u = xR S k u := fun u hu k hk => by rw [eR k u hk, if_neg (fun z => hu z.1)]
  have re : ∀ u b, oe (lv t N v S) 99 99 none u b = oe S 99 99 none u b := fun u b => by unfold oe eng; rw [r8, r9, eW]
  have rz : ∀ {u b s}, Zok S u b s → Zok (lv t N v S) u b s := fun {u b s} z => z.cg (by rw [r2]) (fun q1 => by
    by_cases c : u = v
    · subst c; rw [e0] at q1; exact absurd q1 ne01
    · rw [e0' u c 0 (by decide)] at q1
      exact ⟨q1, fun d => by rw [e0' u c 3 (by decide)]; exact d⟩)
  refine ⟨?_, ?_, ?_, ?_, ?_, ?_, ?_, ?_⟩
  · intro u hu
    rw [r7, r10]
    obtain ⟨x1, x2, x3, x4⟩ := ja u hu
    by_cases c : u = v
    · subst c; exact ⟨Or.inl e0, fun _ => e0, x3, x4⟩
    · rw [e0' u c 0 (by decide)]; exact ⟨x1, x2, x3, x4⟩
  · intro u hu i hi hi2
    by_cases c : u = v
    · subst c; rw [eR 3 u (by decide), if_pos ⟨rfl, Or.inr (by omega)⟩, b_0]
    · rw [e0' u c 3 (by decide)]; exact jb u hu i hi hi2
  · intro u hu q1 i hi
    by_cases c : u = v
    · subst c; rw [e0] at q1; exact absurd q1 ne01
    · rw [e0' u c 0 (by decide)] at q1
      rw [e0' u c 3 (by decide), e0' u c 4 (by decide), e0' u c 5 (by decide)]
      exact jc u hu q1 i hi
  · unfold ID; rw [r1, r2]; exact jd
  · intro l hl
    rw [eL l hl]
    by_cases c : l / 16 = v ∧ l % 16 < N ∧ bt (xR S 3 v) (l % 16) = true
    · rw [if_pos c]
      refine ⟨fun x hx => ?_, fun z => absurd ⟨by omega, c.2.1⟩ z⟩
      rcases List.mem_append.mp hx with hx | hx
      · exact (je l hl).1 x hx
      · rw [List.mem_singleton] at hx
        subst hx
        exact ⟨⟨5, by decide, rfl⟩, st⟩
    · rw [if_neg c]; exact je l hl
  · unfold IF; rw [eW, r8, r9, r10]; exact jf
  · intro u hu b hb
    rw [re, eL _ (by omega)]
    have i := jg u hu b hb
    by_cases c : u = v
    · subst c
      have o : opn (lv t N u S) u b = none := by unfold opn; rw [if_neg (fun z => z.1 e0)]
      rw [o, show (16 * u + b) % 16 = b by omega]
      by_cases c2 : bt (xR S 3 u) b = true
      · rw [if_pos ⟨by omega, hb, c2⟩, run_ap, i]
        unfold opn
        rw [if_pos ⟨h1, c2⟩, Option.bind_some, run_rel]
      · rw [if_neg (fun z => c2 z.2.2), i]
        unfold opn
        rw [if_neg (fun z => c2 z.2)]
    · have o : opn (lv t N v S) u b = opn S u b := by
        unfold opn; rw [e0' u c 0 (by decide), e0' u c 3 (by decide), r2]
      rw [o, if_neg (by omega)]; exact i
  · intro u hu b hb
    obtain ⟨j1, j2, j3⟩ := jh u hu b hb
    refine ⟨fun s z => rz (j1 s (by rw [← re]; exact z)), fun x q1 q2 => rz ?_, fun x q1 q2 => rz ?_⟩
    · rw [eL _ (by omega)] at q1
      split at q1
      · rcases List.mem_append.mp q1 with q1 | q1
        · exact j2 x q1 q2
        · rw [List.mem_singleton] at q1
          subst q1
          exact absurd (show nI 5 = nI 0 from q2) (by decide)
      · exact j2 x q1 q2
    · rw [eL _ (by omega)] at q1
      split at q1
      · rcases List.mem_append.mp q1 with q1 | q1
        · exact j3 x q1 q2
        · rw [List.mem_singleton] at q1
          subst q1
          exact absurd (show nI 5 = nI 1 ∨ nI 5 = nI 2 ∨ nI 5 = nI 3 from q2) (by decide)
      · exact j3 x q1 q2
