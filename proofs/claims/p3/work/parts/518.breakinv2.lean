/-! ===== a node breaks: x erased, what is held of the rest ===== -/
theorem engW_flt {l : List Wtr} {x v : Nat} : engW (l.filter fun w => !decide (w.1 = x)) v = if v = x then none else engW l v := by
  induction l with
  | nil => simp [engW]
  | cons w r ih =>
    by_cases c : w.1 = x
    · rw [List.filter_cons_of_neg (by simp [c]), ih]
      by_cases d : v = x
      · rw [if_pos d, if_pos d]
      · rw [if_neg d, if_neg d]
        show _ = if w.1 = v then some w.2 else engW r v
        rw [if_neg (by omega)]
    · rw [List.filter_cons_of_pos (by simp [c])]
      show (if w.1 = v then some w.2 else engW (r.filter fun w => !decide (w.1 = x)) v) = if v = x then none else (if w.1 = v then some w.2 else engW r v)
      rw [ih]
      by_cases d : v = x
      · rw [if_pos d, if_pos d, if_neg (by omega)]
      · rw [if_neg d, if_neg d]
def e0 (x : Nat) (S : St) : St := eF x (fun _ => true) (b0 x S)
theorem e0_k {x : Nat} {S : St} {k i : Nat} (h : k < 3 ∨ k = 6 ∨ 10 < k) : xR (e0 x S) k i = xR S k i := by
  unfold e0
  rw [eF_Rk (by omega), b0_R, if_neg (by omega), if_neg (by omega), if_neg (by omega)]
theorem e0_7 {x : Nat} {S : St} {i : Nat} : xR (e0 x S) 7 i = if i = x then 1 else xR S 7 i := by
  unfold e0
  rw [eF_Rk (by omega), b0_R]
  by_cases c : i = x
  · rw [if_pos ⟨c, rfl⟩, if_pos c]
  · rw [if_neg (fun z => c z.1), if_neg (by omega), if_neg (by omega), if_neg c]
theorem e0_3 {x : Nat} {S : St} {i : Nat} : xR (e0 x S) 3 i = bof (xR S 3 i) x := by
  unfold e0
  rw [eF_R, if_pos rfl, b0_R, if_neg (by omega), if_neg (by omega), if_neg (by omega)]
theorem e0_45 {x : Nat} {S : St} {k i : Nat} (h : k = 4 ∨ k = 5) : xR (e0 x S) k i = if xR S 0 i = 1 then bof (xR S k i) x else xR S k i := by
  have b00 : xR (b0 x S) 0 i = xR S 0 i := by rw [b0_R, if_neg (by omega), if_neg (by omega), if_neg (by omega)]
  have bk : xR (b0 x S) k i = xR S k i := by rw [b0_R, if_neg (by omega), if_neg (by omega), if_neg (by omega)]
  unfold e0
  rw [eF_R, if_neg (by omega), b00, bk]
  by_cases c : xR S 0 i = 1
  · rw [if_pos ⟨h, c⟩, if_pos c]
  · rw [if_neg (fun z => c z.2), if_neg (by omega), if_neg c]
theorem e0_8 {x : Nat} {S : St} (hx : x < 16) (i : Nat) : (xR (e0 x S) 8 i = -1 ∧ xR (e0 x S) 9 i = 0 ∧ xR (e0 x S) 10 i = 0 ∧ (i = x ∨ xR S 8 i = nI x)) ∨ (i ≠ x ∧ ¬ xR S 8 i = nI x ∧ ∀ k, 8 ≤ k → k ≤ 10 → xR (e0 x S) k i = xR S k i) := by
  have g : ∀ k, 8 ≤ k → k ≤ 10 → xR (e0 x S) k i = if xR (b0 x S) 8 i = nI x then (if k = 8 then -1 else 0) else xR (b0 x S) k i := fun k h1 h2 => by
    unfold e0
    rw [eF_R, if_neg (by omega), if_neg (by omega)]
    by_cases c : xR (b0 x S) 8 i = nI x
    · rw [if_pos ⟨⟨h1, h2⟩, rfl, c⟩, if_pos c]
    · rw [if_neg (fun z => c z.2.2), if_neg c]
  by_cases c : i = x
  · left
    have b8 : xR (b0 x S) 8 i = -1 := by rw [b0_R, if_neg (by omega), if_pos ⟨c, rfl⟩]
    have n8 : ¬ xR (b0 x S) 8 i = nI x := by rw [b8]; exact m1_ne hx
    refine ⟨?_, ?_, ?_, Or.inl c⟩
    · rw [g 8 (by decide) (by decide), if_neg n8]; exact b8
    · rw [g 9 (by decide) (by decide), if_neg n8, b0_R, if_neg (by omega), if_neg (by omega), if_pos ⟨c, Or.inl rfl⟩]
    · rw [g 10 (by decide) (by decide), if_neg n8, b0_R, if_neg (by omega), if_neg (by omega), if_pos ⟨c, Or.inr rfl⟩]
  · have bk : ∀ k, xR (b0 x S) k i = xR S k i := fun k => by rw [b0_R, if_neg (by omega), if_neg (by omega), if_neg (by omega)]
    by_cases d : xR S 8 i = nI x
    · left
      refine ⟨?_, ?_, ?_, Or.inr d⟩
      · rw [g 8 (by decide) (by decide), bk, if_pos d]; rfl
      · rw [g 9 (by decide) (by decide), bk, if_pos d]; rfl
      · rw [g 10 (by decide) (by decide), bk, if_pos d]; rfl
    · right
      exact ⟨c, d, fun k h1 h2 => by rw [g k h1 h2, bk, bk, if_neg d]⟩
theorem e0_W {x : Nat} {S : St} {i : Nat} : xW (e0 x S) i = if i = x then [] else (xW S i).filter fun w => !decide (w.1 = x) := by
  unfold e0
  rw [eF_W, if_pos rfl, b0_W]
  by_cases c : i = x
  · rw [if_pos c, if_pos c]; rfl
  · rw [if_neg c, if_neg c]
theorem e0_L {x : Nat} {S : St} {l : Nat} : xL (e0 x S) l = if l < 256 ∧ (l / 16 = x ∨ l % 16 = x) then [] else xL S l := rfl
theorem e0_eng {x : Nat} {S : St} (hx : x < 16) {a v : Nat} (hv : v < 16) : eng (e0 x S) a v = if v = x ∨ a = x then none else eng S a v := by
  unfold eng
  rw [e0_W]
  rcases e0_8 (S := S) hx a with ⟨z8, z9, z10, z⟩ | ⟨z1, z2, z3⟩
  · rw [z8, if_neg (m1_ne hv)]
    by_cases c : a = x
    · rw [if_pos c, if_pos (Or.inr c)]; rfl
    · rw [if_neg c, engW_flt]
      by_cases d : v = x
      · rw [if_pos d, if_pos (Or.inl d)]
      · have e8 := z.resolve_left c
        rw [if_neg d, if_neg (fun q => q.elim d c), e8, if_neg (nI_ne (by omega) (by omega) (fun q => d q.symm))]
  · rw [z3 8 (by decide) (by decide), z3 9 (by decide) (by decide), if_neg z1, engW_flt]
    by_cases d : v = x
    · rw [if_pos (Or.inl d), if_pos d, d, if_neg z2]
    · rw [if_neg (show ¬ (v = x ∨ a = x) from fun q => q.elim d z1), if_neg d]
theorem Wok.flt {N A x : Nat} {l : List Wtr} (h : Wok N A l) : Wok N A (l.filter fun w => !decide (w.1 = x)) := h.sub List.filter_sublist
set_option maxHeartbeats 1000000 in
theorem e0_Inv {N A x : Nat} {S : St} (h : Inv N A S) (h16 : N ≤ 16) (hx : x < N) (h0 : xR S 0 x = 0) : Inv N A (e0 x S) := by
  obtain ⟨ja, jb, jc, jd, je, jf, jg, jh⟩ := h
  have x6 : x < 16 := by omega
  have ro : ∀ v b, b < 32 → b ≠ x → opn (e0 x S) v b = opn S v b := fun v b hb n => by
    unfold opn
    rw [e0_k (k := 0) (by omega), e0_k (k := 2) (by omega), e0_3, bt_off _ (by omega) hb, decide_eq_false n]
    simp
  have rx : ∀ v, opn (e0 x S) v x = none := fun v => by
    unfold opn
    rw [if_neg]
    rintro ⟨_, z⟩
    rw [e0_3, bt_off _ (by omega) (by omega), decide_eq_true rfl] at z
    simp at z
  have rv : ∀ b, opn (e0 x S) x b = none := fun b => by
    unfold opn
    rw [e0_k (by omega), if_neg (fun z => z.1 h0)]
  have zo : ∀ {v a s}, a < 32 → a ≠ x → Zok S v a s → Zok (e0 x S) v a s := fun {v a s} ha n z => by
    obtain ⟨p, m, z1, z2, z3, z4, z5⟩ := z
    refine ⟨p, m, z1, by rw [e0_k (by omega)]; exact z2, z3, z4, fun q1 q2 => ?_⟩
    rw [e0_k (by omega)] at q2
    rw [e0_3, bt_off _ (by omega) ha, z5 q1 q2, decide_eq_false n]; rfl
  refine ⟨?_, ?_, ?_, ?_, ?_, ?_, ?_, ?_⟩
  · intro v hv
    obtain ⟨x1, x2, x3, x4⟩ := ja v hv
    rw [e0_k (by omega), e0_7]
    refine ⟨x1, x2, ?_, ?_⟩
    · split
      · exact Or.inr rfl
      · exact x3
    · rcases e0_8 (S := S) x6 v with ⟨_, _, z10, _⟩ | ⟨_, _, z3⟩
      · exact Or.inl z10
      · rw [z3 10 (by decide) (by decide)]; exact x4
  · intro v hv i hi hi2
    rw [e0_3, bt_off _ (by omega) hi2, jb v hv i hi hi2]; rfl
  · intro v hv q1 i hi
    rw [e0_k (by omega)] at q1
    rw [e0_45 (k := 4) (by omega), e0_45 (k := 5) (by omega), if_pos q1, if_pos q1, e0_3, bt_off _ (by omega) hi, bt_off _ (by omega) hi, bt_off _ (by omega) hi]
    have := jc v hv q1 i hi
    constructor
    · intro z
      obtain ⟨z1, z2⟩ := Bool.and_eq_true _ _ |>.mp z
      rw [this.1 z1, z2]; rfl
    · intro z
      obtain ⟨z1, z2⟩ := Bool.and_eq_true _ _ |>.mp z
      rw [this.2 z1, z2]; rfl
  · intro v hv
    rw [e0_k (by omega), e0_k (by omega)]; exact jd v hv
  · intro l hl
    rw [e0_L]
    split
    · exact ⟨fun y hy => by (cases hy), fun _ => rfl⟩
    · exact je l hl
  · intro a ha
    obtain ⟨f1, f2, f3⟩ := jf a ha
    rw [e0_W]
    refine ⟨?_, ?_, ?_⟩
    · split
      · exact ⟨List.Pairwise.nil, List.nodup_nil, fun w hw => by (cases hw)⟩
      · exact f1.flt
    · intro z
      rw [f2 z]; split <;> rfl
    · rcases e0_8 (S := S) x6 a with ⟨z8, z9, z10, z⟩ | ⟨z1, z2, z3⟩
      · exact Or.inl ⟨z8, z9, z10⟩
      · rw [z3 8 (by decide) (by decide), z3 9 (by decide) (by decide), z3 10 (by decide) (by decide), if_neg z1]
        rcases f3 with f3 | ⟨g, g1, g2, g3, g4⟩
        · exact Or.inl f3
        · exact Or.inr ⟨g, g1, g2, fun m => g3 (flt_fst.mp m).1, g4⟩
  · intro v hv a ha
    rw [oe_99 (by omega), e0_eng x6 (by omega), e0_L, show (16 * v + a) / 16 = v by omega, show (16 * v + a) % 16 = a by omega]
    by_cases c : v = x ∨ a = x
    · rw [if_pos c, if_pos ⟨by omega, c⟩]
      rcases c with c | c
      · rw [c, rv]; rfl
      · rw [c, rx]; rfl
    · rw [if_neg c, if_neg (fun z => c z.2), ro v a (by omega) (fun z => c (Or.inr z))]
      have := jg v hv a ha
      rw [oe_99 (by omega)] at this
      exact this
  · intro v hv a ha
    obtain ⟨j1, j2, j3⟩ := jh v hv a ha
    rw [oe_99 (by omega), e0_eng x6 (by omega), e0_L, e0_L, show (16 * v + a) / 16 = v by omega, show (16 * v + a) % 16 = a by omega, show (16 * a + v) / 16 = a by omega, show (16 * a + v) % 16 = v by omega]
    by_cases c : v = x ∨ a = x
    · rw [if_pos c, if_pos ⟨by omega, c⟩, if_pos ⟨by omega, c.elim Or.inr Or.inl⟩]
      exact ⟨fun s z => by (cases z), fun y hy => by (cases hy), fun y hy => by (cases hy)⟩
    · have na : a ≠ x := fun z => c (Or.inr z)
      rw [if_neg c, if_neg (fun z => c z.2), if_neg (fun z => c (z.2.elim Or.inr Or.inl))]
      rw [oe_99 (by omega)] at j1
      exact ⟨fun s z => zo (by omega) na (j1 s z), fun y q1 q2 => zo (by omega) na (j2 y q1 q2), fun y q1 q2 => zo (by omega) na (j3 y q1 q2)⟩
/-- besides: doubts only where one asks, no sets of who doesn't, none broken behind the last -/
def IZ (N : Nat) (S : St) : Prop := (∀ v, v < 16 → ∀ i, i < 32 → bt (xR S 5 v) i = true → xR S 0 v = 1) ∧ (∀ v, v < 16 → xR S 0 v = 0 → xR S 3 v = 0) ∧ ∀ v, N ≤ v → v < 16 → xR S 7 v = 0 ∧ xR S 8 v = -1
theorem bof_z {x : Nat} : bof 0 x = 0 := by
  apply b_ext
  intro i hi
  unfold bof
  rw [b_and, b_0]; rfl
theorem e0_IZ {N x : Nat} {S : St} (h : IZ N S) (hx : x < N) (h16 : N ≤ 16) : IZ N (e0 x S) := by
  obtain ⟨z1, z2, z3⟩ := h
  refine ⟨fun v hv i hi hb => ?_, fun v hv q => ?_, fun v a b => ?_⟩
  · rw [e0_k (by omega)]
    rw [e0_45 (by omega)] at hb
    by_cases c : xR S 0 v = 1
    · exact c
    · rw [if_neg c] at hb
      exact z1 v hv i hi hb
  · rw [e0_k (by omega)] at q
    rw [e0_3, z2 v hv q, bof_z]
  · refine ⟨by rw [e0_7, if_neg (by omega)]; exact (z3 v a b).1, ?_⟩
    rcases e0_8 (S := S) (x := x) (by omega) v with ⟨y, _⟩ | ⟨_, _, y⟩
    · exact y
    · rw [y 8 (by decide) (by decide)]; exact (z3 v a b).2
theorem e0_IX {N A x : Nat} {S : St} (hI : Inv N A S) (h : IX N S) (h16 : N ≤ 16) (hx : x < N) (h0 : xR S 0 x = 0) : IX N (e0 x S) := by
  obtain ⟨hQ, hV, hK⟩ := h
  have x6 : x < 16 := by omega
  refine ⟨fun a ha => ?_, fun v hv q i hi hb => ?_, fun y hy q => ?_⟩
  · intro w hw h8 hh
    rcases e0_8 (S := S) x6 a with ⟨z8, _⟩ | ⟨z1, z2, z3⟩
    · exact absurd z8 h8
    · rw [z3 8 (by decide) (by decide)] at h8 hh
      rw [z3 9 (by decide) (by decide)] at hh
      rw [z3 10 (by decide) (by decide)]
      rw [e0_W, if_neg z1] at hw
      exact hQ a ha w (List.mem_filter.mp hw).1 h8 hh
  · rw [e0_k (by omega)] at q
    rw [e0_45 (by omega), if_neg (by rw [q]; decide)]
    rw [e0_3, bt_off _ (by omega) (by omega)] at hb
    exact hV v hv q i hi (Bool.and_eq_true _ _ |>.mp hb).1
  · rw [e0_k (by omega)]
    have L0 : ∀ u, u < 16 → (xL S (16 * y + u) = [] → xL (e0 x S) (16 * y + u) = []) ∧ (xL S (16 * u + y) = [] → xL (e0 x S) (16 * u + y) = []) := fun u hu => by
      rw [e0_L, e0_L]
      constructor
      · intro z; split
        · rfl
        · exact z
      · intro z; split
        · rfl
        · exact z
    by_cases c : y = x
    · subst c
      refine ⟨h0, fun u hu => ?_, fun u hu => ?_⟩
      · rw [e0_3, bt_off _ (by omega) (by omega), decide_eq_true rfl]; simp
      · rw [e0_L, e0_L, if_pos (by omega), if_pos (by omega)]; exact ⟨rfl, rfl⟩
    · rw [e0_7, if_neg c] at q
      obtain ⟨a1, a2, a3⟩ := hK y hy q
      refine ⟨a1, fun u hu => ?_, fun u hu => ⟨(L0 u hu).1 (a3 u hu).1, (L0 u hu).2 (a3 u hu).2⟩⟩
      rw [e0_3, bt_off _ (by omega) (by omega), a2 u hu]; rfl
theorem sum_flt (f : Nat × Ltr → Bool) (a : Nat) : ∀ l : List (Nat × Ltr), ((l.filter f).map (lwa a)).sum ≤ (l.map (lwa a)).sum := by
  intro l
  induction l with
  | nil => exact Nat.le_refl _
  | cons y l ih =>
    by_cases c : f y = true
    · rw [List.filter_cons_of_pos c, List.map_cons, List.map_cons, List.sum_cons, List.sum_cons]; omega
    · rw [List.filter_cons_of_neg c, List.map_cons, List.sum_cons]; omega
theorem e0_Ph {x a : Nat} {S : St} (hx : x < 16) (ha : a < 16) : Ph a (e0 x S) ≤ Ph a S := by
  have h1 : phL a (e0 x S) ≤ phL a S := by
    have e : xL (e0 x S) = xL (drp x S) := rfl
    rw [phL_c e]
    unfold phL
    rw [fl_drp]
    exact sum_flt _ _ _
  have h2 : phB a (e0 x S) ≤ phB a S := by
    unfold phB
    refine smN_le 16 (fun v _ => ?_)
    have := phv_le (S := S) (S' := e0 x S) (a := a) (v := v) (e := False) (by
      rw [e0_45 (by omega), e0_3, bt_off _ (by omega) (by omega)]
      rintro ⟨z1, z2⟩
      refine Or.inl ⟨?_, (Bool.and_eq_true _ _ |>.mp z2).1⟩
      split at z1
      · rw [bt_off _ (by omega) (by omega)] at z1
        exact (Bool.and_eq_true _ _ |>.mp z1).1
      · exact z1) (by
      rw [e0_45 (by omega)]
      intro z1
      split at z1
      · rw [bt_off _ (by omega) (by omega)] at z1
        exact (Bool.and_eq_true _ _ |>.mp z1).1
      · exact z1)
    rw [if_neg (fun z => z)] at this
    omega
  unfold Ph
  omega
