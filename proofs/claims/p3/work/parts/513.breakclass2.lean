/-! ===== the class breaks a node: who goes on without it ===== -/
theorem gdw_3 (t : Int32) (N x w : Nat) (S : St) : (xR S 0 w = 2 ∧ gdw t N x w S = uR S 3 w (bof (xR S 3 w) x)) ∨ (¬ xR S 0 w = 2 ∧ ∃ S1, S1 = rst w (sA t N 5 w (bof (xR S 3 w) x &&& (bkm N S ^^^ (-1 : Int32))) (xR S 2 w) S) ∧ ((mayA N w S1 = true ∧ gdw t N x w S = ak t N w S1) ∨ (¬ mayA N w S1 = true ∧ gdw t N x w S = S1))) := by
  unfold gdw
  by_cases c : xR S 0 w = 2
  · exact Or.inl ⟨c, if_pos c⟩
  · refine Or.inr ⟨c, _, rfl, ?_⟩
    rw [if_neg c]
    by_cases d : mayA N w (rst w (sA t N 5 w (bof (xR S 3 w) x &&& (bkm N S ^^^ (-1 : Int32))) (xR S 2 w) S)) = true
    · exact Or.inl ⟨d, if_pos d⟩
    · exact Or.inr ⟨d, if_neg d⟩
theorem gdw_Ro {t : Int32} {N x w : Nat} {S : St} {k i : Nat} (hk : k ≠ 16) (hi : i ≠ w) : xR (gdw t N x w S) k i = xR S k i := by
  rcases gdw_3 t N x w S with ⟨_, e⟩ | ⟨_, S1, e1, ⟨_, e⟩ | ⟨_, e⟩⟩
  · rw [e, xR_uR, if_neg (by omega)]
  · rw [e, ak_Ro hk hi, e1, rst_R, if_neg (by omega), sA_R hk]
  · rw [e, e1, rst_R, if_neg (by omega), sA_R hk]
theorem gdw_Rk {t : Int32} {N x w : Nat} {S : St} {k i : Nat} (hk : 7 ≤ k ∧ k ≠ 13 ∧ k ≠ 14 ∧ k ≠ 16) : xR (gdw t N x w S) k i = xR S k i := by
  rcases gdw_3 t N x w S with ⟨_, e⟩ | ⟨_, S1, e1, ⟨_, e⟩ | ⟨_, e⟩⟩
  · rw [e, xR_uR, if_neg (by omega)]
  · rw [e, ak_Rk hk, e1, rst_R, if_neg (by omega), sA_R (by omega)]
  · rw [e, e1, rst_R, if_neg (by omega), sA_R (by omega)]
theorem gdw_W {t : Int32} {N x w : Nat} {S : St} : xW (gdw t N x w S) = xW S := by
  rcases gdw_3 t N x w S with ⟨_, e⟩ | ⟨_, S1, e1, ⟨_, e⟩ | ⟨_, e⟩⟩
  · rw [e]; rfl
  · rw [e, ak_W, e1]
    show xW (sA _ _ _ _ _ _ _) = _
    rw [sA_W]
  · rw [e, e1]
    show xW (sA _ _ _ _ _ _ _) = _
    rw [sA_W]
theorem gdw_Q (t : Int32) (N x w : Nat) (S : St) : Qk S (gdw t N x w S) := fun k hk i => gdw_Rk (by omega)
theorem gdw_IA {t : Int32} {N x w : Nat} {S : St} (h : IA N S) (hw : w < N) : IA N (gdw t N x w S) := by
  intro v hv
  obtain ⟨x1, x2, x3, x4⟩ := h v hv
  rw [gdw_Rk (k := 7) (by omega), gdw_Rk (k := 10) (by omega)]
  by_cases c : v = w
  · subst c
    rcases gdw_3 t N x v S with ⟨z, e⟩ | ⟨_, S1, e1, ⟨_, e⟩ | ⟨_, e⟩⟩
    · rw [e, xR_uR, if_neg (by omega)]; exact ⟨x1, x2, x3, x4⟩
    · have : xR (ak t N v S1) 0 v = 1 := by rw [ak_R (by decide), if_pos rfl]; rfl
      rw [e, this]; exact ⟨Or.inr (Or.inl rfl), fun z => by omega, x3, x4⟩
    · have : xR S1 0 v = 0 := by rw [e1, rst_R, if_pos ⟨rfl, Or.inl rfl⟩]
      rw [e, this]; exact ⟨Or.inl rfl, fun _ => rfl, x3, x4⟩
  · rw [gdw_Ro (by decide) c]; exact ⟨x1, x2, x3, x4⟩
theorem gdw_len {t : Int32} {N x w : Nat} {S : St} (h16 : N ≤ 16) (hw : w < N) : (fl (gdw t N x w S)).length ≤ (fl S).length + 2 * N := by
  have len1 : (fl (sA t N 5 w (bof (xR S 3 w) x &&& (bkm N S ^^^ (-1 : Int32))) (xR S 2 w) S)).length ≤ (fl S).length + N := by
    have := sAl_len t (k := 5) (show w < 16 by omega) (bof (xR S 3 w) x &&& (bkm N S ^^^ (-1 : Int32))) (xR S 2 w) (List.range N) S (fun v hv => by have := List.mem_range.mp hv; omega)
    rw [List.length_range] at this
    exact this
  rcases gdw_3 t N x w S with ⟨_, e⟩ | ⟨_, S1, e1, ⟨_, e⟩ | ⟨_, e⟩⟩
  · rw [e]; show (fl S).length ≤ _; omega
  · have := ak_len (N := N) (v := w) (S := S1) h16 (by omega) t
    have l1 : (fl S1).length ≤ (fl S).length + N := by rw [e1]; exact len1
    rw [e]; omega
  · have l1 : (fl S1).length ≤ (fl S).length + N := by rw [e1]; exact len1
    rw [e]; omega
theorem bk89 {h X Y N : Nat} {t : Int32} {Q : Nat → Int32} {pb pt : List Row4} (h16 : N ≤ 16) {x : Nat} (hx : x < N) : ∀ (d i n : Nat) (M : Mem) (S : St), HV M h X Y t N Q S pb pt → i + d = N → IA N S → (∀ v, N ≤ v → v < 16 → xR S 7 v = 0) → xR S 7 x = 1 → (∀ v, v < N → qm N S v = Q v) → (xR S 3 x = 0) → (fl S).length + 2 * N * d ≤ 9000 → d + 20 ≤ n → ∃ M', f_X2_breakNode_89 n h (nI x) (nI i) M = some M' ∧ HV M' h X Y t N Q (gdl t N x (List.range' i d) S) pb pt ∧ FrH M M' h := by
  intro d
  induction d with
  | zero =>
    intro i n M S p hi hI hz h7 hQ h3 hl hn
    obtain ⟨n, rfl⟩ : ∃ m, n = m + 1 := ⟨n - 1, by omega⟩
    refine ⟨M, ?_, p, FrH.rf _ _⟩
    rw [f_X2_breakNode_89, cs_f p.1, cs_h0 p.1, bnd_e, cs_s p.1, p.2.2.2.2.2.1, if_pos (nI_le (by omega) (by omega))]
  | succ d ih =>
    intro i n M S p hi hI hz h7 hQ h3 hl hn
    obtain ⟨n, rfl⟩ : ∃ m, n = m + 1 := ⟨n - 1, by omega⟩
    have i6 : i < 16 := by omega
    rw [Nat.mul_succ] at hl
    have u3 : mI M (h + 17 + 2 * i) 2 = xR S 3 i := p.fs i6 (a := 2) (k := 3) (by decide)
    have e0 : ∀ y, (if (if bt (xR S 3 i) x = true then (1 : Int32) else 0) = 0 then f_X2_breakNode_89 n h (nI x) (nI (i + 1)) M else obd (f_X2_doWithout n h (nI x) (nI i) M) fun M21 => f_X2_breakNode_89 n h (nI x) (nI (i + 1)) M21) = y → f_X2_breakNode_89 (n + 1) h (nI x) (nI i) M = y := by
      intro y hy
      rw [f_X2_breakNode_89, cs_f p.1, cs_h0 p.1, bnd_e, cs_s p.1, p.2.2.2.2.2.1, if_neg (nI_ge (by omega) (by omega)), cs_h2 p.1, bnd_e, cs_a10 p.1, cs_i10 p.1 i6, cs_rpc p.1 i6, bnd_e, cs_po p.1 i6, u3, f_has9 _ (by omega), obd_s, bnd_e, nI_1]
      exact hy
    unfold gdl
    rw [List.range'_succ, List.foldl_cons]
    by_cases c : i = x
    · rw [if_pos c]
      obtain ⟨M', e', p', f'⟩ := ih (i + 1) n M S p (by omega) hI hz h7 hQ h3 (by omega) (by omega)
      unfold gdl at p'
      refine ⟨M', e0 _ ?_, p', f'⟩
      rw [show bt (xR S 3 i) x = false by rw [c, h3, b_0], if_neg (show ¬ false = true by decide), if_pos rfl]
      exact e'
    · rw [if_neg c]
      by_cases b : bt (xR S 3 i) x = true
      · rw [if_pos b]
        obtain ⟨M1, e1, p1, f1⟩ := p.tgdw (n := n) h16 (x := x) (w := i) (by omega) hx hI hz h7 hQ (by omega) (by omega)
        have l1 := gdw_len (t := t) (N := N) (x := x) (w := i) (S := S) h16 (by omega)
        obtain ⟨M', e', p', f'⟩ := ih (i + 1) n M1 _ p1 (by omega) (gdw_IA hI (by omega)) (fun v a b => by rw [gdw_Rk (by omega)]; exact hz v a b) (by rw [gdw_Rk (by omega)]; exact h7) (fun v hv => by rw [(gdw_Q t N x i S).m]; exact hQ v hv) (by rw [gdw_Ro (by decide) (fun z => c z.symm)]; exact h3) (by omega) (by omega)
        unfold gdl at p'
        refine ⟨M', e0 _ ?_, p', f1.tr f'⟩
        rw [if_pos b, if_neg ne10, e1, obd_s]
        exact e'
      · rw [if_neg b]
        obtain ⟨M', e', p', f'⟩ := ih (i + 1) n M S p (by omega) hI hz h7 hQ h3 (by omega) (by omega)
        unfold gdl at p'
        refine ⟨M', e0 _ ?_, p', f'⟩
        rw [if_neg b, if_pos rfl]
        exact e'
/-- a frame: a hall, the row of wholes -/
def FrW4 (M M' : Mem) (h : Nat) : Prop := mN M ≤ mN M' ∧ (∀ i, i < mN M → M'.1.2.1 i = M.1.2.1 i) ∧ (∀ a b, a < mN M → ¬ (a = h + 1 ∧ 5 ≤ b ∧ b ≤ 7) → mR M' a b = mR M a b) ∧ (∀ o, o < mN M → o ≠ 4 → ¬ (h ≤ o ∧ o < h + 49) → o ≠ mR M (h + 1) 5 → o ≠ mR M (h + 1) 6 → o ≠ mR M (h + 1) 7 → ∀ b, mI M' o b = mI M o b) ∧ (∀ o, o < mN M → o ≠ h → ∀ b, mL M' o b = mL M o b) ∧ (∀ j, 5 ≤ j → j ≤ 7 → mR M' (h + 1) j = mR M (h + 1) j ∨ mN M ≤ mR M' (h + 1) j)
theorem FrH.w4 {M M' : Mem} {h : Nat} (f : FrH M M' h) : FrW4 M M' h := ⟨f.1, f.2.1, f.2.2.1, fun o a _ b c d e => f.2.2.2.1 o a b c d e, fun o a _ b => f.2.2.2.2.1 o a b, f.2.2.2.2.2⟩
theorem Fr.w4 {M M' : Mem} {h : Nat} (f : Fr (P4Q h) M M') : FrW4 M M' h :=
  ⟨by unfold mN; rw [f.1]; exact Nat.le_refl _, fun i _ => by rw [f.1], fun a b _ _ => by unfold mR; rw [f.1], fun o _ n4 n _ _ _ b => f.2.1 o (by unfold P4Q; omega) b, fun o _ _ b => f.2.2 o b, fun j _ _ => Or.inl (by unfold mR; rw [f.1])⟩
theorem FrW4.tr {M M' M'' : Mem} {h : Nat} (p : FrW4 M M' h) (p' : FrW4 M' M'' h) : FrW4 M M'' h := by
  obtain ⟨a1, a2, a3, a4, a5, a6⟩ := p
  obtain ⟨b1, b2, b3, b4, b5, b6⟩ := p'
  refine ⟨Nat.le_trans a1 b1, fun i hi => (b2 i (by omega)).trans (a2 i hi), fun a b ha hn => (b3 a b (by omega) hn).trans (a3 a b ha hn), fun o ho h4 h1 h5 h6 h7 b => ?_, fun o ho n b => (b5 o (by omega) n b).trans (a5 o ho n b), fun j h5 h7 => ?_⟩
  · have n5 : o ≠ mR M' (h + 1) 5 := by rcases a6 5 (by decide) (by decide) with e | e <;> omega
    have n6 : o ≠ mR M' (h + 1) 6 := by rcases a6 6 (by decide) (by decide) with e | e <;> omega
    have n7 : o ≠ mR M' (h + 1) 7 := by rcases a6 7 (by decide) (by decide) with e | e <;> omega
    exact (b4 o (by omega) h4 h1 n5 n6 n7 b).trans (a4 o ho h4 h1 h5 h6 h7 b)
  · rcases b6 j h5 h7 with e | e
    · rcases a6 j h5 h7 with e2 | e2
      · exact Or.inl (e.trans e2)
      · exact Or.inr (by omega)
    · exact Or.inr (by omega)
theorem FrD.w4 {M M' : Mem} {h : Nat} (f : FrD M M' h) : FrW4 M M' h := by
  obtain ⟨x, f⟩ := f
  exact ⟨f.1, f.2.1, f.2.2.1, fun o a _ b c d e => f.2.2.2.1 o a b c d e, fun o a n b => (f.2.2.2.2.1 o a b).trans (by rw [mL_sL, if_neg (fun z => n z.1)]), f.2.2.2.2.2⟩
theorem fgl_R {t : Int32} {x : Nat} {k i : Nat} (hk : k < 8 ∨ (10 < k ∧ k ≠ 16)) : ∀ (ws : List Nat) (S : St), xR (fgl t x ws S) k i = xR S k i := by
  intro ws
  induction ws with
  | nil => intro S; rfl
  | cons w ws ih =>
    intro S
    unfold fgl
    rw [List.foldl_cons]
    have := ih (if w = x then S else fgt t w x S)
    unfold fgl at this
    rw [this]
    split
    · rfl
    · exact fgt_R (by omega) (by omega)
theorem fgl_len {t : Int32} {N A x : Nat} (h16 : N ≤ 16) : ∀ (d i : Nat) (S : St), i + d = N → Fg N A x i S → (fl (fgl t x (List.range' i d) S)).length ≤ (fl S).length + d := by
  intro d
  induction d with
  | zero => intro i S _ _; exact Nat.le_refl _
  | succ d ih =>
    intro i S hi hF
    unfold fgl
    rw [List.range'_succ, List.foldl_cons]
    obtain ⟨g1, g2, g3⟩ := hF i (Nat.le_refl _) (by omega)
    have hF' : Fg N A x (i + 1) (if i = x then S else fgt t i x S) := by
      split
      · exact fun a h1 h2 => hF a (by omega) h2
      · exact hF.s
    have := ih (i + 1) (if i = x then S else fgt t i x S) (by omega) hF'
    unfold fgl at this
    have l1 : (fl (if i = x then S else fgt t i x S)).length ≤ (fl S).length + 1 := by
      split
      · omega
      · exact fgt_len (by omega) (fun w hw => by have := (g1.2.2 w hw).1; omega)
    omega
