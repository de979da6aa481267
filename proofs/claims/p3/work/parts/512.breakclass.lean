/-! ===== the class breaks a node ===== -/
def dl1 (l : Nat) (S : St) : St := if xL S l = [] then S else uL S l []
theorem dl1_R (l : Nat) (S : St) : xR (dl1 l S) = xR S ∧ xW (dl1 l S) = xW S ∧ xE (dl1 l S) = xE S ∧ xT (dl1 l S) = xT S := by
  unfold dl1
  split <;> exact ⟨rfl, rfl, rfl, rfl⟩
theorem dl1_L (m : Nat) (S : St) (l : Nat) : xL (dl1 m S) l = if l = m then [] else xL S l := by
  unfold dl1
  by_cases c : xL S m = []
  · rw [if_pos c]
    by_cases d : l = m
    · rw [if_pos d, d, c]
    · rw [if_neg d]
  · rw [if_neg c, xL_uL]
theorem HV.drop {M : Mem} {h X Y N n : Nat} {t : Int32} {Q : Nat → Int32} {S : St} {pb pt : List Row4} (p : HV M h X Y t N Q S pb pt) {f g : Nat} (hf : f < 16) (hg : g < 16) (hl : (xL S (16 * f + g)).length < 9001) (hn : 9002 ≤ n) : ∃ M', f_X5_drop n (h + 1) (nI f) (nI g) M = some M' ∧ HV M' h X Y t N Q (dl1 (16 * f + g) S) pb pt ∧ FrH M M' h := by
  obtain ⟨M', e, q', p', r', f'⟩ := PV.drop p.1 p.2.1 p.2.2.2.1 hf hg hl hn
  obtain ⟨d1, d2, d3, d4⟩ := dl1_R (16 * f + g) S
  exact ⟨M', e, p.frP f' q' p' r' (fun k i _ => by rw [d1]) d2 d3 d4, f'.toH⟩
def drl (x : Nat) (ws : List Nat) (S : St) : St := ws.foldl (fun S v => dl1 (16 * v + x) (dl1 (16 * x + v) S)) S
theorem drl_R (x : Nat) : ∀ (ws : List Nat) (S : St), xR (drl x ws S) = xR S ∧ xW (drl x ws S) = xW S ∧ xE (drl x ws S) = xE S ∧ xT (drl x ws S) = xT S := by
  intro ws
  induction ws with
  | nil => intro S; exact ⟨rfl, rfl, rfl, rfl⟩
  | cons v ws ih =>
    intro S
    have := ih (dl1 (16 * v + x) (dl1 (16 * x + v) S))
    obtain ⟨a1, a2, a3, a4⟩ := dl1_R (16 * v + x) (dl1 (16 * x + v) S)
    obtain ⟨b1, b2, b3, b4⟩ := dl1_R (16 * x + v) S
    rw [a1, a2, a3, a4, b1, b2, b3, b4] at this
    exact this
theorem drl_L {x : Nat} (hx : x < 16) : ∀ (d i : Nat) (S : St) (l : Nat), i + d ≤ 16 → xL (drl x (List.range' i d) S) l = if (l % 16 = x ∧ i ≤ l / 16 ∧ l / 16 < i + d) ∨ (l / 16 = x ∧ i ≤ l % 16 ∧ l % 16 < i + d) then [] else xL S l := by
  intro d
  induction d with
  | zero =>
    intro i S l hi
    rw [if_neg (by omega)]; rfl
  | succ d ih =>
    intro i S l hi
    unfold drl
    rw [List.range'_succ, List.foldl_cons]
    have := ih (i + 1) (dl1 (16 * i + x) (dl1 (16 * x + i) S)) l (by omega)
    unfold drl at this
    rw [this, dl1_L, dl1_L]
    by_cases c : (l % 16 = x ∧ i + 1 ≤ l / 16 ∧ l / 16 < i + 1 + d) ∨ (l / 16 = x ∧ i + 1 ≤ l % 16 ∧ l % 16 < i + 1 + d)
    · rw [if_pos c, if_pos (by rcases c with c | c; exact Or.inl ⟨c.1, by omega, by omega⟩; exact Or.inr ⟨c.1, by omega, by omega⟩)]
    · rw [if_neg c]
      by_cases c1 : l = 16 * i + x
      · rw [if_pos c1, if_pos (Or.inl ⟨by omega, by omega, by omega⟩)]
      · rw [if_neg c1]
        by_cases c2 : l = 16 * x + i
        · rw [if_pos c2, if_pos (Or.inr ⟨by omega, by omega, by omega⟩)]
        · rw [if_neg c2, if_neg]
          rintro (⟨z1, z2, z3⟩ | ⟨z1, z2, z3⟩)
          · exact c (Or.inl ⟨z1, by omega, by omega⟩)
          · exact c (Or.inr ⟨z1, by omega, by omega⟩)
theorem drl_e {x N : Nat} {S : St} (hx : x < N) (h16 : N ≤ 16) (hE : ∀ l, l < 256 → ¬ (l / 16 < N ∧ l % 16 < N) → xL S l = []) : drl x (List.range' 0 N) S = drp x S := by
  obtain ⟨a1, a2, a3, a4⟩ := drl_R x (List.range' 0 N) S
  refine St.ext (fun k i => by rw [a1]; rfl) (by rw [a2]; rfl) ?_ (by rw [a3]; rfl) (by rw [a4]; rfl)
  funext l
  rw [drl_L (by omega) N 0 S l (by omega)]
  show _ = if l < 256 ∧ (l / 16 = x ∨ l % 16 = x) then [] else xL S l
  by_cases c : (l % 16 = x ∧ 0 ≤ l / 16 ∧ l / 16 < 0 + N) ∨ (l / 16 = x ∧ 0 ≤ l % 16 ∧ l % 16 < 0 + N)
  · rw [if_pos c, if_pos (by omega)]
  · rw [if_neg c]
    by_cases d : l < 256 ∧ (l / 16 = x ∨ l % 16 = x)
    · rw [if_pos d]
      exact hE l d.1 (by omega)
    · rw [if_neg d]
theorem fl_le_L {S S' : St} (h : ∀ l, l < 256 → xL S' l = [] ∨ xL S' l = xL S l) : (fl S').length ≤ (fl S).length := by
  refine fl_mono (fun l hl => ?_)
  rcases h l hl with z | z <;> rw [z]
  · exact Nat.zero_le _
  · exact Nat.le_refl _
theorem bk27 {h X Y N : Nat} {t : Int32} {Q : Nat → Int32} {pb pt : List Row4} (h16 : N ≤ 16) {x : Nat} (hx : x < N) : ∀ (d i n : Nat) (M : Mem) (S : St), HV M h X Y t N Q S pb pt → i + d = N → (fl S).length ≤ 9000 → d + 9003 ≤ n → ∃ M' n', f_X2_breakNode_27 n h (nI x) (nI i) M = f_X2_breakNode_64 n' h (nI x) (0 : Int32) M' ∧ n ≤ n' + d + 1 ∧ HV M' h X Y t N Q (drl x (List.range' i d) S) pb pt ∧ FrH M M' h := by
  intro d
  induction d with
  | zero =>
    intro i n M S p hi hl hn
    obtain ⟨n, rfl⟩ : ∃ m, n = m + 1 := ⟨n - 1, by omega⟩
    refine ⟨M, n, ?_, by omega, p, FrH.rf _ _⟩
    rw [f_X2_breakNode_27, cs_f p.1, cs_h0 p.1, bnd_e, cs_s p.1, p.2.2.2.2.2.1, if_pos (nI_le (by omega) (by omega))]
  | succ d ih =>
    intro i n M S p hi hl hn
    obtain ⟨n, rfl⟩ : ∃ m, n = m + 1 := ⟨n - 1, by omega⟩
    have l1 := ln_l (S := S) (l := 16 * x + i) (by omega) hl
    obtain ⟨M1, e1, p1, f1⟩ := p.drop (n := n) (f := x) (g := i) (by omega) (by omega) (by omega) (by omega)
    have s1 : (fl (dl1 (16 * x + i) S)).length ≤ (fl S).length := fl_le_L (fun l _ => by
      rw [dl1_L]; split
      · exact Or.inl rfl
      · exact Or.inr rfl)
    have l2 := ln_l (S := dl1 (16 * x + i) S) (l := 16 * i + x) (by omega) (by omega)
    obtain ⟨M2, e2, p2, f2⟩ := p1.drop (n := n) (f := i) (g := x) (by omega) (by omega) (by omega) (by omega)
    have s2 : (fl (dl1 (16 * i + x) (dl1 (16 * x + i) S))).length ≤ (fl (dl1 (16 * x + i) S)).length := fl_le_L (fun l _ => by
      rw [dl1_L]; split
      · exact Or.inl rfl
      · exact Or.inr rfl)
    obtain ⟨M', n', e', hn', p', f'⟩ := ih (i + 1) n M2 _ p2 (by omega) (by omega) (by omega)
    refine ⟨M', n', ?_, by omega, ?_, f1.tr (f2.tr f')⟩
    · rw [f_X2_breakNode_27, cs_f p.1, cs_h0 p.1, bnd_e, cs_s p.1, p.2.2.2.2.2.1, if_neg (nI_ge (by omega) (by omega)), cs_h1 p.1, bnd_e, cs_p p.1, e1, obd_s, cs_f p1.1, cs_h1 p1.1, bnd_e, cs_p p1.1, e2, obd_s, bnd_e, nI_1, e']
    · unfold drl
      rw [List.range'_succ, List.foldl_cons]
      exact p'
theorem fgt_R {t : Int32} {a x : Nat} {S : St} {k i : Nat} (h : i ≠ a ∨ k < 8 ∨ 10 < k) (hk : k ≠ 16) : xR (fgt t a x S) k i = xR S k i := by
  unfold fgt
  split
  · exact gF_R h hk
  · rfl
theorem fgt_Wo {t : Int32} {a x b : Nat} {S : St} (h : b ≠ a) : xW (fgt t a x S) b = xW S b := by
  unfold fgt
  split
  · exact gF_Wo h
  · rw [xW_uW, if_neg h]
theorem fgt_len {t : Int32} {a x : Nat} {S : St} (ha : a < 16) (hW : ∀ w, w ∈ xW S a → w.1 < 16) : (fl (fgt t a x S)).length ≤ (fl S).length + 1 := by
  unfold fgt
  split
  · exact gF_len ha hW
  · exact Nat.le_succ _
theorem fgt_id {t : Int32} {x : Nat} {S : St} (h8 : xR S 8 x = -1) (hx : x < 16) (hW : xW S x = []) : fgt t x x S = S := by
  unfold fgt
  rw [h8, if_neg (m1_ne hx), hW]
  show uW S x [] = S
  rw [← hW]; exact uW_id S x
/-- what the forgetting rests on, from i on -/
def Fg (N A x i : Nat) (S : St) : Prop := ∀ a, i ≤ a → a < N → Wok N A (xW S a) ∧ (xR S 8 a = nI x → x ∉ (xW S a).map Prod.fst) ∧ (a = x → xR S 8 a = -1 ∧ xW S a = [])
theorem Fg.s {t : Int32} {N A x i : Nat} {S : St} (h : Fg N A x i S) : Fg N A x (i + 1) (fgt t i x S) := fun a h1 h2 => by
  rw [fgt_Wo (by omega), fgt_R (by omega) (by decide)]
  exact h a (by omega) h2
theorem bk64 {h X Y N A : Nat} {t : Int32} {Q : Nat → Int32} {pb pt : List Row4} (h16 : N ≤ 16) {x : Nat} (hx : x < N) : ∀ (d i n : Nat) (M : Mem) (S : St), HV M h X Y t N Q S pb pt → i + d = N → Fg N A x i S → (fl S).length + d < 9000 → d + 20 ≤ n → ∃ M' n', f_X2_breakNode_64 n h (nI x) (nI i) M = f_X2_breakNode_89 n' h (nI x) (0 : Int32) M' ∧ n ≤ n' + d + 1 ∧ HV M' h X Y t N Q (fgl t x (List.range' i d) S) pb pt ∧ FrH M M' h := by
  intro d
  induction d with
  | zero =>
    intro i n M S p hi hF hl hn
    obtain ⟨n, rfl⟩ : ∃ m, n = m + 1 := ⟨n - 1, by omega⟩
    refine ⟨M, n, ?_, by omega, p, FrH.rf _ _⟩
    rw [f_X2_breakNode_64, cs_f p.1, cs_h0 p.1, bnd_e, cs_s p.1, p.2.2.2.2.2.1, if_pos (nI_le (by omega) (by omega))]
  | succ d ih =>
    intro i n M S p hi hF hl hn
    obtain ⟨n, rfl⟩ : ∃ m, n = m + 1 := ⟨n - 1, by omega⟩
    obtain ⟨g1, g2, g3⟩ := hF i (Nat.le_refl _) (by omega)
    obtain ⟨M1, e1, p1, f1⟩ := p.tfgt (A := A) (n := n) h16 (a := i) (x := x) (by omega) (by omega) g1 g2 (by omega) (by omega)
    have l1 := fgt_len (t := t) (a := i) (x := x) (S := S) (by omega) (fun w hw => by have := (g1.2.2 w hw).1; omega)
    obtain ⟨M', n', e', hn', p', f'⟩ := ih (i + 1) n M1 _ p1 (by omega) hF.s (by omega) (by omega)
    refine ⟨M', n', ?_, by omega, ?_, f1.tr f'⟩
    · rw [f_X2_breakNode_64, cs_f p.1, cs_h0 p.1, bnd_e, cs_s p.1, p.2.2.2.2.2.1, if_neg (nI_ge (by omega) (by omega)), e1, obd_s, bnd_e, nI_1, e']
    · unfold fgl at p' ⊢
      rw [List.range'_succ, List.foldl_cons]
      by_cases c : i = x
      · rw [if_pos c]
        subst c
        rw [fgt_id (g3 rfl).1 (by omega) (g3 rfl).2] at p'
        exact p'
      · rw [if_neg c]; exact p'
