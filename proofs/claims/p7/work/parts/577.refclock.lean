/-! ===== the reference's clock ===== -/
theorem RV.cf {M M' : Mem} {t : Int32} {S : St} {pb pt : List Row4} (h : RV M false t S pb pt) (e1 : M'.1 = M.1) (e2 : mI M' 120 3 = mI M 120 3) (e3 : ∀ b, mI M' 121 b = mI M 121 b) : RV M' false t S pb pt := by
  obtain ⟨hS, ht, hA, hw, hl, hb1, hb2⟩ := h
  exact ⟨hS.e e1, e2.trans ht, fun k i hv => (e3 _).trans (hA k i hv), hw.cg (fun b _ _ => e3 b) rfl, ⟨(e3 _).trans hl.1, hl.2.1, fun i q hq => ⟨(e3 _).trans (hl.2.2 i q hq).1, fun z => by cases z⟩⟩, hb1.cg (e3 _) (fun b _ _ => e3 b), hb2.cg (e3 _) (fun b _ _ => e3 b)⟩
def P123 (o : Nat) : Prop := o = 123
theorem gz_l {t a b x : Int32} {S : St} {pb pt : List Row4} : ∀ (d i n : Nat) (M : Mem), i + d = (fl S).length → RV M false t S pb pt → (∀ j, j < i → mI M 123 j = 0) → d + 1 ≤ n → ∃ M' n', f_X10_goClock_12 n 120 a b x (nI i) M = f_X10_goClock_42 n' 120 a b x 0 M' ∧ n ≤ n' + d + 1 ∧ RV M' false t S pb pt ∧ (∀ j, j < (fl S).length → mI M' 123 j = 0) ∧ Fr P123 M M' := by
  intro d
  induction d with
  | zero =>
    intro i n M hi r hz hn
    obtain ⟨n, rfl⟩ : ∃ m, n = m + 1 := ⟨n - 1, by omega⟩
    have h9 := r.2.2.2.2.1.2.1
    refine ⟨M, n, ?_, by omega, r, fun j hj => hz j (by omega), Fr.rf _ _⟩
    rw [f_X10_goClock_12, rs_f r.1, rs_0 r.1, bnd_e, rs_fa r.1, l850, rs_c r.1 (by decide), cl_n (by decide), r.2.2.2.2.1.1, if_pos (nI_le (by omega) (by omega))]
  | succ d ih =>
    intro i n M hi r hz hn
    obtain ⟨n, rfl⟩ : ∃ m, n = m + 1 := ⟨n - 1, by omega⟩
    have h9 := r.2.2.2.2.1.2.1
    have fa : Fr P123 M (sI M 123 i 0) := Fr.tsI (show P123 123 from rfl)
    have ra : RV (sI M 123 i 0) false t S pb pt := r.cf rfl (mI_o _ _ _ _ _ (by decide)) (fun b => mI_o _ _ _ _ _ (by decide))
    obtain ⟨M', n', e', hn', r', z', f'⟩ := ih (i + 1) n _ (by omega) ra (fun j hj => by
      by_cases c : j = i
      · rw [c, mI_s]
      · rw [mI_n _ _ _ _ c]; exact hz j (by omega)) (by omega)
    refine ⟨M', n', ?_, by omega, r', z', fa.tr f'⟩
    rw [f_X10_goClock_12, rs_f r.1, rs_0 r.1, bnd_e, rs_fa r.1, l850, rs_c r.1 (by decide), cl_n (by decide), r.2.2.2.2.1.1, if_neg (nI_ge (by omega) (by omega)), rs_2 r.1, bnd_e, rs_fw r.1, rs_cw r.1 (by omega), sI_c (by omega), bnd_e, bnd_e, nI_1]
    exact e'
theorem fl_fS (S : St) : fl (fS 0 S S) = (fl S).map fun q => (q.1, wn 0 q.2) := by
  unfold fl
  rw [List.map_flatMap]
  refine fm_cg _ (fun l _ => ?_)
  show ((xL S l).map (wn 0)).map (fun x => (l, x)) = ((xL S l).map fun x => (l, x)).map fun q => (q.1, wn 0 q.2)
  rw [List.map_map, List.map_map]
  rfl
theorem zs_of {M : Mem} {t : Int32} {S : St} {pb pt : List Row4} (r : RV M false t S pb pt) (hz : ∀ j, j < (fl S).length → mI M 123 j = 0) : RV M true t (fS 0 S S) pb pt := by
  obtain ⟨hS, ht, hA, hw, hl, hb1, hb2⟩ := r
  refine ⟨hS, ht, fun k i hv => hA k i hv, hw, ⟨by rw [fl_fS, List.length_map]; exact hl.1, by rw [fl_fS, List.length_map]; exact hl.2.1, fun i q hq => ?_⟩, hb1, hb2⟩
  rw [fl_fS, List.getElem?_map] at hq
  cases e : (fl S)[i]? with
  | none => rw [e] at hq; cases hq
  | some q0 =>
    rw [e] at hq
    have hq' : (q0.1, wn 0 q0.2) = q := Option.some.inj hq
    rw [← hq']
    exact ⟨(hl.2.2 i q0 e).1, fun _ => by rw [Nat.zero_add, hz i (gl_lt e)]; rfl⟩
theorem RV.s120 {M : Mem} {tw : Bool} {t : Int32} {S : St} {pb pt : List Row4} (r : RV M tw t S pb pt) {k : Nat} (hk : k ≠ 3) (x : Int32) : RV (sI M 120 k x) tw t S pb pt :=
  r.cg rfl (mI_n _ _ _ _ (fun z => hk z.symm)) (fun b => mI_o _ _ _ _ _ (by decide)) (fun b => mI_o _ _ _ _ _ (by decide))
theorem RV.s130 {M : Mem} {tw : Bool} {t : Int32} {S : St} {pb pt : List Row4} (r : RV M tw t S pb pt) (k : Nat) (x : Int32) : RV (sI M 130 k x) tw t S pb pt :=
  r.cg rfl (mI_o _ _ _ _ _ (by decide)) (fun b => mI_o _ _ _ _ _ (by decide)) (fun b => mI_o _ _ _ _ _ (by decide))
theorem RV.st3 {M : Mem} {tw : Bool} {t : Int32} {S : St} {pb pt : List Row4} (r : RV M tw t S pb pt) (x : Int32) : RV (sI M 120 3 x) tw x S pb pt := by
  obtain ⟨hS, ht, hA, hw, hl, hb1, hb2⟩ := r
  have e : ∀ b, mI (sI M 120 3 x) 121 b = mI M 121 b := fun b => mI_o _ _ _ _ _ (by decide)
  have e3 : ∀ b, mI (sI M 120 3 x) 123 b = mI M 123 b := fun b => mI_o _ _ _ _ _ (by decide)
  exact ⟨hS.e rfl, mI_s _ _ _ _, fun k i hv => (e _).trans (hA k i hv), hw.cg (fun b _ _ => e b) rfl, ⟨(e _).trans hl.1, hl.2.1, hl.2.2.cg fun j _ _ => ⟨e _, e3 _⟩⟩, hb1.cg (e _) (fun b _ _ => e b), hb2.cg (e _) (fun b _ _ => e b)⟩
theorem fl_at {S : St} {a k : Nat} {x : Ltr} (ha : a < 256) (hk : (xL S a)[k]? = some x) : (fl S)[(flr (xL S) 0 a).length + k]? = some (a, x) := by
  have hk2 := gl_lt hk
  rw [fl_r, flr_split _ a ha, List.append_assoc, List.getElem?_append_right (by omega), Nat.add_sub_cancel_left, List.getElem?_append_left (by rw [List.length_map]; exact hk2), List.getElem?_map, hk]
  rfl
theorem fL_s (S : St) (a : Nat) : (flr (xL S) 0 (a + 1)).length = (flr (xL S) 0 a).length + (xL S a).length := by
  rw [fl_smN, fl_smN]; rfl
/-- none is due, or where one lies that is -/
def DP (t : Int32) (dl : Nat → Int32) (S : St) (v : Int32) : Prop := v = -1 ∨ ∃ l x r, l < 256 ∧ xL S l = x :: r ∧ v = nI (flr (xL S) 0 l).length ∧ due t dl l x = true
section
variable {t : Int32} {S : St} {pb pt : List Row4} {M : Mem}
theorem due_k (r : RV M true t S pb pt) {a : Nat} (ha : a < 256) (v1 : Int32) : ∀ (e k n : Nat), k + e = (xL S a).length → f_X10_dueLetter_6 M (n + e) 120 v1 (nI a) (nI ((flr (xL S) 0 a).length + k)) = f_X10_dueLetter_6 M n 120 v1 (nI a) (nI ((flr (xL S) 0 a).length + (xL S a).length)) := by
  intro e
  induction e with
  | zero => intro k n hk; rw [show k = (xL S a).length by omega]; rfl
  | succ e ih =>
    intro k n hk
    have h9 := r.2.2.2.2.1.2.1
    obtain ⟨x, hx⟩ : ∃ x, (xL S a)[k]? = some x := ⟨_, List.getElem?_eq_getElem (show k < (xL S a).length by omega)⟩
    have hq := fl_at ha hx
    have hlt := gl_lt hq
    have g := r.2.2.2.2.1.2.2 _ _ hq
    rw [Nat.zero_add] at g
    rw [show n + (e + 1) = (n + e) + 1 by omega, f_X10_dueLetter_6, rs_f r.1, rs_0 r.1, bnd_e, rs_fa r.1, l850, rs_c r.1 (by decide), cl_n (by decide), r.2.2.2.2.1.1, if_neg (nI_ge (by omega) (by omega)), bnd_e, rs_fa r.1, c851, rs_c r.1 (by omega), f_X10_pairOf, mI_c (by omega), g.1, enc_pair ha, obd_s, if_pos rfl, bnd_e, nI_1, Nat.add_assoc]
    exact ih (k + 1) n (by omega)
theorem due_l (r : RV M true t S pb pt) {dl : Nat → Int32} (hdl : ∀ l, l < 256 → xR S 19 l = dl l) : ∀ (d a n : Nat) (v1 : Int32) (o : Option Nat), a + d = 256 → (∀ l, o = some l → l < a) → DP t dl S v1 → (flr (xL S) a d).length + 1 ≤ n → ∃ v, f_X10_dueLetter_6 M n 120 v1 (lastI o) (nI (flr (xL S) 0 a).length) = some v ∧ DP t dl S v := by
  have h9 := r.2.2.2.2.1.2.1
  intro d
  induction d with
  | zero =>
    intro a n v1 o ha ho hd hn
    obtain ⟨n, rfl⟩ : ∃ m, n = m + 1 := ⟨n - 1, by omega⟩
    have e : (flr (xL S) 0 a).length = (fl S).length := by rw [fl_r, show a = 256 by omega]
    exact ⟨v1, by rw [f_X10_dueLetter_6, rs_f r.1, rs_0 r.1, bnd_e, rs_fa r.1, l850, rs_c r.1 (by decide), cl_n (by decide), r.2.2.2.2.1.1, e, if_pos (Int32.le_refl _)], hd⟩
  | succ d ih =>
    intro a n v1 o ha ho hd hn
    have a256 : a < 256 := by omega
    rw [flr_len_s] at hn
    cases hL : xL S a with
    | nil =>
      have e : (flr (xL S) 0 (a + 1)).length = (flr (xL S) 0 a).length := by rw [fL_s, hL]; rfl
      rw [← e]
      rw [hL] at hn
      exact ih (a + 1) n v1 o (by omega) (fun l q => by have := ho l q; omega) hd (by simp at hn; omega)
    | cons x rr =>
      have len : (xL S a).length = rr.length + 1 := by rw [hL]; rfl
      have hx : (xL S a)[0]? = some x := by rw [hL]; rfl
      have hq := fl_at a256 hx
      rw [Nat.add_zero] at hq
      have hlt := gl_lt hq
      have g := r.2.2.2.2.1.2.2 _ _ hq
      rw [Nat.zero_add] at g
      obtain ⟨g1, g2⟩ := g
      have g2 := g2 rfl
      have ne : ¬ nI a = lastI o := by
        cases o with
        | none => exact fun q => m1_ne' a a256 q.symm
        | some l =>
          intro q
          have h5 := ho l rfl
          have h6 := (nI_eq (a := a) (b := l) (by omega) (by omega)).mp q
          omega
      have h19 : mI M 121 (10209 + a) = dl a := (r.rg (k := 19) (i := a) (by unfold vk; omega)).trans (hdl a a256)
      obtain ⟨m, hm⟩ : ∃ m, n = (m + rr.length) + 1 := ⟨n - 1 - rr.length, by rw [len] at hn; omega⟩
      have go : ∀ v, DP t dl S v → ∃ v', f_X10_dueLetter_6 M (m + rr.length) 120 v (nI a) (nI ((flr (xL S) 0 a).length + 1)) = some v' ∧ DP t dl S v' := by
        intro v hv
        rw [due_k r a256 v rr.length 1 m (by omega), ← fL_s]
        exact ih (a + 1) m v (some a) (by omega) (fun l q => by cases q; omega) hv (by rw [len] at hn; omega)
      have op : ∀ y, (if t < x.2.2 + dl a then f_X10_dueLetter_6 M (m + rr.length) 120 v1 (nI a) (nI ((flr (xL S) 0 a).length + 1)) else if v1 = (-1 : Int32) then f_X10_dueLetter_6 M (m + rr.length) 120 (nI (flr (xL S) 0 a).length) (nI a) (nI ((flr (xL S) 0 a).length + 1)) else chk (inB v1 (mLn M 123)) <| if mI M 123 v1.toNatClampNeg ≤ mI M 123 (nI (flr (xL S) 0 a).length).toNatClampNeg then f_X10_dueLetter_6 M (m + rr.length) 120 v1 (nI a) (nI ((flr (xL S) 0 a).length + 1)) else f_X10_dueLetter_6 M (m + rr.length) 120 (nI (flr (xL S) 0 a).length) (nI a) (nI ((flr (xL S) 0 a).length + 1))) = y → f_X10_dueLetter_6 M n 120 v1 (lastI o) (nI (flr (xL S) 0 a).length) = y := by
        intro y hy
        rw [hm, f_X10_dueLetter_6, rs_f r.1, rs_0 r.1, bnd_e, rs_fa r.1, l850, rs_c r.1 (by decide), cl_n (by decide), r.2.2.2.2.1.1, if_neg (nI_ge hlt (by omega)), bnd_e, rs_fa r.1, c851, rs_c r.1 (by omega), f_X10_pairOf, mI_c (by omega), g1, enc_pair a256, obd_s, if_neg ne, rs_2 r.1, bnd_e, rs_fw r.1, rs_cw r.1 (by omega), bnd_e, rs_fa r.1, show (10209 : Int32) + nI (a, x).1 = nI (10209 + a) by rw [show (10209 : Int32) = nI 10209 from rfl, nI_add], rs_c r.1 (by omega), r.2.1, show mI M 123 (nI (flr (xL S) 0 a).length).toNatClampNeg = x.2.2 by rw [mI_c (by omega)]; exact g2, show mI M 121 (nI (10209 + a)).toNatClampNeg = dl a by rw [mI_c (by omega)]; exact h19]
        by_cases c : t < x.2.2 + dl a
        · rw [if_pos c] at hy ⊢
          rw [bnd_e, nI_1]; exact hy
        · rw [if_neg c] at hy ⊢
          by_cases c1 : v1 = (-1 : Int32)
          · rw [if_pos c1] at hy ⊢
            rw [bnd_e, nI_1]; exact hy
          · rw [if_neg c1] at hy ⊢
            rw [bnd_e, rs_fw r.1, rs_cw r.1 (by omega), bnd_e, rs_fw r.1, bnd_e, nI_1, bnd_e]
            exact hy
      have dp : ¬ t < x.2.2 + dl a → DP t dl S (nI (flr (xL S) 0 a).length) := fun c => Or.inr ⟨a, x, rr, a256, hL, rfl, by unfold due; rw [decide_eq_false c]; rfl⟩
      by_cases c : t < x.2.2 + dl a
      · obtain ⟨v', e', d'⟩ := go v1 hd
        exact ⟨v', op _ (by rw [if_pos c]; exact e'), d'⟩
      · obtain ⟨v', e', d'⟩ := go _ (dp c)
        by_cases c1 : v1 = (-1 : Int32)
        · exact ⟨v', op _ (by rw [if_neg c, if_pos c1]; exact e'), d'⟩
        · obtain ⟨l, y, rl, hl, ey, ev, _⟩ := hd.resolve_left c1
          have hql := fl_at hl (show (xL S l)[0]? = some y by rw [ey]; rfl)
          rw [Nat.add_zero] at hql
          have hlt2 := gl_lt hql
          have ci : chk (inB v1 (mLn M 123)) = fun x : Option Int32 => x := by
            funext x
            rw [ev]; exact rs_cw r.1 (by omega) x
          by_cases c2 : mI M 123 v1.toNatClampNeg ≤ mI M 123 (nI (flr (xL S) 0 a).length).toNatClampNeg
          · obtain ⟨v2, e2, d2⟩ := go v1 hd
            exact ⟨v2, op _ (by rw [if_neg c, if_neg c1, ci, if_pos c2]; exact e2), d2⟩
          · exact ⟨v', op _ (by rw [if_neg c, if_neg c1, ci, if_neg c2]; exact e'), d'⟩
theorem RV.due (r : RV M true t S pb pt) {dl : Nat → Int32} (hdl : ∀ l, l < 256 → xR S 19 l = dl l) {n : Nat} (hn : 9100 ≤ n) : ∃ v, f_X10_dueLetter n 120 M = some v ∧ DP t dl S v := by
  have h9 := r.2.2.2.2.1.2.1
  rw [fl_r] at h9
  obtain ⟨v, e, d⟩ := due_l r hdl 256 0 n (-1) none rfl (fun l q => by cases q) (Or.inl rfl) (by omega)
  exact ⟨v, e, d⟩
end
