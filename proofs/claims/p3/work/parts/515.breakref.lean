/-! ===== a node breaks: the reference's letters ===== -/
def kpq (x : Nat) (q : Nat × Ltr) : Bool := !(decide (q.1 / 16 = x) || decide (q.1 % 16 = x))
def FrL2 (M M' : Mem) : Prop := M'.1 = M.1 ∧ (∀ o, o ≠ 121 → o ≠ 123 → ∀ k, mI M' o k = mI M o k) ∧ (∀ o k, mL M' o k = mL M o k) ∧ (∀ b, b < 850 ∨ 9851 ≤ b → mI M' 121 b = mI M 121 b)
theorem FrL2.rf (M : Mem) : FrL2 M M := ⟨rfl, fun _ _ _ _ => rfl, fun _ _ => rfl, fun _ _ => rfl⟩
theorem FrL2.tr {M M' M'' : Mem} (h : FrL2 M M') (h' : FrL2 M' M'') : FrL2 M M'' :=
  ⟨h'.1.trans h.1, fun o a b k => (h'.2.1 o a b k).trans (h.2.1 o a b k), fun o k => (h'.2.2.1 o k).trans (h.2.2.1 o k), fun b hb => (h'.2.2.2 b hb).trans (h.2.2.2 b hb)⟩
theorem pr_16 {q : Nat} (h : q < 256) : nI q / (16 : Int32) = nI (q / 16) ∧ nI q - nI q / (16 : Int32) * (16 : Int32) = nI (q % 16) := by
  rw [show (16 : Int32) = nI 16 from rfl]
  exact ⟨pk_div (by omega) (by decide) (by decide), pk_rem (by omega) (by decide) (by decide)⟩
set_option maxHeartbeats 1000000 in
theorem dropr_l (tw : Bool) {x : Nat} (hx : x < 16) : ∀ (d : Nat) (pre suf : List (Nat × Ltr)) (M : Mem) (n : Nat), pre.length = d → RS M → mI M 121 850 = nI (pre.length + suf.length) → pre.length + suf.length ≤ 9000 → Seg M tw 0 (pre ++ suf) → (∀ q, q ∈ pre → q.1 < 256) → d + 9100 ≤ n → ∃ M', f_X10_dropLetters_11 n 120 (nI x) (nI pre.length - 1) M = some M' ∧ mI M' 121 850 = nI ((pre.filter (kpq x)).length + suf.length) ∧ Seg M' tw 0 (pre.filter (kpq x) ++ suf) ∧ FrL2 M M' := by
  intro d
  induction d with
  | zero =>
    intro pre suf M n hd hS hc hlen hs hp hn
    have : pre = [] := List.length_eq_zero_iff.mp hd
    subst this
    obtain ⟨n, rfl⟩ : ∃ m, n = m + 1 := ⟨n - 1, by omega⟩
    exact ⟨M, by rw [f_X10_dropLetters_11, if_pos (by decide)], hc, hs, FrL2.rf M⟩
  | succ d ih =>
    intro pre suf M n hd hS hc hlen hs hp hn
    obtain ⟨n, rfl⟩ : ∃ m, n = m + 1 := ⟨n - 1, by omega⟩
    rcases nil_app pre with z | ⟨p, z, e⟩
    · rw [z] at hd; cases hd
    subst e
    have hpl : p.length = d := by rw [List.length_append, List.length_singleton] at hd; omega
    rw [List.length_append, List.length_singleton] at hc hlen ⊢
    have hz := hp z (by simp)
    have hp' : ∀ q, q ∈ p → q.1 < 256 := fun q hq => hp q (by simp [hq])
    have hs2 := hs
    rw [List.append_assoc, Seg.ap, Seg.ap, Seg.one, Nat.zero_add, List.length_singleton] at hs2
    obtain ⟨g1, g2, g3⟩ := hs2
    have rd : mI M 121 (851 + p.length) = enc z := g2.1
    obtain ⟨q1, q2⟩ := pr_16 hz
    have e0 : nI (p.length + 1) - (1 : Int32) = nI p.length := nI_pred p.length
    have em : nI p.length + (-1 : Int32) = nI p.length - 1 := (Int32.sub_eq_add_neg _ _).symm
    have tk : ∃ M', f_X10_dropLetters_55 (f_X10_dropLetters_11 n) n 120 (nI x) (nI p.length) M = some M' ∧ mI M' 121 850 = nI ((p.filter (kpq x)).length + suf.length) ∧ Seg M' tw 0 (p.filter (kpq x) ++ suf) ∧ FrL2 M M' := by
      obtain ⟨M1, i1, i2, i3⟩ := take_l tw suf p M n hS (by rw [hc]) (by omega) g1 g3 (by omega)
      generalize hMa : sI M1 121 850 (nI (p.length + suf.length)) = Ma at i1
      generalize hMb : sI Ma 121 (851 + (p.length + suf.length)) 0 = Mb at i1
      have hSb : RS Mb := by rw [← hMb, ← hMa]; exact hS.e i3.1
      have F : FrL2 M Mb := by
        refine ⟨?_, fun o a b k => ?_, fun o k => ?_, fun b hb => ?_⟩
        · rw [← hMb, ← hMa]; exact i3.1
        · rw [← hMb, mI_o _ _ _ _ _ a, ← hMa, mI_o _ _ _ _ _ a]; exact i3.2.1 o a b k
        · rw [← hMb, ← hMa]; exact i3.2.2.1 o k
        · rw [← hMb, mI_n _ _ _ _ (by omega), ← hMa, mI_n _ _ _ _ (by omega)]; exact i3.2.2.2 b (by omega)
      obtain ⟨M', j1, j2, j3, j4⟩ := ih p suf Mb n hpl hSb (by rw [← hMb, mI_n _ _ _ _ (by omega), ← hMa, mI_s]) (by omega) (i2.cg fun i _ hi => ⟨by
          rw [List.length_append] at hi
          rw [← hMb, mI_n _ _ _ _ (by omega), ← hMa, mI_n _ _ _ _ (by omega)], by rw [← hMb, mI_o _ _ _ _ _ (by decide), ← hMa, mI_o _ _ _ _ _ (by decide)]⟩) hp' (by omega)
      refine ⟨M', ?_, j2, j3, F.tr j4⟩
      rw [f_X10_dropLetters_55, rs_f hS, f_X10_takeLetter, i1, obd_s, bnd_e, em]
      exact j1
    have st : ∀ y, (if nI (z.1 / 16) = nI x then f_X10_dropLetters_55 (f_X10_dropLetters_11 n) n 120 (nI x) (nI p.length) M else if nI (z.1 % 16) = nI x then f_X10_dropLetters_55 (f_X10_dropLetters_11 n) n 120 (nI x) (nI p.length) M else f_X10_dropLetters_11 n 120 (nI x) (nI p.length - 1) M) = y → f_X10_dropLetters_11 (n + 1) 120 (nI x) (nI (p.length + 1) - 1) M = y := by
      intro y hy
      rw [e0, f_X10_dropLetters_11, if_neg (nI_pos (by omega)), rs_f hS, rs_0 hS, bnd_e, rs_fa hS, c851, rs_c hS (by omega), mI_c (by omega), rd, f_X10_pairOf, obd_s, enc_pair hz, chk_t (by decide), q1]
      by_cases c : nI (z.1 / 16) = nI x
      · rw [if_pos c] at hy ⊢; exact hy
      · rw [if_neg c] at hy ⊢
        rw [bnd_e, rs_fa hS, rs_c hS (by omega), mI_c (by omega), rd, f_X10_pairOf, obd_s, enc_pair hz, chk_t (by decide), q2]
        by_cases c2 : nI (z.1 % 16) = nI x
        · rw [if_pos c2] at hy ⊢; exact hy
        · rw [if_neg c2] at hy ⊢
          rw [bnd_e, em]; exact hy
    have fe : (p ++ [z]).filter (kpq x) = p.filter (kpq x) ++ [z].filter (kpq x) := List.filter_append _ _
    by_cases c : z.1 / 16 = x
    · have kz : kpq x z = false := by unfold kpq; rw [decide_eq_true c]; rfl
      rw [fe, show [z].filter (kpq x) = [] by simp [kz], List.append_nil]
      obtain ⟨M', j1, j2, j3, j4⟩ := tk
      exact ⟨M', st _ (by rw [if_pos (by rw [c])]; exact j1), j2, j3, j4⟩
    · by_cases c2 : z.1 % 16 = x
      · have kz : kpq x z = false := by unfold kpq; rw [decide_eq_true c2, Bool.or_true]; rfl
        rw [fe, show [z].filter (kpq x) = [] by simp [kz], List.append_nil]
        obtain ⟨M', j1, j2, j3, j4⟩ := tk
        exact ⟨M', st _ (by rw [if_neg (nI_ne (by omega) (by omega) c), if_pos (by rw [c2])]; exact j1), j2, j3, j4⟩
      · have kz : kpq x z = true := by unfold kpq; rw [decide_eq_false c, decide_eq_false c2]; rfl
        rw [fe, show [z].filter (kpq x) = [z] by simp [kz]]
        obtain ⟨M', j1, j2, j3, j4⟩ := ih p (z :: suf) M n hpl hS (by rw [hc, List.length_cons]; congr 1; omega) (by rw [List.length_cons]; omega) (by simpa using hs) hp' (by omega)
        refine ⟨M', st _ (by rw [if_neg (nI_ne (by omega) (by omega) c), if_neg (nI_ne (by omega) (by omega) c2)]; exact j1), ?_, by simpa using j3, j4⟩
        rw [j2, List.length_cons, List.length_append, List.length_singleton]; congr 1; omega
theorem fl_drp {x : Nat} {S : St} : fl (drp x S) = (fl S).filter (kpq x) := by
  unfold fl
  rw [List.filter_flatMap]
  apply fm_cg
  intro l hl
  have hl := List.mem_range.mp hl
  show ((if l < 256 ∧ (l / 16 = x ∨ l % 16 = x) then [] else xL S l).map fun y => (l, y)) = _
  rw [List.filter_map]
  by_cases c : l / 16 = x ∨ l % 16 = x
  · rw [if_pos ⟨hl, c⟩]
    have : (xL S l).filter (kpq x ∘ fun y => (l, y)) = [] := by
      apply List.filter_eq_nil_iff.mpr
      intro y _
      show ¬ kpq x (l, y) = true
      unfold kpq
      rcases c with c | c <;> simp [c]
    rw [this]
  · rw [if_neg (fun z => c z.2)]
    have : (xL S l).filter (kpq x ∘ fun y => (l, y)) = xL S l := by
      apply List.filter_eq_self.mpr
      intro y _
      show kpq x (l, y) = true
      unfold kpq
      rw [decide_eq_false (fun z => c (Or.inl z)), decide_eq_false (fun z => c (Or.inr z))]; rfl
    rw [this]
theorem RV.tdrp {M : Mem} {tw : Bool} {t : Int32} {S : St} {pb pt : List Row4} (h : RV M tw t S pb pt) {x n : Nat} (hx : x < 16) (hn : 18200 ≤ n) : ∃ M', f_X10_dropLetters n 120 (nI x) M = some M' ∧ RV M' tw t (drp x S) pb pt ∧ Fr PA M M' := by
  obtain ⟨hS, ht, ha, hw, hl, hb1, hb2⟩ := h
  obtain ⟨M', e, j2, j3, j4⟩ := dropr_l tw hx (fl S).length (fl S) [] M n rfl hS (by rw [List.length_nil, Nat.add_zero]; exact hl.1) (by rw [List.length_nil]; exact hl.2.1) (by rw [List.append_nil]; exact hl.2.2) (fun q hq => (fl_mem hq).1) (by have := hl.2.1; omega)
  rw [List.length_nil, Nat.add_zero, ← fl_drp] at j2
  rw [List.append_nil, ← fl_drp] at j3
  have k1 : ∀ b, b < 850 ∨ 9851 ≤ b → mI M' 121 b = mI M 121 b := j4.2.2.2
  refine ⟨M', ?_, ⟨hS.e j4.1, (j4.2.1 120 (by decide) (by decide) 3).trans ht, fun kk ii hv => ?_, hw.cg (fun b _ _ => k1 b (by omega)) rfl, ⟨j2, ?_, j3⟩, hb1.cg (k1 _ (by omega)) (fun b _ _ => k1 b (by omega)), hb2.cg (k1 _ (by omega)) (fun b _ _ => k1 b (by omega))⟩, ⟨j4.1, fun o n k => j4.2.1 o (fun z => n (by rw [z]; exact ⟨by decide, by decide⟩)) (fun z => n (by rw [z]; exact ⟨by decide, by decide⟩)) k, j4.2.2.1⟩⟩
  · rw [f_X10_dropLetters, rs_f hS, rs_0 hS, bnd_e, rs_fa hS, l850, rs_c hS (by decide), mI_c (by decide), hl.1, bnd_e]
    exact e
  · rw [k1 _ (ad_lim hv).2.1]; exact ha kk ii hv
  · rw [fl_drp]
    exact Nat.le_trans (List.length_filter_le _ _) hl.2.1
