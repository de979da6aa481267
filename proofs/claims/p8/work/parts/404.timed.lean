theorem RV.mr {M M' : Mem} {tw : Bool} {t : Int32} {S : St} {pb pt : List Row4} (h : RV M tw t S pb pt) (f1 : mN M ≤ mN M') (f2 : ∀ o, 120 ≤ o → o < 131 → M'.1.2.1 o = M.1.2.1 o ∧ (∀ b, mR M' o b = mR M o b) ∧ ∀ b, mI M' o b = mI M o b) : RV M' tw t S pb pt := by
  obtain ⟨hS, ht, ha, hw, hl, hb1, hb2⟩ := h
  have e1 : ∀ b, mI M' 121 b = mI M 121 b := (f2 121 (by decide) (by decide)).2.2
  have e3 : ∀ b, mI M' 123 b = mI M 123 b := (f2 123 (by decide) (by decide)).2.2
  have hS' : RS M' := by
    refine ⟨fun i h1 h2 => ?_, fun q hq => ?_, Nat.le_trans hS.2.2 f1⟩
    · rw [(f2 i h1 h2).1]; exact hS.1 i h1 h2
    · have hb : ∀ q, q ∈ tG → q.1 = 120 := by decide
      have := hb q hq
      rw [(f2 q.1 (by omega) (by omega)).2.1]; exact hS.2.1 q hq
  refine ⟨hS', ?_, fun k i hv => ?_, hw.cg (fun b _ _ => e1 b) rfl, ⟨?_, hl.2.1, hl.2.2.cg fun i _ _ => ⟨e1 _, e3 _⟩⟩, hb1.cg (e1 _) (fun b _ _ => e1 b), hb2.cg (e1 _) (fun b _ _ => e1 b)⟩
  · rw [(f2 120 (by decide) (by decide)).2.2]; exact ht
  · rw [e1]; exact ha k i hv
  · rw [e1]; exact hl.1
theorem HV.tot {M : Mem} {h X Y N : Nat} {t : Int32} {Q : Nat → Int32} {S : St} {pb pt : List Row4} (p : HV M h X Y t N Q S pb pt) : mI M (h + 1) 10 = nI (fl S).length := by
  obtain ⟨d5, d6, d7, len, K, fr, us, ow, w, hK⟩ := p.2.1
  obtain ⟨tot, e1, _, e3⟩ := w.2.2.2.2.2.2.2.2.2.2.2
  rw [e1, e3]
  congr 2
  unfold flr fl
  rw [List.range_eq_range']
  refine fm_cg _ (fun l hl => ?_)
  have := List.mem_range'_1.mp hl
  show ((K l).map Prod.snd).map (fun x => (l, x)) = _
  rw [hK l (by omega)]
theorem HV.in0 {M : Mem} {h X Y N : Nat} {t : Int32} {Q : Nat → Int32} {S : St} {pb pt : List Row4} (p : HV M h X Y t N Q S pb pt) (h0 : ∀ v, v < 16 → xR S 0 v ≠ 2) : mI M h 7 = 0 := by
  rw [bt_z]
  intro i hi
  rw [p.2.2.1.2.1 i hi]
  by_cases c : i < 16
  · simp [h0 i c]
  · simp [c]
theorem rs_19 {M : Mem} (h : RS M) : mR M 120 19 = 130 := h.r (by decide)
theorem rs_f19 {α : Type} {M : Mem} (h : RS M) (x : Option α) : chk (isO M 100 130) x = x := chk_t (h.io (by decide) (by decide) (by decide))
theorem rs_c19 {α : Type} {M : Mem} (h : RS M) {k : Nat} (hk : k < 16) (x : Option α) : chk (inB (nI k) (mLn M 130)) x = x := by
  refine chk_t ?_
  rw [h.ln (c := 16) (by decide) (by decide) (by decide)]; exact inB_n hk (by decide)
/-- 130 and 120's fields behind 19 are set -/
def FrT (M M' : Mem) : Prop := M'.1 = M.1 ∧ (∀ o, o ≠ 120 → o ≠ 130 → ∀ b, mI M' o b = mI M o b) ∧ (∀ b, b < 20 → mI M' 120 b = mI M 120 b) ∧ ∀ o b, mL M' o b = mL M o b
theorem RV.ft {M M' : Mem} {tw : Bool} {t : Int32} {S : St} {pb pt : List Row4} (h : RV M tw t S pb pt) (f : FrT M M') : RV M' tw t S pb pt :=
  h.cg f.1 (f.2.2.1 3 (by decide)) (f.2.1 121 (by decide) (by decide)) (f.2.1 123 (by decide) (by decide))
theorem z16_l {tw : Bool} {t : Int32} {S : St} {pb pt : List Row4} (v1 v2 v3 : Int32) : ∀ (d i n : Nat) (M : Mem), i + d = 16 → RV M tw t S pb pt → d + 1 ≤ n → ∃ M' n', f_X10_goClock_42 n 120 v1 v2 v3 (nI i) M = f_X10_goClock_42 (n' + 1) 120 v1 v2 v3 (nI 16) M' ∧ n ≤ n' + 1 + d ∧ FrT M M' := by
  intro d
  induction d with
  | zero =>
    intro i n M hi p hn
    exact ⟨M, n - 1, by rw [show i = 16 by omega, show n - 1 + 1 = n by omega], by omega, rfl, fun _ _ _ _ => rfl, fun _ _ => rfl, fun _ _ => rfl⟩
  | succ d ih =>
    intro i n M hi p hn
    obtain ⟨n, rfl⟩ : ∃ m, n = m + 1 := ⟨n - 1, by omega⟩
    have fa : FrT M (sI M 130 i 0) := ⟨rfl, fun o n1 n2 b => mI_o _ _ _ _ _ n2, fun b hb => mI_o _ _ _ _ _ (by decide), fun _ _ => rfl⟩
    obtain ⟨M', n', e, hn', f⟩ := ih (i + 1) n (sI M 130 i 0) (by omega) (p.ft fa) (by omega)
    refine ⟨M', n', ?_, by omega, f.1, fun o n1 n2 b => (f.2.1 o n1 n2 b).trans (fa.2.1 o n1 n2 b), fun b hb => (f.2.2.1 b hb).trans (fa.2.2.1 b hb), fun o b => f.2.2.2 o b⟩
    rw [f_X10_goClock_42, if_neg (show ¬ (16 : Int32) ≤ nI i from nI_ge (a := i) (b := 16) (by omega) (by decide)), rs_f p.1, rs_19 p.1, bnd_e, rs_f19 p.1, rs_c19 p.1 (by omega), sI_d (by omega), bnd_e, nI_1, bnd_e]
    exact e
