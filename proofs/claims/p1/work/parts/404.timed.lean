/-! ===== timed on the fresh objects ===== -/
theorem RV.mr {M M' : Mem} {tw : Bool} {t : Int32} {S : St} {pb pt : List Row4} (h : RV M tw t S pb pt) (f1 : mN M ≤ mN M') (f2 : ∀ o, 120 ≤ o → o < 131 → M'.1.2.1 o = M.1.2.1 o ∧ (∀ b, mR M' o b = mR M o b) ∧ ∀ b, mI M' o b = mI M o b) : RV M' tw t S pb pt := by
  obtain ⟨hS, ht, ha, hw, hl, hb1, hb2⟩ := h
  have e1 : ∀ b, mI M' 121 b = mI M 121 b := (f2 121 (by decide) (by decide)).2.2
  have e3 : ∀ b, mI M' 123 b = mI M 123 b := (f2 123 (by decide) (by decide)).2.2
  have hS' : RS M' := by
    refine ⟨fun i h1 h2 => ?_, fun q hq => ?_, Nat.le_trans hS.2.2 f1⟩
    · rw [(f2 i h1 h2).1]; exact hS.1 i h1 h2
    · have hb : ∀ q, q ∈ tG → q.1 = 120 := by decide
      have := hb q hq
      rw [(f2 q.1 (by omega) (by omega)).2.1]; exact hS.2.1 q hq
  refine ⟨hS', ?_, fun k i hv => ?_, hw.cg (fun b _ _ => e1 b) rfl, ⟨?_, hl.2.1, hl.2.2.cg fun i _ _ => ⟨e1 _, e3 _⟩⟩, hb1.cg (e1 _) (fun b _ _ => e1 b), hb2.cg (e1 _) (fun b _ _ => e1 b)⟩
  · rw [(f2 120 (by decide) (by decide)).2.2]; exact ht
  · rw [e1]; exact ha k i hv
  · rw [e1]; exact hl.1
theorem HV.tot {M : Mem} {h X Y N : Nat} {t : Int32} {Q : Nat → Int32} {S : St} {pb pt : List Row4} (p : HV M h X Y t N Q S pb pt) : mI M (h + 1) 10 = nI (fl S).length := by
  obtain ⟨d5, d6, d7, len, K, fr, us, ow, w, hK⟩ := p.2.1
  obtain ⟨tot, e1, _, e3⟩ := w.2.2.2.2.2.2.2.2.2.2.2
  rw [e1, e3]
  congr 2
  unfold flr fl
  rw [List.range_eq_range']
  refine fm_cg _ (fun l hl => ?_)
  have := List.mem_range'_1.mp hl
  show ((K l).map Prod.snd).map (fun x => (l, x)) = _
  rw [hK l (by omega)]
theorem HV.in0 {M : Mem} {h X Y N : Nat} {t : Int32} {Q : Nat → Int32} {S : St} {pb pt : List Row4} (p : HV M h X Y t N Q S pb pt) (h0 : ∀ v, v < 16 → xR S 0 v ≠ 2) : mI M h 7 = 0 := by
  rw [bt_z]
  intro i hi
  rw [p.2.2.1.2.1 i hi]
  by_cases c : i < 16
  · simp [h0 i c]
  · simp [c]
def ctm (w : Nat) : Int32 := if w = 0 then 0 else if w = 1 then 0 else if w = 2 then -1 else if w = 3 then -1 else 1
theorem lw_l {M : Mem} (q : CS M 63) (h3 : mI M 1 3 = 4) (h7 : mI M 63 7 = 0) (x : Int32) : ∀ (d i n : Nat), i + d = 4 → d + 1 ≤ n → f_X0_leaveWhoCameBy_2 n 63 x (nI i) M = some M := by
  intro d
  induction d with
  | zero =>
    intro i n hi hn
    obtain ⟨n, rfl⟩ : ∃ m, n = m + 1 := ⟨n - 1, by omega⟩
    rw [f_X0_leaveWhoCameBy_2, cs_f q, cs_h0 q, bnd_e, cs_s q, h3, if_pos (show (4 : Int32) ≤ nI i from nI_le (a := 4) (by omega) (by omega))]
  | succ d ih =>
    intro i n hi hn
    obtain ⟨n, rfl⟩ : ∃ m, n = m + 1 := ⟨n - 1, by omega⟩
    rw [f_X0_leaveWhoCameBy_2, cs_f q, cs_h0 q, bnd_e, cs_s q, h3, if_neg (show ¬ (4 : Int32) ≤ nI i from nI_ge (a := i) (b := 4) (by omega) (by decide)), f_has9 _ (by omega), obd_s, h7, b_0, if_neg (show ¬ false = true by decide), if_pos rfl, nI_1, bnd_e, ih _ _ (by omega) (by omega)]
set_option maxHeartbeats 1000000 in
theorem op44_c {hd v w : Nat} (hh : 1 ≤ hd ∧ hd ≤ 20) (hv : v < 4) (hw : w < 5) : ∃ M', f_X9_timed 59999 0 (nI hd) (nI v) (nI w) Mf = some (ctm w, M') ∧ mN Mf ≤ mN M' ∧ ∀ o, 120 ≤ o → o < 131 → M'.1.2.1 o = Mf.1.2.1 o ∧ (∀ b, mR M' o b = mR Mf o b) ∧ ∀ b, mI M' o b = mI Mf o b := by
  have v0 : ∀ v, v < 16 → xR Sf 0 v = 0 := fun v hv => Sf_0 (by unfold vk; omega) (by decide) (by decide) (by decide) (by decide)
  obtain ⟨M1, e1, p1, f1⟩ := Mf_copy
  have x1 := Mf_XT.fr f1
  have q1 := p1.1
  have O1 := Mf_O f1
  have r4 : mR M1 0 4 = 112 := by
    rw [f1.2.2.1 0 4 (by have := Mf_XT.2.2.2.2; omega) (by decide)]; exact fR04
  have c112 : isO M1 0 112 := by
    have := Mf_XT.2.2.2.2
    have h := io_f (i := 112) (c := 0) (by decide) (by decide)
    refine ⟨by have := O1.1; omega, ?_⟩
    rw [mC, f1.2.1 112 (by omega)]; exact h.2
  have i7 := p1.in0 (fun v hv => by rw [v0 v hv]; decide)
  have i10 : mI M1 64 10 = 0 := by
    have := p1.tot
    rw [Sf_fl] at this
    exact this
  have i3 : mI M1 1 3 = 4 := p1.2.2.2.2.2.1
  generalize hA : sI (sI (sI M1 112 1 (300 : Int32)) 112 2 (-1 : Int32)) 112 3 (0 : Int32) = MA
  generalize hB : sI MA 64 11 (0 : Int32) = MB
  generalize hC : sI MB 112 2 (-1 : Int32) = MC
  generalize hD : sI MC 112 3 (1 : Int32) = MD
  generalize hE : sI MD 112 1 (0 : Int32) = ME
  have sA : MA.1 = M1.1 := by rw [← hA]; rfl
  have sB : MB.1 = M1.1 := by rw [← hB]; exact sA
  have sC : MC.1 = M1.1 := by rw [← hC]; exact sB
  have sD : MD.1 = M1.1 := by rw [← hD]; exact sC
  have sE : ME.1 = M1.1 := by rw [← hE]; exact sD
  have oA : ∀ o, o ≠ 112 → ∀ b, mI MA o b = mI M1 o b := fun o n b => by rw [← hA, mI_o _ _ _ _ _ n, mI_o _ _ _ _ _ n, mI_o _ _ _ _ _ n]
  have oB : ∀ o, o ≠ 112 → ∀ b, ¬ (o = 64 ∧ b = 11) → mI MB o b = mI M1 o b := fun o n b n2 => by
    rw [← hB, mI_sI, if_neg n2, oA _ n]
  have oC : ∀ o, o ≠ 112 → ∀ b, ¬ (o = 64 ∧ b = 11) → mI MC o b = mI M1 o b := fun o n b n2 => by rw [← hC, mI_o _ _ _ _ _ n, oB _ n _ n2]
  have oD : ∀ o, o ≠ 112 → ∀ b, ¬ (o = 64 ∧ b = 11) → mI MD o b = mI M1 o b := fun o n b n2 => by rw [← hD, mI_o _ _ _ _ _ n, oC _ n _ n2]
  have oE : ∀ o, o ≠ 112 → ∀ b, ¬ (o = 64 ∧ b = 11) → mI ME o b = mI M1 o b := fun o n b n2 => by rw [← hE, mI_o _ _ _ _ _ n, oD _ n _ n2]
  have a1 : mI MA 112 1 = 300 := by rw [← hA, mI_n _ _ _ _ (by decide), mI_n _ _ _ _ (by decide), mI_s]
  have b2 : mI MB 112 2 = -1 := by rw [← hB, mI_o _ _ _ _ _ (by decide), ← hA, mI_n _ _ _ _ (by decide), mI_s]
  have c3 : mI MC 112 3 = 0 := by rw [← hC, mI_n _ _ _ _ (by decide), ← hB, mI_o _ _ _ _ _ (by decide), ← hA, mI_s]
  have E1 : mI ME 112 1 = 0 := by rw [← hE, mI_s]
  have E2 : mI ME 112 2 = -1 := by rw [← hE, mI_n _ _ _ _ (by decide), ← hD, mI_n _ _ _ _ (by decide), ← hC, mI_s]
  have E3 : mI ME 112 3 = 1 := by rw [← hE, mI_n _ _ _ _ (by decide), ← hD, mI_s]
  have tr : ∀ {M : Mem}, M.1 = M1.1 → (∀ c o, isO M1 c o → isO M c o) ∧ (∀ a b, mR M a b = mR M1 a b) := fun e => by
    refine ⟨fun c o z => ?_, fun a b => ?_⟩
    · unfold isO mN mC at *
      rw [e]; exact z
    · unfold mR; rw [e]
  have lw := lw_l (M := MB) (q1.e sB) (by rw [oB 1 (by decide) _ (by decide)]; exact i3) (by rw [oB 63 (by decide) _ (by decide)]; exact i7) ((0 : Int32) - nI hd) 4 0 59998 (by decide) (by decide)
  have run : f_X0_run 59999 112 63 (nI hd) M1 = some ME := by
    rw [f_X0_run, chk_t c112, bnd_e, bnd_e, hA, bnd_e, show (59999 : Nat) = 59998 + 1 from rfl, f_X0_run_19, if_neg (show ¬ (300 : Int32) ≤ 0 by decide), chk_t ((tr sA).1 _ _ c112), a1, if_pos rfl, cs_f (q1.e sA), oA 63 (by decide), bnd_e, cs_h1 (q1.e sA), bnd_e, cs_p (q1.e sA), hB, bnd_e, f_X0_leaveWhoCameBy, show f_X0_leaveWhoCameBy_2 59998 63 ((0 : Int32) - nI hd) 0 MB = some MB from lw, obd_s, if_pos (show (0 : Int32) < 9 by decide), bnd_e, show (59998 : Nat) = 59997 + 1 from rfl, f_X0_run_66, if_pos (show (0 : Int32) < 1 by decide), cs_f (q1.e sB), oB 63 (by decide) _ (by decide), if_pos (Int32.le_refl _), chk_t ((tr sB).1 _ _ c112), f_X0_run_107, chk_t ((tr sB).1 _ _ c112), b2, hC, bnd_e, chk_t ((tr sC).1 _ _ c112), cs_f (q1.e sC), oC 63 (by decide) _ (by decide), i7, if_pos rfl, f_X0_run_127, chk_t ((tr sC).1 _ _ c112), c3, show (0 : Int32) + (1 : Int32) = 1 from rfl, hD, bnd_e, cs_f (q1.e sD), oD 63 (by decide) _ (by decide), i7, if_pos rfl, cs_h1 (q1.e sD), bnd_e, cs_p (q1.e sD), show 63 + 1 = 64 from rfl, oD 64 (by decide) _ (by decide), i10, if_pos rfl, chk_t ((tr sD).1 _ _ c112), hE, bnd_e, bnd_e, f_X0_run_19, if_neg (by decide), chk_t ((tr sE).1 _ _ c112), E1, if_neg (by decide)]
  have xE : XT ME := by
    obtain ⟨y1, y2, y3, y4, y5⟩ := x1
    refine ⟨(tr sE).1 _ _ y1, by rw [(tr sE).2]; exact y2, by rw [(tr sE).2]; exact y3, by rw [(tr sE).2]; exact y4, ?_⟩
    unfold mN at *
    rw [sE]; exact y5
  have m14 : ∀ o, o < 63 → ∀ b, mI M1 o b = mI Mf o b := fun o ho b => f1.2.2.2.1 o (by have := Mf_XT.2.2.2.2; omega) (by omega) (by show o ≠ mR Mf 64 5; rw [(Mf_57r (i := 5) (by decide) (by decide)).2]; omega) (by show o ≠ mR Mf 64 6; rw [(Mf_57r (i := 6) (by decide) (by decide)).2]; omega) (by show o ≠ mR Mf 64 7; rw [(Mf_57r (i := 7) (by decide) (by decide)).2]; omega) b
  have hf := Mf_HV
  have q14 : CS M1 14 := by
    have c := hf.1
    have hN := Mf_XT.2.2.2.2
    refine ⟨fun i hi hn => ?_, fun q hq => ?_, ?_, q1.2.2.2.1, c.2.2.2.2.1, c.2.2.2.2.2.1, x1.2.2.2.2⟩
    · rw [f1.2.1 (14 + i) (by omega)]; exact c.1 i hi hn
    · have hb : ∀ z, z ∈ tH → z.1 < 49 := by decide
      have hb' := hb q hq
      rw [f1.2.2.1 (14 + q.1) q.2.1 (by omega) (by omega)]
      exact c.2.1 q hq
    · rw [f1.2.2.1 14 0 (by omega) (by omega)]; exact c.2.2.1
  have j7 : mI ME 14 7 = 0 := by
    rw [oE 14 (by decide) _ (by decide), m14 14 (by decide)]
    exact hf.in0 (fun v hv => by rw [v0 v hv]; decide)
  have j11 : mI ME 14 11 = mI ME 63 11 := by
    rw [oE 14 (by decide) _ (by decide), m14 14 (by decide), oE 63 (by decide) _ (by decide), hf.gs (b := 11) (j := 0) (by decide), p1.gs (b := 11) (j := 0) (by decide)]
  have jp : mI ME (63 + 17 + 2 * v) 11 = mI ME (14 + 17 + 2 * v) 11 := by
    rw [oE (63 + 17 + 2 * v) (by omega) 11 (by omega), oE (14 + 17 + 2 * v) (by omega) 11 (by omega), m14 (14 + 17 + 2 * v) (by omega), p1.fs (v := v) (by omega) (a := 11) (k := 12) (by decide), hf.fs (v := v) (by omega) (a := 11) (k := 12) (by decide)]
  refine ⟨ME, ?_, ?_, fun o h1 h2 => ?_⟩
  · have w4 : nI w ≤ (4 : Int32) := nI_le (b := 4) (by omega) (by decide)
    rw [f_X9_timed, if_neg (show ¬ nI hd < (1 : Int32) from nI_nlt (b := 1) hh.1 (by omega)), if_neg (show ¬ (20 : Int32) < nI hd from nI_nlt (a := 20) hh.2 (by decide)), fc0, fR00, bnd_e, fc1, nd7v hv, obd_s, if_neg n10, if_neg (show ¬ nI w < 0 from nI_nlt (b := 0) (Nat.zero_le _) (by omega)), if_pos w4, fR03, bnd_e, fc63, fR02, bnd_e, fc14, e1, obd_s, chk_t x1.1, r4, bnd_e, chk_t c112, x1.2.2.2.1, bnd_e, cs_f q1, run, obd_s]
    unfold ctm
    rcases (show w = 0 ∨ w = 1 ∨ w = 2 ∨ w = 3 ∨ w = 4 by omega) with rfl | rfl | rfl | rfl | rfl
    · rw [if_pos (show nI 0 = (0 : Int32) from rfl), if_pos rfl, chk_t xE.1, (tr sE).2, r4, bnd_e, chk_t ((tr sE).1 _ _ c112), E1]
    · rw [if_neg (show ¬ nI 1 = (0 : Int32) by decide), if_pos (show nI 1 = (1 : Int32) from rfl), if_neg (show ¬ (1 : Nat) = 0 by decide), if_pos rfl, chk_t xE.1, xE.2.2.2.1, bnd_e, cs_f (q1.e sE), xE.2.2.1, bnd_e, cs_f (q14.e sE), j11, Int32.sub_self]
    · rw [if_neg (show ¬ nI 2 = (0 : Int32) by decide), if_neg (show ¬ nI 2 = (1 : Int32) by decide), if_pos (show nI 2 = (2 : Int32) from rfl), if_neg (show ¬ (2 : Nat) = 0 by decide), if_neg (show ¬ (2 : Nat) = 1 by decide), if_pos rfl, chk_t xE.1, (tr sE).2, r4, bnd_e, chk_t ((tr sE).1 _ _ c112), E2]
    · have v6 : v < 16 := by omega
      have fi : f_X9_firstInside 0 (nI v) ME = some (-1) := by
        rw [f_X9_firstInside, chk_t xE.1, xE.2.2.1, bnd_e, cs_f (q14.e sE), f_has9 _ (by omega), obd_s, j7, b_0, if_neg (show ¬ false = true by decide), if_pos rfl, xE.2.2.2.1, bnd_e, cs_f (q1.e sE), cs_h2 (q1.e sE), bnd_e, cs_a10 (q1.e sE), cs_i10 (q1.e sE) v6, cs_rpc (q1.e sE) v6, bnd_e, cs_po (q1.e sE) v6, bnd_e, cs_f (q14.e sE), cs_h2 (q14.e sE), bnd_e, cs_a10 (q14.e sE), cs_i10 (q14.e sE) v6, cs_rpc (q14.e sE) v6, bnd_e, cs_po (q14.e sE) v6, jp, if_pos (Int32.le_refl _), f_X9_firstInside_48, if_pos rfl]
      rw [if_neg (show ¬ nI 3 = (0 : Int32) by decide), if_neg (show ¬ nI 3 = (1 : Int32) by decide), if_neg (show ¬ nI 3 = (2 : Int32) by decide), if_pos (show nI 3 = (3 : Int32) from rfl), if_neg (show ¬ (3 : Nat) = 0 by decide), if_neg (show ¬ (3 : Nat) = 1 by decide), if_neg (show ¬ (3 : Nat) = 2 by decide), if_pos rfl, chk_t xE.1, fi, obd_s]
    · rw [if_neg (show ¬ nI 4 = (0 : Int32) by decide), if_neg (show ¬ nI 4 = (1 : Int32) by decide), if_neg (show ¬ nI 4 = (2 : Int32) by decide), if_neg (show ¬ nI 4 = (3 : Int32) by decide), if_neg (show ¬ (4 : Nat) = 0 by decide), if_neg (show ¬ (4 : Nat) = 1 by decide), if_neg (show ¬ (4 : Nat) = 2 by decide), if_neg (show ¬ (4 : Nat) = 3 by decide), chk_t xE.1, (tr sE).2, r4, bnd_e, chk_t ((tr sE).1 _ _ c112), E3]
  · have := O1.1
    unfold mN at *
    rw [sE]; exact this
  · obtain ⟨z1, z2, z3, _⟩ := O1.2 o (by omega) h2
    refine ⟨by rw [sE]; exact z1, fun b => by rw [(tr sE).2]; exact z2 b, fun b => by rw [oE o (by omega) b (by omega)]; exact z3 b⟩
/-! the reference -/
theorem rs_19 {M : Mem} (h : RS M) : mR M 120 19 = 130 := h.r (by decide)
theorem rs_f19 {α : Type} {M : Mem} (h : RS M) (x : Option α) : chk (isO M 100 130) x = x := chk_t (h.io (by decide) (by decide) (by decide))
theorem rs_c19 {α : Type} {M : Mem} (h : RS M) {k : Nat} (hk : k < 16) (x : Option α) : chk (inB (nI k) (mLn M 130)) x = x := by
  refine chk_t ?_
  rw [h.ln (c := 16) (by decide) (by decide) (by decide)]; exact inB_n hk (by decide)
/-- 130 and 120's fields behind 19 are set -/
def FrT (M M' : Mem) : Prop := M'.1 = M.1 ∧ (∀ o, o ≠ 120 → o ≠ 130 → ∀ b, mI M' o b = mI M o b) ∧ ∀ b, b < 20 → mI M' 120 b = mI M 120 b
theorem RV.ft {M M' : Mem} {tw : Bool} {t : Int32} {S : St} {pb pt : List Row4} (h : RV M tw t S pb pt) (f : FrT M M') : RV M' tw t S pb pt :=
  h.cg f.1 (f.2.2 3 (by decide)) (f.2.1 121 (by decide) (by decide)) (f.2.1 123 (by decide) (by decide))
theorem z16_l {tw : Bool} {t : Int32} {S : St} {pb pt : List Row4} (v1 v2 v3 : Int32) : ∀ (d i n : Nat) (M : Mem), i + d = 16 → RV M tw t S pb pt → d + 1 ≤ n → ∃ M' n', f_X10_goClock_42 n 120 v1 v2 v3 (nI i) M = f_X10_goClock_42 (n' + 1) 120 v1 v2 v3 (nI 16) M' ∧ n ≤ n' + 1 + d ∧ FrT M M' := by
  intro d
  induction d with
  | zero =>
    intro i n M hi p hn
    exact ⟨M, n - 1, by rw [show i = 16 by omega, show n - 1 + 1 = n by omega], by omega, rfl, fun _ _ _ _ => rfl, fun _ _ => rfl⟩
  | succ d ih =>
    intro i n M hi p hn
    obtain ⟨n, rfl⟩ : ∃ m, n = m + 1 := ⟨n - 1, by omega⟩
    have fa : FrT M (sI M 130 i 0) := ⟨rfl, fun o n1 n2 b => mI_o _ _ _ _ _ n2, fun b hb => mI_o _ _ _ _ _ (by decide)⟩
    obtain ⟨M', n', e, hn', f⟩ := ih (i + 1) n (sI M 130 i 0) (by omega) (p.ft fa) (by omega)
    refine ⟨M', n', ?_, by omega, f.1, fun o n1 n2 b => (f.2.1 o n1 n2 b).trans (fa.2.1 o n1 n2 b), fun b hb => (f.2.2 b hb).trans (fa.2.2 b hb)⟩
    rw [f_X10_goClock_42, if_neg (show ¬ (16 : Int32) ≤ nI i from nI_ge (a := i) (b := 16) (by omega) (by decide)), rs_f p.1, rs_19 p.1, bnd_e, rs_f19 p.1, rs_c19 p.1 (by omega), sI_d (by omega), bnd_e, nI_1, bnd_e]
    exact e
theorem gt_l {M : Mem} {tw : Bool} {t : Int32} {S : St} {pb pt : List Row4} (p : RV M tw t S pb pt) (hN : xR S 20 0 = nI 4) (h0 : ∀ v, v < 16 → xR S 0 v = 0) (v1 v2 : Int32) (y : Option Mem) : ∀ (d i n : Nat), i + d = 4 → d + 1 ≤ n → (∀ m, n ≤ m + d + 1 → (obd (f_X10_dueLetter m 120 M) fun r9 => f_X10_goTime_53 m 120 v2 r9 M) = y) → f_X10_goTime_2 n 120 v1 v2 (nI i) M = y := by
  intro d
  induction d with
  | zero =>
    intro i n hi hn hy
    obtain ⟨n, rfl⟩ : ∃ m, n = m + 1 := ⟨n - 1, by omega⟩
    rw [f_X10_goTime_2, rs_f p.1, rs_0 p.1, bnd_e, rs_fa p.1, rs_c0 p.1, cl0, p.N hN, if_pos (nI_le (by omega) (by omega))]
    exact hy n (by omega)
  | succ d ih =>
    intro i n hi hn hy
    obtain ⟨n, rfl⟩ : ∃ m, n = m + 1 := ⟨n - 1, by omega⟩
    rw [f_X10_goTime_2, rs_f p.1, rs_0 p.1, bnd_e, rs_fa p.1, rs_c0 p.1, cl0, p.N hN, if_neg (nI_ge (by omega) (by omega)), p.get0 (by omega), obd_s, h0 i (by omega), if_neg (show ¬ (0 : Int32) = 2 by decide), nI_1, bnd_e]
    exact ih (i + 1) n (by omega) (by omega) (fun m hm => hy m (by omega))
set_option maxHeartbeats 1000000 in
theorem op44_r {M : Mem} {hd v w : Nat} (p : RV M false 0 Sf [] []) (hh : 1 ≤ hd ∧ hd ≤ 20) (hv : v < 4) (hw : w < 5) : ∃ M', f_X10_timed 59999 120 (nI hd) (nI v) (nI w) M = some (ctm w, M') := by
  have v0 : ∀ v, v < 16 → xR Sf 0 v = 0 := fun v hv => Sf_0 (by unfold vk; omega) (by decide) (by decide) (by decide) (by decide)
  have s20 := Sf_20
  have nd : f_X10_isNode 120 (nI v) M = some 1 := nd10m p.1.toRK (by
    have := p.rg (k := 20) (i := 0) (by unfold vk; omega)
    exact this.trans Sf_20.1) hv
  have ea := f_aside p.1 (n := 59999) (by decide)
  generalize hMa : cpF M 121 126 0 = Ma at ea
  have pa : RV Ma false 0 Sf [] [] := by
    have o : ∀ o, o ≠ 126 → ∀ b, mI Ma o b = mI M o b := fun o n b => by
      rw [← hMa]
      show (if o = 126 ∧ 0 ≤ b ∧ b < 10465 then M.2.1 121 b else M.2.1 o b) = M.2.1 o b
      rw [if_neg (fun z => n z.1)]
    exact p.cg (by rw [← hMa]; rfl) (o 120 (by decide) 3) (o 121 (by decide)) (o 123 (by decide))
  have g0 : mI Ma 121 9851 = 0 := (pa.rg (k := 15) (i := 0) (by unfold vk; omega)).trans (Sf_0 (by unfold vk; omega) (by decide) (by decide) (by decide) (by decide))
  have gl : ∀ {M' : Mem} {t : Int32}, RV M' false t Sf [] [] → mI M' 121 850 = 0 := fun p => by
    have := p.2.2.2.2.1.1
    rw [Sf_fl] at this
    exact this
  obtain ⟨M1, n1, e1, hn1, f1⟩ := z16_l (tw := false) (t := 0) (S := Sf) (pb := []) (pt := []) (nI hd) (nI v) 0 16 0 59998 Ma rfl pa (by decide)
  have p1 := pa.ft f1
  generalize hA : sI M1 120 22 (-1 : Int32) = MA
  have fA : FrT M1 MA := by rw [← hA]; exact ⟨rfl, fun o n _ b => mI_o _ _ _ _ _ n, fun b hb => mI_n _ _ _ _ (by omega)⟩
  have pA := p1.ft fA
  generalize hB : sI (sI (sI (sI MA 120 23 (-1 : Int32)) 120 24 (0 : Int32)) 120 20 (300 : Int32)) 120 3 (0 : Int32) = MB
  have iB : ∀ o, o ≠ 120 → ∀ b, mI MB o b = mI MA o b := fun o n b => by rw [← hB, mI_o _ _ _ _ _ n, mI_o _ _ _ _ _ n, mI_o _ _ _ _ _ n, mI_o _ _ _ _ _ n]
  have sB : MB.1 = MA.1 := by rw [← hB]; rfl
  have b3 : mI MB 120 3 = 0 := by rw [← hB, mI_s]
  have b20 : mI MB 120 20 = 300 := by rw [← hB, mI_n _ _ _ _ (by decide), mI_s]
  have b24 : mI MB 120 24 = 0 := by rw [← hB, mI_n _ _ _ _ (by decide), mI_n _ _ _ _ (by decide), mI_s]
  have b23 : mI MB 120 23 = -1 := by rw [← hB, mI_n _ _ _ _ (by decide), mI_n _ _ _ _ (by decide), mI_n _ _ _ _ (by decide), mI_s]
  have b22 : mI MB 120 22 = -1 := by rw [← hB, mI_n _ _ _ _ (by decide), mI_n _ _ _ _ (by decide), mI_n _ _ _ _ (by decide), mI_n _ _ _ _ (by decide), ← hA, mI_s]
  have pB : RV MB false 0 Sf [] [] := pA.cg sB (by rw [b3]; exact pA.2.1.symm) (iB 121 (by decide)) (iB 123 (by decide))
  have ins : ∀ {M' : Mem} {n : Nat}, RV M' false 0 Sf [] [] → 40 ≤ n → f_X10_insides n 120 M' = some 0 := fun {M'} {n} p hn => by
    obtain ⟨y, ey, hy⟩ := p.insd (N := 4) s20.1 (by decide) hn
    have : y = 0 := by
      rw [bt_z]
      intro i hi
      rw [hy i hi]
      by_cases c : i < 4
      · rw [v0 i (by omega)]; simp
      · simp [c]
    rw [ey, this]
  generalize hC : sI MB 120 24 (1 : Int32) = MC
  have pC : RV MC false 0 Sf [] [] := pB.cg (by rw [← hC]; rfl) (by rw [← hC, mI_n _ _ _ _ (by decide)]) (fun b => by rw [← hC, mI_o _ _ _ _ _ (by decide)]) (fun b => by rw [← hC, mI_o _ _ _ _ _ (by decide)])
  have due : ∀ m, 1 ≤ m → f_X10_dueLetter m 120 MB = some (-1) := fun m hm => by
    obtain ⟨m, rfl⟩ : ∃ k, m = k + 1 := ⟨m - 1, by omega⟩
    rw [f_X10_dueLetter, f_X10_dueLetter_6, rs_f pB.1, rs_0 pB.1, bnd_e, rs_fa pB.1, show (850 : Int32) = nI 850 from rfl, rs_c pB.1 (by decide), cl_n (by decide), gl pB, if_pos (by decide)]
  have gT : ∀ n, 100 ≤ n → f_X10_goTime n 120 (nI hd) (nI v) MB = some MC := fun n hn => by
    rw [f_X10_goTime]
    refine gt_l pB s20.1 v0 (nI hd) (nI v) (some MC) 4 0 n rfl (by omega) (fun m hm => ?_)
    obtain ⟨m, rfl⟩ : ∃ k, m = k + 1 := ⟨m - 1, by omega⟩
    rw [due _ (by omega), obd_s, f_X10_goTime_53, if_pos rfl, rs_f pB.1, ins pB (by omega), obd_s, if_pos rfl, b24, show (0 : Int32) + 1 = 1 from rfl, hC, bnd_e]
  have c3 : mI MC 120 3 = 0 := by rw [← hC, mI_n _ _ _ _ (by decide)]; exact b3
  generalize hD : sI (sI MC 120 20 (0 : Int32)) 120 3 (1 : Int32) = MD
  have sD : MD.1 = MC.1 := by rw [← hD]; rfl
  have iD : ∀ o, o ≠ 120 → ∀ b, mI MD o b = mI MC o b := fun o n b => by rw [← hD, mI_o _ _ _ _ _ n, mI_o _ _ _ _ _ n]
  have d20 : mI MD 120 20 = 0 := by rw [← hD, mI_n _ _ _ _ (by decide), mI_s]
  have d3 : mI MD 120 3 = 1 := by rw [← hD, mI_s]
  have SD : RS MD := pC.1.e sD
  generalize hE : sI (sI MD 120 3 (0 : Int32)) 120 21 (0 : Int32) = ME
  have sE : ME.1 = MD.1 := by rw [← hE]; rfl
  have SE : RS ME := SD.e sE
  have e9851 : mI (sI MD 120 3 (0 : Int32)) 121 9851 = 0 := by
    rw [mI_o _ _ _ _ _ (by decide), iD 121 (by decide), ← hC, mI_o _ _ _ _ _ (by decide), iB 121 (by decide), fA.2.1 121 (by decide) (by decide), f1.2.1 121 (by decide) (by decide)]
    exact g0
  have S3 : RS (sI MD 120 3 (0 : Int32)) := SD.e rfl
  have clk : ∀ n, 200 ≤ n → f_X10_goClock_104 n 120 (nI hd) (nI v) 0 MB = some ME := fun n hn => by
    obtain ⟨n, rfl⟩ : ∃ k, n = k + 2 := ⟨n - 2, by omega⟩
    rw [show n + 2 = (n + 1) + 1 from rfl, f_X10_goClock_104, rs_f pB.1, b20, b3, if_neg (by decide), gT _ (by omega), obd_s, rs_f pC.1, rs_0 pC.1, bnd_e, rs_fa pC.1, show (850 : Int32) = nI 850 from rfl, rs_c pC.1 (by decide), cl_n (by decide), gl pC, if_pos rfl, ins pC (by omega), obd_s, if_pos rfl, c3, bnd_e, mI_n _ _ _ _ (by decide), c3, show (0 : Int32) + 1 = 1 from rfl, hD, bnd_e, f_X10_goClock_104, rs_f SD, d20, d3, if_pos (by decide), bnd_e, rs_0 S3, bnd_e, rs_fa S3, show (9851 : Int32) = nI 9851 from rfl, rs_c S3 (by decide), cl_n (by decide), e9851, show (0 : Int32) - 0 = 0 from rfl, hE, bnd_e]
  have gc : f_X10_goClock 59999 120 (nI hd) (nI v) Ma = some ME := by
    rw [f_X10_goClock, rs_f pa.1, rs_0 pa.1, bnd_e, rs_fa pa.1, show (9851 : Int32) = nI 9851 from rfl, rs_c pa.1 (by decide), cl_n (by decide), g0, bnd_e, show (59999 : Nat) = 59998 + 1 from rfl, f_X10_goClock_12, rs_f pa.1, rs_0 pa.1, bnd_e, rs_fa pa.1, show (850 : Int32) = nI 850 from rfl, rs_c pa.1 (by decide), cl_n (by decide), gl pa, if_pos (by decide)]
    refine Eq.trans e1 ?_
    rw [f_X10_goClock_42, if_pos (by decide), rs_f p1.1, hA, bnd_e, pA.get0 (by omega), obd_s, v0 v (by omega), if_neg (show ¬ (0 : Int32) = 2 by decide), bnd_e, bnd_e, bnd_e, hB, bnd_e, clk n1 (by omega)]
  have eb := f_back SE (n := 59999) (by decide)
  have fin : ∀ b, mI (cpF ME 126 121 0) 120 b = mI ME 120 b := fun b => by
    show (if 120 = 121 ∧ 0 ≤ b ∧ b < 10465 then ME.2.1 126 b else ME.2.1 120 b) = ME.2.1 120 b
    rw [if_neg (by omega)]
  have SF : RS (cpF ME 126 121 0) := SE.e rfl
  have E20 : mI ME 120 20 = 0 := by rw [← hE, mI_n _ _ _ _ (by decide), mI_n _ _ _ _ (by decide)]; exact d20
  have E21 : mI ME 120 21 = 0 := by rw [← hE, mI_s]
  have oD : ∀ b, b ≠ 20 → b ≠ 3 → b ≠ 24 → b ≠ 21 → mI ME 120 b = mI MB 120 b := fun b n20 n3 n24 n21 => by
    rw [← hE, mI_n _ _ _ _ n21, mI_n _ _ _ _ n3, ← hD, mI_n _ _ _ _ n3, mI_n _ _ _ _ n20, ← hC, mI_n _ _ _ _ n24]
  have E22 : mI ME 120 22 = -1 := by rw [oD 22 (by decide) (by decide) (by decide) (by decide)]; exact b22
  have E23 : mI ME 120 23 = -1 := by rw [oD 23 (by decide) (by decide) (by decide) (by decide)]; exact b23
  have E24 : mI ME 120 24 = 1 := by rw [← hE, mI_n _ _ _ _ (by decide), mI_n _ _ _ _ (by decide), ← hD, mI_n _ _ _ _ (by decide), mI_n _ _ _ _ (by decide), ← hC, mI_s]
  refine ⟨cpF ME 126 121 0, ?_⟩
  rw [f_X10_timed, show (1 : Int32) = nI 1 from rfl, show (20 : Int32) = nI 20 from rfl, is_in3 (by decide) hh.1 hh.2, obd_s, if_neg (show ¬ (1 : Int32) = 0 by decide), rs_f p.1, nd, obd_s, if_neg (show ¬ (1 : Int32) = 0 by decide), show (4 : Int32) = nI 4 from rfl, f_isI M (show w ≤ 4 by omega) (by decide), obd_s, if_neg (show ¬ (1 : Int32) = 0 by decide), ea, obd_s, rs_f pa.1, gc, obd_s, rs_f SE, eb, obd_s]
  unfold ctm
  rcases (show w = 0 ∨ w = 1 ∨ w = 2 ∨ w = 3 ∨ w = 4 by omega) with rfl | rfl | rfl | rfl | rfl
  · rw [if_pos (show nI 0 = (0 : Int32) from rfl), if_pos rfl, rs_f SF, fin, E20]
  · rw [if_neg (show ¬ nI 1 = (0 : Int32) by decide), if_pos rfl, if_neg (show ¬ (1 : Nat) = 0 by decide), if_pos rfl, rs_f SF, fin, E21]
  · rw [if_neg (show ¬ nI 2 = (0 : Int32) by decide), if_neg (show ¬ nI 2 = nI 1 by decide), if_pos (show nI 2 = (2 : Int32) from rfl), if_neg (show ¬ (2 : Nat) = 0 by decide), if_neg (show ¬ (2 : Nat) = 1 by decide), if_pos rfl, rs_f SF, fin, E22]
  · rw [if_neg (show ¬ nI 3 = (0 : Int32) by decide), if_neg (show ¬ nI 3 = nI 1 by decide), if_neg (show ¬ nI 3 = (2 : Int32) by decide), if_pos (show nI 3 = (3 : Int32) from rfl), if_neg (show ¬ (3 : Nat) = 0 by decide), if_neg (show ¬ (3 : Nat) = 1 by decide), if_neg (show ¬ (3 : Nat) = 2 by decide), if_pos rfl, rs_f SF, fin, E23]
  · rw [if_neg (show ¬ nI 4 = (0 : Int32) by decide), if_neg (show ¬ nI 4 = nI 1 by decide), if_neg (show ¬ nI 4 = (2 : Int32) by decide), if_neg (show ¬ nI 4 = (3 : Int32) by decide), if_neg (show ¬ (4 : Nat) = 0 by decide), if_neg (show ¬ (4 : Nat) = 1 by decide), if_neg (show ¬ (4 : Nat) = 2 by decide), if_neg (show ¬ (4 : Nat) = 3 by decide), rs_f SF, fin, E24]
theorem op44 (a b c : Int32) : E (f_X9_timed 59999 0 a b c Mf) (fun M => f_X10_timed 59999 120 a b c M) = true := by
  rcases rng3 (L := 1) (N := 20) (by decide) (by decide) a with h | ⟨k, h1, h2, rfl⟩
  · refine E_mm (r := -1) (M1 := Mf) (M2 := Mf) Mf_10 ?_ ?_
    · rw [f_X9_timed]
      by_cases q : a < (1 : Int32)
      · rw [if_pos q]
      · rw [if_neg q, if_pos (show (20 : Int32) < a from gt3 (N := 20) (by decide) (h.resolve_left q))]
    · rw [f_X10_timed, show (1 : Int32) = nI 1 from rfl, show (20 : Int32) = nI 20 from rfl, is_out3 (by decide) h, obd_s, if_pos rfl]
  · have a1 : ¬ nI k < (1 : Int32) := nI_nlt (b := 1) h1 (by omega)
    have a2 : ¬ (20 : Int32) < nI k := nI_nlt (a := 20) h2 (by decide)
    have ai : ∀ M, f_X10_isIn (nI k) (1 : Int32) (20 : Int32) M = some 1 := fun M => is_in3 (L := 1) (N := 20) (by decide) h1 h2
    rcases out_in (N := 4) (by decide) b with h | ⟨v, hv, rfl⟩
    · refine E_mm (r := -1) (M1 := Mf) (M2 := Mf) Mf_10 ?_ ?_
      · rw [f_X9_timed, if_neg a1, if_neg a2, fc0, fR00, bnd_e, fc1, nd7 h, obd_s, if_pos rfl]
      · rw [f_X10_timed, ai, obd_s, if_neg n10, fc120, nd10 h, obd_s, if_pos rfl]
    · rcases out_in (N := 5) (by decide) c with h | ⟨w, hw, rfl⟩
      · refine E_mm (r := -1) (M1 := Mf) (M2 := Mf) Mf_10 ?_ ?_
        · rw [f_X9_timed, if_neg a1, if_neg a2, fc0, fR00, bnd_e, fc1, nd7v hv, obd_s, if_neg n10]
          by_cases q : c < 0
          · rw [if_pos q]
          · rw [if_neg q, if_neg (Int32.not_le.mpr (lt_of (y := 4) (N := 5) (by decide) c (h.resolve_left q)))]
        · rw [f_X10_timed, ai, obd_s, if_neg n10, fc120, nd10v hv, obd_s, if_neg n10, out_is h (lt_of (by decide)), obd_s, if_pos rfl]
      · obtain ⟨M1, e1, f1, f2⟩ := op44_c ⟨h1, h2⟩ hv hw
        have p1 := (Mf_RV false).mr f1 f2
        obtain ⟨M2, e2⟩ := op44_r p1 ⟨h1, h2⟩ hv hw
        exact E_mm (p1.1.io (i := 120) (by decide) (by decide) (by decide)) e1 e2
