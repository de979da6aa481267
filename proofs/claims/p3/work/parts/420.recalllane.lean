/-! ===== the class takes up the lanes ===== -/
def wn (t : Int32) (x : Ltr) : Ltr := (x.1, x.2.1, t)
theorem flr_mono {L L' : Nat → List Ltr} : ∀ (n a : Nat), (∀ l, a ≤ l → l < a + n → (L l).length ≤ (L' l).length) → (flr L a n).length ≤ (flr L' a n).length := by
  intro n
  induction n with
  | zero => intro a _; exact Nat.le_refl _
  | succ n ih =>
    intro a h
    rw [flr_len_s, flr_len_s]
    have := ih (a + 1) (fun l h1 h2 => h l (by omega) (by omega))
    have := h a (Nat.le_refl _) (by omega)
    omega
theorem fl_mono {S T : St} (h : ∀ l, l < 256 → (xL S l).length ≤ (xL T l).length) : (fl S).length ≤ (fl T).length := by
  have := flr_mono (L := xL S) (L' := xL T) 256 0 (fun l _ h2 => h l (by omega))
  unfold flr at this
  unfold fl
  rw [List.range_eq_range']
  exact this
/-- the lanes alone, and how many were sent, have changed -/
def QS (S S' : St) : Prop := (∀ k i, k ≠ 16 → xR S' k i = xR S k i) ∧ xW S' = xW S ∧ xE S' = xE S ∧ xT S' = xT S
theorem QS.rf (S : St) : QS S S := ⟨fun _ _ _ => rfl, rfl, rfl, rfl⟩
theorem QS.tr {S S' S'' : St} (h : QS S S') (h' : QS S' S'') : QS S S'' := ⟨fun k i n => (h'.1 k i n).trans (h.1 k i n), h'.2.1.trans h.2.1, h'.2.2.1.trans h.2.2.1, h'.2.2.2.trans h.2.2.2⟩
theorem HV.r57 {M : Mem} {X Y N : Nat} {t : Int32} {Q : Nat → Int32} {S : St} {pb pt : List Row4} (p : HV M 63 X Y t N Q S pb pt) : ∀ i, 5 ≤ i → i ≤ 7 → mR M 64 i = 63 + 2 + i ∨ 131 ≤ mR M 64 i := by
  obtain ⟨a, b, c⟩ := p.2.1.ds
  intro i h5 h7
  rcases (show i = 5 ∨ i = 6 ∨ i = 7 by omega) with rfl | rfl | rfl
  · exact a
  · exact b
  · exact c
theorem HV.rd7 {M : Mem} {X Y N : Nat} {t : Int32} {Q : Nat → Int32} {S : St} {pb pt : List Row4} (p : HV M 63 X Y t N Q S pb pt) (x : Int32) : HV (sI M 114 7 x) 63 X Y t N Q S pb pt :=
  p.at4 rfl (fun o n _ b => mI_o _ _ _ _ _ n) (p.2.2.1.cg (fun o ho b => mI_o _ _ _ _ _ (by omega)) (fun _ _ _ => rfl) rfl) rfl rfl rfl rfl
theorem FrUp.s7 (M : Mem) (x : Int32) : FrUp M (sI M 114 7 x) := FrUp.of rfl (fun o _ n b => mI_o _ _ _ _ _ n) (fun b n => mI_n _ _ _ _ n) (fun _ _ => rfl)
theorem nI_dn (k : Nat) : nI (k + 1) + (-1 : Int32) = nI k := by
  rw [← nI_1, Int32.add_assoc, show (1 : Int32) + -1 = 0 by decide, Int32.add_zero]
section
variable {X0 Y0 N : Nat} {t : Int32} {Q : Nat → Int32} {S T : St} {pb pt : List Row4} {M : Mem} {e dC : Nat}
theorem SV.pull (h : SV X0 Y0 t N Q pb pt S M e dC) {r : Nat} (h7 : mI M 114 7 = nI r) (hr : r < e) {x : Int32} (hx : mI M dC r = x) : ∃ M', f_X6_pull 114 M = some (x, M') ∧ SV X0 Y0 t N Q pb pt S M' e dC ∧ mI M' 114 7 = nI (r + 1) ∧ FrUp M M' ∧ ∀ b, mI M' dC b = mI M dC b := by
  obtain ⟨L, sx, c, p⟩ := h
  have y0 : Rdy M M dC r := ⟨rfl, rfl, fun _ => rfl, h7⟩
  obtain ⟨e1, y1⟩ := y0.p sx c hr
  rw [hx] at e1
  exact ⟨_, e1, ⟨L, sx.e y1.1, c.e y1.1 y1.2.1, p.rd7 _⟩, y1.2.2.2, FrUp.s7 _ _, y1.2.2.1⟩
theorem SV.put (h : SV X0 Y0 t N Q pb pt S M e dC) (hl : (fl S).length < 9000) {k f g : Nat} {s : Int32} (hk : k < 6) (hf : f < 16) (hg : g < 16) : ∃ M', f_X5_put 64 (nI k) (nI f) (nI g) s M = some M' ∧ SV X0 Y0 t N Q pb pt (sn t k f g s S) M' e dC ∧ mI M' 114 7 = mI M 114 7 ∧ FrUp M M' ∧ ∀ b, mI M' dC b = mI M dC b := by
  obtain ⟨L, sx, c, p⟩ := h
  obtain ⟨M', e1, p', f⟩ := p.put hl (s := s) hk hf hg
  have hN := sx.2.2.2.2
  have f' := f.up hN p.r57
  obtain ⟨c', cc⟩ := c.up hN f'
  have r5 := p.r57 5 (by decide) (by decide)
  have r6 := p.r57 6 (by decide) (by decide)
  have r7 := p.r57 7 (by decide) (by decide)
  refine ⟨M', e1, ⟨L, sx.up f', c', p'⟩, f.2.2.2.1 114 (by omega) (by omega) ?_ ?_ ?_ 7, f', cc⟩
  · show 114 ≠ mR M 64 5; omega
  · show 114 ≠ mR M 64 6; omega
  · show 114 ≠ mR M 64 7; omega
set_option maxHeartbeats 1000000 in
theorem rl_l {f g : Nat} (hf : f < 16) (hg : g < 16) (hT : (fl T).length < 9000) : ∀ (xs : List Ltr) (n : Nat) (M : Mem) (S : St) (r : Nat), SV X0 Y0 t N Q pb pt S M e dC → mI M 114 7 = nI r → (∀ i x, (xs.map encC)[i]? = some x → mI M dC (r + i) = x) → r + xs.length ≤ e → (∀ x, x ∈ xs → Lok x) → (∀ l, l < 256 → l ≠ 16 * f + g → (xL S l).length ≤ (xL T l).length) → (xL S (16 * f + g)).length + xs.length ≤ (xL T (16 * f + g)).length → xs.length < 2 ^ 31 → xs.length + 1 ≤ n → ∃ M' S', f_X6_recallLane_5 n 114 (nI f) (nI g) (nI xs.length) M = some M' ∧ SV X0 Y0 t N Q pb pt S' M' e dC ∧ mI M' 114 7 = nI (r + xs.length) ∧ FrUp M M' ∧ (∀ b, mI M' dC b = mI M dC b) ∧ QS S S' ∧ (∀ l, xL S' l = if l = 16 * f + g then xL S (16 * f + g) ++ xs.map (wn t) else xL S l) := by
  intro xs
  induction xs with
  | nil =>
    intro n M S r h h7 _ _ _ _ _ _ hn
    obtain ⟨n, rfl⟩ : ∃ m, n = m + 1 := ⟨n - 1, by omega⟩
    refine ⟨M, S, ?_, h, h7, FrUp.rf M, fun _ => rfl, QS.rf S, fun l => ?_⟩
    · rw [f_X6_recallLane_5, if_pos (by show nI 0 ≤ 0; decide)]
    · by_cases z : l = 16 * f + g
      · rw [if_pos z, z, List.map_nil, List.append_nil]
      · rw [if_neg z]
  | cons x xs ih =>
    intro n M S r h h7 hc he hx h1 h2 hs hn
    obtain ⟨n, rfl⟩ : ∃ m, n = m + 1 := ⟨n - 1, by omega⟩
    rw [List.length_cons] at he h2 hs hn
    obtain ⟨⟨k, hk, ek⟩, ⟨s, hsl, es⟩⟩ := hx x (by simp)
    obtain ⟨M1, e1, v1, r1, f1, c1⟩ := h.pull h7 (by omega) (hc 0 (encC x) rfl)
    have hl : (fl S).length < 9000 := by
      have := fl_mono (S := S) (T := T) (fun l hl => by
        by_cases z : l = 16 * f + g
        · rw [z]; omega
        · exact h1 l hl z)
      omega
    obtain ⟨M2, e2, v2, r2, f2, c2⟩ := v1.put hl (k := k) (f := f) (g := g) (s := nI s) hk hf hg
    have kind : encC x &&& (7 : Int32) = nI k := encC_kind (by omega) ek
    have stp : encC x >>> ((3 : Int32) &&& 31) = nI s := encC_stamp (by omega) ek (by omega) es
    obtain ⟨M3, S3, e3, v3, r3, f3, c3, q3, l3⟩ := ih n M2 (sn t k f g (nI s) S) (r + 1) v2 (r2.trans r1) (fun i y hy => by
        have := hc (i + 1) y hy
        rw [c2, c1, show r + 1 + i = r + (i + 1) by omega]; exact this) (by omega) (fun y hy => hx y (List.mem_cons_of_mem _ hy)) (fun l hl z => by rw [sn_L, if_neg z]; exact h1 l hl z) (by rw [sn_L, if_pos rfl, List.length_append]; show _ + 1 + _ ≤ _; omega) (by omega) (by omega)
    refine ⟨M3, S3, ?_, v3, by rw [r3, List.length_cons, show r + 1 + xs.length = r + (xs.length + 1) by omega], f1.tr (f2.tr f3), fun b => by rw [c3, c2, c1], (show QS S (sn t k f g (nI s) S) from ⟨fun a b n => sn_R _ _ _ _ _ _ n, rfl, rfl, rfl⟩).tr q3, fun l => ?_⟩
    · obtain ⟨L, sx, c, p⟩ := id h
      obtain ⟨L1, sx1, cc1, p1⟩ := id v1
      have q1 := p1.1
      rw [f_X6_recallLane_5, List.length_cons, if_neg (show ¬ nI (xs.length + 1) ≤ 0 from (show ¬ nI (xs.length + 1) ≤ nI 0 from nI_ge (by omega) (by omega))), chk_t sx.1, e1, obd2_s, chk_t sx1.1, sx1.2.1.1, bnd_e, cs_f q1, cs_h1 q1, bnd_e, cs_p q1, f_X5_kindOf, kind, obd_s, f_X5_stampOf, stp, obd_s, show f_X5_put (63 + 1) (nI k) (nI f) (nI g) (nI s) M1 = some M2 from e2, obd_s, nI_dn, bnd_e]
      exact e3
    · rw [l3]
      by_cases z : l = 16 * f + g
      · rw [if_pos z, if_pos z, sn_L, if_pos rfl, List.map_cons, List.append_assoc]
        have : wn t x = (nI k, nI s, t) := by unfold wn; rw [ek, es]
        rw [this]; rfl
      · rw [if_neg z, if_neg z, sn_L, if_neg z]
theorem SV.rlane (h : SV X0 Y0 t N Q pb pt S M e dC) {r f g n : Nat} (h7 : mI M 114 7 = nI r) (hf : f < 16) (hg : g < 16) (hT : (fl T).length < 9000) (hc : ∀ i x, (serL T (16 * f + g))[i]? = some x → mI M dC (r + i) = x) (he : r + (serL T (16 * f + g)).length ≤ e) (hx : ∀ x, x ∈ xL T (16 * f + g) → Lok x) (h1 : ∀ l, l < 256 → l ≠ 16 * f + g → (xL S l).length ≤ (xL T l).length) (h2 : xL S (16 * f + g) = []) (hn : 9100 ≤ n) : ∃ M' S', f_X6_recallLane n 114 (nI f) (nI g) M = some M' ∧ SV X0 Y0 t N Q pb pt S' M' e dC ∧ mI M' 114 7 = nI (r + (serL T (16 * f + g)).length) ∧ FrUp M M' ∧ (∀ b, mI M' dC b = mI M dC b) ∧ QS S S' ∧ (∀ l, xL S' l = if l = 16 * f + g then (xL T (16 * f + g)).map (wn t) else xL S l) := by
  have hln := ln_l (S := T) (l := 16 * f + g) (by omega) (by omega)
  have el : (serL T (16 * f + g)).length = (xL T (16 * f + g)).length + 1 := by unfold serL; rw [List.length_cons, List.length_map]
  rw [el] at he ⊢
  obtain ⟨M1, e1, v1, r1, f1, c1⟩ := h.pull h7 (by omega) (hc 0 _ rfl)
  obtain ⟨M3, S3, e3, v3, r3, f3, c3, q3, l3⟩ := rl_l (T := T) hf hg hT (xL T (16 * f + g)) n M1 S (r + 1) v1 r1 (fun i y hy => by
    have := hc (i + 1) y hy
    rw [c1, show r + 1 + i = r + (i + 1) by omega]; exact this) (by omega) hx h1 (by rw [h2, List.length_nil]; omega) (by omega) (by omega)
  refine ⟨M3, S3, ?_, v3, by rw [r3]; congr 1; omega, f1.tr f3, fun b => by rw [c3, c1], q3, fun l => ?_⟩
  · obtain ⟨L, sx, c, p⟩ := id h
    rw [f_X6_recallLane, chk_t sx.1, e1, obd2_s]
    exact e3
  · rw [l3, h2, List.nil_append]
end
