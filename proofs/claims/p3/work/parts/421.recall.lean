/-! ===== the class takes up a kept state, whole ===== -/
theorem gl_lt {α : Type} {l : List α} {i : Nat} {x : α} (h : l[i]? = some x) : i < l.length := by
  rcases Nat.lt_or_ge i l.length with z | z
  · exact z
  · rw [List.getElem?_eq_none z] at h; cases h
def LM (t : Int32) (T S : St) (m : Nat) : Prop := ∀ l, l < 256 → xL S l = if l < m then (xL T l).map (wn t) else []
theorem LM.le {t : Int32} {T S : St} {m : Nat} (h : LM t T S m) {l : Nat} (hl : l < 256) : (xL S l).length ≤ (xL T l).length := by
  rw [h l hl]
  by_cases z : l < m
  · rw [if_pos z, List.length_map]; exact Nat.le_refl _
  · rw [if_neg z]; exact Nat.zero_le _
/-- what taking up T may rest on -/
def Tok (N : Nat) (T : St) : Prop := N ≤ 16 ∧ (fl T).length < 9000 ∧ (∀ l, l < 256 → ¬ (l / 16 < N ∧ l % 16 < N) → xL T l = []) ∧ (∀ l, l < 256 → ∀ x, x ∈ xL T l → Lok x) ∧ (∀ v, v < 16 → (∀ w, w ∈ xW T v → w.1 < 16) ∧ ((xW T v).map Prod.fst).Nodup ∧ (xR T 10 v = 0 ∨ xR T 10 v = 1))
section
variable {X0 Y0 N : Nat} {t : Int32} {Q : Nat → Int32} {T : St} {pb pt : List Row4} {e dC : Nat}
/-- from M with S to M' with S', from r cells on to r' -/
def RR (X0 Y0 : Nat) (t : Int32) (N : Nat) (Q : Nat → Int32) (pb pt : List Row4) (e dC : Nat) (M M' : Mem) (S' : St) (r' : Nat) : Prop := SV X0 Y0 t N Q pb pt S' M' e dC ∧ mI M' 114 7 = nI r' ∧ FrUp M M' ∧ ∀ b, mI M' dC b = mI M dC b
theorem RR.tr {M M1 M2 : Mem} {S1 S2 : St} {r1 r2 : Nat} (h : RR X0 Y0 t N Q pb pt e dC M M1 S1 r1) (h' : RR X0 Y0 t N Q pb pt e dC M1 M2 S2 r2) : RR X0 Y0 t N Q pb pt e dC M M2 S2 r2 :=
  ⟨h'.1, h'.2.1, h.2.2.1.tr h'.2.2.1, fun b => (h'.2.2.2 b).trans (h.2.2.2 b)⟩
theorem rc_101 (ok : Tok N T) (K : Nat → Int32 → Mem → Option Mem) {f : Nat} (hf : f < N) : ∀ (d j n : Nat) (M : Mem) (S : St) (r : Nat), j + d = N → SV X0 Y0 t N Q pb pt S M e dC → mI M 114 7 = nI r → (∀ i x, (serG T f (List.range' j d))[i]? = some x → mI M dC (r + i) = x) → r + (serG T f (List.range' j d)).length ≤ e → LM t T S (16 * f + j) → d + 9110 ≤ n → ∃ M' S', f_X6_recall_101 K n 114 (nI f) (bms T f) (nI j) M = K 114 (nI (f + 1)) M' ∧ RR X0 Y0 t N Q pb pt e dC M M' S' (r + (serG T f (List.range' j d)).length) ∧ QS S S' ∧ LM t T S' (16 * (f + 1)) := by
  obtain ⟨h16, hT, hz, hx, _⟩ := ok
  intro d
  induction d with
  | zero =>
    intro j n M S r hj h h7 hc he lm hn
    obtain ⟨n, rfl⟩ : ∃ m, n = m + 1 := ⟨n - 1, by omega⟩
    obtain ⟨L, sx, c, p⟩ := id h
    have q := p.1
    refine ⟨M, S, ?_, ⟨h, h7, FrUp.rf M, fun _ => rfl⟩, QS.rf S, fun l hl => ?_⟩
    · rw [f_X6_recall_101, chk_t sx.1, sx.2.1.1, bnd_e, cs_f q, cs_h0 q, bnd_e, cs_s q, p.2.2.2.2.2.1, if_pos (nI_le (by omega) (by omega)), nI_1, bnd_e]
    · rw [lm l hl]
      by_cases z : l < 16 * f + j
      · rw [if_pos z, if_pos (by omega)]
      · rw [if_neg z]
        by_cases y : l < 16 * (f + 1)
        · rw [if_pos y, hz l hl (by omega)]; rfl
        · rw [if_neg y]
  | succ d ih =>
    intro j n M S r hj h h7 hc he lm hn
    obtain ⟨n, rfl⟩ : ∃ m, n = m + 1 := ⟨n - 1, by omega⟩
    obtain ⟨L, sx, c, p⟩ := id h
    have q := p.1
    have eG : serG T f (List.range' j (d + 1)) = (if bt (bms T f) j = true then serL T (16 * f + j) else []) ++ serG T f (List.range' (j + 1) d) := by
      unfold serG
      rw [List.range'_succ, List.filter_cons]
      by_cases z : bt (bms T f) j = true
      · rw [if_pos z, if_pos z, List.flatMap_cons]
      · rw [if_neg z, if_neg z]; rfl
    rw [eG] at hc he ⊢
    have hd : ∀ y : Option Mem, (if (if bt (bms T f) j = true then (1 : Int32) else 0) = 0 then f_X6_recall_101 K n 114 (nI f) (bms T f) (nI (j + 1)) M else obd (f_X6_recallLane n 114 (nI f) (nI j) M) fun M19 => f_X6_recall_101 K n 114 (nI f) (bms T f) (nI (j + 1)) M19) = y → f_X6_recall_101 K (n + 1) 114 (nI f) (bms T f) (nI j) M = y := by
      intro y hy
      rw [f_X6_recall_101, chk_t sx.1, sx.2.1.1, bnd_e, cs_f q, cs_h0 q, bnd_e, cs_s q, p.2.2.2.2.2.1, if_neg (nI_ge (by omega) (by omega)), f_has9 _ (by omega), obd_s, nI_1, bnd_e]
      simp only [bnd_e]
      exact hy
    have b := bms_b (S := T) (f := f) (u := j) (by omega)
    by_cases z : bt (bms T f) j = true
    · rw [if_pos z] at hc he ⊢
      rw [List.length_append] at he ⊢
      obtain ⟨M1, S1, e1, v1, r1, f1, c1, q1, l1⟩ := h.rlane (T := T) (f := f) (g := j) (n := n) h7 (by omega) (by omega) hT (fun i x hi => hc i x (by rw [List.getElem?_append_left (gl_lt hi)]; exact hi)) (by omega) (hx _ (by omega)) (fun l hl _ => lm.le hl) (by rw [lm _ (by omega), if_neg (by omega)]) (by omega)
      obtain ⟨M2, S2, e2, w2, q2, l2⟩ := ih (j + 1) n M1 S1 _ (by omega) v1 r1 (fun i x hi => by
        have := hc ((serL T (16 * f + j)).length + i) x (by rw [List.getElem?_append_right (by omega), Nat.add_sub_cancel_left]; exact hi)
        rw [c1, Nat.add_assoc]; exact this) (by omega) (fun l hl => by
        rw [l1]
        by_cases y : l = 16 * f + j
        · rw [if_pos y, if_pos (by omega), y]
        · rw [if_neg y, lm l hl]
          by_cases x : l < 16 * f + j
          · rw [if_pos x, if_pos (by omega)]
          · rw [if_neg x, if_neg (by omega)]) (by omega)
      refine ⟨M2, S2, hd _ ?_, by rw [← Nat.add_assoc]; exact RR.tr ⟨v1, r1, f1, c1⟩ w2, q1.tr q2, l2⟩
      rw [if_pos z, if_neg ne10, e1, obd_s, e2]
    · rw [if_neg z, List.nil_append] at hc he ⊢
      have ez : xL T (16 * f + j) = [] := by
        by_cases y : xL T (16 * f + j) = []
        · exact y
        · rw [b] at z
          exact absurd (decide_eq_true (⟨by omega, y⟩ : j < 16 ∧ xL T (16 * f + j) ≠ [])) z
      obtain ⟨M2, S2, e2, w2, q2, l2⟩ := ih (j + 1) n M S r (by omega) h h7 hc he (fun l hl => by
        rw [lm l hl]
        by_cases x : l < 16 * f + j
        · rw [if_pos x, if_pos (by omega)]
        · rw [if_neg x]
          by_cases y : l = 16 * f + j
          · rw [if_pos (by omega), y, ez]; rfl
          · rw [if_neg (by omega)]) (by omega)
      refine ⟨M2, S2, hd _ ?_, w2, q2, l2⟩
      rw [if_neg z, if_pos rfl, e2]
theorem rc_79 (ok : Tok N T) : ∀ (d f n : Nat) (M : Mem) (S : St) (r : Nat), f + d = N → SV X0 Y0 t N Q pb pt S M e dC → mI M 114 7 = nI r → (∀ i x, ((List.range' f d).flatMap (serF N T))[i]? = some x → mI M dC (r + i) = x) → r + ((List.range' f d).flatMap (serF N T)).length ≤ e → LM t T S (16 * f) → d + N + 9200 ≤ n → ∃ M' S', f_X6_recall_79 n 114 (nI f) M = some M' ∧ RR X0 Y0 t N Q pb pt e dC M M' S' (r + ((List.range' f d).flatMap (serF N T)).length) ∧ QS S S' ∧ LM t T S' (16 * N) := by
  have h16 := ok.1
  intro d
  induction d with
  | zero =>
    intro f n M S r hj h h7 hc he lm hn
    obtain ⟨n, rfl⟩ : ∃ m, n = m + 1 := ⟨n - 1, by omega⟩
    obtain ⟨L, sx, c, p⟩ := id h
    have q := p.1
    refine ⟨M, S, ?_, ⟨h, h7, FrUp.rf M, fun _ => rfl⟩, QS.rf S, by rw [show N = f by omega]; exact lm⟩
    rw [f_X6_recall_79, chk_t sx.1, sx.2.1.1, bnd_e, cs_f q, cs_h0 q, bnd_e, cs_s q, p.2.2.2.2.2.1, if_pos (nI_le (by omega) (by omega))]
  | succ d ih =>
    intro f n M S r hj h h7 hc he lm hn
    obtain ⟨n, rfl⟩ : ∃ m, n = m + 1 := ⟨n - 1, by omega⟩
    obtain ⟨L, sx, c, p⟩ := id h
    have q := p.1
    rw [List.range'_succ, List.flatMap_cons] at hc he ⊢
    rw [List.length_append] at he ⊢
    have e0 : (serF N T f).length = 1 + (serG T f (List.range' 0 N)).length := by unfold serF; rw [List.length_cons]; omega
    obtain ⟨M1, e1, v1, r1, f1, c1⟩ := h.pull h7 (by omega) (x := bms T f) (hc 0 _ (by unfold serF; rfl))
    obtain ⟨M2, S2, e2, w2, q2, l2⟩ := rc_101 (t := t) (X0 := X0) (Y0 := Y0) (Q := Q) (pb := pb) (pt := pt) (e := e) (dC := dC) ok (f_X6_recall_79 n) (f := f) (by omega) N 0 n M1 S (r + 1) (by omega) v1 r1 (fun i x hi => by
      have := hc (i + 1) x (by
        unfold serF
        rw [List.cons_append, List.getElem?_cons_succ, List.getElem?_append_left (gl_lt hi)]
        exact hi)
      rw [c1, show r + 1 + i = r + (i + 1) by omega]; exact this) (by omega) lm (by omega)
    have w12 : RR X0 Y0 t N Q pb pt e dC M M2 S2 (r + (serF N T f).length) := by
      have := RR.tr ⟨v1, r1, f1, c1⟩ w2
      rw [e0, ← Nat.add_assoc]; exact this
    obtain ⟨M3, S3, e3, w3, q3, l3⟩ := ih (f + 1) n M2 S2 _ (by omega) w12.1 w12.2.1 (fun i x hi => by
      have := hc ((serF N T f).length + i) x (by rw [List.getElem?_append_right (by omega), Nat.add_sub_cancel_left]; exact hi)
      rw [w12.2.2.2, Nat.add_assoc]; exact this) (by omega) l2 (by omega)
    refine ⟨M3, S3, ?_, by rw [← Nat.add_assoc]; exact w12.tr w3, q2.tr q3, l3⟩
    rw [f_X6_recall_79, chk_t sx.1, sx.2.1.1, bnd_e, cs_f q, cs_h0 q, bnd_e, cs_s q, p.2.2.2.2.2.1, if_neg (nI_ge (by omega) (by omega)), e1, obd2_s]
    exact e2.trans e3
/-- the places below v are as T has them -/
def PlM (T S0 S : St) (v : Nat) : Prop := (∀ k i, k ≠ 16 → xR S k i = if i < v ∧ (1 ≤ k ∧ k ≤ 6 ∨ 8 ≤ k ∧ k ≤ 10) then xR T k i else xR S0 k i) ∧ (∀ a, xW S a = if a < v then xW T a else xW S0 a) ∧ xE S = xE S0 ∧ xT S = xT S0
theorem PlM.up {T S0 S : St} {v : Nat} (h : PlM T S0 S v) : PlM T S0 (upP S T v) (v + 1) := by
  obtain ⟨a, b, c, d⟩ := h
  refine ⟨fun k i n => ?_, fun i => ?_, c, d⟩
  · rw [upP_R]
    by_cases z : 1 ≤ k ∧ k ≤ 6 ∨ 8 ≤ k ∧ k ≤ 10
    · by_cases y : i = v
      · rw [if_pos ⟨y, z⟩, if_pos ⟨by omega, z⟩]
      · rw [if_neg (fun x => y x.1), a k i n]
        by_cases x : i < v
        · rw [if_pos ⟨x, z⟩, if_pos ⟨by omega, z⟩]
        · rw [if_neg (fun w => x w.1), if_neg (fun w => by have := w.1; omega)]
    · rw [if_neg (fun x => z x.2), a k i n, if_neg (fun x => z x.2), if_neg (fun x => z x.2)]
  · rw [upP_W]
    by_cases y : i = v
    · rw [if_pos y, if_pos (by omega), y]
    · rw [if_neg y, b i]
      by_cases x : i < v
      · rw [if_pos x, if_pos (by omega)]
      · rw [if_neg x, if_neg (by omega)]
theorem PlM.qs {T S0 S S' : St} {v : Nat} (h : PlM T S0 S v) (q : QS S S') : PlM T S0 S' v := by
  obtain ⟨a, b, c, d⟩ := h
  obtain ⟨q1, q2, q3, q4⟩ := q
  exact ⟨fun k i n => (q1 k i n).trans (a k i n), fun i => (congrFun q2 i).trans (b i), q3.trans c, q4.trans d⟩
theorem rc_34 (ok : Tok N T) {S0 : St} : ∀ (d v n : Nat) (M : Mem) (S : St) (r : Nat), v + d = N → SV X0 Y0 t N Q pb pt S M e dC → mI M 114 7 = nI r → (∀ i x, ((List.range' v d).flatMap (serP T) ++ (List.range' 0 N).flatMap (serF N T))[i]? = some x → mI M dC (r + i) = x) → r + ((List.range' v d).flatMap (serP T)).length + ((List.range' 0 N).flatMap (serF N T)).length ≤ e → PlM T S0 S v → d + 2 * N + 9300 ≤ n → ∃ M' S' r', f_X6_recall_34 n 114 (nI v) M = some M' ∧ RR X0 Y0 t N Q pb pt e dC M M' S' r' ∧ PlM T S0 S' N ∧ LM t T S' (16 * N) := by
  have h16 := ok.1
  intro d
  induction d with
  | zero =>
    intro v n M S r hj h h7 hc he pm hn
    obtain ⟨n, rfl⟩ : ∃ m, n = m + 1 := ⟨n - 1, by omega⟩
    obtain ⟨L, sx, c, p⟩ := id h
    have q := p.1
    obtain ⟨M1, e1, p1, fh⟩ := p.clear (n := n) (by omega)
    have hN := sx.2.2.2.2
    have f1 := fh.up hN p.r57
    obtain ⟨cc1, c1⟩ := c.up hN f1
    have r5 := p.r57 5 (by decide) (by decide)
    have r6 := p.r57 6 (by decide) (by decide)
    have r7 := p.r57 7 (by decide) (by decide)
    have k7 : mI M1 114 7 = nI r := by
      rw [← h7]
      refine fh.2.2.2.1 114 (by omega) (by omega) ?_ ?_ ?_ 7
      · show 114 ≠ mR M 64 5; omega
      · show 114 ≠ mR M 64 6; omega
      · show 114 ≠ mR M 64 7; omega
    have v1 : SV X0 Y0 t N Q pb pt (emL S) M1 e dC := ⟨L, sx.up f1, cc1, p1⟩
    have q0 : QS S (emL S) := ⟨fun _ _ _ => rfl, rfl, rfl, rfl⟩
    obtain ⟨M2, S2, e2, w2, q2, l2⟩ := rc_79 (t := t) (X0 := X0) (Y0 := Y0) (Q := Q) (pb := pb) (pt := pt) (e := e) (dC := dC) ok N 0 n M1 (emL S) r (by omega) v1 k7 (fun i x hi => by rw [c1]; exact hc i x hi) (by have : ((List.range' v 0).flatMap (serP T)).length = 0 := rfl; omega) (fun l _ => by rw [if_neg (by omega)]; rfl) (by omega)
    refine ⟨M2, S2, _, ?_, RR.tr ⟨v1, k7, f1, c1⟩ w2, by rw [show N = v by omega]; exact pm.qs (q0.tr q2), l2⟩
    rw [f_X6_recall_34, chk_t sx.1, sx.2.1.1, bnd_e, cs_f q, cs_h0 q, bnd_e, cs_s q, p.2.2.2.2.2.1, if_pos (nI_le (by omega) (by omega)), bnd_e, cs_f q, cs_h1 q, bnd_e, cs_p q, show f_X5_clearLanes n (63 + 1) M = some M1 from e1, obd_s]
    exact e2
  | succ d ih =>
    intro v n M S r hj h h7 hc he pm hn
    obtain ⟨n, rfl⟩ : ∃ m, n = m + 1 := ⟨n - 1, by omega⟩
    obtain ⟨L, sx, c, p⟩ := id h
    have q := p.1
    rw [List.range'_succ, List.flatMap_cons] at hc he
    rw [List.append_assoc] at hc
    rw [List.length_append] at he
    obtain ⟨w1, w2, w3⟩ := ok.2.2.2.2 v (by omega)
    obtain ⟨M1, e1, v1, r1, f1⟩ := h.rplace (T := T) (v := v) (n := n) h7 (by omega) (fun i x hi => hc i x (by rw [List.getElem?_append_left (gl_lt hi)]; exact hi)) (by omega) w1 w2 w3 (by omega)
    obtain ⟨_, c1⟩ := c.up sx.2.2.2.2 f1
    obtain ⟨M2, S2, r2, e2, w2', pm2, l2⟩ := ih (v + 1) n M1 _ _ (by omega) v1 r1 (fun i x hi => by
      have := hc ((serP T v).length + i) x (by rw [List.getElem?_append_right (by omega), Nat.add_sub_cancel_left]; exact hi)
      rw [c1, Nat.add_assoc]; exact this) (by omega) pm.up (by omega)
    refine ⟨M2, S2, r2, ?_, RR.tr ⟨v1, r1, f1, c1⟩ w2', pm2, l2⟩
    rw [f_X6_recall_34, chk_t sx.1, sx.2.1.1, bnd_e, cs_f q, cs_h0 q, bnd_e, cs_s q, p.2.2.2.2.2.1, if_neg (nI_ge (by omega) (by omega)), bnd_e, cs_f q, cs_h2 q, bnd_e, cs_a10 q, cs_i10 q (by omega), cs_rpc q (by omega), bnd_e, cs_po q (by omega), e1, obd_s, nI_1, bnd_e, e2]
end
