/-! ===== a clock: what is due grows less ===== -/
/-- lanes are longer at most, by letters of that time -/
def LN (t : Int32) (S S' : St) : Prop := ∀ l, ∃ ys, xL S' l = xL S l ++ ys ∧ ∀ y : Ltr, y ∈ ys → y.2.2 = t
theorem LN.eq {t : Int32} {S S' : St} (h : xL S' = xL S) : LN t S S' := fun l => ⟨[], by rw [h, List.append_nil], fun y hy => by cases hy⟩
theorem LN.rf (t : Int32) (S : St) : LN t S S := LN.eq rfl
theorem LN.tr {t : Int32} {S S' S'' : St} (h : LN t S S') (h' : LN t S' S'') : LN t S S'' := fun l => by
  obtain ⟨a, e, p⟩ := h l
  obtain ⟨b, e', p'⟩ := h' l
  refine ⟨a ++ b, by rw [e', e, List.append_assoc], fun y hy => ?_⟩
  rcases List.mem_append.mp hy with z | z
  · exact p y z
  · exact p' y z
theorem LN.tsn {t : Int32} {k f g : Nat} {s : Int32} {S : St} : LN t S (sn t k f g s S) := fun l => by
  rw [sn_L]
  by_cases c : l = 16 * f + g
  · rw [if_pos c, c]
    exact ⟨[(nI k, s, t)], rfl, fun y hy => by rw [List.mem_singleton] at hy; rw [hy]⟩
  · rw [if_neg c]
    exact ⟨[], (List.append_nil _).symm, fun y hy => by cases hy⟩
theorem LN.tsAl {t : Int32} {k f : Nat} {set s : Int32} : ∀ (ws : List Nat) (S : St), LN t S (sAl t k f set s ws S) := by
  intro ws
  induction ws with
  | nil => intro S; exact LN.rf t S
  | cons w ws ih =>
    intro S
    have e : sAl t k f set s (w :: ws) S = sAl t k f set s ws (if bt set w then (sn t k f w s S) else S) := by
      unfold sAl
      rw [List.foldl_cons]
    rw [e]
    refine LN.tr ?_ (ih _)
    split
    · exact LN.tsn
    · exact LN.rf t S
theorem LN.tgF {t : Int32} {a : Nat} {S : St} : LN t S (gF t a S) := by
  unfold gF
  split
  · exact LN.eq rfl
  · exact LN.tr (LN.eq rfl) LN.tsn
theorem LN.trq3 {t : Int32} {a : Nat} {S : St} : LN t S (rq3 t a S) := by
  unfold rq3
  split
  · exact LN.rf t S
  · exact LN.tr (LN.eq rfl) LN.tsn
theorem LN.trq2 {t : Int32} {a : Nat} {S : St} : ∀ old : List Wtr, LN t S (rq2 t a old S) := by
  intro old
  cases old with
  | nil => exact LN.rf t S
  | cons w r =>
    show LN t S (if ahd w.2 (nI w.1) (xR S 9 a) (xR S 8 a) then _ else S)
    split
    · exact LN.tsn
    · exact LN.rf t S
theorem LN.trq {t : Int32} {a v : Nat} {s : Int32} {S : St} : LN t S (rq t a v s S) := by
  unfold rq
  split
  · exact LN.tr (LN.eq rfl) LN.tgF
  · split
    · exact LN.tr (S' := uW S a (ins v s (xW S a))) (LN.eq rfl) (LN.tr (LN.trq2 _) LN.trq3)
    · exact LN.tr (LN.eq rfl) LN.tsn
theorem LN.tyl {t : Int32} {a v : Nat} {s : Int32} {S : St} : LN t S (yl t a v s S) := by
  unfold yl
  split
  · exact LN.tr (LN.eq rfl) LN.tgF
  · exact LN.rf t S
theorem LN.trl {t : Int32} {a v : Nat} {s : Int32} {S : St} : LN t S (rl t a v s S) := by
  unfold rl
  split
  · exact LN.tgF
  · exact LN.eq rfl
theorem LN.tyT {t : Int32} {v a : Nat} {S : St} : LN t S (yT t v a S) := by
  unfold yT
  simp only []
  exact LN.tr LN.tsn (LN.eq rfl)
theorem LN.tfdl {t : Int32} {v : Nat} {d : Int32} : ∀ (ws : List Nat) (S : St), LN t S (fdl t v d ws S) := by
  intro ws
  induction ws with
  | nil => intro S; exact LN.rf t S
  | cons w ws ih =>
    intro S
    have e : fdl t v d (w :: ws) S = fdl t v d ws (if bt d w then yT t v w S else S) := by
      unfold fdl
      rw [List.foldl_cons]
    rw [e]
    refine LN.tr ?_ (ih _)
    split
    · exact LN.tyT
    · exact LN.rf t S
theorem LN.tfd {t : Int32} {N v a : Nat} {S : St} : LN t S (fd t N v a S) := by
  unfold fd
  exact LN.tr (S' := uR S 6 v (bon (xR S 6 v) a)) (LN.eq rfl) (LN.tr (LN.tfdl _ _) (LN.eq rfl))
theorem LN.tiq {t : Int32} {v a : Nat} {S : St} : LN t S (iq t v a S) := by
  unfold iq
  split
  · split
    · exact LN.eq rfl
    · exact LN.tyT
  · exact LN.rf t S
theorem LN.trd {t s : Int32} {N k f g : Nat} {S : St} : LN t S (rd t N k f g s S) := by
  unfold rd
  simp only []
  have h : LN t S (if s ≤ xR S 1 g then S else uR S 1 g s) := by
    split
    · exact LN.rf t S
    · exact LN.eq rfl
  generalize (if s ≤ xR S 1 g then S else uR S 1 g s) = S1 at h ⊢
  refine LN.tr h ?_
  split
  · exact LN.trq
  · split
    · exact LN.tyl
    · split
      · exact LN.trl
      · split
        · split
          · exact LN.eq gr_WL.2
          · split
            · exact LN.tfd
            · exact LN.tiq
        · exact LN.rf t S1
/-- whether a letter is due -/
def due (t : Int32) (dl : Nat → Int32) (l : Nat) (x : Ltr) : Bool := !decide (t < x.2.2 + dl l)
def cnt (t : Int32) (dl : Nat → Int32) (S : St) : Nat := smN (fun l => ((xL S l).filter (due t dl l)).length) 256
theorem cnt_LN {t : Int32} {dl : Nat → Int32} {S S' : St} (h : LN t S S') (hd : ∀ l, l < 256 → t < t + dl l) : cnt t dl S' = cnt t dl S := by
  refine smN_c 256 (fun l hl => ?_)
  obtain ⟨ys, e, p⟩ := h l
  show ((xL S' l).filter (due t dl l)).length = ((xL S l).filter (due t dl l)).length
  rw [e, List.filter_append]
  have : ys.filter (due t dl l) = [] := by
    rw [List.filter_eq_nil_iff]
    intro y hy
    unfold due
    rw [p y hy, decide_eq_true (hd l hl)]
    decide
  rw [this, List.append_nil]
theorem cnt_br {t : Int32} {dl : Nat → Int32} {S : St} {N f g : Nat} {x : Ltr} {r : List Ltr} (hl : 16 * f + g < 256) (hx : xL S (16 * f + g) = x :: r) (hd : ∀ l, l < 256 → t < t + dl l) (du : due t dl (16 * f + g) x = true) : cnt t dl (br t N f g S) + 1 = cnt t dl S := by
  have e : br t N f g S = rd t N x.1.toNatClampNeg f g x.2.1 (wt N x.1.toNatClampNeg f g x.2.1 (uL S (16 * f + g) r)) := by
    unfold br
    rw [hx]
  have h1 : LN t (uL S (16 * f + g) r) (br t N f g S) := by
    rw [e]
    exact LN.tr (LN.eq (wt_WL _ _ _ _ _ _).2) LN.trd
  rw [cnt_LN h1 hd]
  have h2 := smN_at (f := fun l => ((xL (uL S (16 * f + g) r) l).filter (due t dl l)).length) (g := fun l => ((xL S l).filter (due t dl l)).length) 256 hl (fun l _ n => by
    show ((xL (uL S (16 * f + g) r) l).filter (due t dl l)).length = ((xL S l).filter (due t dl l)).length
    rw [xL_uL, if_neg n])
  have e1 : ((xL (uL S (16 * f + g) r) (16 * f + g)).filter (due t dl (16 * f + g))).length + 1 = ((xL S (16 * f + g)).filter (due t dl (16 * f + g))).length := by
    rw [xL_uL, if_pos rfl, hx, List.filter_cons, if_pos du, List.length_cons]
  show smN _ 256 + 1 = smN _ 256
  omega
theorem fl_smN (L : Nat → List Ltr) : ∀ n, (flr L 0 n).length = smN (fun l => (L l).length) n := by
  intro n
  induction n with
  | zero => rfl
  | succ n ih =>
    have := flr_len_ap L n 0 1
    rw [this, ih, flr_len_s]
    show _ = smN _ n + (L n).length
    rw [Nat.zero_add]
    rfl
theorem cnt_le (t : Int32) (dl : Nat → Int32) (S : St) : cnt t dl S ≤ (fl S).length := by
  rw [fl_r, fl_smN]
  exact smN_le 256 (fun l _ => List.length_filter_le _ _)
section
variable {N A : Nat} {P : Nat → Nat} {S0 S : St}
theorem GI.tb (h : GI N A P S0 S) (h16 : N ≤ 16) (hA : A < 1048576) {f g : Nat} (h2 : f < N) (h3 : g < N) (t : Int32) : GI N A P S0 (br t N f g S) := by
  obtain ⟨hI, hX, hZ, hP, hR⟩ := h
  obtain ⟨x1, x2⟩ := br_X hI h16 hA hX h2 h3 t
  have kk : Qk S (br t N f g S) := fun k z i => (Kq.tbr S t N f g).1 k i z
  refine ⟨hI.tbr h16 hA h2 h3 t, x1, hZ.tbr hI h16 h2 h3 t, fun a ha => Nat.le_trans (x2 a ha) (hP a ha), fun k i hk => ?_⟩
  rcases hk with rfl | hk
  · rw [kk 7 (by omega)]; exact hR 7 i (by omega)
  · rw [br_19 (by omega)]; exact hR k i (by omega)
theorem GI.tl (h : GI N A P S0 S) (h16 : N ≤ 16) {v : Nat} (h3 : v < N) (h4 : xR S 0 v = 2) (t : Int32) : GI N A P S0 (lv t N v S) := by
  obtain ⟨hI, hX, hZ, hP, hR⟩ := h
  have h0 : xR S 0 v ≠ 0 := by rw [h4]; decide
  obtain ⟨x1, x2⟩ := lv_X hI h16 hX h3 h0 t
  rw [if_pos h4] at x2
  exact ⟨hI.tlv h16 h3 h0 t, x1, hZ.tlv t, fun a ha => Nat.le_trans (x2 a ha) (hP a ha), fun k i hk => by rw [lv_R (by omega), if_neg (by omega)]; exact hR k i (by omega)⟩
/-- with the letters' times at 0 -/
theorem GI.tz (h : GI N A P S0 S) (h16 : N ≤ 16) : GI N A P S0 (fS 0 S S) := by
  obtain ⟨hI, hX, hZ, hP, hR⟩ := h
  have sm : Sam S (fS 0 S S) := ⟨rfl, fun _ _ _ _ => rfl⟩
  have se : SE S (fS 0 S S) := ⟨fun _ _ _ _ => rfl, fun _ _ => rfl, fun l _ => by
    show (xL S l).map lk = ((xL S l).map (wn 0)).map lk
    rw [List.map_map]
    rfl⟩
  exact ⟨hI.wn (t := 0) h16 sm (fun _ _ => rfl), se.tix h16 hX, hZ, fun a ha => by rw [← se.tPh a]; exact hP a ha, fun _ _ _ => hR _ _ ‹_›⟩
end
