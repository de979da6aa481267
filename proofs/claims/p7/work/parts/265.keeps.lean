/-! ===== what a move leaves alone ===== -/
def Kp (S S' : St) : Prop := (∀ k i, k = 7 ∨ k = 17 ∨ k = 20 ∨ k = 12 → xR S' k i = xR S k i) ∧ ∀ u, xR S' 0 u = 0 → xR S 0 u = 0
theorem Kp.rf (S : St) : Kp S S := ⟨fun _ _ _ => rfl, fun _ h => h⟩
theorem Kp.tr {S S' S'' : St} (h : Kp S S') (h' : Kp S' S'') : Kp S S'' := ⟨fun k i z => (h'.1 k i z).trans (h.1 k i z), fun u z => h.2 u (h'.2 u z)⟩
theorem Kp.eq {S S' S'' : St} (h : Kp S S') (e : xR S'' = xR S') : Kp S S'' := ⟨fun k i z => by rw [e]; exact h.1 k i z, fun u z => h.2 u (by rw [← e]; exact z)⟩
theorem Kp.r (S : St) {k i : Nat} {x : Int32} (h : k ≠ 0 ∧ k ≠ 7 ∧ k ≠ 17 ∧ k ≠ 20 ∧ k ≠ 12) : Kp S (uR S k i x) := by
  refine ⟨fun k' i' z => ?_, fun u z => ?_⟩
  · rw [xR_uR, if_neg (by omega)]
  · rwa [xR_uR, if_neg (by omega)] at z
theorem Kp.tsn (S : St) (t : Int32) (k f g : Nat) (s : Int32) : Kp S (sn t k f g s S) := by
  refine ⟨fun k' i' z => ?_, fun u z => ?_⟩
  · rw [sn_R _ _ _ _ _ _ (by omega)]
  · rwa [sn_R _ _ _ _ _ _ (by omega)] at z
theorem Kp.tsAl (t : Int32) (k f : Nat) (set s : Int32) (ws : List Nat) (S : St) : Kp S (sAl t k f set s ws S) := by
  refine ⟨fun k' i' z => ?_, fun u z => ?_⟩
  · rw [sAl_R _ _ _ _ _ (by omega)]
  · rwa [sAl_R _ _ _ _ _ (by omega)] at z
theorem Kp.tnob (S : St) (a : Nat) : Kp S (nob a S) := by
  refine Kp.tr (Kp.tr (Kp.r S (k := 8) (i := a) (x := -1) (by decide)) (Kp.r _ (k := 9) (i := a) (x := 0) (by decide))) (Kp.r _ (k := 10) (i := a) (x := 0) (by decide))
theorem Kp.tgF (S : St) (t : Int32) (a : Nat) : Kp S (gF t a S) := by
  unfold gF
  split
  · exact Kp.tnob S a
  · refine Kp.tr ?_ (Kp.tsn _ _ _ _ _ _)
    refine Kp.eq (Kp.tr (Kp.tr (Kp.tnob S a) (Kp.r _ (k := 8) (i := a) (by decide))) (Kp.r _ (k := 9) (i := a) (by decide))) rfl
theorem Kp.trq3 (S : St) (t : Int32) (a : Nat) : Kp S (rq3 t a S) := by
  unfold rq3
  split
  · exact Kp.rf S
  · exact Kp.tr (Kp.r S (k := 10) (i := a) (x := 1) (by decide)) (Kp.tsn _ _ _ _ _ _)
theorem Kp.trq2 (S : St) (t : Int32) (a : Nat) (old : List Wtr) : Kp S (rq2 t a old S) := by
  cases old with
  | nil => exact Kp.rf S
  | cons w r =>
    show Kp S (if ahd w.2 (nI w.1) (xR S 9 a) (xR S 8 a) then _ else S)
    split
    · exact Kp.tsn _ _ _ _ _ _
    · exact Kp.rf S
theorem Kp.W (S : St) (a : Nat) (w : List Wtr) : Kp S (uW S a w) := Kp.eq (Kp.rf S) rfl
theorem Kp.trq (S : St) (t : Int32) (a v : Nat) (s : Int32) : Kp S (rq t a v s S) := by
  unfold rq
  split
  · exact (Kp.W S a _).tr (Kp.tgF _ _ _)
  · split
    · exact ((Kp.W S a _).tr (Kp.trq2 _ _ _ _)).tr (Kp.trq3 _ _ _)
    · exact (Kp.W S a _).tr (Kp.tsn _ _ _ _ _ _)
theorem Kp.tyl (S : St) (t : Int32) (a v : Nat) (s : Int32) : Kp S (yl t a v s S) := by
  unfold yl
  split
  · exact (Kp.W S a _).tr (Kp.tgF _ _ _)
  · exact Kp.rf S
theorem Kp.trl (S : St) (t : Int32) (a v : Nat) (s : Int32) : Kp S (rl t a v s S) := by
  unfold rl
  split
  · exact Kp.tgF _ _ _
  · exact Kp.W S a _
theorem Kp.tyT (S : St) (t : Int32) (v a : Nat) : Kp S (yT t v a S) := by
  unfold yT
  simp only []
  exact ((Kp.tsn S t 4 v a _).tr (Kp.r _ (k := 4) (i := v) (by decide))).tr (Kp.r _ (k := 6) (i := v) (by decide))
theorem Kp.tfdl (t : Int32) (v : Nat) (d : Int32) : ∀ (ws : List Nat) (S : St), Kp S (fdl t v d ws S) := by
  intro ws
  induction ws with
  | nil => intro S; exact Kp.rf S
  | cons w ws ih =>
    intro S
    have e : fdl t v d (w :: ws) S = fdl t v d ws (if bt d w then yT t v w S else S) := by
      unfold fdl
      rw [List.foldl_cons]
    rw [e]
    refine Kp.tr ?_ (ih _)
    split
    · exact Kp.tyT S t v w
    · exact Kp.rf S
theorem Kp.tfd (S : St) (t : Int32) (N v a : Nat) : Kp S (fd t N v a S) := by
  unfold fd
  exact ((Kp.r S (k := 6) (i := v) (by decide)).tr (Kp.tfdl _ _ _ _ _)).tr (Kp.r _ (k := 5) (i := v) (by decide))
theorem Kp.tiq (S : St) (t : Int32) (v a : Nat) : Kp S (iq t v a S) := by
  unfold iq
  split
  · split
    · exact Kp.r S (k := 5) (i := v) (by decide)
    · exact Kp.tyT S t v a
  · exact Kp.rf S
/-- also with an entry -/
def Kq (S S' : St) : Prop := (∀ k i, k = 7 ∨ k = 17 ∨ k = 20 → xR S' k i = xR S k i) ∧ (∀ u, xR S' 0 u = 0 → xR S 0 u = 0) ∧ ∀ u, xR S' 12 u = xR S 12 u ∨ xR S' 12 u = xR S 12 u + 1
theorem Kp.q {S S' : St} (h : Kp S S') : Kq S S' := ⟨fun k i z => h.1 k i (by omega), h.2, fun u => Or.inl (h.1 12 u (by omega))⟩
theorem Kq.tr {S S' S'' : St} (h : Kp S S') (h' : Kq S' S'') : Kq S S'' :=
  ⟨fun k i z => (h'.1 k i z).trans (h.1 k i (by omega)), fun u z => h.2 u (h'.2.1 u z), fun u => by rw [← h.1 12 u (by omega)]; exact h'.2.2 u⟩
theorem en_12 {t : Int32} {N v : Nat} {S : St} {k i : Nat} (hk : k ≠ 15 ∧ k ≠ 21) : xR (en t N v S) k i = if k = 0 ∧ i = v then 2 else if k = 5 ∧ i = v then 0 else if k = 12 ∧ i = v then xR S 12 v + 1 else xR S k i := by
  rw [enC_e]
  unfold enC
  simp only []
  rw [xR_uE, xR_uR, if_neg (by omega), xR_uR, if_neg (by omega), xR_uR, if_neg (by omega), xR_uR, if_neg (by omega), xR_uR, if_neg (by omega), xR_uR, xR_uR, xR_uR, xR_uR]
  by_cases c12 : k = 12 ∧ i = v
  · rw [if_pos c12, if_neg (show ¬ (k = 0 ∧ i = v) from fun z => by omega), if_neg (show ¬ (k = 5 ∧ i = v) from fun z => by omega), if_pos c12]
  · rw [if_neg c12, if_neg (show ¬ (k = 21 ∧ i = v) from fun z => by omega), if_neg c12]
theorem Kq.ten (S : St) (t : Int32) (N v : Nat) : Kq S (en t N v S) := by
  refine ⟨fun k i z => ?_, fun u z => ?_, fun u => ?_⟩
  · rw [en_12 (by omega), if_neg (by omega), if_neg (by omega), if_neg (by omega)]
  · rw [en_12 (by decide)] at z
    by_cases c : u = v
    · rw [if_pos ⟨rfl, c⟩] at z; exact absurd z (by decide)
    · rwa [if_neg (fun y => c y.2), if_neg (fun y => by have := y.1; omega), if_neg (fun y => by have := y.1; omega)] at z
  · rw [en_12 (by decide), if_neg (fun y => by have := y.1; omega), if_neg (fun y => by have := y.1; omega)]
    by_cases c : u = v
    · rw [if_pos ⟨rfl, c⟩, c]; exact Or.inr rfl
    · rw [if_neg (fun y => c y.2)]; exact Or.inl rfl
theorem Kq.tgr (S : St) (t : Int32) (N v a : Nat) : Kq S (gr t N v a S) := by
  unfold gr
  simp only []
  have h : Kp S (uR (uR (uR S 4 v (bon (xR S 4 v) a)) 5 v (bof (xR S 5 v) a)) 6 v (bof (xR S 6 v) a)) :=
    ((Kp.r S (k := 4) (i := v) (by decide)).tr (Kp.r _ (k := 5) (i := v) (by decide))).tr (Kp.r _ (k := 6) (i := v) (by decide))
  split
  · exact Kq.tr h (Kq.ten _ _ _ _)
  · exact h.q
theorem Kq.trd (S : St) (t : Int32) (N k f g : Nat) (s : Int32) : Kq S (rd t N k f g s S) := by
  unfold rd
  simp only []
  have h : Kp S (if s ≤ xR S 1 g then S else uR S 1 g s) := by
    split
    · exact Kp.rf S
    · exact Kp.r S (k := 1) (i := g) (by decide)
  generalize (if s ≤ xR S 1 g then S else uR S 1 g s) = S1 at h ⊢
  refine Kq.tr h ?_
  split
  · exact (Kp.trq _ _ _ _ _).q
  · split
    · exact (Kp.tyl _ _ _ _ _).q
    · split
      · exact (Kp.trl _ _ _ _ _).q
      · split
        · split
          · exact Kq.tgr _ _ _ _ _
          · split
            · exact (Kp.tfd _ _ _ _ _).q
            · exact (Kp.tiq _ _ _ _).q
        · exact (Kp.rf _).q
theorem Kp.twt (S : St) (N k f g : Nat) (s : Int32) : Kp S (wt N k f g s S) :=
  ⟨fun k' i z => wt_R (by omega) (by omega) (by omega) i, fun u z => by rwa [wt_R (by omega) (by omega) (by omega)] at z⟩
theorem Kq.tbr (S : St) (t : Int32) (N f g : Nat) : Kq S (br t N f g S) := by
  unfold br
  split
  · exact (Kp.rf S).q
  · exact Kq.tr ((Kp.eq (Kp.rf S) rfl).tr (Kp.twt (uL S (16 * f + g) _) N _ f g _)) (Kq.trd _ _ _ _ _ _ _)
theorem lv_R {t : Int32} {N v : Nat} {S : St} {k i : Nat} (hk : k ≠ 16) : xR (lv t N v S) k i = if i = v ∧ (k = 0 ∨ (3 ≤ k ∧ k ≤ 6)) then 0 else xR S k i := by
  unfold lv
  rw [sA_R hk, rst_R]
/-- of a move by a draw -/
theorem dm_K {N c v0 : Nat} {S : St} (t : Int32) (hc : c < 272) (hv : c < 256 ∨ c - 256 = v0) : (∀ k i, k = 7 ∨ k = 17 ∨ k = 20 → xR (dm t N c S) k i = xR S k i) ∧ (∀ u, u ≠ v0 ∨ c < 256 → xR (dm t N c S) 0 u = 0 → xR S 0 u = 0) ∧ ∀ u, xR (dm t N c S) 12 u = xR S 12 u ∨ xR (dm t N c S) 12 u = xR S 12 u + 1 := by
  unfold dm
  by_cases h : c < 256
  · rw [if_pos h]
    have := Kq.tbr S t N (c / 16) (c % 16)
    exact ⟨this.1, fun u _ => this.2.1 u, this.2.2⟩
  · rw [if_neg h, if_pos hc]
    refine ⟨fun k i z => ?_, fun u hu z => ?_, fun u => ?_⟩
    · rw [lv_R (by omega), if_neg (by omega)]
    · rwa [lv_R (by decide), if_neg (by omega)] at z
    · rw [lv_R (by decide), if_neg (by omega)]; exact Or.inl rfl
