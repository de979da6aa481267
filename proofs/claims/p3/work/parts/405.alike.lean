/-! ===== states that a search holds for one ===== -/
def lk (x : Ltr) : Int32 × Int32 := (x.1, x.2.1)
def SE (S S' : St) : Prop := (∀ k i, k < 11 ∨ k = 17 ∨ k = 20 → i < 16 → xR S k i = xR S' k i) ∧ (∀ a, a < 16 → xW S a = xW S' a) ∧ ∀ l, l < 256 → (xL S l).map lk = (xL S' l).map lk
theorem SE.rf (S : St) : SE S S := ⟨fun _ _ _ _ => rfl, fun _ _ => rfl, fun _ _ => rfl⟩
theorem SE.sy {S S' : St} (h : SE S S') : SE S' S := ⟨fun k i a b => (h.1 k i a b).symm, fun a b => (h.2.1 a b).symm, fun l b => (h.2.2 l b).symm⟩
theorem SE.tr {S S' S'' : St} (h : SE S S') (h' : SE S' S'') : SE S S'' := ⟨fun k i a b => (h.1 k i a b).trans (h'.1 k i a b), fun a b => (h.2.1 a b).trans (h'.2.1 a b), fun l b => (h.2.2 l b).trans (h'.2.2 l b)⟩
theorem SE.r {S S' : St} (h : SE S S') (k i : Nat) (x : Int32) : SE (uR S k i x) (uR S' k i x) :=
  ⟨fun k' i' a b => by rw [xR_uR, xR_uR, h.1 k' i' a b], h.2.1, h.2.2⟩
theorem SE.x {S S' : St} (h : SE S S') {k : Nat} (hk : 11 ≤ k ∧ k ≠ 17 ∧ k ≠ 20) (i : Nat) (x : Int32) : SE (uR S k i x) S' :=
  ⟨fun k' i' a b => by rw [xR_uR, if_neg (by omega)]; exact h.1 k' i' a b, h.2.1, h.2.2⟩
theorem SE.w {S S' : St} (h : SE S S') (a : Nat) (w : List Wtr) : SE (uW S a w) (uW S' a w) :=
  ⟨h.1, fun b hb => by rw [xW_uW, xW_uW, h.2.1 b hb], h.2.2⟩
theorem SE.l {S S' : St} (h : SE S S') (l : Nat) {x x' : List Ltr} (e : x.map lk = x'.map lk) : SE (uL S l x) (uL S' l x') :=
  ⟨h.1, h.2.1, fun m hm => by
    rw [xL_uL, xL_uL]
    by_cases c : m = l
    · rw [if_pos c, if_pos c]; exact e
    · rw [if_neg c, if_neg c]; exact h.2.2 m hm⟩
theorem SE.of {S S' T T' : St} (h : SE S S') (a : xR T = xR S) (b : xW T = xW S) (c : xL T = xL S) (a' : xR T' = xR S') (b' : xW T' = xW S') (c' : xL T' = xL S') : SE T T' := by
  refine ⟨fun k i z z' => ?_, fun i z => ?_, fun l z => ?_⟩
  · rw [a, a']; exact h.1 k i z z'
  · rw [b, b']; exact h.2.1 i z
  · rw [c, c']; exact h.2.2 l z
section
variable {S S' : St} {t t' : Int32}
theorem SE.tsn (h : SE S S') (k f g : Nat) (s : Int32) (hl : 16 * f + g < 256) : SE (sn t k f g s S) (sn t' k f g s S') := by
  unfold sn
  have h1 : SE (uR S 16 k (xR S 16 k + 1)) (uR S' 16 k (xR S' 16 k + 1)) := (((h.sy.x (k := 16) (by decide) k _).sy).x (k := 16) (by decide) k _)
  refine h1.l _ ?_
  rw [List.map_append, List.map_append]
  show (xL S (16 * f + g)).map lk ++ _ = (xL S' (16 * f + g)).map lk ++ _
  rw [h.2.2 _ hl]
  rfl
theorem SE.tnob (h : SE S S') (a : Nat) : SE (nob a S) (nob a S') := ((h.r _ _ _).r _ _ _).r _ _ _
theorem SE.tgF (h : SE S S') {a : Nat} (ha : a < 16) (hw : ∀ w, w ∈ xW S a → w.1 < 16) : SE (gF t a S) (gF t' a S') := by
  unfold gF
  rw [← h.2.1 a ha]
  cases e : xW S a with
  | nil => exact h.tnob a
  | cons w r =>
    have := hw w (by rw [e]; simp)
    exact SE.tsn ((((h.tnob a).r _ _ _).r _ _ _).w _ _) _ _ _ _ (by omega)
theorem SE.trq3 (h : SE S S') {a : Nat} (ha : a < 16) (hg : xR S 10 a = 1 ∨ gn S a < 16) : SE (rq3 t a S) (rq3 t' a S') := by
  unfold rq3
  have e8 : gn S' a = gn S a := by unfold gn; rw [h.1 8 a (by omega) ha]
  rw [← h.1 10 a (by omega) ha, ← h.1 9 a (by omega) ha, e8]
  by_cases c : xR S 10 a = 1
  · rw [if_pos c, if_pos c]; exact h
  · rw [if_neg c, if_neg c]
    have := hg.resolve_left c
    exact SE.tsn (h.r _ _ _) _ _ _ _ (by omega)
theorem SE.trq2 (h : SE S S') {a : Nat} (ha : a < 16) (old : List Wtr) (hw : ∀ w, w ∈ old → w.1 < 16) : SE (rq2 t a old S) (rq2 t' a old S') := by
  cases old with
  | nil => exact h
  | cons w r =>
    show SE (if ahd w.2 (nI w.1) (xR S 9 a) (xR S 8 a) then sn t 2 a w.1 w.2 S else S) (if ahd w.2 (nI w.1) (xR S' 9 a) (xR S' 8 a) then sn t' 2 a w.1 w.2 S' else S')
    have := hw w (by simp)
    rw [← h.1 9 a (by omega) ha, ← h.1 8 a (by omega) ha]
    split
    · exact h.tsn _ _ _ _ (by omega)
    · exact h
theorem SE.trq (h : SE S S') {a v : Nat} (ha : a < 16) (hv : v < 16) (s : Int32) (hw : ∀ w, w ∈ xW S a → w.1 < 16) (hG : Gok S a) : SE (rq t a v s S) (rq t' a v s S') := by
  unfold rq
  rw [← h.1 8 a (by omega) ha, ← h.1 9 a (by omega) ha, ← h.2.1 a ha]
  have hi : ∀ w, w ∈ ins v s (xW S a) → w.1 < 16 := fun w z => by
    rcases ins_perm.mp z with y | y
    · rw [y]; exact hv
    · exact hw w y
  by_cases c : xR S 8 a = -1
  · rw [if_pos c, if_pos c]
    refine (h.w a _).tgF ha (fun w z => hi w ?_)
    rw [xW_uW, if_pos rfl] at z; exact z
  · rw [if_neg c, if_neg c]
    split
    · refine SE.trq3 ((h.w a _).trq2 ha _ hw) ha (Or.inr ?_)
      obtain ⟨g, hg, e⟩ := hG.resolve_left c
      unfold gn
      rw [rq2_R (by decide)]
      show (xR S 8 a).toNatClampNeg < 16
      rw [e, nI_clamp (by omega)]; exact hg
    · exact (h.w a _).tsn _ _ _ _ (by omega)
theorem SE.tyl (h : SE S S') {a v : Nat} (ha : a < 16) (hv : v < 16) (s : Int32) (hw : ∀ w, w ∈ xW S a → w.1 < 16) : SE (yl t a v s S) (yl t' a v s S') := by
  unfold yl
  rw [← h.1 8 a (by omega) ha, ← h.1 9 a (by omega) ha, ← h.2.1 a ha]
  split
  · refine (h.w a _).tgF ha (fun w z => ?_)
    rw [xW_uW, if_pos rfl] at z
    rcases ins_perm.mp z with y | y
    · rw [y]; exact hv
    · exact hw w y
  · exact h
theorem SE.trl (h : SE S S') {a v : Nat} (ha : a < 16) (s : Int32) (hw : ∀ w, w ∈ xW S a → w.1 < 16) : SE (rl t a v s S) (rl t' a v s S') := by
  unfold rl
  rw [← h.1 8 a (by omega) ha, ← h.1 9 a (by omega) ha, ← h.2.1 a ha]
  split
  · exact h.tgF ha hw
  · exact h.w a _
theorem SE.tyT (h : SE S S') {v a : Nat} (hv : v < 16) (ha : a < 16) : SE (yT t v a S) (yT t' v a S') := by
  unfold yT
  simp only []
  rw [← h.1 2 v (by omega) hv, ← h.1 4 v (by omega) hv, ← h.1 6 v (by omega) hv]
  exact ((h.tsn 4 v a _ (by omega)).r _ _ _).r _ _ _
end
theorem SE.tfdl {t t' : Int32} {v : Nat} (hv : v < 16) (d : Int32) : ∀ (ws : List Nat) (S S' : St), SE S S' → (∀ w, w ∈ ws → w < 16) → SE (fdl t v d ws S) (fdl t' v d ws S') := by
  intro ws
  induction ws with
  | nil => intro S S' h _; exact h
  | cons w ws ih =>
    intro S S' h hw
    have e : ∀ (t : Int32) (S : St), fdl t v d (w :: ws) S = fdl t v d ws (if bt d w then yT t v w S else S) := fun t S => by
      unfold fdl
      rw [List.foldl_cons]
    rw [e, e]
    refine ih _ _ ?_ (fun u hu => hw u (List.mem_cons_of_mem _ hu))
    split
    · exact h.tyT hv (hw w (by simp))
    · exact h
section
variable {S S' : St} {t t' : Int32}
theorem SE.tfd (h : SE S S') {N v : Nat} (h16 : N ≤ 16) (hv : v < 16) (a : Nat) : SE (fd t N v a S) (fd t' N v a S') := by
  unfold fd
  rw [← h.1 5 v (by omega) hv, ← h.1 6 v (by omega) hv]
  exact (SE.tfdl hv _ _ _ _ (h.r _ _ _) (fun w hw => by have := List.mem_range.mp hw; omega)).r _ _ _
theorem SE.tiq (h : SE S S') {v a : Nat} (hv : v < 16) (ha : a < 16) : SE (iq t v a S) (iq t' v a S') := by
  unfold iq
  rw [← h.1 4 v (by omega) hv, ← h.1 6 v (by omega) hv, ← h.1 5 v (by omega) hv]
  split
  · split
    · exact h.r _ _ _
    · exact h.tyT hv ha
  · exact h
theorem SE.en1 (t : Int32) (N v : Nat) (S : St) : SE (en t N v S) (uR (uR S 5 v 0) 0 v 2) := by
  rw [enC_e]
  unfold enC
  simp only []
  refine SE.of (S := uR (uR (uR (uR (uR (uR (uR (uR (uR S 5 v 0) 0 v 2) 21 v t) 12 v (xR S 12 v + 1)) 15 0 (xR S 15 0 + 1)) 15 2 (xR S 15 2 + (if pcI N (uR (uR S 5 v 0) 0 v 2) ≤ 1 then 0 else 1))) 15 5 (xR S 15 5 + (if ovr N v (uR (uR S 5 v 0) 0 v 2) then 1 else 0))) 15 4 (mxI (xR S 15 4) (xR S 15 1 - xR S 13 v))) 15 3 (mxI (xR S 15 3) (xR S 14 v))) ?_ rfl rfl rfl rfl rfl rfl
  exact (((((((SE.rf _).x (k := 21) (by decide) _ _).x (k := 12) (by decide) _ _).x (k := 15) (by decide) _ _).x (k := 15) (by decide) _ _).x (k := 15) (by decide) _ _).x (k := 15) (by decide) _ _).x (k := 15) (by decide) _ _
theorem SE.ten (h : SE S S') (N v : Nat) : SE (en t N v S) (en t' N v S') :=
  ((SE.en1 t N v S).tr ((h.r _ _ _).r _ _ _)).tr (SE.en1 t' N v S').sy
theorem SE.tgr (h : SE S S') {N v : Nat} (hv : v < 16) (a : Nat) : SE (gr t N v a S) (gr t' N v a S') := by
  unfold gr
  simp only []
  rw [← h.1 3 v (by omega) hv, ← h.1 4 v (by omega) hv, ← h.1 5 v (by omega) hv, ← h.1 6 v (by omega) hv]
  have k := ((h.r 4 v (bon (xR S 4 v) a)).r 5 v (bof (xR S 5 v) a)).r 6 v (bof (xR S 6 v) a)
  split
  · exact k.ten N v
  · exact k
theorem SE.twt (N k f g : Nat) (s : Int32) (S : St) : SE (wt N k f g s S) S := by
  have wl := wt_WL N k f g s S
  exact ⟨fun k' i z _ => wt_R (by omega) (by omega) (by omega) i, fun a _ => by rw [wl.1], fun l _ => by rw [wl.2]⟩
theorem SE.tclk (h : SE S S') {g : Nat} (hg : g < 16) (s : Int32) : SE (if s ≤ xR S 1 g then S else uR S 1 g s) (if s ≤ xR S' 1 g then S' else uR S' 1 g s) := by
  rw [← h.1 1 g (by omega) hg]
  split
  · exact h
  · exact h.r _ _ _
theorem SE.trd (h : SE S S') {N k f g : Nat} (h16 : N ≤ 16) (hf : f < 16) (hg : g < 16) (s : Int32) (hH : Hok S f g s) : SE (rd t N k f g s S) (rd t' N k f g s S') := by
  unfold rd
  simp only []
  have h1 := h.tclk hg s
  have hw : ∀ w, w ∈ xW (if s ≤ xR S 1 g then S else uR S 1 g s) g → w.1 < 16 := fun w z => hH.1 w (by
    unfold xW at z ⊢
    rw [clk_2] at z; exact z)
  have hG : Gok (if s ≤ xR S 1 g then S else uR S 1 g s) g := by
    unfold Gok
    rw [clk_R (by decide)]
    exact hH.2.2.2
  generalize (if s ≤ xR S 1 g then S else uR S 1 g s) = S1 at h1 hw hG ⊢
  generalize (if s ≤ xR S' 1 g then S' else uR S' 1 g s) = S1' at h1 ⊢
  split
  · exact h1.trq hg hf s hw hG
  · split
    · exact h1.tyl hg hf s hw
    · split
      · exact h1.trl hg s hw
      · rw [← h1.1 0 g (by omega) hg, ← h1.1 2 g (by omega) hg]
        split
        · split
          · exact h1.tgr hg f
          · split
            · exact h1.tfd h16 hg f
            · exact h1.tiq hg hf
        · exact h1
theorem SE.tbr (h : SE S S') {N A f g : Nat} (hI : Inv N A S) (h16 : N ≤ 16) (hf : f < N) (hg : g < N) : SE (br t N f g S) (br t' N f g S') := by
  unfold br
  have el := h.2.2 (16 * f + g) (by omega)
  cases hx : xL S (16 * f + g) with
  | nil =>
    rw [hx] at el
    have : xL S' (16 * f + g) = [] := List.map_eq_nil_iff.mp el.symm
    rw [this]
    exact h
  | cons x r =>
    rw [hx] at el
    cases hx' : xL S' (16 * f + g) with
    | nil => rw [hx'] at el; cases el
    | cons x' r' =>
      rw [hx'] at el
      simp only [List.map_cons, List.cons.injEq] at el
      have ex : x.1 = x'.1 ∧ x.2.1 = x'.2.1 := by
        have := el.1
        unfold lk at this
        exact ⟨(Prod.mk.inj this).1, (Prod.mk.inj this).2⟩
      simp only []
      rw [← ex.1, ← ex.2]
      have k : SE (wt N x.1.toNatClampNeg f g x.2.1 (uL S (16 * f + g) r)) (wt N x.1.toNatClampNeg f g x.2.1 (uL S' (16 * f + g) r')) :=
        ((SE.twt _ _ _ _ _ _).tr (h.l _ el.2)).tr (SE.twt _ _ _ _ _ _).sy
      refine k.trd h16 (by omega) (by omega) _ ?_
      obtain ⟨h1, _⟩ := hI.pop h16 hf hg hx
      have sm := wt_S N x.1.toNatClampNeg f g x.2.1 (uL S (16 * f + g) r)
      have wl := wt_WL N x.1.toNatClampNeg f g x.2.1 (uL S (16 * f + g) r)
      exact Hok_of (h1.reg sm wl.2) h16 hg _
end
theorem SE.tsAl {t t' : Int32} {k f : Nat} (hf : f < 16) (set s : Int32) : ∀ (ws : List Nat) (S S' : St), SE S S' → (∀ w, w ∈ ws → w < 16) → SE (sAl t k f set s ws S) (sAl t' k f set s ws S') := by
  intro ws
  induction ws with
  | nil => intro S S' h _; exact h
  | cons w ws ih =>
    intro S S' h hw
    have e : ∀ (t : Int32) (S : St), sAl t k f set s (w :: ws) S = sAl t k f set s ws (if bt set w then sn t k f w s S else S) := fun t S => by
      unfold sAl
      rw [List.foldl_cons]
    rw [e, e]
    have := hw w (by simp)
    refine ih _ _ ?_ (fun u hu => hw u (List.mem_cons_of_mem _ hu))
    split
    · exact h.tsn _ _ _ _ (by omega)
    · exact h
section
variable {S S' : St} {t t' : Int32}
theorem SE.tsA (h : SE S S') {N k f : Nat} (h16 : N ≤ 16) (hf : f < 16) (set s : Int32) : SE (sA t N k f set s S) (sA t' N k f set s S') :=
  SE.tsAl hf set s _ _ _ h (fun w hw => by have := List.mem_range.mp hw; omega)
theorem SE.tlv (h : SE S S') {N v : Nat} (h16 : N ≤ 16) (hv : v < 16) : SE (lv t N v S) (lv t' N v S') := by
  unfold lv
  rw [← h.1 3 v (by omega) hv, ← h.1 2 v (by omega) hv]
  exact SE.tsA (((((h.r _ _ _).r _ _ _).r _ _ _).r _ _ _).r _ _ _) h16 hv _ _
theorem SE.tbk (h : SE S S') {N : Nat} (h16 : N ≤ 16) : bkm N S' = bkm N S := by
  have g : ∀ (ws : List Nat) (x : Int32), (∀ w, w ∈ ws → w < 16) → ws.foldl (fun x v => x ||| (xR S' 7 v <<< (nI v &&& 31))) x = ws.foldl (fun x v => x ||| (xR S 7 v <<< (nI v &&& 31))) x := by
    intro ws
    induction ws with
    | nil => intro x _; rfl
    | cons w ws ih =>
      intro x hw
      rw [List.foldl_cons, List.foldl_cons, h.1 7 w (by omega) (hw w (by simp))]
      exact ih _ (fun u hu => hw u (List.mem_cons_of_mem _ hu))
  unfold bkm bk
  exact g _ _ (fun w hw => by have := List.mem_range'_1.mp hw; omega)
theorem SE.tqm (h : SE S S') {N v : Nat} (h16 : N ≤ 16) (hv : v < 16) : qm N S' v = qm N S v := by
  unfold qm qby fub
  rw [h.tbk h16, h.1 17 v (by omega) hv, h.1 20 1 (by omega) (by decide)]
  have e : ∀ (ws : List Nat) (b : Int32), (∀ w, w ∈ ws → w < 16) → ws.find? (fun w => decide (xR S' 17 w &&& b = 0)) = ws.find? (fun w => decide (xR S 17 w &&& b = 0)) := by
    intro ws b
    induction ws with
    | nil => intro _; rfl
    | cons w ws ih =>
      intro hw
      rw [List.find?_cons, List.find?_cons, h.1 17 w (by omega) (hw w (by simp)), ih (fun u hu => hw u (List.mem_cons_of_mem _ hu))]
  have m : ∀ w, w ∈ List.range' 0 N → w < 16 := fun w hw => by have := List.mem_range'_1.mp hw; omega
  rw [e _ _ m]
  cases hf : (List.range' 0 N).find? (fun w => decide (xR S 17 w &&& bkm N S = 0)) with
  | none => rfl
  | some w =>
    simp only []
    rw [h.1 17 w (by omega) (m w (List.mem_of_find?_eq_some hf))]
theorem SE.tma (h : SE S S') {N v : Nat} (h16 : N ≤ 16) (hv : v < 16) : mayA N v S' = mayA N v S := by
  unfold mayA
  rw [h.tqm h16 hv, h.1 0 v (by omega) hv, h.1 7 v (by omega) hv]
theorem SE.tak (h : SE S S') {N v : Nat} (h16 : N ≤ 16) (hv : v < 16) : SE (ak t N v S) (ak t' N v S') := by
  unfold ak
  simp only []
  rw [← h.1 1 v (by omega) hv, h.tqm h16 hv]
  refine SE.tsA ?_ h16 hv _ _
  have k := ((((((h.r 1 v (xR S 1 v + 1)).r 2 v (xR S 1 v + 1)).r 3 v (qm N S v)).r 4 v 0).r 5 v 0).r 6 v 0).r 0 v 1
  exact ((((k.sy.x (k := 13) (by decide) v (xR S' 15 1)).x (k := 14) (by decide) v 0).sy).x (k := 13) (by decide) v (xR S 15 1)).x (k := 14) (by decide) v 0
theorem SE.tdm (h : SE S S') {N A c : Nat} (hI : Inv N A S) (h16 : N ≤ 16) (hc : (c < 256 ∧ c / 16 < N ∧ c % 16 < N) ∨ (256 ≤ c ∧ c < 272 ∧ c - 256 < N) ∨ (272 ≤ c ∧ c - 272 < N)) : SE (dm t N c S) (dm t' N c S') := by
  unfold dm
  rcases hc with ⟨h1, h2, h3⟩ | ⟨h1, h2, h3⟩ | ⟨h1, h2⟩
  · rw [if_pos h1, if_pos h1]; exact h.tbr hI h16 h2 h3
  · have n1 : ¬ c < 256 := by omega
    rw [if_neg n1, if_neg n1, if_pos h2, if_pos h2]; exact h.tlv h16 (by omega)
  · have n1 : ¬ c < 256 := by omega
    have n2 : ¬ c < 272 := by omega
    rw [if_neg n1, if_neg n1, if_neg n2, if_neg n2]; exact h.tak h16 (by omega)
theorem SE.tmv (h : SE S S') {N : Nat} (h16 : N ≤ 16) (ask : Int32) {sn sn' : Nat → Int32} (hs : ∀ v, v < N → sn v = sn' v) : mvl N S' ask sn' = mvl N S ask sn := by
  have e1 : lanes S' = lanes S := by
    unfold lanes
    apply List.filter_congr
    intro l hl
    have := h.2.2 l (List.mem_range.mp hl)
    cases a : xL S l with
    | nil =>
      rw [a] at this
      have : xL S' l = [] := List.map_eq_nil_iff.mp this.symm
      rw [this]
    | cons x r =>
      rw [a] at this
      cases b : xL S' l with
      | nil => rw [b] at this; cases this
      | cons y s => rfl
  have e2 : inss N S' = inss N S := by
    unfold inss
    apply List.filter_congr
    intro v hv
    rw [h.1 0 v (by omega) (by have := List.mem_range.mp hv; omega)]
  have e3 : asks' 0 N N S' ask sn' = asks' 0 N N S ask sn := by
    unfold asks'
    apply List.filter_congr
    intro v hv
    have := List.mem_range'_1.mp hv
    rw [h.tma h16 (by omega), h.1 2 v (by omega) (by omega), hs v (by omega)]
  unfold mvl
  rw [e1, e2, e3]
end
