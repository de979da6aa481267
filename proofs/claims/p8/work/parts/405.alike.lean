/-! ===== states that a search holds for one ===== -/
def lk (x : Ltr) : Int32 × Int32 := (x.1, x.2.1)
def SE (S S' : St) : Prop := (∀ k i, k < 11 ∨ k = 17 ∨ k = 20 → i < 16 → xR S k i = xR S' k i) ∧ (∀ a, a < 16 → xW S a = xW S' a) ∧ ∀ l, l < 256 → (xL S l).map lk = (xL S' l).map lk
theorem SE.rf (S : St) : SE S S := ⟨fun _ _ _ _ => rfl, fun _ _ => rfl, fun _ _ => rfl⟩
theorem SE.sy {S S' : St} (h : SE S S') : SE S' S := ⟨fun k i a b => (h.1 k i a b).symm, fun a b => (h.2.1 a b).symm, fun l b => (h.2.2 l b).symm⟩
theorem SE.tr {S S' S'' : St} (h : SE S S') (h' : SE S' S'') : SE S S'' := ⟨fun k i a b => (h.1 k i a b).trans (h'.1 k i a b), fun a b => (h.2.1 a b).trans (h'.2.1 a b), fun l b => (h.2.2 l b).trans (h'.2.2 l b)⟩
theorem SE.r {S S' : St} (h : SE S S') (k i : Nat) (x : Int32) : SE (uR S k i x) (uR S' k i x) :=
  ⟨fun k' i' a b => by rw [xR_uR, xR_uR, h.1 k' i' a b], h.2.1, h.2.2⟩
theorem SE.x {S S' : St} (h : SE S S') {k : Nat} (hk : 11 ≤ k ∧ k ≠ 17 ∧ k ≠ 20) (i : Nat) (x : Int32) : SE (uR S k i x) S' :=
  ⟨fun k' i' a b => by rw [xR_uR, if_neg (by omega)]; exact h.1 k' i' a b, h.2.1, h.2.2⟩
theorem SE.w {S S' : St} (h : SE S S') (a : Nat) (w : List Wtr) : SE (uW S a w) (uW S' a w) :=
  ⟨h.1, fun b hb => by rw [xW_uW, xW_uW, h.2.1 b hb], h.2.2⟩
theorem SE.l {S S' : St} (h : SE S S') (l : Nat) {x x' : List Ltr} (e : x.map lk = x'.map lk) : SE (uL S l x) (uL S' l x') :=
  ⟨h.1, h.2.1, fun m hm => by
    rw [xL_uL, xL_uL]
    by_cases c : m = l
    · rw [if_pos c, if_pos c]; exact e
    · rw [if_neg c, if_neg c]; exact h.2.2 m hm⟩
theorem SE.of {S S' T T' : St} (h : SE S S') (a : xR T = xR S) (b : xW T = xW S) (c : xL T = xL S) (a' : xR T' = xR S') (b' : xW T' = xW S') (c' : xL T' = xL S') : SE T T' := by
  refine ⟨fun k i z z' => ?_, fun i z => ?_, fun l z => ?_⟩
  · rw [a, a']; exact h.1 k i z z'
  · rw [b, b']; exact h.2.1 i z
  · rw [c, c']; exact h.2.2 l z
section
variable {S S' : St} {t t' : Int32}
theorem SE.tsn (h : SE S S') (k f g : Nat) (s : Int32) (hl : 16 * f + g < 256) : SE (sn t k f g s S) (sn t' k f g s S') := by
  unfold sn
  have h1 : SE (uR S 16 k (xR S 16 k + 1)) (uR S' 16 k (xR S' 16 k + 1)) := (((h.sy.x (k := 16) (by decide) k _).sy).x (k := 16) (by decide) k _)
  refine h1.l _ ?_
  rw [List.map_append, List.map_append]
  show (xL S (16 * f + g)).map lk ++ _ = (xL S' (16 * f + g)).map lk ++ _
  rw [h.2.2 _ hl]
  rfl
theorem SE.tnob (h : SE S S') (a : Nat) : SE (nob a S) (nob a S') := ((h.r _ _ _).r _ _ _).r _ _ _
theorem SE.tgF (h : SE S S') {a : Nat} (ha : a < 16) (hw : ∀ w, w ∈ xW S a → w.1 < 16) : SE (gF t a S) (gF t' a S') := by
  unfold gF
  rw [← h.2.1 a ha]
  cases e : xW S a with
  | nil => exact h.tnob a
  | cons w r =>
    have := hw w (by rw [e]; simp)
    exact SE.tsn ((((h.tnob a).r _ _ _).r _ _ _).w _ _) _ _ _ _ (by omega)
theorem SE.trq3 (h : SE S S') {a : Nat} (ha : a < 16) (hg : xR S 10 a = 1 ∨ gn S a < 16) : SE (rq3 t a S) (rq3 t' a S') := by
  unfold rq3
  have e8 : gn S' a = gn S a := by unfold gn; rw [h.1 8 a (by omega) ha]
  rw [← h.1 10 a (by omega) ha, ← h.1 9 a (by omega) ha, e8]
  by_cases c : xR S 10 a = 1
  · rw [if_pos c, if_pos c]; exact h
  · rw [if_neg c, if_neg c]
    have := hg.resolve_left c
    exact SE.tsn (h.r _ _ _) _ _ _ _ (by omega)
theorem SE.trq2 (h : SE S S') {a : Nat} (ha : a < 16) (old : List Wtr) (hw : ∀ w, w ∈ old → w.1 < 16) : SE (rq2 t a old S) (rq2 t' a old S') := by
  cases old with
  | nil => exact h
  | cons w r =>
    show SE (if ahd w.2 (nI w.1) (xR S 9 a) (xR S 8 a) then sn t 2 a w.1 w.2 S else S) (if ahd w.2 (nI w.1) (xR S' 9 a) (xR S' 8 a) then sn t' 2 a w.1 w.2 S' else S')
    have := hw w (by simp)
    rw [← h.1 9 a (by omega) ha, ← h.1 8 a (by omega) ha]
    split
    · exact h.tsn _ _ _ _ (by omega)
    · exact h
theorem SE.trq (h : SE S S') {a v : Nat} (ha : a < 16) (hv : v < 16) (s : Int32) (hw : ∀ w, w ∈ xW S a → w.1 < 16) (hG : Gok S a) : SE (rq t a v s S) (rq t' a v s S') := by
  unfold rq
  rw [← h.1 8 a (by omega) ha, ← h.1 9 a (by omega) ha, ← h.2.1 a ha]
  have hi : ∀ w, w ∈ ins v s (xW S a) → w.1 < 16 := fun w z => by
    rcases ins_perm.mp z with y | y
    · rw [y]; exact hv
    · exact hw w y
  by_cases c : xR S 8 a = -1
  · rw [if_pos c, if_pos c]
    refine (h.w a _).tgF ha (fun w z => hi w ?_)
    rw [xW_uW, if_pos rfl] at z; exact z
  · rw [if_neg c, if_neg c]
    split
    · refine SE.trq3 ((h.w a _).trq2 ha _ hw) ha (Or.inr ?_)
      obtain ⟨g, hg, e⟩ := hG.resolve_left c
      unfold gn
      rw [rq2_R (by decide)]
      show (xR S 8 a).toNatClampNeg < 16
      rw [e, nI_clamp (by omega)]; exact hg
    · exact (h.w a _).tsn _ _ _ _ (by omega)
theorem SE.tyl (h : SE S S') {a v : Nat} (ha : a < 16) (hv : v < 16) (s : Int32) (hw : ∀ w, w ∈ xW S a → w.1 < 16) : SE (yl t a v s S) (yl t' a v s S') := by
  unfold yl
  rw [← h.1 8 a (by omega) ha, ← h.1 9 a (by omega) ha, ← h.2.1 a ha]
  split
  · refine (h.w a _).tgF ha (fun w z => ?_)
    rw [xW_uW, if_pos rfl] at z
    rcases ins_perm.mp z with y | y
    · rw [y]; exact hv
    · exact hw w y
  · exact h
theorem SE.trl (h : SE S S') {a v : Nat} (ha : a < 16) (s : Int32) (hw : ∀ w, w ∈ xW S a → w.1 < 16) : SE (rl t a v s S) (rl t' a v s S') := by
  unfold rl
  rw [← h.1 8 a (by omega) ha, ← h.1 9 a (by omega) ha, ← h.2.1 a ha]
  split
  · exact h.tgF ha hw
  · exact h.w a _
theorem SE.tyT (h : SE S S') {v a : Nat} (hv : v < 16) (ha : a < 16) : SE (yT t v a S) (yT t' v a S') := by
  unfold yT
  simp only []
  rw [← h.1 2 v (by omega) hv, ← h.1 4 v (by omega) hv, ← h.1 6 v (by omega) hv]
  exact ((h.tsn 4 v a _ (by omega)).r _ _ _).r _ _ _
end
theorem SE.tfdl {t t' : Int32} {v : Nat} (hv : v < 16) (d : Int32) : ∀ (ws : List Nat) (S S' : St), SE S S' → (∀ w, w ∈ ws → w < 16) → SE (fdl t v d ws S) (fdl t' v d ws S') := by
  intro ws
  induction ws with
  | nil => intro S S' h _; exact h
  | cons w ws ih =>
    intro S S' h hw
    have e : ∀ (t : Int32) (S : St), fdl t v d (w :: ws) S = fdl t v d ws (if bt d w then yT t v w S else S) := fun t S => by
      unfold fdl
      rw [List.foldl_cons]
    rw [e, e]
    refine ih _ _ ?_ (fun u hu => hw u (List.mem_cons_of_mem _ hu))
    split
    · exact h.tyT hv (hw w (by simp))
    · exact h
section
variable {S S' : St} {t t' : Int32}
theorem SE.tfd (h : SE S S') {N v : Nat} (h16 : N ≤ 16) (hv : v < 16) (a : Nat) : SE (fd t N v a S) (fd t' N v a S') := by
  unfold fd
  rw [← h.1 5 v (by omega) hv, ← h.1 6 v (by omega) hv]
  exact (SE.tfdl hv _ _ _ _ (h.r _ _ _) (fun w hw => by have := List.mem_range.mp hw; omega)).r _ _ _
theorem SE.tiq (h : SE S S') {v a : Nat} (hv : v < 16) (ha : a < 16) : SE (iq t v a S) (iq t' v a S') := by
  unfold iq
  rw [← h.1 4 v (by omega) hv, ← h.1 6 v (by omega) hv, ← h.1 5 v (by omega) hv]
  split
  · split
    · exact h.r _ _ _
    · exact h.tyT hv ha
  · exact h
theorem SE.en1 (t : Int32) (N v : Nat) (S : St) : SE (en t N v S) (uR (uR S 5 v 0) 0 v 2) := by
  rw [enC_e]
  unfold enC
  simp only []
  refine SE.of (S := uR (uR (uR (uR (uR (uR (uR (uR (uR S 5 v 0) 0 v 2) 21 v t) 12 v (xR S 12 v + 1)) 15 0 (xR S 15 0 + 1)) 15 2 (xR S 15 2 + (if pcI N (uR (uR S 5 v 0) 0 v 2) ≤ 1 then 0 else 1))) 15 5 (xR S 15 5 + (if ovr N v (uR (uR S 5 v 0) 0 v 2) then 1 else 0))) 15 4 (mxI (xR S 15 4) (xR S 15 1 - xR S 13 v))) 15 3 (mxI (xR S 15 3) (xR S 14 v))) ?_ rfl rfl rfl rfl rfl rfl
  exact (((((((SE.rf _).x (k := 21) (by decide) _ _).x (k := 12) (by decide) _ _).x (k := 15) (by decide) _ _).x (k := 15) (by decide) _ _).x (k := 15) (by decide) _ _).x (k := 15) (by decide) _ _).x (k := 15) (by decide) _ _
theorem SE.ten (h : SE S S') (N v : Nat) : SE (en t N v S) (en t' N v S') :=
  ((SE.en1 t N v S).tr ((h.r _ _ _).r _ _ _)).tr (SE.en1 t' N v S').sy
theorem SE.tgr (h : SE S S') {N v : Nat} (hv : v < 16) (a : Nat) : SE (gr t N v a S) (gr t' N v a S') := by
  unfold gr
  simp only []
  rw [← h.1 3 v (by omega) hv, ← h.1 4 v (by omega) hv, ← h.1 5 v (by omega) hv, ← h.1 6 v (by omega) hv]
  have k := ((h.r 4 v (bon (xR S 4 v) a)).r 5 v (bof (xR S 5 v) a)).r 6 v (bof (xR S 6 v) a)
  split
  · exact k.ten N v
  · exact k
theorem SE.twt (N k f g : Nat) (s : Int32) (S : St) : SE (wt N k f g s S) S := by
  have wl := wt_WL N k f g s S
  exact ⟨fun k' i z _ => wt_R (by omega) (by omega) (by omega) i, fun a _ => by rw [wl.1], fun l _ => by rw [wl.2]⟩
theorem SE.tclk (h : SE S S') {g : Nat} (hg : g < 16) (s : Int32) : SE (if s ≤ xR S 1 g then S else uR S 1 g s) (if s ≤ xR S' 1 g then S' else uR S' 1 g s) := by
  rw [← h.1 1 g (by omega) hg]
  split
  · exact h
  · exact h.r _ _ _
theorem SE.trd (h : SE S S') {N k f g : Nat} (h16 : N ≤ 16) (hf : f < 16) (hg : g < 16) (s : Int32) (hH : Hok S f g s) : SE (rd t N k f g s S) (rd t' N k f g s S') := by
  unfold rd
  simp only []
  have h1 := h.tclk hg s
  have hw : ∀ w, w ∈ xW (if s ≤ xR S 1 g then S else uR S 1 g s) g → w.1 < 16 := fun w z => hH.1 w (by
    unfold xW at z ⊢
    rw [clk_2] at z; exact z)
  have hG : Gok (if s ≤ xR S 1 g then S else uR S 1 g s) g := by
    unfold Gok
    rw [clk_R (by decide)]
    exact hH.2.2.2
  generalize (if s ≤ xR S 1 g then S else uR S 1 g s) = S1 at h1 hw hG ⊢
  generalize (if s ≤ xR S' 1 g then S' else uR S' 1 g s) = S1' at h1 ⊢
  split
  · exact h1.trq hg hf s hw hG
  · split
    · exact h1.tyl hg hf s hw
    · split
      · exact h1.trl hg s hw
      · rw [← h1.1 0 g (by omega) hg, ← h1.1 2 g (by omega) hg]
        split
        · split
          · exact h1.tgr hg f
          · split
            · exact h1.tfd h16 hg f
            · exact h1.tiq hg hf
        · exact h1
theorem SE.tbr (h : SE S S') {N A f g : Nat} (hI : Inv N A S) (h16 : N ≤ 16) (hf : f < N) (hg : g < N) : SE (br t N f g S) (br t' N f g S') := by
  unfold br
  have el := h.2.2 (16 * f + g) (by omega)
  cases hx : xL S (16 * f + g) with
  | nil =>
    rw [hx] at el
    have : xL S' (16 * f + g) = [] := List.map_eq_nil_iff.mp el.symm
    rw [this]
    exact h
  | cons x r =>
    rw [hx] at el
    cases hx' : xL S' (16 * f + g) with
    | nil => rw [hx'] at el; cases el
    | cons x' r' =>
      rw [hx'] at el
      simp only [List.map_cons, List.cons.injEq] at el
      have ex : x.1 = x'.1 ∧ x.2.1 = x'.2.1 := by
        have := el.1
        unfold lk at this
        exact ⟨(Prod.mk.inj this).1, (Prod.mk.inj this).2⟩
      simp only []
      rw [← ex.1, ← ex.2]
      have k : SE (wt N x.1.toNatClampNeg f g x.2.1 (uL S (16 * f + g) r)) (wt N x.1.toNatClampNeg f g x.2.1 (uL S' (16 * f + g) r')) :=
        ((SE.twt _ _ _ _ _ _).tr (h.l _ el.2)).tr (SE.twt _ _ _ _ _ _).sy
      refine k.trd h16 (by omega) (by omega) _ ?_
      obtain ⟨h1, _⟩ := hI.pop h16 hf hg hx
      have sm := wt_S N x.1.toNatClampNeg f g x.2.1 (uL S (16 * f + g) r)
      have wl := wt_WL N x.1.toNatClampNeg f g x.2.1 (uL S (16 * f + g) r)
      exact Hok_of (h1.reg sm wl.2) h16 hg _
end
theorem SE.tsAl {t t' : Int32} {k f : Nat} (hf : f < 16) (set s : Int32) : ∀ (ws : List Nat) (S S' : St), SE S S' → (∀ w, w ∈ ws → w < 16) → SE (sAl t k f set s ws S) (sAl t' k f set s ws S') := by
  intro ws
  induction ws with
  | nil => intro S S' h _; exact h
  | cons w ws ih =>
    intro S S' h hw
    have e : ∀ (t : Int32) (S : St), sAl t k f set s (w :: ws) S = sAl t k f set s ws (if bt set w then sn t k f w s S else S) := fun t S => by
      unfold sAl
      rw [List.foldl_cons]
    rw [e, e]
    have := hw w (by simp)
    refine ih _ _ ?_ (fun u hu => hw u (List.mem_cons_of_mem _ hu))
    split
    · exact h.tsn _ _ _ _ (by omega)
    · exact h
section
variable {S S' : St} {t t' : Int32}
theorem SE.tsA (h : SE S S') {N k f : Nat} (h16 : N ≤ 16) (hf : f < 16) (set s : Int32) : SE (sA t N k f set s S) (sA t' N k f set s S') :=
  SE.tsAl hf set s _ _ _ h (fun w hw => by have := List.mem_range.mp hw; omega)
theorem SE.tlv (h : SE S S') {N v : Nat} (h16 : N ≤ 16) (hv : v < 16) : SE (lv t N v S) (lv t' N v S') := by
  unfold lv
  rw [← h.1 3 v (by omega) hv, ← h.1 2 v (by omega) hv]
  exact SE.tsA (((((h.r _ _ _).r _ _ _).r _ _ _).r _ _ _).r _ _ _) h16 hv _ _
theorem SE.tbk (h : SE S S') {N : Nat} (h16 : N ≤ 16) : bkm N S' = bkm N S := by
  have g : ∀ (ws : List Nat) (x : Int32), (∀ w, w ∈ ws → w < 16) → ws.foldl (fun x v => x ||| (xR S' 7 v <<< (nI v &&& 31))) x = ws.foldl (fun x v => x ||| (xR S 7 v <<< (nI v &&& 31))) x := by
    intro ws
    induction ws with
    | nil => intro x _; rfl
    | cons w ws ih =>
      intro x hw
      rw [List.foldl_cons, List.foldl_cons, h.1 7 w (by omega) (hw w (by simp))]
      exact ih _ (fun u hu => hw u (List.mem_cons_of_mem _ hu))
  unfold bkm bk
  exact g _ _ (fun w hw => by have := List.mem_range'_1.mp hw; omega)
theorem SE.tqm (h : SE S S') {N v : Nat} (h16 : N ≤ 16) (hv : v < 16) : qm N S' v = qm N S v := by
  unfold qm qby fub
  rw [h.tbk h16, h.1 17 v (by omega) hv, h.1 20 1 (by omega) (by decide)]
  have e : ∀ (ws : List Nat) (b : Int32), (∀ w, w ∈ ws → w < 16) → ws.find? (fun w => decide (xR S' 17 w &&& b = 0)) = ws.find? (fun w => decide (xR S 17 w &&& b = 0)) := by
    intro ws b
    induction ws with
    | nil => intro _; rfl
    | cons w ws ih =>
      intro hw
      rw [List.find?_cons, List.find?_cons, h.1 17 w (by omega) (hw w (by simp)), ih (fun u hu => hw u (List.mem_cons_of_mem _ hu))]
  have m : ∀ w, w ∈ List.range' 0 N → w < 16 := fun w hw => by have := List.mem_range'_1.mp hw; omega
  rw [e _ _ m]
  cases hf : (List.range' 0 N).find? (fun w => decide (xR S 17 w &&& bkm N S = 0)) with
  | none => rfl
  | some w =>
    simp only []
    rw [h.1 17 w (by omega) (m w (List.mem_of_find?_eq_some hf))]
theorem SE.tma (h : SE S S') {N v : Nat} (h16 : N ≤ 16) (hv : v < 16) : mayA N v S' = mayA N v S := by
  unfold mayA
  rw [h.tqm h16 hv, h.1 0 v (by omega) hv, h.1 7 v (by omega) hv]
theorem SE.tak (h : SE S S') {N v : Nat} (h16 : N ≤ 16) (hv : v < 16) : SE (ak t N v S) (ak t' N v S') := by
  unfold ak
  simp only []
  rw [← h.1 1 v (by omega) hv, h.tqm h16 hv]
  refine SE.tsA ?_ h16 hv _ _
  have k := ((((((h.r 1 v (xR S 1 v + 1)).r 2 v (xR S 1 v + 1)).r 3 v (qm N S v)).r 4 v 0).r 5 v 0).r 6 v 0).r 0 v 1
  exact ((((k.sy.x (k := 13) (by decide) v (xR S' 15 1)).x (k := 14) (by decide) v 0).sy).x (k := 13) (by decide) v (xR S 15 1)).x (k := 14) (by decide) v 0
theorem SE.tdm (h : SE S S') {N A c : Nat} (hI : Inv N A S) (h16 : N ≤ 16) (hc : (c < 256 ∧ c / 16 < N ∧ c % 16 < N) ∨ (256 ≤ c ∧ c < 272 ∧ c - 256 < N) ∨ (272 ≤ c ∧ c - 272 < N)) : SE (dm t N c S) (dm t' N c S') := by
  unfold dm
  rcases hc with ⟨h1, h2, h3⟩ | ⟨h1, h2, h3⟩ | ⟨h1, h2⟩
  · rw [if_pos h1, if_pos h1]; exact h.tbr hI h16 h2 h3
  · have n1 : ¬ c < 256 := by omega
    rw [if_neg n1, if_neg n1, if_pos h2, if_pos h2]; exact h.tlv h16 (by omega)
  · have n1 : ¬ c < 256 := by omega
    have n2 : ¬ c < 272 := by omega
    rw [if_neg n1, if_neg n1, if_neg n2, if_neg n2]; exact h.tak h16 (by omega)
theorem SE.tmv (h : SE S S') {N : Nat} (h16 : N ≤ 16) (ask : Int32) {sn sn' : Nat → Int32} (hs : ∀ v, v < N → sn v = sn' v) : mvl N S' ask sn' = mvl N S ask sn := by
  have e1 : lanes S' = lanes S := by
    unfold lanes
    apply List.filter_congr
    intro l hl
    have := h.2.2 l (List.mem_range.mp hl)
    cases a : xL S l with
    | nil =>
      rw [a] at this
      have : xL S' l = [] := List.map_eq_nil_iff.mp this.symm
      rw [this]
    | cons x r =>
      rw [a] at this
      cases b : xL S' l with
      | nil => rw [b] at this; cases this
      | cons y s => rfl
  have e2 : inss N S' = inss N S := by
    unfold inss
    apply List.filter_congr
    intro v hv
    rw [h.1 0 v (by omega) (by have := List.mem_range.mp hv; omega)]
  have e3 : asks' 0 N N S' ask sn' = asks' 0 N N S ask sn := by
    unfold asks'
    apply List.filter_congr
    intro v hv
    have := List.mem_range'_1.mp hv
    rw [h.tma h16 (by omega), h.1 2 v (by omega) (by omega), hs v (by omega)]
  unfold mvl
  rw [e1, e2, e3]
end
/-! ===== how many letters: what never grows, for each arbiter ===== -/
def smN (f : Nat → Nat) : Nat → Nat
  | 0 => 0
  | n + 1 => smN f n + f n
theorem smN_le {f g : Nat → Nat} : ∀ n, (∀ i, i < n → f i ≤ g i) → smN f n ≤ smN g n := by
  intro n
  induction n with
  | zero => intro _; exact Nat.le_refl _
  | succ n ih =>
    intro h
    have h1 := ih (fun i hi => h i (by omega))
    have h2 := h n (by omega)
    show smN f n + f n ≤ smN g n + g n
    omega
theorem smN_c {f g : Nat → Nat} (n : Nat) (h : ∀ i, i < n → f i = g i) : smN f n = smN g n :=
  Nat.le_antisymm (smN_le n (fun i hi => Nat.le_of_eq (h i hi))) (smN_le n (fun i hi => Nat.le_of_eq (h i hi).symm))
theorem smN_at {f g : Nat → Nat} {v : Nat} : ∀ n, v < n → (∀ i, i < n → i ≠ v → f i = g i) → smN f n + g v = smN g n + f v := by
  intro n
  induction n with
  | zero => intro h; omega
  | succ n ih =>
    intro hv h
    show smN f n + f n + g v = smN g n + g n + f v
    by_cases c : v = n
    · subst c
      have := smN_c v (fun i hi => h i (by omega) (by omega))
      omega
    · have := ih (by omega) (fun i hi hn => h i (by omega) hn)
      have := h n (by omega) (by omega)
      omega
theorem smN_add (f g : Nat → Nat) : ∀ n, smN (fun i => f i + g i) n = smN f n + smN g n := by
  intro n
  induction n with
  | zero => rfl
  | succ n ih =>
    show smN (fun i => f i + g i) n + (f n + g n) = (smN f n + f n) + (smN g n + g n)
    omega
theorem smN_k (c : Nat) : ∀ n, smN (fun _ => c) n = c * n := by
  intro n
  induction n with
  | zero => rfl
  | succ n ih =>
    show smN (fun _ => c) n + c = c * (n + 1)
    rw [ih, Nat.mul_succ]
theorem smN_sw (f : Nat → Nat → Nat) (m : Nat) : ∀ n, smN (fun i => smN (f i) m) n = smN (fun j => smN (fun i => f i j) n) m := by
  intro n
  induction n with
  | zero =>
    show 0 = smN (fun _ => 0) m
    rw [smN_k]; omega
  | succ n ih =>
    show smN (fun i => smN (f i) m) n + smN (f n) m = smN (fun j => smN (fun i => f i j) n + f n j) m
    rw [smN_add, ih]
theorem smN_one {v : Nat} : ∀ n, v < n → smN (fun i => if v = i then 1 else 0) n = 1 := by
  intro n
  induction n with
  | zero => intro h; omega
  | succ n ih =>
    intro h
    show smN (fun i => if v = i then 1 else 0) n + (if v = n then 1 else 0) = 1
    by_cases c : v = n
    · rw [if_pos c, smN_c (g := fun _ => 0) n (fun i hi => if_neg (by omega)), smN_k]; omega
    · rw [if_neg c, ih (by omega)]
/-- the arbiter of a letter -/
def larb (l : Nat) (k : Int32) : Nat := if k = nI 0 ∨ k = nI 4 ∨ k = nI 5 then l % 16 else l / 16
def lwa (a : Nat) (q : Nat × Ltr) : Nat := if larb q.1 q.2.1 = a then 1 else 0
def phL (a : Nat) (S : St) : Nat := ((fl S).map (lwa a)).sum
def phv (S : St) (a v : Nat) : Nat := (if bt (xR S 4 v) a = true ∧ bt (xR S 3 v) a = true then 1 else 0) + (if bt (xR S 5 v) a = true then 1 else 0)
def phB (a : Nat) (S : St) : Nat := smN (phv S a) 16
def Ph (a : Nat) (S : St) : Nat := phL a S + phB a S
theorem phL_c {a : Nat} {S S' : St} (h : xL S' = xL S) : phL a S' = phL a S := by
  unfold phL; rw [fl_L h]
theorem phv_c {a v : Nat} {S S' : St} (h : ∀ k, k = 3 ∨ k = 4 ∨ k = 5 → xR S' k v = xR S k v) : phv S' a v = phv S a v := by
  unfold phv; rw [h 3 (by omega), h 4 (by omega), h 5 (by omega)]
theorem phB_c {a : Nat} {S S' : St} (h : ∀ k v, k = 3 ∨ k = 4 ∨ k = 5 → xR S' k v = xR S k v) : phB a S' = phB a S :=
  smN_c _ (fun v _ => phv_c (fun k hk => h k v hk))
theorem phB_at {a v : Nat} {S S' : St} (hv : v < 16) (h : ∀ k u, u ≠ v → k = 3 ∨ k = 4 ∨ k = 5 → xR S' k u = xR S k u) : phB a S' + phv S a v = phB a S + phv S' a v :=
  smN_at 16 hv (fun u _ hu => phv_c (fun k hk => h k u hu hk))
theorem phL_sn {a : Nat} {t : Int32} {k f g : Nat} {s : Int32} {S : St} (hf : f < 16) (hg : g < 16) (hk : k < 6) : phL a (sn t k f g s S) = phL a S + (if (if k = 0 ∨ k = 4 ∨ k = 5 then g else f) = a then 1 else 0) := by
  have h : 16 * f + g < 256 := by omega
  have e : larb (16 * f + g) (nI k) = (if k = 0 ∨ k = 4 ∨ k = 5 then g else f) := by
    unfold larb
    have n : ∀ j, j < 6 → (nI k = nI j ↔ k = j) := fun j hj => nI_eq (by omega) (by omega)
    rw [show (16 * f + g) % 16 = g by omega, show (16 * f + g) / 16 = f by omega]
    simp only [n 0 (by decide), n 4 (by decide), n 5 (by decide)]
  unfold phL
  rw [fl_sn h, fl_split S h]
  simp only [List.map_append, List.sum_append, List.map_cons, List.map_nil, List.sum_cons, List.sum_nil]
  have e2 : lwa a (16 * f + g, (nI k, s, t)) = if (if k = 0 ∨ k = 4 ∨ k = 5 then g else f) = a then 1 else 0 := by
    unfold lwa
    rw [show ((16 * f + g, (nI k, s, t)) : Nat × Ltr).1 = 16 * f + g from rfl, show ((16 * f + g, (nI k, s, t)) : Nat × Ltr).2.1 = nI k from rfl, e]
  rw [e2]
  omega
theorem phL_pop {a : Nat} {S : St} {l : Nat} (hl : l < 256) {x : Ltr} {r : List Ltr} (hx : xL S l = x :: r) : phL a S = phL a (uL S l r) + lwa a (l, x) := by
  unfold phL
  rw [fl_split S hl, fl_uL S hl, hx]
  simp only [List.map_append, List.sum_append, List.map_cons, List.sum_cons]
  omega
theorem phL_sAl {a : Nat} {t : Int32} {k f : Nat} (hf : f < 16) (hk : k = 0 ∨ k = 4 ∨ k = 5) (set s : Int32) : ∀ (d i : Nat) (S : St), i + d ≤ 16 → phL a (sAl t k f set s (List.range' i d) S) = phL a S + (if (i ≤ a ∧ a < i + d) ∧ bt set a = true then 1 else 0) := by
  intro d
  induction d with
  | zero =>
    intro i S hi
    rw [if_neg (by omega)]; rfl
  | succ d ih =>
    intro i S hi
    unfold sAl
    rw [List.range'_succ, List.foldl_cons]
    have h := ih (i + 1) (if bt set i then sn t k f i s S else S) (by omega)
    unfold sAl at h
    rw [h]
    have e : phL a (if bt set i then sn t k f i s S else S) = phL a S + (if i = a ∧ bt set i = true then 1 else 0) := by
      by_cases c : bt set i = true
      · rw [if_pos c, phL_sn hf (by omega) (by omega), if_pos hk]
        by_cases c2 : i = a
        · rw [if_pos c2, if_pos ⟨c2, c⟩]
        · rw [if_neg c2, if_neg (fun z => c2 z.1)]
      · rw [if_neg c, if_neg (fun z => c z.2)]; rfl
    rw [e]
    by_cases c : i = a
    · subst c
      rw [if_neg (show ¬ ((i + 1 ≤ i ∧ i < i + 1 + d) ∧ bt set i = true) by omega)]
      by_cases c2 : bt set i = true
      · rw [if_pos ⟨rfl, c2⟩, if_pos ⟨by omega, c2⟩]
      · rw [if_neg (fun z => c2 z.2), if_neg (fun z => c2 z.2)]
    · rw [if_neg (show ¬ (i = a ∧ bt set i = true) from fun z => c z.1)]
      by_cases c2 : (i + 1 ≤ a ∧ a < i + 1 + d) ∧ bt set a = true
      · rw [if_pos c2, if_pos ⟨by omega, c2.2⟩]
      · rw [if_neg c2, if_neg (fun z => c2 ⟨by omega, z.2⟩)]
theorem phL_sA {a : Nat} {t : Int32} {N k f : Nat} (h16 : N ≤ 16) (hf : f < 16) (hk : k = 0 ∨ k = 4 ∨ k = 5) (set s : Int32) (S : St) : phL a (sA t N k f set s S) = phL a S + (if a < N ∧ bt set a = true then 1 else 0) := by
  unfold sA
  rw [List.range_eq_range', phL_sAl hf hk set s N 0 S (by omega)]
  by_cases c : a < N ∧ bt set a = true
  · rw [if_pos c, if_pos ⟨by omega, c.2⟩]
  · rw [if_neg c, if_neg (fun z => c ⟨by omega, z.2⟩)]
/-- all letters by their arbiters -/
theorem sum_arb : ∀ (q : List (Nat × Ltr)), (∀ x, x ∈ q → x.1 < 256) → q.length = smN (fun a => (q.map (lwa a)).sum) 16 := by
  intro q
  induction q with
  | nil => intro _; show 0 = smN (fun _ => 0) 16; rw [smN_k]
  | cons x q ih =>
    intro h
    have h1 := ih (fun y hy => h y (by simp [hy]))
    have hx := h x (by simp)
    have e : smN (fun a => ((x :: q).map (lwa a)).sum) 16 = smN (fun a => lwa a x + (q.map (lwa a)).sum) 16 := smN_c _ (fun a _ => by simp)
    have hb : larb x.1 x.2.1 < 16 := by unfold larb; split <;> omega
    rw [e, smN_add, ← h1, List.length_cons]
    have : smN (fun a => lwa a x) 16 = 1 := smN_one 16 hb
    omega
theorem fl_Ph (S : St) : (fl S).length ≤ smN (fun a => Ph a S) 16 := by
  rw [sum_arb (fl S) (fun x hx => (fl_mem hx).1)]
  exact smN_le _ (fun a _ => Nat.le_add_right _ _)
/-! ===== the steps: what they send is paid for ===== -/
theorem ite_le {A B : Prop} [Decidable A] [Decidable B] (h : A → B) : (if A then 1 else 0 : Nat) ≤ if B then 1 else 0 := by
  by_cases a : A
  · rw [if_pos a, if_pos (h a)]; exact Nat.le_refl _
  · rw [if_neg a]; exact Nat.zero_le _
theorem ite_or {A B e : Prop} [Decidable A] [Decidable B] [Decidable e] (h : A → B ∨ e) : (if A then 1 else 0 : Nat) ≤ (if B then 1 else 0) + if e then 1 else 0 := by
  by_cases a : A
  · rcases h a with b | b
    · rw [if_pos a, if_pos b]; exact Nat.le_add_right _ _
    · rw [if_pos a, if_pos b]; exact Nat.le_add_left _ _
  · rw [if_neg a]; exact Nat.zero_le _
theorem phv_le {S S' : St} {a v : Nat} {e : Prop} [Decidable e] (h1 : bt (xR S' 4 v) a = true ∧ bt (xR S' 3 v) a = true → (bt (xR S 4 v) a = true ∧ bt (xR S 3 v) a = true) ∨ e) (h2 : bt (xR S' 5 v) a = true → bt (xR S 5 v) a = true) : phv S' a v ≤ phv S a v + if e then 1 else 0 := by
  unfold phv
  have p1 := ite_or h1
  have p2 := ite_le h2
  omega
theorem Ph_at {a v : Nat} {S S' : St} (hv : v < 16) (h : ∀ k u, u ≠ v → k = 3 ∨ k = 4 ∨ k = 5 → xR S' k u = xR S k u) {d e : Nat} (hL : phL a S' ≤ phL a S + d) (hB : phv S' a v + d ≤ phv S a v + e) : Ph a S' ≤ Ph a S + e := by
  have := phB_at (a := a) hv h
  unfold Ph
  omega
theorem gr_WL {t : Int32} {N v a : Nat} {S : St} : xW (gr t N v a S) = xW S ∧ xL (gr t N v a S) = xL S := by
  unfold gr
  simp only []
  split
  · exact ⟨en_WL.1, en_WL.2⟩
  · exact ⟨rfl, rfl⟩
theorem gr_R {t : Int32} {N v a : Nat} {S : St} {k u : Nat} (hk : k < 11) (h : u ≠ v ∨ k = 1 ∨ k = 2 ∨ k = 3 ∨ 7 ≤ k) : xR (gr t N v a S) k u = xR S k u := by
  unfold gr
  simp only []
  split
  · rw [en_R hk, if_neg (by omega), if_neg (by omega), xR_uR, if_neg (by omega), xR_uR, if_neg (by omega), xR_uR, if_neg (by omega)]
  · rw [xR_uR, if_neg (by omega), xR_uR, if_neg (by omega), xR_uR, if_neg (by omega)]
theorem gr_4 {t : Int32} {N v a : Nat} {S : St} : xR (gr t N v a S) 4 v = bon (xR S 4 v) a := by
  unfold gr
  simp only []
  split
  · rw [en_R (by decide), if_neg (by omega), if_neg (by omega)]; simp [xR_uR]
  · simp [xR_uR]
theorem gr_5 {t : Int32} {N v a : Nat} {S : St} : xR (gr t N v a S) 5 v = 0 ∨ xR (gr t N v a S) 5 v = bof (xR S 5 v) a := by
  unfold gr
  simp only []
  split
  · left; rw [en_R (by decide), if_neg (by omega), if_pos ⟨rfl, rfl⟩]
  · right; simp [xR_uR]
theorem gr_Ph {t : Int32} {N v f a : Nat} {S : St} (hv : v < 16) (hf : f < 16) (ha : a < 16) : Ph a (gr t N v f S) ≤ Ph a S + if a = f then 1 else 0 := by
  refine Ph_at hv (fun k u hu hk => gr_R (by omega) (Or.inl hu)) (d := 0) (Nat.le_of_eq (phL_c gr_WL.2)) (phv_le ?_ ?_)
  · rw [gr_4, gr_R (by decide) (by omega), bt_on _ (by omega) (by omega)]
    rintro ⟨z1, z2⟩
    rcases Bool.or_eq_true _ _ |>.mp z1 with z1 | z1
    · exact Or.inl ⟨z1, z2⟩
    · exact Or.inr (of_decide_eq_true z1)
  · rcases gr_5 (t := t) (N := N) (v := v) (a := f) (S := S) with z | z
    · rw [z, b_0]; intro q; cases q
    · rw [z, bt_off _ (by omega) (by omega)]
      exact fun q => (Bool.and_eq_true _ _ |>.mp q).1
theorem fd_e (t : Int32) (N v f : Nat) (S : St) : fd t N v f S = uR (uR (uR (sA t N 4 v (xR S 5 v) (xR S 2 v) (uR S 6 v (bon (xR S 6 v) f))) 4 v (bfl (xR S 5 v) (List.range N) (xR S 4 v))) 6 v (bnl (xR S 5 v) (List.range N) (bon (xR S 6 v) f))) 5 v 0 := by
  unfold fd sA
  rw [fdl_e, xR_uR, if_neg (by omega), xR_uR, if_neg (by omega), xR_uR, if_pos ⟨rfl, rfl⟩]
theorem fd_R {t : Int32} {N v f : Nat} {S : St} {k u : Nat} (hk : k ≠ 16) (h : u ≠ v ∨ (k ≠ 4 ∧ k ≠ 5 ∧ k ≠ 6)) : xR (fd t N v f S) k u = xR S k u := by
  rw [fd_e, xR_uR, if_neg (by omega), xR_uR, if_neg (by omega), xR_uR, if_neg (by omega), sA_R hk, xR_uR, if_neg (by omega)]
theorem fd_4 {t : Int32} {N v f : Nat} {S : St} : xR (fd t N v f S) 4 v = bfl (xR S 5 v) (List.range N) (xR S 4 v) := by
  rw [fd_e, xR_uR, if_neg (by omega), xR_uR, if_neg (by omega), xR_uR, if_pos ⟨rfl, rfl⟩]
theorem fd_5 {t : Int32} {N v f : Nat} {S : St} : xR (fd t N v f S) 5 v = 0 := by
  rw [fd_e, xR_uR, if_pos ⟨rfl, rfl⟩]
theorem fd_W {t : Int32} {N v f : Nat} {S : St} : xW (fd t N v f S) = xW S := by
  rw [fd_e, xW_uR, xW_uR, xW_uR, sA_W]; rfl
theorem fd_L {t : Int32} {N v f : Nat} {S : St} : xL (fd t N v f S) = xL (sA t N 4 v (xR S 5 v) (xR S 2 v) (uR S 6 v (bon (xR S 6 v) f))) := by
  rw [fd_e]; rfl
theorem fd_Ph {t : Int32} {N v f a : Nat} {S : St} (h16 : N ≤ 16) (hv : v < 16) (ha : a < 16) : Ph a (fd t N v f S) ≤ Ph a S := by
  refine Ph_at (e := 0) hv (fun k u hu hk => fd_R (by omega) (Or.inl hu)) (d := if a < N ∧ bt (xR S 5 v) a = true then 1 else 0) (Nat.le_of_eq ?_) ?_
  · rw [phL_c fd_L, phL_sA h16 hv (by omega), phL_c (S' := uR S 6 v (bon (xR S 6 v) f)) (S := S) rfl]
  · unfold phv
    rw [fd_4, fd_5, b_0, fd_R (by decide) (by omega), if_neg (show ¬ false = true by decide)]
    have p1 : (if bt (bfl (xR S 5 v) (List.range N) (xR S 4 v)) a = true ∧ bt (xR S 3 v) a = true then 1 else 0 : Nat) ≤ if bt (xR S 4 v) a = true ∧ bt (xR S 3 v) a = true then 1 else 0 := ite_le (fun z => ⟨by
      have := z.1
      rw [bfl_b _ _ _ (fun w hw => by have := List.mem_range.mp hw; omega) a (by omega)] at this
      exact (Bool.and_eq_true _ _ |>.mp this).1, z.2⟩)
    have p2 : (if a < N ∧ bt (xR S 5 v) a = true then 1 else 0 : Nat) ≤ if bt (xR S 5 v) a = true then 1 else 0 := ite_le (fun z => z.2)
    omega
theorem yT_R {t : Int32} {v f : Nat} {S : St} {k u : Nat} (hk : k ≠ 16) (h : u ≠ v ∨ (k ≠ 4 ∧ k ≠ 6)) : xR (yT t v f S) k u = xR S k u := by
  unfold yT
  simp only []
  rw [xR_uR, if_neg (by omega), xR_uR, if_neg (by omega), sn_R _ _ _ _ _ _ hk]
theorem yT_4 {t : Int32} {v f : Nat} {S : St} : xR (yT t v f S) 4 v = bof (xR S 4 v) f := by
  unfold yT
  simp only []
  rw [xR_uR, if_neg (by omega), xR_uR, if_pos ⟨rfl, rfl⟩]
theorem yT_WL {t : Int32} {v f : Nat} {S : St} : xW (yT t v f S) = xW S ∧ xL (yT t v f S) = xL (sn t 4 v f (xR S 2 v) S) := ⟨rfl, rfl⟩
theorem iq_Ph {t : Int32} {v f a : Nat} {S : St} (hv : v < 16) (hf : f < 16) (ha : a < 16) : Ph a (iq t v f S) ≤ Ph a S + if a = f then 1 else 0 := by
  unfold iq
  by_cases c : bt (xR S 4 v) f = true
  · rw [if_pos c]
    by_cases c6 : xR S 6 v = 0
    · rw [if_pos c6]
      refine Ph_at hv (fun k u hu hk => by rw [xR_uR, if_neg (by omega)]) (d := 0) (Nat.le_of_eq (phL_c rfl)) ?_
      have e4 : xR (uR S 5 v (bon (xR S 5 v) f)) 4 v = xR S 4 v := by rw [xR_uR, if_neg (by omega)]
      have e3 : xR (uR S 5 v (bon (xR S 5 v) f)) 3 v = xR S 3 v := by rw [xR_uR, if_neg (by omega)]
      have e5 : xR (uR S 5 v (bon (xR S 5 v) f)) 5 v = bon (xR S 5 v) f := by rw [xR_uR, if_pos ⟨rfl, rfl⟩]
      unfold phv
      rw [e4, e3, e5, bt_on _ (by omega) (by omega)]
      have p : (if (bt (xR S 5 v) a || decide (a = f)) = true then 1 else 0 : Nat) ≤ (if bt (xR S 5 v) a = true then 1 else 0) + if a = f then 1 else 0 := ite_or (fun z => by
        rcases Bool.or_eq_true _ _ |>.mp z with z | z
        · exact Or.inl z
        · exact Or.inr (of_decide_eq_true z))
      omega
    · rw [if_neg c6]
      refine Ph_at hv (fun k u hu hk => yT_R (by omega) (Or.inl hu)) (d := if a = f then 1 else 0) (Nat.le_of_eq ?_) ?_
      · rw [phL_c yT_WL.2, phL_sn hv hf (by decide), if_pos (show (4 : Nat) = 0 ∨ (4 : Nat) = 4 ∨ (4 : Nat) = 5 by decide)]
        by_cases d : a = f
        · rw [if_pos d, if_pos d.symm]
        · rw [if_neg d, if_neg (fun z => d z.symm)]
      · have := phv_le (S := S) (S' := yT t v f S) (a := a) (v := v) (e := False) (by
          rw [yT_4, yT_R (by decide) (by omega), bt_off _ (by omega) (by omega)]
          exact fun z => Or.inl ⟨(Bool.and_eq_true _ _ |>.mp z.1).1, z.2⟩) (by rw [yT_R (by decide) (by omega)]; exact id)
        rw [if_neg (fun z => z)] at this
        omega
  · rw [if_neg c]; exact Nat.le_add_right _ _
theorem Ph_R {a : Nat} {S S' : St} {e : Nat} (h : ∀ k v, k = 3 ∨ k = 4 ∨ k = 5 → xR S' k v = xR S k v) (hL : phL a S' ≤ phL a S + e) : Ph a S' ≤ Ph a S + e := by
  have := phB_c (a := a) h
  unfold Ph
  omega
theorem gF_R {t : Int32} {a : Nat} {S : St} {k i : Nat} (h : i ≠ a ∨ k < 8 ∨ 10 < k) (hk : k ≠ 16) : xR (gF t a S) k i = xR S k i := by
  unfold gF
  cases hw : xW S a with
  | nil => simp only []; exact nob_R h
  | cons w r =>
    simp only []
    rw [sn_R _ _ _ _ _ _ hk, xR_uW, xR_uR, if_neg (by omega), xR_uR, if_neg (by omega), nob_R h]
theorem phL_snA {a : Nat} {t : Int32} {k f g : Nat} {s : Int32} {S : St} (hf : f < 16) (hg : g < 16) (hk : 1 ≤ k ∧ k ≤ 3) : phL a (sn t k f g s S) = phL a S + (if f = a then 1 else 0) := by
  rw [phL_sn hf hg (by omega), if_neg (show ¬ (k = 0 ∨ k = 4 ∨ k = 5) by omega)]
theorem gF_phL {t : Int32} {a b : Nat} {S : St} (ha : a < 16) (hW : ∀ w, w ∈ xW S a → w.1 < 16) : phL b (gF t a S) ≤ phL b S + if b = a then 1 else 0 := by
  unfold gF
  cases hw : xW S a with
  | nil => simp only []; rw [phL_c (S' := nob a S) (S := S) rfl]; exact Nat.le_add_right _ _
  | cons w r =>
    simp only []
    rw [phL_snA ha (hW w (by rw [hw]; simp)) (by decide), phL_c (S' := uW (uR (uR (nob a S) 8 a (nI w.1)) 9 a w.2) a r) (S := S) rfl]
    exact Nat.add_le_add_left (ite_le (fun z => z.symm)) _
theorem gF_Ph {t : Int32} {a b : Nat} {S : St} (ha : a < 16) (hW : ∀ w, w ∈ xW S a → w.1 < 16) : Ph b (gF t a S) ≤ Ph b S + if b = a then 1 else 0 :=
  Ph_R (fun k v hk => gF_R (by omega) (by omega)) (gF_phL ha hW)
theorem Ph_uW {b a : Nat} {S : St} (w : List Wtr) : Ph b (uW S a w) = Ph b S := rfl
theorem Ph_sn {b : Nat} {t : Int32} {k f g : Nat} {s : Int32} {S : St} (hf : f < 16) (hg : g < 16) (hk : k < 6) : Ph b (sn t k f g s S) = Ph b S + (if (if k = 0 ∨ k = 4 ∨ k = 5 then g else f) = b then 1 else 0) := by
  unfold Ph
  rw [phL_sn hf hg hk, phB_c (S' := sn t k f g s S) (S := S) (fun k' v hk' => sn_R _ _ _ _ _ _ (by omega))]
  omega
theorem Ph_snA {b : Nat} {t : Int32} {k f g : Nat} {s : Int32} {S : St} (hf : f < 16) (hg : g < 16) (hk : 1 ≤ k ∧ k ≤ 3) : Ph b (sn t k f g s S) = Ph b S + (if f = b then 1 else 0) := by
  rw [Ph_sn hf hg (by omega), if_neg (show ¬ (k = 0 ∨ k = 4 ∨ k = 5) by omega)]
theorem Ph_uR {b : Nat} {S : St} {k i : Nat} {x : Int32} (h : k ≠ 3 ∧ k ≠ 4 ∧ k ≠ 5) : Ph b (uR S k i x) = Ph b S := by
  unfold Ph
  rw [phB_c (S' := uR S k i x) (S := S) (fun k' v hk' => by rw [xR_uR, if_neg (by omega)]), phL_c (S' := uR S k i x) (S := S) rfl]
/-- a's inquiry: out where one that waits is ahead of the granted -/
def IQa (S : St) (a : Nat) : Prop := ∀ w, w ∈ xW S a → ¬ xR S 8 a = -1 → ahd w.2 (nI w.1) (xR S 9 a) (xR S 8 a) = true → xR S 10 a = 1
theorem IQa.cg {S S' : St} {a : Nat} (h : IQa S a) (hW : xW S' a = xW S a) (h8 : xR S' 8 a = xR S 8 a) (h9 : xR S' 9 a = xR S 9 a) (h10 : xR S' 10 a = xR S 10 a) : IQa S' a := by
  unfold IQa; rw [hW, h8, h9, h10]; exact h
theorem gF_IQ {t : Int32} {a : Nat} {S : St} (hp : (xW S a).Pairwise aw) : IQa (gF t a S) a := by
  unfold gF
  cases hw : xW S a with
  | nil =>
    simp only []
    intro w _ h8
    exact absurd (nob_8 a S).1 h8
  | cons w r =>
    simp only []
    rw [hw] at hp
    have hp1 := (List.pairwise_cons.mp hp).1
    intro y hy _ hh
    rw [sn_W, xW_uW, if_pos rfl] at hy
    rw [sn_R _ _ _ _ _ _ (by decide), sn_R _ _ _ _ _ _ (by decide), xR_uW, xR_uR, if_pos ⟨rfl, rfl⟩, xR_uR, if_neg (by omega), xR_uR, if_pos ⟨rfl, rfl⟩] at hh
    have := ahd_as (hp1 y hy)
    rw [this] at hh
    cases hh
/-! ===== a letter read: it keeps what never grows ===== -/
theorem rq_Ph {t : Int32} {N A a v s b : Nat} {S : St} (h16 : N ≤ 16) (ha : a < N) (hv : v < N) (hW : Wok N A (xW S a)) (hG : Gok S a) (hI : IQa S a) : Ph b (rq t a v (nI s) S) ≤ Ph b S + if b = a then 1 else 0 := by
  have hw16 : ∀ w, w ∈ xW S a → w.1 < 16 := fun w hw => by have := (hW.2.2 w hw).1; omega
  have sw : ∀ {P Q : Prop} [Decidable P] [Decidable Q], (P ↔ Q) → (if P then 1 else 0 : Nat) ≤ if Q then 1 else 0 := fun h => ite_le h.mp
  unfold rq
  by_cases c8 : xR S 8 a = -1
  · rw [if_pos c8]
    exact gF_Ph (S := uW S a (ins v (nI s) (xW S a))) (by omega) (fun w hw => by
      rw [xW_uW, if_pos rfl] at hw
      rcases ins_mem hw with rfl | hw
      · show v < 16; omega
      · exact hw16 w hw)
  · rw [if_neg c8]
    have hg : ∃ g, g < 16 ∧ xR S 8 a = nI g := hG.resolve_left c8
    obtain ⟨g, hg16, hge⟩ := hg
    by_cases c : (ins v (nI s) (xW S a)).head? = some (v, nI s) ∧ ahd (nI s) (nI v) (xR S 9 a) (xR S 8 a) = true
    · rw [if_pos c]
      by_cases i1 : xR S 10 a = 1
      · have e : rq3 t a (rq2 t a (xW S a) (uW S a (ins v (nI s) (xW S a)))) = rq2 t a (xW S a) (uW S a (ins v (nI s) (xW S a))) := by
          unfold rq3
          rw [rq2_R (by decide), xR_uW, if_pos i1]
        rw [e]
        cases hw : xW S a with
        | nil => rw [rq2_n rfl]; exact Nat.le_add_right _ _
        | cons y ys =>
          rw [rq2_c rfl]
          split
          · rw [Ph_snA (by omega) (hw16 y (by rw [hw]; simp)) (by decide)]
            exact Nat.add_le_add_left (sw ⟨fun z => z.symm, fun z => z.symm⟩) _
          · exact Nat.le_add_right _ _
      · have r2 : rq2 t a (xW S a) (uW S a (ins v (nI s) (xW S a))) = uW S a (ins v (nI s) (xW S a)) := by
          cases hw : xW S a with
          | nil => exact rq2_n rfl
          | cons y ys =>
            rw [rq2_c rfl, if_neg]
            intro z
            exact i1 (hI y (by rw [hw]; simp) c8 z)
        rw [r2]
        unfold rq3
        rw [xR_uW, if_neg i1, Ph_snA (by omega) (by rw [show gn (uW S a (ins v (nI s) (xW S a))) a = gn S a from rfl, gn_e hge hg16]; exact hg16) (by decide), Ph_uR (by decide), Ph_uW]
        exact Nat.add_le_add_left (sw ⟨fun z => z.symm, fun z => z.symm⟩) _
    · rw [if_neg c, Ph_snA (by omega) (by omega) (by decide), Ph_uW]
      exact Nat.add_le_add_left (sw ⟨fun z => z.symm, fun z => z.symm⟩) _
theorem rq3_R {t : Int32} {a : Nat} {S : St} {k i : Nat} (hk : k ≠ 16) (h : i ≠ a ∨ k ≠ 10) : xR (rq3 t a S) k i = xR S k i := by
  unfold rq3
  split
  · rfl
  · rw [sn_R _ _ _ _ _ _ hk, xR_uR, if_neg (by omega)]
theorem rq3_10 {t : Int32} {a : Nat} {S : St} : xR (rq3 t a S) 10 a = 1 := by
  unfold rq3
  split
  · assumption
  · rw [sn_R _ _ _ _ _ _ (by decide), xR_uR, if_pos ⟨rfl, rfl⟩]
theorem rq3_W {t : Int32} {a : Nat} {S : St} : xW (rq3 t a S) = xW S := by
  unfold rq3
  split <;> rfl
theorem gF_Wo {t : Int32} {a b : Nat} {S : St} (h : b ≠ a) : xW (gF t a S) b = xW S b := by
  unfold gF
  cases hw : xW S a with
  | nil => rfl
  | cons w r => simp only []; rw [sn_W, xW_uW, if_neg h]; rfl
theorem rq_R {t : Int32} {a v : Nat} {s : Int32} {S : St} {k i : Nat} (h : i ≠ a ∨ k < 8 ∨ 10 < k) (hk : k ≠ 16) : xR (rq t a v s S) k i = xR S k i := by
  unfold rq
  split
  · rw [gF_R h hk]; rfl
  · split
    · rw [rq3_R hk (by omega), rq2_R hk]; rfl
    · rw [sn_R _ _ _ _ _ _ hk]; rfl
theorem rq_Wo {t : Int32} {a v b : Nat} {s : Int32} {S : St} (h : b ≠ a) : xW (rq t a v s S) b = xW S b := by
  unfold rq
  split
  · rw [gF_Wo h, xW_uW, if_neg h]
  · split
    · rw [rq3_W, rq2_W, xW_uW, if_neg h]
    · rw [sn_W, xW_uW, if_neg h]
theorem rq_IQ {t : Int32} {N A a v s : Nat} {S : St} (h16 : N ≤ 16) (hv : v < N) (hs : s ≤ A) (hW : Wok N A (xW S a)) (hn : v ∉ (xW S a).map Prod.fst) (hI : IQa S a) : IQa (rq t a v (nI s) S) a := by
  have hw := ins_Wok hW hv h16 hs hn
  unfold rq
  split
  · exact gF_IQ (by rw [xW_uW, if_pos rfl]; exact hw.1)
  · rename_i c8
    split
    · intro w _ _ _
      exact rq3_10
    · rename_i c
      intro w hw1 h8 hh
      rw [sn_W, xW_uW, if_pos rfl] at hw1
      rw [sn_R _ _ _ _ _ _ (by decide), sn_R _ _ _ _ _ _ (by decide), xR_uW] at hh
      rw [sn_R _ _ _ _ _ _ (by decide), xR_uW]
      rcases ins_mem hw1 with rfl | hw1
      · obtain ⟨y, ys, e⟩ := ins_hd (v := v) (s := nI s) (l := xW S a)
        have hy : ¬ y = (v, nI s) := fun z => c ⟨by rw [e, z]; rfl, hh⟩
        have hy1 : y ∈ xW S a := (ins_mem (v := v) (s := nI s) (by rw [e]; simp)).resolve_left hy
        have hp := hw.1
        rw [e] at hp hw1
        rcases List.mem_cons.mp hw1 with z | z
        · exact absurd z.symm hy
        · have := (List.pairwise_cons.mp hp).1 _ z
          exact hI y hy1 c8 (ahd_t this hh)
      · exact hI w hw1 c8 hh
theorem yl_Ph {t : Int32} {N A a v s b : Nat} {S : St} (h16 : N ≤ 16) (ha : a < N) (hv : v < N) (hW : Wok N A (xW S a)) : Ph b (yl t a v (nI s) S) ≤ Ph b S + if b = a then 1 else 0 := by
  unfold yl
  split
  · exact gF_Ph (S := uW S a (ins v (nI s) (xW S a))) (by omega) (fun w hw => by
      rw [xW_uW, if_pos rfl] at hw
      rcases ins_mem hw with rfl | hw
      · show v < 16; omega
      · have := (hW.2.2 w hw).1; omega)
  · exact Nat.le_add_right _ _
theorem yl_R {t : Int32} {a v : Nat} {s : Int32} {S : St} {k i : Nat} (h : i ≠ a ∨ k < 8 ∨ 10 < k) (hk : k ≠ 16) : xR (yl t a v s S) k i = xR S k i := by
  unfold yl
  split
  · rw [gF_R h hk]; rfl
  · rfl
theorem yl_Wo {t : Int32} {a v b : Nat} {s : Int32} {S : St} (h : b ≠ a) : xW (yl t a v s S) b = xW S b := by
  unfold yl
  split
  · rw [gF_Wo h, xW_uW, if_neg h]
  · rfl
theorem yl_IQ {t : Int32} {N A a v s : Nat} {S : St} (h16 : N ≤ 16) (hv : v < N) (hs : s ≤ A) (hW : Wok N A (xW S a)) (hg : xR S 8 a = nI v → v ∉ (xW S a).map Prod.fst) (hI : IQa S a) : IQa (yl t a v (nI s) S) a := by
  unfold yl
  split
  · rename_i c
    exact gF_IQ (by rw [xW_uW, if_pos rfl]; exact (ins_Wok hW hv h16 hs (hg c.1)).1)
  · exact hI
theorem rl_Ph {t : Int32} {N A a v b : Nat} {s : Int32} {S : St} (h16 : N ≤ 16) (ha : a < N) (hW : Wok N A (xW S a)) : Ph b (rl t a v s S) ≤ Ph b S + if b = a then 1 else 0 := by
  unfold rl
  split
  · exact gF_Ph (by omega) (fun w hw => by have := (hW.2.2 w hw).1; omega)
  · exact Nat.le_add_right _ _
theorem rl_R {t : Int32} {a v : Nat} {s : Int32} {S : St} {k i : Nat} (h : i ≠ a ∨ k < 8 ∨ 10 < k) (hk : k ≠ 16) : xR (rl t a v s S) k i = xR S k i := by
  unfold rl
  split
  · rw [gF_R h hk]
  · rfl
theorem rl_Wo {t : Int32} {a v b : Nat} {s : Int32} {S : St} (h : b ≠ a) : xW (rl t a v s S) b = xW S b := by
  unfold rl
  split
  · rw [gF_Wo h]
  · rw [xW_uW, if_neg h]
theorem rl_IQ {t : Int32} {N A a v : Nat} {s : Int32} {S : St} (hW : Wok N A (xW S a)) (hI : IQa S a) : IQa (rl t a v s S) a := by
  unfold rl
  split
  · exact gF_IQ hW.1
  · intro w hw h8 hh
    rw [xW_uW, if_pos rfl] at hw
    exact hI w (gone_sub.subset hw) h8 hh
/-- who is inside has all votes of its set -/
def IV (N : Nat) (S : St) : Prop := ∀ v, v < N → xR S 0 v = 2 → ∀ i, i < N → bt (xR S 3 v) i = true → bt (xR S 4 v) i = true
theorem IV.cg {N : Nat} {S S' : St} (h : IV N S) (e : ∀ k v, k = 0 ∨ k = 3 ∨ k = 4 → xR S' k v = xR S k v) : IV N S' := by
  intro v hv
  rw [e 0 v (by omega), e 3 v (by omega), e 4 v (by omega)]
  exact h v hv
theorem IV.tgr {N v f : Nat} {S : St} (h : IV N S) (h16 : N ≤ 16) (h1 : xR S 0 v = 1) (t : Int32) : IV N (gr t N v f S) := by
  intro u hu h2 i hi hb
  by_cases c : u = v
  · subst c
    rw [gr_R (by decide) (by omega)] at hb
    rw [gr_4]
    unfold gr at h2
    simp only [] at h2
    split at h2
    · rename_i z
      have := bt_z.mp z i (by omega)
      rw [bt_minus _ _ (by omega), hb] at this
      simpa using this
    · rw [xR_uR, if_neg (by omega), xR_uR, if_neg (by omega), xR_uR, if_neg (by omega), h1] at h2
      exact absurd h2 (by decide)
  · rw [gr_R (by decide) (Or.inl c)] at h2 hb ⊢
    exact h u hu h2 i hi hb
/-- nothing is to a broken node, nothing from it -/
def IK (N : Nat) (S : St) : Prop := ∀ x, x < N → xR S 7 x = 1 → xR S 0 x = 0 ∧ (∀ u, u < N → bt (xR S 3 u) x = false) ∧ ∀ u, u < 16 → xL S (16 * x + u) = [] ∧ xL S (16 * u + x) = []
def Ub (S : St) (x : Nat) : Prop := ¬ xR S 7 x = 1
/-- a lane that is empty, one end broken, stays empty -/
def LK (S S' : St) : Prop := ∀ f g, f < 16 → g < 16 → (xR S 7 f = 1 ∨ xR S 7 g = 1) → xL S (16 * f + g) = [] → xL S' (16 * f + g) = []
theorem LK.rf (S : St) : LK S S := fun _ _ _ _ _ h => h
theorem LK.eq {S S' : St} (h : xL S' = xL S) : LK S S' := fun _ _ _ _ _ q => by rw [h]; exact q
theorem LK.tr {S S' S'' : St} (h : LK S S') (h7 : ∀ x, xR S' 7 x = xR S 7 x) (h' : LK S' S'') : LK S S'' := fun f g hf hg q e => h' f g hf hg (by rw [h7, h7]; exact q) (h f g hf hg q e)
theorem LK.sn {S : St} {t : Int32} {k f g : Nat} {s : Int32} (hf : f < 16) (hg : g < 16) (uf : Ub S f) (ug : Ub S g) : LK S (sn t k f g s S) := by
  intro f' g' hf' hg' q e
  rw [sn_L]
  by_cases c : 16 * f' + g' = 16 * f + g
  · have e1 : f' = f := by omega
    have e2 : g' = g := by omega
    subst e1; subst e2
    exact absurd q (fun z => z.elim uf ug)
  · rw [if_neg c]; exact e
theorem LK.tsA {S : St} {t : Int32} {N k f : Nat} {set s : Int32} (h16 : N ≤ 16) (hf : f < 16) (uf : Ub S f) (us : ∀ i, i < N → bt set i = true → Ub S i) : LK S (sA t N k f set s S) := by
  intro f' g' hf' hg' q e
  rw [sA_L h16 hf _ _ _ (by omega), if_neg]
  · exact e
  · rintro ⟨z1, z2, z3⟩
    have e1 : f' = f := by omega
    have e2 : (16 * f' + g') % 16 = g' := by omega
    rw [e2] at z2 z3
    subst e1
    exact q.elim uf (us g' z2 z3)
theorem LK.pop {S : St} {f g : Nat} {x : Ltr} {r : List Ltr} (hx : xL S (16 * f + g) = x :: r) : LK S (uL S (16 * f + g) r) := by
  intro f' g' hf' hg' q e
  rw [xL_uL]
  by_cases c : 16 * f' + g' = 16 * f + g
  · rw [c, hx] at e; cases e
  · rw [if_neg c]; exact e
theorem LK.tgF {S : St} {t : Int32} {a : Nat} (ha : a < 16) (hW : ∀ w, w ∈ xW S a → w.1 < 16 ∧ Ub S w.1) (ua : Ub S a) : LK S (gF t a S) := by
  unfold gF
  cases hw : xW S a with
  | nil => exact LK.eq rfl
  | cons w r =>
    simp only []
    have := hW w (by rw [hw]; simp)
    refine LK.tr (S' := uW (uR (uR (nob a S) 8 a (nI w.1)) 9 a w.2) a r) (LK.eq rfl) (fun x => by rw [xR_uW, xR_uR, if_neg (by omega), xR_uR, if_neg (by omega), nob_R (by omega)]) ?_
    refine LK.sn ha this.1 ?_ ?_
    · unfold Ub; rw [xR_uW, xR_uR, if_neg (by omega), xR_uR, if_neg (by omega), nob_R (by omega)]; exact ua
    · unfold Ub; rw [xR_uW, xR_uR, if_neg (by omega), xR_uR, if_neg (by omega), nob_R (by omega)]; exact this.2
theorem LK.trq {S : St} {t : Int32} {a v : Nat} {s : Int32} (ha : a < 16) (hv : v < 16) (hW : ∀ w, w ∈ xW S a → w.1 < 16 ∧ Ub S w.1) (ua : Ub S a) (uv : Ub S v) (hG : xR S 8 a = -1 ∨ ∃ g, g < 16 ∧ xR S 8 a = nI g ∧ Ub S g) : LK S (rq t a v s S) := by
  have h1 : LK S (uW S a (ins v s (xW S a))) := LK.eq rfl
  unfold rq
  split
  · refine h1.tr (fun _ => rfl) (LK.tgF ha (fun w hw => ?_) ua)
    rw [xW_uW, if_pos rfl] at hw
    rcases ins_mem hw with rfl | hw
    · exact ⟨hv, uv⟩
    · exact hW w hw
  · rename_i c8
    obtain ⟨g, hg, hge, ug⟩ := hG.resolve_left c8
    split
    · have h2 : LK S (rq2 t a (xW S a) (uW S a (ins v s (xW S a)))) := by
        cases hw : xW S a with
        | nil => rw [rq2_n rfl]; exact LK.eq rfl
        | cons y ys =>
          rw [rq2_c rfl]
          have := hW y (by rw [hw]; simp)
          split
          · exact (LK.eq rfl : LK S (uW S a (ins v s (y :: ys)))).tr (fun _ => rfl) (LK.sn ha this.1 ua this.2)
          · exact LK.eq rfl
      refine h2.tr (fun x => by rw [rq2_R (by decide)]; rfl) ?_
      unfold rq3
      split
      · exact LK.rf _
      · have eg : gn (rq2 t a (xW S a) (uW S a (ins v s (xW S a)))) a = g := gn_e (by rw [rq2_R (by decide)]; exact hge) hg
        rw [eg]
        refine LK.tr (S' := uR (rq2 t a (xW S a) (uW S a (ins v s (xW S a)))) 10 a 1) (LK.eq rfl) (fun x => by rw [xR_uR, if_neg (by omega)]) (LK.sn ha hg ?_ ?_)
        · unfold Ub; rw [xR_uR, if_neg (by omega), rq2_R (by decide)]; exact ua
        · unfold Ub; rw [xR_uR, if_neg (by omega), rq2_R (by decide)]; exact ug
    · exact h1.tr (fun _ => rfl) (LK.sn ha hv ua uv)
/-! ===== IX: what is held besides Inv; a bringing keeps it, and pays ===== -/
theorem LK.tyl {S : St} {t : Int32} {a v : Nat} {s : Int32} (ha : a < 16) (hv : v < 16) (hW : ∀ w, w ∈ xW S a → w.1 < 16 ∧ Ub S w.1) (ua : Ub S a) (uv : Ub S v) : LK S (yl t a v s S) := by
  unfold yl
  split
  · refine LK.tr (S' := uW S a (ins v s (xW S a))) (LK.eq rfl) (fun _ => rfl) (LK.tgF ha (fun w hw => ?_) ua)
    rw [xW_uW, if_pos rfl] at hw
    rcases ins_mem hw with rfl | hw
    · exact ⟨hv, uv⟩
    · exact hW w hw
  · exact LK.rf _
theorem LK.trl {S : St} {t : Int32} {a v : Nat} {s : Int32} (ha : a < 16) (hW : ∀ w, w ∈ xW S a → w.1 < 16 ∧ Ub S w.1) (ua : Ub S a) : LK S (rl t a v s S) := by
  unfold rl
  split
  · exact LK.tgF ha hW ua
  · exact LK.eq rfl
theorem LK.tfd {S : St} {t : Int32} {N v f : Nat} (h16 : N ≤ 16) (hv : v < 16) (uv : Ub S v) (ud : ∀ i, i < N → bt (xR S 5 v) i = true → Ub S i) : LK S (fd t N v f S) := by
  have q : LK S (sA t N 4 v (xR S 5 v) (xR S 2 v) (uR S 6 v (bon (xR S 6 v) f))) :=
    LK.tr (S' := uR S 6 v (bon (xR S 6 v) f)) (LK.eq rfl) (fun x => by rw [xR_uR, if_neg (by omega)]) (LK.tsA h16 hv (by unfold Ub; rw [xR_uR, if_neg (by omega)]; exact uv) (fun i hi hb => by unfold Ub; rw [xR_uR, if_neg (by omega)]; exact ud i hi hb))
  intro f' g' hf' hg' z e
  rw [fd_L]
  exact q f' g' hf' hg' z e
theorem LK.tiq {S : St} {t : Int32} {v f : Nat} (hv : v < 16) (hf : f < 16) (uv : Ub S v) (uf : Ub S f) : LK S (iq t v f S) := by
  unfold iq
  split
  · split
    · exact LK.eq rfl
    · intro f' g' hf' hg' z e
      rw [yT_WL.2]
      exact LK.sn hv hf uv uf f' g' hf' hg' z e
  · exact LK.rf _
theorem IK.st {N : Nat} {S S' : St} (h : IK N S) (h16 : N ≤ 16) (h7 : ∀ x, xR S' 7 x = xR S 7 x) (h0 : ∀ x, x < N → xR S 7 x = 1 → xR S 0 x = 0 → xR S' 0 x = 0) (h3 : ∀ u x, u < N → x < N → xR S 7 x = 1 → bt (xR S 3 u) x = false → bt (xR S' 3 u) x = false) (hL : LK S S') : IK N S' := by
  intro x hx q
  rw [h7] at q
  obtain ⟨a, b, c⟩ := h x hx q
  exact ⟨h0 x hx q a, fun u hu => h3 u x hu hx q (b u hu), fun u hu => ⟨hL x u (by omega) hu (Or.inl q) (c u hu).1, hL u x hu (by omega) (Or.inr q) (c u hu).2⟩⟩
theorem IK.lane {N A : Nat} {S : St} (h : IK N S) (hI : Inv N A S) {f g : Nat} (hf : f < N) (hg : g < N) (h16 : N ≤ 16) (hx : xL S (16 * f + g) ≠ []) : Ub S f ∧ Ub S g :=
  ⟨fun q => hx ((h f hf q).2.2 g (by omega)).1, fun q => hx ((h g hg q).2.2 f (by omega)).2⟩
theorem IK.engd {N A : Nat} {S : St} (h : IK N S) (hI : Inv N A S) (h16 : N ≤ 16) {u a : Nat} (hu : u < N) (ha : a < N) {s : Int32} (he : eng S a u = some s) : Ub S u ∧ Ub S a := by
  have j := hI.2.2.2.2.2.2.1 u hu a ha
  rw [oe_99 (by omega), he] at j
  have key : xL S (16 * u + a) = [] → opn S u a = none → False := by
    intro e1 e2
    rw [e1, e2] at j
    cases j
  refine ⟨fun q => key ((h u hu q).2.2 a (by omega)).1 ?_, fun q => key ((h a ha q).2.2 u (by omega)).2 ?_⟩
  · unfold opn; rw [if_neg (fun z => z.1 (h u hu q).1)]
  · unfold opn; rw [if_neg]
    rintro ⟨_, z⟩
    rw [(h a ha q).2.1 u hu] at z
    cases z
theorem IK.wtr {N A : Nat} {S : St} (h : IK N S) (hI : Inv N A S) (h16 : N ≤ 16) {a : Nat} (ha : a < N) {w : Wtr} (hw : w ∈ xW S a) : Ub S w.1 ∧ Ub S a := by
  have hF := hI.2.2.2.2.2.1 a (by omega)
  have hw1 := (hF.1.2.2 w hw).1
  by_cases c : xR S 8 a = nI w.1
  · exact h.engd hI h16 hw1 ha (s := xR S 9 a) (by unfold eng; rw [if_pos c])
  · exact h.engd hI h16 hw1 ha (s := w.2) (by unfold eng; rw [if_neg c]; exact (engW_some hF.1.2.1).mpr hw)
theorem IK.grd {N A : Nat} {S : St} (h : IK N S) (hI : Inv N A S) (h16 : N ≤ 16) {a g : Nat} (ha : a < N) (hg : g < N) (he : xR S 8 a = nI g) : Ub S g ∧ Ub S a :=
  h.engd hI h16 hg ha (s := xR S 9 a) (by unfold eng; rw [if_pos he])
theorem IK.use {N : Nat} {S : St} (h : IK N S) {u i : Nat} (hu : u < N) (hi : i < N) (hb : bt (xR S 3 u) i = true) : Ub S i := fun q => by
  rw [(h i hi q).2.1 u hu] at hb
  cases hb
def IQ (N : Nat) (S : St) : Prop := ∀ a, a < N → IQa S a
def IX (N : Nat) (S : St) : Prop := IQ N S ∧ IV N S ∧ IK N S
theorem IQ.at {N a : Nat} {S S' : St} (h : IQ N S) (ha : IQa S' a) (hW : ∀ b, b ≠ a → xW S' b = xW S b) (hR : ∀ k b, b ≠ a → k = 8 ∨ k = 9 ∨ k = 10 → xR S' k b = xR S k b) : IQ N S' := by
  intro b hb
  by_cases c : b = a
  · rw [c]; exact ha
  · exact (h b hb).cg (hW b c) (hR 8 b c (by omega)) (hR 9 b c (by omega)) (hR 10 b c (by omega))
theorem IQ.cg {N : Nat} {S S' : St} (h : IQ N S) (hW : xW S' = xW S) (hR : ∀ k b, k = 8 ∨ k = 9 ∨ k = 10 → xR S' k b = xR S k b) : IQ N S' :=
  fun b hb => (h b hb).cg (by rw [hW]) (hR 8 b (by omega)) (hR 9 b (by omega)) (hR 10 b (by omega))
theorem iq_R {t : Int32} {v f : Nat} {S : St} {k u : Nat} (hk : k ≠ 16) (h : u ≠ v ∨ (k ≠ 4 ∧ k ≠ 5 ∧ k ≠ 6)) : xR (iq t v f S) k u = xR S k u := by
  unfold iq
  split
  · split
    · rw [xR_uR, if_neg (by omega)]
    · exact yT_R hk (by omega)
  · rfl
theorem iq_W {t : Int32} {v f : Nat} {S : St} : xW (iq t v f S) = xW S := by
  unfold iq
  split
  · split <;> rfl
  · rfl
theorem lwa_e {a l : Nat} {x : Ltr} {k : Nat} (hk : k < 6) (e : x.1 = nI k) : lwa a (l, x) = if (if k = 0 ∨ k = 4 ∨ k = 5 then l % 16 else l / 16) = a then 1 else 0 := by
  unfold lwa larb
  have n : ∀ j, j < 6 → (nI k = nI j ↔ k = j) := fun j hj => nI_eq (by omega) (by omega)
  rw [show ((l, x) : Nat × Ltr).2.1 = x.1 from rfl, e]
  simp only [n 0 (by decide), n 4 (by decide), n 5 (by decide)]
set_option maxHeartbeats 1000000 in
theorem br_X {N A : Nat} {S : St} (h : Inv N A S) (h16 : N ≤ 16) (hA : A < 1048576) (hX : IX N S) {f g : Nat} (hf : f < N) (hg : g < N) (t : Int32) : IX N (br t N f g S) ∧ ∀ a, a < 16 → Ph a (br t N f g S) ≤ Ph a S := by
  unfold br
  cases hx : xL S (16 * f + g) with
  | nil => exact ⟨hX, fun a _ => Nat.le_refl _⟩
  | cons x r =>
    simp only []
    obtain ⟨hQ, hV, hK⟩ := hX
    obtain ⟨uf, ug⟩ := hK.lane h hf hg h16 (by rw [hx]; simp)
    obtain ⟨⟨k, hk, ek⟩, n, hn, en⟩ := (h.2.2.2.2.1 _ (show 16 * f + g < 256 by omega)).1 x (by rw [hx]; simp)
    have kk : x.1.toNatClampNeg = k := by rw [ek, nI_clamp (by omega)]
    rw [kk, en]
    obtain ⟨h1, p0, p5, pz⟩ := h.pop h16 hf hg hx
    have wl := wt_WL N k f g (nI n) (uL S (16 * f + g) r)
    have sm := wt_S N k f g (nI n) (uL S (16 * f + g) r)
    have w7 : ∀ b, xR (wt N k f g (nI n) (uL S (16 * f + g) r)) 7 b = xR S 7 b := fun b => wt_R (by decide) (by decide) (by decide) b
    have h2 := h1.reg sm wl.2
    have h3 := h2.clk h16 hA (g := g) (s := n) (by omega) hn
    have pay : ∀ a, phL a S = phL a (uL S (16 * f + g) r) + (if (if k = 0 ∨ k = 4 ∨ k = 5 then g else f) = a then 1 else 0) := fun a => by
      rw [phL_pop (show 16 * f + g < 256 by omega) hx, lwa_e hk ek, show (16 * f + g) % 16 = g by omega, show (16 * f + g) / 16 = f by omega]
    generalize hS2 : wt N k f g (nI n) (uL S (16 * f + g) r) = S2 at h2 h3 wl sm w7
    unfold rd
    simp only []
    have e2 : ∀ b u, eng S2 b u = eng S b u := fun b u => by
      unfold eng
      rw [sm.2 8 (by decide) (by decide), sm.2 9 (by decide) (by decide), sm.1]
      rfl
    have q2 : ∀ k, k < 11 → k ≠ 6 → ∀ i, xR S2 k i = xR S k i := fun k hk hk6 i => sm.2 k hk hk6 i
    generalize hS3 : (if nI n ≤ xR S2 1 g then S2 else uR S2 1 g (nI n)) = S3 at h3
    have r3 : ∀ k, k ≠ 1 → ∀ i, xR S3 k i = xR S2 k i := fun k hk i => by rw [← hS3]; exact clk_R hk
    have w3 : xW S3 = xW S2 := by rw [← hS3]; unfold xW; rw [clk_2]
    have l3 : xL S3 = xL S2 := by rw [← hS3]; unfold xL; rw [clk_2]
    have e3 : ∀ b u, eng S3 b u = eng S b u := fun b u => by
      rw [← e2]
      unfold eng
      rw [r3 8 (by decide), r3 9 (by decide), w3]
    have wS : xW S3 = xW S := by rw [w3, sm.1]; rfl
    have rS : ∀ k, k < 11 → k ≠ 6 → k ≠ 1 → ∀ i, xR S3 k i = xR S k i := fun k hk h6 h1 i => (r3 k h1 i).trans (q2 k hk h6 i)
    have lS : xL S3 = xL (uL S (16 * f + g) r) := l3.trans wl.2
    have r7 : ∀ i, xR S3 7 i = xR S 7 i := rS 7 (by decide) (by decide) (by decide)
    have L3 : LK S S3 := fun f' g' hf' hg' z e => by rw [lS]; exact LK.pop hx f' g' hf' hg' z e
    have U3 : ∀ {u}, Ub S u → Ub S3 u := fun z => by unfold Ub; rw [r7]; exact z
    have Q3 : IQ N S3 := hQ.cg wS (fun k b hk => rS k (by omega) (by omega) (by omega) b)
    have V3 : IV N S3 := hV.cg (fun k v hk => rS k (by omega) (by omega) (by omega) v)
    have P3 : ∀ a, Ph a S = Ph a S3 + (if (if k = 0 ∨ k = 4 ∨ k = 5 then g else f) = a then 1 else 0) := fun a => by
      have e1 : phB a S3 = phB a S := phB_c (fun k v hk => rS k (by omega) (by omega) (by omega) v)
      have e2 : phL a S3 = phL a (uL S (16 * f + g) r) := phL_c lS
      have := pay a
      unfold Ph
      omega
    have hW3 : ∀ w, w ∈ xW S3 g → w.1 < 16 ∧ Ub S3 w.1 := fun w hw => by
      rw [wS] at hw
      have := ((h.2.2.2.2.2.1 g (by omega)).1.2.2 w hw).1
      exact ⟨by omega, U3 (hK.wtr h h16 hg hw).1⟩
    have hF3 := h3.2.2.2.2.2.1 g (by omega)
    have G3 : xR S3 8 g = -1 ∨ ∃ y, y < 16 ∧ xR S3 8 g = nI y ∧ Ub S3 y := by
      rcases hF3.2.2 with z | ⟨y, z1, z2, _⟩
      · exact Or.inl z.1
      · exact Or.inr ⟨y, by omega, z2, U3 (hK.grd h h16 hg z1 (by rw [← rS 8 (by decide) (by decide) (by decide)]; exact z2)).1⟩
    have fin : ∀ {S4 : St}, IQ N S4 → IV N S4 → LK S3 S4 → (∀ i, xR S4 7 i = xR S3 7 i) → (∀ i, i < N → xR S3 7 i = 1 → xR S3 0 i = 0 → xR S4 0 i = 0) → (∀ i, xR S4 3 i = xR S3 3 i) → (∀ a, a < 16 → Ph a S4 ≤ Ph a S3 + (if (if k = 0 ∨ k = 4 ∨ k = 5 then g else f) = a then 1 else 0)) → IX N S4 ∧ ∀ a, a < 16 → Ph a S4 ≤ Ph a S := by
      intro S4 a1 a2 a3 a4 a5 a6 a7
      refine ⟨⟨a1, a2, hK.st h16 (fun i => (a4 i).trans (r7 i)) (fun i hi z1 z2 => a5 i hi (by rw [r7]; exact z1) (by rw [rS 0 (by decide) (by decide) (by decide)]; exact z2)) (fun u i hu hi _ z => by rw [a6, rS 3 (by decide) (by decide) (by decide)]; exact z) (L3.tr r7 a3)⟩, fun a ha => ?_⟩
      have := a7 a ha
      have := P3 a
      omega
    by_cases k0 : k = 0
    · rw [if_pos k0]
      subst k0
      have hn2 : f ∉ (xW S3 g).map Prod.fst := by
        have := p0 ek
        rw [← e3] at this
        unfold eng at this
        split at this
        · cases this
        · exact engW_none.mp this
      refine fin (Q3.at (rq_IQ h16 hf hn hF3.1 hn2 (Q3 g hg)) (fun b hb => rq_Wo hb) (fun k b hb hk => rq_R (Or.inl hb) (by omega))) (V3.cg (fun k v hk => rq_R (by omega) (by omega))) (LK.trq (by omega) (by omega) hW3 (U3 ug) (U3 uf) G3) (fun i => rq_R (by omega) (by decide)) (fun i _ _ z => by rw [rq_R (by omega) (by decide)]; exact z) (fun i => rq_R (by omega) (by decide)) (fun a _ => ?_)
      rw [if_pos (show (0 : Nat) = 0 ∨ (0 : Nat) = 4 ∨ (0 : Nat) = 5 by decide)]
      exact Nat.le_trans (rq_Ph h16 hg hf hF3.1 (by rcases G3 with z | ⟨y, z1, z2, _⟩; exact Or.inl z; exact Or.inr ⟨y, z1, z2⟩) (Q3 g hg)) (Nat.add_le_add_left (ite_le (fun z => z.symm)) _)
    · rw [if_neg k0]
      by_cases k4 : k = 4
      · rw [if_pos k4]
        subst k4
        refine fin (Q3.at (yl_IQ h16 hf hn hF3.1 (fun z => ?_) (Q3 g hg)) (fun b hb => yl_Wo hb) (fun k b hb hk => yl_R (Or.inl hb) (by omega))) (V3.cg (fun k v hk => yl_R (by omega) (by omega))) (LK.tyl (by omega) (by omega) hW3 (U3 ug) (U3 uf)) (fun i => yl_R (by omega) (by decide)) (fun i _ _ z => by rw [yl_R (by omega) (by decide)]; exact z) (fun i => yl_R (by omega) (by decide)) (fun a _ => ?_)
        · rcases hF3.2.2 with y | ⟨y, z1, z2, z3, _⟩
          · rw [y.1] at z; exact absurd z (m1_ne (by omega))
          · have : y = f := (nI_eq (by omega) (by omega)).mp (z2.symm.trans z)
            rw [← this]; exact z3
        · rw [if_pos (show (4 : Nat) = 0 ∨ (4 : Nat) = 4 ∨ (4 : Nat) = 5 by decide)]
          exact Nat.le_trans (yl_Ph h16 hg hf hF3.1) (Nat.add_le_add_left (ite_le (fun z => z.symm)) _)
      · rw [if_neg k4]
        by_cases k5 : k = 5
        · rw [if_pos k5]
          subst k5
          refine fin (Q3.at (rl_IQ hF3.1 (Q3 g hg)) (fun b hb => rl_Wo hb) (fun k b hb hk => rl_R (Or.inl hb) (by omega))) (V3.cg (fun k v hk => rl_R (by omega) (by omega))) (LK.trl (by omega) hW3 (U3 ug)) (fun i => rl_R (by omega) (by decide)) (fun i _ _ z => by rw [rl_R (by omega) (by decide)]; exact z) (fun i => rl_R (by omega) (by decide)) (fun a _ => ?_)
          rw [if_pos (show (5 : Nat) = 0 ∨ (5 : Nat) = 4 ∨ (5 : Nat) = 5 by decide)]
          exact Nat.le_trans (rl_Ph h16 hg hF3.1) (Nat.add_le_add_left (ite_le (fun z => z.symm)) _)
        · rw [if_neg k5]
          have ka : ∀ a, (if (if k = 0 ∨ k = 4 ∨ k = 5 then g else f) = a then 1 else 0 : Nat) = if a = f then 1 else 0 := fun a => by
            rw [if_neg (show ¬ (k = 0 ∨ k = 4 ∨ k = 5) by omega)]
            by_cases c : f = a
            · rw [if_pos c, if_pos c.symm]
            · rw [if_neg c, if_neg (fun z => c z.symm)]
          split
          · rename_i c
            have c0 : xR S 0 g = 1 := by rw [← rS 0 (by decide) (by decide) (by decide)]; exact c.1
            have ud : ∀ i, i < N → bt (xR S3 5 g) i = true → Ub S3 i := fun i hi hb => by
              rw [rS 5 (by decide) (by decide) (by decide)] at hb
              exact U3 (hK.use hg hi ((h.2.2.1 g (by omega) c0 i (by omega)).2 hb))
            have z0 : ∀ i, i < N → xR S3 7 i = 1 → xR S3 0 i = 0 → i ≠ g := fun i _ _ z e => by
              rw [e, c.1] at z; exact absurd z (by decide)
            split
            · refine fin (Q3.cg gr_WL.1 (fun k b hk => gr_R (by omega) (by omega))) (V3.tgr h16 c.1 t) (LK.eq gr_WL.2) (fun i => gr_R (by decide) (by omega)) (fun i hi q z => by rw [gr_R (by decide) (Or.inl (z0 i hi q z))]; exact z) (fun i => gr_R (by decide) (by omega)) (fun a ha => ?_)
              rw [ka]; exact gr_Ph (by omega) (by omega) ha
            · split
              · refine fin (Q3.cg fd_W (fun k b hk => fd_R (by omega) (by omega))) ?_ (LK.tfd h16 (by omega) (U3 ug) ud) (fun i => fd_R (by decide) (by omega)) (fun i _ _ z => by rw [fd_R (by decide) (by omega)]; exact z) (fun i => fd_R (by decide) (by omega)) (fun a ha => ?_)
                · intro u hu z2 i hi hb
                  by_cases cu : u = g
                  · subst cu
                    rw [fd_R (by decide) (by omega), c.1] at z2
                    exact absurd z2 (by decide)
                  · rw [fd_R (by decide) (by omega)] at z2 hb ⊢
                    exact V3 u hu z2 i hi hb
                    
                · exact Nat.le_trans (fd_Ph h16 (by omega) ha) (Nat.le_add_right _ _)
              · refine fin (Q3.cg iq_W (fun k b hk => iq_R (by omega) (by omega))) ?_ (LK.tiq (by omega) (by omega) (U3 ug) (U3 uf)) (fun i => iq_R (by decide) (by omega)) (fun i _ _ z => by rw [iq_R (by decide) (by omega)]; exact z) (fun i => iq_R (by decide) (by omega)) (fun a ha => ?_)
                · intro u hu z2 i hi hb
                  by_cases cu : u = g
                  · subst cu
                    rw [iq_R (by decide) (by omega), c.1] at z2
                    exact absurd z2 (by decide)
                  · rw [iq_R (by decide) (by omega)] at z2 hb ⊢
                    exact V3 u hu z2 i hi hb
                · rw [ka]; exact iq_Ph (by omega) (by omega) ha
          · exact fin Q3 V3 (LK.rf _) (fun _ => rfl) (fun _ _ _ z => z) (fun _ => rfl) (fun a _ => Nat.le_add_right _ _)
/-! ===== of which nodes a quorum is: none broken, none behind the last ===== -/
theorem bk_b {S : St} (h7 : ∀ v, v < 16 → xR S 7 v = 0 ∨ xR S 7 v = 1) : ∀ (d i : Nat) (x : Int32) (u : Nat), i + d ≤ 16 → u < 32 → bt (bk i d S x) u = (bt x u || decide (i ≤ u ∧ u < i + d ∧ xR S 7 u = 1)) := by
  intro d
  induction d with
  | zero =>
    intro i x u hi hu
    rw [show decide (i ≤ u ∧ u < i + 0 ∧ xR S 7 u = 1) = false from decide_eq_false (by omega), Bool.or_false]; rfl
  | succ d ih =>
    intro i x u hi hu
    unfold bk
    rw [List.range'_succ, List.foldl_cons]
    have := ih (i + 1) (x ||| (xR S 7 i <<< (nI i &&& 31))) u (by omega) hu
    unfold bk at this
    rw [this, b_or, b_shl i (by omega) _ hu, Bool.or_assoc]
    congr 1
    rcases h7 i (by omega) with z | z
    · rw [z, b_0, Bool.and_false, Bool.false_or]
      apply decide_eq_decide.mpr
      constructor
      · rintro ⟨a, b, c⟩; exact ⟨by omega, by omega, c⟩
      · rintro ⟨a, b, c⟩
        by_cases e : i = u
        · rw [← e, z] at c; exact absurd c (by decide)
        · exact ⟨by omega, by omega, c⟩
    · rw [z]
      by_cases e : i = u
      · subst e
        rw [Nat.sub_self, b_1 0 (by decide)]
        simp [z]
      · have e1 : (decide (i ≤ u) && bt 1 (u - i)) = false := by
          by_cases c : i ≤ u
          · rw [b_1 (u - i) (by omega)]
            simp; omega
          · simp [c]
        rw [e1, Bool.false_or]
        apply decide_eq_decide.mpr
        constructor
        · rintro ⟨a, b, c⟩; exact ⟨by omega, by omega, c⟩
        · rintro ⟨a, b, c⟩; exact ⟨by omega, by omega, c⟩
theorem bkm_b {N : Nat} {S : St} (h16 : N ≤ 16) (h7 : ∀ v, v < 16 → xR S 7 v = 0 ∨ xR S 7 v = 1) {u : Nat} (hu : u < 32) : bt (bkm N S) u = decide (u < N ∧ xR S 7 u = 1) := by
  unfold bkm
  rw [bk_b h7 N 0 0 u (by omega) hu, b_0, Bool.false_or]
  apply decide_eq_decide.mpr
  constructor
  · rintro ⟨a, b, c⟩; exact ⟨by omega, c⟩
  · rintro ⟨b, c⟩; exact ⟨by omega, by omega, c⟩
/-- all bits below N, none of b's -/
def Of (N : Nat) (b x : Int32) : Prop := ∀ i, i < 32 → bt x i = true → i < N ∧ bt b i = false
theorem Of.z (N : Nat) (b : Int32) : Of N b 0 := fun i _ h => by rw [b_0] at h; cases h
theorem Of.one {N : Nat} {b : Int32} {v : Nat} (hv : v < N) (h16 : N ≤ 16) (hb : bt b v = false) : Of N b ((1 : Int32) <<< (nI v &&& 31)) := fun i hi h => by
  rw [b_one (by omega) hi] at h
  have := of_decide_eq_true h
  subst this
  exact ⟨hv, hb⟩
theorem Of.or {N : Nat} {b x y : Int32} (h : Of N b x) (h' : Of N b y) : Of N b (x ||| y) := fun i hi q => by
  rw [b_or] at q
  rcases Bool.or_eq_true _ _ |>.mp q with q | q
  · exact h i hi q
  · exact h' i hi q
theorem wh_of {N : Nat} (h16 : N ≤ 16) (hN : N % 2 = 1) (b : Int32) : ∀ (d v : Nat), v + d = N → v < N → Of N b (wh N b v) := by
  intro d
  induction d using Nat.strongRecOn with
  | ind d ih =>
    intro v hv hvN
    have hb : bt b v = true ∨ bt b v = false := by cases bt b v <;> simp
    rw [wh_e b hvN hN]
    by_cases c : 2 * v + 1 < N
    · have hl : Of N b (wh N b (2 * v + 1)) := ih (N - (2 * v + 1)) (by omega) (2 * v + 1) (by omega) c
      have hr : Of N b (wh N b (2 * v + 2)) := ih (N - (2 * v + 2)) (by omega) (2 * v + 2) (by omega) (by omega)
      simp only [c, if_true]
      split
      · split
        · exact Of.z N b
        · split
          · exact Of.z N b
          · exact hl.or hr
      · rename_i q
        have qf : bt b v = false := hb.resolve_left q
        split
        · split
          · exact Of.z N b
          · exact hr.or (Of.one hvN h16 qf)
        · exact hl.or (Of.one hvN h16 qf)
    · simp only [c, if_false]
      split
      · simp; exact Of.z N b
      · rename_i q
        exact Of.one hvN h16 (hb.resolve_left q)
def BI (N : Nat) (S : St) : Prop := ∀ v, v < N → ∀ i, N ≤ i → i < 32 → bt (xR S 17 v) i = false
theorem base_of {N : Nat} {S : St} (hB : BI N S) {v : Nat} (hv : v < N) {b : Int32} (h : xR S 17 v &&& b = 0) : Of N b (xR S 17 v) := fun i hi q => by
  have q1 := bt_z.mp h i hi
  rw [b_and, q, Bool.true_and] at q1
  refine ⟨?_, q1⟩
  apply Decidable.byContradiction
  intro c
  rw [hB v hv i (by omega) hi] at q
  cases q
theorem fub_of {N : Nat} {S : St} (hB : BI N S) (b : Int32) : Of N b (fub 0 N S b) := by
  unfold fub
  cases h : (List.range' 0 N).find? (fun w => decide (xR S 17 w &&& b = 0)) with
  | none => exact Of.z N b
  | some w =>
    have h1 := List.find?_some h
    have h2 := List.mem_of_find?_eq_some h
    have : w < N := by
      rw [List.mem_range'_1] at h2; omega
    exact base_of hB this (of_decide_eq_true h1)
theorem qby_of {N : Nat} {S : St} (hB : BI N S) (h16 : N ≤ 16) (h0 : 0 < N) (ht : xR S 20 1 = 1 → N % 2 = 1) {v : Nat} (hv : v < N) (b : Int32) : Of N b (qby N S v b) := by
  unfold qby
  split
  · rename_i h
    exact base_of hB hv h
  · split
    · rename_i h
      exact wh_of h16 (ht h) b N 0 (by omega) h0
    · exact fub_of hB b
theorem qm_hi {N : Nat} {S : St} (hB : BI N S) (h16 : N ≤ 16) (ht : xR S 20 1 = 1 → N % 2 = 1) : ∀ v, v < N → ∀ i, N ≤ i → i < 32 → bt (qm N S v) i = false := by
  intro v hv i hi hi2
  cases h : bt (qm N S v) i with
  | false => rfl
  | true =>
    have := (qby_of hB h16 (by omega) ht hv (bkm N S) i hi2 h).1
    omega
theorem qm_ub {N : Nat} {S : St} (hB : BI N S) (h16 : N ≤ 16) (ht : xR S 20 1 = 1 → N % 2 = 1) (h7 : ∀ v, v < 16 → xR S 7 v = 0 ∨ xR S 7 v = 1) {v : Nat} (hv : v < N) : ∀ i, i < N → bt (qm N S v) i = true → Ub S i := by
  intro i hi h q
  have := (qby_of hB h16 (by omega) ht hv (bkm N S) i (by omega) h).2
  rw [bkm_b h16 h7 (by omega), decide_eq_false_iff_not] at this
  exact this ⟨hi, q⟩
/-! ===== leaving, asking: what they cost ===== -/
theorem lv_phv {t : Int32} {N v a : Nat} {S : St} : phv (lv t N v S) a v = 0 := by
  unfold phv
  have e : ∀ k, 3 ≤ k → k ≤ 6 → xR (lv t N v S) k v = 0 := fun k h1 h2 => by rw [lv_R (by omega), if_pos ⟨rfl, Or.inr ⟨h1, h2⟩⟩]
  rw [e 4 (by decide) (by decide), e 3 (by decide) (by decide), e 5 (by decide) (by decide), b_0]
  simp
theorem lv_phL {t : Int32} {N v a : Nat} {S : St} (h16 : N ≤ 16) (hv : v < 16) : phL a (lv t N v S) = phL a S + (if a < N ∧ bt (xR S 3 v) a = true then 1 else 0) := by
  unfold lv
  rw [phL_sA h16 hv (by omega), phL_c (S' := rst v S) (S := S) rfl]
theorem lv_W {t : Int32} {N v : Nat} {S : St} : xW (lv t N v S) = xW S := by unfold lv; rw [sA_W]; rfl
theorem lv_X {N A : Nat} {S : St} (hI : Inv N A S) (h16 : N ≤ 16) (hX : IX N S) {v : Nat} (hv : v < N) (h0 : xR S 0 v ≠ 0) (t : Int32) : IX N (lv t N v S) ∧ ∀ a, a < 16 → Ph a (lv t N v S) ≤ Ph a S + (if xR S 0 v = 2 then 0 else 1) := by
  obtain ⟨hQ, hV, hK⟩ := hX
  refine ⟨⟨hQ.cg lv_W (fun k b hk => by rw [lv_R (by omega), if_neg (by omega)]), ?_, ?_⟩, fun a ha => ?_⟩
  · intro u hu h2 i hi hb
    by_cases c : u = v
    · subst c
      rw [lv_R (by decide), if_pos ⟨rfl, by omega⟩] at h2
      exact absurd h2 (by decide)
    · rw [lv_R (by decide), if_neg (by omega)] at h2 hb ⊢
      exact hV u hu h2 i hi hb
  · refine hK.st h16 (fun x => by rw [lv_R (by decide), if_neg (by omega)]) (fun x hx _ z => ?_) (fun u x hu hx _ z => ?_) ?_
    · rw [lv_R (by decide)]; split
      · rfl
      · exact z
    · rw [lv_R (by decide)]; split
      · exact b_0 _
      · exact z
    · have uv : Ub S v := fun q => h0 (hK v hv q).1
      have r7 : ∀ x, xR (rst v S) 7 x = xR S 7 x := fun x => by rw [rst_R, if_neg (by omega)]
      refine LK.tr (S' := rst v S) (LK.eq rfl) r7 ?_
      exact LK.tsA h16 (by omega) (by unfold Ub; rw [r7]; exact uv) (fun i hi hb => by unfold Ub; rw [r7]; exact hK.use hv hi hb)
  · refine Ph_at (v := v) (by omega) (fun k u hu hk => by rw [lv_R (by omega), if_neg (by omega)]) (d := if a < N ∧ bt (xR S 3 v) a = true then 1 else 0) (Nat.le_of_eq (lv_phL h16 (by omega))) ?_
    rw [lv_phv]
    by_cases c : xR S 0 v = 2
    · rw [if_pos c]
      unfold phv
      have : (if a < N ∧ bt (xR S 3 v) a = true then 1 else 0 : Nat) ≤ if bt (xR S 4 v) a = true ∧ bt (xR S 3 v) a = true then 1 else 0 := ite_le (fun z => ⟨hV v hv c a z.1 z.2, z.2⟩)
      omega
    · rw [if_neg c]
      have : (if a < N ∧ bt (xR S 3 v) a = true then 1 else 0 : Nat) ≤ 1 := by split <;> omega
      omega
theorem ak_phv {t : Int32} {N v a : Nat} {S : St} : phv (ak t N v S) a v = 0 := by
  unfold phv
  have e4 : xR (ak t N v S) 4 v = 0 := by rw [ak_R (by decide), if_pos rfl]; rfl
  have e5 : xR (ak t N v S) 5 v = 0 := by rw [ak_R (by decide), if_pos rfl]; rfl
  rw [e4, e5, b_0]
  simp
theorem ak_phL {t : Int32} {N v a : Nat} {S : St} (h16 : N ≤ 16) (hv : v < 16) : phL a (ak t N v S) = phL a S + (if a < N ∧ bt (qm N S v) a = true then 1 else 0) := by
  unfold ak
  simp only []
  rw [phL_sA h16 hv (by omega)]
  rfl
theorem ak_Ro {t : Int32} {N v : Nat} {S : St} {k u : Nat} (hk : k ≠ 16) (hu : u ≠ v) : xR (ak t N v S) k u = xR S k u := by rw [ak_R hk, if_neg hu]
theorem ak_Rk {t : Int32} {N v : Nat} {S : St} {k u : Nat} (hk : 7 ≤ k ∧ k ≠ 13 ∧ k ≠ 14 ∧ k ≠ 16) : xR (ak t N v S) k u = xR S k u := by
  rw [ak_R (by omega)]
  by_cases c : u = v
  · rw [if_pos c, if_neg (by omega), if_neg (by omega), if_neg (by omega), if_neg (by omega), if_neg (by omega), if_neg (by omega), if_neg (by omega), if_neg (by omega), if_neg (by omega)]
  · rw [if_neg c]
theorem ak_X {N : Nat} {S : St} (h16 : N ≤ 16) (hX : IX N S) {v : Nat} (hv : v < N) (h7 : Ub S v) (hU : ∀ i, i < N → bt (qm N S v) i = true → Ub S i) (t : Int32) : IX N (ak t N v S) ∧ ∀ a, a < 16 → Ph a (ak t N v S) ≤ Ph a S + (if a < N ∧ bt (qm N S v) a = true then 1 else 0) := by
  obtain ⟨hQ, hV, hK⟩ := hX
  refine ⟨⟨hQ.cg ak_W (fun k b hk => ak_Rk (by omega)), ?_, ?_⟩, fun a ha => ?_⟩
  · intro u hu h2 i hi hb
    by_cases c : u = v
    · subst c
      have : xR (ak t N u S) 0 u = 1 := by rw [ak_R (by decide), if_pos rfl]; rfl
      rw [this] at h2
      exact absurd h2 (by decide)
    · rw [ak_Ro (by decide) c] at h2 hb ⊢
      exact hV u hu h2 i hi hb
  · refine hK.st h16 (fun x => ak_Rk (by omega)) (fun x hx q z => ?_) (fun u x hu hx q z => ?_) ?_
    · by_cases c : x = v
      · subst c; exact absurd q h7
      · rw [ak_Ro (by decide) c]; exact z
    · by_cases c : u = v
      · subst c
        have : xR (ak t N u S) 3 u = qm N S u := by rw [ak_R (by decide), if_pos rfl]; rfl
        rw [this]
        cases hb : bt (qm N S u) x with
        | false => rfl
        | true => exact absurd q (hU x hx hb)
      · rw [ak_Ro (by decide) c]; exact z
    · intro f g hf hg q e
      rw [ak_L h16 (by omega) (by omega), if_neg]
      · exact e
      · rintro ⟨z1, z2, z3⟩
        have e1 : f = v := by omega
        have e2 : (16 * f + g) % 16 = g := by omega
        rw [e2] at z2 z3
        subst e1
        exact q.elim h7 (hU g z2 z3)
  · refine Ph_at (v := v) (by omega) (fun k u hu hk => ak_Ro (by omega) hu) (d := if a < N ∧ bt (qm N S v) a = true then 1 else 0) (Nat.le_of_eq (ak_phL h16 (by omega))) ?_
    rw [ak_phv]
    omega
/-! ===== alike states pay alike ===== -/
theorem SE.tphv {S S' : St} (h : SE S S') (a : Nat) {v : Nat} (hv : v < 16) : phv S a v = phv S' a v := by
  unfold phv
  rw [h.1 3 v (by omega) hv, h.1 4 v (by omega) hv, h.1 5 v (by omega) hv]
def lqa (a : Nat) (q : Nat × (Int32 × Int32)) : Nat := if larb q.1 q.2.1 = a then 1 else 0
theorem lq_e (S : St) : (fl S).map (fun q => ((q.1, lk q.2) : Nat × (Int32 × Int32))) = (List.range 256).flatMap fun l => ((xL S l).map lk).map fun x => (l, x) := by
  unfold fl
  rw [List.map_flatMap]
  apply fm_cg
  intro l _
  rw [List.map_map, List.map_map]
  rfl
theorem SE.tphL {S S' : St} (h : SE S S') (a : Nat) : phL a S = phL a S' := by
  have e : ∀ T : St, phL a T = (((fl T).map (fun q => ((q.1, lk q.2) : Nat × (Int32 × Int32)))).map (lqa a)).sum := fun T => by
    unfold phL
    rw [List.map_map]
    rfl
  rw [e, e, lq_e, lq_e]
  congr 2
  apply fm_cg
  intro l hl
  rw [h.2.2 l (List.mem_range.mp hl)]
theorem SE.tPh {S S' : St} (h : SE S S') (a : Nat) : Ph a S = Ph a S' := by
  unfold Ph phB
  rw [h.tphL a, smN_c 16 (fun v hv => h.tphv a hv)]
def PhS (S : St) : Nat := smN (fun a => Ph a S) 16
theorem SE.tPhS {S S' : St} (h : SE S S') : PhS S = PhS S' := smN_c 16 (fun a _ => h.tPh a)
theorem fl_PhS (S : St) : (fl S).length ≤ PhS S := fl_Ph S
theorem SE.tnil {S S' : St} (h : SE S S') {l : Nat} (hl : l < 256) (e : xL S l = []) : xL S' l = [] := by
  have := h.2.2 l hl
  rw [e] at this
  cases q : xL S' l with
  | nil => rfl
  | cons x r => rw [q] at this; cases this
theorem SE.tix {S S' : St} (h : SE S S') {N : Nat} (h16 : N ≤ 16) (hX : IX N S) : IX N S' := by
  obtain ⟨hQ, hV, hK⟩ := hX
  refine ⟨fun a ha => (hQ a ha).cg (h.2.1 a (by omega)).symm (h.1 8 a (by omega) (by omega)).symm (h.1 9 a (by omega) (by omega)).symm (h.1 10 a (by omega) (by omega)).symm, fun v hv => ?_, fun x hx => ?_⟩
  · rw [← h.1 0 v (by omega) (by omega), ← h.1 3 v (by omega) (by omega), ← h.1 4 v (by omega) (by omega)]
    exact hV v hv
  · rw [← h.1 7 x (by omega) (by omega), ← h.1 0 x (by omega) (by omega)]
    intro q
    obtain ⟨a, b, c⟩ := hK x hx q
    exact ⟨a, fun u hu => by rw [← h.1 3 u (by omega) (by omega)]; exact b u hu, fun u hu => ⟨h.tnil (by omega) (c u hu).1, h.tnil (by omega) (c u hu).2⟩⟩
/-- the quorums are of unbroken nodes -/
def QU (N : Nat) (S : St) : Prop := ∀ v, v < N → ∀ i, i < N → bt (qm N S v) i = true → Ub S i
theorem QU.k {N : Nat} {S S' : St} (h : QU N S) (q : Qk S S') : QU N S' := fun v hv i hi hb => by
  unfold Ub
  rw [q 7 (by omega)]
  exact h v hv i hi (by rw [← q.m N v]; exact hb)
theorem smN_lt {f : Nat → Nat} (N : Nat) (b : Nat → Bool) : ∀ n, smN (fun a => if a < N ∧ b a = true then 1 else 0) n ≤ min n N := by
  intro n
  induction n with
  | zero => exact Nat.zero_le _
  | succ n ih =>
    show smN _ n + (if n < N ∧ b n = true then 1 else 0) ≤ _
    by_cases c : n < N ∧ b n = true
    · rw [if_pos c]; omega
    · rw [if_neg c]; omega
/-- one move more, alike at each arbiter -/
theorem PhS_le {S S' : St} {e : Nat → Nat} (h : ∀ a, a < 16 → Ph a S' ≤ Ph a S + e a) : PhS S' ≤ PhS S + smN e 16 := by
  unfold PhS
  rw [← smN_add]
  exact smN_le 16 h
/-! ===== of the nodes that there are not, nothing moves ===== -/
def Kn (N : Nat) (S S' : St) : Prop := ∀ k, k < 11 → ∀ i, N ≤ i → xR S' k i = xR S k i
theorem Kn.rf (N : Nat) (S : St) : Kn N S S := fun _ _ _ _ => rfl
theorem Kn.tr {N : Nat} {S S' S'' : St} (h : Kn N S S') (h' : Kn N S' S'') : Kn N S S'' := fun k hk i hi => (h' k hk i hi).trans (h k hk i hi)
theorem Kn.eq {N : Nat} {S S' S'' : St} (h : Kn N S S') (e : xR S'' = xR S') : Kn N S S'' := fun k hk i hi => by rw [e]; exact h k hk i hi
theorem Kn.r {N : Nat} (S : St) {k i : Nat} (x : Int32) (h : i < N ∨ 11 ≤ k) : Kn N S (uR S k i x) := fun k' hk' i' hi' => by rw [xR_uR, if_neg (by omega)]
theorem Kn.tsn {N : Nat} (S : St) (t : Int32) (k f g : Nat) (s : Int32) : Kn N S (sn t k f g s S) := fun k' hk' i' _ => sn_R _ _ _ _ _ _ (by omega)
theorem Kn.tsAl {N : Nat} (t : Int32) (k f : Nat) (set s : Int32) (ws : List Nat) (S : St) : Kn N S (sAl t k f set s ws S) := fun k' hk' i' _ => sAl_R _ _ _ _ _ (by omega) _ _
theorem Kn.tW {N : Nat} (S : St) (a : Nat) (w : List Wtr) : Kn N S (uW S a w) := fun _ _ _ _ => rfl
section
variable {N : Nat}
theorem Kn.tnob (S : St) {a : Nat} (h : a < N) : Kn N S (nob a S) := ((Kn.r S (k := 8) _ (Or.inl h)).tr (Kn.r _ (k := 9) _ (Or.inl h))).tr (Kn.r _ (k := 10) _ (Or.inl h))
theorem Kn.tgF (S : St) (t : Int32) {a : Nat} (h : a < N) : Kn N S (gF t a S) := by
  unfold gF
  split
  · exact Kn.tnob S h
  · exact ((((Kn.tnob S h).tr (Kn.r _ (k := 8) _ (Or.inl h))).tr (Kn.r _ (k := 9) _ (Or.inl h))).tr (Kn.tW _ _ _)).tr (Kn.tsn _ _ _ _ _ _)
theorem Kn.trq3 (S : St) (t : Int32) {a : Nat} (h : a < N) : Kn N S (rq3 t a S) := by
  unfold rq3
  split
  · exact Kn.rf N S
  · exact (Kn.r S (k := 10) _ (Or.inl h)).tr (Kn.tsn _ _ _ _ _ _)
theorem Kn.trq2 (S : St) (t : Int32) (a : Nat) (old : List Wtr) : Kn N S (rq2 t a old S) := by
  cases old with
  | nil => exact Kn.rf N S
  | cons w r =>
    show Kn N S (if ahd w.2 (nI w.1) (xR S 9 a) (xR S 8 a) then _ else S)
    split
    · exact Kn.tsn _ _ _ _ _ _
    · exact Kn.rf N S
theorem Kn.trq (S : St) (t : Int32) {a : Nat} (v : Nat) (s : Int32) (h : a < N) : Kn N S (rq t a v s S) := by
  unfold rq
  split
  · exact (Kn.tW S a _).tr (Kn.tgF _ _ h)
  · split
    · exact ((Kn.tW S a _).tr (Kn.trq2 _ _ _ _)).tr (Kn.trq3 _ _ h)
    · exact (Kn.tW S a _).tr (Kn.tsn _ _ _ _ _ _)
theorem Kn.tyl (S : St) (t : Int32) {a : Nat} (v : Nat) (s : Int32) (h : a < N) : Kn N S (yl t a v s S) := by
  unfold yl
  split
  · exact (Kn.tW S a _).tr (Kn.tgF _ _ h)
  · exact Kn.rf N S
theorem Kn.trl (S : St) (t : Int32) {a : Nat} (v : Nat) (s : Int32) (h : a < N) : Kn N S (rl t a v s S) := by
  unfold rl
  split
  · exact Kn.tgF _ _ h
  · exact Kn.tW S a _
theorem Kn.tyT (S : St) (t : Int32) {v : Nat} (a : Nat) (h : v < N) : Kn N S (yT t v a S) := by
  unfold yT
  simp only []
  exact ((Kn.tsn S t 4 v a _).tr (Kn.r _ (k := 4) _ (Or.inl h))).tr (Kn.r _ (k := 6) _ (Or.inl h))
theorem Kn.tfdl (t : Int32) {v : Nat} (d : Int32) (h : v < N) : ∀ (ws : List Nat) (S : St), Kn N S (fdl t v d ws S) := by
  intro ws
  induction ws with
  | nil => intro S; exact Kn.rf N S
  | cons w ws ih =>
    intro S
    have e : fdl t v d (w :: ws) S = fdl t v d ws (if bt d w then yT t v w S else S) := by
      unfold fdl
      rw [List.foldl_cons]
    rw [e]
    refine Kn.tr ?_ (ih _)
    split
    · exact Kn.tyT S t w h
    · exact Kn.rf N S
theorem Kn.tfd (S : St) (t : Int32) {v : Nat} (a : Nat) (h : v < N) : Kn N S (fd t N v a S) := by
  unfold fd
  exact ((Kn.r S (k := 6) _ (Or.inl h)).tr (Kn.tfdl _ _ h _ _)).tr (Kn.r _ (k := 5) _ (Or.inl h))
theorem Kn.tiq (S : St) (t : Int32) {v : Nat} (a : Nat) (h : v < N) : Kn N S (iq t v a S) := by
  unfold iq
  split
  · split
    · exact Kn.r S (k := 5) _ (Or.inl h)
    · exact Kn.tyT S t a h
  · exact Kn.rf N S
theorem Kn.ten (S : St) (t : Int32) {v : Nat} (h : v < N) : Kn N S (en t N v S) := fun k hk i hi => by
  rw [en_R hk, if_neg (by omega), if_neg (by omega)]
theorem Kn.tgr (S : St) (t : Int32) {v : Nat} (a : Nat) (h : v < N) : Kn N S (gr t N v a S) := by
  unfold gr
  simp only []
  have k : Kn N S (uR (uR (uR S 4 v (bon (xR S 4 v) a)) 5 v (bof (xR S 5 v) a)) 6 v (bof (xR S 6 v) a)) :=
    ((Kn.r S (k := 4) _ (Or.inl h)).tr (Kn.r _ (k := 5) _ (Or.inl h))).tr (Kn.r _ (k := 6) _ (Or.inl h))
  split
  · exact k.tr (Kn.ten _ _ h)
  · exact k
theorem Kn.trd (S : St) (t : Int32) (k f : Nat) {g : Nat} (s : Int32) (h : g < N) : Kn N S (rd t N k f g s S) := by
  unfold rd
  simp only []
  have h1 : Kn N S (if s ≤ xR S 1 g then S else uR S 1 g s) := by
    split
    · exact Kn.rf N S
    · exact Kn.r S (k := 1) _ (Or.inl h)
  generalize (if s ≤ xR S 1 g then S else uR S 1 g s) = S1 at h1 ⊢
  refine Kn.tr h1 ?_
  split
  · exact Kn.trq _ _ _ _ h
  · split
    · exact Kn.tyl _ _ _ _ h
    · split
      · exact Kn.trl _ _ _ _ h
      · split
        · split
          · exact Kn.tgr _ _ _ h
          · split
            · exact Kn.tfd _ _ _ h
            · exact Kn.tiq _ _ _ h
        · exact Kn.rf N _
theorem Kn.tbr (S : St) (t : Int32) (f : Nat) {g : Nat} (h : g < N) : Kn N S (br t N f g S) := by
  unfold br
  split
  · exact Kn.rf N S
  · have w : ∀ r k s, Kn N S (wt N k f g s (uL S (16 * f + g) r)) := fun r k s k' hk' i hi => wt_R (by omega) (by omega) (by omega) i
    exact (w _ _ _).tr (Kn.trd _ _ _ _ _ h)
theorem Kn.tlv (S : St) (t : Int32) {v : Nat} (h : v < N) : Kn N S (lv t N v S) := fun k hk i hi => by
  rw [lv_R (by omega), if_neg (by omega)]
theorem Kn.tak (S : St) (t : Int32) {v : Nat} (h : v < N) : Kn N S (ak t N v S) := fun k hk i hi => by
  rw [ak_R (by omega), if_neg (by omega)]
end
/-- a move of a search -/
def Mok (N c : Nat) (S : St) : Prop := (c < 256 ∧ c / 16 < N ∧ c % 16 < N) ∨ (256 ≤ c ∧ c < 272 ∧ c - 256 < N ∧ xR S 0 (c - 256) = 2) ∨ (272 ≤ c ∧ c - 272 < N ∧ xR S 0 (c - 272) = 0 ∧ xR S 7 (c - 272) = 0)
theorem mvl_ok {N A : Nat} {S : St} (hI : Inv N A S) (h16 : N ≤ 16) {ask : Int32} {sn : Nat → Int32} {c : Nat} (h : c ∈ mvl N S ask sn) : Mok N c S := by
  unfold mvl at h
  rcases List.mem_append.mp h with h | h
  · have : c ∈ mv0 N S := h
    rcases mv0_in hI h16 this with ⟨a, b, d, _⟩ | z
    · exact Or.inl ⟨a, b, d⟩
    · exact Or.inr (Or.inl z)
  · obtain ⟨v, hv, rfl⟩ := List.mem_map.mp h
    obtain ⟨z1, _, z3, _⟩ := asks_in hv
    refine Or.inr (Or.inr ⟨by omega, by omega, ?_⟩)
    rw [show 272 + v - 272 = v by omega]
    unfold mayA at z3
    exact ⟨of_decide_eq_true (Bool.and_eq_true _ _ |>.mp z3).1, of_decide_eq_true (Bool.and_eq_true _ _ |>.mp (Bool.and_eq_true _ _ |>.mp z3).2).1⟩
/-- what holds of a state d moves from S0 -/
def GS (N A P : Nat) (S0 S : St) (d : Nat) : Prop := Inv N (A + d) S ∧ (IX N S ∧ QU N S ∧ PhS S ≤ P + N * d) ∧ Qk S0 S ∧ Kn N S0 S
theorem dm_1 {t : Int32} {N c : Nat} {S : St} (h : c < 256) : dm t N c S = br t N (c / 16) (c % 16) S := by unfold dm; rw [if_pos h]
theorem dm_2 {t : Int32} {N c : Nat} {S : St} (h : 256 ≤ c) (h2 : c < 272) : dm t N c S = lv t N (c - 256) S := by unfold dm; rw [if_neg (by omega), if_pos h2]
theorem dm_3 {t : Int32} {N c : Nat} {S : St} (h : 272 ≤ c) : dm t N c S = ak t N (c - 272) S := by unfold dm; rw [if_neg (by omega), if_neg (by omega)]
theorem GS.mv {N A P d c : Nat} {S0 S : St} (h : GS N A P S0 S d) (h2 : 2 ≤ N) (h16 : N ≤ 16) (hA : A + d + 1 < 1048576) (hQ : ∀ v, v < N → ∀ i, N ≤ i → i < 32 → bt (qm N S0 v) i = false) (hc : Mok N c S) (t : Int32) : GS N A P S0 (dm t N c S) (d + 1) := by
  obtain ⟨hI, ⟨hX, hU, hP⟩, hq, hk⟩ := h
  have ad : ∀ x, x ≤ P + N * d + N → x ≤ P + N * (d + 1) := fun x hx => by rw [Nat.mul_succ]; omega
  rcases hc with ⟨h1, h2', h3⟩ | ⟨h1, h2', h3, h4⟩ | ⟨h1, h2', h3, h5⟩
  · rw [dm_1 h1]
    obtain ⟨x1, x2⟩ := br_X hI h16 (by omega) hX h2' h3 t
    have x3 := PhS_le (e := fun _ => 0) (fun a ha => x2 a ha)
    rw [smN_k] at x3
    have kk : Qk S (br t N (c / 16) (c % 16) S) := fun k z i => (Kq.tbr S t N (c / 16) (c % 16)).1 k i z
    exact ⟨(hI.tbr h16 (by omega) h2' h3 t).mo (by omega), ⟨x1, hU.k kk, ad _ (by omega)⟩, hq.tr kk, hk.tr (Kn.tbr S t _ h3)⟩
  · rw [dm_2 h1 h2']
    obtain ⟨x1, x2⟩ := lv_X hI h16 hX h3 (by rw [h4]; decide) t
    rw [if_pos h4] at x2
    have x3 := PhS_le (e := fun _ => 0) (fun a ha => x2 a ha)
    rw [smN_k] at x3
    have kk : Qk S (lv t N (c - 256) S) := fun k z i => by rw [lv_R (by omega), if_neg (by omega)]
    exact ⟨(hI.tlv h16 h3 (by rw [h4]; decide) t).mo (by omega), ⟨x1, hU.k kk, ad _ (by omega)⟩, hq.tr kk, hk.tr (Kn.tlv S t h3)⟩
  · rw [dm_3 h1]
    obtain ⟨x1, x2⟩ := ak_X h16 hX h2' (fun q => by rw [h5] at q; exact absurd q (by decide)) (hU _ h2') t
    have x3 := PhS_le x2
    have x4 := smN_lt (f := fun a => a) N (fun a => bt (qm N S (c - 272)) a) 16
    exact ⟨hI.tak h16 h2' h3 hA (fun i a b => by rw [hq.m]; exact hQ _ h2' i a b) t, ⟨x1, hU.k (Qk.ak t N _ S), ad _ (by omega)⟩, hq.tr (Qk.ak t N _ S), hk.tr (Kn.tak S t h2')⟩
/-! the search -/
abbrev Bq : Type := List (St × Nat) × Bool
noncomputable def knw (l : List (St × Nat)) (S : St) : Bool := @decide (∃ q, q ∈ l ∧ SE q.1 S) (Classical.propDecidable _)
theorem knw_t {l : List (St × Nat)} {S : St} : knw l S = true ↔ ∃ q, q ∈ l ∧ SE q.1 S := by
  unfold knw
  exact @decide_eq_true_iff _ (Classical.propDecidable _)
noncomputable def met1 (most : Nat) (q : Bq) (S : St) (d : Nat) : Bq := if knw q.1 S then q else if q.1.length < most then (q.1 ++ [(S, d)], q.2) else (q.1, true)
noncomputable def exl (N most : Nat) (S : St) (d : Nat) (cs : List Nat) (q : Bq) : Bq := cs.foldl (fun q c => met1 most q (dm 0 N c S) (d + 1)) q
noncomputable def bfs (N most : Nat) (ask : Int32) (sn : Nat → Int32) : Nat → Nat → Bq → Bq
  | 0, _, q => q
  | n + 1, i, q => match q.1[i]? with
    | none => q
    | some p => bfs N most ask sn n (i + 1) (exl N most p.1 p.2 (mvl N p.1 ask sn) q)
theorem knw_c {l : List (St × Nat)} {S S' : St} (h : SE S S') : knw l S = knw l S' := by
  have : (∃ q, q ∈ l ∧ SE q.1 S) ↔ (∃ q, q ∈ l ∧ SE q.1 S') := ⟨fun ⟨q, a, b⟩ => ⟨q, a, b.tr h⟩, fun ⟨q, a, b⟩ => ⟨q, a, b.tr h.sy⟩⟩
  rw [Bool.eq_iff_iff, knw_t, knw_t]
  exact this
/-- what holds of the states met -/
def GQ (N A P most : Nat) (S0 : St) (q : Bq) : Prop := q.1.length ≤ most ∧ (q.2 = true → q.1.length = most) ∧ ∀ (i : Nat) (p : St × Nat), q.1[i]? = some p → p.2 ≤ i ∧ GS N A P S0 p.1 p.2
theorem GQ.m {N A P most d i : Nat} {S0 S : St} {q : Bq} (h : GQ N A P most S0 q) (hi : i < q.1.length) (hd : d ≤ i + 1) (hS : GS N A P S0 S d) : GQ N A P most S0 (met1 most q S d) := by
  obtain ⟨h1, h2, h3⟩ := h
  unfold met1
  split
  · exact ⟨h1, h2, h3⟩
  · split
    · rename_i c
      refine ⟨by rw [List.length_append, List.length_singleton]; exact c, fun z => ?_, fun j p hj => ?_⟩
      · have := h2 z; omega
      · by_cases k : j < q.1.length
        · rw [List.getElem?_append_left k] at hj; exact h3 j p hj
        · rw [List.getElem?_append_right (by omega)] at hj
          have e0 : j - q.1.length = 0 := by
            cases e : j - q.1.length with
            | zero => rfl
            | succ n => rw [e] at hj; simp at hj
          rw [e0] at hj
          have : p = (S, d) := by simpa using hj.symm
          rw [this]
          exact ⟨by show d ≤ j; omega, hS⟩
    · rename_i c
      exact ⟨h1, fun _ => by show q.1.length = most; omega, h3⟩
theorem met1_le (most : Nat) (q : Bq) (S : St) (d : Nat) : q.1.length ≤ (met1 most q S d).1.length := by
  unfold met1
  split
  · exact Nat.le_refl _
  · split
    · rw [List.length_append]; exact Nat.le_add_right _ _
    · exact Nat.le_refl _
theorem met1_full {most : Nat} {q : Bq} (h : q.2 = true) (hl : q.1.length = most) (S : St) (d : Nat) : met1 most q S d = q := by
  unfold met1
  split
  · rfl
  · rw [if_neg (by omega)]
    exact Prod.ext rfl h.symm
theorem exl_full {N most : Nat} {q : Bq} (h : q.2 = true) (hl : q.1.length = most) (S : St) (d : Nat) : ∀ cs, exl N most S d cs q = q := by
  intro cs
  induction cs with
  | nil => rfl
  | cons c cs ih =>
    have e : exl N most S d (c :: cs) q = exl N most S d cs (met1 most q (dm 0 N c S) (d + 1)) := rfl
    rw [e, met1_full h hl]
    exact ih
theorem bfs_full {N most : Nat} {ask : Int32} {sn : Nat → Int32} {q : Bq} (h : q.2 = true) (hl : q.1.length = most) : ∀ n i, bfs N most ask sn n i q = q := by
  intro n
  induction n with
  | zero => intro i; rfl
  | succ n ih =>
    intro i
    unfold bfs
    split
    · rfl
    · rw [exl_full h hl]; exact ih _
/-- a meeting changes nothing of the states met before -/
theorem met1_pre {most : Nat} {q : Bq} {S : St} {d i : Nat} {p : St × Nat} (h : q.1[i]? = some p) : (met1 most q S d).1[i]? = some p := by
  have hi : i < q.1.length := by
    rcases Nat.lt_or_ge i q.1.length with z | z
    · exact z
    · rw [List.getElem?_eq_none z] at h; cases h
  unfold met1
  split
  · exact h
  · split
    · show (q.1 ++ [(S, d)])[i]? = some p
      rw [List.getElem?_append_left hi]; exact h
    · exact h
