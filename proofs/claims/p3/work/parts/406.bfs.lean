/-! ===== of the nodes that there are not, nothing moves ===== -/
def Kn (N : Nat) (S S' : St) : Prop := ∀ k, k < 11 → ∀ i, N ≤ i → xR S' k i = xR S k i
theorem Kn.rf (N : Nat) (S : St) : Kn N S S := fun _ _ _ _ => rfl
theorem Kn.tr {N : Nat} {S S' S'' : St} (h : Kn N S S') (h' : Kn N S' S'') : Kn N S S'' := fun k hk i hi => (h' k hk i hi).trans (h k hk i hi)
theorem Kn.eq {N : Nat} {S S' S'' : St} (h : Kn N S S') (e : xR S'' = xR S') : Kn N S S'' := fun k hk i hi => by rw [e]; exact h k hk i hi
theorem Kn.r {N : Nat} (S : St) {k i : Nat} (x : Int32) (h : i < N ∨ 11 ≤ k) : Kn N S (uR S k i x) := fun k' hk' i' hi' => by rw [xR_uR, if_neg (by omega)]
theorem Kn.tsn {N : Nat} (S : St) (t : Int32) (k f g : Nat) (s : Int32) : Kn N S (sn t k f g s S) := fun k' hk' i' _ => sn_R _ _ _ _ _ _ (by omega)
theorem Kn.tsAl {N : Nat} (t : Int32) (k f : Nat) (set s : Int32) (ws : List Nat) (S : St) : Kn N S (sAl t k f set s ws S) := fun k' hk' i' _ => sAl_R _ _ _ _ _ (by omega) _ _
theorem Kn.tW {N : Nat} (S : St) (a : Nat) (w : List Wtr) : Kn N S (uW S a w) := fun _ _ _ _ => rfl
section
variable {N : Nat}
theorem Kn.tnob (S : St) {a : Nat} (h : a < N) : Kn N S (nob a S) := ((Kn.r S (k := 8) _ (Or.inl h)).tr (Kn.r _ (k := 9) _ (Or.inl h))).tr (Kn.r _ (k := 10) _ (Or.inl h))
theorem Kn.tgF (S : St) (t : Int32) {a : Nat} (h : a < N) : Kn N S (gF t a S) := by
  unfold gF
  split
  · exact Kn.tnob S h
  · exact ((((Kn.tnob S h).tr (Kn.r _ (k := 8) _ (Or.inl h))).tr (Kn.r _ (k := 9) _ (Or.inl h))).tr (Kn.tW _ _ _)).tr (Kn.tsn _ _ _ _ _ _)
theorem Kn.trq3 (S : St) (t : Int32) {a : Nat} (h : a < N) : Kn N S (rq3 t a S) := by
  unfold rq3
  split
  · exact Kn.rf N S
  · exact (Kn.r S (k := 10) _ (Or.inl h)).tr (Kn.tsn _ _ _ _ _ _)
theorem Kn.trq2 (S : St) (t : Int32) (a : Nat) (old : List Wtr) : Kn N S (rq2 t a old S) := by
  cases old with
  | nil => exact Kn.rf N S
  | cons w r =>
    show Kn N S (if ahd w.2 (nI w.1) (xR S 9 a) (xR S 8 a) then _ else S)
    split
    · exact Kn.tsn _ _ _ _ _ _
    · exact Kn.rf N S
theorem Kn.trq (S : St) (t : Int32) {a : Nat} (v : Nat) (s : Int32) (h : a < N) : Kn N S (rq t a v s S) := by
  unfold rq
  split
  · exact (Kn.tW S a _).tr (Kn.tgF _ _ h)
  · split
    · exact ((Kn.tW S a _).tr (Kn.trq2 _ _ _ _)).tr (Kn.trq3 _ _ h)
    · exact (Kn.tW S a _).tr (Kn.tsn _ _ _ _ _ _)
theorem Kn.tyl (S : St) (t : Int32) {a : Nat} (v : Nat) (s : Int32) (h : a < N) : Kn N S (yl t a v s S) := by
  unfold yl
  split
  · exact (Kn.tW S a _).tr (Kn.tgF _ _ h)
  · exact Kn.rf N S
theorem Kn.trl (S : St) (t : Int32) {a : Nat} (v : Nat) (s : Int32) (h : a < N) : Kn N S (rl t a v s S) := by
  unfold rl
  split
  · exact Kn.tgF _ _ h
  · exact Kn.tW S a _
theorem Kn.tyT (S : St) (t : Int32) {v : Nat} (a : Nat) (h : v < N) : Kn N S (yT t v a S) := by
  unfold yT
  simp only []
  exact ((Kn.tsn S t 4 v a _).tr (Kn.r _ (k := 4) _ (Or.inl h))).tr (Kn.r _ (k := 6) _ (Or.inl h))
theorem Kn.tfdl (t : Int32) {v : Nat} (d : Int32) (h : v < N) : ∀ (ws : List Nat) (S : St), Kn N S (fdl t v d ws S) := by
  intro ws
  induction ws with
  | nil => intro S; exact Kn.rf N S
  | cons w ws ih =>
    intro S
    have e : fdl t v d (w :: ws) S = fdl t v d ws (if bt d w then yT t v w S else S) := by
      unfold fdl
      rw [List.foldl_cons]
    rw [e]
    refine Kn.tr ?_ (ih _)
    split
    · exact Kn.tyT S t w h
    · exact Kn.rf N S
theorem Kn.tfd (S : St) (t : Int32) {v : Nat} (a : Nat) (h : v < N) : Kn N S (fd t N v a S) := by
  unfold fd
  exact ((Kn.r S (k := 6) _ (Or.inl h)).tr (Kn.tfdl _ _ h _ _)).tr (Kn.r _ (k := 5) _ (Or.inl h))
theorem Kn.tiq (S : St) (t : Int32) {v : Nat} (a : Nat) (h : v < N) : Kn N S (iq t v a S) := by
  unfold iq
  split
  · split
    · exact Kn.r S (k := 5) _ (Or.inl h)
    · exact Kn.tyT S t a h
  · exact Kn.rf N S
theorem Kn.ten (S : St) (t : Int32) {v : Nat} (h : v < N) : Kn N S (en t N v S) := fun k hk i hi => by
  rw [en_R hk, if_neg (by omega), if_neg (by omega)]
theorem Kn.tgr (S : St) (t : Int32) {v : Nat} (a : Nat) (h : v < N) : Kn N S (gr t N v a S) := by
  unfold gr
  simp only []
  have k : Kn N S (uR (uR (uR S 4 v (bon (xR S 4 v) a)) 5 v (bof (xR S 5 v) a)) 6 v (bof (xR S 6 v) a)) :=
    ((Kn.r S (k := 4) _ (Or.inl h)).tr (Kn.r _ (k := 5) _ (Or.inl h))).tr (Kn.r _ (k := 6) _ (Or.inl h))
  split
  · exact k.tr (Kn.ten _ _ h)
  · exact k
theorem Kn.trd (S : St) (t : Int32) (k f : Nat) {g : Nat} (s : Int32) (h : g < N) : Kn N S (rd t N k f g s S) := by
  unfold rd
  simp only []
  have h1 : Kn N S (if s ≤ xR S 1 g then S else uR S 1 g s) := by
    split
    · exact Kn.rf N S
    · exact Kn.r S (k := 1) _ (Or.inl h)
  generalize (if s ≤ xR S 1 g then S else uR S 1 g s) = S1 at h1 ⊢
  refine Kn.tr h1 ?_
  split
  · exact Kn.trq _ _ _ _ h
  · split
    · exact Kn.tyl _ _ _ _ h
    · split
      · exact Kn.trl _ _ _ _ h
      · split
        · split
          · exact Kn.tgr _ _ _ h
          · split
            · exact Kn.tfd _ _ _ h
            · exact Kn.tiq _ _ _ h
        · exact Kn.rf N _
theorem Kn.tbr (S : St) (t : Int32) (f : Nat) {g : Nat} (h : g < N) : Kn N S (br t N f g S) := by
  unfold br
  split
  · exact Kn.rf N S
  · have w : ∀ r k s, Kn N S (wt N k f g s (uL S (16 * f + g) r)) := fun r k s k' hk' i hi => wt_R (by omega) (by omega) (by omega) i
    exact (w _ _ _).tr (Kn.trd _ _ _ _ _ h)
theorem Kn.tlv (S : St) (t : Int32) {v : Nat} (h : v < N) : Kn N S (lv t N v S) := fun k hk i hi => by
  rw [lv_R (by omega), if_neg (by omega)]
theorem Kn.tak (S : St) (t : Int32) {v : Nat} (h : v < N) : Kn N S (ak t N v S) := fun k hk i hi => by
  rw [ak_R (by omega), if_neg (by omega)]
end
/-- a move of a search -/
def Mok (N c : Nat) (S : St) : Prop := (c < 256 ∧ c / 16 < N ∧ c % 16 < N) ∨ (256 ≤ c ∧ c < 272 ∧ c - 256 < N ∧ xR S 0 (c - 256) = 2) ∨ (272 ≤ c ∧ c - 272 < N ∧ xR S 0 (c - 272) = 0 ∧ xR S 7 (c - 272) = 0)
theorem mvl_ok {N A : Nat} {S : St} (hI : Inv N A S) (h16 : N ≤ 16) {ask : Int32} {sn : Nat → Int32} {c : Nat} (h : c ∈ mvl N S ask sn) : Mok N c S := by
  unfold mvl at h
  rcases List.mem_append.mp h with h | h
  · have : c ∈ mv0 N S := h
    rcases mv0_in hI h16 this with ⟨a, b, d, _⟩ | z
    · exact Or.inl ⟨a, b, d⟩
    · exact Or.inr (Or.inl z)
  · obtain ⟨v, hv, rfl⟩ := List.mem_map.mp h
    obtain ⟨z1, _, z3, _⟩ := asks_in hv
    refine Or.inr (Or.inr ⟨by omega, by omega, ?_⟩)
    rw [show 272 + v - 272 = v by omega]
    unfold mayA at z3
    exact ⟨of_decide_eq_true (Bool.and_eq_true _ _ |>.mp z3).1, of_decide_eq_true (Bool.and_eq_true _ _ |>.mp (Bool.and_eq_true _ _ |>.mp z3).2).1⟩
/-- what holds of a state d moves from S0 -/
def GS (N A P : Nat) (S0 S : St) (d : Nat) : Prop := Inv N (A + d) S ∧ (IX N S ∧ QU N S ∧ PhS S ≤ P + N * d) ∧ Qk S0 S ∧ Kn N S0 S
theorem dm_1 {t : Int32} {N c : Nat} {S : St} (h : c < 256) : dm t N c S = br t N (c / 16) (c % 16) S := by unfold dm; rw [if_pos h]
theorem dm_2 {t : Int32} {N c : Nat} {S : St} (h : 256 ≤ c) (h2 : c < 272) : dm t N c S = lv t N (c - 256) S := by unfold dm; rw [if_neg (by omega), if_pos h2]
theorem dm_3 {t : Int32} {N c : Nat} {S : St} (h : 272 ≤ c) : dm t N c S = ak t N (c - 272) S := by unfold dm; rw [if_neg (by omega), if_neg (by omega)]
theorem GS.mv {N A P d c : Nat} {S0 S : St} (h : GS N A P S0 S d) (h2 : 2 ≤ N) (h16 : N ≤ 16) (hA : A + d + 1 < 1048576) (hQ : ∀ v, v < N → ∀ i, N ≤ i → i < 32 → bt (qm N S0 v) i = false) (hc : Mok N c S) (t : Int32) : GS N A P S0 (dm t N c S) (d + 1) := by
  obtain ⟨hI, ⟨hX, hU, hP⟩, hq, hk⟩ := h
  have ad : ∀ x, x ≤ P + N * d + N → x ≤ P + N * (d + 1) := fun x hx => by rw [Nat.mul_succ]; omega
  rcases hc with ⟨h1, h2', h3⟩ | ⟨h1, h2', h3, h4⟩ | ⟨h1, h2', h3, h5⟩
  · rw [dm_1 h1]
    obtain ⟨x1, x2⟩ := br_X hI h16 (by omega) hX h2' h3 t
    have x3 := PhS_le (e := fun _ => 0) (fun a ha => x2 a ha)
    rw [smN_k] at x3
    have kk : Qk S (br t N (c / 16) (c % 16) S) := fun k z i => (Kq.tbr S t N (c / 16) (c % 16)).1 k i z
    exact ⟨(hI.tbr h16 (by omega) h2' h3 t).mo (by omega), ⟨x1, hU.k kk, ad _ (by omega)⟩, hq.tr kk, hk.tr (Kn.tbr S t _ h3)⟩
  · rw [dm_2 h1 h2']
    obtain ⟨x1, x2⟩ := lv_X hI h16 hX h3 (by rw [h4]; decide) t
    rw [if_pos h4] at x2
    have x3 := PhS_le (e := fun _ => 0) (fun a ha => x2 a ha)
    rw [smN_k] at x3
    have kk : Qk S (lv t N (c - 256) S) := fun k z i => by rw [lv_R (by omega), if_neg (by omega)]
    exact ⟨(hI.tlv h16 h3 (by rw [h4]; decide) t).mo (by omega), ⟨x1, hU.k kk, ad _ (by omega)⟩, hq.tr kk, hk.tr (Kn.tlv S t h3)⟩
  · rw [dm_3 h1]
    obtain ⟨x1, x2⟩ := ak_X h16 hX h2' (fun q => by rw [h5] at q; exact absurd q (by decide)) (hU _ h2') t
    have x3 := PhS_le x2
    have x4 := smN_lt (f := fun a => a) N (fun a => bt (qm N S (c - 272)) a) 16
    exact ⟨hI.tak h16 h2' h3 hA (fun i a b => by rw [hq.m]; exact hQ _ h2' i a b) t, ⟨x1, hU.k (Qk.ak t N _ S), ad _ (by omega)⟩, hq.tr (Qk.ak t N _ S), hk.tr (Kn.tak S t h2')⟩
/-! the search -/
abbrev Bq : Type := List (St × Nat) × Bool
noncomputable def knw (l : List (St × Nat)) (S : St) : Bool := @decide (∃ q, q ∈ l ∧ SE q.1 S) (Classical.propDecidable _)
theorem knw_t {l : List (St × Nat)} {S : St} : knw l S = true ↔ ∃ q, q ∈ l ∧ SE q.1 S := by
  unfold knw
  exact @decide_eq_true_iff _ (Classical.propDecidable _)
noncomputable def met1 (most : Nat) (q : Bq) (S : St) (d : Nat) : Bq := if knw q.1 S then q else if q.1.length < most then (q.1 ++ [(S, d)], q.2) else (q.1, true)
noncomputable def exl (N most : Nat) (S : St) (d : Nat) (cs : List Nat) (q : Bq) : Bq := cs.foldl (fun q c => met1 most q (dm 0 N c S) (d + 1)) q
noncomputable def bfs (N most : Nat) (ask : Int32) (sn : Nat → Int32) : Nat → Nat → Bq → Bq
  | 0, _, q => q
  | n + 1, i, q => match q.1[i]? with
    | none => q
    | some p => bfs N most ask sn n (i + 1) (exl N most p.1 p.2 (mvl N p.1 ask sn) q)
theorem knw_c {l : List (St × Nat)} {S S' : St} (h : SE S S') : knw l S = knw l S' := by
  have : (∃ q, q ∈ l ∧ SE q.1 S) ↔ (∃ q, q ∈ l ∧ SE q.1 S') := ⟨fun ⟨q, a, b⟩ => ⟨q, a, b.tr h⟩, fun ⟨q, a, b⟩ => ⟨q, a, b.tr h.sy⟩⟩
  rw [Bool.eq_iff_iff, knw_t, knw_t]
  exact this
/-- what holds of the states met -/
def GQ (N A P most : Nat) (S0 : St) (q : Bq) : Prop := q.1.length ≤ most ∧ (q.2 = true → q.1.length = most) ∧ ∀ (i : Nat) (p : St × Nat), q.1[i]? = some p → p.2 ≤ i ∧ GS N A P S0 p.1 p.2
theorem GQ.m {N A P most d i : Nat} {S0 S : St} {q : Bq} (h : GQ N A P most S0 q) (hi : i < q.1.length) (hd : d ≤ i + 1) (hS : GS N A P S0 S d) : GQ N A P most S0 (met1 most q S d) := by
  obtain ⟨h1, h2, h3⟩ := h
  unfold met1
  split
  · exact ⟨h1, h2, h3⟩
  · split
    · rename_i c
      refine ⟨by rw [List.length_append, List.length_singleton]; exact c, fun z => ?_, fun j p hj => ?_⟩
      · have := h2 z; omega
      · by_cases k : j < q.1.length
        · rw [List.getElem?_append_left k] at hj; exact h3 j p hj
        · rw [List.getElem?_append_right (by omega)] at hj
          have e0 : j - q.1.length = 0 := by
            cases e : j - q.1.length with
            | zero => rfl
            | succ n => rw [e] at hj; simp at hj
          rw [e0] at hj
          have : p = (S, d) := by simpa using hj.symm
          rw [this]
          exact ⟨by show d ≤ j; omega, hS⟩
    · rename_i c
      exact ⟨h1, fun _ => by show q.1.length = most; omega, h3⟩
theorem met1_le (most : Nat) (q : Bq) (S : St) (d : Nat) : q.1.length ≤ (met1 most q S d).1.length := by
  unfold met1
  split
  · exact Nat.le_refl _
  · split
    · rw [List.length_append]; exact Nat.le_add_right _ _
    · exact Nat.le_refl _
theorem met1_full {most : Nat} {q : Bq} (h : q.2 = true) (hl : q.1.length = most) (S : St) (d : Nat) : met1 most q S d = q := by
  unfold met1
  split
  · rfl
  · rw [if_neg (by omega)]
    exact Prod.ext rfl h.symm
theorem exl_full {N most : Nat} {q : Bq} (h : q.2 = true) (hl : q.1.length = most) (S : St) (d : Nat) : ∀ cs, exl N most S d cs q = q := by
  intro cs
  induction cs with
  | nil => rfl
  | cons c cs ih =>
    have e : exl N most S d (c :: cs) q = exl N most S d cs (met1 most q (dm 0 N c S) (d + 1)) := rfl
    rw [e, met1_full h hl]
    exact ih
theorem bfs_full {N most : Nat} {ask : Int32} {sn : Nat → Int32} {q : Bq} (h : q.2 = true) (hl : q.1.length = most) : ∀ n i, bfs N most ask sn n i q = q := by
  intro n
  induction n with
  | zero => intro i; rfl
  | succ n ih =>
    intro i
    unfold bfs
    split
    · rfl
    · rw [exl_full h hl]; exact ih _
/-- a meeting changes nothing of the states met before -/
theorem met1_pre {most : Nat} {q : Bq} {S : St} {d i : Nat} {p : St × Nat} (h : q.1[i]? = some p) : (met1 most q S d).1[i]? = some p := by
  have hi : i < q.1.length := by
    rcases Nat.lt_or_ge i q.1.length with z | z
    · exact z
    · rw [List.getElem?_eq_none z] at h; cases h
  unfold met1
  split
  · exact h
  · split
    · show (q.1 ++ [(S, d)])[i]? = some p
      rw [List.getElem?_append_left hi]; exact h
    · exact h
