/-! ===== a letter read: it keeps what never grows ===== -/
theorem rq_Ph {t : Int32} {N A a v s b : Nat} {S : St} (h16 : N ≤ 16) (ha : a < N) (hv : v < N) (hW : Wok N A (xW S a)) (hG : Gok S a) (hI : IQa S a) : Ph b (rq t a v (nI s) S) ≤ Ph b S + if b = a then 1 else 0 := by
  have hw16 : ∀ w, w ∈ xW S a → w.1 < 16 := fun w hw => by have := (hW.2.2 w hw).1; omega
  have sw : ∀ {P Q : Prop} [Decidable P] [Decidable Q], (P ↔ Q) → (if P then 1 else 0 : Nat) ≤ if Q then 1 else 0 := fun h => ite_le h.mp
  unfold rq
  by_cases c8 : xR S 8 a = -1
  · rw [if_pos c8]
    exact gF_Ph (S := uW S a (ins v (nI s) (xW S a))) (by omega) (fun w hw => by
      rw [xW_uW, if_pos rfl] at hw
      rcases ins_mem hw with rfl | hw
      · show v < 16; omega
      · exact hw16 w hw)
  · rw [if_neg c8]
    have hg : ∃ g, g < 16 ∧ xR S 8 a = nI g := hG.resolve_left c8
    obtain ⟨g, hg16, hge⟩ := hg
    by_cases c : (ins v (nI s) (xW S a)).head? = some (v, nI s) ∧ ahd (nI s) (nI v) (xR S 9 a) (xR S 8 a) = true
    · rw [if_pos c]
      by_cases i1 : xR S 10 a = 1
      · have e : rq3 t a (rq2 t a (xW S a) (uW S a (ins v (nI s) (xW S a)))) = rq2 t a (xW S a) (uW S a (ins v (nI s) (xW S a))) := by
          unfold rq3
          rw [rq2_R (by decide), xR_uW, if_pos i1]
        rw [e]
        cases hw : xW S a with
        | nil => rw [rq2_n rfl]; exact Nat.le_add_right _ _
        | cons y ys =>
          rw [rq2_c rfl]
          split
          · rw [Ph_snA (by omega) (hw16 y (by rw [hw]; simp)) (by decide)]
            exact Nat.add_le_add_left (sw ⟨fun z => z.symm, fun z => z.symm⟩) _
          · exact Nat.le_add_right _ _
      · have r2 : rq2 t a (xW S a) (uW S a (ins v (nI s) (xW S a))) = uW S a (ins v (nI s) (xW S a)) := by
          cases hw : xW S a with
          | nil => exact rq2_n rfl
          | cons y ys =>
            rw [rq2_c rfl, if_neg]
            intro z
            exact i1 (hI y (by rw [hw]; simp) c8 z)
        rw [r2]
        unfold rq3
        rw [xR_uW, if_neg i1, Ph_snA (by omega) (by rw [show gn (uW S a (ins v (nI s) (xW S a))) a = gn S a from rfl, gn_e hge hg16]; exact hg16) (by decide), Ph_uR (by decide), Ph_uW]
        exact Nat.add_le_add_left (sw ⟨fun z => z.symm, fun z => z.symm⟩) _
    · rw [if_neg c, Ph_snA (by omega) (by omega) (by decide), Ph_uW]
      exact Nat.add_le_add_left (sw ⟨fun z => z.symm, fun z => z.symm⟩) _
theorem rq3_R {t : Int32} {a : Nat} {S : St} {k i : Nat} (hk : k ≠ 16) (h : i ≠ a ∨ k ≠ 10) : xR (rq3 t a S) k i = xR S k i := by
  unfold rq3
  split
  · rfl
  · rw [sn_R _ _ _ _ _ _ hk, xR_uR, if_neg (by omega)]
theorem rq3_10 {t : Int32} {a : Nat} {S : St} : xR (rq3 t a S) 10 a = 1 := by
  unfold rq3
  split
  · assumption
  · rw [sn_R _ _ _ _ _ _ (by decide), xR_uR, if_pos ⟨rfl, rfl⟩]
theorem rq3_W {t : Int32} {a : Nat} {S : St} : xW (rq3 t a S) = xW S := by
  unfold rq3
  split <;> rfl
theorem gF_Wo {t : Int32} {a b : Nat} {S : St} (h : b ≠ a) : xW (gF t a S) b = xW S b := by
  unfold gF
  cases hw : xW S a with
  | nil => rfl
  | cons w r => simp only []; rw [sn_W, xW_uW, if_neg h]; rfl
theorem rq_R {t : Int32} {a v : Nat} {s : Int32} {S : St} {k i : Nat} (h : i ≠ a ∨ k < 8 ∨ 10 < k) (hk : k ≠ 16) : xR (rq t a v s S) k i = xR S k i := by
  unfold rq
  split
  · rw [gF_R h hk]; rfl
  · split
    · rw [rq3_R hk (by omega), rq2_R hk]; rfl
    · rw [sn_R _ _ _ _ _ _ hk]; rfl
theorem rq_Wo {t : Int32} {a v b : Nat} {s : Int32} {S : St} (h : b ≠ a) : xW (rq t a v s S) b = xW S b := by
  unfold rq
  split
  · rw [gF_Wo h, xW_uW, if_neg h]
  · split
    · rw [rq3_W, rq2_W, xW_uW, if_neg h]
    · rw [sn_W, xW_uW, if_neg h]
theorem rq_IQ {t : Int32} {N A a v s : Nat} {S : St} (h16 : N ≤ 16) (hv : v < N) (hs : s ≤ A) (hW : Wok N A (xW S a)) (hn : v ∉ (xW S a).map Prod.fst) (hI : IQa S a) : IQa (rq t a v (nI s) S) a := by
  have hw := ins_Wok hW hv h16 hs hn
  unfold rq
  split
  · exact gF_IQ (by rw [xW_uW, if_pos rfl]; exact hw.1)
  · rename_i c8
    split
    · intro w _ _ _
      exact rq3_10
    · rename_i c
      intro w hw1 h8 hh
      rw [sn_W, xW_uW, if_pos rfl] at hw1
      rw [sn_R _ _ _ _ _ _ (by decide), sn_R _ _ _ _ _ _ (by decide), xR_uW] at hh
      rw [sn_R _ _ _ _ _ _ (by decide), xR_uW]
      rcases ins_mem hw1 with rfl | hw1
      · obtain ⟨y, ys, e⟩ := ins_hd (v := v) (s := nI s) (l := xW S a)
        have hy : ¬ y = (v, nI s) := fun z => c ⟨by rw [e, z]; rfl, hh⟩
        have hy1 : y ∈ xW S a := (ins_mem (v := v) (s := nI s) (by rw [e]; simp)).resolve_left hy
        have hp := hw.1
        rw [e] at hp hw1
        rcases List.mem_cons.mp hw1 with z | z
        · exact absurd z.symm hy
        · have := (List.pairwise_cons.mp hp).1 _ z
          exact hI y hy1 c8 (ahd_t this hh)
      · exact hI w hw1 c8 hh
theorem yl_Ph {t : Int32} {N A a v s b : Nat} {S : St} (h16 : N ≤ 16) (ha : a < N) (hv : v < N) (hW : Wok N A (xW S a)) : Ph b (yl t a v (nI s) S) ≤ Ph b S + if b = a then 1 else 0 := by
  unfold yl
  split
  · exact gF_Ph (S := uW S a (ins v (nI s) (xW S a))) (by omega) (fun w hw => by
      rw [xW_uW, if_pos rfl] at hw
      rcases ins_mem hw with rfl | hw
      · show v < 16; omega
      · have := (hW.2.2 w hw).1; omega)
  · exact Nat.le_add_right _ _
theorem yl_R {t : Int32} {a v : Nat} {s : Int32} {S : St} {k i : Nat} (h : i ≠ a ∨ k < 8 ∨ 10 < k) (hk : k ≠ 16) : xR (yl t a v s S) k i = xR S k i := by
  unfold yl
  split
  · rw [gF_R h hk]; rfl
  · rfl
theorem yl_Wo {t : Int32} {a v b : Nat} {s : Int32} {S : St} (h : b ≠ a) : xW (yl t a v s S) b = xW S b := by
  unfold yl
  split
  · rw [gF_Wo h, xW_uW, if_neg h]
  · rfl
theorem yl_IQ {t : Int32} {N A a v s : Nat} {S : St} (h16 : N ≤ 16) (hv : v < N) (hs : s ≤ A) (hW : Wok N A (xW S a)) (hg : xR S 8 a = nI v → v ∉ (xW S a).map Prod.fst) (hI : IQa S a) : IQa (yl t a v (nI s) S) a := by
  unfold yl
  split
  · rename_i c
    exact gF_IQ (by rw [xW_uW, if_pos rfl]; exact (ins_Wok hW hv h16 hs (hg c.1)).1)
  · exact hI
theorem rl_Ph {t : Int32} {N A a v b : Nat} {s : Int32} {S : St} (h16 : N ≤ 16) (ha : a < N) (hW : Wok N A (xW S a)) : Ph b (rl t a v s S) ≤ Ph b S + if b = a then 1 else 0 := by
  unfold rl
  split
  · exact gF_Ph (by omega) (fun w hw => by have := (hW.2.2 w hw).1; omega)
  · exact Nat.le_add_right _ _
theorem rl_R {t : Int32} {a v : Nat} {s : Int32} {S : St} {k i : Nat} (h : i ≠ a ∨ k < 8 ∨ 10 < k) (hk : k ≠ 16) : xR (rl t a v s S) k i = xR S k i := by
  unfold rl
  split
  · rw [gF_R h hk]
  · rfl
theorem rl_Wo {t : Int32} {a v b : Nat} {s : Int32} {S : St} (h : b ≠ a) : xW (rl t a v s S) b = xW S b := by
  unfold rl
  split
  · rw [gF_Wo h]
  · rw [xW_uW, if_neg h]
theorem rl_IQ {t : Int32} {N A a v : Nat} {s : Int32} {S : St} (hW : Wok N A (xW S a)) (hI : IQa S a) : IQa (rl t a v s S) a := by
  unfold rl
  split
  · exact gF_IQ hW.1
  · intro w hw h8 hh
    rw [xW_uW, if_pos rfl] at hw
    exact hI w (gone_sub.subset hw) h8 hh
/-- who is inside has all votes of its set -/
def IV (N : Nat) (S : St) : Prop := ∀ v, v < N → xR S 0 v = 2 → ∀ i, i < N → bt (xR S 3 v) i = true → bt (xR S 4 v) i = true
theorem IV.cg {N : Nat} {S S' : St} (h : IV N S) (e : ∀ k v, k = 0 ∨ k = 3 ∨ k = 4 → xR S' k v = xR S k v) : IV N S' := by
  intro v hv
  rw [e 0 v (by omega), e 3 v (by omega), e 4 v (by omega)]
  exact h v hv
theorem IV.tgr {N v f : Nat} {S : St} (h : IV N S) (h16 : N ≤ 16) (h1 : xR S 0 v = 1) (t : Int32) : IV N (gr t N v f S) := by
  intro u hu h2 i hi hb
  by_cases c : u = v
  · subst c
    rw [gr_R (by decide) (by omega)] at hb
    rw [gr_4]
    unfold gr at h2
    simp only [] at h2
    split at h2
    · rename_i z
      have := bt_z.mp z i (by omega)
      rw [bt_minus _ _ (by omega), hb] at this
      simpa using this
    · rw [xR_uR, if_neg (by omega), xR_uR, if_neg (by omega), xR_uR, if_neg (by omega), h1] at h2
      exact absurd h2 (by decide)
  · rw [gr_R (by decide) (Or.inl c)] at h2 hb ⊢
    exact h u hu h2 i hi hb
/-- nothing is to a broken node, nothing from it -/
def IK (N : Nat) (S : St) : Prop := ∀ x, x < N → xR S 7 x = 1 → xR S 0 x = 0 ∧ (∀ u, u < N → bt (xR S 3 u) x = false) ∧ ∀ u, u < 16 → xL S (16 * x + u) = [] ∧ xL S (16 * u + x) = []
def Ub (S : St) (x : Nat) : Prop := ¬ xR S 7 x = 1
/-- a lane that is empty, one end broken, stays empty -/
def LK (S S' : St) : Prop := ∀ f g, f < 16 → g < 16 → (xR S 7 f = 1 ∨ xR S 7 g = 1) → xL S (16 * f + g) = [] → xL S' (16 * f + g) = []
theorem LK.rf (S : St) : LK S S := fun _ _ _ _ _ h => h
theorem LK.eq {S S' : St} (h : xL S' = xL S) : LK S S' := fun _ _ _ _ _ q => by rw [h]; exact q
theorem LK.tr {S S' S'' : St} (h : LK S S') (h7 : ∀ x, xR S' 7 x = xR S 7 x) (h' : LK S' S'') : LK S S'' := fun f g hf hg q e => h' f g hf hg (by rw [h7, h7]; exact q) (h f g hf hg q e)
theorem LK.sn {S : St} {t : Int32} {k f g : Nat} {s : Int32} (hf : f < 16) (hg : g < 16) (uf : Ub S f) (ug : Ub S g) : LK S (sn t k f g s S) := by
  intro f' g' hf' hg' q e
  rw [sn_L]
  by_cases c : 16 * f' + g' = 16 * f + g
  · have e1 : f' = f := by omega
    have e2 : g' = g := by omega
    subst e1; subst e2
    exact absurd q (fun z => z.elim uf ug)
  · rw [if_neg c]; exact e
theorem LK.tsA {S : St} {t : Int32} {N k f : Nat} {set s : Int32} (h16 : N ≤ 16) (hf : f < 16) (uf : Ub S f) (us : ∀ i, i < N → bt set i = true → Ub S i) : LK S (sA t N k f set s S) := by
  intro f' g' hf' hg' q e
  rw [sA_L h16 hf _ _ _ (by omega), if_neg]
  · exact e
  · rintro ⟨z1, z2, z3⟩
    have e1 : f' = f := by omega
    have e2 : (16 * f' + g') % 16 = g' := by omega
    rw [e2] at z2 z3
    subst e1
    exact q.elim uf (us g' z2 z3)
theorem LK.pop {S : St} {f g : Nat} {x : Ltr} {r : List Ltr} (hx : xL S (16 * f + g) = x :: r) : LK S (uL S (16 * f + g) r) := by
  intro f' g' hf' hg' q e
  rw [xL_uL]
  by_cases c : 16 * f' + g' = 16 * f + g
  · rw [c, hx] at e; cases e
  · rw [if_neg c]; exact e
theorem LK.tgF {S : St} {t : Int32} {a : Nat} (ha : a < 16) (hW : ∀ w, w ∈ xW S a → w.1 < 16 ∧ Ub S w.1) (ua : Ub S a) : LK S (gF t a S) := by
  unfold gF
  cases hw : xW S a with
  | nil => exact LK.eq rfl
  | cons w r =>
    simp only []
    have := hW w (by rw [hw]; simp)
    refine LK.tr (S' := uW (uR (uR (nob a S) 8 a (nI w.1)) 9 a w.2) a r) (LK.eq rfl) (fun x => by rw [xR_uW, xR_uR, if_neg (by omega), xR_uR, if_neg (by omega), nob_R (by omega)]) ?_
    refine LK.sn ha this.1 ?_ ?_
    · unfold Ub; rw [xR_uW, xR_uR, if_neg (by omega), xR_uR, if_neg (by omega), nob_R (by omega)]; exact ua
    · unfold Ub; rw [xR_uW, xR_uR, if_neg (by omega), xR_uR, if_neg (by omega), nob_R (by omega)]; exact this.2
theorem LK.trq {S : St} {t : Int32} {a v : Nat} {s : Int32} (ha : a < 16) (hv : v < 16) (hW : ∀ w, w ∈ xW S a → w.1 < 16 ∧ Ub S w.1) (ua : Ub S a) (uv : Ub S v) (hG : xR S 8 a = -1 ∨ ∃ g, g < 16 ∧ xR S 8 a = nI g ∧ Ub S g) : LK S (rq t a v s S) := by
  have h1 : LK S (uW S a (ins v s (xW S a))) := LK.eq rfl
  unfold rq
  split
  · refine h1.tr (fun _ => rfl) (LK.tgF ha (fun w hw => ?_) ua)
    rw [xW_uW, if_pos rfl] at hw
    rcases ins_mem hw with rfl | hw
    · exact ⟨hv, uv⟩
    · exact hW w hw
  · rename_i c8
    obtain ⟨g, hg, hge, ug⟩ := hG.resolve_left c8
    split
    · have h2 : LK S (rq2 t a (xW S a) (uW S a (ins v s (xW S a)))) := by
        cases hw : xW S a with
        | nil => rw [rq2_n rfl]; exact LK.eq rfl
        | cons y ys =>
          rw [rq2_c rfl]
          have := hW y (by rw [hw]; simp)
          split
          · exact (LK.eq rfl : LK S (uW S a (ins v s (y :: ys)))).tr (fun _ => rfl) (LK.sn ha this.1 ua this.2)
          · exact LK.eq rfl
      refine h2.tr (fun x => by rw [rq2_R (by decide)]; rfl) ?_
      unfold rq3
      split
      · exact LK.rf _
      · have eg : gn (rq2 t a (xW S a) (uW S a (ins v s (xW S a)))) a = g := gn_e (by rw [rq2_R (by decide)]; exact hge) hg
        rw [eg]
        refine LK.tr (S' := uR (rq2 t a (xW S a) (uW S a (ins v s (xW S a)))) 10 a 1) (LK.eq rfl) (fun x => by rw [xR_uR, if_neg (by omega)]) (LK.sn ha hg ?_ ?_)
        · unfold Ub; rw [xR_uR, if_neg (by omega), rq2_R (by decide)]; exact ua
        · unfold Ub; rw [xR_uR, if_neg (by omega), rq2_R (by decide)]; exact ug
    · exact h1.tr (fun _ => rfl) (LK.sn ha hv ua uv)
