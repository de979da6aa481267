/-! ===== IX: what is held besides Inv; a bringing keeps it, and pays ===== -/
theorem LK.tyl {S : St} {t : Int32} {a v : Nat} {s : Int32} (ha : a < 16) (hv : v < 16) (hW : ∀ w, w ∈ xW S a → w.1 < 16 ∧ Ub S w.1) (ua : Ub S a) (uv : Ub S v) : LK S (yl t a v s S) := by
  unfold yl
  split
  · refine LK.tr (S' := uW S a (ins v s (xW S a))) (LK.eq rfl) (fun _ => rfl) (LK.tgF ha (fun w hw => ?_) ua)
    rw [xW_uW, if_pos rfl] at hw
    rcases ins_mem hw with rfl | hw
    · exact ⟨hv, uv⟩
    · exact hW w hw
  · exact LK.rf _
theorem LK.trl {S : St} {t : Int32} {a v : Nat} {s : Int32} (ha : a < 16) (hW : ∀ w, w ∈ xW S a → w.1 < 16 ∧ Ub S w.1) (ua : Ub S a) : LK S (rl t a v s S) := by
  unfold rl
  split
  · exact LK.tgF ha hW ua
  · exact LK.eq rfl
theorem LK.tfd {S : St} {t : Int32} {N v f : Nat} (h16 : N ≤ 16) (hv : v < 16) (uv : Ub S v) (ud : ∀ i, i < N → bt (xR S 5 v) i = true → Ub S i) : LK S (fd t N v f S) := by
  have q : LK S (sA t N 4 v (xR S 5 v) (xR S 2 v) (uR S 6 v (bon (xR S 6 v) f))) :=
    LK.tr (S' := uR S 6 v (bon (xR S 6 v) f)) (LK.eq rfl) (fun x => by rw [xR_uR, if_neg (by omega)]) (LK.tsA h16 hv (by unfold Ub; rw [xR_uR, if_neg (by omega)]; exact uv) (fun i hi hb => by unfold Ub; rw [xR_uR, if_neg (by omega)]; exact ud i hi hb))
  intro f' g' hf' hg' z e
  rw [fd_L]
  exact q f' g' hf' hg' z e
theorem LK.tiq {S : St} {t : Int32} {v f : Nat} (hv : v < 16) (hf : f < 16) (uv : Ub S v) (uf : Ub S f) : LK S (iq t v f S) := by
  unfold iq
  split
  · split
    · exact LK.eq rfl
    · intro f' g' hf' hg' z e
      rw [yT_WL.2]
      exact LK.sn hv hf uv uf f' g' hf' hg' z e
  · exact LK.rf _
theorem IK.st {N : Nat} {S S' : St} (h : IK N S) (h16 : N ≤ 16) (h7 : ∀ x, xR S' 7 x = xR S 7 x) (h0 : ∀ x, x < N → xR S 7 x = 1 → xR S 0 x = 0 → xR S' 0 x = 0) (h3 : ∀ u x, u < N → x < N → xR S 7 x = 1 → bt (xR S 3 u) x = false → bt (xR S' 3 u) x = false) (hL : LK S S') : IK N S' := by
  intro x hx q
  rw [h7] at q
  obtain ⟨a, b, c⟩ := h x hx q
  exact ⟨h0 x hx q a, fun u hu => h3 u x hu hx q (b u hu), fun u hu => ⟨hL x u (by omega) hu (Or.inl q) (c u hu).1, hL u x hu (by omega) (Or.inr q) (c u hu).2⟩⟩
theorem IK.lane {N A : Nat} {S : St} (h : IK N S) (hI : Inv N A S) {f g : Nat} (hf : f < N) (hg : g < N) (h16 : N ≤ 16) (hx : xL S (16 * f + g) ≠ []) : Ub S f ∧ Ub S g :=
  ⟨fun q => hx ((h f hf q).2.2 g (by omega)).1, fun q => hx ((h g hg q).2.2 f (by omega)).2⟩
theorem IK.engd {N A : Nat} {S : St} (h : IK N S) (hI : Inv N A S) (h16 : N ≤ 16) {u a : Nat} (hu : u < N) (ha : a < N) {s : Int32} (he : eng S a u = some s) : Ub S u ∧ Ub S a := by
  have j := hI.2.2.2.2.2.2.1 u hu a ha
  rw [oe_99 (by omega), he] at j
  have key : xL S (16 * u + a) = [] → opn S u a = none → False := by
    intro e1 e2
    rw [e1, e2] at j
    cases j
  refine ⟨fun q => key ((h u hu q).2.2 a (by omega)).1 ?_, fun q => key ((h a ha q).2.2 u (by omega)).2 ?_⟩
  · unfold opn; rw [if_neg (fun z => z.1 (h u hu q).1)]
  · unfold opn; rw [if_neg]
    rintro ⟨_, z⟩
    rw [(h a ha q).2.1 u hu] at z
    cases z
theorem IK.wtr {N A : Nat} {S : St} (h : IK N S) (hI : Inv N A S) (h16 : N ≤ 16) {a : Nat} (ha : a < N) {w : Wtr} (hw : w ∈ xW S a) : Ub S w.1 ∧ Ub S a := by
  have hF := hI.2.2.2.2.2.1 a (by omega)
  have hw1 := (hF.1.2.2 w hw).1
  by_cases c : xR S 8 a = nI w.1
  · exact h.engd hI h16 hw1 ha (s := xR S 9 a) (by unfold eng; rw [if_pos c])
  · exact h.engd hI h16 hw1 ha (s := w.2) (by unfold eng; rw [if_neg c]; exact (engW_some hF.1.2.1).mpr hw)
theorem IK.grd {N A : Nat} {S : St} (h : IK N S) (hI : Inv N A S) (h16 : N ≤ 16) {a g : Nat} (ha : a < N) (hg : g < N) (he : xR S 8 a = nI g) : Ub S g ∧ Ub S a :=
  h.engd hI h16 hg ha (s := xR S 9 a) (by unfold eng; rw [if_pos he])
theorem IK.use {N : Nat} {S : St} (h : IK N S) {u i : Nat} (hu : u < N) (hi : i < N) (hb : bt (xR S 3 u) i = true) : Ub S i := fun q => by
  rw [(h i hi q).2.1 u hu] at hb
  cases hb
def IQ (N : Nat) (S : St) : Prop := ∀ a, a < N → IQa S a
def IX (N : Nat) (S : St) : Prop := IQ N S ∧ IV N S ∧ IK N S
theorem IQ.at {N a : Nat} {S S' : St} (h : IQ N S) (ha : IQa S' a) (hW : ∀ b, b ≠ a → xW S' b = xW S b) (hR : ∀ k b, b ≠ a → k = 8 ∨ k = 9 ∨ k = 10 → xR S' k b = xR S k b) : IQ N S' := by
  intro b hb
  by_cases c : b = a
  · rw [c]; exact ha
  · exact (h b hb).cg (hW b c) (hR 8 b c (by omega)) (hR 9 b c (by omega)) (hR 10 b c (by omega))
theorem IQ.cg {N : Nat} {S S' : St} (h : IQ N S) (hW : xW S' = xW S) (hR : ∀ k b, k = 8 ∨ k = 9 ∨ k = 10 → xR S' k b = xR S k b) : IQ N S' :=
  fun b hb => (h b hb).cg (by rw [hW]) (hR 8 b (by omega)) (hR 9 b (by omega)) (hR 10 b (by omega))
theorem iq_R {t : Int32} {v f : Nat} {S : St} {k u : Nat} (hk : k ≠ 16) (h : u ≠ v ∨ (k ≠ 4 ∧ k ≠ 5 ∧ k ≠ 6)) : xR (iq t v f S) k u = xR S k u := by
  unfold iq
  split
  · split
    · rw [xR_uR, if_neg (by omega)]
    · exact yT_R hk (by omega)
  · rfl
theorem iq_W {t : Int32} {v f : Nat} {S : St} : xW (iq t v f S) = xW S := by
  unfold iq
  split
  · split <;> rfl
  · rfl
theorem lwa_e {a l : Nat} {x : Ltr} {k : Nat} (hk : k < 6) (e : x.1 = nI k) : lwa a (l, x) = if (if k = 0 ∨ k = 4 ∨ k = 5 then l % 16 else l / 16) = a then 1 else 0 := by
  unfold lwa larb
  have n : ∀ j, j < 6 → (nI k = nI j ↔ k = j) := fun j hj => nI_eq (by omega) (by omega)
  rw [show ((l, x) : Nat × Ltr).2.1 = x.1 from rfl, e]
  simp only [n 0 (by decide), n 4 (by decide), n 5 (by decide)]
set_option maxHeartbeats 1000000 in
theorem br_X {N A : Nat} {S : St} (h : Inv N A S) (h16 : N ≤ 16) (hA : A < 1048576) (hX : IX N S) {f g : Nat} (hf : f < N) (hg : g < N) (t : Int32) : IX N (br t N f g S) ∧ ∀ a, a < 16 → Ph a (br t N f g S) ≤ Ph a S := by
  unfold br
  cases hx : xL S (16 * f + g) with
  | nil => exact ⟨hX, fun a _ => Nat.le_refl _⟩
  | cons x r =>
    simp only []
    obtain ⟨hQ, hV, hK⟩ := hX
    obtain ⟨uf, ug⟩ := hK.lane h hf hg h16 (by rw [hx]; simp)
    obtain ⟨⟨k, hk, ek⟩, n, hn, en⟩ := (h.2.2.2.2.1 _ (show 16 * f + g < 256 by omega)).1 x (by rw [hx]; simp)
    have kk : x.1.toNatClampNeg = k := by rw [ek, nI_clamp (by omega)]
    rw [kk, en]
    obtain ⟨h1, p0, p5, pz⟩ := h.pop h16 hf hg hx
    have wl := wt_WL N k f g (nI n) (uL S (16 * f + g) r)
    have sm := wt_S N k f g (nI n) (uL S (16 * f + g) r)
    have w7 : ∀ b, xR (wt N k f g (nI n) (uL S (16 * f + g) r)) 7 b = xR S 7 b := fun b => wt_R (by decide) (by decide) (by decide) b
    have h2 := h1.reg sm wl.2
    have h3 := h2.clk h16 hA (g := g) (s := n) (by omega) hn
    have pay : ∀ a, phL a S = phL a (uL S (16 * f + g) r) + (if (if k = 0 ∨ k = 4 ∨ k = 5 then g else f) = a then 1 else 0) := fun a => by
      rw [phL_pop (show 16 * f + g < 256 by omega) hx, lwa_e hk ek, show (16 * f + g) % 16 = g by omega, show (16 * f + g) / 16 = f by omega]
    generalize hS2 : wt N k f g (nI n) (uL S (16 * f + g) r) = S2 at h2 h3 wl sm w7
    unfold rd
    simp only []
    have e2 : ∀ b u, eng S2 b u = eng S b u := fun b u => by
      unfold eng
      rw [sm.2 8 (by decide) (by decide), sm.2 9 (by decide) (by decide), sm.1]
      rfl
    have q2 : ∀ k, k < 11 → k ≠ 6 → ∀ i, xR S2 k i = xR S k i := fun k hk hk6 i => sm.2 k hk hk6 i
    generalize hS3 : (if nI n ≤ xR S2 1 g then S2 else uR S2 1 g (nI n)) = S3 at h3
    have r3 : ∀ k, k ≠ 1 → ∀ i, xR S3 k i = xR S2 k i := fun k hk i => by rw [← hS3]; exact clk_R hk
    have w3 : xW S3 = xW S2 := by rw [← hS3]; unfold xW; rw [clk_2]
    have l3 : xL S3 = xL S2 := by rw [← hS3]; unfold xL; rw [clk_2]
    have e3 : ∀ b u, eng S3 b u = eng S b u := fun b u => by
      rw [← e2]
      unfold eng
      rw [r3 8 (by decide), r3 9 (by decide), w3]
    have wS : xW S3 = xW S := by rw [w3, sm.1]; rfl
    have rS : ∀ k, k < 11 → k ≠ 6 → k ≠ 1 → ∀ i, xR S3 k i = xR S k i := fun k hk h6 h1 i => (r3 k h1 i).trans (q2 k hk h6 i)
    have lS : xL S3 = xL (uL S (16 * f + g) r) := l3.trans wl.2
    have r7 : ∀ i, xR S3 7 i = xR S 7 i := rS 7 (by decide) (by decide) (by decide)
    have L3 : LK S S3 := fun f' g' hf' hg' z e => by rw [lS]; exact LK.pop hx f' g' hf' hg' z e
    have U3 : ∀ {u}, Ub S u → Ub S3 u := fun z => by unfold Ub; rw [r7]; exact z
    have Q3 : IQ N S3 := hQ.cg wS (fun k b hk => rS k (by omega) (by omega) (by omega) b)
    have V3 : IV N S3 := hV.cg (fun k v hk => rS k (by omega) (by omega) (by omega) v)
    have P3 : ∀ a, Ph a S = Ph a S3 + (if (if k = 0 ∨ k = 4 ∨ k = 5 then g else f) = a then 1 else 0) := fun a => by
      have e1 : phB a S3 = phB a S := phB_c (fun k v hk => rS k (by omega) (by omega) (by omega) v)
      have e2 : phL a S3 = phL a (uL S (16 * f + g) r) := phL_c lS
      have := pay a
      unfold Ph
      omega
    have hW3 : ∀ w, w ∈ xW S3 g → w.1 < 16 ∧ Ub S3 w.1 := fun w hw => by
      rw [wS] at hw
      have := ((h.2.2.2.2.2.1 g (by omega)).1.2.2 w hw).1
      exact ⟨by omega, U3 (hK.wtr h h16 hg hw).1⟩
    have hF3 := h3.2.2.2.2.2.1 g (by omega)
    have G3 : xR S3 8 g = -1 ∨ ∃ y, y < 16 ∧ xR S3 8 g = nI y ∧ Ub S3 y := by
      rcases hF3.2.2 with z | ⟨y, z1, z2, _⟩
      · exact Or.inl z.1
      · exact Or.inr ⟨y, by omega, z2, U3 (hK.grd h h16 hg z1 (by rw [← rS 8 (by decide) (by decide) (by decide)]; exact z2)).1⟩
    have fin : ∀ {S4 : St}, IQ N S4 → IV N S4 → LK S3 S4 → (∀ i, xR S4 7 i = xR S3 7 i) → (∀ i, i < N → xR S3 7 i = 1 → xR S3 0 i = 0 → xR S4 0 i = 0) → (∀ i, xR S4 3 i = xR S3 3 i) → (∀ a, a < 16 → Ph a S4 ≤ Ph a S3 + (if (if k = 0 ∨ k = 4 ∨ k = 5 then g else f) = a then 1 else 0)) → IX N S4 ∧ ∀ a, a < 16 → Ph a S4 ≤ Ph a S := by
      intro S4 a1 a2 a3 a4 a5 a6 a7
      refine ⟨⟨a1, a2, hK.st h16 (fun i => (a4 i).trans (r7 i)) (fun i hi z1 z2 => a5 i hi (by rw [r7]; exact z1) (by rw [rS 0 (by decide) (by decide) (by decide)]; exact z2)) (fun u i hu hi _ z => by rw [a6, rS 3 (by decide) (by decide) (by decide)]; exact z) (L3.tr r7 a3)⟩, fun a ha => ?_⟩
      have := a7 a ha
      have := P3 a
      omega
    by_cases k0 : k = 0
    · rw [if_pos k0]
      subst k0
      have hn2 : f ∉ (xW S3 g).map Prod.fst := by
        have := p0 ek
        rw [← e3] at this
        unfold eng at this
        split at this
        · cases this
        · exact engW_none.mp this
      refine fin (Q3.at (rq_IQ h16 hf hn hF3.1 hn2 (Q3 g hg)) (fun b hb => rq_Wo hb) (fun k b hb hk => rq_R (Or.inl hb) (by omega))) (V3.cg (fun k v hk => rq_R (by omega) (by omega))) (LK.trq (by omega) (by omega) hW3 (U3 ug) (U3 uf) G3) (fun i => rq_R (by omega) (by decide)) (fun i _ _ z => by rw [rq_R (by omega) (by decide)]; exact z) (fun i => rq_R (by omega) (by decide)) (fun a _ => ?_)
      rw [if_pos (show (0 : Nat) = 0 ∨ (0 : Nat) = 4 ∨ (0 : Nat) = 5 by decide)]
      exact Nat.le_trans (rq_Ph h16 hg hf hF3.1 (by rcases G3 with z | ⟨y, z1, z2, _⟩; exact Or.inl z; exact Or.inr ⟨y, z1, z2⟩) (Q3 g hg)) (Nat.add_le_add_left (ite_le (fun z => z.symm)) _)
    · rw [if_neg k0]
      by_cases k4 : k = 4
      · rw [if_pos k4]
        subst k4
        refine fin (Q3.at (yl_IQ h16 hf hn hF3.1 (fun z => ?_) (Q3 g hg)) (fun b hb => yl_Wo hb) (fun k b hb hk => yl_R (Or.inl hb) (by omega))) (V3.cg (fun k v hk => yl_R (by omega) (by omega))) (LK.tyl (by omega) (by omega) hW3 (U3 ug) (U3 uf)) (fun i => yl_R (by omega) (by decide)) (fun i _ _ z => by rw [yl_R (by omega) (by decide)]; exact z) (fun i => yl_R (by omega) (by decide)) (fun a _ => ?_)
        · rcases hF3.2.2 with y | ⟨y, z1, z2, z3, _⟩
          · rw [y.1] at z; exact absurd z (m1_ne (by omega))
          · have : y = f := (nI_eq (by omega) (by omega)).mp (z2.symm.trans z)
            rw [← this]; exact z3
        · rw [if_pos (show (4 : Nat) = 0 ∨ (4 : Nat) = 4 ∨ (4 : Nat) = 5 by decide)]
          exact Nat.le_trans (yl_Ph h16 hg hf hF3.1) (Nat.add_le_add_left (ite_le (fun z => z.symm)) _)
      · rw [if_neg k4]
        by_cases k5 : k = 5
        · rw [if_pos k5]
          subst k5
          refine fin (Q3.at (rl_IQ hF3.1 (Q3 g hg)) (fun b hb => rl_Wo hb) (fun k b hb hk => rl_R (Or.inl hb) (by omega))) (V3.cg (fun k v hk => rl_R (by omega) (by omega))) (LK.trl (by omega) hW3 (U3 ug)) (fun i => rl_R (by omega) (by decide)) (fun i _ _ z => by rw [rl_R (by omega) (by decide)]; exact z) (fun i => rl_R (by omega) (by decide)) (fun a _ => ?_)
          rw [if_pos (show (5 : Nat) = 0 ∨ (5 : Nat) = 4 ∨ (5 : Nat) = 5 by decide)]
          exact Nat.le_trans (rl_Ph h16 hg hF3.1) (Nat.add_le_add_left (ite_le (fun z => z.symm)) _)
        · rw [if_neg k5]
          have ka : ∀ a, (if (if k = 0 ∨ k = 4 ∨ k = 5 then g else f) = a then 1 else 0 : Nat) = if a = f then 1 else 0 := fun a => by
            rw [if_neg (show ¬ (k = 0 ∨ k = 4 ∨ k = 5) by omega)]
            by_cases c : f = a
            · rw [if_pos c, if_pos c.symm]
            · rw [if_neg c, if_neg (fun z => c z.symm)]
          split
          · rename_i c
            have c0 : xR S 0 g = 1 := by rw [← rS 0 (by decide) (by decide) (by decide)]; exact c.1
            have ud : ∀ i, i < N → bt (xR S3 5 g) i = true → Ub S3 i := fun i hi hb => by
              rw [rS 5 (by decide) (by decide) (by decide)] at hb
              exact U3 (hK.use hg hi ((h.2.2.1 g (by omega) c0 i (by omega)).2 hb))
            have z0 : ∀ i, i < N → xR S3 7 i = 1 → xR S3 0 i = 0 → i ≠ g := fun i _ _ z e => by
              rw [e, c.1] at z; exact absurd z (by decide)
            split
            · refine fin (Q3.cg gr_WL.1 (fun k b hk => gr_R (by omega) (by omega))) (V3.tgr h16 c.1 t) (LK.eq gr_WL.2) (fun i => gr_R (by decide) (by omega)) (fun i hi q z => by rw [gr_R (by decide) (Or.inl (z0 i hi q z))]; exact z) (fun i => gr_R (by decide) (by omega)) (fun a ha => ?_)
              rw [ka]; exact gr_Ph (by omega) (by omega) ha
            · split
              · refine fin (Q3.cg fd_W (fun k b hk => fd_R (by omega) (by omega))) ?_ (LK.tfd h16 (by omega) (U3 ug) ud) (fun i => fd_R (by decide) (by omega)) (fun i _ _ z => by rw [fd_R (by decide) (by omega)]; exact z) (fun i => fd_R (by decide) (by omega)) (fun a ha => ?_)
                · intro u hu z2 i hi hb
                  by_cases cu : u = g
                  · subst cu
                    rw [fd_R (by decide) (by omega), c.1] at z2
                    exact absurd z2 (by decide)
                  · rw [fd_R (by decide) (by omega)] at z2 hb ⊢
                    exact V3 u hu z2 i hi hb
                    
                · exact Nat.le_trans (fd_Ph h16 (by omega) ha) (Nat.le_add_right _ _)
              · refine fin (Q3.cg iq_W (fun k b hk => iq_R (by omega) (by omega))) ?_ (LK.tiq (by omega) (by omega) (U3 ug) (U3 uf)) (fun i => iq_R (by decide) (by omega)) (fun i _ _ z => by rw [iq_R (by decide) (by omega)]; exact z) (fun i => iq_R (by decide) (by omega)) (fun a ha => ?_)
                · intro u hu z2 i hi hb
                  by_cases cu : u = g
                  · subst cu
                    rw [iq_R (by decide) (by omega), c.1] at z2
                    exact absurd z2 (by decide)
                  · rw [iq_R (by decide) (by omega)] at z2 hb ⊢
                    exact V3 u hu z2 i hi hb
                · rw [ka]; exact iq_Ph (by omega) (by omega) ha
          · exact fin Q3 V3 (LK.rf _) (fun _ => rfl) (fun _ _ _ z => z) (fun _ => rfl) (fun a _ => Nat.le_add_right _ _)
