/-! ===== to ask, to bring: they keep it ===== -/
theorem Wok.mo {N A A' : Nat} {l : List Wtr} (h : Wok N A l) (q : A ≤ A') : Wok N A' l :=
  ⟨h.1, h.2.1, fun w hw => ⟨(h.2.2 w hw).1, by obtain ⟨s, z1, z2⟩ := (h.2.2 w hw).2; exact ⟨s, by omega, z2⟩⟩⟩
theorem Inv.mo {N A A' : Nat} {S : St} (h : Inv N A S) (q : A ≤ A') : Inv N A' S := by
  obtain ⟨ja, jb, jc, jd, je, jf, jg, jh⟩ := h
  refine ⟨ja, jb, jc, ?_, ?_, ?_, jg, jh⟩
  · intro v hv
    obtain ⟨c, m, z1, z2, z3⟩ := jd v hv
    exact ⟨c, m, by omega, z2, z3⟩
  · intro l hl
    refine ⟨fun x hx => ?_, (je l hl).2⟩
    obtain ⟨z1, s, z2, z3⟩ := (je l hl).1 x hx
    exact ⟨z1, s, by omega, z3⟩
  · intro a ha
    obtain ⟨z1, z2, z3⟩ := jf a ha
    refine ⟨z1.mo q, z2, ?_⟩
    rcases z3 with z3 | ⟨g, y1, y2, y3, s, y4, y5⟩
    · exact Or.inl z3
    · exact Or.inr ⟨g, y1, y2, y3, s, by omega, y5⟩
theorem ak_R {t : Int32} {N v : Nat} {S : St} {k i : Nat} (hk : k ≠ 16) : xR (ak t N v S) k i = if i = v then (if k = 0 then 1 else if k = 1 then xR S 1 v + 1 else if k = 2 then xR S 1 v + 1 else if k = 3 then qm N S v else if k = 4 then 0 else if k = 5 then 0 else if k = 6 then 0 else if k = 13 then xR S 15 1 else if k = 14 then 0 else xR S k i) else xR S k i := by
  unfold ak
  simp only []
  rw [sA_R hk]
  simp only [xR_uR]
  by_cases c : i = v
  · subst c
    simp only [and_true, if_true]
    by_cases k14 : k = 14
    · simp [k14]
    · by_cases k13 : k = 13
      · simp [k13]
      · by_cases k0 : k = 0
        · simp [k0]
        · by_cases k6 : k = 6
          · simp [k6]
          · by_cases k5 : k = 5
            · simp [k5]
            · by_cases k4 : k = 4
              · simp [k4]
              · by_cases k3 : k = 3
                · simp [k3]
                · by_cases k2 : k = 2
                  · simp [k2]
                  · by_cases k1 : k = 1
                    · simp [k1]
                    · simp [k14, k13, k0, k6, k5, k4, k3, k2, k1]
  · simp [c]
theorem ak_L {t : Int32} {N v : Nat} {S : St} (h16 : N ≤ 16) (hv : v < 16) {l : Nat} (hl : l < 256) : xL (ak t N v S) l = if l / 16 = v ∧ l % 16 < N ∧ bt (qm N S v) (l % 16) = true then xL S l ++ [(nI 0, xR S 1 v + 1, t)] else xL S l := by
  unfold ak
  simp only []
  rw [sA_L h16 hv _ _ _ hl]
  rfl
theorem ak_W {t : Int32} {N v : Nat} {S : St} : xW (ak t N v S) = xW S := by
  unfold ak
  simp only []
  rw [sA_W]; rfl
theorem Inv.tak {N A v : Nat} {S : St} (h : Inv N A S) (h16 : N ≤ 16) (hv : v < N) (h0 : xR S 0 v = 0) (hA : A + 1 < 1048576) (hQ : ∀ i, N ≤ i → i < 32 → bt (qm N S v) i = false) (t : Int32) : Inv N (A + 1) (ak t N v S) := by
  obtain ⟨c, m, hc, hm, e1, e2⟩ := h.2.2.2.1 v (by omega)
  obtain ⟨ja, jb, jc, jd, je, jf, jg, jh⟩ := h.mo (Nat.le_succ A)
  have eR : ∀ k i, k ≠ 16 → i ≠ v → xR (ak t N v S) k i = xR S k i := fun k i hk hi => by rw [ak_R hk, if_neg hi]
  have r : ∀ k, (k = 7 ∨ k = 8 ∨ k = 9 ∨ k = 10) → xR (ak t N v S) k = xR S k := fun k hk => funext fun i => by
    rw [ak_R (by omega)]
    by_cases d : i = v
    · rw [if_pos d, if_neg (by omega), if_neg (by omega), if_neg (by omega), if_neg (by omega), if_neg (by omega), if_neg (by omega), if_neg (by omega), if_neg (by omega), if_neg (by omega)]
    · rw [if_neg d]
  have r7 := r 7 (by omega); have r8 := r 8 (by omega); have r9 := r 9 (by omega); have r10 := r 10 (by omega)
  have n0 : xR (ak t N v S) 0 v = 1 := by rw [ak_R (by decide), if_pos rfl]; rfl
  have n1 : xR (ak t N v S) 1 v = nI (c + 1) := by rw [ak_R (by decide), if_pos rfl, e1, nI_1]; rfl
  have n2 : xR (ak t N v S) 2 v = nI (c + 1) := by rw [ak_R (by decide), if_pos rfl, e1, nI_1]; rfl
  have n3 : xR (ak t N v S) 3 v = qm N S v := by rw [ak_R (by decide), if_pos rfl]; rfl
  have n4 : xR (ak t N v S) 4 v = 0 := by rw [ak_R (by decide), if_pos rfl]; rfl
  have n5 : xR (ak t N v S) 5 v = 0 := by rw [ak_R (by decide), if_pos rfl]; rfl
  have eL : ∀ l, l < 256 → xL (ak t N v S) l = if l / 16 = v ∧ l % 16 < N ∧ bt (qm N S v) (l % 16) = true then xL S l ++ [(nI 0, nI (c + 1), t)] else xL S l := fun l hl => by
    rw [ak_L h16 (by omega) hl, e1, nI_1]
  have re : ∀ u b, oe (ak t N v S) 99 99 none u b = oe S 99 99 none u b := fun u b => by unfold oe eng; rw [r8, r9, ak_W]
  have rz : ∀ {u b s}, Zok S u b s → Zok (ak t N v S) u b s := fun {u b s} z => by
    by_cases d : u = v
    · subst d
      obtain ⟨n, m', z1, z2, z3, z4, z5⟩ := z
      have em : m' = m := (nI_eq (by omega) (by omega)).mp (z2.symm.trans e2)
      exact ⟨n, c + 1, z1, n2, by omega, by omega, fun q => by omega⟩
    · exact z.ex (eR 2 u (by decide) d) (eR 0 u (by decide) d) (eR 3 u (by decide) d)
  refine ⟨?_, ?_, ?_, ?_, ?_, ?_, ?_, ?_⟩
  · intro u hu
    rw [r7, r10]
    obtain ⟨x1, x2, x3, x4⟩ := ja u hu
    by_cases d : u = v
    · subst d; exact ⟨Or.inr (Or.inl n0), fun z => absurd hv (by omega), x3, x4⟩
    · rw [eR 0 u (by decide) d]; exact ⟨x1, x2, x3, x4⟩
  · intro u hu i hi hi2
    by_cases d : u = v
    · subst d; rw [n3]; exact hQ i hi hi2
    · rw [eR 3 u (by decide) d]; exact jb u hu i hi hi2
  · intro u hu q1 i hi
    by_cases d : u = v
    · subst d
      rw [n4, n5, b_0]
      exact ⟨fun z => absurd z (by decide), fun z => absurd z (by decide)⟩
    · rw [eR 0 u (by decide) d] at q1
      rw [eR 3 u (by decide) d, eR 4 u (by decide) d, eR 5 u (by decide) d]
      exact jc u hu q1 i hi
  · intro u hu
    by_cases d : u = v
    · subst d; exact ⟨c + 1, c + 1, by omega, Nat.le_refl _, n1, n2⟩
    · rw [eR 1 u (by decide) d, eR 2 u (by decide) d]; exact jd u hu
  · intro l hl
    rw [eL l hl]
    by_cases d : l / 16 = v ∧ l % 16 < N ∧ bt (qm N S v) (l % 16) = true
    · rw [if_pos d]
      refine ⟨fun x hx => ?_, fun z => absurd ⟨by omega, d.2.1⟩ z⟩
      rcases List.mem_append.mp hx with hx | hx
      · exact (je l hl).1 x hx
      · rw [List.mem_singleton] at hx
        subst hx
        exact ⟨⟨0, by decide, rfl⟩, c + 1, by omega, rfl⟩
    · rw [if_neg d]; exact je l hl
  · unfold IF; rw [ak_W, r8, r9, r10]; exact jf
  · intro u hu b hb
    rw [re, eL _ (by omega)]
    have i := jg u hu b hb
    by_cases d : u = v
    · subst d
      have o : opn S u b = none := by unfold opn; rw [if_neg (fun z => z.1 h0)]
      rw [o] at i
      rw [show (16 * u + b) % 16 = b by omega]
      by_cases c2 : bt (qm N S u) b = true
      · have o2 : opn (ak t N u S) u b = some (nI (c + 1)) := by unfold opn; rw [n0, n3, n2, if_pos ⟨ne10, c2⟩]
        rw [if_pos ⟨by omega, hb, c2⟩, run_ap, i, Option.bind_some, run_req, o2]
      · have o2 : opn (ak t N u S) u b = none := by unfold opn; rw [n3, if_neg (fun z => c2 z.2)]
        rw [if_neg (fun z => c2 z.2.2), i, o2]
    · have o : opn (ak t N v S) u b = opn S u b := by
        unfold opn; rw [eR 0 u (by decide) d, eR 3 u (by decide) d, eR 2 u (by decide) d]
      rw [o, if_neg (by omega)]; exact i
  · intro u hu b hb
    obtain ⟨j1, j2, j3⟩ := jh u hu b hb
    refine ⟨fun s z => rz (j1 s (by rw [← re]; exact z)), fun x q1 q2 => ?_, fun x q1 q2 => ?_⟩
    · rw [eL _ (by omega)] at q1
      by_cases d : (16 * u + b) / 16 = v ∧ (16 * u + b) % 16 < N ∧ bt (qm N S v) ((16 * u + b) % 16) = true
      · rw [if_pos d] at q1
        rcases List.mem_append.mp q1 with q1 | q1
        · exact rz (j2 x q1 q2)
        · rw [List.mem_singleton] at q1
          subst q1
          have d1 : u = v := by omega
          subst d1
          exact ⟨c + 1, c + 1, rfl, n2, Nat.le_refl _, by omega, fun _ _ => by rw [n3]; have := d.2.2; rwa [show (16 * u + b) % 16 = b by omega] at this⟩
      · rw [if_neg d] at q1; exact rz (j2 x q1 q2)
    · rw [eL _ (by omega)] at q1
      split at q1
      · rcases List.mem_append.mp q1 with q1 | q1
        · exact rz (j3 x q1 q2)
        · rw [List.mem_singleton] at q1
          subst q1
          exact absurd (show nI 0 = nI 1 ∨ nI 0 = nI 2 ∨ nI 0 = nI 3 from q2) (by decide)
      · exact rz (j3 x q1 q2)
/-- a letter's stamp puts the clock on -/
theorem InvG.clk {N A : Nat} {S : St} {v0 a0 : Nat} {e0 : Option Int32} (h : InvG N A S v0 a0 e0) (h16 : N ≤ 16) (hA : A < 1048576) {g s : Nat} (hg : g < 16) (hs : s ≤ A) : InvG N A (if nI s ≤ xR S 1 g then S else uR S 1 g (nI s)) v0 a0 e0 := by
  split
  · exact h
  · rename_i c
    obtain ⟨ja, jb, jc, jd, je, jf, jg, jh⟩ := h
    have r : ∀ k, k ≠ 1 → xR (uR S 1 g (nI s)) k = xR S k := fun k hk => funext fun i => by rw [xR_uR, if_neg (fun z => hk z.1)]
    have ro : ∀ u b, opn (uR S 1 g (nI s)) u b = opn S u b := fun u b => rfl
    have re : ∀ u b, oe (uR S 1 g (nI s)) v0 a0 e0 u b = oe S v0 a0 e0 u b := fun u b => rfl
    have rz : ∀ {u b s'}, Zok S u b s' → Zok (uR S 1 g (nI s)) u b s' := fun z => z
    refine ⟨ja, jb, jc, ?_, je, jf, jg, jh⟩
    intro u hu
    obtain ⟨c', m, z1, z2, z3, z4⟩ := jd u hu
    by_cases d : u = g
    · subst d
      refine ⟨s, m, hs, ?_, by rw [xR_uR, if_pos ⟨rfl, rfl⟩], by rw [r 2 (by decide)]; exact z4⟩
      have : ¬ s ≤ c' := fun q => c (by rw [z3]; exact nI_le q (by omega))
      omega
    · exact ⟨c', m, z1, z2, by rw [xR_uR, if_neg (fun q => d q.2)]; exact z3, by rw [r 2 (by decide)]; exact z4⟩
theorem wt_S (N k f g : Nat) (s : Int32) (S : St) : Sam S (wt N k f g s S) := ⟨(wt_WL N k f g s S).1, fun k' hk _ i => wt_R (by omega) (by omega) (by omega) i⟩
theorem popE_cg {S S' : St} {f g : Nat} {x : Ltr} (h : eng S' g f = eng S g f) : popE S' f g x = popE S f g x := by
  unfold popE; rw [h]
/-- what a reading rests on -/
theorem Hok_of {N A : Nat} {S : St} {v0 a0 : Nat} {e0 : Option Int32} (h : InvG N A S v0 a0 e0) (h16 : N ≤ 16) {f g : Nat} (hg : g < N) (x : Int32) : Hok S f g x := by
  have hF := h.2.2.2.2.2.1 g (by omega)
  have hl := hF.1.len
  refine ⟨fun w hw => by have := (hF.1.2.2 w hw).1; omega, by omega, Srt_of hF.1.1, ?_⟩
  rcases hF.2.2 with z | ⟨y, z1, z2, _⟩
  · exact Or.inl z.1
  · exact Or.inr ⟨y, by omega, z2⟩
theorem clk_R {S : St} {g : Nat} {s : Int32} {k i : Nat} (hk : k ≠ 1) : xR (if s ≤ xR S 1 g then S else uR S 1 g s) k i = xR S k i := by
  split
  · rfl
  · rw [xR_uR, if_neg (fun z => hk z.1)]
theorem clk_2 {S : St} {g : Nat} {s : Int32} : (if s ≤ xR S 1 g then S else uR S 1 g s).2 = S.2 := by
  split <;> rfl
theorem Inv.tbr {N A : Nat} {S : St} (h : Inv N A S) (h16 : N ≤ 16) (hA : A < 1048576) {f g : Nat} (hf : f < N) (hg : g < N) (t : Int32) : Inv N A (br t N f g S) := by
  unfold br
  cases hx : xL S (16 * f + g) with
  | nil => exact h
  | cons x r =>
    simp only []
    obtain ⟨⟨k, hk, ek⟩, n, hn, en⟩ := (h.2.2.2.2.1 _ (show 16 * f + g < 256 by omega)).1 x (by rw [hx]; simp)
    have kk : x.1.toNatClampNeg = k := by rw [ek, nI_clamp (by omega)]
    rw [kk, en]
    obtain ⟨h1, p0, p5, pz⟩ := h.pop h16 hf hg hx
    have wl := wt_WL N k f g (nI n) (uL S (16 * f + g) r)
    have sm := wt_S N k f g (nI n) (uL S (16 * f + g) r)
    have h2 := h1.reg sm wl.2
    have h3 := h2.clk h16 hA (g := g) (s := n) (by omega) hn
    generalize hS2 : wt N k f g (nI n) (uL S (16 * f + g) r) = S2 at h2 h3 wl sm
    unfold rd
    simp only []
    have e2 : ∀ b u, eng S2 b u = eng S b u := fun b u => by
      unfold eng
      rw [sm.2 8 (by decide) (by decide), sm.2 9 (by decide) (by decide), sm.1]
      rfl
    have q2 : ∀ k, k < 11 → k ≠ 6 → ∀ i, xR S2 k i = xR S k i := fun k hk hk6 i => sm.2 k hk hk6 i
    generalize hS3 : (if nI n ≤ xR S2 1 g then S2 else uR S2 1 g (nI n)) = S3 at h3
    have r3 : ∀ k, k ≠ 1 → ∀ i, xR S3 k i = xR S2 k i := fun k hk i => by rw [← hS3]; exact clk_R hk
    have w3 : xW S3 = xW S2 := by rw [← hS3]; unfold xW; rw [clk_2]
    have e3 : ∀ b u, eng S3 b u = eng S b u := fun b u => by
      rw [← e2]
      unfold eng
      rw [r3 8 (by decide), r3 9 (by decide), w3]
    have other : ¬ k = 0 → ¬ k = 5 → Inv N A S3 := by
      intro k0 k5
      have : popE S f g x = eng S3 g f := by
        unfold popE
        rw [ek, if_neg (nI_ne (by omega) (by decide) k0), if_neg (nI_ne (by omega) (by decide) k5), e3]
      rw [this] at h3
      exact (InvG.id h16).mp h3
    by_cases k0 : k = 0
    · rw [if_pos k0]
      subst k0
      have : popE S f g x = some (nI n) := by unfold popE; rw [if_pos ek, en]
      rw [this] at h3
      exact h3.trq h16 hg hf hn (by rw [e3]; exact p0 ek) t
    · rw [if_neg k0]
      by_cases k4 : k = 4
      · rw [if_pos k4]
        exact (other k0 (by omega)).tyl h16 hg hf hn t
      · rw [if_neg k4]
        by_cases k5 : k = 5
        · rw [if_pos k5]
          subst k5
          have : popE S f g x = none := by unfold popE; rw [ek, if_neg (nI_ne (by decide) (by decide) (by decide)), if_pos rfl]
          rw [this] at h3
          exact h3.trl h16 hg hf (by rw [e3, p5 ek, en]) t
        · rw [if_neg k5]
          have h4 := other k0 k5
          split
          · rename_i c
            have z := pz (by rw [ek]; rcases (show k = 1 ∨ k = 2 ∨ k = 3 by omega) with rfl | rfl | rfl <;> simp)
            have hb : bt (xR S3 3 g) f = true := by
              obtain ⟨a, b, z1, z2, z3, z4, z5⟩ := z
              rw [r3 3 (by decide), q2 3 (by decide) (by decide)]
              have c1 := c.1
              have c2 := c.2
              rw [r3 0 (by decide), q2 0 (by decide) (by decide)] at c1
              rw [r3 2 (by decide), q2 2 (by decide) (by decide)] at c2
              refine z5 ?_ c1
              have : nI b = nI a := z2.symm.trans (c2.trans (en.symm.trans z1))
              exact ((nI_eq (by omega) (by omega)).mp this).symm
            split
            · exact h4.tgr h16 hg hf c.1 hb t
            · split
              · exact h4.tfd h16 hg c.1 t
              · exact h4.tiq h16 hg hf c.1 t
          · exact h4
/-! ===== how many letters ===== -/
theorem fl_uL_len (S : St) {l : Nat} (hl : l < 256) (r : List Ltr) : (fl (uL S l r)).length + (xL S l).length = (fl S).length + r.length := by
  have a1 := congrArg List.length (fl_split S hl)
  have a2 := congrArg List.length (fl_uL S hl r)
  simp only [List.length_append, List.length_map] at a1 a2
  omega
theorem fl_2 {S S' : St} (h : S'.2 = S.2) : fl S' = fl S := by
  apply fl_L
  unfold xL
  rw [h]
theorem gF_len {t : Int32} {a : Nat} {S : St} (ha : a < 16) (hW : ∀ w, w ∈ xW S a → w.1 < 16) : (fl (gF t a S)).length ≤ (fl S).length + 1 := by
  unfold gF
  cases hw : xW S a with
  | nil => exact Nat.le_succ _
  | cons w r =>
    simp only []
    rw [fl_sn_len (by have := hW w (by rw [hw]; simp); omega)]
    exact Nat.le_refl _
theorem en_fl {t : Int32} {N v : Nat} {S : St} : fl (en t N v S) = fl S := fl_L en_WL.2
theorem fdl_len {t : Int32} {v : Nat} (hv : v < 16) (db : Int32) : ∀ (ws : List Nat) (S : St), (∀ w, w ∈ ws → w < 16) → (fl (fdl t v db ws S)).length ≤ (fl S).length + ws.length := by
  intro ws
  induction ws with
  | nil => intro S _; exact Nat.le_refl _
  | cons w ws ih =>
    intro S hw
    have := hw w (by simp)
    unfold fdl
    rw [List.foldl_cons]
    have h2 := ih (if bt db w then yT t v w S else S) (fun w hx => hw w (by simp [hx]))
    unfold fdl at h2
    refine Nat.le_trans h2 ?_
    rw [List.length_cons]
    split
    · rw [yT_len _ (by omega)]; omega
    · omega
theorem rd_len {t : Int32} {N k f g : Nat} {s : Int32} {S : St} (h2 : 2 ≤ N) (h16 : N ≤ 16) (hf : f < 16) (hg : g < 16) (hH : Hok S f g s) : (fl (rd t N k f g s S)).length ≤ (fl S).length + N := by
  obtain ⟨hW, _, _, hG⟩ := hH
  unfold rd
  simp only []
  have c0 : fl (if s ≤ xR S 1 g then S else uR S 1 g s) = fl S := fl_2 clk_2
  have w0 : xW (if s ≤ xR S 1 g then S else uR S 1 g s) = xW S := by unfold xW; rw [clk_2]
  have r8 : xR (if s ≤ xR S 1 g then S else uR S 1 g s) 8 g = xR S 8 g := clk_R (by decide)
  generalize (if s ≤ xR S 1 g then S else uR S 1 g s) = S1 at c0 w0 r8
  have hW1 : ∀ w, w ∈ xW S1 g → w.1 < 16 := by rw [w0]; exact hW
  have hWi : ∀ w, w ∈ xW (uW S1 g (ins f s (xW S1 g))) g → w.1 < 16 := by
    intro w hw
    rw [xW_uW, if_pos rfl] at hw
    rcases ins_mem hw with rfl | hw
    · exact hf
    · exact hW1 w hw
  rw [← c0]
  have fW : ∀ l, fl (uW S1 g l) = fl S1 := fun _ => rfl
  split
  · unfold rq
    split
    · have := gF_len (t := t) hg hWi
      rw [fW] at this; omega
    · split
      · have hr2 : (fl (rq2 t g (xW S1 g) (uW S1 g (ins f s (xW S1 g))))).length ≤ (fl S1).length + 1 := by
          unfold rq2
          cases hc : xW S1 g with
          | nil => rw [fW]; exact Nat.le_succ _
          | cons y ys =>
            simp only []
            split
            · rw [fl_sn_len (by have := hW1 y (by rw [hc]; simp); omega), fW]; exact Nat.le_refl _
            · rw [fW]; exact Nat.le_succ _
        unfold rq3
        split
        · omega
        · have hgn : gn (rq2 t g (xW S1 g) (uW S1 g (ins f s (xW S1 g)))) g < 16 := by
            unfold gn
            rw [rq2_R (by decide), xR_uW, r8]
            rcases hG with z | ⟨y, hy, z⟩
            · rw [z]; decide
            · rw [z, nI_clamp (by omega)]; exact hy
          rw [fl_sn_len (by omega)]
          have : fl (uR (rq2 t g (xW S1 g) (uW S1 g (ins f s (xW S1 g)))) 10 g 1) = fl (rq2 t g (xW S1 g) (uW S1 g (ins f s (xW S1 g)))) := rfl
          rw [this]; omega
      · rw [fl_sn_len (by omega), fW]; omega
  · split
    · unfold yl
      split
      · have := gF_len (t := t) hg hWi
        rw [fW] at this; omega
      · omega
    · split
      · unfold rl
        split
        · have := gF_len (t := t) hg hW1
          omega
        · rw [fW]; omega
      · split
        · split
          · unfold gr
            simp only []
            split
            · rw [en_fl]; exact Nat.le_add_right _ _
            · exact Nat.le_add_right _ _
          · split
            · unfold fd
              have := fdl_len (t := t) hg (xR S1 5 g) (List.range N) (uR S1 6 g (bon (xR S1 6 g) f)) (fun w hw => by have := List.mem_range.mp hw; omega)
              rw [List.length_range] at this
              exact this
            · unfold iq
              split
              · split
                · exact Nat.le_add_right _ _
                · rw [yT_len _ (by omega)]; omega
              · omega
        · omega
theorem br_len {N A : Nat} {S : St} (h : Inv N A S) (h2 : 2 ≤ N) (h16 : N ≤ 16) {f g : Nat} (hf : f < N) (hg : g < N) (t : Int32) : (fl (br t N f g S)).length ≤ (fl S).length + N := by
  unfold br
  cases hx : xL S (16 * f + g) with
  | nil => exact Nat.le_add_right _ _
  | cons x r =>
    simp only []
    obtain ⟨h1, _, _, _⟩ := h.pop h16 hf hg hx
    have wl := wt_WL N x.1.toNatClampNeg f g x.2.1 (uL S (16 * f + g) r)
    have sm := wt_S N x.1.toNatClampNeg f g x.2.1 (uL S (16 * f + g) r)
    have h2' := h1.reg sm wl.2
    have a := rd_len (t := t) (k := x.1.toNatClampNeg) h2 h16 (show f < 16 by omega) (show g < 16 by omega) (Hok_of h2' h16 (f := f) hg x.2.1)
    have b := fl_uL_len S (show 16 * f + g < 256 by omega) r
    rw [fl_L wl.2] at a
    rw [hx, List.length_cons] at b
    omega
theorem lv_len {N v : Nat} {S : St} (h16 : N ≤ 16) (hv : v < 16) (t : Int32) : (fl (lv t N v S)).length ≤ (fl S).length + N := by
  have := sAl_len t (k := 5) hv (xR S 3 v) (xR S 2 v) (List.range N) (rst v S) (fun w hw => by have := List.mem_range.mp hw; omega)
  rw [List.length_range] at this
  exact this
theorem ak_len {N v : Nat} {S : St} (h16 : N ≤ 16) (hv : v < 16) (t : Int32) : (fl (ak t N v S)).length ≤ (fl S).length + N := by
  unfold ak
  simp only []
  have := sAl_len t (k := 0) hv (qm N S v) (xR S 1 v + 1) (List.range N) (uR (uR (uR (uR (uR (uR (uR (uR (uR S 1 v (xR S 1 v + 1)) 2 v (xR S 1 v + 1)) 3 v (qm N S v)) 4 v 0) 5 v 0) 6 v 0) 0 v 1) 13 v (xR S 15 1)) 14 v 0) (fun w hw => by have := List.mem_range.mp hw; omega)
  rw [List.length_range] at this
  exact this
