/-! ===== the arbiter's steps keep it ===== -/
def gF' (t : Int32) (a : Nat) (S : St) : St := match xW S a with
  | [] => S
  | w :: r => sn t 1 a w.1 w.2 (uW (uR (uR S 8 a (nI w.1)) 9 a w.2) a r)
theorem gF_e (t : Int32) (a : Nat) (S : St) : gF t a S = gF' t a (nob a S) := by
  unfold gF gF'
  rw [show xW (nob a S) a = xW S a from rfl]
  cases xW S a with
  | nil => rfl
  | cons w r => rfl
theorem nob_R {a : Nat} {S : St} {k i : Nat} (h : i ≠ a ∨ k < 8 ∨ 10 < k) : xR (nob a S) k i = xR S k i := by
  unfold nob
  rw [xR_uR, if_neg (by omega), xR_uR, if_neg (by omega), xR_uR, if_neg (by omega)]
theorem nob_8 (a : Nat) (S : St) : xR (nob a S) 8 a = -1 ∧ xR (nob a S) 9 a = 0 ∧ xR (nob a S) 10 a = 0 := by
  unfold nob
  refine ⟨?_, ?_, ?_⟩ <;> simp [xR_uR]
theorem oe_n {S : St} {v0 a0 : Nat} {e0 : Option Int32} {v a : Nat} (h : v ≠ v0) : oe S v0 a0 e0 v a = eng S a v := by
  unfold oe
  rw [if_neg (fun z => h z.1)]
theorem oe_y {S : St} {v0 a0 : Nat} {e0 : Option Int32} : oe S v0 a0 e0 v0 a0 = e0 := by
  unfold oe
  rw [if_pos ⟨rfl, rfl⟩]
/-- only what a knows has changed: whom it granted, who waits -/
def Arb (a : Nat) (S S' : St) : Prop := xL S' = xL S ∧ (∀ b, b ≠ a → xW S' b = xW S b) ∧ ∀ k i, (i ≠ a ∨ k < 8) → k < 11 → xR S' k i = xR S k i
theorem Arb.inv {N A a : Nat} {S S' : St} {v0 v1 : Nat} {e0 e1 : Option Int32} (q : Arb a S S') (h16 : N ≤ 16) (ha : a < N) (h : InvG N A S v0 a e0) (hF : Wok N A (xW S' a) ∧ ((xR S' 8 a = -1 ∧ xR S' 9 a = 0 ∧ xR S' 10 a = 0) ∨ ∃ g, g < N ∧ xR S' 8 a = nI g ∧ g ∉ (xW S' a).map Prod.fst ∧ ∃ s, s ≤ A ∧ xR S' 9 a = nI s)) (h10 : xR S' 10 a = 0 ∨ xR S' 10 a = 1) (he : ∀ v, v < N → oe S' v1 a e1 v a = oe S v0 a e0 v a) : InvG N A S' v1 a e1 := by
  obtain ⟨qL, qW, qR⟩ := q
  obtain ⟨ja, jb, jc, jd, je, jf, jg, jh⟩ := h
  have r : ∀ k, k < 8 → xR S' k = xR S k := fun k hk => funext fun i => qR k i (Or.inr hk) (by omega)
  have ro : ∀ v b, opn S' v b = opn S v b := fun v b => by unfold opn; rw [r 0 (by decide), r 3 (by decide), r 2 (by decide)]
  have rz : ∀ {v b s}, Zok S v b s → Zok S' v b s := fun z => z.ex (by rw [r 2 (by decide)]) (by rw [r 0 (by decide)]) (by rw [r 3 (by decide)])
  have re : ∀ v, v < N → ∀ b, b < N → oe S' v1 a e1 v b = oe S v0 a e0 v b := by
    intro v hv b hb
    by_cases c : b = a
    · rw [c]; exact he v hv
    · unfold oe
      rw [if_neg (fun z => c z.2), if_neg (fun z => c z.2)]
      unfold eng
      rw [qR 8 b (Or.inl c) (by decide), qR 9 b (Or.inl c) (by decide), qW b c]
  refine ⟨?_, ?_, ?_, ?_, ?_, ?_, ?_, ?_⟩
  · intro v hv
    rw [r 0 (by decide), r 7 (by decide)]
    obtain ⟨x1, x2, x3, x4⟩ := ja v hv
    refine ⟨x1, x2, x3, ?_⟩
    by_cases c : v = a
    · rw [c]; exact h10
    · rw [qR 10 v (Or.inl c) (by decide)]; exact x4
  · unfold IB; rw [r 3 (by decide)]; exact jb
  · unfold IC; rw [r 0 (by decide), r 3 (by decide), r 4 (by decide), r 5 (by decide)]; exact jc
  · unfold ID; rw [r 1 (by decide), r 2 (by decide)]; exact jd
  · unfold IE; rw [qL]; exact je
  · intro b hb
    by_cases c : b = a
    · rw [c]; exact ⟨hF.1, fun z => absurd ha (by omega), hF.2⟩
    · rw [qW b c, qR 8 b (Or.inl c) (by decide), qR 9 b (Or.inl c) (by decide), qR 10 b (Or.inl c) (by decide)]; exact jf b hb
  · intro v hv b hb
    rw [re v hv b hb, ro, qL]; exact jg v hv b hb
  · intro v hv b hb
    rw [qL]
    obtain ⟨j1, j2, j3⟩ := jh v hv b hb
    exact ⟨fun s z => rz (j1 s (by rw [← re v hv b hb]; exact z)), fun x q1 q2 => rz (j2 x q1 q2), fun x q1 q2 => rz (j3 x q1 q2)⟩
theorem nob_A (a : Nat) (S : St) : Arb a S (nob a S) := ⟨rfl, fun _ _ => rfl, fun k i h _ => nob_R (by omega)⟩
theorem m1_ne {v : Nat} (h : v < 16) : ¬ (-1 : Int32) = nI v := fun q => nI_m1 h q.symm
theorem eng_nob {a : Nat} {S : St} {v : Nat} (hv : v < 16) : eng (nob a S) a v = engW (xW S a) v := by
  unfold eng
  rw [(nob_8 a S).1, if_neg (m1_ne hv)]
  rfl
theorem InvG.tnob {N A a v0 : Nat} {S : St} {e0 : Option Int32} (h : InvG N A S v0 a e0) (h16 : N ≤ 16) (ha : a < N) (ho : ∀ v, v < N → v ≠ v0 → eng S a v = engW (xW S a) v) : InvG N A (nob a S) v0 a e0 := by
  refine (nob_A a S).inv h16 ha h ⟨(h.2.2.2.2.2.1 a (by omega)).1, Or.inl (nob_8 a S)⟩ (Or.inl (nob_8 a S).2.2) (fun v hv => ?_)
  unfold oe
  by_cases c : v = v0 ∧ a = a
  · rw [if_pos c, if_pos c]
  · rw [if_neg c, if_neg c, eng_nob (by omega)]
    exact (ho v hv (fun e => c ⟨e, rfl⟩)).symm
theorem Inv.a {N A a : Nat} {S : St} (h16 : N ≤ 16) : InvG N A S 99 a none ↔ Inv N A S := by
  have e : ∀ v, v < N → ∀ b, oe S 99 a none v b = oe S 99 99 none v b := fun v hv b => by
    unfold oe; rw [if_neg (by omega), if_neg (by omega)]
  unfold Inv InvG IG IH
  constructor
  · rintro ⟨x1, x2, x3, x4, x5, x6, i, j⟩
    exact ⟨x1, x2, x3, x4, x5, x6, fun v hv a ha => (e v hv a) ▸ i v hv a ha, fun v hv a ha => (e v hv a) ▸ j v hv a ha⟩
  · rintro ⟨x1, x2, x3, x4, x5, x6, i, j⟩
    exact ⟨x1, x2, x3, x4, x5, x6, fun v hv a ha => (e v hv a).symm ▸ i v hv a ha, fun v hv a ha => (e v hv a).symm ▸ j v hv a ha⟩
theorem Inv.tgF' {N A a : Nat} {S : St} (h : Inv N A S) (h16 : N ≤ 16) (ha : a < N) (h8 : xR S 8 a = -1) (t : Int32) : Inv N A (gF' t a S) := by
  unfold gF'
  have hF := h.2.2.2.2.2.1 a (by omega)
  have hr : xR S 9 a = 0 ∧ xR S 10 a = 0 := by
    rcases hF.2.2 with z | ⟨g, z1, z2, _⟩
    · exact z.2
    · rw [h8] at z2; exact absurd z2 (m1_ne (by omega))
  cases hw : xW S a with
  | nil => exact h
  | cons w r =>
    simp only []
    rw [hw] at hF
    obtain ⟨hw1, s, hs, es⟩ := hF.1.2.2 w (by simp)
    have hd := hF.1.2.1
    rw [List.map_cons] at hd
    have hd2 := List.nodup_cons.mp hd
    have e8 : xR (uW (uR (uR S 8 a (nI w.1)) 9 a w.2) a r) 8 a = nI w.1 := by simp [xR_uR, xR_uW]
    have e9 : xR (uW (uR (uR S 8 a (nI w.1)) 9 a w.2) a r) 9 a = w.2 := by simp [xR_uR, xR_uW]
    have e10 : xR (uW (uR (uR S 8 a (nI w.1)) 9 a w.2) a r) 10 a = 0 := by simp [xR_uR, xR_uW, hr.2]
    have eW : xW (uW (uR (uR S 8 a (nI w.1)) 9 a w.2) a r) a = r := by rw [xW_uW, if_pos rfl]
    have q : Arb a S (uW (uR (uR S 8 a (nI w.1)) 9 a w.2) a r) := ⟨rfl, fun b hb => by rw [xW_uW, if_neg hb]; rfl, fun k i hk hk2 => by
      rw [xR_uW, xR_uR, if_neg (by omega), xR_uR, if_neg (by omega)]⟩
    have h1 : Inv N A (uW (uR (uR S 8 a (nI w.1)) 9 a w.2) a r) := by
      rw [← Inv.a (a := a) h16]
      refine q.inv (v0 := 99) (e0 := none) h16 ha ((Inv.a h16).mpr h) ⟨by rw [eW]; exact hF.1.tl, Or.inr ⟨w.1, hw1, e8, by rw [eW]; exact hd2.1, s, hs, by rw [e9]; exact es⟩⟩ (Or.inl e10) (fun v hv => ?_)
      unfold oe
      rw [if_neg (by omega), if_neg (by omega)]
      unfold eng
      rw [e8, e9, eW, h8, if_neg (m1_ne (show v < 16 by omega)), hw]
      unfold engW
      by_cases c : w.1 = v
      · rw [if_pos (by rw [c]), if_pos c]
      · rw [if_neg (nI_ne (by omega) (by omega) c), if_neg c]
        cases r <;> rfl
    refine InvG.tsn h1 h16 (by decide) ha hw1 ⟨s, hs, es⟩ (fun _ => ?_)
    have := (h1.2.2.2.2.2.2.2 w.1 hw1 a ha).1 w.2
    rw [oe_99 (by omega)] at this
    refine this ?_
    unfold eng
    rw [e8, e9, if_pos rfl]
/-- one comes waiting of whom a knew nothing -/
theorem InvG.tins {N A a v n : Nat} {S : St} (h : InvG N A S v a (some (nI n))) (h16 : N ≤ 16) (ha : a < N) (hv : v < N) (hn : n ≤ A) (he : eng S a v = none) : Inv N A (uW S a (ins v (nI n) (xW S a))) := by
  have hF := h.2.2.2.2.2.1 a (by omega)
  have h8 : ¬ xR S 8 a = nI v := fun c => by unfold eng at he; rw [if_pos c] at he; cases he
  have hW : v ∉ (xW S a).map Prod.fst := by
    unfold eng at he
    rw [if_neg h8] at he
    exact engW_none.mp he
  have eW : xW (uW S a (ins v (nI n) (xW S a))) a = ins v (nI n) (xW S a) := by rw [xW_uW, if_pos rfl]
  have q : Arb a S (uW S a (ins v (nI n) (xW S a))) := ⟨rfl, fun b hb => by rw [xW_uW, if_neg hb], fun _ _ _ _ => rfl⟩
  rw [← Inv.a (a := a) h16]
  refine q.inv (v0 := v) (e0 := some (nI n)) h16 ha h ⟨by rw [eW]; exact ins_Wok hF.1 hv h16 hn hW, ?_⟩ (h.1 a (by omega)).2.2.2 (fun u hu => ?_)
  · rcases hF.2.2 with z | ⟨g, z1, z2, z3, z4⟩
    · exact Or.inl z
    · refine Or.inr ⟨g, z1, z2, ?_, z4⟩
      rw [eW]
      intro m
      obtain ⟨w, hw, e⟩ := List.mem_map.mp m
      rcases ins_mem hw with rfl | hw
      · exact h8 (by rw [z2, ← e])
      · exact z3 (by rw [← e]; exact List.mem_map_of_mem hw)
  · rw [oe_n (by omega)]
    by_cases c : u = v
    · subst c
      rw [oe_y]
      unfold eng
      rw [eW, engW_ins hF.1 hv h16 hn hW, xR_uW, if_neg h8, if_pos rfl]
    · rw [oe_n c]
      unfold eng
      rw [eW, engW_ins hF.1 hv h16 hn hW, xR_uW, if_neg c]
theorem eng_z {N A a v : Nat} {S : St} (h : Inv N A S) (h16 : N ≤ 16) (ha : a < N) (hv : v < N) {s : Int32} (e : eng S a v = some s) : Zok S v a s := by
  have := (h.2.2.2.2.2.2.2 v hv a ha).1 s
  rw [oe_99 (by omega)] at this
  exact this e
theorem rq2_R {t : Int32} {a : Nat} {old : List Wtr} {S : St} {k i : Nat} (hk : k ≠ 16) : xR (rq2 t a old S) k i = xR S k i := by
  unfold rq2
  split
  · rfl
  · split
    · exact sn_R _ _ _ _ _ _ hk
    · rfl
theorem rq2_n {t : Int32} {a : Nat} {old : List Wtr} {S : St} (h : old = []) : rq2 t a old S = S := by subst h; rfl
theorem rq2_c {t : Int32} {a : Nat} {old : List Wtr} {S : St} {y : Wtr} {ys : List Wtr} (h : old = y :: ys) : rq2 t a old S = if ahd y.2 (nI y.1) (xR S 9 a) (xR S 8 a) then sn t 2 a y.1 y.2 S else S := by subst h; rfl
theorem rq2_W {t : Int32} {a : Nat} {old : List Wtr} {S : St} : xW (rq2 t a old S) = xW S := by
  unfold rq2
  split
  · rfl
  · split
    · rfl
    · rfl
theorem InvG.trq {N A a v n : Nat} {S : St} (h : InvG N A S v a (some (nI n))) (h16 : N ≤ 16) (ha : a < N) (hv : v < N) (hn : n ≤ A) (he : eng S a v = none) (t : Int32) : Inv N A (rq t a v (nI n) S) := by
  have h1 := h.tins h16 ha hv hn he
  have hF := h1.2.2.2.2.2.1 a (by omega)
  have hFo := h.2.2.2.2.2.1 a (by omega)
  have eW : xW (uW S a (ins v (nI n) (xW S a))) a = ins v (nI n) (xW S a) := by rw [xW_uW, if_pos rfl]
  unfold rq
  by_cases c8 : xR S 8 a = -1
  · rw [if_pos c8, gF_e]
    refine Inv.tgF' ?_ h16 ha (nob_8 _ _).1 t
    rw [← Inv.a (a := a) h16]
    refine InvG.tnob ((Inv.a h16).mpr h1) h16 ha (fun u hu _ => ?_)
    unfold eng
    rw [xR_uW, c8, if_neg (m1_ne (by omega))]
  · rw [if_neg c8]
    obtain ⟨g, hg, e8, hgW, sg, hsg, e9⟩ := hF.2.2.resolve_left (fun z => c8 z.1)
    have e8' : xR S 8 a = nI g := e8
    have e9' : xR S 9 a = nI sg := e9
    have gnS : ∀ S', xR S' 8 a = xR S 8 a → gn S' a = g := fun S' z => gn_e (z.trans e8') (by omega)
    split
    · have h2 : Inv N A (rq2 t a (xW S a) (uW S a (ins v (nI n) (xW S a)))) := by
        by_cases hc : xW S a = []
        · rw [rq2_n hc]; exact h1
        · obtain ⟨y, ys, hy⟩ := List.exists_cons_of_ne_nil hc
          rw [rq2_c hy]
          split
          · obtain ⟨hy1, sy, hsy, ey⟩ := hFo.1.2.2 y (by rw [hy]; simp)
            refine InvG.tsn h1 h16 (by decide) ha hy1 ⟨sy, hsy, ey⟩ (fun _ => eng_z h1 h16 ha hy1 ?_)
            have hm : y ∈ ins v (nI n) (xW S a) := ins_perm.mpr (Or.inr (by rw [hy]; simp))
            unfold eng
            rw [eW, if_neg]
            · exact (engW_some (by rw [eW] at hF; exact hF.1.2.1)).mpr hm
            · intro z
              have : g = y.1 := (nI_eq (by omega) (by omega)).mp (e8.symm.trans z)
              exact hgW (by rw [eW, this]; exact List.mem_map_of_mem hm)
          · exact h1
      unfold rq3
      have k8 : xR (rq2 t a (xW S a) (uW S a (ins v (nI n) (xW S a)))) 8 a = nI g := by rw [rq2_R (by decide)]; exact e8
      have k9 : xR (rq2 t a (xW S a) (uW S a (ins v (nI n) (xW S a)))) 9 a = nI sg := by rw [rq2_R (by decide)]; exact e9
      split
      · exact h2
      · rw [gn_e k8 (by omega), k9]
        have h3 : Inv N A (uR (rq2 t a (xW S a) (uW S a (ins v (nI n) (xW S a)))) 10 a 1) := by
          rw [← Inv.a (a := a) h16]
          have hF2 := h2.2.2.2.2.2.1 a (by omega)
          have q : Arb a (rq2 t a (xW S a) (uW S a (ins v (nI n) (xW S a)))) (uR (rq2 t a (xW S a) (uW S a (ins v (nI n) (xW S a)))) 10 a 1) := ⟨rfl, fun _ _ => rfl, fun k i hk _ => by rw [xR_uR, if_neg (by omega)]⟩
          refine q.inv (v0 := 99) (e0 := none) h16 ha ((Inv.a h16).mpr h2) ⟨hF2.1, Or.inr ⟨g, hg, ?_, ?_, sg, hsg, ?_⟩⟩ (Or.inr (by rw [xR_uR, if_pos ⟨rfl, rfl⟩])) (fun u hu => ?_)
          · rw [xR_uR, if_neg (by omega)]; exact k8
          · rw [xW_uR, rq2_W]; exact hgW
          · rw [xR_uR, if_neg (by omega)]; exact k9
          · rw [oe_n (by omega), oe_n (by omega)]
            unfold eng
            rw [xR_uR, if_neg (show ¬ (8 = 10 ∧ a = a) by omega), xR_uR, if_neg (show ¬ (9 = 10 ∧ a = a) by omega), xW_uR]
        refine InvG.tsn h3 h16 (by decide) ha hg ⟨sg, hsg, rfl⟩ (fun _ => eng_z h3 h16 ha hg ?_)
        unfold eng
        rw [xR_uR, if_neg (show ¬ (8 = 10 ∧ a = a) by omega), k8, if_pos rfl, xR_uR, if_neg (show ¬ (9 = 10 ∧ a = a) by omega), k9]
    · refine InvG.tsn h1 h16 (by decide) ha hv ⟨n, hn, rfl⟩ (fun _ => eng_z h1 h16 ha hv ?_)
      unfold eng
      rw [eW, if_neg]
      · exact (engW_some (by rw [eW] at hF; exact hF.1.2.1)).mpr (ins_perm.mpr (Or.inl rfl))
      · intro z
        have : g = v := (nI_eq (by omega) (by omega)).mp (e8.symm.trans z)
        exact hgW (by rw [eW, this]; exact List.mem_map_of_mem (f := Prod.fst) (ins_perm.mpr (Or.inl rfl)))
theorem Inv.tyl {N A a v n : Nat} {S : St} (h : Inv N A S) (h16 : N ≤ 16) (ha : a < N) (hv : v < N) (hn : n ≤ A) (t : Int32) : Inv N A (yl t a v (nI n) S) := by
  have hF := h.2.2.2.2.2.1 a (by omega)
  unfold yl
  split
  · rename_i c
    obtain ⟨g, hg, e8, hgW, _⟩ := hF.2.2.resolve_left (fun z => m1_ne (show v < 16 by omega) (z.1.symm.trans c.1))
    have egv : g = v := (nI_eq (by omega) (by omega)).mp (e8.symm.trans c.1)
    subst egv
    have he : eng S a g = some (nI n) := by unfold eng; rw [if_pos c.1, c.2]
    have h0 : InvG N A S g a (some (nI n)) := by rw [← he]; exact (InvG.id h16).mpr h
    have h1 := h0.tnob h16 ha (fun u hu hne => by
      unfold eng
      rw [e8, if_neg (nI_ne (by omega) (by omega) (fun z => hne z.symm))])
    have h2 := h1.tins h16 ha hg hn (by rw [eng_nob (by omega)]; exact engW_none.mpr hgW)
    rw [gF_e]
    exact Inv.tgF' h2 h16 ha (nob_8 _ _).1 t
  · exact h
theorem InvG.trl {N A a v n : Nat} {S : St} (h : InvG N A S v a none) (h16 : N ≤ 16) (ha : a < N) (hv : v < N) (he : eng S a v = some (nI n)) (t : Int32) : Inv N A (rl t a v (nI n) S) := by
  have hF := h.2.2.2.2.2.1 a (by omega)
  unfold rl
  split
  · rename_i c
    obtain ⟨g, hg, e8, hgW, _⟩ := hF.2.2.resolve_left (fun z => m1_ne (show v < 16 by omega) (z.1.symm.trans c.1))
    have egv : g = v := (nI_eq (by omega) (by omega)).mp (e8.symm.trans c.1)
    subst egv
    have h1 := h.tnob h16 ha (fun u hu hne => by
      unfold eng
      rw [e8, if_neg (nI_ne (by omega) (by omega) (fun z => hne z.symm))])
    have h2 : Inv N A (nob a S) := by
      have e : eng (nob a S) a g = none := by rw [eng_nob (by omega)]; exact engW_none.mpr hgW
      rw [← e] at h1
      exact (InvG.id h16).mp h1
    rw [gF_e]
    exact Inv.tgF' h2 h16 ha (nob_8 _ _).1 t
  · rename_i c
    have h8 : ¬ xR S 8 a = nI v := by
      intro z
      unfold eng at he
      rw [if_pos z] at he
      exact c ⟨z, Option.some.inj he⟩
    have hW : engW (xW S a) v = some (nI n) := by
      unfold eng at he
      rwa [if_neg h8] at he
    have eW : xW (uW S a (gone v (nI n) (xW S a))) a = gone v (nI n) (xW S a) := by rw [xW_uW, if_pos rfl]
    have q : Arb a S (uW S a (gone v (nI n) (xW S a))) := ⟨rfl, fun b hb => by rw [xW_uW, if_neg hb], fun _ _ _ _ => rfl⟩
    rw [← Inv.a (a := a) h16]
    refine q.inv (v0 := v) (e0 := none) h16 ha h ⟨by rw [eW]; exact hF.1.sub gone_sub, ?_⟩ (h.1 a (by omega)).2.2.2 (fun u hu => ?_)
    · rcases hF.2.2 with z | ⟨g, z1, z2, z3, z4⟩
      · exact Or.inl z
      · refine Or.inr ⟨g, z1, z2, ?_, z4⟩
        rw [eW]
        intro m
        exact z3 ((gone_sub.map _).subset m)
    · rw [oe_n (by omega)]
      by_cases c2 : u = v
      · subst c2
        rw [oe_y]
        unfold eng
        rw [eW, engW_gone hF.1.2.1 hW, xR_uW, if_neg h8, if_pos rfl]
      · rw [oe_n c2]
        unfold eng
        rw [eW, engW_gone hF.1.2.1 hW, xR_uW, if_neg c2]
