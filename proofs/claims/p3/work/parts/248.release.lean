theorem nob_nob (a : Nat) (S : St) : nob a (nob a S) = nob a S := by
  refine Prod.ext ?_ rfl
  funext k i
  show xR (nob a (nob a S)) k i = xR (nob a S) k i
  unfold nob
  simp only [xR_uR]
  by_cases c10 : k = 10 ∧ i = a
  · rw [if_pos c10, if_pos c10]
  · rw [if_neg c10, if_neg c10]
    by_cases c9 : k = 9 ∧ i = a
    · rw [if_pos c9, if_pos c9]
    · rw [if_neg c9, if_neg c9]
      by_cases c8 : k = 8 ∧ i = a
      · rw [if_pos c8, if_pos c8]
      · rw [if_neg c8, if_neg c8]
theorem gF_nob (t : Int32) (a : Nat) (S : St) : gF t a (nob a S) = gF t a S := by
  rw [gF_e, gF_e, nob_nob]
theorem gone_fst {v : Nat} {s : Int32} : ∀ {l : List Wtr}, (l.map Prod.fst).Nodup → (v, s) ∈ l → ∀ u, u ∈ (gone v s l).map Prod.fst ↔ u ∈ l.map Prod.fst ∧ u ≠ v := by
  intro l
  induction l with
  | nil => intro _ h; simp at h
  | cons w r ih =>
    intro hd hm u
    rw [List.map_cons] at hd
    obtain ⟨d1, d2⟩ := List.nodup_cons.mp hd
    unfold gone
    by_cases c : w = (v, s)
    · rw [if_pos c, List.map_cons, List.mem_cons]
      have ew : w.1 = v := by rw [c]
      rw [ew] at d1 ⊢
      constructor
      · intro h
        exact ⟨Or.inr h, fun z => d1 (z ▸ h)⟩
      · rintro ⟨h | h, n⟩
        · exact absurd h n
        · exact h
    · rw [if_neg c, List.map_cons, List.map_cons, List.mem_cons, List.mem_cons]
      have hm2 : (v, s) ∈ r := by
        rcases List.mem_cons.mp hm with e | e
        · exact absurd e.symm c
        · exact e
      rw [ih d2 hm2 u]
      have nv : w.1 ≠ v := fun z => d1 (List.mem_map.mpr ⟨(v, s), hm2, z.symm⟩)
      constructor
      · rintro (h | ⟨h, n⟩)
        · exact ⟨Or.inl h, fun z => nv (h ▸ z)⟩
        · exact ⟨Or.inr h, n⟩
      · rintro ⟨h | h, n⟩
        · exact Or.inl h
        · exact Or.inr ⟨h, n⟩
set_option maxHeartbeats 1000000 in
theorem HV.forget {M : Mem} {h X Y N : Nat} {t : Int32} {Q : Nat → Int32} {S : St} {pb pt : List Row4} (p : HV M h X Y t N Q S pb pt) {a : Nat} (ha : a < 16) : ∃ M', f_X4_forgetGranted (h + 17 + 2 * a) M = some M' ∧ HV M' h X Y t N Q (nob a S) pb pt ∧ FrH M M' h := by
  obtain ⟨a1, a2, a3, a4, a5⟩ := p.2.2.1.1 a ha
  obtain ⟨r8, r9, r10⟩ := nob_8 a S
  generalize hS : nob a S = S1 at r8 r9 r10 ⊢
  have rr : ∀ k i, (i ≠ a ∨ k < 8 ∨ 10 < k) → xR S1 k i = xR S k i := fun k i z => by rw [← hS]; exact nob_R z
  have lim : ∀ p, p ∈ ft → p.1 ≠ 7 ∧ ((p.1 = 6 ∧ p.2 = 8) ∨ (p.1 = 8 ∧ p.2 = 10) ∨ (p.1 ≠ 6 ∧ p.1 ≠ 8 ∧ (p.2 < 8 ∨ 10 < p.2))) := by decide
  have hp : HP (sI (sI (sI M (h + 17 + 2 * a) 6 (-1)) (h + 17 + 2 * a) 7 (-1)) (h + 17 + 2 * a) 8 0) h S1 := by
    refine p.2.2.1.at (v := a) ⟨fun p hp => ?_, ?_, fun z => ?_, fun u hu => ?_, fun w hw => ?_⟩ (fun o _ n _ b => by rw [mI_o _ _ _ _ _ n, mI_o _ _ _ _ _ n, mI_o _ _ _ _ _ n]) (fun k i n _ _ _ => rr k i (Or.inl n)) (rr 0 a (by omega)) (rr 7 a (by omega)) (by funext i; exact rr 15 i (by omega)) (fun b n => by rw [← hS]; rfl)
    · obtain ⟨l7, ⟨l1, l2⟩ | ⟨l1, l2⟩ | ⟨l1, l2, l3⟩⟩ := lim p hp
      · rw [l1, l2, mI_n _ _ _ _ (by decide), mI_n _ _ _ _ (by decide), mI_s, r8]
      · rw [l1, l2, mI_s, r10]
      · rw [mI_n _ _ _ _ l2, mI_n _ _ _ _ l7, mI_n _ _ _ _ l1, rr _ _ (Or.inr l3)]
        exact a1 p hp
    · rw [mI_n _ _ _ _ (by decide), mI_s, r8, if_pos rfl]
    · rw [mI_n _ _ _ _ (by decide), mI_n _ _ _ _ (by decide), mI_n _ _ _ _ (by decide), rr _ _ (by omega)]
      exact a3 (by rw [rr _ _ (by omega)] at z; exact z)
    · rw [mI_n _ _ _ _ (by decide), mI_n _ _ _ _ (by decide), mI_n _ _ _ _ (by decide), ← hS]
      exact a4 u hu
    · rw [mI_o _ _ _ _ _ (by omega), mI_o _ _ _ _ _ (by omega), mI_o _ _ _ _ _ (by omega)]
      exact a5 w (by rw [← hS] at hw; exact hw)
  refine ⟨sI (sI (sI M (h + 17 + 2 * a) 6 (-1)) (h + 17 + 2 * a) 7 (-1)) (h + 17 + 2 * a) 8 0, by rw [f_X4_forgetGranted, cs_po p.1 ha, bnd_e, bnd_e, chk_t (Or.inl rfl), bnd_e], p.at rfl (fun o n b => by rw [mI_o _ _ _ _ _ (by omega), mI_o _ _ _ _ _ (by omega), mI_o _ _ _ _ _ (by omega)]) hp ?_ ?_ ?_ ?_, FrH.of rfl (fun o n b => by rw [mI_o _ _ _ _ _ (by omega), mI_o _ _ _ _ _ (by omega), mI_o _ _ _ _ _ (by omega)]) (fun _ _ => rfl)⟩
  · rw [← hS]; rfl
  · funext i; exact rr 16 i (by omega)
  · rw [← hS]; rfl
  · rw [← hS]; rfl
theorem HV.iw {M : Mem} {h X Y N A : Nat} {t : Int32} {Q : Nat → Int32} {S : St} {pb pt : List Row4} (p : HV M h X Y t N Q S pb pt) {a v : Nat} {s : Int32} (ha : a < 16) (hv : v < 16) (hW : Wok N A (xW S a)) : f_X4_isWaitingBy (h + 17 + 2 * a) (nI v) s M = some (if (v, s) ∈ xW S a then 1 else 0) := by
  obtain ⟨_, _, _, a4, a5⟩ := p.2.2.1.1 a ha
  have q := p.1
  rw [f_X4_isWaitingBy, cs_po q ha, f_has9 _ (by omega), obd_s, a4 v (by omega)]
  by_cases c : v ∈ (xW S a).map Prod.fst
  · obtain ⟨w, hw, e⟩ := List.mem_map.mp c
    have hr := a5 w hw
    rw [e] at hr
    rw [decide_eq_true c, if_pos rfl, if_neg (by decide), cs_pr q ha, bnd_e, cs_pa q ha, cs_pi q ha hv, mI_c (by omega), hr]
    by_cases d : w.2 = s
    · rw [if_pos d, if_pos (by rw [← e, ← d]; exact hw)]
    · rw [if_neg d, if_neg (fun z => d (by rw [nd_eq hW.2.1 hw z e]))]
  · rw [decide_eq_false c, if_pos (by decide), if_neg (fun z => c (List.mem_map.mpr ⟨_, z, rfl⟩))]
theorem HV.trl {M : Mem} {h X Y N A n : Nat} {t : Int32} {Q : Nat → Int32} {S : St} {pb pt : List Row4} (p : HV M h X Y t N Q S pb pt) (h16 : N ≤ 16) {a v : Nat} {s : Int32} (ha : a < 16) (hv : v < 16) (hW : Wok N A (xW S a)) (hl : (fl S).length < 9000) (hn : 17 ≤ n) : ∃ M', f_X2_hearRelease n h (nI v) (nI a) s M = some M' ∧ HV M' h X Y t N Q (rl t a v s S) pb pt ∧ FrH M M' h := by
  have q := p.1
  obtain ⟨_, _, _, a4, a5⟩ := p.2.2.1.1 a ha
  rw [f_X2_hearRelease, cs_f q, cs_h2 q, bnd_e, cs_a10 q, cs_i10 q ha, cs_rpc q ha, bnd_e, cs_po q ha, p.ig ha hv, obd_s]
  unfold rl
  by_cases c : xR S 8 a = nI v ∧ xR S 9 a = s
  · rw [if_pos c, if_pos c, if_neg (by decide)]
    obtain ⟨M1, e1, p1, f1⟩ := p.forget ha
    cases hx : xW S a with
    | nil =>
      have fw := p1.2.2.1.fw p1.1 ha (N := N) (A := A) (n := n) (by show Wok N A (xW S a); exact hW) h16 hn
      have hh : xW (nob a S) a = [] := hx
      rw [hh] at fw
      have q1 := p1.1
      refine ⟨M1, ?_, ?_, f1⟩
      · rw [e1, obd_s, cs_f q1, f_X2_grantFirst, cs_f q1, cs_h2 q1, bnd_e, cs_a10 q1, cs_i10 q1 ha, cs_rpc q1 ha, bnd_e, cs_po q1 ha, fw, obd_s, if_pos (show hdW [] = (-1 : Int32) from rfl), obd_s]
      · unfold gF
        rw [hx]
        exact p1
    | cons w r =>
      obtain ⟨M2, e2, p2, f2⟩ := p1.grant (A := A) hl ha hW h16 hn (w := w) (r := r) hx
      rw [gF_nob] at p2
      exact ⟨M2, by rw [e1, obd_s, cs_f p1.1, e2, obd_s], p2, f1.tr f2⟩
  · rw [if_neg c, if_neg c, if_pos rfl, p.iw ha hv hW, obd_s]
    by_cases d : (v, s) ∈ xW S a
    · rw [if_pos d, if_neg (by decide)]
      have gf := gone_fst hW.2.1 d
      obtain ⟨p', f'⟩ := p.tW (M' := sI M (h + 17 + 2 * a) 9 (bof (mI M (h + 17 + 2 * a) 9) v)) (l := gone v s (xW S a)) ha rfl (fun _ _ => rfl) (fun o n1 _ b => by rw [mI_o _ _ _ _ _ n1]) (fun b n => by rw [mI_n _ _ _ _ n]) (fun u hu => by
        rw [mI_s, bt_off _ (by omega) hu, a4 u hu]
        by_cases c1 : u ∈ (xW S a).map Prod.fst
        · by_cases c2 : u = v
          · rw [decide_eq_true c1, decide_eq_true c2, decide_eq_false (fun z => ((gf u).mp z).2 c2)]; rfl
          · rw [decide_eq_true c1, decide_eq_false c2, decide_eq_true ((gf u).mpr ⟨c1, c2⟩)]; rfl
        · rw [decide_eq_false c1, decide_eq_false (fun z => c1 ((gf u).mp z).1)]; rfl) (fun w hw => by
        rw [mI_o _ _ _ _ _ (by omega)]
        exact a5 w (gone_sub.subset hw))
      exact ⟨_, rfl, p', f'⟩
    · rw [if_neg d, if_pos rfl, gone_id d, uW_id]
      exact ⟨M, rfl, p, FrH.rf _ _⟩
