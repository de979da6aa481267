set_option maxHeartbeats 1000000 in
theorem HV.trq {M : Mem} {h X Y N A n : Nat} {t : Int32} {Q : Nat → Int32} {S : St} {pb pt : List Row4} (p : HV M h X Y t N Q S pb pt) (h16 : N ≤ 16) {a v s : Nat} (ha : a < 16) (hv : v < N) (hs : s ≤ A) (hW : Wok N A (xW S a)) (hnv : v ∉ (xW S a).map Prod.fst) (hG : Gok S a) (h10 : xR S 10 a = 0 ∨ xR S 10 a = 1) (hl : (fl S).length + 2 ≤ 9000) (hn : 17 ≤ n) : ∃ M', f_X2_hearRequest n h (nI v) (nI a) (nI s) M = some M' ∧ HV M' h X Y t N Q (rq t a v (nI s) S) pb pt ∧ FrH M M' h := by
  have q := p.1
  have v6 : v < 16 := by omega
  obtain ⟨M1, e1, p1, f1⟩ := p.lw (s := nI s) ha v6 hnv
  have hW1 := ins_Wok hW hv h16 hs hnv
  have fw0 := p.2.2.1.fw q ha hW h16 hn
  have w1 : xW (uW S a (ins v (nI s) (xW S a))) a = ins v (nI s) (xW S a) := by rw [xW_uW, if_pos rfl]
  have fw1 := p1.2.2.1.fw p1.1 ha (N := N) (A := A) (by rw [w1]; exact hW1) h16 hn
  rw [w1] at fw1
  generalize hl1 : ins v (nI s) (xW S a) = l1 at *
  have hvl : (v, nI s) ∈ l1 := by rw [← hl1]; exact ins_perm.mpr (Or.inl rfl)
  have hml : ∀ w, w ∈ l1 → w = (v, nI s) ∨ w ∈ xW S a := fun w hw => ins_perm.mp (by rw [hl1]; exact hw)
  have hms : ∀ w, w ∈ xW S a → w ∈ l1 := fun w hw => by rw [← hl1]; exact ins_perm.mpr (Or.inr hw)
  have q1 := p1.1
  rw [f_X2_hearRequest, cs_f q, cs_h2 q, bnd_e, cs_a10 q, cs_i10 q ha, cs_rpc q ha, bnd_e, cs_po q ha, fw0, obd_s, e1, obd_s, cs_po q1 ha, p1.fs ha (a := 6) (k := 8) (by decide)]
  generalize hS1 : uW S a l1 = S1 at *
  have r8 : xR S1 8 a = xR S 8 a := by rw [← hS1]; rfl
  have r9 : xR S1 9 a = xR S 9 a := by rw [← hS1]; rfl
  have r10 : xR S1 10 a = xR S 10 a := by rw [← hS1]; rfl
  have l0 : (fl S1).length = (fl S).length := by rw [← hS1]; rfl
  obtain ⟨w, r, hx⟩ : ∃ w r, l1 = w :: r := by
    cases z : l1 with
    | nil => rw [z] at hvl; simp at hvl
    | cons w r => exact ⟨w, r, rfl⟩
  unfold rq
  rw [hl1, hS1, r8]
  by_cases c : xR S 8 a = -1
  · rw [if_pos c, if_pos c]
    obtain ⟨M2, e2, p2, f2⟩ := p1.grant (A := A) (by omega) ha (by rw [w1]; exact hW1) h16 hn (by rw [w1]; exact hx)
    exact ⟨M2, by rw [cs_f q1, e2, obd_s], p2, f1.tr f2⟩
  · rw [if_neg c, if_neg c, fw1, obd_s]
    obtain ⟨g, hg, hg8⟩ : ∃ g, g < 16 ∧ xR S 8 a = nI g := hG.resolve_left c
    have k8 : xR S1 8 a = nI g := r8.trans hg8
    have iv := p1.iag ha hg k8 (w := (v, nI s)) (by rw [w1]; exact hvl) v6
    rw [r8, r9] at iv
    simp only at iv
    have hhd : hdW l1 = nI v ↔ l1.head? = some (v, nI s) := by
      rw [hx]
      show nI w.1 = nI v ↔ some w = some (v, nI s)
      constructor
      · intro z
        have hwl : w ∈ l1 := by rw [hx]; simp
        have w6 := (hW1.2.2 w hwl).1
        have e := (nI_eq (by omega) (by omega)).mp z
        rcases hml w hwl with h1 | h1
        · rw [h1]
        · exact absurd (List.mem_map.mpr ⟨w, h1, e⟩) hnv
      · intro z
        injection z with z
        rw [z]
    have fail : ∃ M', f_X2_hearRequest_55 n h (nI v) (nI a) (nI s) M1 = some M' ∧ HV M' h X Y t N Q (sn t 2 a v (nI s) S1) pb pt ∧ FrH M1 M' h := by
      obtain ⟨M2, e2, p2, f2⟩ := p1.put (k := 2) (f := a) (g := v) (s := nI s) (by omega) (by decide) ha v6
      exact ⟨M2, by rw [f_X2_hearRequest_55, cs_f q1, cs_h1 q1, bnd_e, cs_p q1, show f_X5_put (h + 1) 2 (nI a) (nI v) (nI s) M1 = some M2 from e2, obd_s], p2, f2⟩
    obtain ⟨Mf, ef, pf, ff⟩ := fail
    by_cases d : l1.head? = some (v, nI s)
    · rw [if_pos (hhd.mpr d), iv, obd_s]
      by_cases e : ahd (nI s) (nI v) (xR S 9 a) (xR S 8 a) = true
      · rw [if_pos e, if_neg (show ¬ (1 : Int32) = 0 by decide), if_pos (show l1.head? = some (v, nI s) ∧ ahd (nI s) (nI v) (xR S 9 a) (xR S 8 a) = true from ⟨d, e⟩)]
        have plain : ∃ M', f_X2_hearRequest_102 n h (nI a) (h + 17 + 2 * a) M1 = some M' ∧ HV M' h X Y t N Q (rq3 t a S1) pb pt ∧ FrH M1 M' h := p1.r102 ha hg k8 (by rw [r10]; exact h10) (by omega)
        obtain ⟨Mp, ep, pp, fp⟩ := plain
        cases hold : xW S a with
        | nil =>
          rw [if_pos (show hdW [] = (-1 : Int32) from rfl)]
          exact ⟨Mp, ep, pp, f1.tr fp⟩
        | cons u us =>
          have hu : u ∈ xW S a := by rw [hold]; simp
          have u6 := (hW.2.2 u hu).1
          have iu := p1.iag ha hg k8 (w := u) (by rw [w1]; exact hms u hu) (by omega)
          rw [r8, r9] at iu
          rw [if_neg (show ¬ hdW (u :: us) = (-1 : Int32) from nI_m1 (by omega)), show hdW (u :: us) = nI u.1 from rfl, iu, obd_s]
          unfold rq2
          simp only []
          rw [r8, r9]
          by_cases k : ahd u.2 (nI u.1) (xR S 9 a) (xR S 8 a) = true
          · obtain ⟨M2, e2, p2, f2⟩ := p1.put (k := 2) (f := a) (g := u.1) (s := u.2) (by omega) (by decide) ha (by omega)
            obtain ⟨M3, e3, p3, f3⟩ := p2.r102 (n := n) ha hg (by rw [sn_R _ _ _ _ _ _ (by decide)]; exact k8) (by rw [sn_R _ _ _ _ _ _ (by decide), r10]; exact h10) (by rw [fl_sn_len (by omega)]; omega)
            obtain ⟨_, _, _, _, a5⟩ := p1.2.2.1.1 a ha
            rw [if_pos k, if_neg (by decide), if_pos k]
            refine ⟨M3, ?_, p3, (f1.tr f2).tr f3⟩
            rw [cs_f q1, cs_h1 q1, bnd_e, cs_p q1, cs_pr q1 ha, bnd_e, cs_pa q1 ha, cs_pi q1 ha (by omega), mI_c (by omega), a5 u (by rw [w1]; exact hms u hu), show f_X5_put (h + 1) 2 (nI a) (nI u.1) u.2 M1 = some M2 from e2, obd_s, e3]
          · rw [if_neg k, if_pos rfl, if_neg k]
            exact ⟨Mp, ep, pp, f1.tr fp⟩
      · rw [if_neg e, if_pos rfl, if_neg (fun z => e z.2)]
        exact ⟨Mf, ef, pf, f1.tr ff⟩
    · rw [if_neg (fun z => d (hhd.mp z)), if_neg (fun z => d z.1)]
      exact ⟨Mf, ef, pf, f1.tr ff⟩
