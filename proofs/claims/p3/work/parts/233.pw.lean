/-! ===== a letter put into a cell kept aside ===== -/
theorem flr_len_up {L : Nat → List Ltr} {l : Nat} (hl : l < 256) (x : List Ltr) : (flr (up1 L l x) 0 256).length + (L l).length = (flr L 0 256).length + x.length := by
  have a1 := congrArg List.length (flr_split L l hl)
  have a2 := congrArg List.length (flr_split (up1 L l x) l hl)
  rw [flr_up (a := 0) (n := l) (Or.inr (by omega)), flr_up (a := l + 1) (n := 255 - l) (Or.inl (by omega)), up1_s] at a2
  simp only [List.length_append, List.length_map] at a1 a2
  omega
theorem up1_fst {K : Nat → List (Nat × Ltr)} {l : Nat} {x : List (Nat × Ltr)} : (fun i => (up1 K l x i).map Prod.snd) = up1 (fun i => (K i).map Prod.snd) l (x.map Prod.snd) := by
  funext i
  unfold up1
  split <;> rfl
set_option maxHeartbeats 2000000 in
theorem PW.put {M : Mem} {h d5 d6 d7 len : Nat} {t : Int32} {se : Nat → Int32} {K : Nat → List (Nat × Ltr)} {fr : List Nat} {us : Nat} {ow : Nat → Nat} (q : CS M h) (p : PW M h d5 d6 d7 len t se K fr us ow 1) {c k f g : Nat} {s : Int32} (hc : c < us) (hoc : ow c = 257) (hk : k < 6) (hf : f < 16) (hg : g < 16) : ∃ M', f_X5_put_129 (h + 1) (nI k) (nI f) (nI g) s (nI c) M = some M' ∧ PW M' h d5 d6 d7 len t (up1 se k (se k + 1)) (up1 K (16 * f + g) (K (16 * f + g) ++ [(c, (nI k, s, t))])) fr us (up1 ow c (16 * f + g)) 0 ∧ M'.1 = M.1 ∧ (∀ o b, mL M' o b = mL M o b) ∧ (∀ o, ¬ (h + 1 ≤ o ∧ o ≤ h + 6) → o ≠ d5 → o ≠ d6 → o ≠ d7 → ∀ b, mI M' o b = mI M o b) := by
  obtain ⟨w, pc, pn, pch, pla, pma, pbu, pse, ⟨pf1, pf2, pf3⟩, ⟨pu1, pu2, pu3, pu4, pu5⟩, pt, tot, pt1, pt2, pt3⟩ := p
  generalize hl : 16 * f + g = l
  have l1 : l < 256 := by omega
  have hcl : ∀ l', l' < 256 → ∀ y, y ∈ K l' → y.1 ≠ c := fun l' hl' y hy e => by
    have := (pc l' hl' y hy).2.1
    rw [e, hoc] at this; omega
  have hml : (K l).length ≤ us := by
    have := nd_le us ((K l).map Prod.fst) (pn l l1) (fun x hx => by
      obtain ⟨y, hy, rfl⟩ := List.mem_map.mp hx
      exact (pc l l1 y hy).1)
    rwa [List.length_map] at this
  obtain ⟨z, hz⟩ : ∃ z, (K l).length ≠ 0 → ∃ cs, (K l).map Prod.fst = cs ++ [z] := by
    rcases nil_app ((K l).map Prod.fst) with e | ⟨cs, z, e⟩
    · exact ⟨0, fun n => absurd (by rw [← List.length_map (f := Prod.fst), e]; rfl) n⟩
    · exact ⟨z, fun _ => ⟨cs, e⟩⟩
  have hzK : (K l).length ≠ 0 → z < us ∧ ow z = l ∧ z ≠ c := by
    intro n
    obtain ⟨cs, e⟩ := hz n
    have : z ∈ (K l).map Prod.fst := by rw [e]; simp
    obtain ⟨y, hy, rfl⟩ := List.mem_map.mp this
    exact ⟨(pc l l1 y hy).1, (pc l l1 y hy).2.1, hcl l l1 y hy⟩
  obtain ⟨M', e, m1, m2, f5, f6, f7, g2, g3, g4, g5, g6, g1, fo⟩ := f129 (z := z) (s := s) q w hl (show c < len by omega) (fun n => ⟨by have := (hzK n).1; omega, (hzK n).2.2⟩) (by omega) hf hg hk (pma l l1) (by omega) (fun n => by obtain ⟨cs, e⟩ := hz n; exact pla l l1 cs z e) pt1 pt
  have uK : ∀ l', l' ≠ l → up1 K l (K l ++ [(c, (nI k, s, t))]) l' = K l' := fun l' n => up1_o _ _ _ n
  have uO : ∀ x, x ≠ c → up1 ow c l x = ow x := fun x n => up1_o _ _ _ n
  refine ⟨M', e, ⟨w.e m1, fun l' hl' y hy => ?_, fun l' hl' => ?_, fun l' hl' => ?_, fun l' hl' cs z' ez => ?_, fun l' hl' => ?_, fun f' hf' g' hg' => ?_, fun k' hk' => ?_, ⟨pf1, fun x hx => ?_, ?_⟩, ⟨?_, pu2, pu3, pu4, pu5⟩, ?_, tot + 1, ?_, by omega, ?_⟩, m1, m2, fo⟩
  · by_cases n : l' = l
    · subst n
      rw [up1_s] at hy
      rcases List.mem_append.mp hy with hy | hy
      · have hn := hcl l' hl' y hy
        rw [uO _ hn, f5, if_neg hn, f6, if_neg hn]
        exact pc l' hl' y hy
      · rw [List.mem_singleton] at hy
        subst hy
        exact ⟨hc, up1_s _ _ _, by rw [f5, if_pos rfl], by rw [f6, if_pos rfl]⟩
    · rw [uK l' n] at hy
      have hn := hcl l' hl' y hy
      rw [uO _ hn, f5, if_neg hn, f6, if_neg hn]
      exact pc l' hl' y hy
  · by_cases n : l' = l
    · subst n
      rw [up1_s, List.map_append, List.nodup_append]
      refine ⟨pn l' hl', by simp, fun x hx y hy => ?_⟩
      obtain ⟨r, hr, rfl⟩ := List.mem_map.mp hx
      simp at hy
      rw [hy]
      exact hcl l' hl' r hr
    · rw [uK l' n]; exact pn l' hl'
  · by_cases n : l' = l
    · subst n
      rw [up1_s, List.map_append, g2]
      by_cases m0 : (K l').length = 0
      · have : K l' = [] := List.eq_nil_of_length_eq_zero m0
        rw [this, if_pos ⟨rfl, rfl⟩]
        exact ⟨rfl, trivial⟩
      · rw [if_neg (fun y => m0 y.1)]
        obtain ⟨cs, ez⟩ := hz m0
        have hnd := pn l' hl'
        have hch := pch l' hl'
        rw [ez] at hnd hch ⊢
        refine Chn.app hch hnd (fun d hd => ?_) ?_
        · have hdz : d ≠ z := fun e2 => by
            rw [List.nodup_append] at hnd
            exact hnd.2.2 d hd z (by simp) e2
          have : d ∈ (K l').map Prod.fst := by rw [ez]; exact List.mem_append_left _ hd
          obtain ⟨r, hr, rfl⟩ := List.mem_map.mp this
          rw [f7, if_neg (fun y => hdz y.2), if_neg (hcl l' hl' r hr)]
        · rw [f7, if_pos ⟨m0, rfl⟩]
    · rw [uK l' n, g2, if_neg (fun y => n y.2)]
      refine (pch l' hl').cg fun x hx => ?_
      obtain ⟨r, hr, rfl⟩ := List.mem_map.mp hx
      rw [f7, if_neg, if_neg (hcl l' hl' r hr)]
      rintro ⟨m0, e2⟩
      have := (hzK m0).2.1
      rw [← e2, (pc l' hl' r hr).2.1] at this
      exact n this
  · by_cases n : l' = l
    · subst n
      rw [up1_s, List.map_append] at ez
      have := List.append_inj_right' ez (by simp)
      simp at this
      rw [g3, if_pos rfl, this]
    · rw [uK l' n] at ez
      rw [g3, if_neg n]
      exact pla l' hl' cs z' ez
  · by_cases n : l' = l
    · subst n
      rw [up1_s, g4, if_pos rfl, List.length_append, List.length_singleton]
    · rw [uK l' n, g4, if_neg n]; exact pma l' hl'
  · rw [g5]
    by_cases nf : f' = f
    · subst nf
      rw [if_pos rfl, bt_on _ (by omega) hg', pbu f' hf' g' hg']
      by_cases ng : g' = g
      · subst ng
        rw [hl, up1_s]
        simp [hg]
      · by_cases g16 : g' < 16
        · rw [uK _ (by omega)]; simp [ng]
        · simp [ng, g16]
    · rw [if_neg nf, pbu f' hf' g' hg']
      by_cases g16 : g' < 16
      · rw [uK _ (by omega)]
      · simp [g16]
  · rw [g6]
    by_cases n : k' = k
    · subst n; rw [if_pos rfl, up1_s, pse k' hk']
    · rw [if_neg n, up1_o _ _ _ n]; exact pse k' hk'
  · have := pf2 x hx
    rw [uO x (fun e2 => by rw [e2, hoc] at this; omega)]; exact this
  · rw [g1, if_neg (by decide)]
    refine pf3.cg fun x hx => ?_
    have := pf2 x hx
    rw [f7, if_neg, if_neg (fun e2 => by rw [e2, hoc] at this; omega)]
    rintro ⟨m0, e2⟩
    have h2 := (hzK m0).2.1
    rw [← e2, this.2] at h2
    omega
  · rw [g1, if_neg (by decide)]; exact pu1
  · rw [g1, if_neg (by decide)]; exact pt
  · rw [g1, if_pos rfl]
  · rw [up1_fst, List.map_append]
    have := flr_len_up (L := fun i => (K i).map Prod.snd) l1 ((K l).map Prod.snd ++ [(nI k, s, t)])
    simp only [List.length_append, List.length_singleton] at this
    simp only [List.map_cons, List.map_nil]
    omega
