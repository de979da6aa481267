set_option maxHeartbeats 2000000 in
theorem PW.take {M : Mem} {h d5 d6 d7 len : Nat} {t : Int32} {se : Nat → Int32} {K : Nat → List (Nat × Ltr)} {fr : List Nat} {us : Nat} {ow : Nat → Nat} (q : CS M h) (p : PW M h d5 d6 d7 len t se K fr us ow 0) {f g c : Nat} {x : Ltr} {r : List (Nat × Ltr)} (hf : f < 16) (hg : g < 16) (hK : K (16 * f + g) = (c, x) :: r) : ∃ M', f_X5_takeFirst (h + 1) (nI f) (nI g) M = some (encC x, M') ∧ PW M' h d5 d6 d7 len t se (up1 K (16 * f + g) r) (c :: fr) us (up1 ow c 256) 0 ∧ M'.1 = M.1 ∧ (∀ o b, mL M' o b = mL M o b) ∧ (∀ o, ¬ (h + 1 ≤ o ∧ o ≤ h + 6) → o ≠ d5 → o ≠ d6 → o ≠ d7 → ∀ b, mI M' o b = mI M o b) := by
  obtain ⟨w, pc, pn, pch, pla, pma, pbu, pse, ⟨pf1, pf2, pf3⟩, ⟨pu1, pu2, pu3, pu4, pu5⟩, pt, tot, pt1, pt2, pt3⟩ := p
  generalize hl : 16 * f + g = l at hK ⊢
  have l1 : l < 256 := by omega
  have wd := w.2.2.2
  have hq := q.2.2.2.2
  have hcm : (c, x) ∈ K l := by rw [hK]; simp
  obtain ⟨c1, c2, c3, c4⟩ := pc l l1 _ hcm
  simp only at c1 c2 c3 c4
  have hnd := pn l l1
  rw [hK, List.map_cons] at hnd
  obtain ⟨nd1, nd2⟩ := List.nodup_cons.mp hnd
  have hcl : ∀ l', l' < 256 → ∀ y, y ∈ up1 K l r l' → y.1 ≠ c := fun l' hl' y hy e => by
    by_cases n : l' = l
    · subst n
      rw [up1_s] at hy
      exact nd1 (List.mem_map.mpr ⟨y, hy, e⟩)
    · rw [up1_o _ _ _ n] at hy
      have := (pc l' hl' y hy).2.1
      rw [e, c2] at this; omega
  have hmem : ∀ l', l' < 256 → ∀ y, y ∈ up1 K l r l' → y ∈ K l' := fun l' hl' y hy => by
    by_cases n : l' = l
    · subst n
      rw [up1_s] at hy
      rw [hK]; exact List.mem_cons_of_mem _ hy
    · rwa [up1_o _ _ _ n] at hy
  have hnf : c ∉ fr := fun hc => by have := (pf2 c hc).2; omega
  have hch := pch l l1
  rw [hK, List.map_cons] at hch
  have hlen := flr_len_up (L := fun i => (K i).map Prod.snd) l1 (r.map Prod.snd)
  have htp : ∃ tot', tot = tot' + 1 := by
    have : (K l).length = r.length + 1 := by rw [hK]; rfl
    simp only [List.length_map] at hlen
    exact ⟨tot - 1, by omega⟩
  obtain ⟨tot', rfl⟩ := htp
  have hml : (K l).length ≤ us := by
    have := nd_le us ((K l).map Prod.fst) (pn l l1) (fun x hx => by
      obtain ⟨y, hy, rfl⟩ := List.mem_map.mp hx
      exact (pc l l1 y hy).1)
    rwa [List.length_map] at this
  have hKl : (K l).length = r.length + 1 := by rw [hK]; rfl
  obtain ⟨M', e, m1, m2, f7, g2, g4, g5, g1, fo⟩ := ftake (y := mI M (h + 1) 9) (m := r.length) (tot := tot') q w hl (show c < len by omega) (by omega) hf hg (by rw [pma l l1, hKl]) (by omega) hch.1 pt1 rfl
  have o5 : ∀ b, mI M' d5 b = mI M d5 b := fun b => fo d5 (by omega) (by omega) (by omega) (by omega) wd.2.2.2.2.1 b
  have o6 : ∀ b, mI M' d6 b = mI M d6 b := fun b => fo d6 (by omega) (by omega) (by omega) (by omega) wd.2.2.2.2.2 b
  refine ⟨M', by rw [e, c3], ⟨w.e m1, fun l' hl' y hy => ?_, fun l' hl' => ?_, fun l' hl' => ?_, fun l' hl' cs z' ez => ?_, fun l' hl' => ?_, fun f' hf' g' hg' => ?_, fun k' hk' => ?_, ⟨List.nodup_cons.mpr ⟨hnf, pf1⟩, fun x hx => ?_, ?_⟩, ⟨?_, pu2, pu3, pu4, pu5⟩, ?_, tot', ?_, ?_, ?_⟩, m1, m2, fun o n1 n5 n6 n7 b => fo o (by omega) (by omega) (by omega) (by omega) n7 b⟩
  · rw [up1_o _ _ _ (hcl l' hl' y hy), o5, o6]
    exact pc l' hl' y (hmem l' hl' y hy)
  · by_cases n : l' = l
    · subst n; rw [up1_s]; exact nd2
    · rw [up1_o _ _ _ n]; exact pn l' hl'
  · have h7 : ∀ x, x ∈ (up1 K l r l').map Prod.fst → mI M' d7 x = mI M d7 x := fun x hx => by
      obtain ⟨y, hy, rfl⟩ := List.mem_map.mp hx
      rw [f7, if_neg (hcl l' hl' y hy)]
    refine Chn.cg ?_ h7
    rw [g2]
    by_cases n : l' = l
    · subst n; rw [up1_s, if_pos rfl]; exact hch.2
    · rw [up1_o _ _ _ n, if_neg n]; exact pch l' hl'
  · rw [fo (h + 3) (by omega) (by omega) (by omega) (by omega) (by omega)]
    by_cases n : l' = l
    · subst n
      rw [up1_s] at ez
      exact pla l' hl' (c :: cs) z' (by rw [hK, List.map_cons, ez]; rfl)
    · rw [up1_o _ _ _ n] at ez
      exact pla l' hl' cs z' ez
  · rw [g4]
    by_cases n : l' = l
    · subst n; rw [up1_s, if_pos rfl]
    · rw [up1_o _ _ _ n, if_neg n]; exact pma l' hl'
  · have h0 := pbu f' hf' g' hg'
    rw [g5]
    by_cases n : 16 * f' + g' = l ∧ g' < 16
    · have e1 : f' = f := by omega
      have e2 : g' = g := by omega
      subst e1; subst e2
      rw [hl, up1_s]
      by_cases r0 : r = []
      · rw [if_pos ⟨by rw [r0]; rfl, rfl⟩, bt_off _ (by omega) hg']
        simp [r0]
      · rw [if_neg (fun z => r0 (List.eq_nil_of_length_eq_zero z.1)), h0, hl, hK]
        simp [r0]
    · by_cases e1 : r.length = 0 ∧ f' = f
      · have e2 : f' = f := e1.2
        subst e2
        rw [if_pos e1, bt_off _ (by omega) hg', h0]
        by_cases g16 : g' < 16
        · have e3 : g' ≠ g := fun z => n ⟨by rw [z]; exact hl, g16⟩
          rw [up1_o _ _ _ (by omega)]
          simp [e3]
        · simp [g16]
      · rw [if_neg e1, h0]
        by_cases g16 : g' < 16
        · rw [up1_o _ _ _ (fun z => n ⟨z, g16⟩)]
        · simp [g16]
  · rw [fo (h + 6) (by omega) (by omega) (by omega) (by omega) (by omega)]; exact pse k' hk'
  · rcases List.mem_cons.mp hx with e2 | hx2
    · rw [e2]; exact ⟨c1, up1_s _ _ _⟩
    · have := pf2 x hx2
      rw [up1_o _ _ _ (fun z => hnf (by rw [← z]; exact hx2))]
      exact this
  · rw [g1, if_neg (by decide), if_pos rfl]
    refine ⟨rfl, ?_⟩
    rw [f7, if_pos rfl]
    refine pf3.cg fun x hx => ?_
    rw [f7, if_neg (fun z => hnf (by rw [← z]; exact hx))]
  · rw [g1, if_neg (by decide), if_neg (by decide)]; exact pu1
  · rw [g1, if_neg (by decide), if_neg (by decide)]; exact pt
  · rw [g1, if_pos rfl]
  · simp only [List.length_cons]; omega
  · rw [up1_fst]
    simp only [List.length_map] at hlen
    omega
theorem ltr_nil {K : Nat → List (Nat × Ltr)} {S : St} {l : Nat} (e : (K l).map Prod.snd = xL S l) (hx : xL S l = []) : K l = [] := by
  rw [hx] at e
  exact List.map_eq_nil_iff.mp e
theorem PV.tno {M : Mem} {h : Nat} {t : Int32} {S : St} (q : CS M h) (p : PV M h t S) {f g : Nat} (hf : f < 16) (hg : g < 16) (hx : xL S (16 * f + g) = []) : f_X5_takeFirst (h + 1) (nI f) (nI g) M = some (-1, M) := by
  obtain ⟨d5, d6, d7, len, K, fr, us, ow, p, hK⟩ := p
  have hm := p.2.2.2.2.2.1 (16 * f + g) (by omega)
  rw [ltr_nil (hK _ (by omega)) hx] at hm
  rw [f_X5_takeFirst, c16', bnd_e, cs_p q, cs_r4 q, bnd_e, cs_a4 q, cs_i4 q (by omega), mI_c (by omega), hm, if_pos (by rfl)]
theorem PV.take {M : Mem} {h X Y : Nat} {t : Int32} {S : St} (q : CS M h) (p : PV M h t S) (rm : Rm M h X Y) {f g : Nat} {x : Ltr} {r : List Ltr} (hf : f < 16) (hg : g < 16) (hx : xL S (16 * f + g) = x :: r) : ∃ M', f_X5_takeFirst (h + 1) (nI f) (nI g) M = some (encC x, M') ∧ CS M' h ∧ PV M' h t (uL S (16 * f + g) r) ∧ Rm M' h X Y ∧ FrP M M' h := by
  obtain ⟨d5, d6, d7, len, K, fr, us, ow, p, hK⟩ := p
  obtain ⟨⟨w5, w6, w7⟩, _⟩ := id p.1
  have e0 := hK (16 * f + g) (by omega)
  rw [hx] at e0
  obtain ⟨⟨c, x'⟩, r', ek, e1, e2⟩ := List.map_eq_cons_iff.mp e0
  simp only at e1
  subst e1
  obtain ⟨M', e', p', m1, m2, m3⟩ := p.take q hf hg ek
  refine ⟨M', e', q.e m1, ⟨d5, d6, d7, len, _, _, us, _, p', fun l hl => ?_⟩, ?_, ?_, fun i _ => by rw [m1], fun a b _ _ => by unfold mR; rw [m1], fun o _ n1 n5 n6 n7 b => m3 o n1 (by rw [← w5]; exact n5) (by rw [← w6]; exact n6) (by rw [← w7]; exact n7) b, fun o _ b => m2 o b, fun j _ _ => Or.inl (by unfold mR; rw [m1])⟩
  · rw [xL_uL]
    by_cases e : l = 16 * f + g
    · rw [if_pos e, e, up1_s, e2]
    · rw [if_neg e, up1_o _ _ _ e]; exact hK l hl
  · unfold Rm mN mU mLn mR at rm ⊢
    rw [m1]; exact rm
  · unfold mN; rw [m1]; exact Nat.le_refl _
theorem PV.cnt {M : Mem} {h : Nat} {t : Int32} {S : St} (q : CS M h) (p : PV M h t S) {f g : Nat} (hf : f < 16) (hg : g < 16) : f_X5_countOn (h + 1) (nI f) (nI g) M = some (nI (xL S (16 * f + g)).length) := by
  obtain ⟨d5, d6, d7, len, K, fr, us, ow, p, hK⟩ := p
  have hm := p.2.2.2.2.2.1 (16 * f + g) (by omega)
  rw [f_X5_countOn, cs_p q, cs_r4 q, bnd_e, cs_a4 q, c16', cs_i4 q (by omega), mI_c (by omega), hm, ← hK _ (by omega), List.length_map]
