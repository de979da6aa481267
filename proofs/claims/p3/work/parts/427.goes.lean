/-! ===== the class's search: from a state on ===== -/
/-- the hall searched in and the search alone have changed -/
def FrS (D : Nat → Prop) (M M' : Mem) : Prop := mN M ≤ mN M' ∧ (∀ o, o < mN M → M'.1.2.1 o = M.1.2.1 o) ∧ (∀ o b, o < mN M → ¬ (o = 64 ∧ 5 ≤ b ∧ b ≤ 7) → ¬ (o = 114 ∧ b = 5) → mR M' o b = mR M o b) ∧ (∀ o, (o < 131 ∧ ¬ (63 ≤ o ∧ o < 112) ∧ ¬ (114 ≤ o ∧ o ≤ 119)) ∨ D o → ∀ b, mI M' o b = mI M o b) ∧ ∀ o, o < mN M → ∀ b, mL M' o b = mL M o b
theorem FrS.rf (D : Nat → Prop) (M : Mem) : FrS D M M := ⟨Nat.le_refl _, fun _ _ => rfl, fun _ _ _ _ _ => rfl, fun _ _ _ => rfl, fun _ _ _ => rfl⟩
theorem FrS.tr {D : Nat → Prop} {M M' M'' : Mem} (p : FrS D M M') (p' : FrS D M' M'') : FrS D M M'' := by
  obtain ⟨a1, a2, a3, a4, a5⟩ := p
  obtain ⟨b1, b2, b3, b4, b5⟩ := p'
  exact ⟨Nat.le_trans a1 b1, fun o h => (b2 o (by omega)).trans (a2 o h), fun o b h n n' => (b3 o b (by omega) n n').trans (a3 o b h n n'), fun o h b => (b4 o h b).trans (a4 o h b), fun o h b => (b5 o (by omega) b).trans (a5 o h b)⟩
/-- what is to stay lies apart from the hall searched in and the search -/
def Sep (D : Nat → Prop) (M : Mem) (d : Nat) : Prop := ∀ o, D o → o < mN M ∧ ¬ (63 ≤ o ∧ o < 112) ∧ ¬ (114 ≤ o ∧ o ≤ 118) ∧ o ≠ d ∧ ∀ i, 5 ≤ i → i ≤ 7 → o ≠ mR M 64 i
theorem FrQ.s {D : Nat → Prop} {M M' : Mem} {a b : Nat} (f : FrQ M M' a b) (hN : 131 ≤ mN M) (ha : a = 119 ∨ 131 ≤ a) (hs : Sep D M a) : FrS D M M' ∧ Sep D M' b := by
  obtain ⟨f1, f2, f3, f4, f5, f6⟩ := f
  refine ⟨⟨f1, f2, fun o b h _ n => f3 o b h n, fun o h b => ?_, f5⟩, fun o ho => ?_⟩
  · rcases h with h | h
    · exact f4 o (by omega) (by omega) (by omega) b
    · obtain ⟨s1, s2, s3, s4, s5⟩ := hs o h
      exact f4 o s1 s3 s4 b
  · obtain ⟨s1, s2, s3, s4, s5⟩ := hs o ho
    refine ⟨by omega, s2, s3, ?_, fun i h5 h7 => ?_⟩
    · rcases f6 with z | z
      · rw [z]; exact s4
      · omega
    · rw [f3 64 i (by omega) (by omega)]; exact s5 i h5 h7
theorem FrUp.s {D : Nat → Prop} {M M' : Mem} {d : Nat} (f : FrUp M M') (hN : 131 ≤ mN M) (hR : ∀ i, 5 ≤ i → i ≤ 7 → mR M 64 i = 63 + 2 + i ∨ 131 ≤ mR M 64 i) (hs : Sep D M d) : FrS D M M' ∧ Sep D M' d := by
  obtain ⟨f1, f2, f3, f4, f5, f6, f7⟩ := f
  have r5 := hR 5 (by decide) (by decide)
  have r6 := hR 6 (by decide) (by decide)
  have r7 := hR 7 (by decide) (by decide)
  refine ⟨⟨f1, f2, fun o b h n _ => f3 o b h n, fun o h b => ?_, f6⟩, fun o ho => ?_⟩
  · rcases h with h | h
    · exact f4 o (by omega) h.2.1 (by omega) (by omega) (by omega) (by omega) b
    · obtain ⟨s1, s2, s3, s4, s5⟩ := hs o h
      exact f4 o s1 s2 (by omega) (s5 5 (by decide) (by decide)) (s5 6 (by decide) (by decide)) (s5 7 (by decide) (by decide)) b
  · obtain ⟨s1, s2, s3, s4, s5⟩ := hs o ho
    refine ⟨by omega, s2, s3, s4, fun i h5 h7 => ?_⟩
    rcases f7 i h5 h7 with z | z
    · rw [z]; exact s5 i h5 h7
    · omega
section
variable {X0 Y0 N : Nat} {t : Int32} {Q : Nat → Int32} {S : St} {pb pt : List Row4} {M : Mem} {e dC : Nat}
theorem SV.go (h : SV X0 Y0 t N Q pb pt S M e dC) {F : Mem → Option Mem} {S' : St} (hf : ∀ X Y, HV M 63 X Y t N Q S pb pt → ∃ M', F M = some M' ∧ HV M' 63 X Y t N Q S' pb pt ∧ FrH M M' 63) : ∃ M', F M = some M' ∧ SV X0 Y0 t N Q pb pt S' M' e dC ∧ FrUp M M' ∧ ∀ b, mI M' dC b = mI M dC b := by
  obtain ⟨L, sx, c, p⟩ := h
  obtain ⟨M', e1, p', f⟩ := hf _ _ p
  have f' := f.up sx.2.2.2.2 p.r57
  obtain ⟨c', cc⟩ := c.up sx.2.2.2.2 f'
  exact ⟨M', e1, ⟨L, sx.up f', c', p'⟩, f', cc⟩
theorem SV.frs {D : Nat → Prop} (h : SV X0 Y0 t N Q pb pt S M e dC) {M' : Mem} (f : FrUp M M') (hs : Sep D M dC) : FrS D M M' ∧ Sep D M' dC := by
  obtain ⟨L, sx, c, p⟩ := h
  exact f.s sx.2.2.2.2 p.r57 hs
theorem SV.frq {D : Nat → Prop} (h : SV X0 Y0 t N Q pb pt S M e dC) {M' : Mem} {d : Nat} (f : FrQ M M' dC d) (hs : Sep D M dC) : FrS D M M' ∧ Sep D M' d := by
  obtain ⟨L, sx, c, p⟩ := h
  exact f.s sx.2.2.2.2 c.2.2.2.1 hs
theorem SQ.up {ask : Int32} {sn : Nat → Int32} {most : Nat} {q : Bq} (s : SQ N ask sn most M e dC q) (h : SV X0 Y0 t N Q pb pt S M e dC) {M' : Mem} (f : FrUp M M') (hc : ∀ b, mI M' dC b = mI M dC b) : SQ N ask sn most M' e dC q := by
  obtain ⟨L, sx, c, p⟩ := h
  have hN := sx.2.2.2.2
  have r5 := p.r57 5 (by decide) (by decide)
  have r6 := p.r57 6 (by decide) (by decide)
  have r7 := p.r57 7 (by decide) (by decide)
  obtain ⟨f1, f2, f3, f4, f5, f6, f7⟩ := f
  have o : ∀ o, 115 ≤ o → o ≤ 118 → ∀ b, mI M' o b = mI M o b := fun o a z b => f4 o (by omega) (by omega) (by omega) (by omega) (by omega) (by omega) b
  obtain ⟨a1, a2, a3, a4, a5, a6, a7, a8, a9, a10, a11, a12⟩ := s
  exact ⟨a1.cg (o 115 (by decide) (by decide)) (o 116 (by decide) (by decide)) (fun j _ => hc j), a2, (f5 10 (by decide)).trans a3, (f5 8 (by decide)).trans a4, (f5 9 (by decide)).trans a5, fun v hv => (o 118 (by decide) (by decide) v).trans (a6 v hv), (f5 11 (by decide)).trans a7, (f5 12 (by decide)).trans a8, (f5 13 (by decide)).trans a9, (f5 14 (by decide)).trans a10, (f5 15 (by decide)).trans a11, fun i p hp => (o 117 (by decide) (by decide) i).trans (a12 i p hp)⟩
theorem ms_asks {ask : Int32} {sn : Nat → Int32} (h16 : N ≤ 16) : ms ((asks' 0 N N S ask sn).foldl (fun m g => bon m g) 0) = asks' 0 N N S ask sn := by
  have hb : ∀ u, u < 16 → bt ((asks' 0 N N S ask sn).foldl (fun m g => bon m g) 0) u = decide (u ∈ asks' 0 N N S ask sn) := fun u hu => by
    rw [fn_b _ _ _ (by omega) (fun w hw => by have := asks_m (i := 0) (d := N) (by omega) hw; omega), b_0, Bool.false_or]
  have hm : ∀ u, u ∈ asks' 0 N N S ask sn → u < N := fun u hu => by
    have := List.mem_range'_1.mp (List.mem_filter.mp hu).1
    omega
  unfold ms
  have e16 : List.range 16 = List.range' 0 N ++ List.range' N (16 - N) := by
    have a := List.range'_append_1 (s := 0) (m := N) (n := 16 - N)
    rw [Nat.zero_add, show N + (16 - N) = 16 by omega] at a
    rw [List.range_eq_range', ← a]
  rw [e16, List.filter_append]
  have z2 : (List.range' N (16 - N)).filter (fun i => bt ((asks' 0 N N S ask sn).foldl (fun m g => bon m g) 0) i) = [] := by
    rw [List.filter_eq_nil_iff]
    intro u hu
    have hu' := List.mem_range'_1.mp hu
    rw [hb u (by omega), decide_eq_true_eq]
    intro w
    have := hm u w
    omega
  rw [z2, List.append_nil]
  have z1 : (List.range' 0 N).filter (fun i => bt ((asks' 0 N N S ask sn).foldl (fun m g => bon m g) 0) i) = (List.range' 0 N).filter fun v => bt ask v && (mayA N v S && decide (xR S 2 v = sn v)) := by
    apply List.filter_congr
    intro u hu
    have hu' := List.mem_range'_1.mp hu
    rw [hb u (by omega)]
    unfold asks'
    rw [Bool.eq_iff_iff, decide_eq_true_eq, List.mem_filter]
    exact ⟨fun x => x.2, fun x => ⟨hu, x⟩⟩
  rw [z1]
  rfl
theorem Tok_of {A P d : Nat} {S0 T : St} (g : GS N A P S0 T d) (h16 : N ≤ 16) (hA : A + d < 1048576) (hfl : (fl T).length < 9000) : Tok N T := by
  have hI := g.1
  refine ⟨h16, hfl, fun l hl => (hI.2.2.2.2.1 l hl).2, fun l hl x hx => ?_, fun v hv => ⟨fun w hw => ?_, ?_, (hI.1 v hv).2.2.2⟩⟩
  · obtain ⟨a, s, hs, es⟩ := (hI.2.2.2.2.1 l hl).1 x hx
    exact ⟨a, s, by omega, es⟩
  · have := ((hI.2.2.2.2.2.1 v hv).1.2.2 w hw).1
    omega
  · exact (hI.2.2.2.2.2.1 v hv).1.2.1
end
