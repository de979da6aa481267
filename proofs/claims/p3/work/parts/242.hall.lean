/-! ===== the class: a hall ===== -/
/-- what a step of a hall leaves alone -/
def FrH (M M' : Mem) (h : Nat) : Prop := mN M ≤ mN M' ∧ (∀ i, i < mN M → M'.1.2.1 i = M.1.2.1 i) ∧ (∀ a b, a < mN M → ¬ (a = h + 1 ∧ 5 ≤ b ∧ b ≤ 7) → mR M' a b = mR M a b) ∧ (∀ o, o < mN M → ¬ (h ≤ o ∧ o < h + 49) → o ≠ mR M (h + 1) 5 → o ≠ mR M (h + 1) 6 → o ≠ mR M (h + 1) 7 → ∀ b, mI M' o b = mI M o b) ∧ (∀ o, o < mN M → ∀ b, mL M' o b = mL M o b) ∧ (∀ j, 5 ≤ j → j ≤ 7 → mR M' (h + 1) j = mR M (h + 1) j ∨ mN M ≤ mR M' (h + 1) j)
theorem FrH.rf (M : Mem) (h : Nat) : FrH M M h := ⟨Nat.le_refl _, fun _ _ => rfl, fun _ _ _ _ => rfl, fun _ _ _ _ _ _ _ => rfl, fun _ _ _ => rfl, fun _ _ _ => Or.inl rfl⟩
theorem FrH.tr {M M' M'' : Mem} {h : Nat} (p : FrH M M' h) (p' : FrH M' M'' h) : FrH M M'' h := by
  obtain ⟨a1, a2, a3, a4, a5, a6⟩ := p
  obtain ⟨b1, b2, b3, b4, b5, b6⟩ := p'
  refine ⟨Nat.le_trans a1 b1, fun i hi => (b2 i (by omega)).trans (a2 i hi), fun a b ha hn => (b3 a b (by omega) hn).trans (a3 a b ha hn), fun o ho h1 h5 h6 h7 b => ?_, fun o ho b => (b5 o (by omega) b).trans (a5 o ho b), fun j h5 h7 => ?_⟩
  · have n5 : o ≠ mR M' (h + 1) 5 := by rcases a6 5 (by decide) (by decide) with e | e <;> omega
    have n6 : o ≠ mR M' (h + 1) 6 := by rcases a6 6 (by decide) (by decide) with e | e <;> omega
    have n7 : o ≠ mR M' (h + 1) 7 := by rcases a6 7 (by decide) (by decide) with e | e <;> omega
    exact (b4 o (by omega) h1 n5 n6 n7 b).trans (a4 o ho h1 h5 h6 h7 b)
  · rcases b6 j h5 h7 with e | e
    · rcases a6 j h5 h7 with e2 | e2
      · exact Or.inl (e.trans e2)
      · exact Or.inr (by omega)
    · exact Or.inr (by omega)
theorem FrP.toH {M M' : Mem} {h : Nat} (p : FrP M M' h) : FrH M M' h := by
  obtain ⟨a1, a2, a3, a4, a5, a6⟩ := p
  exact ⟨a1, a2, a3, fun o ho n => a4 o ho (fun z => n (by omega)), fun o ho => a5 o ho, a6⟩
/-- a step that makes nothing new -/
theorem FrH.of {M M' : Mem} {h : Nat} (e : M'.1 = M.1) (hI : ∀ o, ¬ (h ≤ o ∧ o < h + 49) → ∀ b, mI M' o b = mI M o b) (hL : ∀ o b, mL M' o b = mL M o b) : FrH M M' h :=
  ⟨by unfold mN; rw [e]; exact Nat.le_refl _, fun i _ => by rw [e], fun a b _ _ => by unfold mR; rw [e], fun o _ n _ _ _ b => hI o n b, fun o _ b => hL o b, fun j _ _ => Or.inl (by unfold mR; rw [e])⟩
theorem FrH.sI {M : Mem} {h o k : Nat} {x : Int32} (ho : h ≤ o ∧ o < h + 49) : FrH M (sI M o k x) h :=
  FrH.of rfl (fun o' n b => mI_o _ _ _ _ _ (fun z => n (by rw [z]; exact ho))) (fun _ _ => rfl)
theorem HP.cg {M M' : Mem} {h : Nat} {S S' : St} (p : HP M h S) (ho : ∀ o, (o = h ∨ (h + 17 ≤ o ∧ o < h + 49)) → ∀ b, mI M' o b = mI M o b) (hr : ∀ k i, k ≠ 16 → xR S' k i = xR S k i) (hW : xW S' = xW S) : HP M' h S' := by
  obtain ⟨p1, g7, g8, g9, g10, g11, g12, g13, g14, g15⟩ := p
  have hf : ∀ p, p ∈ ft → p.2 ≠ 16 := by decide
  have e0 := fun v => hr 0 v (by decide)
  have e15 := fun v => hr 15 v (by decide)
  have eh := ho h (Or.inl rfl)
  refine ⟨fun v hv => ?_, fun v hv => ?_, fun v hv => ?_, fun v hv => ?_, ?_, ?_, ?_, ?_, ?_, ?_⟩
  · obtain ⟨a1, a2, a3, a4, a5⟩ := p1 v hv
    have o1 := ho (h + 17 + 2 * v) (Or.inr (by omega))
    have o2 := ho (h + 18 + 2 * v) (Or.inr (by omega))
    refine ⟨fun p hp => ?_, ?_, fun z => ?_, fun w hw => ?_, fun w hw => ?_⟩
    · rw [o1, hr _ _ (hf p hp)]; exact a1 p hp
    · rw [o1, hr 8 _ (by decide), hr 9 _ (by decide)]; exact a2
    · rw [o1, hr 14 _ (by decide)]; exact a3 (by rw [← e0]; exact z)
    · rw [o1, hW]; exact a4 w hw
    · rw [hW] at hw; rw [o2]; exact a5 w hw
  · rw [eh, e0]; exact g7 v hv
  · rw [eh, e0]; exact g8 v hv
  · rw [eh, hr 7 _ (by decide)]; exact g9 v hv
  · rw [eh, e15]; exact g10
  · rw [eh, e15]; exact g11
  · rw [eh, e15]; exact g12
  · rw [eh, e15]; exact g13
  · rw [eh, e15]; exact g14
  · rw [eh, e15]; exact g15
/-- a hall of the class stands for S; N nodes, Q the quorums it keeps, pb and pt what its logs held before -/
def HV (M : Mem) (h X Y : Nat) (t : Int32) (N : Nat) (Q : Nat → Int32) (S : St) (pb pt : List Row4) : Prop := CS M h ∧ PV M h t S ∧ HP M h S ∧ Rm M h X Y ∧ (LG M (h + 11) 30 (pb ++ xE S) ∧ LG M (h + 13) 40 (pt ++ xT S)) ∧ mI M 1 3 = nI N ∧ (∀ v, v < N → mI M (h + 15) v = Q v)
theorem PV.ds {M : Mem} {h : Nat} {t : Int32} {S : St} (p : PV M h t S) : (mR M (h + 1) 5 = h + 7 ∨ 131 ≤ mR M (h + 1) 5) ∧ (mR M (h + 1) 6 = h + 8 ∨ 131 ≤ mR M (h + 1) 6) ∧ (mR M (h + 1) 7 = h + 9 ∨ 131 ≤ mR M (h + 1) 7) := by
  obtain ⟨d5, d6, d7, len, K, fr, us, ow, p, _⟩ := p
  obtain ⟨⟨w5, w6, w7⟩, _, _, x⟩ := p.1
  rw [w5, w6, w7]
  exact ⟨x.1, x.2.1, x.2.2.1⟩
theorem HV.frP {M M' : Mem} {h X Y N : Nat} {t : Int32} {Q : Nat → Int32} {S S' : St} {pb pt : List Row4} (p : HV M h X Y t N Q S pb pt) (f : FrP M M' h) (q' : CS M' h) (p' : PV M' h t S') (r' : Rm M' h X Y) (hr : ∀ k i, k ≠ 16 → xR S' k i = xR S k i) (hW : xW S' = xW S) (hE : xE S' = xE S) (hT : xT S' = xT S) : HV M' h X Y t N Q S' pb pt := by
  obtain ⟨q, p, hp, rm, ⟨lb, lt⟩, hN, hQ⟩ := p
  have ds := p.ds
  have hq := q.2.2.2.2
  have oI : ∀ o, o < 131 → ¬ (h + 1 ≤ o ∧ o ≤ h + 9) → ∀ b, mI M' o b = mI M o b := fun o h1 h2 b => f.2.2.2.1 o (by omega) (by omega) (by omega) (by omega) (by omega) b
  refine ⟨q', p', hp.cg (fun o ho => oI o (by omega) (by omega)) hr hW, r', ⟨?_, ?_⟩, ?_, fun v hv => ?_⟩
  · rw [hE]; exact lb.cg (oI _ (by omega) (by omega)) (oI _ (by omega) (by omega))
  · rw [hT]; exact lt.cg (oI _ (by omega) (by omega)) (oI _ (by omega) (by omega))
  · rw [oI 1 (by decide) (by omega)]; exact hN
  · rw [oI _ (by omega) (by omega)]; exact hQ v hv
theorem HV.put {M : Mem} {h X Y N : Nat} {t : Int32} {Q : Nat → Int32} {S : St} {pb pt : List Row4} (p : HV M h X Y t N Q S pb pt) (hl : (fl S).length < 9000) {k f g : Nat} {s : Int32} (hk : k < 6) (hf : f < 16) (hg : g < 16) : ∃ M', f_X5_put (h + 1) (nI k) (nI f) (nI g) s M = some M' ∧ HV M' h X Y t N Q (sn t k f g s S) pb pt ∧ FrH M M' h := by
  obtain ⟨M', e, q', p', r', f'⟩ := p.2.1.put (s := s) p.1 p.2.2.2.1 hl hk hf hg
  refine ⟨M', e, p.frP f' q' p' r' (fun k' i n => ?_) rfl rfl rfl, f'.toH⟩
  unfold sn
  rw [xR_uL, xR_uR, if_neg (fun z => n z.1)]
theorem HV.take {M : Mem} {h X Y N : Nat} {t : Int32} {Q : Nat → Int32} {S : St} {pb pt : List Row4} (p : HV M h X Y t N Q S pb pt) {f g : Nat} {x : Ltr} {r : List Ltr} (hf : f < 16) (hg : g < 16) (hx : xL S (16 * f + g) = x :: r) : ∃ M', f_X5_takeFirst (h + 1) (nI f) (nI g) M = some (encC x, M') ∧ HV M' h X Y t N Q (uL S (16 * f + g) r) pb pt ∧ FrH M M' h := by
  obtain ⟨M', e, q', p', r', f'⟩ := p.2.1.take p.1 p.2.2.2.1 hf hg hx
  exact ⟨M', e, p.frP f' q' p' r' (fun k' i n => rfl) rfl rfl rfl, f'.toH⟩
