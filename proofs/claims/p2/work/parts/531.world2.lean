/-! ===== the class while the reference steps, the reference while the class steps ===== -/
theorem HV.ref {M M' : Mem} {h X Y N : Nat} {t : Int32} {Q : Nat → Int32} {S : St} {pb pt : List Row4} (p : HV M h X Y t N Q S pb pt) (e : M'.1 = M.1) (hI : ∀ o, ¬ (120 ≤ o ∧ o ≤ 130) → ∀ b, mI M' o b = mI M o b) (hh : h + 49 ≤ 120) : HV M' h X Y t N Q S pb pt := by
  obtain ⟨q, pv, hp, rm, ⟨lb, lt⟩, hN, hQ⟩ := p
  have hq := q.2.2.2.2
  have lo : ∀ o, o < h + 49 → ∀ b, mI M' o b = mI M o b := fun o a b => hI o (by omega) b
  refine ⟨q.e e, ?_, hp.cg (fun o ho b => lo o (by omega) b) (fun _ _ _ => rfl) rfl, ?_, ⟨lb.cg (fun b => lo _ (by omega) b) (fun b => lo _ (by omega) b), lt.cg (fun b => lo _ (by omega) b) (fun b => lo _ (by omega) b)⟩, by rw [lo 1 (by omega)]; exact hN, fun v hv => by rw [lo _ (by omega)]; exact hQ v hv⟩
  · obtain ⟨d5, d6, d7, len, K, fr, us, ow, w, hK⟩ := pv
    obtain ⟨_, _, _, y5, y6, y7, _⟩ := id w.1
    exact ⟨d5, d6, d7, len, K, fr, us, ow, w.cg (w.1.e e) (Nat.le_refl _) w.2.2.2.2.2.2.2.2.2.1.2.2.2.1 (fun i a c b => lo _ (by omega) b) (fun b _ => hI _ (by omega) b) (fun b _ => hI _ (by omega) b) (fun b _ => hI _ (by omega) b), hK⟩
  · unfold Rm mN mU mLn mR at rm ⊢
    rw [e]; exact rm
theorem CW.ref {M M' : Mem} {N : Nat} {Q : Nat → Int32} {S : St} (h : CW M N Q S) (e : M'.1 = M.1) (hI : ∀ o, ¬ (120 ≤ o ∧ o ≤ 130) → ∀ b, mI M' o b = mI M o b) (hlg : mI M 5 7 = 1 → ∀ o, o = 7 ∨ o = 9 → ∀ b, mL M' o b = mL M o b) : CW M' N Q S := by
  obtain ⟨X, Y, L, p, sb, xg, xc, xv, xs, g, hL⟩ := h
  obtain ⟨e', dC, e5, e6, e7, len, pb, pt, sx, cl, q, ⟨ds, d64, d18⟩, ⟨lb, lt⟩, z0, dj⟩ := xs
  have s1 : Shp1 M M' := ⟨by unfold mN; rw [e]; exact Nat.le_refl _, fun i _ => by rw [e], fun a b _ _ => by unfold mR; rw [e]⟩
  have hR : ∀ a b, mR M' a b = mR M a b := fun a b => by unfold mR; rw [e]
  have hl : ∀ o, mLn M' o = mLn M o := fun o => by unfold mLn; rw [e]
  have lo : ∀ o, o < 120 → ∀ b, mI M' o b = mI M o b := fun o a b => hI o (by omega) b
  refine ⟨X, Y, L, p.ref e hI (by decide), sb.e e (lo 1 (by omega)) (lo 2 (by omega)), xg.s s1, xc.s s1 (lo 113 (by omega)) (fun _ _ => rfl), xv.s s1 (lo 5 (by omega)) (lo 6 (by omega)) (lo 8 (by omega)) hlg (fun _ => rfl) rfl, ?_, ?_, hL⟩
  · refine ⟨e', dC, e5, e6, e7, len, pb, pt, sx.e e, ?_, q.e e, ⟨ds.e e, d64, d18⟩, ⟨lb.cg (lo 74 (by omega)) (lo 75 (by omega)), lt.cg (lo 76 (by omega)) (lo 77 (by omega))⟩, by rw [lo 115 (by omega)]; exact z0, fun j a b => by rw [hR]; refine ⟨(dj j a b).1, fun i c d => by rw [hR]; exact (dj j a b).2 i c d⟩⟩
    exact cl.e e (lo 114 (by omega) 6)
  · obtain ⟨ga, gb, gc, gd, ge, gf⟩ := g
    have n : mN M' = mN M := by unfold mN; rw [e]
    have u : mU M' = mU M := by unfold mU; rw [e]
    refine ⟨?_, ?_, ?_, ?_, ?_, ?_⟩
    · rw [hR, hR, hl, hl, n]; exact ga
    · rw [hR, hR, hl, hl, u]; exact gb
    · rw [hR, hl]; exact gc
    · rw [hR, hl]; exact gd
    · rw [hR, hl]; exact ge
    · rw [hR, hl]; exact gf
theorem RV.w4 {M M' : Mem} {X Y N : Nat} {Q : Nat → Int32} {S S0 : St} {tw : Bool} {t : Int32} {pb pt : List Row4} (r : RV M tw t S pb pt) (p : HV M 14 X Y 0 N Q S0 [] []) (f : FrW4 M M' 14) : RV M' tw t S pb pt ∧ (∀ b, mI M' 120 b = mI M 120 b) ∧ isO M' 10 120 := by
  have d := p.d57
  have hN := p.1.2.2.2.2.2.2
  have c5 := (d 5 (by decide) (by decide)).1
  have c6 := (d 6 (by decide) (by decide)).1
  have c7 := (d 7 (by decide) (by decide)).1
  have lo : ∀ o, 120 ≤ o → o < 131 → ∀ b, mI M' o b = mI M o b := fun o h1 h2 b => f.2.2.2.1 o (by omega) (by omega) (by omega) (by omega) (by omega) (by omega) b
  refine ⟨r.mr f.1 (fun o h1 h2 => ⟨f.2.1 o (by omega), fun b => f.2.2.1 o b (by omega) (by omega), lo o h1 h2⟩), lo 120 (by omega) (by omega), ?_⟩
  have := r.1.io (i := 120) (c := 10) (by decide) (by decide) (by decide)
  exact ⟨by have h1 := f.1; have h2 := this.1; omega, by rw [mC, f.2.1 120 this.1]; exact this.2⟩
/-! ===== how many letters between the calls ===== -/
theorem sum_0 {a : Nat} : ∀ l : List (Nat × Ltr), (∀ q, q ∈ l → lwa a q = 0) → (l.map (lwa a)).sum = 0 := by
  intro l
  induction l with
  | nil => intro _; rfl
  | cons q l ih =>
    intro h
    rw [List.map_cons, List.sum_cons, h q (by simp), ih (fun y hy => h y (by simp [hy]))]
theorem Ph_0 {N A a : Nat} {S : St} (hI : Inv N A S) (hX : IX N S) (hZ : IZ N S) (h16 : N ≤ 16) (ha : a < 16) (h : N ≤ a ∨ xR S 7 a = 1) : Ph a S = 0 := by
  obtain ⟨_, _, hK⟩ := hX
  have nu : ∀ v, v < 16 → bt (xR S 3 v) a = false := fun v hv => by
    by_cases c : N ≤ a
    · exact hI.2.1 v hv a c (by omega)
    · by_cases d : v < N
      · exact (hK a (by omega) (h.resolve_left c)).2.1 v d
      · rw [hZ.2.1 v hv ((hI.1 v hv).2.1 (by omega)), b_0]
  have hB : phB a S = 0 := by
    unfold phB
    have : smN (phv S a) 16 = smN (fun _ => 0) 16 := smN_c 16 (fun v hv => by
      unfold phv
      have n5 : ¬ bt (xR S 5 v) a = true := fun z => by
        have := (hI.2.2.1 v hv (hZ.1 v hv a (by omega) z) a (by omega)).2 z
        rw [nu v hv] at this; cases this
      rw [nu v hv, if_neg (fun z => by cases z.2), if_neg n5])
    rw [this, smN_k]
  have hL : phL a S = 0 := by
    unfold phL
    apply sum_0
    intro q hq
    obtain ⟨q1, q2⟩ := fl_mem hq
    have ne : xL S q.1 ≠ [] := fun z => by rw [z] at q2; cases q2
    have qN : q.1 / 16 < N ∧ q.1 % 16 < N := by
      apply Decidable.byContradiction
      intro c
      exact ne ((hI.2.2.2.2.1 q.1 q1).2 c)
    have hl := hK.lane hI qN.1 qN.2 h16 (by rw [show 16 * (q.1 / 16) + q.1 % 16 = q.1 by omega]; exact ne)
    have un : ∀ x, Ub S x → x < N → x ≠ a := fun x u xN e => by
      subst e
      rcases h with h | h
      · omega
      · exact u h
    unfold lwa larb
    split
    · rw [if_neg (un _ hl.2 qN.2)]
    · rw [if_neg (un _ hl.1 qN.1)]
  unfold Ph
  omega
def nbr (N : Nat) (S : St) : Nat := smN (fun a => if xR S 7 a = 1 then 1 else 0) N
theorem smN_nu {N : Nat} {S : St} (C : Nat) (h16 : N ≤ 16) : smN (fun a => if a < N ∧ ¬ xR S 7 a = 1 then C else 0) 16 + C * nbr N S = C * N := by
  have h1 : ∀ n, n ≤ N → smN (fun a => if a < N ∧ ¬ xR S 7 a = 1 then C else 0) n + C * smN (fun a => if xR S 7 a = 1 then 1 else 0) n = C * n := by
    intro n
    induction n with
    | zero => intro _; rfl
    | succ n ih =>
      intro hn
      have := ih (by omega)
      show smN _ n + (if n < N ∧ ¬ xR S 7 n = 1 then C else 0) + C * (smN _ n + (if xR S 7 n = 1 then 1 else 0)) = C * (n + 1)
      by_cases c : xR S 7 n = 1
      · rw [if_neg (fun z => z.2 c), if_pos c, Nat.mul_succ, Nat.mul_succ]; omega
      · rw [if_pos ⟨by omega, c⟩, if_neg c, Nat.add_zero, Nat.mul_succ]; omega
  have h2 : ∀ d, N + d ≤ 16 → smN (fun a => if a < N ∧ ¬ xR S 7 a = 1 then C else 0) (N + d) = smN (fun a => if a < N ∧ ¬ xR S 7 a = 1 then C else 0) N := by
    intro d
    induction d with
    | zero => intro _; rfl
    | succ d ih =>
      intro hd
      show smN _ (N + d) + (if N + d < N ∧ ¬ xR S 7 (N + d) = 1 then C else 0) = _
      rw [ih (by omega), if_neg (by omega), Nat.add_zero]
  have := h2 (16 - N) (by omega)
  rw [show N + (16 - N) = 16 by omega] at this
  rw [this]
  exact h1 N (Nat.le_refl _)
theorem nbr_le (N : Nat) (S : St) : nbr N S ≤ N := by
  unfold nbr
  have := smN_le (f := fun a => if xR S 7 a = 1 then 1 else 0) (g := fun _ => 1) N (fun i _ => by split <;> omega)
  rw [smN_k] at this
  omega
theorem num_b : ∀ N, N < 17 → ∀ b, b < 17 → b ≤ N → (511 + 2 * N * b) * N ≤ (511 + 2 * N * b) * b + 8176 := by decide +kernel
/-- letters, and what they may become, between the calls -/
def PB (N i : Nat) (S : St) : Prop := ∀ a, a < N → Ph a S ≤ i + 2 * N * nbr N S
theorem PhS_b {N A i : Nat} {S : St} (hI : Inv N A S) (hX : IX N S) (hZ : IZ N S) (h16 : N ≤ 16) (hi : i ≤ 511) (hP : PB N i S) : PhS S ≤ 8176 := by
  have h1 : PhS S ≤ smN (fun a => if a < N ∧ ¬ xR S 7 a = 1 then 511 + 2 * N * nbr N S else 0) 16 := by
    unfold PhS
    refine smN_le 16 (fun a ha => ?_)
    by_cases c : a < N ∧ ¬ xR S 7 a = 1
    · rw [if_pos c]
      have := hP a c.1
      omega
    · rw [if_neg c, Ph_0 hI hX hZ h16 ha (by
        by_cases d : a < N
        · right
          apply Decidable.byContradiction
          intro e
          exact c ⟨d, e⟩
        · left; omega)]
      exact Nat.le_refl _
  have h2 := smN_nu (S := S) (511 + 2 * N * nbr N S) h16
  have h3 := num_b N (by omega) (nbr N S) (by have := nbr_le N S; omega) (nbr_le N S)
  omega
