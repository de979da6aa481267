/-! ===== the class: a grant ===== -/
theorem PV.fr {M M' : Mem} {h : Nat} {t : Int32} {S S' : St} (q : CS M h) (p : PV M h t S) (e : M'.1 = M.1) (hI : ∀ o, ¬ (o = h ∨ (h + 11 ≤ o ∧ o < h + 49)) → ∀ b, mI M' o b = mI M o b) (hL : xL S' = xL S) (h16 : xR S' 16 = xR S 16) : PV M' h t S' := by
  obtain ⟨d5, d6, d7, len, K, fr, us, ow, p, hK⟩ := p
  have w := p.1
  have x := w.2.2.2
  have hq := q.2.2.2.2
  have hl := p.2.2.2.2.2.2.2.2.2.1
  refine ⟨d5, d6, d7, len, K, fr, us, ow, ?_, fun l hl => by rw [hL]; exact hK l hl⟩
  rw [h16]
  exact p.cg (w.e e) (Nat.le_refl _) (by omega) (fun i _ _ b => hI _ (by omega) b) (fun b _ => hI _ (by omega) b) (fun b _ => hI _ (by omega) b) (fun b _ => hI _ (by omega) b)
/-- places and the hall's own numbers alone are set -/
theorem HV.at {M M' : Mem} {h X Y N : Nat} {t : Int32} {Q : Nat → Int32} {S S' : St} {pb pt : List Row4} (p : HV M h X Y t N Q S pb pt) (e : M'.1 = M.1) (hI : ∀ o, ¬ (o = h ∨ (h + 17 ≤ o ∧ o < h + 49)) → ∀ b, mI M' o b = mI M o b) (hp : HP M' h S') (hL : xL S' = xL S) (h16 : xR S' 16 = xR S 16) (hE : xE S' = xE S) (hT : xT S' = xT S) : HV M' h X Y t N Q S' pb pt := by
  obtain ⟨q, p, _, rm, ⟨lb, lt⟩, hN, hQ⟩ := p
  have hq := q.2.2.2.2
  refine ⟨q.e e, p.fr q e (fun o n b => hI o (by omega) b) hL h16, hp, ?_, ⟨?_, ?_⟩, ?_, fun v hv => ?_⟩
  · unfold Rm mN mU mLn mR at rm ⊢
    rw [e]; exact rm
  · rw [hE]; exact lb.cg (hI _ (by omega)) (hI _ (by omega))
  · rw [hT]; exact lt.cg (hI _ (by omega)) (hI _ (by omega))
  · rw [hI 1 (by omega)]; exact hN
  · rw [hI _ (by omega)]; exact hQ v hv
/-- a without the one granted, and its first waiting one granted, before the letter -/
def g1 (a : Nat) (w : Wtr) (r : List Wtr) (S : St) : St := uW (uR (uR (nob a S) 8 a (nI w.1)) 9 a w.2) a r
theorem g1_R (a : Nat) (w : Wtr) (r : List Wtr) (S : St) (k : Nat) : xR (g1 a w r S) k a = if k = 9 then w.2 else if k = 8 then nI w.1 else if k = 10 then 0 else xR S k a := by
  unfold g1 nob
  rw [xR_uW, xR_uR, xR_uR, xR_uR, xR_uR, xR_uR]
  by_cases c9 : k = 9
  · rw [if_pos ⟨c9, rfl⟩, if_pos c9]
  · rw [if_neg (fun z => c9 z.1), if_neg c9]
    by_cases c8 : k = 8
    · rw [if_pos ⟨c8, rfl⟩, if_pos c8]
    · rw [if_neg (fun z => c8 z.1), if_neg c8]
      by_cases c10 : k = 10
      · rw [if_pos ⟨c10, rfl⟩, if_pos c10]
      · rw [if_neg (fun z => c10 z.1), if_neg c10, if_neg (fun z => c9 z.1), if_neg (fun z => c8 z.1)]
theorem g1_Ro (a : Nat) (w : Wtr) (r : List Wtr) (S : St) (k i : Nat) (n : i ≠ a) : xR (g1 a w r S) k i = xR S k i := by
  unfold g1 nob
  rw [xR_uW, xR_uR, xR_uR, xR_uR, xR_uR, xR_uR, if_neg (fun z => n z.2), if_neg (fun z => n z.2), if_neg (fun z => n z.2), if_neg (fun z => n z.2), if_neg (fun z => n z.2)]
theorem g1_Rk (a : Nat) (w : Wtr) (r : List Wtr) (S : St) (k : Nat) (h : k ≠ 8 ∧ k ≠ 9 ∧ k ≠ 10) : xR (g1 a w r S) k = xR S k := by
  funext i
  by_cases n : i = a
  · rw [n, g1_R, if_neg h.2.1, if_neg h.1, if_neg h.2.2]
  · exact g1_Ro a w r S k i n
set_option maxHeartbeats 1000000 in
theorem HV.grant {M : Mem} {h X Y N A n : Nat} {t : Int32} {Q : Nat → Int32} {S : St} {pb pt : List Row4} (p : HV M h X Y t N Q S pb pt) (hl : (fl S).length < 9000) {a : Nat} (ha : a < 16) (hw : Wok N A (xW S a)) (h16 : N ≤ 16) (hn : 17 ≤ n) {w : Wtr} {r : List Wtr} (hx : xW S a = w :: r) : ∃ M', f_X2_grantFirst n h (nI a) M = some M' ∧ HV M' h X Y t N Q (gF t a S) pb pt ∧ FrH M M' h := by
  obtain ⟨q, pv, hp, rm, lg, hN, hQ⟩ := id p
  have hq := q.2.2.2.2
  have wN := (hw.2.2 w (by rw [hx]; simp)).1
  obtain ⟨a1, a2, a3, a4, a5⟩ := hp.1 a ha
  generalize hP : h + 17 + 2 * a = P at *
  generalize hMa : sI M P 9 (bof (mI M P 9) w.1) = Ma
  generalize hMb : sI Ma P 6 (nI w.1) = Mb
  generalize hMc : sI Mb P 7 w.2 = Mc
  generalize hMd : sI Mc P 8 0 = Md
  have sa : Ma.1 = M.1 := by rw [← hMa]; rfl
  have sb : Mb.1 = M.1 := by rw [← hMb]; exact sa
  have sc : Mc.1 = M.1 := by rw [← hMc]; exact sb
  have sd : Md.1 = M.1 := by rw [← hMd]; exact sc
  have od : ∀ o, o ≠ P → ∀ b, mI Md o b = mI M o b := fun o n b => by rw [← hMd, mI_o _ _ _ _ _ n, ← hMc, mI_o _ _ _ _ _ n, ← hMb, mI_o _ _ _ _ _ n, ← hMa, mI_o _ _ _ _ _ n]
  have ob : ∀ o, o ≠ P → ∀ b, mI Mb o b = mI M o b := fun o n b => by rw [← hMb, mI_o _ _ _ _ _ n, ← hMa, mI_o _ _ _ _ _ n]
  have d8 : mI Md P 8 = 0 := by rw [← hMd, mI_s]
  have d7 : mI Md P 7 = w.2 := by rw [← hMd, mI_n _ _ _ _ (by decide), ← hMc, mI_s]
  have d6 : mI Md P 6 = nI w.1 := by rw [← hMd, mI_n _ _ _ _ (by decide), ← hMc, mI_n _ _ _ _ (by decide), ← hMb, mI_s]
  have d9 : mI Md P 9 = bof (mI M P 9) w.1 := by rw [← hMd, mI_n _ _ _ _ (by decide), ← hMc, mI_n _ _ _ _ (by decide), ← hMb, mI_n _ _ _ _ (by decide), ← hMa, mI_s]
  have dn : ∀ b, b ≠ 6 → b ≠ 7 → b ≠ 8 → b ≠ 9 → mI Md P b = mI M P b := fun b n6 n7 n8 n9 => by rw [← hMd, mI_n _ _ _ _ n8, ← hMc, mI_n _ _ _ _ n7, ← hMb, mI_n _ _ _ _ n6, ← hMa, mI_n _ _ _ _ n9]
  have hpd : HP Md h (g1 a w r S) := by
    refine hp.at (v := a) ⟨fun p hp => ?_, ?_, fun z => ?_, fun u hu => ?_, fun w' hw' => ?_⟩ (fun o _ n _ b => od o (by rw [← hP]; exact n) b) (fun k i n _ _ _ => g1_Ro a w r S k i n) (by rw [g1_Rk _ _ _ _ _ (by decide)]) (by rw [g1_Rk _ _ _ _ _ (by decide)]) (g1_Rk _ _ _ _ _ (by decide)) (fun b n => ?_)
    · have lim : ∀ p, p ∈ ft → p.1 ≠ 7 ∧ p.1 ≠ 9 ∧ p.2 ≠ 9 ∧ (p.1 = 6 ↔ p.2 = 8) ∧ (p.1 = 8 ↔ p.2 = 10) := by decide
      obtain ⟨l7, l9, k9, l6, l8⟩ := lim p hp
      rw [hP, g1_R, if_neg k9]
      by_cases c6 : p.1 = 6
      · rw [c6, d6, if_pos (l6.mp c6)]
      · rw [if_neg (fun z => c6 (l6.mpr z))]
        by_cases c8 : p.1 = 8
        · rw [c8, d8, if_pos (l8.mp c8)]
        · rw [if_neg (fun z => c8 (l8.mpr z)), dn _ c6 l7 c8 l9]
          exact a1 p hp
    · have e8 : xR (g1 a w r S) 8 a = nI w.1 := by rw [g1_R, if_neg (by decide), if_pos rfl]
      have e9 : xR (g1 a w r S) 9 a = w.2 := by rw [g1_R, if_pos rfl]
      rw [hP, d7, e8, e9, if_neg (nI_m1 (by omega))]
    · rw [hP, dn _ (by decide) (by decide) (by decide) (by decide), g1_Rk _ _ _ _ _ (by decide)]
      exact a3 (by rw [g1_Rk _ _ _ _ _ (by decide)] at z; exact z)
    · rw [hP, d9, bt_off _ (by omega) hu, a4 u hu, hx]
      have nd := hw.2.1
      rw [hx, List.map_cons] at nd
      obtain ⟨n1, n2⟩ := List.nodup_cons.mp nd
      show _ = decide (u ∈ (xW (uW _ a r) a).map Prod.fst)
      rw [xW_uW, if_pos rfl, List.map_cons]
      by_cases c : u = w.1
      · rw [c, decide_eq_false n1]; simp
      · simp [c]
    · have hw2 : w' ∈ r := by
        have z : xW (g1 a w r S) a = r := by unfold g1; rw [xW_uW, if_pos rfl]
        rwa [z] at hw'
      rw [od _ (by omega)]
      exact a5 w' (by rw [hx]; exact List.mem_cons_of_mem _ hw2)
    · unfold g1 nob
      rw [xW_uW, if_neg n]; rfl
  have vd : HV Md h X Y t N Q (g1 a w r S) pb pt := p.at sd (fun o n b => od o (by omega) b) hpd rfl (g1_Rk _ _ _ _ _ (by decide)) rfl rfl
  have frd : FrH M Md h := FrH.of sd (fun o n b => od o (by omega) b) (fun o b => by rw [← hMd, ← hMc, ← hMb, ← hMa]; rfl)
  obtain ⟨M', e', v', f'⟩ := vd.put (k := 1) (f := a) (g := w.1) (s := w.2) hl (by decide) ha (by omega)
  refine ⟨M', ?_, ?_, frd.tr f'⟩
  · have qb := q.e sb
    have qd := q.e sd
    have fw := hp.fw q ha hw h16 hn
    have po := fun x : Option Mem => cs_po q ha x
    have rb := cs_pr qb ha
    rw [hP] at fw po rb
    have hh : hdW (xW S a) = nI w.1 := by rw [hx]; rfl
    have hm : mI Mb (h + 18 + 2 * a) w.1 = w.2 := by rw [ob _ (by omega)]; exact a5 w (by rw [hx]; simp)
    rw [f_X2_grantFirst, cs_f q, cs_h2 q, bnd_e, cs_a10 q, cs_i10 q ha, cs_rpc q ha, bnd_e, hP, po, fw, obd_s, hh, if_neg (nI_m1 (by omega)), show (mI M P 9 &&& (((1 : Int32) <<< (nI w.1 &&& 31)) ^^^ (-1 : Int32))) = bof (mI M P 9) w.1 from rfl, hMa, bnd_e, hMb, bnd_e, rb, bnd_e, cs_pa qb ha, cs_pi qb ha (by omega), mI_c (by omega), hm, hMc, bnd_e, chk_t (Or.inl rfl), hMd, bnd_e, cs_h1 qd, bnd_e, cs_p qd, d7]
    rw [show f_X5_put (h + 1) 1 (nI a) (nI w.1) w.2 Md = some M' from e', obd_s]
  · unfold gF
    rw [hx]
    exact v'
