/-! ===== the reference's search once more, with what it leaves ===== -/
def FrZ (M M' : Mem) : Prop := M'.1 = M.1 ∧ (∀ o, (o < 120 ∨ 130 < o) ∨ o = 126 → ∀ b, mI M' o b = mI M o b) ∧ mI M' 120 3 = mI M 120 3 ∧ ∀ o b, mL M' o b = mL M o b
theorem FrZ.rf (M : Mem) : FrZ M M := ⟨rfl, fun _ _ _ => rfl, rfl, fun _ _ => rfl⟩
theorem FrZ.tr {M M' M'' : Mem} (h : FrZ M M') (h' : FrZ M' M'') : FrZ M M'' := ⟨h'.1.trans h.1, fun o n b => (h'.2.1 o n b).trans (h.2.1 o n b), h'.2.2.1.trans h.2.2.1, fun o b => (h'.2.2.2 o b).trans (h.2.2.2 o b)⟩
/-- all is brought back -/
def FZ (M M' : Mem) : Prop := ∃ Mz, M' = cpF (sI Mz 120 7 0) 126 121 0 ∧ Mz.1 = M.1 ∧ (∀ o, (o < 120 ∨ 130 < o) → ∀ b, mI Mz o b = mI M o b) ∧ (∀ b, b < 10465 → mI Mz 126 b = mI M 121 b) ∧ mI Mz 120 3 = mI M 120 3 ∧ ∀ o b, mL Mz o b = mL M o b
def P125 (o : Nat) : Prop := o = 125
section
variable {N A P most : Nat} {S0 : St} {t : Int32} {pb pt : List Row4} {ask : Int32} {sn : Nat → Int32} {nd : Option Nat}
set_option maxHeartbeats 1000000 in
theorem s100_2 (k : SK N A P most S0) (K : Nat → Int32 → Int32 → Int32 → Mem → Option Mem) {i : Nat} {p : St × Nat} {l : List (St × Nat)} (hi : i < most) (v2 : Int32) : ∀ (e j n : Nat) (M : Mem) (q : Bq), j + e = (mvl N p.1 ask sn).length → q.1[i]? = some p → GQ N A P most S0 q → RM N A P S0 t pb pt ask sn nd M q l → e + 20100 ≤ n → ∃ M', f_X10_search_100 K n 120 (nI most) v2 (nI i) (nI (mvl N p.1 ask sn).length) (nI j) M = K 120 (nI most) v2 (nI (i + 1)) M' ∧ GQ N A P most S0 (exl N most p.1 p.2 ((mvl N p.1 ask sn).drop j) q) ∧ RM N A P S0 t pb pt ask sn nd M' (exl N most p.1 p.2 ((mvl N p.1 ask sn).drop j) q) l ∧ FrZ M M' := by
  obtain ⟨h2, h16, h40, hA, hP, hN0, ht0, hQ⟩ := id k
  intro e
  induction e with
  | zero =>
    intro j n M q hj hp gq hM hn
    obtain ⟨n, rfl⟩ : ∃ m, n = m + 1 := ⟨n - 1, by omega⟩
    have hml := mvl_len (N := N) p.1 ask sn
    rw [List.drop_of_length_le (by omega)]
    refine ⟨M, ?_, gq, hM, FrZ.rf M⟩
    rw [f_X10_search_100, if_pos (nI_le (by omega) (by omega)), nI_1, bnd_e]
  | succ e ih =>
    intro j n M q hj hp gq hM hn
    obtain ⟨n, rfl⟩ : ∃ m, n = m + 1 := ⟨n - 1, by omega⟩
    have hml := mvl_len (N := N) p.1 ask sn
    obtain ⟨⟨S, d, r, g⟩, hq, hc, hask, hsn⟩ := hM
    obtain ⟨⟨Si, a1, a2, a3⟩, a4⟩ := hq.2.2 i p hp
    obtain ⟨dp, gp⟩ := gq.2.2 i p hp
    have g2 := a3.tmx k.2.1 g
    obtain ⟨M1, e1, r1, s1, o1, L1⟩ := r.lays a2 (show i < 40 by omega) (n := n) (by omega)
    have sp : SE (mix Si S) p.1 := (mix_SE (a3.2.2.1.ss g.2.2.1)).tr a1
    have tR := g2.tR k
    obtain ⟨M2, e2, r2, m2, f2⟩ := r1.lay tR.1 h16 tR.2 (ask := ask) (sn := sn) ((o1 120 (by decide) 7).trans hask) (fun v hv => (o1 125 (by decide) v).trans (hsn v hv)) (n := n) (by omega)
    have hmv : mvl N (mix Si S) ask sn = mvl N p.1 ask sn := sp.sy.tmv h16 ask (fun _ _ => rfl)
    have hjl : j < (mvl N p.1 ask sn).length := by omega
    have hcj : (mvl N (mix Si S) ask sn)[j]? = some ((mvl N p.1 ask sn)[j]) := by rw [hmv]; exact List.getElem?_eq_getElem hjl
    generalize hcc : (mvl N p.1 ask sn)[j] = c at hcj
    have hcm : c ∈ mvl N p.1 ask sn := by rw [← hcc]; exact List.getElem_mem hjl
    have hcm2 : c ∈ mvl N (mix Si S) ask sn := by rw [hmv]; exact hcm
    have ok := mvl_ok gp.1 h16 hcm
    have ok2 := mvl_ok g2.1 h16 hcm2
    obtain ⟨M3, e3, r3, f3⟩ := r2.tdm g2.1 tR.1 h2 h16 tR.2 (by omega) (g2.fl k (by omega)) m2 hcj (n := n) (by omega)
    have g3 := g2.mv h2 h16 (by omega) hQ ok2 t
    have gm := gp.mv h2 h16 (by omega) hQ ok 0
    have sm : SE (dm t N c (mix Si S)) (dm 0 N c p.1) := sp.tdm g2.1 h16 (by
      rcases ok2 with z | z | z
      · exact Or.inl z
      · exact Or.inr (Or.inl ⟨z.1, z.2.1, z.2.2.1⟩)
      · exact Or.inr (Or.inr ⟨z.1, z.2.1⟩))
    have pa : ∀ o, ¬ PA o → ∀ b, mI M3 o b = mI M2 o b := f3.2.1
    have n120 : ¬ PA 120 := by unfold PA; decide
    have n125 : ¬ PA 125 := by unfold PA; decide
    have n128 : ¬ PA 128 := by unfold PA; decide
    have n129 : ¬ PA 129 := by unfold PA; decide
    have k3 : ∀ b, b ≠ 6 → mI M3 120 b = mI M 120 b := fun b hb => by rw [pa 120 n120, f2.2.2.1 b hb, o1 120 (by decide)]
    have far3 : ∀ o, 125 ≤ o → ∀ b, mI M3 o b = mI M o b := fun o ho b => by
      rw [pa o (by unfold PA; omega), f2.2.1 o (by omega), o1 o (by omega)]
    have hq3 : RQ N A P S0 M3 q := hq.cg (k3 13 (by decide)) (k3 14 (by decide)) (far3 128 (by decide)) (far3 129 (by decide))
    obtain ⟨M4, e4, r4, hq4, f4⟩ := r3.meet h16 (by omega) h40 g3 (by omega) sm hq3 gq (n := n) (by omega)
    have k4 : ∀ b, b ≠ 6 → b ≠ 13 → b ≠ 14 → mI M4 120 b = mI M 120 b := fun b h6 h13 h14 => (f4.2.2.1 b h13 h14).trans (k3 b h6)
    have hM4 : RM N A P S0 t pb pt ask sn nd M4 (met1 most q (dm 0 N c p.1) (p.2 + 1)) l :=
      ⟨⟨_, _, r4, g3⟩, hq4, hc.cg (fun b z1 z2 => k4 b (by omega) (by omega) (by omega)), (k4 7 (by decide) (by decide) (by decide)).trans hask, fun v hv => by rw [f4.2.1 125 (by decide) (by decide) (by decide), far3 125 (by decide)]; exact hsn v hv⟩
    have hiq : i < q.1.length := by
      rcases Nat.lt_or_ge i q.1.length with z | z
      · exact z
      · rw [List.getElem?_eq_none z] at hp; cases hp
    have z4 : FrZ M M4 := ⟨f4.1.trans (f3.1.trans (f2.1.trans s1)), fun o ho b => by rw [f4.2.1 o (by omega) (by omega) (by omega), pa o (by unfold PA; omega), f2.2.1 o (by omega), o1 o (by omega)], k4 3 (by decide) (by decide) (by decide), fun o b => (f4.2.2.2 o b).trans ((f3.2.2 o b).trans ((f2.2.2.2 o b).trans (L1 o b)))⟩
    obtain ⟨M', e', gq', hM', z'⟩ := ih (j + 1) n M4 (met1 most q (dm 0 N c p.1) (p.2 + 1)) (by omega) (met1_pre hp) (gq.m hiq (by omega) gm) hM4 (by omega)
    have ed : (mvl N p.1 ask sn).drop j = c :: (mvl N p.1 ask sn).drop (j + 1) := by rw [List.drop_eq_getElem_cons hjl, hcc]
    rw [ed, exl_c]
    refine ⟨M', ?_, gq', hM', z4.tr z'⟩
    rw [f_X10_search_100, if_neg (nI_ge (by omega) (by omega)), rs_f r.1, e1, obd_s, rs_f r1.1, e2, obd_s, rs_f r2.1, e3, obd_s, rs_f r3.1, rs_12 r3.1, bnd_e, rs_f12 r3.1, rs_c12 r3.1 (show i < 40 by omega), mI_c (by omega), far3 129 (by decide), a4, nI_1, e4, obd_s, nI_1, bnd_e]
    exact e'
set_option maxHeartbeats 1000000 in
theorem s72_2 (k : SK N A P most S0) (hnd : ∀ v, nd = some v → v < N) : ∀ (d i m n : Nat) (M : Mem) (q : Bq), i + d = most → d + 1 ≤ m → i ≤ q.1.length → GQ N A P most S0 q → RM N A P S0 t pb pt ask sn nd M q (q.1.take i) → d + 20900 ≤ n → ∃ M' Mz, f_X10_search_72 n 120 (nI most) (nodI nd) (nI i) M = some M' ∧ M' = cpF (sI Mz 120 7 0) 126 121 0 ∧ FrZ M Mz ∧ RS M' ∧ GQ N A P most S0 (bfs N most ask sn m i q) ∧ RQ N A P S0 M' (bfs N most ask sn m i q) ∧ RC N ask sn nd M' (bfs N most ask sn m i q).1 := by
  obtain ⟨h2, h16, h40, hA, hP, hN0, ht0, hQ⟩ := id k
  have stop : ∀ (i m n : Nat) (M : Mem) (q : Bq), i = q.1.length → GQ N A P most S0 q → RM N A P S0 t pb pt ask sn nd M q (q.1.take i) → 1 ≤ m → 10600 ≤ n → ∃ M' Mz, f_X10_search_72 n 120 (nI most) (nodI nd) (nI i) M = some M' ∧ M' = cpF (sI Mz 120 7 0) 126 121 0 ∧ FrZ M Mz ∧ RS M' ∧ GQ N A P most S0 (bfs N most ask sn m i q) ∧ RQ N A P S0 M' (bfs N most ask sn m i q) ∧ RC N ask sn nd M' (bfs N most ask sn m i q).1 := by
    intro i m n M q hi gq hM hm hn
    obtain ⟨n, rfl⟩ : ∃ j, n = j + 1 := ⟨n - 1, by omega⟩
    obtain ⟨m, rfl⟩ : ∃ j, m = j + 1 := ⟨m - 1, by omega⟩
    obtain ⟨⟨S, d, r, g⟩, hq, hc, hask, hsn⟩ := hM
    have eb : bfs N most ask sn (m + 1) i q = q := by
      unfold bfs
      rw [List.getElem?_eq_none (by omega)]
    rw [eb]
    rw [hi, List.take_length] at hc
    have hl := gq.1
    have S1 : RS (sI M 120 7 0) := r.1.e rfl
    have ef := f_back S1 (n := n) (by omega)
    have fin : ∀ o, o ≠ 121 → ∀ b, mI (cpF (sI M 120 7 0) 126 121 0) o b = mI (sI M 120 7 0) o b := fun o n b => by
      show (if o = 121 ∧ 0 ≤ b ∧ b < 10465 then (sI M 120 7 0).2.1 126 b else (sI M 120 7 0).2.1 o b) = (sI M 120 7 0).2.1 o b
      rw [if_neg (fun z => n z.1)]
    have f120 : ∀ b, b ≠ 7 → mI (cpF (sI M 120 7 0) 126 121 0) 120 b = mI M 120 b := fun b n => by rw [fin 120 (by decide), mI_n _ _ _ _ n]
    have fO : ∀ o, o ≠ 121 → o ≠ 120 → ∀ b, mI (cpF (sI M 120 7 0) 126 121 0) o b = mI M o b := fun o n1 n2 b => by rw [fin o n1, mI_o _ _ _ _ _ n2]
    refine ⟨cpF (sI M 120 7 0) 126 121 0, M, ?_, rfl, FrZ.rf M, S1.e rfl, gq, hq.cg (f120 13 (by decide)) (f120 14 (by decide)) (fO 128 (by decide) (by decide)) (fO 129 (by decide) (by decide)), hc.cg (fun b z1 z2 => f120 b (by omega))⟩
    rw [f_X10_search_72, rs_f r.1, hq.1, if_pos (by rw [hi]; exact Int32.le_refl _), bnd_e, ef, obd_s]
  intro d
  induction d with
  | zero =>
    intro i m n M q hi hm hil gq hM hn
    exact stop i m n M q (by have := gq.1; omega) gq hM (by omega) (by omega)
  | succ d ih =>
    intro i m n M q hi hm hil gq hM hn
    by_cases c : i = q.1.length
    · exact stop i m n M q c gq hM (by omega) (by omega)
    · obtain ⟨n, rfl⟩ : ∃ j, n = j + 1 := ⟨n - 1, by omega⟩
      obtain ⟨m, rfl⟩ : ∃ j, m = j + 1 := ⟨m - 1, by omega⟩
      have hlt : i < q.1.length := by omega
      have hl := gq.1
      obtain ⟨p, hp⟩ : ∃ p, q.1[i]? = some p := ⟨_, List.getElem?_eq_getElem hlt⟩
      obtain ⟨⟨S, dS, r, g⟩, hq, hc, hask, hsn⟩ := id hM
      obtain ⟨⟨Si, a1, a2, a3⟩, a4⟩ := hq.2.2 i p hp
      obtain ⟨dp, gp⟩ := gq.2.2 i p hp
      have g2 := a3.tmx k.2.1 g
      obtain ⟨M1, e1, r1, s1, o1, L1⟩ := r.lays a2 (show i < 40 by omega) (n := n) (by omega)
      have sp : SE (mix Si S) p.1 := (mix_SE (a3.2.2.1.ss g.2.2.1)).tr a1
      have tR := g2.tR k
      have hq1 : RQ N A P S0 M1 q := hq.cg (o1 120 (by decide) 13) (o1 120 (by decide) 14) (o1 128 (by decide)) (o1 129 (by decide))
      have hc1 : RC N ask sn nd M1 (q.1.take i) := hc.cg (fun b _ _ => o1 120 (by decide) b)
      have len : (q.1.take i).length ≤ 40 := by rw [List.length_take]; omega
      have c2 : cTwo N (q.1.take i) < 100 := by
        have := List.length_filter_le (fun p => sTwo N p.1) (q.1.take i)
        unfold cTwo; omega
      have c3 : cStk N ask sn (q.1.take i) < 100 := by
        have := List.length_filter_le (fun p => sStk N ask sn p.1) (q.1.take i)
        unfold cStk; omega
      have mx : ∀ l : List (St × Nat), (∀ p, p ∈ l → (fl p.1).length ≤ 9000) → cMx l ≤ 9000 := by
        have gen : ∀ (l : List (St × Nat)) (x : Nat), x ≤ 9000 → (∀ p, p ∈ l → (fl p.1).length ≤ 9000) → l.foldl (fun m p => max m (fl p.1).length) x ≤ 9000 := by
          intro l
          induction l with
          | nil => intro x hx _; exact hx
          | cons p l ihl =>
            intro x hx h
            rw [List.foldl_cons]
            exact ihl _ (Nat.max_le.mpr ⟨hx, h p (by simp)⟩) (fun q hq => h q (List.mem_cons_of_mem _ hq))
        intro l h
        exact gen l 0 (by omega) h
      have c4 : cMx (q.1.take i) ≤ 9000 := mx _ (fun p' hp' => by
        obtain ⟨j, hj⟩ := List.getElem?_of_mem (List.mem_of_mem_take hp')
        obtain ⟨dj, gj⟩ := gq.2.2 j p' hj
        have hjl : j < q.1.length := by
          rcases Nat.lt_or_ge j q.1.length with z | z
          · exact z
          · rw [List.getElem?_eq_none z] at hj; cases hj
        have := gj.fl k (by omega)
        omega)
      obtain ⟨M2, e2, r2, hc2, f2⟩ := r1.look (d := 0) (q := q) (p0 := p) (i := i) (ask := ask) (sn := sn) (nd := nd) h2 tR.1 h16 tR.2 ((o1 120 (by decide) 7).trans hask) (fun v hv => (o1 125 (by decide) v).trans (hsn v hv)) sp hp (by omega) ((o1 129 (by decide) i).trans a4) hnd hc1 ⟨c2, c3⟩ c4 (n := n) (by omega)
      have hq2 : RQ N A P S0 M2 q := hq1.cg (f2.2.2.1 13 (by decide) (by decide)) (f2.2.2.1 14 (by decide) (by decide)) (f2.2.1 128 (by decide)) (f2.2.1 129 (by decide))
      have ask2 : mI M2 120 7 = ask := (f2.2.2.1 7 (by decide) (by decide)).trans ((o1 120 (by decide) 7).trans hask)
      have sn2 : ∀ v, v < N → mI M2 125 v = sn v := fun v hv => (f2.2.1 125 (by decide) v).trans ((o1 125 (by decide) v).trans (hsn v hv))
      obtain ⟨M3, e3, r3, f3⟩ := r2.mvN tR.1 h16 tR.2 ask2 sn2 (n := n) (by omega)
      have hmv : mvl N (mix Si S) ask sn = mvl N p.1 ask sn := sp.sy.tmv h16 ask (fun _ _ => rfl)
      rw [hmv] at e3
      have hM3 : RM N A P S0 t pb pt ask sn nd M3 q (q.1.take (i + 1)) := ⟨⟨_, _, r3, g2⟩, hq2.cg (f3.2.2.1 13 (by decide)) (f3.2.2.1 14 (by decide)) (f3.2.1 128 (by decide)) (f3.2.1 129 (by decide)), hc2.cg (fun b z1 z2 => f3.2.2.1 b (by omega)), (f3.2.2.1 7 (by decide)).trans ask2, fun v hv => (f3.2.1 125 (by decide) v).trans (sn2 v hv)⟩
      have hml := mvl_len (N := N) p.1 ask sn
      obtain ⟨M4, e4, gq4, hM4, z4⟩ := s100_2 (t := t) (pb := pb) (pt := pt) (ask := ask) (sn := sn) (nd := nd) k (f_X10_search_72 n) (i := i) (p := p) (l := q.1.take (i + 1)) (by omega) (nodI nd) (mvl N p.1 ask sn).length 0 n M3 q (by omega) hp gq hM3 (by omega)
      rw [List.drop_zero] at gq4 hM4
      obtain ⟨b1, b2⟩ := exl_pre (N := N) (most := most) (S := p.1) (d := p.2) (mvl N p.1 ask sn) q hp
      have eb : bfs N most ask sn (m + 1) i q = bfs N most ask sn m (i + 1) (exl N most p.1 p.2 (mvl N p.1 ask sn) q) := by
        show (match q.1[i]? with
          | none => q
          | some p => bfs N most ask sn m (i + 1) (exl N most p.1 p.2 (mvl N p.1 ask sn) q)) = _
        rw [hp]
      rw [eb]
      rw [← b2] at hM4
      have hi1 : i + 1 ≤ (exl N most p.1 p.2 (mvl N p.1 ask sn) q).1.length := by
        rcases Nat.lt_or_ge i (exl N most p.1 p.2 (mvl N p.1 ask sn) q).1.length with z | z
        · exact z
        · rw [List.getElem?_eq_none z] at b1; cases b1
      obtain ⟨M', Mz, e', hz, zz, R⟩ := ih (i + 1) m n M4 _ (by omega) (by omega) hi1 gq4 hM4 (by omega)
      have z3 : FrZ M M3 := ⟨f3.1.trans (f2.1.trans s1), fun o ho b => by rw [f3.2.1 o (by omega), f2.2.1 o (by omega), o1 o (by omega)], by rw [f3.2.2.1 3 (by decide), f2.2.2.1 3 (by decide) (by decide), o1 120 (by decide)], fun o b => (f3.2.2.2 o b).trans ((f2.2.2.2 o b).trans (L1 o b))⟩
      refine ⟨M', Mz, ?_, hz, z3.tr (z4.tr zz), R⟩
      rw [f_X10_search_72, rs_f r.1, hq.1, if_neg (nI_ge hlt (by omega)), e1, obd_s, rs_f r1.1, e2, obd_s, rs_f r2.1, e3, obd2_s]
      exact e4.trans e'
end
theorem s6_2 {t : Int32} {S0 : St} {pb pt : List Row4} {N most : Nat} {v2 : Int32} (hN : xR S0 20 0 = nI N) (h16 : N ≤ 16) : ∀ (d i n : Nat) (M : Mem), i + d = N → RV M false t S0 pb pt → (∀ v, v < i → mI M 125 v = xR S0 2 v) → d + 1 ≤ n → ∃ M' n', f_X10_search_6 n 120 (nI most) v2 (nI i) M = f_X10_search_6 (n' + 1) 120 (nI most) v2 (nI N) M' ∧ n ≤ n' + 1 + d ∧ RV M' false t S0 pb pt ∧ (∀ v, v < N → mI M' 125 v = xR S0 2 v) ∧ Fr P125 M M' := by
  intro d
  induction d with
  | zero =>
    intro i n M hi p hs hn
    exact ⟨M, n - 1, by rw [show i = N by omega, show n - 1 + 1 = n by omega], by omega, p, fun v hv => hs v (by omega), Fr.rf _ _⟩
  | succ d ih =>
    intro i n M hi p hs hn
    obtain ⟨n, rfl⟩ : ∃ m, n = m + 1 := ⟨n - 1, by omega⟩
    have fa : Fr P125 M (sI M 125 i (xR S0 2 i)) := Fr.tsI (show P125 125 from rfl)
    generalize hMa : sI M 125 i (xR S0 2 i) = Ma at fa
    have pa : RV Ma false t S0 pb pt := p.cg (by rw [← hMa]; rfl) (by rw [← hMa, mI_o _ _ _ _ _ (by decide)]) (fun b => by rw [← hMa, mI_o _ _ _ _ _ (by decide)]) (fun b => by rw [← hMa, mI_o _ _ _ _ _ (by decide)])
    obtain ⟨M', n', e, hn', p', s', k'⟩ := ih (i + 1) n Ma (by omega) pa (fun v hv => by
      rw [← hMa]
      by_cases c : v = i
      · rw [c, mI_s]
      · rw [mI_n _ _ _ _ c]; exact hs v (by omega)) (by omega)
    refine ⟨M', n', ?_, by omega, p', s', fa.tr k'⟩
    rw [f_X10_search_6, rs_f p.1, rs_0 p.1, bnd_e, rs_fa p.1, rs_c0 p.1, cl0, p.N hN, if_neg (nI_ge (by omega) (by omega)), rs_5 p.1, bnd_e, rs_f5 p.1, p.get2 (by omega), obd_s, rs_c5 p.1 (by omega), sI_c (by omega), hMa, bnd_e, nI_1, bnd_e]
    exact e
set_option maxHeartbeats 1000000 in
theorem RV.srch2 {N A P most n : Nat} {S0 : St} {M : Mem} {t : Int32} {pb pt : List Row4} {ask : Int32} {nd : Option Nat} (p : RV M false t S0 pb pt) (k : SK N A P most S0) (hm : 0 < most) (g : GS N A P S0 S0 0) (hask : mI M 120 7 = ask) (hnd : ∀ v, nd = some v → v < N) (hn : 30000 ≤ n) : ∃ M', f_X10_search n 120 (nI most) (nodI nd) M = some M' ∧ FZ M M' ∧ RS M' ∧ GQ N A P most S0 (bfq N most ask S0) ∧ RQ N A P S0 M' (bfq N most ask S0) ∧ RC N ask (fun v => xR S0 2 v) nd M' (bfq N most ask S0).1 := by
  obtain ⟨h2, h16, h40, hA, hP, hN0, ht0, hQ⟩ := id k
  have ea := f_aside p.1 (n := n) (by omega)
  generalize hMa : cpF M 121 126 0 = Ma at ea
  have oa : ∀ o, o ≠ 126 → ∀ b, mI Ma o b = mI M o b := fun o n b => by
    rw [← hMa]
    show (if o = 126 ∧ 0 ≤ b ∧ b < 10465 then M.2.1 121 b else M.2.1 o b) = M.2.1 o b
    rw [if_neg (fun z => n z.1)]
  have pa : RV Ma false t S0 pb pt := p.cg (by rw [← hMa]; rfl) (oa 120 (by decide) 3) (oa 121 (by decide)) (oa 123 (by decide))
  obtain ⟨M1, n1, e1, hn1, p1, s1, k1⟩ := s6_2 (most := most) (v2 := nodI nd) hN0 h16 N 0 n Ma (by omega) pa (fun v hv => by omega) (by omega)
  generalize hMb : sI (sI (sI (sI (sI (sI M1 120 13 (0 : Int32)) 120 14 (0 : Int32)) 120 15 (0 : Int32)) 120 16 (0 : Int32)) 120 17 (0 : Int32)) 120 18 (-1 : Int32) = Mb
  have b13 : mI Mb 120 13 = 0 := by rw [← hMb, mI_n _ _ _ _ (by decide), mI_n _ _ _ _ (by decide), mI_n _ _ _ _ (by decide), mI_n _ _ _ _ (by decide), mI_n _ _ _ _ (by decide), mI_s]
  have b14 : mI Mb 120 14 = 0 := by rw [← hMb, mI_n _ _ _ _ (by decide), mI_n _ _ _ _ (by decide), mI_n _ _ _ _ (by decide), mI_n _ _ _ _ (by decide), mI_s]
  have b15 : mI Mb 120 15 = 0 := by rw [← hMb, mI_n _ _ _ _ (by decide), mI_n _ _ _ _ (by decide), mI_n _ _ _ _ (by decide), mI_s]
  have b16 : mI Mb 120 16 = 0 := by rw [← hMb, mI_n _ _ _ _ (by decide), mI_n _ _ _ _ (by decide), mI_s]
  have b17 : mI Mb 120 17 = 0 := by rw [← hMb, mI_n _ _ _ _ (by decide), mI_s]
  have b18 : mI Mb 120 18 = -1 := by rw [← hMb, mI_s]
  have bo : ∀ o, o ≠ 120 → ∀ b, mI Mb o b = mI M1 o b := fun o n b => by rw [← hMb, mI_o _ _ _ _ _ n, mI_o _ _ _ _ _ n, mI_o _ _ _ _ _ n, mI_o _ _ _ _ _ n, mI_o _ _ _ _ _ n, mI_o _ _ _ _ _ n]
  have bk : ∀ b, b < 13 → mI Mb 120 b = mI M1 120 b := fun b hb => by rw [← hMb, mI_n _ _ _ _ (by omega), mI_n _ _ _ _ (by omega), mI_n _ _ _ _ (by omega), mI_n _ _ _ _ (by omega), mI_n _ _ _ _ (by omega), mI_n _ _ _ _ (by omega)]
  have pb' : RV Mb false t S0 pb pt := p1.cg (by rw [← hMb]; rfl) (bk 3 (by decide)) (bo 121 (by decide)) (bo 123 (by decide))
  have q0 : RQ N A P S0 Mb ([], false) := ⟨b13, b14, fun i p hp => by simp at hp⟩
  have g0 : GQ N A P most S0 ([], false) := ⟨Nat.zero_le _, fun z => absurd z (by decide), fun i p hp => by simp at hp⟩
  obtain ⟨M2, e2, p2, q2, f2⟩ := pb'.meet (dd := 0) h16 (by omega) h40 g (by omega) (SE.rf S0) q0 g0 (n := n1) (by omega)
  have em : met1 most ([], false) S0 0 = ([(S0, 0)], false) := by
    unfold met1
    have : knw ([] : List (St × Nat)) S0 = false := by
      cases e : knw ([] : List (St × Nat)) S0 with
      | false => rfl
      | true =>
        obtain ⟨q, hq, _⟩ := knw_t.mp e
        simp at hq
    rw [show (([], false) : Bq).1 = [] from rfl, this, if_neg (by decide), if_pos (by simpa using hm)]
    rfl
  rw [em] at q2
  have o2 : ∀ b, b ≠ 13 → b ≠ 14 → mI M2 120 b = mI Mb 120 b := f2.2.2.1
  have hM2 : RM N A P S0 t pb pt ask (fun v => xR S0 2 v) nd M2 ([(S0, 0)], false) ((([(S0, 0)], false) : Bq).1.take 0) := by
    refine ⟨⟨S0, 0, p2, g⟩, q2, ⟨?_, ?_, ?_, ?_⟩, ?_, fun v hv => ?_⟩
    · rw [o2 15 (by decide) (by decide)]; exact b15
    · rw [o2 16 (by decide) (by decide)]; exact b16
    · rw [o2 17 (by decide) (by decide)]; exact b17
    · rw [o2 18 (by decide) (by decide), b18]
      cases nd <;> rfl
    · rw [o2 7 (by decide) (by decide), bk 7 (by decide), k1.2.1 120 (by unfold P125; decide), oa 120 (by decide)]
      exact hask
    · rw [f2.2.1 125 (by decide) (by decide) (by decide), bo 125 (by decide)]
      exact s1 v hv
  obtain ⟨M3, Mz, e3, hz, zz, S3, G3, Q3, C3⟩ := s72_2 (t := t) (pb := pb) (pt := pt) (ask := ask) (sn := fun v => xR S0 2 v) (nd := nd) k hnd most 0 (most + 1) n1 M2 ([(S0, 0)], false) (by omega) (by omega) (Nat.zero_le _) (SK_Q0 g hm) hM2 (by omega)
  have k5 : ∀ o, o ≠ 125 → ∀ b, mI M1 o b = mI Ma o b := fun o n b => k1.2.1 o n b
  have zM : ∀ o, o ≠ 120 → o ≠ 125 → o ≠ 128 → o ≠ 129 → ∀ b, mI M2 o b = mI Ma o b := fun o n1 n2 n3 n4 b => by rw [f2.2.1 o n1 n3 n4, bo o n1, k5 o n2]
  have s2 : M2.1 = M.1 := f2.1.trans ((show Mb.1 = M1.1 by rw [← hMb]; rfl).trans (k1.1.trans (show Ma.1 = M.1 by rw [← hMa]; rfl)))
  have a126 : ∀ b, b < 10465 → mI Ma 126 b = mI M 121 b := fun b hb => by
    rw [← hMa]
    show (if 126 = 126 ∧ 0 ≤ b ∧ b < 10465 then M.2.1 121 b else M.2.1 126 b) = M.2.1 121 b
    rw [if_pos ⟨rfl, Nat.zero_le _, hb⟩]
  have fz : FZ M M3 := ⟨Mz, hz, zz.1.trans s2, fun o ho b => by rw [zz.2.1 o (Or.inl ho), zM o (by omega) (by omega) (by omega) (by omega), oa o (by omega)], fun b hb => by rw [zz.2.1 126 (Or.inr rfl), zM 126 (by decide) (by decide) (by decide) (by decide)]; exact a126 b hb, by rw [zz.2.2.1, o2 3 (by decide) (by decide), bk 3 (by decide), k5 120 (by decide), oa 120 (by decide)], fun o b => (zz.2.2.2 o b).trans ((f2.2.2.2 o b).trans (by rw [← hMb]; exact (k1.2.2 o b).trans (by rw [← hMa]; rfl)))⟩
  refine ⟨M3, ?_, fz, S3, G3, Q3, C3⟩
  rw [f_X10_search, rs_f p.1, ea, obd_s, show (0 : Int32) = nI 0 from rfl, e1, f_X10_search_6, rs_f p1.1, rs_0 p1.1, bnd_e, rs_fa p1.1, rs_c0 p1.1, cl0, p1.N hN0, if_pos (Int32.le_refl _), bnd_e, chk_t (Or.inl rfl), bnd_e, bnd_e, bnd_e, bnd_e, bnd_e, hMb, show (0 : Int32) = nI 0 from rfl, e2, obd_s]
  exact e3
set_option maxHeartbeats 1000000 in
theorem RV.sby2 {N A P most n w : Nat} {S0 : St} {M : Mem} {t : Int32} {pb pt : List Row4} {ask : Int32} (p : RV M false t S0 pb pt) (k : SK N A P most S0) (hm : 0 < most) (g : GS N A P S0 S0 0) (ha : ask &&& ((((1 : Int32) <<< (nI N &&& 31)) - 1) ^^^ (-1 : Int32)) = 0) (hw : w < 6) (hn : 30000 ≤ n) : ∃ M', f_X10_searchedBy n 120 ask (nI most) (nI w) M = some (cSe N ask (fun v => xR S0 2 v) (bfq N most ask S0) w, M') ∧ FZ (sI M 120 7 ask) M' := by
  obtain ⟨h2, h16, h40, hA, hP, hN0, ht0, hQ⟩ := id k
  have pa : RV (sI M 120 7 ask) false t S0 pb pt := p.cg rfl (mI_n _ _ _ _ (by decide)) (fun b => mI_o _ _ _ _ _ (by decide)) (fun b => mI_o _ _ _ _ _ (by decide))
  obtain ⟨M1, e1, F1, S1, G1, Q1, C1⟩ := pa.srch2 (nd := none) k hm g (mI_s _ _ _ _) (fun v z => by cases z) hn
  have hpos := bfq_pos N most ask S0
  generalize bfq N most ask S0 = q at G1 Q1 C1 hpos ⊢
  have hl := G1.1
  refine ⟨M1, ?_, F1⟩
  have i1 : f_X10_isIn (nI most) (1 : Int32) (40 : Int32) M = some 1 := is_in3 (L := 1) (N := 40) (by decide) hm h40
  rw [f_X10_searchedBy, rs_f p.1, f_all p hN0, obd_s, if_pos ha, i1, obd_s, if_neg ne10, show (5 : Int32) = nI 5 from rfl, f_isI M (show w ≤ 5 by omega) (by decide), obd_s, if_neg ne10, bnd_e, show f_X10_search n 120 (nI most) (-1) (sI M 120 7 ask) = some M1 from e1, obd_s]
  unfold cSe
  rcases (show w = 0 ∨ w = 1 ∨ w = 2 ∨ w = 3 ∨ w = 4 ∨ w = 5 by omega) with rfl | rfl | rfl | rfl | rfl | rfl
  · rw [if_pos (show nI 0 = (0 : Int32) from rfl), if_pos rfl, rs_f S1, Q1.1]
  · rw [if_neg (show ¬ nI 1 = (0 : Int32) by decide), if_pos (show nI 1 = (1 : Int32) from rfl), if_neg (show ¬ (1 : Nat) = 0 by decide), if_pos rfl, rs_f S1, C1.1]
  · rw [if_neg (show ¬ nI 2 = (0 : Int32) by decide), if_neg (show ¬ nI 2 = (1 : Int32) by decide), if_pos (show nI 2 = (2 : Int32) from rfl), if_neg (show ¬ (2 : Nat) = 0 by decide), if_neg (show ¬ (2 : Nat) = 1 by decide), if_pos rfl, rs_f S1, C1.2.1]
  · rw [if_neg (show ¬ nI 3 = (0 : Int32) by decide), if_neg (show ¬ nI 3 = (1 : Int32) by decide), if_neg (show ¬ nI 3 = (2 : Int32) by decide), if_pos (show nI 3 = (3 : Int32) from rfl), if_neg (show ¬ (3 : Nat) = 0 by decide), if_neg (show ¬ (3 : Nat) = 1 by decide), if_neg (show ¬ (3 : Nat) = 2 by decide), if_pos rfl, rs_f S1, C1.2.2.1]
  · rw [if_neg (show ¬ nI 4 = (0 : Int32) by decide), if_neg (show ¬ nI 4 = (1 : Int32) by decide), if_neg (show ¬ nI 4 = (2 : Int32) by decide), if_neg (show ¬ nI 4 = (3 : Int32) by decide), if_pos (show nI 4 = (4 : Int32) from rfl), if_neg (show ¬ (4 : Nat) = 0 by decide), if_neg (show ¬ (4 : Nat) = 1 by decide), if_neg (show ¬ (4 : Nat) = 2 by decide), if_neg (show ¬ (4 : Nat) = 3 by decide), if_pos rfl, rs_f S1, Q1.2.1]
    cases q.2
    · rfl
    · rfl
  · obtain ⟨p5, h5⟩ : ∃ p5, q.1[q.1.length - 1]? = some p5 := ⟨_, List.getElem?_eq_getElem (by omega)⟩
    have d5 := (Q1.2.2 _ p5 h5).2
    have e1 : nI q.1.length - (1 : Int32) = nI (q.1.length - 1) := by rw [show (1 : Int32) = nI 1 from rfl, nI_sb hpos]
    rw [if_neg (show ¬ nI 5 = (0 : Int32) by decide), if_neg (show ¬ nI 5 = (1 : Int32) by decide), if_neg (show ¬ nI 5 = (2 : Int32) by decide), if_neg (show ¬ nI 5 = (3 : Int32) by decide), if_neg (show ¬ nI 5 = (4 : Int32) by decide), if_neg (show ¬ (5 : Nat) = 0 by decide), if_neg (show ¬ (5 : Nat) = 1 by decide), if_neg (show ¬ (5 : Nat) = 2 by decide), if_neg (show ¬ (5 : Nat) = 3 by decide), if_neg (show ¬ (5 : Nat) = 4 by decide), rs_f S1, rs_12 S1, bnd_e, rs_f12 S1, Q1.1, e1, rs_c12 S1 (by omega), mI_c (by omega), d5, h5]
theorem RV.ssn2 {N A P most n v : Nat} {S0 : St} {M : Mem} {t : Int32} {pb pt : List Row4} (p : RV M false t S0 pb pt) (k : SK N A P most S0) (hm : 0 < most) (g : GS N A P S0 S0 0) (h7 : mI M 120 7 = 0) (hv : v < N) (hnd : f_X10_isNode 120 (nI v) M = some 1) (hn : 30000 ≤ n) : ∃ M', f_X10_soonest n 120 (nI v) (nI most) M = some (cSon v (bfq N most 0 S0).1, M') ∧ FZ M M' := by
  obtain ⟨h2, h16, h40, hA, hP, hN0, ht0, hQ⟩ := id k
  obtain ⟨M1, e1, F1, S1, G1, Q1, C1⟩ := p.srch2 (nd := some v) k hm g h7 (fun u z => by cases z; exact hv) hn
  refine ⟨M1, ?_, F1⟩
  have i1 : f_X10_isIn (nI most) (1 : Int32) (40 : Int32) M = some 1 := is_in3 (L := 1) (N := 40) (by decide) hm h40
  rw [f_X10_soonest, rs_f p.1, hnd, obd_s, if_neg ne10, i1, obd_s, if_neg ne10, show f_X10_search n 120 (nI most) (nI v) M = some M1 from e1, obd_s, rs_f S1, C1.2.2.2]
  rfl
