/-! ===== a node mended ===== -/
theorem md_all {N A x : Nat} {S : St} (hI : Inv N A S) (hX : IX N S) (hZ : IZ N S) (hx : x < N) : Inv N A (uR S 7 x 0) ∧ IX N (uR S 7 x 0) ∧ IZ N (uR S 7 x 0) ∧ ∀ a, Ph a (uR S 7 x 0) = Ph a S := by
  obtain ⟨ja, jb, jc, jd, je, jf, jg, jh⟩ := hI
  obtain ⟨hQ, hV, hK⟩ := hX
  have r7 : ∀ v, xR (uR S 7 x 0) 7 v = if v = x then 0 else xR S 7 v := fun v => by
    rw [xR_uR]
    by_cases c : v = x
    · rw [if_pos ⟨rfl, c⟩, if_pos c]
    · rw [if_neg (fun z => c z.2), if_neg c]
  have rk : ∀ k v, k ≠ 7 → xR (uR S 7 x 0) k v = xR S k v := fun k v n => by rw [xR_uR, if_neg (fun z => n z.1)]
  have zk : ∀ {v a s}, Zok S v a s → Zok (uR S 7 x 0) v a s := fun z => z.ex (rk 2 _ (by decide)) (rk 0 _ (by decide)) (rk 3 _ (by decide))
  have op : ∀ v a, opn (uR S 7 x 0) v a = opn S v a := fun v a => opn_16 (rk 0 v (by decide)) (rk 2 v (by decide)) (rk 3 v (by decide))
  have en : ∀ v a, oe (uR S 7 x 0) 99 99 none v a = oe S 99 99 none v a := fun v a => by
    unfold oe eng
    rw [rk 8 a (by decide), rk 9 a (by decide)]; rfl
  refine ⟨⟨?_, ?_, ?_, ?_, je, ?_, ?_, ?_⟩, ⟨?_, ?_, ?_⟩, ⟨?_, ?_, ?_⟩, fun a => Ph_uR (by decide)⟩
  · intro v hv
    obtain ⟨x1, x2, x3, x4⟩ := ja v hv
    rw [rk 0 v (by decide), rk 10 v (by decide), r7]
    refine ⟨x1, x2, ?_, x4⟩
    split
    · exact Or.inl rfl
    · exact x3
  · intro v hv; rw [rk 3 v (by decide)]; exact jb v hv
  · intro v hv; rw [rk 0 v (by decide), rk 3 v (by decide), rk 4 v (by decide), rk 5 v (by decide)]; exact jc v hv
  · intro v hv; rw [rk 1 v (by decide), rk 2 v (by decide)]; exact jd v hv
  · intro a ha; rw [rk 8 a (by decide), rk 9 a (by decide), rk 10 a (by decide)]; exact jf a ha
  · intro v hv a ha; rw [en, op]; exact jg v hv a ha
  · intro v hv a ha
    obtain ⟨j1, j2, j3⟩ := jh v hv a ha
    rw [en]
    exact ⟨fun s z => zk (j1 s z), fun y q1 q2 => zk (j2 y q1 q2), fun y q1 q2 => zk (j3 y q1 q2)⟩
  · exact hQ.cg rfl (fun k b hk => rk k b (by omega))
  · exact hV.cg (fun k v hk => rk k v (by omega))
  · intro y hy q
    rw [r7] at q
    by_cases c : y = x
    · rw [if_pos c] at q; exact absurd q (by decide)
    · rw [if_neg c] at q
      obtain ⟨a1, a2, a3⟩ := hK y hy q
      exact ⟨by rw [rk 0 y (by decide)]; exact a1, fun u hu => by rw [rk 3 u (by decide)]; exact a2 u hu, a3⟩
  · intro v hv i hi hb
    rw [rk 5 v (by decide)] at hb
    rw [rk 0 v (by decide)]; exact hZ.1 v hv i hi hb
  · intro v hv q
    rw [rk 0 v (by decide)] at q
    rw [rk 3 v (by decide)]; exact hZ.2.1 v hv q
  · intro v a b
    rw [r7, if_neg (by omega), rk 8 v (by decide)]; exact hZ.2.2 v a b
theorem HV.mdN {M : Mem} {h X Y N n : Nat} {t : Int32} {Q : Nat → Int32} {S : St} {pb pt : List Row4} (p : HV M h X Y t N Q S pb pt) (s : SB M N S) (h16 : N ≤ 16) (ht : xR S 20 1 = 1 → N % 2 = 1) (ht2 : xR S 20 1 = 0 ∨ xR S 20 1 = 1) (h7 : ∀ v, v < 16 → xR S 7 v = 0 ∨ xR S 7 v = 1) (hz : ∀ v, N ≤ v → v < 16 → xR S 7 v = 0) {x : Nat} (hx : x < N) (hn : 100 ≤ n) : ∃ M', f_X2_mendNode n h (nI x) M = some M' ∧ HV M' h X Y t N (fun v => qm N (uR S 7 x 0) v) (uR S 7 x 0) pb pt ∧ FrW4 M M' h := by
  have q := p.1
  have x6 : x < 16 := by omega
  obtain ⟨p1, f1⟩ := p.st7 (x := x) (y := bof (mI M h 9) x) (z := 0) x6 (fun u hu => by
    rw [bt_off _ (by omega) hu, p.2.2.1.2.2.2.1 u hu]
    by_cases c : u = x
    · rw [if_pos c, decide_eq_true c, decide_eq_false (show ¬ (u < 16 ∧ (0 : Int32) = 1) from fun z => ne01 z.2)]; simp
    · rw [if_neg c, decide_eq_false c]; simp)
  have hh := q.2.2.2.2.2.1
  have r20 : xR (uR S 7 x 0) 20 1 = xR S 20 1 := by rw [xR_uR, if_neg (by omega)]
  have s1 : SB (sI M h 9 (bof (mI M h 9) x)) N (uR S 7 x 0) :=
    s.cg (Nat.le_refl _) (fun _ _ => rfl) (fun _ => rfl) (fun b => mI_o _ _ _ _ _ (by omega)) (fun b => mI_o _ _ _ _ _ (by omega)) r20 (fun v => by rw [xR_uR, if_neg (by omega)])
  obtain ⟨M2, e2, p2, f2⟩ := p1.renew (n := n) s1 h16 (by omega) (by rw [r20]; exact ht) (by rw [r20]; exact ht2) (fun v hv => by
    rw [xR_uR]; split
    · exact Or.inl rfl
    · exact h7 v hv) (fun v a b => by rw [xR_uR, if_neg (by omega)]; exact hz v a b) (by omega)
  refine ⟨M2, ?_, p2, f1.w4.tr f2.w4⟩
  rw [f_X2_mendNode, cs_f q, show (mI M h 9 &&& (((1 : Int32) <<< (nI x &&& 31)) ^^^ (-1 : Int32))) = bof (mI M h 9) x from rfl, bnd_e, e2, obd_s]
