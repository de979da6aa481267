/-! ===== the class hears a grant ===== -/
set_option maxHeartbeats 1000000 in
theorem HV.tgr {M : Mem} {h X Y N n : Nat} {t : Int32} {Q : Nat → Int32} {S : St} {pb pt : List Row4} (p : HV M h X Y t N Q S pb pt) (h16 : N ≤ 16) {a v : Nat} {s : Int32} (ha : a < 32) (hv : v < N) (hI : ∀ w, N ≤ w → w < 16 → xR S 0 w ≠ 2) (hV : xR S 0 v = 1 → xR S 2 v = s → bt (xR S 3 v) a = true ∧ ∀ i, i < 32 → bt (xR S 4 v) i = true → bt (xR S 3 v) i = true) (hn : 17 ≤ n) : ∃ M', f_X2_hearGrant n h (nI a) (nI v) s M = some M' ∧ HV M' h X Y t N Q (if xR S 0 v = 1 ∧ xR S 2 v = s then gr t N v a S else S) pb pt ∧ FrH M M' h := by
  have q := p.1
  have v6 : v < 16 := by omega
  rw [f_X2_hearGrant, cs_f q, cs_h2 q, bnd_e, cs_a10 q, cs_i10 q v6, cs_rpc q v6, bnd_e, cs_po q v6, p.ia v6, obd_s]
  by_cases c : xR S 0 v = 1 ∧ xR S 2 v = s
  · rw [if_pos c, if_pos c, if_neg (by decide)]
    obtain ⟨k3, kv⟩ := hV c.1 c.2
    have b3 := p.fs v6 (a := 3) (k := 4) (by decide)
    obtain ⟨p1, f1⟩ := p.fld (a := 3) (k := 4) (x := bon (xR S 4 v) a) v6 (by decide) (by decide)
    generalize hMa : sI M (h + 17 + 2 * v) 3 (bon (xR S 4 v) a) = Ma at p1 f1
    have b4 := p1.fs v6 (a := 4) (k := 5) (by decide)
    rw [xR_uR, if_neg (by omega)] at b4
    obtain ⟨p2, f2⟩ := p1.fld (a := 4) (k := 5) (x := bof (xR S 5 v) a) v6 (by decide) (by decide)
    generalize hMb : sI Ma (h + 17 + 2 * v) 4 (bof (xR S 5 v) a) = Mb at p2 f2
    have b5 := p2.fs v6 (a := 5) (k := 6) (by decide)
    rw [xR_uR, if_neg (by omega), xR_uR, if_neg (by omega)] at b5
    obtain ⟨p3, f3⟩ := p2.fld (a := 5) (k := 6) (x := bof (xR S 6 v) a) v6 (by decide) (by decide)
    generalize hMc : sI Mb (h + 17 + 2 * v) 5 (bof (xR S 6 v) a) = Mc at p3 f3
    generalize hS3 : uR (uR (uR S 4 v (bon (xR S 4 v) a)) 5 v (bof (xR S 5 v) a)) 6 v (bof (xR S 6 v) a) = S3 at p3
    have c3 := p3.fs v6 (a := 3) (k := 4) (by decide)
    have c2 := p3.fs v6 (a := 2) (k := 3) (by decide)
    have r4 : xR S3 4 v = bon (xR S 4 v) a := by
      rw [← hS3, xR_uR, if_neg (by omega), xR_uR, if_neg (by omega), xR_uR, if_pos ⟨rfl, rfl⟩]
    have r3 : xR S3 3 v = xR S 3 v := by
      rw [← hS3, xR_uR, if_neg (by omega), xR_uR, if_neg (by omega), xR_uR, if_neg (by omega)]
    have r0 : ∀ w, xR S3 0 w = xR S 0 w := fun w => by
      rw [← hS3, xR_uR, if_neg (by omega), xR_uR, if_neg (by omega), xR_uR, if_neg (by omega)]
    rw [r4] at c3
    rw [r3] at c2
    have hz : bon (xR S 4 v) a = xR S 3 v ↔ xR S 3 v &&& ((bon (xR S 4 v) a) ^^^ (-1 : Int32)) = 0 := by
      rw [bt_z]
      constructor
      · intro z i hi
        rw [bt_minus _ _ hi, z]
        cases bt (xR S 3 v) i <;> rfl
      · intro z
        apply b_ext
        intro i hi
        have zi := z i hi
        rw [bt_minus _ _ hi] at zi
        cases d : bt (xR S 3 v) i with
        | true =>
          rw [d] at zi
          simpa using zi
        | false =>
          rw [bt_on _ ha hi]
          have n4 : bt (xR S 4 v) i = false := by
            cases e : bt (xR S 4 v) i with
            | false => rfl
            | true => rw [kv i hi e] at d; exact absurd d (by decide)
          have na : i ≠ a := fun z => by rw [z, k3] at d; exact absurd d (by decide)
          simp [n4, na]
    have fr := (f1.tr f2).tr f3
    have head : ∀ y : Option Mem, (if bon (xR S 4 v) a = xR S 3 v then obd (f_X2_enter n h (nI v) Mc) fun M31 => some M31 else some Mc) = y → (bnd (sI M (h + 17 + 2 * v) 3 ((mI M (h + 17 + 2 * v) 3) ||| ((1 : Int32) <<< (nI a &&& 31)))) fun M13 => bnd (sI M13 (h + 17 + 2 * v) 4 ((mI M13 (h + 17 + 2 * v) 4) &&& (((1 : Int32) <<< (nI a &&& 31)) ^^^ (-1 : Int32)))) fun M18 => bnd (sI M18 (h + 17 + 2 * v) 5 ((mI M18 (h + 17 + 2 * v) 5) &&& (((1 : Int32) <<< (nI a &&& 31)) ^^^ (-1 : Int32)))) fun M23 => if (mI M23 (h + 17 + 2 * v) 3) = (mI M23 (h + 17 + 2 * v) 2) then (obd (f_X2_enter n h (nI v) M23) fun M31 => some M31) else some M23) = y := by
      intro y hy
      rw [b3, show (xR S 4 v ||| ((1 : Int32) <<< (nI a &&& 31))) = bon (xR S 4 v) a from rfl, hMa, bnd_e, b4, show (xR S 5 v &&& (((1 : Int32) <<< (nI a &&& 31)) ^^^ (-1 : Int32))) = bof (xR S 5 v) a from rfl, hMb, bnd_e, b5, show (xR S 6 v &&& (((1 : Int32) <<< (nI a &&& 31)) ^^^ (-1 : Int32))) = bof (xR S 6 v) a from rfl, hMc, bnd_e, c3, c2]
      exact hy
    unfold gr
    simp only []
    rw [hS3]
    by_cases d : bon (xR S 4 v) a = xR S 3 v
    · obtain ⟨M', e', p', f'⟩ := p3.en h16 v6 (by rw [r0]; exact c.1) (fun w h1 h2 => by rw [r0]; exact hI w h1 h2) hv hn
      rw [if_pos (hz.mp d)]
      exact ⟨M', head _ (by rw [if_pos d, e', obd_s]), p', fr.tr f'⟩
    · rw [if_neg (fun z => d (hz.mpr z))]
      exact ⟨Mc, head _ (by rw [if_neg d]), p3, fr⟩
  · rw [if_neg c, if_neg c, if_pos rfl]
    exact ⟨M, rfl, p, FrH.rf _ _⟩
