/-! ===== the class: a letter is put, taken ===== -/
section
variable {M : Mem} {h : Nat}
theorem cs_f {α : Type} (q : CS M h) (x : Option α) : chk (isO M 2 h) x = x := chk_t (q.io (i := 0) (by decide) (by decide) (by decide))
theorem cs_p {α : Type} (q : CS M h) (x : Option α) : chk (isO M 5 (h + 1)) x = x := chk_t (q.io (i := 1) (by decide) (by decide) (by decide))
theorem cs_a2 {α : Type} (q : CS M h) (x : Option α) : chk (isO M 100 (h + 2)) x = x := chk_t (q.io (i := 2) (by decide) (by decide) (by decide))
theorem cs_i2 {α : Type} (q : CS M h) {k : Nat} (hk : k < 256) (x : Option α) : chk (inB (nI k) (mLn M (h + 2))) x = x := by
  refine chk_t ?_
  rw [q.ln (i := 2) (c := 256) (by decide) (by decide) (by decide)]; exact inB_n hk (by decide)
theorem cs_r2 (q : CS M h) : mR M (h + 1) 0 = h + 2 := q.r (a := 1) (b := 0) (c := 2) (by decide)
theorem cs_a3 {α : Type} (q : CS M h) (x : Option α) : chk (isO M 100 (h + 3)) x = x := chk_t (q.io (i := 3) (by decide) (by decide) (by decide))
theorem cs_i3 {α : Type} (q : CS M h) {k : Nat} (hk : k < 256) (x : Option α) : chk (inB (nI k) (mLn M (h + 3))) x = x := by
  refine chk_t ?_
  rw [q.ln (i := 3) (c := 256) (by decide) (by decide) (by decide)]; exact inB_n hk (by decide)
theorem cs_r3 (q : CS M h) : mR M (h + 1) 1 = h + 3 := q.r (a := 1) (b := 1) (c := 3) (by decide)
theorem cs_a4 {α : Type} (q : CS M h) (x : Option α) : chk (isO M 100 (h + 4)) x = x := chk_t (q.io (i := 4) (by decide) (by decide) (by decide))
theorem cs_i4 {α : Type} (q : CS M h) {k : Nat} (hk : k < 256) (x : Option α) : chk (inB (nI k) (mLn M (h + 4))) x = x := by
  refine chk_t ?_
  rw [q.ln (i := 4) (c := 256) (by decide) (by decide) (by decide)]; exact inB_n hk (by decide)
theorem cs_r4 (q : CS M h) : mR M (h + 1) 2 = h + 4 := q.r (a := 1) (b := 2) (c := 4) (by decide)
theorem cs_a5 {α : Type} (q : CS M h) (x : Option α) : chk (isO M 100 (h + 5)) x = x := chk_t (q.io (i := 5) (by decide) (by decide) (by decide))
theorem cs_i5 {α : Type} (q : CS M h) {k : Nat} (hk : k < 16) (x : Option α) : chk (inB (nI k) (mLn M (h + 5))) x = x := by
  refine chk_t ?_
  rw [q.ln (i := 5) (c := 16) (by decide) (by decide) (by decide)]; exact inB_n hk (by decide)
theorem cs_r5 (q : CS M h) : mR M (h + 1) 3 = h + 5 := q.r (a := 1) (b := 3) (c := 5) (by decide)
theorem cs_a6 {α : Type} (q : CS M h) (x : Option α) : chk (isO M 100 (h + 6)) x = x := chk_t (q.io (i := 6) (by decide) (by decide) (by decide))
theorem cs_i6 {α : Type} (q : CS M h) {k : Nat} (hk : k < 6) (x : Option α) : chk (inB (nI k) (mLn M (h + 6))) x = x := by
  refine chk_t ?_
  rw [q.ln (i := 6) (c := 6) (by decide) (by decide) (by decide)]; exact inB_n hk (by decide)
theorem cs_r6 (q : CS M h) : mR M (h + 1) 4 = h + 6 := q.r (a := 1) (b := 4) (c := 6) (by decide)
theorem cs_h1 (q : CS M h) : mR M h 1 = h + 1 := q.r (a := 0) (b := 1) (c := 1) (by decide)
theorem cs_h0 (q : CS M h) : mR M h 0 = 1 := q.2.2.1
theorem cs_s {α : Type} (q : CS M h) (x : Option α) : chk (isO M 7 1) x = x := chk_t q.2.2.2.1
end
theorem CS.sI {M : Mem} {h o k : Nat} {x : Int32} (q : CS M h) : CS (sI M o k x) h := q.e rfl
theorem c16' (f g : Nat) : (nI f * (16 : Int32)) + nI g = nI (16 * f + g) := by rw [show (16 : Int32) = nI 16 from rfl, pk_mul, nI_add, Nat.mul_comm]
/-- the last of what a put does -/
def put5 (M : Mem) (h l c f g k : Nat) (m tot : Nat) : Mem := sI (sI (sI (sI (sI M (h + 3) l (nI c)) (h + 4) l (nI (m + 1))) (h + 5) f (bon (mI M (h + 5) f) g)) (h + 6) k (mI M (h + 6) k + 1)) (h + 1) 10 (nI (tot + 1))
theorem f205 {M : Mem} {h : Nat} (q : CS M h) {l c f g k m tot : Nat} (hl : l < 256) (hc : c < 100000) (hf : f < 16) (hg : g < 16) (hk : k < 6) (hm : mI M (h + 4) l = nI m) (ht : mI M (h + 1) 10 = nI tot) : f_X5_put_205 (h + 1) (nI k) (nI f) (nI g) (nI c) (nI l) M = some (put5 M h l c f g k m tot) := by
  generalize hMa : sI M (h + 3) l (nI c) = Ma
  generalize hMb : sI Ma (h + 4) l (nI (m + 1)) = Mb
  generalize hMc : sI Mb (h + 5) f (bon (mI M (h + 5) f) g) = Mc
  generalize hMd : sI Mc (h + 6) k (mI M (h + 6) k + 1) = Md
  have qa : CS Ma h := by rw [← hMa]; exact q.sI
  have qb : CS Mb h := by rw [← hMb]; exact qa.sI
  have qc : CS Mc h := by rw [← hMc]; exact qb.sI
  have qd : CS Md h := by rw [← hMd]; exact qc.sI
  have e1 : mI Ma (h + 4) l = nI m := by rw [← hMa, mI_o _ _ _ _ _ (by omega)]; exact hm
  have e2 : mI Mb (h + 5) f = mI M (h + 5) f := by rw [← hMb, mI_o _ _ _ _ _ (by omega), ← hMa, mI_o _ _ _ _ _ (by omega)]
  have e3 : mI Mc (h + 6) k = mI M (h + 6) k := by rw [← hMc, mI_o _ _ _ _ _ (by omega), ← hMb, mI_o _ _ _ _ _ (by omega), ← hMa, mI_o _ _ _ _ _ (by omega)]
  have e4 : mI Md (h + 1) 10 = nI tot := by rw [← hMd, mI_o _ _ _ _ _ (by omega), ← hMc, mI_o _ _ _ _ _ (by omega), ← hMb, mI_o _ _ _ _ _ (by omega), ← hMa, mI_o _ _ _ _ _ (by omega)]; exact ht
  have e5 : put5 M h l c f g k m tot = sI Md (h + 1) 10 (nI (tot + 1)) := by unfold put5; rw [hMa, hMb, hMc, hMd]
  rw [e5, f_X5_put_205, cs_p q, cs_r3 q, bnd_e, cs_a3 q, cs_i3 q hl, bnd_e, sI_c (by omega), hMa, cs_r4 qa, bnd_e, cs_a4 qa, cs_i4 qa hl, cs_i4 qa hl, bnd_e, mI_c (by omega), e1, nI_1, sI_c (by omega), hMb, cs_r5 qb, bnd_e, cs_a5 qb, cs_i5 qb hf, cs_i5 qb hf, bnd_e, mI_c (by omega), e2, sI_c (by omega)]
  rw [show (mI M (h + 5) f ||| ((1 : Int32) <<< (nI g &&& 31))) = bon (mI M (h + 5) f) g from rfl, hMc, cs_r6 qc, bnd_e, cs_a6 qc, cs_i6 qc hk, cs_i6 qc hk, bnd_e, mI_c (by omega), e3, sI_c (by omega), hMd, e4, nI_1, bnd_e]
