/-! ===== rows over the memory ===== -/
theorem uin0 : ∀ w ∈ u_ws RX0 TX0 4, w ∈ lw_g := fun w hw => List.mem_filter.mpr ⟨(goodIn_r (big := lw_tbl) (u_ws RX0 TX0 4) [507, 509, 511, 513] (by decide +kernel) (by decide +kernel) w hw).1, List.all_eq_true.mp (by decide +kernel : (u_ws RX0 TX0 4).all goodWord = true) w hw⟩
theorem uin1 : ∀ w ∈ u_ws RX1 TX1 3, w ∈ lw_g := fun w hw => List.mem_filter.mpr ⟨(goodIn_r (big := lw_tbl) (u_ws RX1 TX1 3) [200, 202, 204] (by decide +kernel) (by decide +kernel) w hw).1, List.all_eq_true.mp (by decide +kernel : (u_ws RX1 TX1 3).all goodWord = true) w hw⟩
theorem uin2 : ∀ w ∈ u_ws RX2 TX2 17, w ∈ lw_g := fun w hw => List.mem_filter.mpr ⟨(goodIn_r (big := lw_tbl) (u_ws RX2 TX2 17) [458, 460, 462, 464, 466, 468, 470, 472, 474, 476, 478, 480, 482, 484, 486, 488, 490] (by decide +kernel) (by decide +kernel) w hw).1, List.all_eq_true.mp (by decide +kernel : (u_ws RX2 TX2 17).all goodWord = true) w hw⟩
theorem uin3 : ∀ w ∈ u_ws RX3 TX3 4, w ∈ lw_g := fun w hw => List.mem_filter.mpr ⟨(goodIn_r (big := lw_tbl) (u_ws RX3 TX3 4) [311, 313, 315, 317] (by decide +kernel) (by decide +kernel) w hw).1, List.all_eq_true.mp (by decide +kernel : (u_ws RX3 TX3 4).all goodWord = true) w hw⟩
theorem uin4 : ∀ w ∈ u_ws RX4 TX4 16, w ∈ lw_g := fun w hw => List.mem_filter.mpr ⟨(goodIn_r (big := lw_tbl) (u_ws RX4 TX4 16) [383, 385, 387, 389, 391, 393, 395, 397, 399, 401, 403, 405, 407, 409, 411, 413] (by decide +kernel) (by decide +kernel) w hw).1, List.all_eq_true.mp (by decide +kernel : (u_ws RX4 TX4 16).all goodWord = true) w hw⟩
theorem uin5 : ∀ w ∈ u_ws RX5 TX5 12, w ∈ lw_g := fun w hw => List.mem_filter.mpr ⟨(goodIn_r (big := lw_tbl) (u_ws RX5 TX5 12) [274, 276, 278, 280, 282, 284, 286, 288, 290, 292, 294, 296] (by decide +kernel) (by decide +kernel) w hw).1, List.all_eq_true.mp (by decide +kernel : (u_ws RX5 TX5 12).all goodWord = true) w hw⟩
theorem uin6 : ∀ w ∈ u_ws RX6 TX6 16, w ∈ lw_g := fun w hw => List.mem_filter.mpr ⟨(goodIn_r (big := lw_tbl) (u_ws RX6 TX6 16) [538, 540, 542, 544, 546, 548, 550, 552, 554, 556, 558, 560, 562, 564, 566, 568] (by decide +kernel) (by decide +kernel) w hw).1, List.all_eq_true.mp (by decide +kernel : (u_ws RX6 TX6 16).all goodWord = true) w hw⟩
theorem uin7 : ∀ w ∈ u_ws RX7 TX7 5, w ∈ lw_g := fun w hw => List.mem_filter.mpr ⟨(goodIn_r (big := lw_tbl) (u_ws RX7 TX7 5) [173, 175, 177, 179, 181] (by decide +kernel) (by decide +kernel) w hw).1, List.all_eq_true.mp (by decide +kernel : (u_ws RX7 TX7 5).all goodWord = true) w hw⟩
theorem uin8 : ∀ w ∈ u_ws RX8 TX8 8, w ∈ lw_g := fun w hw => List.mem_filter.mpr ⟨(goodIn_r (big := lw_tbl) (u_ws RX8 TX8 8) [219, 221, 223, 225, 227, 229, 231, 233] (by decide +kernel) (by decide +kernel) w hw).1, List.all_eq_true.mp (by decide +kernel : (u_ws RX8 TX8 8).all goodWord = true) w hw⟩
theorem uin9 : ∀ w ∈ u_ws RX9 TX9 6, w ∈ lw_g := fun w hw => List.mem_filter.mpr ⟨(goodIn_r (big := lw_tbl) (u_ws RX9 TX9 6) [633, 635, 637, 639, 641, 643] (by decide +kernel) (by decide +kernel) w hw).1, List.all_eq_true.mp (by decide +kernel : (u_ws RX9 TX9 6).all goodWord = true) w hw⟩
theorem uin10 : ∀ w ∈ u_ws RX10 TX10 25, w ∈ lw_g := fun w hw => List.mem_filter.mpr ⟨(goodIn_r (big := lw_tbl) (u_ws RX10 TX10 25) [1465, 1467, 1469, 1471, 1473, 1475, 1477, 1479, 1481, 1483, 1485, 1487, 1489, 1491, 1493, 1495, 1497, 1499, 1501, 1503, 1505, 1507, 1509, 1511, 1513] (by decide +kernel) (by decide +kernel) w hw).1, List.all_eq_true.mp (by decide +kernel : (u_ws RX10 TX10 25).all goodWord = true) w hw⟩
theorem uin {c : Nat} {C : String} {T : u_T} {N : Nat} (h : kcl[c]? = some (C, T, N)) : ∀ w ∈ u_ws C T N, w ∈ lw_g := by
  match c with
  | 0 => cases h; exact uin0
  | 1 => cases h; exact uin1
  | 2 => cases h; exact uin2
  | 3 => cases h; exact uin3
  | 4 => cases h; exact uin4
  | 5 => cases h; exact uin5
  | 6 => cases h; exact uin6
  | 7 => cases h; exact uin7
  | 8 => cases h; exact uin8
  | 9 => cases h; exact uin9
  | 10 => cases h; exact uin10
  | n + 11 => simp [kcl] at h
theorem fval_I {B : Nat} {M : Mem} {c o k : Nat} {x : Int32} {j : Nat} (h : j ≠ k) : fval B (sI M o k x) c o j = fval B M c o j := by
  have e : mI (sI M o k x) o j = mI M o j := by simp [mI, sI, up2, h]
  simp only [fval, e]
  rfl
theorem fval_L {B : Nat} {M : Mem} {c o k : Nat} {x : Int64} {j : Nat} (h : j ≠ k) : fval B (sL M o k x) c o j = fval B M c o j := by
  have e : mL (sL M o k x) o j = mL M o j := by simp [mL, sL, up2, h]
  simp only [fval, e]
  rfl
theorem fval_R {B : Nat} {M : Mem} {c o k r : Nat} {j : Nat} (h : j ≠ k) : fval B (sR M o k r) c o j = fval B M c o j := by
  have e : mR (sR M o k r) o j = mR M o j := by simp [mR, sR, up2, h]
  simp only [fval, e]
  rfl
theorem fl_set {f g : Nat → Value} {N k : Nat} {v : Value} (h : ∀ j, j ≠ k → f j = g j) (hk : f k = v) : (List.range N).map f = ((List.range N).map g).set k v := by
  apply List.ext_getElem?
  intro j
  by_cases hj : j < N
  · by_cases e : j = k
    · subst e
      rw [List.getElem?_set_self (by simpa using hj)]
      simp [hj, hk]
    · rw [List.getElem?_set_ne (Ne.symm e)]
      simp [hj, h j e]
  · have h1 : ((List.range N).map f)[j]? = none := by simp; omega
    have h2 : (((List.range N).map g).set k v)[j]? = none := by simp; omega
    rw [h1, h2]
theorem ren_pI {G : Gam} {M : Mem} {o k c : Nat} {x : Int32} (ho : isO M c o) (hc : c < 11) (hf : ∀ B M o, fval B M c o k = .int (mI M o k)) : ren G (sI M o k x) = (ren G M).set o (gB G + o, .inr (c, ((List.range (fN c)).map (fval (gB G) M c o)).set k (.int x))) := by
  refine ren_set rfl ho.1 (fun i h => ren_sI h) ?_
  have h1 : mC (sI M o k x) o = c := ho.2
  rw [ent_O h1 hc]
  congr 2
  exact fl_set (fun j hj => fval_I hj) (by rw [hf]; simp [mI, sI, up2])
theorem ren_pL {G : Gam} {M : Mem} {o k c : Nat} {x : Int64} (ho : isO M c o) (hc : c < 11) (hf : ∀ B M o, fval B M c o k = .long (mL M o k)) : ren G (sL M o k x) = (ren G M).set o (gB G + o, .inr (c, ((List.range (fN c)).map (fval (gB G) M c o)).set k (.long x))) := by
  refine ren_set rfl ho.1 (fun i h => ren_sL h) ?_
  have h1 : mC (sL M o k x) o = c := ho.2
  rw [ent_O h1 hc]
  congr 2
  exact fl_set (fun j hj => fval_L hj) (by rw [hf]; simp [mL, sL, up2])
theorem ren_pR {G : Gam} {M : Mem} {o k c r : Nat} (ho : isO M c o) (hc : c < 11) (hr : r ≠ NUL) (hf : ∀ B M o, fval B M c o k = va_rf (rO B (mR M o k))) : ren G (sR M o k r) = (ren G M).set o (gB G + o, .inr (c, ((List.range (fN c)).map (fval (gB G) M c o)).set k (.ref (gB G + r)))) := by
  refine ren_set rfl ho.1 (fun i h => ren_sR h) ?_
  have h1 : mC (sR M o k r) o = c := ho.2
  rw [ent_O h1 hc]
  congr 2
  exact fl_set (fun j hj => fval_R hj) (by rw [hf]; simp [mR, sR, up2, rO, hr, va_rf])
theorem ren_aI {G : Gam} {M : Mem} {o k : Nat} {x : Int32} (ho : isO M 100 o) : ren G (sI M o k x) = (ren G M).set o (gB G + o, .inl (gI G, mLn M o, .inl (upd (mI M o) k x))) := by
  refine ren_set rfl ho.1 (fun i h => ren_sI h) ?_
  have h1 : mC (sI M o k x) o = 100 := ho.2
  rw [ent_I h1]
  have e : mI (sI M o k x) o = upd (mI M o) k x := funext fun j => by simp [mI, sI, up2, upd]
  rw [e]
  rfl
theorem ren_aL {G : Gam} {M : Mem} {o k : Nat} {x : Int64} (ho : isO M 101 o) : ren G (sL M o k x) = (ren G M).set o (gB G + o, .inl (gJ G, mLn M o, .inr (.inl (vp_updL (mL M o) k x)))) := by
  refine ren_set rfl ho.1 (fun i h => ren_sL h) ?_
  have h1 : mC (sL M o k x) o = 101 := ho.2
  rw [ent_J h1]
  have e : mL (sL M o k x) o = vp_updL (mL M o) k x := funext fun j => by simp [mL, sL, up2, vp_updL]
  rw [e]
  rfl
theorem ren_aR {G : Gam} {M : Mem} {o k r : Nat} (ho : isO M 102 o) (hr : r ≠ NUL) : ren G (sR M o k r) = (ren G M).set o (gB G + o, .inl (gP G, mLn M o, .inr (.inr (.inr (.inr (va_up (fun j => rO (gB G) (mR M o j)) k (some (gB G + r)))))))) := by
  refine ren_set rfl ho.1 (fun i h => ren_sR h) ?_
  have h1 : mC (sR M o k r) o = 102 := ho.2
  rw [ent_P h1]
  have e : (fun j => rO (gB G) (mR (sR M o k r) o j)) = va_up (fun j => rO (gB G) (mR M o j)) k (some (gB G + r)) := funext fun j => by
    by_cases h : j = k
    · simp [mR, sR, up2, va_up, h, rO, hr]
    · simp [mR, sR, up2, va_up, h]
  rw [e]
  rfl
def cpI (M : Mem) (a sp b dp n : Nat) : Mem := (M.1, (fun o j => if o = b then va_cpy (M.2.1 a) (M.2.1 b) sp dp n j else M.2.1 o j), M.2.2)
theorem ren_cp {G : Gam} {M : Mem} {a sp b dp n : Nat} (ho : isO M 100 b) : ren G (cpI M a sp b dp n) = (ren G M).set b (gB G + b, .inl (gI G, mLn M b, .inl (va_cpy (mI M a) (mI M b) sp dp n))) := by
  refine ren_set rfl ho.1 (fun i h => ent_c rfl (fun _ => rfl) (fun j => by simp [cpI, h]) (fun _ => rfl)) ?_
  have h1 : mC (cpI M a sp b dp n) b = 100 := ho.2
  rw [ent_I h1]
  have e : mI (cpI M a sp b dp n) b = va_cpy (mI M a) (mI M b) sp dp n := funext fun j => by simp [mI, cpI]; rfl
  rw [e]
  rfl
theorem okM_nn {M0 M : Mem} {r c : Nat} (hk : okM M0 M) (h : isO M c r) : r ≠ NUL := by
  have h1 := hk.2.2.1
  have h2 := h.1
  simp only [CAP, NUL] at *
  omega
section
variable {p : Program} {l : Launch} {e : Env} {R : Room} {s : State} {m : MethodId} {args : Array Value} {below : List Frame} {meth : Method} {c : Code} {Q : State → Prop}
variable {G : Gam} {M0 M : Mem} {cc : ByteArray} {own : String} {nL fr lo pc : Nat} {vs : List (Nat × Value)} {st : List Value}
theorem kcl_lt {ci : Nat} {q : vw_C} (h : kcl[ci]? = some q) : ci < 11 := (List.getElem?_eq_some_iff.mp h).1
theorem fs_at {G : Gam} {M : Mem} {c o k : Nat} (hk : k < fN c) : ((List.range (fN c)).map (fval (gB G) M c o))[k]? = some (fval (gB G) M c o k) := by simp [hk]
theorem ren_O {G : Gam} {M : Mem} {c o : Nat} (ho : isO M c o) (hc : c < 11) : (ren G M)[o]? = some (gB G + o, .inr (c, (List.range (fN c)).map (fval (gB G) M c o))) := by rw [ren_at ho.1, ent_O ho.2 hc]
theorem s_getI (X : Cx p R s m args c G M0 cc own nL fr lo) {o k ci ix : Nat} {C : String} {T : u_T} {N : Nat} (hc : kcl[ci]? = some (C, T, N)) (hk : k < N) (ho : isO M ci o) (hw : Cond.fieldLink own ix (T k).1 (T k).2.1 (T k).2.2.1 ∈ lw_g) (hf : ∀ B M o, fval B M ci o k = .int (mI M o k))  (hd : decode cc pc = .ok (.getfield ix, 3)) (k2 : Sg p l e R s m args below meth c Q G M0 nL (pc + 3) vs (.int (mI M o k) :: st) M) : Sg p l e R s m args below meth c Q G M0 nL pc vs (.ref (gB G + o) :: st) M :=
  fun hk0 H locs ls hl hP hS => va_get X.1 X.2.1 X.2.2.2.1 (uin hc) X.2.2.1 X.2.2.2.2.1 hP o (ren_O ho (kcl_lt hc)) hc k hk (X.2.2.2.1 _ hw) (fun _ h => h) (v := .int (mI M o k)) (by rw [fs_at ((kcl_N hc).1 ▸ hk), hf]) hd (k2 hk0 H locs ls hl hP hS)
theorem s_getL (X : Cx p R s m args c G M0 cc own nL fr lo) {o k ci ix : Nat} {C : String} {T : u_T} {N : Nat} (hc : kcl[ci]? = some (C, T, N)) (hk : k < N) (ho : isO M ci o) (hw : Cond.fieldLink own ix (T k).1 (T k).2.1 (T k).2.2.1 ∈ lw_g) (hf : ∀ B M o, fval B M ci o k = .long (mL M o k))  (hd : decode cc pc = .ok (.getfield ix, 3)) (k2 : Sg p l e R s m args below meth c Q G M0 nL (pc + 3) vs (.long (mL M o k) :: st) M) : Sg p l e R s m args below meth c Q G M0 nL pc vs (.ref (gB G + o) :: st) M :=
  fun hk0 H locs ls hl hP hS => va_get X.1 X.2.1 X.2.2.2.1 (uin hc) X.2.2.1 X.2.2.2.2.1 hP o (ren_O ho (kcl_lt hc)) hc k hk (X.2.2.2.1 _ hw) (fun _ h => h) (v := .long (mL M o k)) (by rw [fs_at ((kcl_N hc).1 ▸ hk), hf]) hd (k2 hk0 H locs ls hl hP hS)
theorem s_getR (X : Cx p R s m args c G M0 cc own nL fr lo) {o k ci ix : Nat} {C : String} {T : u_T} {N : Nat} (hc : kcl[ci]? = some (C, T, N)) (hk : k < N) (ho : isO M ci o) (hw : Cond.fieldLink own ix (T k).1 (T k).2.1 (T k).2.2.1 ∈ lw_g) (hf : ∀ B M o, fval B M ci o k = va_rf (rO B (mR M o k))) {ct : Nat} (hr : isO M ct (mR M o k)) (hd : decode cc pc = .ok (.getfield ix, 3)) (k2 : Sg p l e R s m args below meth c Q G M0 nL (pc + 3) vs (.ref (gB G + mR M o k) :: st) M) : Sg p l e R s m args below meth c Q G M0 nL pc vs (.ref (gB G + o) :: st) M :=
  fun hk0 H locs ls hl hP hS => va_get X.1 X.2.1 X.2.2.2.1 (uin hc) X.2.2.1 X.2.2.2.2.1 hP o (ren_O ho (kcl_lt hc)) hc k hk (X.2.2.2.1 _ hw) (fun _ h => h) (v := .ref (gB G + mR M o k)) (by rw [fs_at ((kcl_N hc).1 ▸ hk), hf]; simp [rO, okM_nn hk0 hr, va_rf]) hd (k2 hk0 H locs ls hl hP hS)
theorem s_putI (X : Cx p R s m args c G M0 cc own nL fr lo) {M1 : Mem} {o k ci ix : Nat} {C : String} {T : u_T} {N : Nat} (hc : kcl[ci]? = some (C, T, N)) (hk : k < N) (ho : isO M ci o) (hw : Cond.fieldLink own ix (T k).1 (T k).2.1 (T k).2.2.1 ∈ lw_g) (hf : ∀ B M o, fval B M ci o k = .int (mI M o k)) {x : Int32} (ht : ftyp ci k = .int) (hfin : (T k).2.2.2 = false) (hM : M1 = sI M o k x) (hd : decode cc pc = .ok (.putfield ix, 3)) (k2 : Sg p l e R s m args below meth c Q G M0 nL (pc + 3) vs st M1) : Sg p l e R s m args below meth c Q G M0 nL pc vs (.int x :: .ref (gB G + o) :: st) M := by
  subst hM
  exact fun hk0 H locs ls hl hP hS => va_put X.1 X.2.1 X.2.2.2.1 (uin hc) (ftyp ci) (kcl_N hc).2.1 (kcl_N hc).2.2 X.2.2.1 X.2.2.2.2.1 hP (ren_D G M) hS o (ren_O ho (kcl_lt hc)) hc k hk (X.2.2.2.1 _ hw) (fun _ h => h) hfin (ty := .int) (by rw [(kcl_N hc).2.1 k hk, ht]) rfl rfl (by simp; exact (kcl_N hc).1 ▸ hk) hd (fun H1 locs1 hP1 _ hS1 => k2 hk0 H1 locs1 ls hl (by rw [ren_pI ho (kcl_lt hc) hf]; exact hP1) hS1)
theorem s_putIF (X : Cx p R s m args c G M0 cc own nL fr lo) {M1 : Mem} {o k ci ix : Nat} {C : String} {T : u_T} {N : Nat} (hc : kcl[ci]? = some (C, T, N)) (hk : k < N) (ho : isO M ci o) (hw : Cond.fieldLink own ix (T k).1 (T k).2.1 (T k).2.2.1 ∈ lw_g) (hf : ∀ B M o, fval B M ci o k = .int (mI M o k)) {x : Int32} (ht : ftyp ci k = .int) (hfin : (T k).2.2.2 = true) (hin2 : meth.name = "<init>") (hdecl : (T k).1 = own) (hM : M1 = sI M o k x) (hd : decode cc pc = .ok (.putfield ix, 3)) (k2 : Sg p l e R s m args below meth c Q G M0 nL (pc + 3) vs st M1) : Sg p l e R s m args below meth c Q G M0 nL pc vs (.int x :: .ref (gB G + o) :: st) M := by
  subst hM
  exact fun hk0 H locs ls hl hP hS => va_putF X.1 X.2.1 X.2.2.2.1 (uin hc) (ftyp ci) (kcl_N hc).2.1 (kcl_N hc).2.2 X.2.2.1 X.2.2.2.2.1 hP (ren_D G M) hS o (ren_O ho (kcl_lt hc)) hc k hk (X.2.2.2.1 _ hw) (fun _ h => h) hfin hin2 hdecl (ty := .int) (by rw [(kcl_N hc).2.1 k hk, ht]) rfl rfl (by simp; exact (kcl_N hc).1 ▸ hk) hd (fun H1 locs1 hP1 _ hS1 => k2 hk0 H1 locs1 ls hl (by rw [ren_pI ho (kcl_lt hc) hf]; exact hP1) hS1)
theorem s_putZ (X : Cx p R s m args c G M0 cc own nL fr lo) {M1 : Mem} {o k ci ix : Nat} {C : String} {T : u_T} {N : Nat} (hc : kcl[ci]? = some (C, T, N)) (hk : k < N) (ho : isO M ci o) (hw : Cond.fieldLink own ix (T k).1 (T k).2.1 (T k).2.2.1 ∈ lw_g) (hf : ∀ B M o, fval B M ci o k = .int (mI M o k)) {x : Int32} (ht : ftyp ci k = .boolean) (hb : narrow .boolean (.int x) = .int x) (hft : fits .boolean (.int x) = true) (hfin : (T k).2.2.2 = false) (hM : M1 = sI M o k x) (hd : decode cc pc = .ok (.putfield ix, 3)) (k2 : Sg p l e R s m args below meth c Q G M0 nL (pc + 3) vs st M1) : Sg p l e R s m args below meth c Q G M0 nL pc vs (.int x :: .ref (gB G + o) :: st) M := by
  subst hM
  exact fun hk0 H locs ls hl hP hS => va_put X.1 X.2.1 X.2.2.2.1 (uin hc) (ftyp ci) (kcl_N hc).2.1 (kcl_N hc).2.2 X.2.2.1 X.2.2.2.2.1 hP (ren_D G M) hS o (ren_O ho (kcl_lt hc)) hc k hk (X.2.2.2.1 _ hw) (fun _ h => h) hfin (ty := .boolean) (by rw [(kcl_N hc).2.1 k hk, ht]) hb hft (by simp; exact (kcl_N hc).1 ▸ hk) hd (fun H1 locs1 hP1 _ hS1 => k2 hk0 H1 locs1 ls hl (by rw [ren_pI ho (kcl_lt hc) hf]; exact hP1) hS1)
theorem s_putZF (X : Cx p R s m args c G M0 cc own nL fr lo) {M1 : Mem} {o k ci ix : Nat} {C : String} {T : u_T} {N : Nat} (hc : kcl[ci]? = some (C, T, N)) (hk : k < N) (ho : isO M ci o) (hw : Cond.fieldLink own ix (T k).1 (T k).2.1 (T k).2.2.1 ∈ lw_g) (hf : ∀ B M o, fval B M ci o k = .int (mI M o k)) {x : Int32} (ht : ftyp ci k = .boolean) (hb : narrow .boolean (.int x) = .int x) (hft : fits .boolean (.int x) = true) (hfin : (T k).2.2.2 = true) (hin2 : meth.name = "<init>") (hdecl : (T k).1 = own) (hM : M1 = sI M o k x) (hd : decode cc pc = .ok (.putfield ix, 3)) (k2 : Sg p l e R s m args below meth c Q G M0 nL (pc + 3) vs st M1) : Sg p l e R s m args below meth c Q G M0 nL pc vs (.int x :: .ref (gB G + o) :: st) M := by
  subst hM
  exact fun hk0 H locs ls hl hP hS => va_putF X.1 X.2.1 X.2.2.2.1 (uin hc) (ftyp ci) (kcl_N hc).2.1 (kcl_N hc).2.2 X.2.2.1 X.2.2.2.2.1 hP (ren_D G M) hS o (ren_O ho (kcl_lt hc)) hc k hk (X.2.2.2.1 _ hw) (fun _ h => h) hfin hin2 hdecl (ty := .boolean) (by rw [(kcl_N hc).2.1 k hk, ht]) hb hft (by simp; exact (kcl_N hc).1 ▸ hk) hd (fun H1 locs1 hP1 _ hS1 => k2 hk0 H1 locs1 ls hl (by rw [ren_pI ho (kcl_lt hc) hf]; exact hP1) hS1)
theorem s_putL (X : Cx p R s m args c G M0 cc own nL fr lo) {M1 : Mem} {o k ci ix : Nat} {C : String} {T : u_T} {N : Nat} (hc : kcl[ci]? = some (C, T, N)) (hk : k < N) (ho : isO M ci o) (hw : Cond.fieldLink own ix (T k).1 (T k).2.1 (T k).2.2.1 ∈ lw_g) (hf : ∀ B M o, fval B M ci o k = .long (mL M o k)) {x : Int64} (ht : ftyp ci k = .long) (hfin : (T k).2.2.2 = false) (hM : M1 = sL M o k x) (hd : decode cc pc = .ok (.putfield ix, 3)) (k2 : Sg p l e R s m args below meth c Q G M0 nL (pc + 3) vs st M1) : Sg p l e R s m args below meth c Q G M0 nL pc vs (.long x :: .ref (gB G + o) :: st) M := by
  subst hM
  exact fun hk0 H locs ls hl hP hS => va_put X.1 X.2.1 X.2.2.2.1 (uin hc) (ftyp ci) (kcl_N hc).2.1 (kcl_N hc).2.2 X.2.2.1 X.2.2.2.2.1 hP (ren_D G M) hS o (ren_O ho (kcl_lt hc)) hc k hk (X.2.2.2.1 _ hw) (fun _ h => h) hfin (ty := .long) (by rw [(kcl_N hc).2.1 k hk, ht]) rfl rfl (by simp; exact (kcl_N hc).1 ▸ hk) hd (fun H1 locs1 hP1 _ hS1 => k2 hk0 H1 locs1 ls hl (by rw [ren_pL ho (kcl_lt hc) hf]; exact hP1) hS1)
theorem s_putLF (X : Cx p R s m args c G M0 cc own nL fr lo) {M1 : Mem} {o k ci ix : Nat} {C : String} {T : u_T} {N : Nat} (hc : kcl[ci]? = some (C, T, N)) (hk : k < N) (ho : isO M ci o) (hw : Cond.fieldLink own ix (T k).1 (T k).2.1 (T k).2.2.1 ∈ lw_g) (hf : ∀ B M o, fval B M ci o k = .long (mL M o k)) {x : Int64} (ht : ftyp ci k = .long) (hfin : (T k).2.2.2 = true) (hin2 : meth.name = "<init>") (hdecl : (T k).1 = own) (hM : M1 = sL M o k x) (hd : decode cc pc = .ok (.putfield ix, 3)) (k2 : Sg p l e R s m args below meth c Q G M0 nL (pc + 3) vs st M1) : Sg p l e R s m args below meth c Q G M0 nL pc vs (.long x :: .ref (gB G + o) :: st) M := by
  subst hM
  exact fun hk0 H locs ls hl hP hS => va_putF X.1 X.2.1 X.2.2.2.1 (uin hc) (ftyp ci) (kcl_N hc).2.1 (kcl_N hc).2.2 X.2.2.1 X.2.2.2.2.1 hP (ren_D G M) hS o (ren_O ho (kcl_lt hc)) hc k hk (X.2.2.2.1 _ hw) (fun _ h => h) hfin hin2 hdecl (ty := .long) (by rw [(kcl_N hc).2.1 k hk, ht]) rfl rfl (by simp; exact (kcl_N hc).1 ▸ hk) hd (fun H1 locs1 hP1 _ hS1 => k2 hk0 H1 locs1 ls hl (by rw [ren_pL ho (kcl_lt hc) hf]; exact hP1) hS1)
theorem s_putR (X : Cx p R s m args c G M0 cc own nL fr lo) {M1 : Mem} {o k ci ix : Nat} {C : String} {T : u_T} {N : Nat} (hc : kcl[ci]? = some (C, T, N)) (hk : k < N) (ho : isO M ci o) (hw : Cond.fieldLink own ix (T k).1 (T k).2.1 (T k).2.2.1 ∈ lw_g) (hf : ∀ B M o, fval B M ci o k = va_rf (rO B (mR M o k))) {r ct : Nat} (hr : isO M ct r) (ht : ∀ a : Nat, narrow (ftyp ci k) (.ref a) = .ref a ∧ fits (ftyp ci k) (.ref a) = true) (hfin : (T k).2.2.2 = false) (hM : M1 = sR M o k r) (hd : decode cc pc = .ok (.putfield ix, 3)) (k2 : Sg p l e R s m args below meth c Q G M0 nL (pc + 3) vs st M1) : Sg p l e R s m args below meth c Q G M0 nL pc vs (.ref (gB G + r) :: .ref (gB G + o) :: st) M := by
  subst hM
  exact fun hk0 H locs ls hl hP hS => va_put X.1 X.2.1 X.2.2.2.1 (uin hc) (ftyp ci) (kcl_N hc).2.1 (kcl_N hc).2.2 X.2.2.1 X.2.2.2.2.1 hP (ren_D G M) hS o (ren_O ho (kcl_lt hc)) hc k hk (X.2.2.2.1 _ hw) (fun _ h => h) hfin (ty := (ftyp ci k)) ((kcl_N hc).2.1 k hk) (ht _).1 (ht _).2 (by simp; exact (kcl_N hc).1 ▸ hk) hd (fun H1 locs1 hP1 _ hS1 => k2 hk0 H1 locs1 ls hl (by rw [ren_pR ho (kcl_lt hc) (okM_nn hk0 hr) hf]; exact hP1) hS1)
theorem s_putRF (X : Cx p R s m args c G M0 cc own nL fr lo) {M1 : Mem} {o k ci ix : Nat} {C : String} {T : u_T} {N : Nat} (hc : kcl[ci]? = some (C, T, N)) (hk : k < N) (ho : isO M ci o) (hw : Cond.fieldLink own ix (T k).1 (T k).2.1 (T k).2.2.1 ∈ lw_g) (hf : ∀ B M o, fval B M ci o k = va_rf (rO B (mR M o k))) {r ct : Nat} (hr : isO M ct r) (ht : ∀ a : Nat, narrow (ftyp ci k) (.ref a) = .ref a ∧ fits (ftyp ci k) (.ref a) = true) (hfin : (T k).2.2.2 = true) (hin2 : meth.name = "<init>") (hdecl : (T k).1 = own) (hM : M1 = sR M o k r) (hd : decode cc pc = .ok (.putfield ix, 3)) (k2 : Sg p l e R s m args below meth c Q G M0 nL (pc + 3) vs st M1) : Sg p l e R s m args below meth c Q G M0 nL pc vs (.ref (gB G + r) :: .ref (gB G + o) :: st) M := by
  subst hM
  exact fun hk0 H locs ls hl hP hS => va_putF X.1 X.2.1 X.2.2.2.1 (uin hc) (ftyp ci) (kcl_N hc).2.1 (kcl_N hc).2.2 X.2.2.1 X.2.2.2.2.1 hP (ren_D G M) hS o (ren_O ho (kcl_lt hc)) hc k hk (X.2.2.2.1 _ hw) (fun _ h => h) hfin hin2 hdecl (ty := (ftyp ci k)) ((kcl_N hc).2.1 k hk) (ht _).1 (ht _).2 (by simp; exact (kcl_N hc).1 ▸ hk) hd (fun H1 locs1 hP1 _ hS1 => k2 hk0 H1 locs1 ls hl (by rw [ren_pR ho (kcl_lt hc) (okM_nn hk0 hr) hf]; exact hP1) hS1)
theorem s_iald (X : Cx p R s m args c G M0 cc own nL fr lo) {o : Nat} {i : Int32} (ho : isO M 100 o) (hi : vp_in i (mLn M o)) (hd : decode cc pc = .ok (.iaload, 1)) (k2 : Sg p l e R s m args below meth c Q G M0 nL (pc + 1) vs (.int (mI M o i.toNatClampNeg) :: st) M) : Sg p l e R s m args below meth c Q G M0 nL pc vs (.int i :: .ref (gB G + o) :: st) M :=
  fun hk0 H locs ls hl hP hS => va_iald X.1 X.2.1 X.2.2.2.2.1 hP o 0 (by rw [ren_at ho.1, ent_I ho.2]) rfl hi hd (k2 hk0 H locs ls hl hP hS)
theorem s_lald (X : Cx p R s m args c G M0 cc own nL fr lo) {o : Nat} {i : Int32} (ho : isO M 101 o) (hi : vp_in i (mLn M o)) (hd : decode cc pc = .ok (.laload, 1)) (k2 : Sg p l e R s m args below meth c Q G M0 nL (pc + 1) vs (.long (mL M o i.toNatClampNeg) :: st) M) : Sg p l e R s m args below meth c Q G M0 nL pc vs (.int i :: .ref (gB G + o) :: st) M :=
  fun hk0 H locs ls hl hP hS => va_lald X.1 X.2.1 X.2.2.2.2.1 hP o 1 (by rw [ren_at ho.1, ent_J ho.2]) rfl hi hd (k2 hk0 H locs ls hl hP hS)
theorem s_aald (X : Cx p R s m args c G M0 cc own nL fr lo) {o ct : Nat} {i : Int32} (ho : isO M 102 o) (hi : vp_in i (mLn M o)) (hr : isO M ct (mR M o i.toNatClampNeg)) (hd : decode cc pc = .ok (.aaload, 1)) (k2 : Sg p l e R s m args below meth c Q G M0 nL (pc + 1) vs (.ref (gB G + mR M o i.toNatClampNeg) :: st) M) : Sg p l e R s m args below meth c Q G M0 nL pc vs (.int i :: .ref (gB G + o) :: st) M :=
  fun hk0 H locs ls hl hP hS => va_aldq X.1 X.2.1 X.2.2.2.2.1 hP o 2 (by rw [ren_at ho.1, ent_P ho.2]) rfl hi hd (by
    have e : va_rf (rO (gB G) (mR M o i.toNatClampNeg)) = .ref (gB G + mR M o i.toNatClampNeg) := by simp [rO, okM_nn hk0 hr, va_rf]
    rw [e]
    exact k2 hk0 H locs ls hl hP hS)
theorem s_alen (X : Cx p R s m args c G M0 cc own nL fr lo) {o : Nat} {v : Int32} (ho : isO M 100 o) (hv : Int32.ofNat (mLn M o) = v) (hd : decode cc pc = .ok (.arraylength, 1)) (k2 : Sg p l e R s m args below meth c Q G M0 nL (pc + 1) vs (.int v :: st) M) : Sg p l e R s m args below meth c Q G M0 nL pc vs (.ref (gB G + o) :: st) M :=
  fun hk0 H locs ls hl hP hS => va_alen X.1 X.2.1 X.2.2.2.2.1 hP o 0 (by rw [ren_at ho.1, ent_I ho.2]) rfl hv hd (k2 hk0 H locs ls hl hP hS)
theorem s_alenL (X : Cx p R s m args c G M0 cc own nL fr lo) {o : Nat} {v : Int32} (ho : isO M 101 o) (hv : Int32.ofNat (mLn M o) = v) (hd : decode cc pc = .ok (.arraylength, 1)) (k2 : Sg p l e R s m args below meth c Q G M0 nL (pc + 1) vs (.int v :: st) M) : Sg p l e R s m args below meth c Q G M0 nL pc vs (.ref (gB G + o) :: st) M :=
  fun hk0 H locs ls hl hP hS => va_alen X.1 X.2.1 X.2.2.2.2.1 hP o 1 (by rw [ren_at ho.1, ent_J ho.2]) rfl hv hd (k2 hk0 H locs ls hl hP hS)
theorem s_iast (X : Cx p R s m args c G M0 cc own nL fr lo) {M1 : Mem} {o : Nat} {i x : Int32} (ho : isO M 100 o) (hi : vp_in i (mLn M o)) (hM : M1 = sI M o i.toNatClampNeg x) (hd : decode cc pc = .ok (.iastore, 1)) (k2 : Sg p l e R s m args below meth c Q G M0 nL (pc + 1) vs st M1) : Sg p l e R s m args below meth c Q G M0 nL pc vs (.int x :: .int i :: .ref (gB G + o) :: st) M := by
  subst hM
  exact fun hk0 H locs ls hl hP hS => va_iast X.1 X.2.1 X.2.2.2.2.1 hP (ren_D G M) hS o 0 (by rw [ren_at ho.1, ent_I ho.2]) rfl hi hd (fun H1 locs1 hP1 _ hS1 => k2 hk0 H1 locs1 ls hl (by rw [ren_aI ho]; exact hP1) hS1)
theorem s_last (X : Cx p R s m args c G M0 cc own nL fr lo) {M1 : Mem} {o : Nat} {i : Int32} {x : Int64} (ho : isO M 101 o) (hi : vp_in i (mLn M o)) (hM : M1 = sL M o i.toNatClampNeg x) (hd : decode cc pc = .ok (.lastore, 1)) (k2 : Sg p l e R s m args below meth c Q G M0 nL (pc + 1) vs st M1) : Sg p l e R s m args below meth c Q G M0 nL pc vs (.long x :: .int i :: .ref (gB G + o) :: st) M := by
  subst hM
  exact fun hk0 H locs ls hl hP hS => va_last X.1 X.2.1 X.2.2.2.2.1 hP (ren_D G M) hS o 1 (by rw [ren_at ho.1, ent_J ho.2]) rfl hi hd (fun H1 locs1 hP1 _ hS1 => k2 hk0 H1 locs1 ls hl (by rw [ren_aL ho]; exact hP1) hS1)
theorem s_aast (X : Cx p R s m args c G M0 cc own nL fr lo) {M1 : Mem} {o r : Nat} {i : Int32} (ho : isO M 102 o) (hi : vp_in i (mLn M o)) (hr : isO M 4 r) (hM : M1 = sR M o i.toNatClampNeg r) (hd : decode cc pc = .ok (.aastore, 1)) (k2 : Sg p l e R s m args below meth c Q G M0 nL (pc + 1) vs st M1) : Sg p l e R s m args below meth c Q G M0 nL pc vs (.ref (gB G + r) :: .int i :: .ref (gB G + o) :: st) M := by
  subst hM
  exact fun hk0 H locs ls hl hP hS => va_astq X.1 X.2.1 X.2.2.2.2.1 hP (ren_D G M) hS o 2 r 4 (r := (RX4, TX4, 16)) (by rw [ren_at ho.1, ent_P ho.2]) rfl (ren_O hr (by decide)) rfl hi hd (fun H1 locs1 hP1 _ hS1 => k2 hk0 H1 locs1 ls hl (by rw [ren_aR ho (okM_nn hk0 hr)]; exact hP1) hS1)
theorem s_size (X : Cx p R s m args c G M0 cc own nL fr lo) (hk0 : okM M0 M) {H : Heap} {locs : List Loc} {T : State} (hT : T.heap = H) (hP : va_P (gD G) kcl (ren G M) H) (hS : va_S (gA G) s.heap H locs) (Y : Stand p l e R s m args below meth c T locs (mN M - mN M0) (mU M - mU M0)) : H.size = gB G + mN M := by
  have h1 : T.heap.size ≤ s.heap.size + (mN M - mN M0) := Y.same.2.2.1
  have h2 : s.heap.size = gB G + mN M0 := X.2.2.2.2.2.2.2.2
  have h3 := hS.1
  have h4 := hk0.1
  rw [hT] at h1
  by_cases h : mN M = mN M0
  · omega
  · have h5 : mN M - 1 < mN M := by omega
    have h6 := (hP _ _ (ren_at (G := G) h5)).lt
    have h7 : gB G + (mN M - 1) < H.size := h6
    omega
end
