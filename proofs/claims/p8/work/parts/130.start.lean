def memE : Mem := (((0, 0), (fun _ => (999, 0)), (fun _ _ => NUL)), (fun _ _ => 0), (fun _ _ => 0))
theorem kcl_inst {k : Nat} {C : String} {T : u_T} {N : Nat} (h : kcl[k]? = some (C, T, N)) : Cond.instantiable C N ∈ lw_g := by
  match k with
  | 0 => cases h; exact wd494
  | 1 => cases h; exact wd192
  | 2 => cases h; exact wd237
  | 3 => cases h; exact wd302
  | 4 => cases h; exact wd320
  | 5 => cases h; exact wd243
  | 6 => cases h; exact wd517
  | 7 => cases h; exact wd154
  | 8 => cases h; exact wd186
  | 9 => cases h; exact wd146
  | 10 => cases h; exact wd1415
  | n + 11 => simp [kcl] at h
theorem st_el {args : Array Value} {s : State} {tm : Term} {f : Nat → Value} {N : Nat} (h : ∀ j, j < N → (Term.elem tm (.int (Int32.ofNat j))).eval args s none [] s = some (f j)) : ∀ j : Nat, j < N → (Term.elem tm (.int (Int32.ofNat j))).eval args s none [] s = some (f j) := h
theorem start_K {args : Array Value} {s : State} (hts : ∀ w ∈ lw_tbl, w.before args s = true) (hgv : (Jvm.Cond.and given_1 narrow_1).before args s = true) : ∃ G : Gam, gB G = s.heap.size ∧ va_K (gD G) kcl (gT G) s ∧ Stx G s s.heap := by
  have htg : ∀ w ∈ lw_g, w.before args s = true := fun w hw => hts w (List.mem_filter.mp hw).1
  have hkn : ∀ k : Nat, ∃ q : ClassId × (Nat → Nat), ∀ (C : String) (T : u_T) (N : Nat), kcl[k]? = some (C, T, N) → u_Kn s C T N q.1 q.2 := by
    intro k
    cases hk : kcl[k]? with
    | none => exact ⟨(0, fun _ => 0), fun C T N h => by cases h⟩
    | some q =>
      obtain ⟨C, T, N⟩ := q
      obtain ⟨c, iS, h⟩ := u_known (ws := lw_g) htg (uin hk) (htg _ (kcl_inst hk))
      exact ⟨(c, iS), fun C' T' N' h' => by cases h'; exact h⟩
  obtain ⟨cI, kI, mI0, i1, i2, i3⟩ := Cond.arrayClass_spec (htg _ wd184)
  obtain ⟨cJ, kJ, mJ0, j1, j2, j3⟩ := Cond.arrayClass_spec (htg _ wd207)
  have hAO : va_AO RX4 s := va_AO.of (hts (Cond.arrayOver (.object RX4)) (List.mem_append_right _ (List.mem_of_getElem? (i := 175) (by decide +kernel))))
  have hs := flat_of_before _ hgv
  have hA : ∀ a : Nat, a < s.heap.size → ¬ (s.heap.size ≤ a) := fun a h => Nat.not_le.mpr h
  obtain ⟨tP, p1, p2⟩ := va_Tof (A := fun q => s.heap.size ≤ q) (tm := .static "QuorumGate$Sets" "PLANE_STEPS" "[I") (ty := .int) (N := 4) (f := v_PS) (by decide) (hs _ (by decide +kernel)) (va_eqt (hs _ (by decide +kernel))) (fun j hj => by
    match j, hj with
    | 0, _ => exact va_eqt (z := 0) (hs _ (by decide +kernel))
    | 1, _ => exact va_eqt (z := 1) (hs _ (by decide +kernel))
    | 2, _ => exact va_eqt (z := 3) (hs _ (by decide +kernel))
    | 3, _ => exact va_eqt (z := 9) (hs _ (by decide +kernel))
    | j + 4, h => exact absurd h (by omega)) hA
  obtain ⟨tH, h1, h2⟩ := va_Tof (A := fun q => s.heap.size ≤ q) (tm := .static "QuorumGate$Family" "HAVING" "[J") (ty := .long) (N := 6) (f := fun j => .long (l_HV j)) (by decide) (hs _ (by decide +kernel)) (va_eqt (hs _ (by decide +kernel))) (fun j hj => by
    match j, hj with
    | 0, _ => exact va_eqtl (z := -6148914691236517206) (hs _ (by decide +kernel))
    | 1, _ => exact va_eqtl (z := -3689348814741910324) (hs _ (by decide +kernel))
    | 2, _ => exact va_eqtl (z := -1085102592571150096) (hs _ (by decide +kernel))
    | 3, _ => exact va_eqtl (z := -71777214294589696) (hs _ (by decide +kernel))
    | 4, _ => exact va_eqtl (z := -281470681808896) (hs _ (by decide +kernel))
    | 5, _ => exact va_eqtl (z := -4294967296) (hs _ (by decide +kernel))
    | j + 6, h => exact absurd h (by omega)) hA
  obtain ⟨tO, o1, o2⟩ := va_Tof (A := fun q => s.heap.size ≤ q) (tm := .static "QuorumGate$Family" "OF_SIZE" "[J") (ty := .long) (N := 7) (f := fun j => .long (l_OS j)) (by decide) (hs _ (by decide +kernel)) (va_eqt (hs _ (by decide +kernel))) (fun j hj => by
    match j, hj with
    | 0, _ => exact va_eqtl (z := 1) (hs _ (by decide +kernel))
    | 1, _ => exact va_eqtl (z := 4295033110) (hs _ (by decide +kernel))
    | 2, _ => exact va_eqtl (z := 282668995843688) (hs _ (by decide +kernel))
    | 3, _ => exact va_eqtl (z := 78274679833913472) (hs _ (by decide +kernel))
    | 4, _ => exact va_eqtl (z := 1614655367130677248) (hs _ (by decide +kernel))
    | 5, _ => exact va_eqtl (z := 7530159316599308288) (hs _ (by decide +kernel))
    | 6, _ => exact va_eqtl (z := -9223372036854775808) (hs _ (by decide +kernel))
    | j + 7, h => exact absurd h (by omega)) hA
  obtain ⟨kA, comp, f2, f3, f4, cP, f1⟩ : ∃ (kA : Class) (comp : ClassId) (_ : True) (_ : True) (_ : True) (cP : ClassId), s.vm.findClass ("[" ++ (FieldType.object RX4).toString) = some cP ∧ s.vm.classes[cP]? = some kA ∧ kA.kind = .array comp (.object RX4) ∧ s.vm.findClass RX4 = some comp := by
    obtain ⟨comp, c, k, r1, r2, r3, r4, r5⟩ := Cond.arrayOver_spec (va_AO.use (A := args) hAO)
    exact ⟨k, comp, trivial, trivial, trivial, c, r5, r3, r4, r1⟩
  obtain ⟨f1, g2, g3, g4⟩ := f1
  refine ⟨((fun k => (Classical.choose (hkn k)).1, fun k => (Classical.choose (hkn k)).2), (cI, cJ, cP), s.heap.size, (tP, tH, tO)), rfl, ⟨fun k q hq => ?_, fun k q hq => ?_⟩, ?_, hAO, ?_, ?_, ?_⟩
  · obtain ⟨C, T, N⟩ := q
    exact Classical.choose_spec (hkn k) C T N hq
  · match k, hq with
    | 0, hq => cases hq; exact ⟨fun n z => ⟨fun k h => (by cases h), kI, i2, mI0, i3⟩, i1⟩
    | 1, hq => cases hq; exact ⟨fun n z => ⟨fun k h => (by cases h), kJ, j2, mJ0, j3⟩, j1⟩
    | 2, hq => cases hq; exact ⟨fun n z => ⟨fun k h => (by cases h), kA, g2, comp, g3⟩, kA, comp, g2, g3, g4, f1⟩
    | k + 3, hq => simp [gT] at hq
  · intro w hw
    have h1 : w ∈ lw_tbl := by
      refine List.mem_append_right _ ?_
      simp only [lw_nst, List.mem_cons, List.not_mem_nil, or_false] at hw
      rcases hw with rfl | rfl | rfl | rfl | rfl | rfl | rfl | rfl | rfl | rfl | rfl | rfl | rfl | rfl | rfl | rfl
      all_goals first
        | exact List.mem_of_getElem? (i := 30) (by decide +kernel)
        | exact List.mem_of_getElem? (i := 62) (by decide +kernel)
        | exact List.mem_of_getElem? (i := 68) (by decide +kernel)
        | exact List.mem_of_getElem? (i := 119) (by decide +kernel)
        | exact List.mem_of_getElem? (i := 196) (by decide +kernel)
        | exact List.mem_of_getElem? (i := 370) (by decide +kernel)
        | exact List.mem_of_getElem? (i := 586) (by decide +kernel)
        | exact List.mem_of_getElem? (i := 713) (by decide +kernel)
        | exact List.mem_of_getElem? (i := 810) (by decide +kernel)
        | exact List.mem_of_getElem? (i := 886) (by decide +kernel)
        | exact List.mem_of_getElem? (i := 899) (by decide +kernel)
        | exact List.mem_of_getElem? (i := 919) (by decide +kernel)
        | exact List.mem_of_getElem? (i := 1101) (by decide +kernel)
        | exact List.mem_of_getElem? (i := 1155) (by decide +kernel)
        | exact List.mem_of_getElem? (i := 1197) (by decide +kernel)
        | exact List.mem_of_getElem? (i := 1223) (by decide +kernel)
    have h2 : w.onTables = true := by
      simp only [lw_nst, List.mem_cons, List.not_mem_nil, or_false] at hw
      rcases hw with rfl | rfl | rfl | rfl | rfl | rfl | rfl | rfl | rfl | rfl | rfl | rfl | rfl | rfl | rfl | rfl <;> rfl
    exact va_Nw.of h2 (hts w h1)
  · exact ⟨va_Zof (hts _ (List.mem_append_right _ (List.mem_of_getElem? (i := 534) (by decide +kernel)))) (htg _ wd127) p1 hA, p2⟩
  · exact ⟨va_Zof (hts _ (List.mem_append_right _ (List.mem_of_getElem? (i := 695) (by decide +kernel)))) (htg _ wd129) h1 hA, h2⟩
  · exact ⟨va_Zof (hts _ (List.mem_append_right _ (List.mem_of_getElem? (i := 712) (by decide +kernel)))) (htg _ wd129) o1 hA, o2⟩
/-! ===== pure rows: the memory, and the small methods of the reference ===== -/
theorem chk_t {α : Type} {c : Prop} [Decidable c] {x : Option α} (h : c) : chk c x = x := if_pos h
theorem bnd_e {α β : Type} (a : α) (f : α → Option β) : bnd a f = f a := rfl
theorem obd_s {α β : Type} (a : α) (k : α → Option β) : obd (some a) k = k a := rfl
theorem obd2_s {α β : Type} (a : α) (M : Mem) (k : α → Mem → Option β) : obd2 (some (a, M)) k = k a M := rfl
theorem mI_sI (M : Mem) (o k : Nat) (x : Int32) (a b : Nat) : mI (sI M o k x) a b = if a = o ∧ b = k then x else mI M a b := rfl
theorem mI_s (M : Mem) (o k : Nat) (x : Int32) : mI (sI M o k x) o k = x := by simp [mI_sI]
theorem mI_n (M : Mem) (o k : Nat) (x : Int32) {b : Nat} (h : b ≠ k) : mI (sI M o k x) o b = mI M o b := by simp [mI_sI, h]
theorem mI_o (M : Mem) (o k : Nat) (x : Int32) {a : Nat} (b : Nat) (h : a ≠ o) : mI (sI M o k x) a b = mI M a b := by simp [mI_sI, h]
/-- the reference r with its row A -/
def RK (M : Mem) (r A : Nat) : Prop := isO M 10 r ∧ mR M r 0 = A ∧ isO M 100 A ∧ mLn M A = 10465
theorem RK.s {M : Mem} {r A : Nat} (h : RK M r A) (o k : Nat) (x : Int32) : RK (sI M o k x) r A := h
theorem inB_n {n N : Nat} (h : n < N) (hN : N < 2 ^ 31) : inB (nI n) N := vp_in_nI h hN
theorem rk_in {M : Mem} {r A k : Nat} (h : RK M r A) (hk : k < 10465) : inB (nI k) (mLn M A) := by
  rw [h.2.2.2]; exact inB_n hk (by decide)
theorem f_get {M : Mem} {r A v w : Nat} (h : RK M r A) (hv : v < 16) (hw : w < 8) : f_X10_get r (nI v) (nI w) M = some (mI M A (18 + 8 * v + w)) := by
  have e : ((18 : Int32) + ((8 : Int32) * nI v)) + nI w = nI (18 + 8 * v + w) := by
    rw [show (18 : Int32) = nI 18 from rfl, show (8 : Int32) = nI 8 from rfl, pk_mul, nI_add, nI_add]
  rw [f_X10_get, chk_t h.1, bnd_e, h.2.1, chk_t h.2.2.1, e, chk_t (rk_in h (by omega)), nI_clamp (by omega)]
theorem f_let {M : Mem} {r A v w : Nat} {x : Int32} (h : RK M r A) (hv : v < 16) (hw : w < 8) : f_X10_let r (nI v) (nI w) x M = some (sI M A (18 + 8 * v + w) x) := by
  have e : ((18 : Int32) + ((8 : Int32) * nI v)) + nI w = nI (18 + 8 * v + w) := by
    rw [show (18 : Int32) = nI 18 from rfl, show (8 : Int32) = nI 8 from rfl, pk_mul, nI_add, nI_add]
  rw [f_X10_let, chk_t h.1, bnd_e, h.2.1, chk_t h.2.2.1, e, chk_t (rk_in h (by omega)), nI_clamp (by omega), bnd_e]
theorem f_of {M : Mem} {r A v w : Nat} (h : RK M r A) (hv : v < 16) (hw : w < 44) : f_X10_of r (nI v) (nI w) M = some (mI M A (146 + 44 * v + w)) := by
  have e : ((146 : Int32) + ((44 : Int32) * nI v)) + nI w = nI (146 + 44 * v + w) := by
    rw [show (146 : Int32) = nI 146 from rfl, show (44 : Int32) = nI 44 from rfl, pk_mul, nI_add, nI_add]
  rw [f_X10_of, chk_t h.1, bnd_e, h.2.1, chk_t h.2.2.1, e, chk_t (rk_in h (by omega)), nI_clamp (by omega)]
theorem f_put {M : Mem} {r A v w : Nat} {x : Int32} (h : RK M r A) (hv : v < 16) (hw : w < 44) : f_X10_put r (nI v) (nI w) x M = some (sI M A (146 + 44 * v + w) x) := by
  have e : ((146 : Int32) + ((44 : Int32) * nI v)) + nI w = nI (146 + 44 * v + w) := by
    rw [show (146 : Int32) = nI 146 from rfl, show (44 : Int32) = nI 44 from rfl, pk_mul, nI_add, nI_add]
  rw [f_X10_put, chk_t h.1, bnd_e, h.2.1, chk_t h.2.2.1, e, chk_t (rk_in h (by omega)), nI_clamp (by omega), bnd_e]
theorem f_baseOf {M : Mem} {r A v : Nat} (h : RK M r A) (hv : v < 16) : f_X10_baseOf r (nI v) M = some (mI M A (2 + v)) := by
  have e : (2 : Int32) + nI v = nI (2 + v) := by rw [show (2 : Int32) = nI 2 from rfl, nI_add]
  rw [f_X10_baseOf, chk_t h.1, bnd_e, h.2.1, chk_t h.2.2.1, e, chk_t (rk_in h (by omega)), nI_clamp (by omega)]
/-- the first loop of begin: all behind the bases is 0 -/
def zA (M : Mem) (A lo hi : Nat) : Mem := (M.1, (fun a b => if a = A ∧ lo ≤ b ∧ b < hi then 0 else M.2.1 a b), M.2.2)
theorem begin_l1 {r A : Nat} {v1 v2 : Int32} (d j : Nat) : ∀ (M : Mem), d ≤ 10465 → RK M r A → f_X10_begin_3 (d + j + 1) r v1 v2 (nI (10465 - d)) M = f_X10_begin_3 (j + 1) r v1 v2 (nI 10465) (zA M A (10465 - d) 10465) := by
  induction d with
  | zero =>
    intro M _ h
    have e : zA M A 10465 10465 = M := by
      have : (fun a b => if a = A ∧ 10465 ≤ b ∧ b < 10465 then (0 : Int32) else M.2.1 a b) = M.2.1 := by
        funext a b
        rw [if_neg (by omega)]
      simp only [zA, Nat.sub_zero, this]
    rw [Nat.zero_add, Nat.sub_zero, e]
  | succ d ih =>
    intro M hd h
    have hk : 10465 - (d + 1) < 10465 := by omega
    have e1 : nI (10465 - (d + 1)) + 1 = nI (10465 - d) := by rw [nI_1]; congr 1; omega
    have hn : ¬ (10465 : Int32) ≤ nI (10465 - (d + 1)) := by
      rw [show (10465 : Int32) = nI 10465 from rfl]
      exact nI_ge hk (by decide)
    rw [show d + 1 + j + 1 = (d + j + 1) + 1 by omega, f_X10_begin_3, if_neg hn, chk_t h.1, bnd_e, h.2.1, chk_t h.2.2.1, chk_t (rk_in h hk), bnd_e, bnd_e, e1, nI_clamp (by omega), ih _ (by omega) (h.s _ _ _)]
    have e2 : zA (sI M A (10465 - (d + 1)) 0) A (10465 - d) 10465 = zA M A (10465 - (d + 1)) 10465 := by
      simp only [zA, sI]
      refine Prod.ext rfl (Prod.ext ?_ rfl)
      funext a b
      show (if a = A ∧ 10465 - d ≤ b ∧ b < 10465 then 0 else up2 M.2.1 A (10465 - (d + 1)) 0 a b) = if a = A ∧ 10465 - (d + 1) ≤ b ∧ b < 10465 then 0 else M.2.1 a b
      by_cases h1 : a = A ∧ 10465 - d ≤ b ∧ b < 10465
      · rw [if_pos h1, if_pos (by omega)]
      · rw [if_neg h1]
        by_cases h2 : a = A ∧ b = 10465 - (d + 1)
        · rw [up2, if_pos h2, if_pos (by omega)]
        · rw [up2, if_neg h2, if_neg (by omega)]
    rw [e2]
def bgf (f : Nat → Int32) (N t : Int32) (b : Nat) : Int32 := if b = 0 then N else if b = 1 then t else if b < 18 then f b else if b < 146 then 0 else if b < 850 then (if (b - 146) % 44 = 0 then -1 else 0) else if b < 10209 then 0 else if b < 10465 then 1 else f b
def wA (M : Mem) (A : Nat) (f : Nat → Int32) : Mem := (M.1, (fun a b => if a = A then f b else M.2.1 a b), M.2.2)
theorem wA_e {M M1 : Mem} {A : Nat} {f : Nat → Int32} (h1 : M1.1 = M.1) (h3 : M1.2.2 = M.2.2) (h2 : ∀ a b, a ≠ A → M1.2.1 a b = M.2.1 a b) (h4 : ∀ b, M1.2.1 A b = f b) : M1 = wA M A f := by
  refine Prod.ext h1 (Prod.ext ?_ h3)
  funext a b
  show M1.2.1 a b = if a = A then f b else M.2.1 a b
  by_cases h : a = A
  · rw [if_pos h, h, h4]
  · rw [if_neg h, h2 a b h]
def pG (M : Mem) (A lo : Nat) : Mem := (M.1, (fun a b => if a = A ∧ 146 + 44 * lo ≤ b ∧ b < 850 ∧ (b - 146) % 44 = 0 then -1 else M.2.1 a b), M.2.2)
def pW (M : Mem) (A lo : Nat) : Mem := (M.1, (fun a b => if a = A ∧ 10209 + lo ≤ b ∧ b < 10465 then 1 else M.2.1 a b), M.2.2)
theorem begin_l3 {r A : Nat} (d j : Nat) : ∀ (M : Mem), d ≤ 256 → RK M r A → f_X10_begin_68 (d + j + 1) r (nI (256 - d)) M = some (pW M A (256 - d)) := by
  induction d with
  | zero =>
    intro M _ h
    have e : pW M A 256 = M := by
      have : (fun a b => if a = A ∧ 10209 + 256 ≤ b ∧ b < 10465 then (1 : Int32) else M.2.1 a b) = M.2.1 := by
        funext a b
        rw [if_neg (by omega)]
      simp only [pW, this]
    rw [Nat.zero_add, Nat.sub_zero, f_X10_begin_68, if_pos (by rw [show (256 : Int32) = nI 256 from rfl]; exact nI_le (Nat.le_refl _) (by decide)), e]
  | succ d ih =>
    intro M hd h
    have hk : 256 - (d + 1) < 256 := by omega
    have e1 : nI (256 - (d + 1)) + 1 = nI (256 - d) := by rw [nI_1]; congr 1; omega
    have e0 : (10209 : Int32) + nI (256 - (d + 1)) = nI (10209 + (256 - (d + 1))) := by rw [show (10209 : Int32) = nI 10209 from rfl, nI_add]
    have hn : ¬ (256 : Int32) ≤ nI (256 - (d + 1)) := by
      rw [show (256 : Int32) = nI 256 from rfl]
      exact nI_ge hk (by decide)
    rw [show d + 1 + j + 1 = (d + j + 1) + 1 by omega, f_X10_begin_68, if_neg hn, chk_t h.1, bnd_e, h.2.1, chk_t h.2.2.1, e0, chk_t (rk_in h (by omega)), bnd_e, bnd_e, e1, nI_clamp (by omega), ih _ (by omega) (h.s _ _ _)]
    refine congrArg some (Prod.ext rfl (Prod.ext ?_ rfl))
    funext a b
    show (if a = A ∧ 10209 + (256 - d) ≤ b ∧ b < 10465 then 1 else up2 M.2.1 A (10209 + (256 - (d + 1))) 1 a b) = if a = A ∧ 10209 + (256 - (d + 1)) ≤ b ∧ b < 10465 then 1 else M.2.1 a b
    by_cases h1 : a = A ∧ 10209 + (256 - d) ≤ b ∧ b < 10465
    · rw [if_pos h1, if_pos (by omega)]
    · rw [if_neg h1]
      by_cases h2 : a = A ∧ b = 10209 + (256 - (d + 1))
      · rw [up2, if_pos h2, if_pos (by omega)]
      · rw [up2, if_neg h2, if_neg (by omega)]
theorem begin_l2 {r A : Nat} (d j : Nat) : ∀ (M : Mem), d ≤ 16 → RK M r A → f_X10_begin_47 (d + j + 1) r (nI (16 - d)) M = f_X10_begin_68 j r 0 (pG M A (16 - d)) := by
  induction d with
  | zero =>
    intro M _ h
    have e : pG M A 16 = M := by
      have : (fun a b => if a = A ∧ 146 + 44 * 16 ≤ b ∧ b < 850 ∧ (b - 146) % 44 = 0 then (-1 : Int32) else M.2.1 a b) = M.2.1 := by
        funext a b
        rw [if_neg (by omega)]
      simp only [pG, this]
    rw [Nat.zero_add, Nat.sub_zero, f_X10_begin_47, if_pos (by rw [show (16 : Int32) = nI 16 from rfl]; exact nI_le (Nat.le_refl _) (by decide)), e]
  | succ d ih =>
    intro M hd h
    have hk : 16 - (d + 1) < 16 := by omega
    have e1 : nI (16 - (d + 1)) + 1 = nI (16 - d) := by rw [nI_1]; congr 1; omega
    have hn : ¬ (16 : Int32) ≤ nI (16 - (d + 1)) := by
      rw [show (16 : Int32) = nI 16 from rfl]
      exact nI_ge hk (by decide)
    have hp := f_put (x := -1) h (v := 16 - (d + 1)) (w := 0) (by omega) (by decide)
    rw [show d + 1 + j + 1 = (d + j + 1) + 1 by omega, f_X10_begin_47, if_neg hn, chk_t h.1, show (0 : Int32) = nI 0 from rfl, hp, obd_s, bnd_e, e1, ih _ (by omega) (h.s _ _ _)]
    congr 1
    refine Prod.ext rfl (Prod.ext ?_ rfl)
    funext a b
    show (if a = A ∧ 146 + 44 * (16 - d) ≤ b ∧ b < 850 ∧ (b - 146) % 44 = 0 then -1 else up2 M.2.1 A (146 + 44 * (16 - (d + 1)) + 0) (-1) a b) = if a = A ∧ 146 + 44 * (16 - (d + 1)) ≤ b ∧ b < 850 ∧ (b - 146) % 44 = 0 then -1 else M.2.1 a b
    by_cases h1 : a = A ∧ 146 + 44 * (16 - d) ≤ b ∧ b < 850 ∧ (b - 146) % 44 = 0
    · rw [if_pos h1, if_pos (by omega)]
    · rw [if_neg h1]
      by_cases h2 : a = A ∧ b = 146 + 44 * (16 - (d + 1)) + 0
      · rw [up2, if_pos h2, if_pos (by omega)]
      · rw [up2, if_neg h2, if_neg (by omega)]
theorem f_begin {r A n : Nat} {M : Mem} {N t : Int32} (h : RK M r A) (hn : 11000 ≤ n) : f_X10_begin n r N t M = some (wA M A (bgf (mI M A) N (if t = 0 then 0 else 1))) := by
  obtain ⟨j, rfl⟩ : ∃ j, n = 10447 + (j + 300) + 1 := ⟨n - 10748, by omega⟩
  have h1 := begin_l1 (v1 := N) (v2 := t) 10447 (j + 300) M (by decide) h
  rw [f_X10_begin, show (18 : Int32) = nI (10465 - 10447) from rfl, h1]
  have hz : RK (zA M A (10465 - 10447) 10465) r A := h
  generalize hZ : zA M A (10465 - 10447) 10465 = Z at hz ⊢
  have key : ∀ x : Int32, f_X10_begin_47 (j + 300) r (nI (16 - 16)) (sI (sI Z A 0 N) A 1 x) = some (pW (pG (sI (sI Z A 0 N) A 1 x) A 0) A 0) := by
    intro x
    have h2 := begin_l2 16 (j + 283) (sI (sI Z A 0 N) A 1 x) (Nat.le_refl _) hz
    rw [show j + 300 = 16 + (j + 283) + 1 by omega, h2]
    have h3 := begin_l3 256 (j + 26) (pG (sI (sI Z A 0 N) A 1 x) A (16 - 16)) (Nat.le_refl _) hz
    rw [show j + 283 = 256 + (j + 26) + 1 by omega]
    exact h3
  have i0 : inB (0 : Int32) (mLn Z A) := rk_in hz (k := 0) (by decide)
  have i1 : inB (1 : Int32) (mLn Z A) := rk_in hz (k := 1) (by decide)
  have fin : ∀ x : Int32, pW (pG (sI (sI Z A 0 N) A 1 x) A 0) A 0 = wA M A (bgf (mI M A) N x) := by
    intro x
    subst hZ
    refine wA_e rfl rfl (fun a b hne => ?_) (fun b => ?_)
    · show (if a = A ∧ 10209 + 0 ≤ b ∧ b < 10465 then 1 else if a = A ∧ 146 + 44 * 0 ≤ b ∧ b < 850 ∧ (b - 146) % 44 = 0 then -1 else up2 (up2 (fun a b => if a = A ∧ 10465 - 10447 ≤ b ∧ b < 10465 then 0 else M.2.1 a b) A 0 N) A 1 x a b) = M.2.1 a b
      simp [up2, hne]
    · show (if A = A ∧ 10209 + 0 ≤ b ∧ b < 10465 then 1 else if A = A ∧ 146 + 44 * 0 ≤ b ∧ b < 850 ∧ (b - 146) % 44 = 0 then -1 else up2 (up2 (fun a b => if a = A ∧ 10465 - 10447 ≤ b ∧ b < 10465 then 0 else M.2.1 a b) A 0 N) A 1 x A b) = bgf (mI M A) N x b
      simp only [up2, bgf, true_and]
      by_cases c0 : b = 0
      · subst c0; rfl
      · by_cases c1 : b = 1
        · subst c1; rfl
        · rw [if_neg c0, if_neg c1]
          by_cases c2 : b < 18
          · rw [if_pos c2, if_neg (by omega), if_neg (by omega), if_neg c1, if_neg c0, if_neg (by omega)]
            rfl
          · rw [if_neg c2]
            by_cases c3 : b < 146
            · rw [if_pos c3, if_neg (by omega), if_neg (by omega), if_neg c1, if_neg c0, if_pos (by omega)]
            · rw [if_neg c3]
              by_cases c4 : b < 850
              · rw [if_pos c4, if_neg (by omega)]
                by_cases c5 : (b - 146) % 44 = 0
                · rw [if_pos (by omega), if_pos c5]; try rw [if_neg c0, if_neg c1]
                · rw [if_neg (by omega), if_neg c5, if_neg c1, if_neg c0, if_pos (by omega)]
              · rw [if_neg c4]
                by_cases c5 : b < 10209
                · rw [if_pos c5, if_neg (by omega), if_neg (by omega), if_neg c1, if_neg c0, if_pos (by omega)]
                · rw [if_neg c5]
                  by_cases c6 : b < 10465
                  · rw [if_pos c6, if_pos (by omega)]; try rw [if_neg c0, if_neg c1]
                  · rw [if_neg c6, if_neg (by omega), if_neg (by omega), if_neg c1, if_neg c0, if_neg (by omega)]
                    rfl
  rw [f_X10_begin_3, if_pos (by rw [show (10465 : Int32) = nI 10465 from rfl]; exact nI_le (Nat.le_refl _) (by decide)), chk_t hz.1, bnd_e, hz.2.1, chk_t hz.2.2.1, chk_t i0, bnd_e, bnd_e]
  have e0 : (0 : Int32).toNatClampNeg = 0 := by decide
  have e1 : (1 : Int32).toNatClampNeg = 1 := by decide
  have hz1 := hz.s A 0 N
  rw [show sI Z A ((0 : Int32)).toNatClampNeg N = sI Z A 0 N from rfl, hz1.2.1, chk_t hz1.2.2.1]
  by_cases ht : t = 0
  · rw [if_pos ht, if_pos ht, chk_t (show inB (1 : Int32) (mLn (sI Z A 0 N) A) from i1), bnd_e, show sI (sI Z A 0 N) A ((1 : Int32)).toNatClampNeg 0 = sI (sI Z A 0 N) A 1 0 from rfl]
    have := key 0
    rw [fin] at this
    exact this
  · rw [if_neg ht, if_neg ht, chk_t (show inB (1 : Int32) (mLn (sI Z A 0 N) A) from i1), bnd_e, show sI (sI Z A 0 N) A ((1 : Int32)).toNatClampNeg 1 = sI (sI Z A 0 N) A 1 1 from rfl]
    have := key 1
    rw [fin] at this
    exact this
/-! ===== the fresh objects: the class' cells 0 .. 119, the reference 120 with its arrays 121 .. 130 ===== -/
def FU : Nat := 200000
def Mx : Mem := (f_X9_init FU 0 (nw memE 9 0 6)).getD memE
set_option maxRecDepth 1000000 in
theorem Mx_k : (f_X9_init FU 0 (nw memE 9 0 6)).isSome = true ∧ mN Mx = 120 ∧ mU Mx = 7630 := by decide +kernel
theorem Mx_ok : f_X9_init FU 0 (nw memE 9 0 6) = some Mx := by
  have h := Mx_k.1
  unfold Mx
  cases hh : f_X9_init FU 0 (nw memE 9 0 6) with
  | none => rw [hh] at h; cases h
  | some a => rfl
def tC : List (Nat × Nat) := [(9, 0), (7, 0), (100, 16), (100, 16), (100, 16), (8, 0), (1, 0), (101, 1024), (1, 0), (101, 1024), (101, 17), (100, 305), (100, 16), (100, 16), (2, 0), (5, 0), (100, 256), (100, 256), (100, 256), (100, 16), (100, 6), (100, 64), (100, 64), (100, 64), (102, 16), (3, 0), (100, 120), (3, 0), (100, 160), (100, 16), (100, 16), (4, 0), (100, 16), (4, 0), (100, 16), (4, 0), (100, 16), (4, 0), (100, 16), (4, 0), (100, 16), (4, 0), (100, 16), (4, 0), (100, 16), (4, 0), (100, 16), (4, 0), (100, 16), (4, 0), (100, 16), (4, 0), (100, 16), (4, 0), (100, 16), (4, 0), (100, 16), (4, 0), (100, 16), (4, 0), (100, 16), (4, 0), (100, 16), (2, 0), (5, 0), (100, 256), (100, 256), (100, 256), (100, 16), (100, 6), (100, 64), (100, 64), (100, 64), (102, 16), (3, 0), (100, 120), (3, 0), (100, 160), (100, 16), (100, 16), (4, 0), (100, 16), (4, 0), (100, 16), (4, 0), (100, 16), (4, 0), (100, 16), (4, 0), (100, 16), (4, 0), (100, 16), (4, 0), (100, 16), (4, 0), (100, 16), (4, 0), (100, 16), (4, 0), (100, 16), (4, 0), (100, 16), (4, 0), (100, 16), (4, 0), (100, 16), (4, 0), (100, 16), (4, 0), (100, 16), (4, 0), (100, 16), (0, 0), (100, 256), (6, 0), (100, 41), (100, 40), (100, 40), (100, 16), (100, 1024), (10, 0), (100, 10465), (100, 16), (100, 9000), (100, 288), (100, 16), (100, 10465), (100, 16), (100, 393320), (100, 40), (100, 16)]
def tF : List (Nat × Nat × Nat) := [(0, 0, 1), (0, 1, 5), (0, 2, 14), (0, 3, 63), (0, 4, 112), (0, 5, 114), (1, 0, 2), (1, 1, 3), (1, 2, 4), (5, 0, 6), (5, 1, 8), (5, 2, 10), (5, 3, 11), (5, 4, 12), (5, 5, 13), (6, 0, 7), (8, 0, 9), (14, 0, 1), (14, 1, 15), (14, 2, 24), (14, 3, 25), (14, 4, 27), (14, 5, 29), (14, 6, 30), (15, 0, 16), (15, 1, 17), (15, 2, 18), (15, 3, 19), (15, 4, 20), (15, 5, 21), (15, 6, 22), (15, 7, 23), (24, 0, 31), (24, 1, 33), (24, 2, 35), (24, 3, 37), (24, 4, 39), (24, 5, 41), (24, 6, 43), (24, 7, 45), (24, 8, 47), (24, 9, 49), (24, 10, 51), (24, 11, 53), (24, 12, 55), (24, 13, 57), (24, 14, 59), (24, 15, 61), (25, 1, 26), (27, 1, 28), (31, 10, 32), (33, 10, 34), (35, 10, 36), (37, 10, 38), (39, 10, 40), (41, 10, 42), (43, 10, 44), (45, 10, 46), (47, 10, 48), (49, 10, 50), (51, 10, 52), (53, 10, 54), (55, 10, 56), (57, 10, 58), (59, 10, 60), (61, 10, 62), (63, 0, 1), (63, 1, 64), (63, 2, 73), (63, 3, 74), (63, 4, 76), (63, 5, 78), (63, 6, 79), (64, 0, 65), (64, 1, 66), (64, 2, 67), (64, 3, 68), (64, 4, 69), (64, 5, 70), (64, 6, 71), (64, 7, 72), (73, 0, 80), (73, 1, 82), (73, 2, 84), (73, 3, 86), (73, 4, 88), (73, 5, 90), (73, 6, 92), (73, 7, 94), (73, 8, 96), (73, 9, 98), (73, 10, 100), (73, 11, 102), (73, 12, 104), (73, 13, 106), (73, 14, 108), (73, 15, 110), (74, 1, 75), (76, 1, 77), (80, 10, 81), (82, 10, 83), (84, 10, 85), (86, 10, 87), (88, 10, 89), (90, 10, 91), (92, 10, 93), (94, 10, 95), (96, 10, 97), (98, 10, 99), (100, 10, 101), (102, 10, 103), (104, 10, 105), (106, 10, 107), (108, 10, 109), (110, 10, 111), (112, 0, 113), (114, 0, 63), (114, 1, 115), (114, 2, 116), (114, 3, 117), (114, 4, 118), (114, 5, 119)]
def tG : List (Nat × Nat × Nat) := [(120, 0, 121), (120, 1, 122), (120, 2, 123), (120, 4, 124), (120, 5, 125), (120, 9, 126), (120, 10, 127), (120, 11, 128), (120, 12, 129), (120, 19, 130)]
theorem mN_al (M : Mem) (a b c r k x : Nat) : mN (sR (nw M a b c) r k x) = mN M + 1 := rfl
theorem mU_al (M : Mem) (a b c r k x : Nat) : mU (sR (nw M a b c) r k x) = mU M + c := rfl
theorem al {β : Type} {M : Mem} {r k ln : Nat} {x : Int32} {f : Mem → Option β} (hx : ¬ x < 0) (hz : x.toNatClampNeg = ln) (h : mN M + 1 ≤ CAP ∧ mU M + ln ≤ CAPU) : (chk (¬ x < 0) <| chk (mN M + 1 ≤ CAP ∧ mU M + x.toNatClampNeg ≤ CAPU) <| bnd (mN M) fun o => bnd (nw M 100 x.toNatClampNeg x.toNatClampNeg) fun M3 => bnd (sR M3 r k o) f) = f (sR (nw M 100 ln ln) r k (mN M)) := by
  subst hz
  rw [chk_t hx, chk_t h, bnd_e, bnd_e, bnd_e]
def mA (M : Mem) : Mem := sR (nw (sR (nw (sR (nw (sR (nw (sR (nw (sR (nw (sR (nw (sR (nw (sR (nw (sR (nw M 100 10465 10465) 120 0 121) 100 16 16) 120 1 122) 100 9000 9000) 120 2 123) 100 288 288) 120 4 124) 100 16 16) 120 5 125) 100 10465 10465) 120 9 126) 100 16 16) 120 10 127) 100 393320 393320) 120 11 128) 100 40 40) 120 12 129) 100 16 16) 120 19 130
set_option maxRecDepth 100000 in
theorem init_pre {n : Nat} {M : Mem} (hN : mN M = 121) (hU : mU M = 7655) (ho : isO M 10 120) : f_X10_init n 120 M = obd2 (f_X10_makeGrid n 120 (2 : Int32) (mA M)) fun _ M213 => some M213 := by
  rw [f_X10_init, chk_t (by decide), chk_t (by rw [hN, hU]; decide), bnd_e, bnd_e, chk_t (io_nw rfl ho), bnd_e]
  rw [show sR (nw M 100 ((10465 : Int32)).toNatClampNeg ((10465 : Int32)).toNatClampNeg) 120 0 (mN M) = sR (nw M 100 10465 10465) 120 0 121 by rw [hN]; rfl]
  rw [al (ln := 16) (by decide) rfl (by simp only [mN_al, mU_al, hN, hU]; decide)]
  rw [show sR (nw (sR (nw M 100 10465 10465) 120 0 121) 100 16 16) 120 1 (mN (sR (nw M 100 10465 10465) 120 0 121)) = sR (nw (sR (nw M 100 10465 10465) 120 0 121) 100 16 16) 120 1 122 by simp only [mN_al, hN]]
  rw [al (ln := 9000) (by decide) rfl (by simp only [mN_al, mU_al, hN, hU]; decide)]
  rw [show sR (nw (sR (nw (sR (nw M 100 10465 10465) 120 0 121) 100 16 16) 120 1 122) 100 9000 9000) 120 2 (mN (sR (nw (sR (nw M 100 10465 10465) 120 0 121) 100 16 16) 120 1 122)) = sR (nw (sR (nw (sR (nw M 100 10465 10465) 120 0 121) 100 16 16) 120 1 122) 100 9000 9000) 120 2 123 by simp only [mN_al, hN]]
  rw [al (ln := 288) (by decide) rfl (by simp only [mN_al, mU_al, hN, hU]; decide)]
  rw [show sR (nw (sR (nw (sR (nw (sR (nw M 100 10465 10465) 120 0 121) 100 16 16) 120 1 122) 100 9000 9000) 120 2 123) 100 288 288) 120 4 (mN (sR (nw (sR (nw (sR (nw M 100 10465 10465) 120 0 121) 100 16 16) 120 1 122) 100 9000 9000) 120 2 123)) = sR (nw (sR (nw (sR (nw (sR (nw M 100 10465 10465) 120 0 121) 100 16 16) 120 1 122) 100 9000 9000) 120 2 123) 100 288 288) 120 4 124 by simp only [mN_al, hN]]
  rw [al (ln := 16) (by decide) rfl (by simp only [mN_al, mU_al, hN, hU]; decide)]
  rw [show sR (nw (sR (nw (sR (nw (sR (nw (sR (nw M 100 10465 10465) 120 0 121) 100 16 16) 120 1 122) 100 9000 9000) 120 2 123) 100 288 288) 120 4 124) 100 16 16) 120 5 (mN (sR (nw (sR (nw (sR (nw (sR (nw M 100 10465 10465) 120 0 121) 100 16 16) 120 1 122) 100 9000 9000) 120 2 123) 100 288 288) 120 4 124)) = sR (nw (sR (nw (sR (nw (sR (nw (sR (nw M 100 10465 10465) 120 0 121) 100 16 16) 120 1 122) 100 9000 9000) 120 2 123) 100 288 288) 120 4 124) 100 16 16) 120 5 125 by simp only [mN_al, hN]]
  rw [al (ln := 10465) (by decide) rfl (by simp only [mN_al, mU_al, hN, hU]; decide)]
  rw [show sR (nw (sR (nw (sR (nw (sR (nw (sR (nw (sR (nw M 100 10465 10465) 120 0 121) 100 16 16) 120 1 122) 100 9000 9000) 120 2 123) 100 288 288) 120 4 124) 100 16 16) 120 5 125) 100 10465 10465) 120 9 (mN (sR (nw (sR (nw (sR (nw (sR (nw (sR (nw M 100 10465 10465) 120 0 121) 100 16 16) 120 1 122) 100 9000 9000) 120 2 123) 100 288 288) 120 4 124) 100 16 16) 120 5 125)) = sR (nw (sR (nw (sR (nw (sR (nw (sR (nw (sR (nw M 100 10465 10465) 120 0 121) 100 16 16) 120 1 122) 100 9000 9000) 120 2 123) 100 288 288) 120 4 124) 100 16 16) 120 5 125) 100 10465 10465) 120 9 126 by simp only [mN_al, hN]]
  rw [al (ln := 16) (by decide) rfl (by simp only [mN_al, mU_al, hN, hU]; decide)]
  rw [show sR (nw (sR (nw (sR (nw (sR (nw (sR (nw (sR (nw (sR (nw M 100 10465 10465) 120 0 121) 100 16 16) 120 1 122) 100 9000 9000) 120 2 123) 100 288 288) 120 4 124) 100 16 16) 120 5 125) 100 10465 10465) 120 9 126) 100 16 16) 120 10 (mN (sR (nw (sR (nw (sR (nw (sR (nw (sR (nw (sR (nw M 100 10465 10465) 120 0 121) 100 16 16) 120 1 122) 100 9000 9000) 120 2 123) 100 288 288) 120 4 124) 100 16 16) 120 5 125) 100 10465 10465) 120 9 126)) = sR (nw (sR (nw (sR (nw (sR (nw (sR (nw (sR (nw (sR (nw M 100 10465 10465) 120 0 121) 100 16 16) 120 1 122) 100 9000 9000) 120 2 123) 100 288 288) 120 4 124) 100 16 16) 120 5 125) 100 10465 10465) 120 9 126) 100 16 16) 120 10 127 by simp only [mN_al, hN]]
  rw [al (ln := 393320) (by decide) rfl (by simp only [mN_al, mU_al, hN, hU]; decide)]
  rw [show sR (nw (sR (nw (sR (nw (sR (nw (sR (nw (sR (nw (sR (nw (sR (nw M 100 10465 10465) 120 0 121) 100 16 16) 120 1 122) 100 9000 9000) 120 2 123) 100 288 288) 120 4 124) 100 16 16) 120 5 125) 100 10465 10465) 120 9 126) 100 16 16) 120 10 127) 100 393320 393320) 120 11 (mN (sR (nw (sR (nw (sR (nw (sR (nw (sR (nw (sR (nw (sR (nw M 100 10465 10465) 120 0 121) 100 16 16) 120 1 122) 100 9000 9000) 120 2 123) 100 288 288) 120 4 124) 100 16 16) 120 5 125) 100 10465 10465) 120 9 126) 100 16 16) 120 10 127)) = sR (nw (sR (nw (sR (nw (sR (nw (sR (nw (sR (nw (sR (nw (sR (nw M 100 10465 10465) 120 0 121) 100 16 16) 120 1 122) 100 9000 9000) 120 2 123) 100 288 288) 120 4 124) 100 16 16) 120 5 125) 100 10465 10465) 120 9 126) 100 16 16) 120 10 127) 100 393320 393320) 120 11 128 by simp only [mN_al, hN]]
  rw [al (ln := 40) (by decide) rfl (by simp only [mN_al, mU_al, hN, hU]; decide)]
  rw [show sR (nw (sR (nw (sR (nw (sR (nw (sR (nw (sR (nw (sR (nw (sR (nw (sR (nw M 100 10465 10465) 120 0 121) 100 16 16) 120 1 122) 100 9000 9000) 120 2 123) 100 288 288) 120 4 124) 100 16 16) 120 5 125) 100 10465 10465) 120 9 126) 100 16 16) 120 10 127) 100 393320 393320) 120 11 128) 100 40 40) 120 12 (mN (sR (nw (sR (nw (sR (nw (sR (nw (sR (nw (sR (nw (sR (nw (sR (nw M 100 10465 10465) 120 0 121) 100 16 16) 120 1 122) 100 9000 9000) 120 2 123) 100 288 288) 120 4 124) 100 16 16) 120 5 125) 100 10465 10465) 120 9 126) 100 16 16) 120 10 127) 100 393320 393320) 120 11 128)) = sR (nw (sR (nw (sR (nw (sR (nw (sR (nw (sR (nw (sR (nw (sR (nw (sR (nw M 100 10465 10465) 120 0 121) 100 16 16) 120 1 122) 100 9000 9000) 120 2 123) 100 288 288) 120 4 124) 100 16 16) 120 5 125) 100 10465 10465) 120 9 126) 100 16 16) 120 10 127) 100 393320 393320) 120 11 128) 100 40 40) 120 12 129 by simp only [mN_al, hN]]
  rw [al (ln := 16) (by decide) rfl (by simp only [mN_al, mU_al, hN, hU]; decide)]
  rw [show sR (nw (sR (nw (sR (nw (sR (nw (sR (nw (sR (nw (sR (nw (sR (nw (sR (nw (sR (nw M 100 10465 10465) 120 0 121) 100 16 16) 120 1 122) 100 9000 9000) 120 2 123) 100 288 288) 120 4 124) 100 16 16) 120 5 125) 100 10465 10465) 120 9 126) 100 16 16) 120 10 127) 100 393320 393320) 120 11 128) 100 40 40) 120 12 129) 100 16 16) 120 19 (mN (sR (nw (sR (nw (sR (nw (sR (nw (sR (nw (sR (nw (sR (nw (sR (nw (sR (nw M 100 10465 10465) 120 0 121) 100 16 16) 120 1 122) 100 9000 9000) 120 2 123) 100 288 288) 120 4 124) 100 16 16) 120 5 125) 100 10465 10465) 120 9 126) 100 16 16) 120 10 127) 100 393320 393320) 120 11 128) 100 40 40) 120 12 129)) = sR (nw (sR (nw (sR (nw (sR (nw (sR (nw (sR (nw (sR (nw (sR (nw (sR (nw (sR (nw M 100 10465 10465) 120 0 121) 100 16 16) 120 1 122) 100 9000 9000) 120 2 123) 100 288 288) 120 4 124) 100 16 16) 120 5 125) 100 10465 10465) 120 9 126) 100 16 16) 120 10 127) 100 393320 393320) 120 11 128) 100 40 40) 120 12 129) 100 16 16) 120 19 130 by simp only [mN_al, hN]]
  rfl
def MA0 : Mem := mA (nw Mx 10 0 25)
set_option maxRecDepth 1000000 in
theorem MA_t : ((List.range 131).all (fun i => decide (MA0.1.2.1 i = tC.getD i (0, 0)))) = true ∧ (tF.all (fun q => decide (mR MA0 q.1 q.2.1 = q.2.2))) = true ∧ (tG.all (fun q => decide (mR MA0 q.1 q.2.1 = q.2.2))) = true ∧ mN MA0 = 131 := by decide +kernel
theorem MA_c {i : Nat} (h : i < 131) : MA0.1.2.1 i = tC.getD i (0, 0) := of_decide_eq_true (List.all_eq_true.mp MA_t.1 i (List.mem_range.mpr h))
theorem MA_RK : RK MA0 120 121 := by
  refine ⟨⟨?_, ?_⟩, ?_, ⟨?_, ?_⟩, ?_⟩
  · rw [MA_t.2.2.2]; decide
  · simp only [mC, MA_c (show 120 < 131 by decide)]; decide
  · exact of_decide_eq_true (List.all_eq_true.mp MA_t.2.2.1 (120, 0, 121) (by decide))
  · rw [MA_t.2.2.2]; decide
  · simp only [mC, MA_c (show 121 < 131 by decide)]; decide
  · simp only [mLn, MA_c (show 121 < 131 by decide)]; decide
/-! ===== Int32 by its bits (the first family of kit/laws/BITS, pasted; then rows of our own) ===== -/
def bt (x : Int32) (i : Nat) : Bool := x.toBitVec.getLsbD i
theorem b_ext {x y : Int32} (h : ∀ i, i < 32 → bt x i = bt y i) : x = y := Int32.toBitVec_inj.mp (BitVec.eq_of_getLsbD_eq (fun i hi => h i hi))
theorem b_or (x y : Int32) (i : Nat) : bt (x ||| y) i = (bt x i || bt y i) := by unfold bt; rw [Int32.toBitVec_or, BitVec.getLsbD_or]
theorem b_and (x y : Int32) (i : Nat) : bt (x &&& y) i = (bt x i && bt y i) := by unfold bt; rw [Int32.toBitVec_and, BitVec.getLsbD_and]
theorem b_xor (x y : Int32) (i : Nat) : bt (x ^^^ y) i = (bt x i ^^ bt y i) := by unfold bt; rw [Int32.toBitVec_xor, BitVec.getLsbD_xor]
theorem b_big {x : Int32} {i : Nat} (h : 32 ≤ i) : bt x i = false := BitVec.getLsbD_of_ge _ _ h
theorem b_m1 : ∀ i, i < 32 → bt (-1) i = true := by decide +kernel
theorem b_0 (i : Nat) : bt 0 i = false := BitVec.getLsbD_zero
theorem s_l : ∀ n, n < 32 → ((nI n &&& 31).toBitVec.smod 32).toNat = n := by decide +kernel
theorem b_shl (n : Nat) (hn : n < 32) (x : Int32) {i : Nat} (hi : i < 32) : bt (x <<< (nI n &&& 31)) i = (decide (n ≤ i) && bt x (i - n)) := by
  unfold bt
  rw [Int32.toBitVec_shiftLeft]
  show (x.toBitVec <<< ((nI n &&& 31).toBitVec.smod 32).toNat).getLsbD i = _
  rw [s_l n hn, BitVec.getLsbD_shiftLeft]
  rcases Nat.lt_or_ge i n with h | h
  · simp [h, Nat.not_le.mpr h]
  · simp [hi, h, Nat.not_lt.mpr h]
theorem b_sshr (n : Nat) (hn : n < 32) (x : Int32) {i : Nat} (hi : i < 32) : bt (x >>> (nI n &&& 31)) i = if n + i < 32 then bt x (n + i) else bt x 31 := by
  unfold bt
  rw [Int32.toBitVec_shiftRight]
  show (x.toBitVec.sshiftRight ((nI n &&& 31).toBitVec.smod 32).toNat).getLsbD i = _
  rw [s_l n hn, BitVec.getLsbD_sshiftRight, BitVec.msb_eq_getLsbD_last]
  simp [hi]
theorem nx_and (a b : Nat) : nI a &&& nI b = nI (a &&& b) := by
  apply Int32.toBitVec_inj.1
  show BitVec.ofNat 32 a &&& BitVec.ofNat 32 b = BitVec.ofNat 32 (a &&& b)
  apply BitVec.eq_of_getLsbD_eq
  intro i hi
  simp [hi]
theorem b_1 : ∀ i, i < 32 → bt 1 i = decide (i = 0) := by decide +kernel
theorem b_one {v i : Nat} (hv : v < 32) (hi : i < 32) : bt ((1 : Int32) <<< (nI v &&& 31)) i = decide (i = v) := by
  rw [b_shl v hv 1 hi, b_1 _ (by omega)]
  by_cases h : i = v
  · subst h; simp
  · by_cases h2 : v ≤ i
    · have : ¬ i - v = 0 := by omega
      simp [h, this]
    · simp [h, h2]
theorem b_not (x : Int32) {i : Nat} (hi : i < 32) : bt (x ^^^ (-1 : Int32)) i = !bt x i := by
  rw [b_xor, b_m1 i hi]; simp
def bon (x : Int32) (v : Nat) : Int32 := x ||| ((1 : Int32) <<< (nI v &&& 31))
def bof (x : Int32) (v : Nat) : Int32 := x &&& (((1 : Int32) <<< (nI v &&& 31)) ^^^ (-1 : Int32))
theorem bt_on (x : Int32) {v i : Nat} (hv : v < 32) (hi : i < 32) : bt (bon x v) i = (bt x i || decide (i = v)) := by
  rw [bon, b_or, b_one hv hi]
theorem bt_off (x : Int32) {v i : Nat} (hv : v < 32) (hi : i < 32) : bt (bof x v) i = (bt x i && !decide (i = v)) := by
  rw [bof, b_and, b_not _ hi, b_one hv hi]
theorem bt_minus (x y : Int32) {i : Nat} (hi : i < 32) : bt (x &&& (y ^^^ (-1 : Int32))) i = (bt x i && !bt y i) := by
  rw [b_and, b_not _ hi]
theorem sh_bit (x : Int32) {v : Nat} (hv : v < 32) : ((x >>> (nI v &&& 31)) &&& (1 : Int32)) = if bt x v then 1 else 0 := by
  apply b_ext
  intro i hi
  rw [b_and, b_sshr v hv x hi, b_1 i hi]
  by_cases h : i = 0
  · subst h
    simp only [Nat.add_zero, hv, if_true, decide_true, Bool.and_true]
    cases bt x v
    · simp [b_0]
    · simp [b_1 0 (by decide)]
  · have h1 : bt 1 i = false := by rw [b_1 i hi]; simp [h]
    cases bt x v <;> simp [h, h1, b_0]
theorem ne10 : ¬ (1 : Int32) = 0 := by decide
theorem ne01 : ¬ (0 : Int32) = 1 := by decide
theorem f_has9 (x : Int32) {v : Nat} (hv : v < 32) (M : Mem) : f_X9_has x (nI v) M = some (if bt x v then 1 else 0) := by
  rw [f_X9_has, sh_bit x hv]
  cases bt x v
  · simp
  · simp [ne10]
theorem f_has10 (x : Int32) {v : Nat} (hv : v < 32) (M : Mem) : f_X10_has x (nI v) M = some (if bt x v then 1 else 0) := by
  rw [f_X10_has, sh_bit x hv]
  cases bt x v
  · simp [ne01]
  · simp
theorem f_with (x : Int32) (v : Nat) (M : Mem) : f_X10_with x (nI v) M = some (bon x v) := rfl
theorem f_without (x : Int32) (v : Nat) (M : Mem) : f_X10_without0 x (nI v) M = some (bof x v) := rfl
theorem bt_z {x : Int32} : x = 0 ↔ ∀ i, i < 32 → bt x i = false :=
  ⟨fun h i _ => by rw [h, b_0], fun h => b_ext fun i hi => by rw [h i hi, b_0]⟩
/-! ===== the model's state: registers, who waits, letters, the book, the trace; how the reference's row holds it ===== -/
abbrev Ltr : Type := Int32 × Int32 × Int32
abbrev Wtr : Type := Nat × Int32
abbrev Row4 : Type := Int32 × Int32 × Int32 × Int32
abbrev St : Type := (Nat → Nat → Int32) × (Nat → List Wtr) × (Nat → List Ltr) × List Row4 × List Row4
def xR (S : St) : Nat → Nat → Int32 := S.1
def xW (S : St) : Nat → List Wtr := S.2.1
def xL (S : St) : Nat → List Ltr := S.2.2.1
def xE (S : St) : List Row4 := S.2.2.2.1
def xT (S : St) : List Row4 := S.2.2.2.2
def up1 {α : Type} (f : Nat → α) (o : Nat) (x : α) : Nat → α := fun a => if a = o then x else f a
theorem up1_s {α : Type} (f : Nat → α) (o : Nat) (x : α) : up1 f o x o = x := by simp [up1]
theorem up1_o {α : Type} (f : Nat → α) (o : Nat) (x : α) {a : Nat} (h : a ≠ o) : up1 f o x a = f a := by simp [up1, h]
def uR (S : St) (k i : Nat) (x : Int32) : St := (up2 S.1 k i x, S.2)
def uW (S : St) (a : Nat) (w : List Wtr) : St := (S.1, up1 S.2.1 a w, S.2.2)
def uL (S : St) (l : Nat) (x : List Ltr) : St := (S.1, S.2.1, up1 S.2.2.1 l x, S.2.2.2)
def uE (S : St) (x : Row4) : St := (S.1, S.2.1, S.2.2.1, S.2.2.2.1 ++ [x], S.2.2.2.2)
def uT (S : St) (x : Row4) : St := (S.1, S.2.1, S.2.2.1, S.2.2.2.1, S.2.2.2.2 ++ [x])
theorem xR_uR (S : St) (k i : Nat) (x : Int32) (a b : Nat) : xR (uR S k i x) a b = if a = k ∧ b = i then x else xR S a b := rfl
theorem xR_uW (S : St) (a : Nat) (w : List Wtr) : xR (uW S a w) = xR S := rfl
theorem xR_uL (S : St) (l : Nat) (x : List Ltr) : xR (uL S l x) = xR S := rfl
theorem xR_uE (S : St) (x : Row4) : xR (uE S x) = xR S := rfl
theorem xR_uT (S : St) (x : Row4) : xR (uT S x) = xR S := rfl
theorem xW_uR (S : St) (k i : Nat) (x : Int32) : xW (uR S k i x) = xW S := rfl
theorem xW_uW (S : St) (a : Nat) (w : List Wtr) (b : Nat) : xW (uW S a w) b = if b = a then w else xW S b := rfl
theorem xW_uL (S : St) (l : Nat) (x : List Ltr) : xW (uL S l x) = xW S := rfl
theorem xW_uE (S : St) (x : Row4) : xW (uE S x) = xW S := rfl
theorem xW_uT (S : St) (x : Row4) : xW (uT S x) = xW S := rfl
theorem xL_uR (S : St) (k i : Nat) (x : Int32) : xL (uR S k i x) = xL S := rfl
theorem xL_uW (S : St) (a : Nat) (w : List Wtr) : xL (uW S a w) = xL S := rfl
theorem xL_uL (S : St) (l : Nat) (x : List Ltr) (m : Nat) : xL (uL S l x) m = if m = l then x else xL S m := rfl
theorem xL_uE (S : St) (x : Row4) : xL (uE S x) = xL S := rfl
theorem xL_uT (S : St) (x : Row4) : xL (uT S x) = xL S := rfl
/-- where the reference's row holds register k of i -/
def ad (k i : Nat) : Nat := if k < 8 then 18 + 8 * i + k else if k < 11 then 146 + 44 * i + (k - 8) else if k < 15 then 9865 + 3 * i + (k - 12) else if k = 15 then 9851 + i else if k = 16 then 9859 + i else if k = 17 then 2 + i else if k = 18 then 10193 + i else if k = 19 then 10209 + i else i
def vk (k i : Nat) : Prop := (k < 11 ∧ i < 16) ∨ (12 ≤ k ∧ k < 15 ∧ i < 16) ∨ (k = 15 ∧ i < 6) ∨ (k = 16 ∧ i < 6) ∨ (k = 17 ∧ i < 16) ∨ (k = 18 ∧ i < 16) ∨ (k = 19 ∧ i < 256) ∨ (k = 20 ∧ i < 2)
theorem ad_cases {k i : Nat} (h : vk k i) : (k < 8 ∧ i < 16 ∧ ad k i = 18 + 8 * i + k) ∨ (8 ≤ k ∧ k < 11 ∧ i < 16 ∧ ad k i = 146 + 44 * i + (k - 8)) ∨ (12 ≤ k ∧ k < 15 ∧ i < 16 ∧ ad k i = 9865 + 3 * i + (k - 12)) ∨ (k = 15 ∧ i < 6 ∧ ad k i = 9851 + i) ∨ (k = 16 ∧ i < 6 ∧ ad k i = 9859 + i) ∨ (k = 17 ∧ i < 16 ∧ ad k i = 2 + i) ∨ (k = 18 ∧ i < 16 ∧ ad k i = 10193 + i) ∨ (k = 19 ∧ i < 256 ∧ ad k i = 10209 + i) ∨ (k = 20 ∧ i < 2 ∧ ad k i = i) := by
  unfold vk at h
  have a1 : k < 8 → ad k i = 18 + 8 * i + k := fun q => by unfold ad; rw [if_pos q]
  have a2 : ¬ k < 8 → k < 11 → ad k i = 146 + 44 * i + (k - 8) := fun q q2 => by unfold ad; rw [if_neg q, if_pos q2]
  have a3 : ¬ k < 11 → k < 15 → ad k i = 9865 + 3 * i + (k - 12) := fun q q2 => by unfold ad; rw [if_neg (by omega), if_neg q, if_pos q2]
  have a4 : k = 15 → ad k i = 9851 + i := fun q => by subst q; rfl
  have a5 : k = 16 → ad k i = 9859 + i := fun q => by subst q; rfl
  have a6 : k = 17 → ad k i = 2 + i := fun q => by subst q; rfl
  have a7 : k = 18 → ad k i = 10193 + i := fun q => by subst q; rfl
  have a8 : k = 19 → ad k i = 10209 + i := fun q => by subst q; rfl
  have a9 : k = 20 → ad k i = i := fun q => by subst q; rfl
  rcases h with ⟨h1, h2⟩ | ⟨h1, h2, h3⟩ | ⟨h1, h2⟩ | ⟨h1, h2⟩ | ⟨h1, h2⟩ | ⟨h1, h2⟩ | ⟨h1, h2⟩ | ⟨h1, h2⟩
  · by_cases q : k < 8
    · exact Or.inl ⟨q, h2, a1 q⟩
    · exact Or.inr (Or.inl ⟨Nat.le_of_not_lt q, h1, h2, a2 q h1⟩)
  · exact Or.inr (Or.inr (Or.inl ⟨h1, h2, h3, a3 (by omega) h2⟩))
  · exact Or.inr (Or.inr (Or.inr (Or.inl ⟨h1, h2, a4 h1⟩)))
  · exact Or.inr (Or.inr (Or.inr (Or.inr (Or.inl ⟨h1, h2, a5 h1⟩))))
  · exact Or.inr (Or.inr (Or.inr (Or.inr (Or.inr (Or.inl ⟨h1, h2, a6 h1⟩)))))
  · exact Or.inr (Or.inr (Or.inr (Or.inr (Or.inr (Or.inr (Or.inl ⟨h1, h2, a7 h1⟩))))))
  · exact Or.inr (Or.inr (Or.inr (Or.inr (Or.inr (Or.inr (Or.inr (Or.inl ⟨h1, h2, a8 h1⟩)))))))
  · exact Or.inr (Or.inr (Or.inr (Or.inr (Or.inr (Or.inr (Or.inr (Or.inr ⟨h1, h2, a9 h1⟩)))))))
theorem ad_inj {k i k' i' : Nat} (h : vk k i) (h' : vk k' i') (e : ad k i = ad k' i') : k = k' ∧ i = i' := by
  have a := ad_cases h
  have b := ad_cases h'
  generalize ad k i = x at *
  subst e
  rcases a with a | a | a | a | a | a | a | a | a <;> rcases b with b | b | b | b | b | b | b | b | b <;> first | omega | exact ⟨by omega, by omega⟩
theorem ad_lim {k i : Nat} (h : vk k i) : ad k i < 10465 ∧ (ad k i < 850 ∨ 9851 ≤ ad k i) ∧ (ad k i < 9857 ∨ 9858 < ad k i) ∧ (ad k i < 9913 ∨ 10193 ≤ ad k i) := by
  have a := ad_cases h
  generalize ad k i = x at *
  rcases a with a | a | a | a | a | a | a | a | a <;> exact ⟨by omega, by omega, by omega, by omega⟩
theorem ad_w {k i a j : Nat} (h : vk k i) (ha : a < 16) (hj : j < 41) : ad k i ≠ 149 + 44 * a + j := by
  have b := ad_cases h
  generalize ad k i = x at *
  rcases b with b | b | b | b | b | b | b | b | b <;> omega
/-- the reference's shape -/
def RS (M : Mem) : Prop := (∀ i, 120 ≤ i → i < 131 → M.1.2.1 i = tC.getD i (0, 0)) ∧ (∀ q, q ∈ tG → mR M q.1 q.2.1 = q.2.2) ∧ 131 ≤ mN M
theorem RS.e {M M' : Mem} (h : RS M) (e : M'.1 = M.1) : RS M' := by
  unfold RS mR mN at *
  rw [e]
  exact h
theorem RS.io {M : Mem} (h : RS M) {i c : Nat} (h1 : 120 ≤ i) (h2 : i < 131) (hc : (tC.getD i (0, 0)).1 = c) : isO M c i := by
  refine ⟨Nat.lt_of_lt_of_le h2 h.2.2, ?_⟩
  rw [mC, h.1 i h1 h2, hc]
theorem RS.ln {M : Mem} (h : RS M) {i c : Nat} (h1 : 120 ≤ i) (h2 : i < 131) (hc : (tC.getD i (0, 0)).2 = c) : mLn M i = c := by
  rw [mLn, h.1 i h1 h2, hc]
theorem RS.r {M : Mem} (h : RS M) {a b c : Nat} (q : (a, b, c) ∈ tG) : mR M a b = c := h.2.1 (a, b, c) q
theorem RS.toRK {M : Mem} (h : RS M) : RK M 120 121 :=
  ⟨h.io (by decide) (by decide) (by decide), h.r (by decide), h.io (by decide) (by decide) (by decide), h.ln (by decide) (by decide) (by decide)⟩
/-- M and M' hold the same but in the cells of P; no cell is made -/
def Fr (P : Nat → Prop) (M M' : Mem) : Prop := M'.1 = M.1 ∧ (∀ o, ¬ P o → ∀ k, mI M' o k = mI M o k) ∧ (∀ o k, mL M' o k = mL M o k)
theorem Fr.rf (P : Nat → Prop) (M : Mem) : Fr P M M := ⟨rfl, fun _ _ _ => rfl, fun _ _ => rfl⟩
theorem Fr.tr {P : Nat → Prop} {M M' M'' : Mem} (h : Fr P M M') (h' : Fr P M' M'') : Fr P M M'' :=
  ⟨h'.1.trans h.1, fun o q k => (h'.2.1 o q k).trans (h.2.1 o q k), fun o k => (h'.2.2 o k).trans (h.2.2 o k)⟩
theorem Fr.mo {P P' : Nat → Prop} {M M' : Mem} (h : Fr P M M') (q : ∀ o, P o → P' o) : Fr P' M M' :=
  ⟨h.1, fun o z k => h.2.1 o (fun y => z (q o y)) k, h.2.2⟩
theorem Fr.tsI {P : Nat → Prop} {M : Mem} {o k : Nat} {x : Int32} (h : P o) : Fr P M (sI M o k x) :=
  ⟨rfl, fun a q b => mI_o M o k x b (fun e => q (e ▸ h)), fun _ _ => rfl⟩
def PA (o : Nat) : Prop := 121 ≤ o ∧ o ≤ 123
def PM (o : Nat) : Prop := 120 ≤ o ∧ o ≤ 124
def PR (o : Nat) : Prop := 120 ≤ o ∧ o ≤ 130
/-- letters in the order of their pairs -/
def fl (S : St) : List (Nat × Ltr) := (List.range 256).flatMap fun l => (xL S l).map fun x => (l, x)
def enc (q : Nat × Ltr) : Int32 := ((q.2.2.1 <<< ((11 : Int32) &&& 31)) ||| (q.2.1 <<< ((8 : Int32) &&& 31))) ||| nI q.1
def Seg (M : Mem) (tw : Bool) (p : Nat) (xs : List (Nat × Ltr)) : Prop := ∀ i q, xs[i]? = some q → mI M 121 (851 + (p + i)) = enc q ∧ (tw = true → mI M 123 (p + i) = q.2.2.2)
def lastn {α : Type} (n : Nat) (l : List α) : List α := l.drop (l.length - n)
def Rows (M : Mem) (A : Nat) (xs : List Row4) : Prop := ∀ i q, xs[i]? = some q → mI M 121 (A + 4 * i) = q.1 ∧ mI M 121 (A + 4 * i + 1) = q.2.1 ∧ mI M 121 (A + 4 * i + 2) = q.2.2.1 ∧ mI M 121 (A + 4 * i + 3) = q.2.2.2
def RVa (M : Mem) (S : St) : Prop := ∀ k i, vk k i → mI M 121 (ad k i) = xR S k i
def RVw (M : Mem) (S : St) : Prop := ∀ a, a < 16 → mI M 121 (149 + 44 * a) = nI (xW S a).length ∧ (xW S a).length ≤ 20 ∧ (∀ i q, (xW S a)[i]? = some q → mI M 121 (150 + 44 * a + 2 * i) = nI q.1 ∧ mI M 121 (151 + 44 * a + 2 * i) = q.2) ∧ (∀ i, (xW S a).length ≤ i → i < 20 → mI M 121 (150 + 44 * a + 2 * i) = 0 ∧ mI M 121 (151 + 44 * a + 2 * i) = 0)
def RVl (M : Mem) (tw : Bool) (S : St) : Prop := mI M 121 850 = nI (fl S).length ∧ (fl S).length ≤ 9000 ∧ Seg M tw 0 (fl S)
def RVb (M : Mem) (A B n : Nat) (xs : List Row4) : Prop := mI M 121 A = nI (lastn n xs).length ∧ Rows M B (lastn n xs)
def RV (M : Mem) (tw : Bool) (t : Int32) (S : St) (pb pt : List Row4) : Prop := RS M ∧ mI M 120 3 = t ∧ RVa M S ∧ RVw M S ∧ RVl M tw S ∧ RVb M 9857 9913 30 (pb ++ xE S) ∧ RVb M 9858 10033 40 (pt ++ xT S)
/-! ===== a letter as one number; the reference's letters ===== -/
theorem bt_nI (m : Nat) {i : Nat} (hi : i < 32) : bt (nI m) i = m.testBit i := by
  show (BitVec.ofNat 32 m).getLsbD i = _
  rw [BitVec.getLsbD_ofNat]
  simp [hi]
theorem bt_lt {m k i : Nat} (h : m < 2 ^ k) (hk : k ≤ i) (hi : i < 32) : bt (nI m) i = false := by
  rw [bt_nI m hi]
  exact Nat.testBit_lt_two_pow (Nat.lt_of_lt_of_le h (Nat.pow_le_pow_right (by decide) hk))
theorem b_shl11 (x : Int32) {i : Nat} (hi : i < 32) : bt (x <<< ((11 : Int32) &&& 31)) i = (decide (11 ≤ i) && bt x (i - 11)) := b_shl 11 (by omega) x hi
theorem b_shl08 (x : Int32) {i : Nat} (hi : i < 32) : bt (x <<< ((8 : Int32) &&& 31)) i = (decide (8 ≤ i) && bt x (i - 8)) := b_shl 8 (by omega) x hi
theorem b_shl03 (x : Int32) {i : Nat} (hi : i < 32) : bt (x <<< ((3 : Int32) &&& 31)) i = (decide (3 ≤ i) && bt x (i - 3)) := b_shl 3 (by omega) x hi
theorem b_sshr11 (x : Int32) {i : Nat} (hi : i < 32) : bt (x >>> ((11 : Int32) &&& 31)) i = if 11 + i < 32 then bt x (11 + i) else bt x 31 := b_sshr 11 (by omega) x hi
theorem b_sshr08 (x : Int32) {i : Nat} (hi : i < 32) : bt (x >>> ((8 : Int32) &&& 31)) i = if 8 + i < 32 then bt x (8 + i) else bt x 31 := b_sshr 8 (by omega) x hi
theorem b_sshr03 (x : Int32) {i : Nat} (hi : i < 32) : bt (x >>> ((3 : Int32) &&& 31)) i = if 3 + i < 32 then bt x (3 + i) else bt x 31 := b_sshr 3 (by omega) x hi
theorem b_c255 : ∀ i, i < 32 → bt 255 i = decide (i < 8) := by decide +kernel
theorem b_c7 : ∀ i, i < 32 → bt 7 i = decide (i < 3) := by decide +kernel
theorem enc_b (q : Nat × Ltr) {i : Nat} (hi : i < 32) : bt (enc q) i = (((decide (11 ≤ i) && bt q.2.2.1 (i - 11)) || (decide (8 ≤ i) && bt q.2.1 (i - 8))) || bt (nI q.1) i) := by
  rw [enc, b_or, b_or, b_shl11 _ hi, b_shl08 _ hi]
theorem enc_pair {q : Nat × Ltr} (h : q.1 < 256) : enc q &&& (255 : Int32) = nI q.1 := by
  apply b_ext
  intro i hi
  rw [b_and, enc_b q hi, b_c255 i hi]
  by_cases h8 : i < 8
  · simp [h8, show ¬ 11 ≤ i by omega, show ¬ 8 ≤ i by omega]
  · rw [bt_lt (k := 8) h (by omega) hi]
    simp [h8]
theorem enc_kind {q : Nat × Ltr} (h : q.1 < 256) {k : Nat} (hk : k < 8) (e : q.2.1 = nI k) : (enc q >>> ((8 : Int32) &&& 31)) &&& (7 : Int32) = nI k := by
  apply b_ext
  intro i hi
  rw [b_and, b_sshr08 _ hi, b_c7 i hi]
  by_cases h3 : i < 3
  · rw [if_pos (by omega), enc_b q (by omega), bt_lt (k := 8) h (by omega) (by omega), e]
    simp [h3, show ¬ 11 ≤ 8 + i by omega]
  · rw [bt_lt (k := 3) hk (by omega) hi]
    simp [h3]
theorem enc_stamp {q : Nat × Ltr} (h : q.1 < 256) {k : Nat} (hk : k < 8) (e : q.2.1 = nI k) {s : Nat} (hs : s < 1048576) (es : q.2.2.1 = nI s) : enc q >>> ((11 : Int32) &&& 31) = nI s := by
  apply b_ext
  intro i hi
  rw [b_sshr11 _ hi]
  by_cases h3 : i < 21
  · rw [if_pos (by omega), enc_b q (by omega), bt_lt (k := 8) h (by omega) (by omega), e, es, bt_lt (k := 3) hk (by omega) (by omega)]
    simp
  · rw [if_neg (by omega), enc_b q (by omega), bt_lt (k := 8) h (by omega) (by omega), e, es, bt_lt (k := 3) hk (by omega) (by omega), bt_lt (k := 20) hs (by omega) (by omega), bt_lt (k := 20) hs (by omega) hi]
    simp
theorem fl_mem {S : St} {q : Nat × Ltr} (h : q ∈ fl S) : q.1 < 256 ∧ q.2 ∈ xL S q.1 := by
  unfold fl at h
  simp only [List.mem_flatMap, List.mem_range, List.mem_map] at h
  obtain ⟨l, hl, x, hx, rfl⟩ := h
  exact ⟨hl, hx⟩
theorem fm_cg {α β : Type} {f g : α → List β} : ∀ (l : List α), (∀ x, x ∈ l → f x = g x) → l.flatMap f = l.flatMap g := by
  intro l
  induction l with
  | nil => intro _; rfl
  | cons a l ih =>
    intro h
    rw [List.flatMap_cons, List.flatMap_cons, h a (by simp), ih (fun x hx => h x (by simp [hx]))]
theorem nil_app {α : Type} (l : List α) : l = [] ∨ ∃ p z, l = p ++ [z] := by
  rcases List.eq_nil_or_concat l with h | ⟨p, z, h⟩
  · exact Or.inl h
  · exact Or.inr ⟨p, z, by rw [h, List.concat_eq_append]⟩
def flr (L : Nat → List Ltr) (a n : Nat) : List (Nat × Ltr) := (List.range' a n).flatMap fun l => (L l).map fun x => (l, x)
theorem flr_split (L : Nat → List Ltr) (l : Nat) (h : l < 256) : flr L 0 256 = flr L 0 l ++ ((L l).map fun x => (l, x)) ++ flr L (l + 1) (255 - l) := by
  have e : List.range' 0 256 = List.range' 0 l ++ (List.range' l 1 ++ List.range' (l + 1) (255 - l)) := by
    have e1 : List.range' l 1 ++ List.range' (l + 1) (255 - l) = List.range' l (1 + (255 - l)) := by
      have := List.range'_append (s := l) (m := 1) (n := 255 - l) (step := 1)
      simpa using this
    have e2 : List.range' 0 l ++ List.range' l (1 + (255 - l)) = List.range' 0 (l + (1 + (255 - l))) := by
      have := List.range'_append (s := 0) (m := l) (n := 1 + (255 - l)) (step := 1)
      simpa using this
    rw [e1, e2]
    congr 1
    omega
  unfold flr
  rw [e, List.flatMap_append, List.flatMap_append]
  simp [List.append_assoc]
theorem fl_r (S : St) : fl S = flr (xL S) 0 256 := by
  unfold fl flr
  rw [List.range_eq_range']
theorem flr_up {L : Nat → List Ltr} {l a n : Nat} {x : List Ltr} (h : l < a ∨ a + n ≤ l) : flr (up1 L l x) a n = flr L a n := by
  unfold flr
  refine fm_cg _ fun m hm => ?_
  have hm2 := List.mem_range'_1.mp hm
  rw [up1_o _ _ _ (by omega)]
theorem flr_in {L : Nat → List Ltr} {a n : Nat} {q : Nat × Ltr} (h : q ∈ flr L a n) : a ≤ q.1 ∧ q.1 < a + n ∧ q.2 ∈ L q.1 := by
  unfold flr at h
  simp only [List.mem_flatMap, List.mem_map] at h
  obtain ⟨l, hl, x, hx, rfl⟩ := h
  have := List.mem_range'_1.mp hl
  exact ⟨this.1, this.2, hx⟩
theorem fl_split (S : St) {l : Nat} (h : l < 256) : fl S = flr (xL S) 0 l ++ ((xL S l).map fun x => (l, x)) ++ flr (xL S) (l + 1) (255 - l) := by
  rw [fl_r, flr_split _ l h]
theorem fl_uL (S : St) {l : Nat} (h : l < 256) (x : List Ltr) : fl (uL S l x) = flr (xL S) 0 l ++ (x.map fun x => (l, x)) ++ flr (xL S) (l + 1) (255 - l) := by
  rw [fl_split _ h]
  have e : xL (uL S l x) = up1 (xL S) l x := rfl
  rw [e, flr_up (Or.inr (by omega)), flr_up (Or.inl (by omega)), up1_s]
/-- the cells of letters alone have changed -/
def FrL (M M' : Mem) : Prop := M'.1 = M.1 ∧ (∀ o, o ≠ 121 → o ≠ 123 → ∀ k, mI M' o k = mI M o k) ∧ (∀ o k, mL M' o k = mL M o k) ∧ (∀ b, b < 851 ∨ 9851 ≤ b → mI M' 121 b = mI M 121 b)
theorem FrL.rf (M : Mem) : FrL M M := ⟨rfl, fun _ _ _ _ => rfl, fun _ _ => rfl, fun _ _ => rfl⟩
theorem FrL.tr {M M' M'' : Mem} (h : FrL M M') (h' : FrL M' M'') : FrL M M'' :=
  ⟨h'.1.trans h.1, fun o q1 q2 k => (h'.2.1 o q1 q2 k).trans (h.2.1 o q1 q2 k), fun o k => (h'.2.2.1 o k).trans (h.2.2.1 o k), fun b q => (h'.2.2.2 b q).trans (h.2.2.2 b q)⟩
theorem FrL.toFr {M M' : Mem} (h : FrL M M') : Fr PA M M' :=
  ⟨h.1, fun o q k => h.2.1 o (fun e => q (e ▸ ⟨by decide, by decide⟩)) (fun e => q (e ▸ ⟨by decide, by decide⟩)) k, fun o k => h.2.2.1 o k⟩
theorem Seg.nil (M : Mem) (tw : Bool) (p : Nat) : Seg M tw p [] := fun i q h => by simp at h
theorem Seg.ap {M : Mem} {tw : Bool} {p : Nat} {xs ys : List (Nat × Ltr)} : Seg M tw p (xs ++ ys) ↔ Seg M tw p xs ∧ Seg M tw (p + xs.length) ys := by
  constructor
  · intro h
    refine ⟨fun i q hi => h i q ?_, fun i q hi => ?_⟩
    · rw [List.getElem?_append_left (List.getElem?_eq_some_iff.mp hi).1, hi]
    · have := h (xs.length + i) q (by rw [List.getElem?_append_right (by omega), Nat.add_sub_cancel_left, hi])
      rw [show p + xs.length + i = p + (xs.length + i) by omega]
      exact this
  · intro h i q hi
    by_cases hlt : i < xs.length
    · rw [List.getElem?_append_left hlt] at hi
      exact h.1 i q hi
    · rw [List.getElem?_append_right (by omega)] at hi
      have := h.2 (i - xs.length) q hi
      rw [show p + xs.length + (i - xs.length) = p + i by omega] at this
      exact this
theorem Seg.one {M : Mem} {tw : Bool} {p : Nat} {x : Nat × Ltr} : Seg M tw p [x] ↔ (mI M 121 (851 + p) = enc x ∧ (tw = true → mI M 123 p = x.2.2.2)) := by
  constructor
  · intro h
    exact h 0 x rfl
  · intro h i q hi
    cases i with
    | zero => simp at hi; subst hi; exact h
    | succ i => simp at hi
theorem Seg.cg {M M' : Mem} {tw : Bool} {p : Nat} {xs : List (Nat × Ltr)} (h : Seg M tw p xs) (e : ∀ i, p ≤ i → i < p + xs.length → mI M' 121 (851 + i) = mI M 121 (851 + i) ∧ mI M' 123 i = mI M 123 i) : Seg M' tw p xs := by
  intro i q hi
  have hl := (List.getElem?_eq_some_iff.mp hi).1
  have := e (p + i) (by omega) (by omega)
  rw [this.1, this.2]
  exact h i q hi
theorem rs_f {α : Type} {M : Mem} (h : RS M) (x : Option α) : chk (isO M 10 120) x = x := chk_t (h.io (by decide) (by decide) (by decide))
theorem rs_fa {α : Type} {M : Mem} (h : RS M) (x : Option α) : chk (isO M 100 121) x = x := chk_t (h.io (by decide) (by decide) (by decide))
theorem rs_fw {α : Type} {M : Mem} (h : RS M) (x : Option α) : chk (isO M 100 123) x = x := chk_t (h.io (by decide) (by decide) (by decide))
theorem rs_0 {M : Mem} (h : RS M) : mR M 120 0 = 121 := h.r (by decide)
theorem rs_2 {M : Mem} (h : RS M) : mR M 120 2 = 123 := h.r (by decide)
theorem rs_in {M : Mem} (h : RS M) {k : Nat} (hk : k < 10465) : inB (nI k) (mLn M 121) := by
  rw [h.ln (c := 10465) (by decide) (by decide) (by decide)]; exact inB_n hk (by decide)
theorem rs_inw {M : Mem} (h : RS M) {k : Nat} (hk : k < 9000) : inB (nI k) (mLn M 123) := by
  rw [h.ln (c := 9000) (by decide) (by decide) (by decide)]; exact inB_n hk (by decide)
theorem rs_c {α : Type} {M : Mem} (h : RS M) {k : Nat} (hk : k < 10465) (x : Option α) : chk (inB (nI k) (mLn M 121)) x = x := chk_t (rs_in h hk)
theorem rs_cw {α : Type} {M : Mem} (h : RS M) {k : Nat} (hk : k < 9000) (x : Option α) : chk (inB (nI k) (mLn M 123)) x = x := chk_t (rs_inw h hk)
theorem c851 (k : Nat) : (851 : Int32) + nI k = nI (851 + k) := by rw [show (851 : Int32) = nI 851 from rfl, nI_add]
theorem mI_c {M : Mem} {o k : Nat} (h : k < 10465) : mI M o (nI k).toNatClampNeg = mI M o k := by rw [nI_clamp (by omega)]
theorem sI_c {M : Mem} {o k : Nat} {x : Int32} (h : k < 10465) : sI M o (nI k).toNatClampNeg x = sI M o k x := by rw [nI_clamp (by omega)]
theorem cl_n {k : Nat} (h : k < 10465) : (nI k).toNatClampNeg = k := nI_clamp (by omega)
set_option maxHeartbeats 1000000 in
theorem send_l (tw : Bool) (pre : List (Nat × Ltr)) (l : Nat) (hl : l < 256) (kd s : Int32) (hpre : ∀ x, x ∈ pre → x.1 ≤ l) : ∀ (d : Nat) (q rest : List (Nat × Ltr)) (M : Mem) (n : Nat), q.length = d → (∀ x, x ∈ q → l < x.1 ∧ x.1 < 256) → pre.length + d + rest.length < 9000 → RS M → Seg M tw 0 (pre ++ q) → Seg M tw (pre.length + d + 1) rest → d + 1 ≤ n → ∃ n' M1, f_X10_send_18 n 120 kd s (nI l) (nI (pre.length + d)) M = f_X10_send_90 n' 120 kd s (nI l) (nI pre.length) M1 ∧ Seg M1 tw 0 pre ∧ Seg M1 tw (pre.length + 1) (q ++ rest) ∧ FrL M M1 := by
  intro d
  induction d with
  | zero =>
    intro q rest M n hq hlt hlen hS h1 h2 hn
    have hq0 : q = [] := List.eq_nil_of_length_eq_zero hq
    subst hq0
    obtain ⟨n, rfl⟩ : ∃ m, n = m + 1 := ⟨n - 1, by omega⟩
    refine ⟨n, M, ?_, by simpa using h1, by simpa using h2, FrL.rf M⟩
    rw [f_X10_send_18, Nat.add_zero]
    rcases nil_app pre with rfl | ⟨pre', z, rfl⟩
    · rw [if_pos (show nI ([] : List (Nat × Ltr)).length ≤ 0 from nI_le (Nat.le_refl 0) (by decide))]
    · have hz := hpre z (by simp)
      have hg := h1 pre'.length z (by simp)
      have hk : (pre' ++ [z]).length = pre'.length + 1 := by simp
      have hv : mI M 121 (nI (851 + pre'.length)).toNatClampNeg = enc z := by
        rw [cl_n (by rw [hk] at hlen; omega), show 851 + pre'.length = 851 + (0 + pre'.length) by omega]; exact hg.1
      rw [hk] at hlen ⊢
      rw [if_neg (by rw [show (0 : Int32) = nI 0 from rfl]; exact nI_ge (by omega) (by omega)), rs_f hS, rs_0 hS, bnd_e, rs_fa hS, c851, show nI (851 + (pre'.length + 1)) - (1 : Int32) = nI (851 + pre'.length) by rw [show 851 + (pre'.length + 1) = (851 + pre'.length) + 1 by omega, nI_pred], rs_c hS (by omega), f_X10_pairOf, hv, enc_pair (by omega), obd_s, if_pos (nI_le hz (by omega))]
  | succ d ih =>
    intro q rest M n hq hlt hlen hS h1 h2 hn
    obtain ⟨n, rfl⟩ : ∃ m, n = m + 1 := ⟨n - 1, by omega⟩
    rcases nil_app q with rfl | ⟨q', z, rfl⟩
    · simp at hq
    have hq' : q'.length = d := by simpa using hq
    have hz := hlt z (by simp)
    have hg := h1 (pre.length + d) z (by rw [List.getElem?_append_right (by omega)]; simp [hq'])
    rw [Nat.zero_add] at hg
    have hv : mI M 121 (nI (851 + (pre.length + d))).toNatClampNeg = enc z := by rw [cl_n (by omega)]; exact hg.1
    have e1 : nI (851 + (pre.length + (d + 1))) - (1 : Int32) = nI (851 + (pre.length + d)) := by rw [show 851 + (pre.length + (d + 1)) = (851 + (pre.length + d)) + 1 by omega, nI_pred]
    have e2 : nI (pre.length + (d + 1)) - (1 : Int32) = nI (pre.length + d) := by rw [show pre.length + (d + 1) = (pre.length + d) + 1 by omega, nI_pred]
    have e3 : nI (pre.length + (d + 1)) + (-1 : Int32) = nI (pre.length + d) := by rw [show pre.length + (d + 1) = (pre.length + d) + 1 by omega, pk_m1]
    generalize hM2 : sI (sI M 121 (851 + (pre.length + (d + 1))) (enc z)) 123 (pre.length + (d + 1)) (mI M 123 (pre.length + d)) = M2
    have hSa : RS (sI M 121 (851 + (pre.length + (d + 1))) (enc z)) := hS.e rfl
    have hS2 : RS M2 := by subst hM2; exact hS.e rfl
    have m1 : ∀ b, b ≠ 851 + (pre.length + (d + 1)) → mI M2 121 b = mI M 121 b := by
      intro b hb; subst hM2; simp [mI_sI, hb]
    have m2 : ∀ b, b ≠ pre.length + (d + 1) → mI M2 123 b = mI M 123 b := by
      intro b hb; subst hM2; simp [mI_sI, hb]
    have m3 : mI M2 121 (851 + (pre.length + (d + 1))) = enc z := by subst hM2; simp [mI_sI]
    have m4 : mI M2 123 (pre.length + (d + 1)) = mI M 123 (pre.length + d) := by subst hM2; simp [mI_sI]
    have s1 : Seg M2 tw 0 (pre ++ q') := by
      have : Seg M tw 0 ((pre ++ q') ++ [z]) := by simpa using h1
      refine (Seg.ap.mp this).1.cg fun i _ hi => ?_
      simp only [List.length_append, hq'] at hi
      exact ⟨m1 _ (by omega), m2 _ (by omega)⟩
    have s2 : Seg M2 tw (pre.length + d + 1) (z :: rest) := by
      rw [show z :: rest = [z] ++ rest from rfl, Seg.ap]
      refine ⟨Seg.one.mpr ⟨?_, fun ht => ?_⟩, ?_⟩
      · rw [show 851 + (pre.length + d + 1) = 851 + (pre.length + (d + 1)) by omega]; exact m3
      · rw [show pre.length + d + 1 = pre.length + (d + 1) by omega, m4]; exact hg.2 ht
      · have h3 : Seg M tw (pre.length + (d + 1) + 1) rest := h2
        rw [show pre.length + d + 1 + [z].length = pre.length + (d + 1) + 1 by simp; omega]
        exact h3.cg fun i h5 _ => ⟨m1 _ (by omega), m2 _ (by omega)⟩
    obtain ⟨n', M1, i1, i2, i3, i4⟩ := ih q' (z :: rest) M2 n hq' (fun x hx => hlt x (by simp [hx])) (by simp; omega) hS2 s1 s2 (by omega)
    refine ⟨n', M1, ?_, i2, by simpa using i3, FrL.tr ⟨?_, ?_, ?_, ?_⟩ i4⟩
    · rw [← i1, f_X10_send_18, if_neg (by rw [show (0 : Int32) = nI 0 from rfl]; exact nI_ge (by omega) (by omega)), rs_f hS, rs_0 hS, bnd_e, rs_fa hS, c851, e1, rs_c hS (by omega), f_X10_pairOf, hv, enc_pair hz.2, obd_s, if_neg (nI_ge hz.1 (by omega)), bnd_e, rs_fa hS, bnd_e, rs_fa hS, rs_c hS (by omega), rs_c hS (by omega), bnd_e, cl_n (by omega), hv, rs_2 hSa, bnd_e, rs_fw hSa, bnd_e, rs_fw hSa, e2, rs_cw hSa (by omega), rs_cw hSa (by omega), bnd_e, e3, bnd_e, cl_n (by omega), cl_n (by omega), mI_o _ _ _ _ _ (by decide), hM2]
    · subst hM2; rfl
    · intro o q1 q2 k; subst hM2; simp [mI_sI, q1, q2]
    · intro o k; subst hM2; rfl
    · intro b hb; exact m1 b (by omega)
/-! ===== the reference sends a letter, takes one, finds one ===== -/
theorem RVw.cg {M M' : Mem} {S S' : St} (h : RVw M S) (e : ∀ b, 149 ≤ b → b < 850 → mI M' 121 b = mI M 121 b) (w : xW S' = xW S) : RVw M' S' := by
  intro a ha
  rw [w]
  obtain ⟨h1, h2, h3, h4⟩ := h a ha
  refine ⟨?_, h2, fun i q hi => ?_, fun i hi hj => ?_⟩
  · rw [e _ (by omega) (by omega)]; exact h1
  · have hl := (List.getElem?_eq_some_iff.mp hi).1
    rw [e _ (by omega) (by omega), e _ (by omega) (by omega)]
    exact h3 i q hi
  · rw [e _ (by omega) (by omega), e _ (by omega) (by omega)]
    exact h4 i hi hj
theorem lastn_le {α : Type} (n : Nat) (l : List α) : (lastn n l).length ≤ n := by
  unfold lastn
  rw [List.length_drop]
  omega
theorem RVb.cg {M M' : Mem} {A B n : Nat} {xs : List Row4} (h : RVb M A B n xs) (e : mI M' 121 A = mI M 121 A) (e2 : ∀ b, B ≤ b → b < B + 4 * n → mI M' 121 b = mI M 121 b) : RVb M' A B n xs := by
  refine ⟨e.trans h.1, fun i q hi => ?_⟩
  have hl := (List.getElem?_eq_some_iff.mp hi).1
  have hn := lastn_le n xs
  rw [e2 _ (by omega) (by omega), e2 _ (by omega) (by omega), e2 _ (by omega) (by omega), e2 _ (by omega) (by omega)]
  exact h.2 i q hi
/-- sent: a letter of kind k from f to g, stamp s, at time t -/
def sn (t : Int32) (k f g : Nat) (s : Int32) (S : St) : St := uL (uR S 16 k (xR S 16 k + 1)) (16 * f + g) (xL S (16 * f + g) ++ [(nI k, s, t)])
theorem fl_sn {t : Int32} {k f g : Nat} {s : Int32} {S : St} (h : 16 * f + g < 256) : fl (sn t k f g s S) = (flr (xL S) 0 (16 * f + g) ++ ((xL S (16 * f + g)).map fun x => (16 * f + g, x))) ++ ([(16 * f + g, (nI k, s, t))] ++ flr (xL S) (16 * f + g + 1) (255 - (16 * f + g))) := by
  unfold sn
  rw [fl_uL _ h, xL_uR]
  simp [List.append_assoc]
theorem c16 (f g : Nat) : ((16 : Int32) * nI f) + nI g = nI (16 * f + g) := by rw [show (16 : Int32) = nI 16 from rfl, pk_mul, nI_add]
theorem c9859 (k : Nat) : (9859 : Int32) + nI k = nI (9859 + k) := by rw [show (9859 : Int32) = nI 9859 from rfl, nI_add]
theorem l850 : (850 : Int32) = nI 850 := rfl
set_option maxHeartbeats 1000000 in
theorem RV.send {M : Mem} {tw : Bool} {t : Int32} {S : St} {pb pt : List Row4} (h : RV M tw t S pb pt) {k f g : Nat} {s : Int32} (hf : f < 16) (hg : g < 16) (hk : k < 6) (hlen : (fl S).length < 9000) {n : Nat} (hn : 9100 ≤ n) : ∃ M', f_X10_send n 120 (nI k) (nI f) (nI g) s M = some M' ∧ RV M' tw t (sn t k f g s S) pb pt ∧ Fr PA M M' := by
  obtain ⟨hS, ht, ha, hw, hl, hb1, hb2⟩ := h
  generalize hl0 : 16 * f + g = l
  have hl1 : l < 256 := by omega
  have hsp := fl_split S hl1
  generalize hP : flr (xL S) 0 l ++ ((xL S l).map fun x => (l, x)) = pre at hsp
  generalize hQ : flr (xL S) (l + 1) (255 - l) = q at hsp
  have hpre : ∀ x, x ∈ pre → x.1 ≤ l := by
    intro x hx
    subst hP
    rcases List.mem_append.mp hx with hx | hx
    · have := flr_in hx; omega
    · obtain ⟨y, _, rfl⟩ := List.mem_map.mp hx
      exact Nat.le_refl _
  have hq : ∀ x, x ∈ q → l < x.1 ∧ x.1 < 256 := by
    intro x hx
    subst hQ
    have := flr_in hx; omega
  have hlen2 : pre.length + q.length = (fl S).length := by rw [hsp, List.length_append]
  obtain ⟨n', M1, i1, i2, i3, i4⟩ := send_l tw pre l hl1 (nI k) s hpre q.length q [] M n rfl hq (by simp; omega) hS (hsp ▸ hl.2.2) (Seg.nil _ _ _) (by omega)
  have hS1 : RS M1 := hS.e i4.1
  rw [List.append_nil] at i3
  generalize hMa : sI M1 121 (851 + pre.length) (enc (l, (nI k, s, t))) = Ma
  generalize hMb : sI Ma 123 pre.length t = Mb
  generalize hMc : sI Mb 121 850 (nI ((fl S).length + 1)) = Mc
  generalize hMd : sI Mc 121 (9859 + k) (xR S 16 k + 1) = Md
  have hSa : RS Ma := by subst hMa; exact hS1.e rfl
  have hSb : RS Mb := by subst hMb; exact hSa.e rfl
  have hSc : RS Mc := by subst hMc; exact hSb.e rfl
  have hSd : RS Md := by subst hMd; exact hSc.e rfl
  have k1 : ∀ b, b < 850 ∨ (9851 ≤ b ∧ b ≠ 9859 + k) → mI Md 121 b = mI M 121 b := by
    intro b hb
    rw [← hMd, mI_n _ _ _ _ (by omega), ← hMc, mI_n _ _ _ _ (by omega), ← hMb, mI_o _ _ _ _ _ (by decide), ← hMa, mI_n _ _ _ _ (by omega)]
    exact i4.2.2.2 b (by omega)
  have k0 : ∀ o, o ≠ 121 → o ≠ 123 → ∀ b, mI Md o b = mI M o b := by
    intro o q1 q2 b
    rw [← hMd, mI_o _ _ _ _ _ q1, ← hMc, mI_o _ _ _ _ _ q1, ← hMb, mI_o _ _ _ _ _ q2, ← hMa, mI_o _ _ _ _ _ q1]
    exact i4.2.1 o q1 q2 b
  have t3 : mI Ma 120 3 = t := by
    rw [← hMa, mI_o _ _ _ _ _ (by decide), i4.2.1 120 (by decide) (by decide)]; exact ht
  have c3 : mI Mb 121 850 = nI (fl S).length := by
    rw [← hMb, mI_o _ _ _ _ _ (by decide), ← hMa, mI_n _ _ _ _ (by omega), i4.2.2.2 850 (by omega)]
    exact hl.1
  have v16 : vk 16 k := by unfold vk; omega
  have a16 : ad 16 k = 9859 + k := rfl
  have d3 : mI Mc 121 (9859 + k) = xR S 16 k := by
    rw [← hMc, mI_n _ _ _ _ (by omega), ← hMb, mI_o _ _ _ _ _ (by decide), ← hMa, mI_n _ _ _ _ (by omega), i4.2.2.2 _ (by omega), ← a16]
    exact ha 16 k v16
  refine ⟨Md, ?_, ⟨hSd, ?_, ?_, hw.cg (fun b _ _ => k1 b (by omega)) rfl, ⟨?_, ?_, ?_⟩, hb1.cg (k1 _ (by omega)) (fun b _ _ => k1 b (by omega)), hb2.cg (k1 _ (by omega)) (fun b _ _ => k1 b (by omega))⟩, ?_⟩
  · rw [f_X10_send, c16, hl0, bnd_e, rs_f hS, rs_0 hS, bnd_e, rs_fa hS, l850, rs_c hS (by decide), bnd_e, cl_n (by decide), hl.1, ← hlen2, i1, f_X10_send_90, rs_f hS1, rs_0 hS1, bnd_e, rs_fa hS1, c851, rs_c hS1 (by omega), bnd_e, cl_n (by omega)]
    rw [show ((s <<< ((11 : Int32) &&& 31)) ||| (nI k <<< ((8 : Int32) &&& 31))) ||| nI l = enc (l, (nI k, s, t)) from rfl, hMa, rs_2 hSa, bnd_e, rs_fw hSa, rs_cw hSa (by omega), bnd_e, cl_n (by omega), t3, hMb, rs_0 hSb, bnd_e, rs_fa hSb, l850, rs_c hSb (by decide), rs_c hSb (by decide), bnd_e, cl_n (by decide), c3, nI_1, hMc, rs_0 hSc, bnd_e, rs_fa hSc, c9859, bnd_e, rs_c hSc (by omega), rs_c hSc (by omega), bnd_e, cl_n (by omega), d3, hMd]
  · rw [k0 120 (by decide) (by decide)]; exact ht
  · intro kk ii hv
    have lim := ad_lim hv
    show mI Md 121 (ad kk ii) = if kk = 16 ∧ ii = k then _ else xR S kk ii
    by_cases e : kk = 16 ∧ ii = k
    · rw [if_pos e, e.1, e.2, a16, ← hMd, mI_s]
    · rw [if_neg e, k1 _ ?_]
      · exact ha kk ii hv
      · have : ad kk ii ≠ 9859 + k := fun z => e (ad_inj hv v16 (z.trans a16.symm))
        omega
  · rw [fl_sn (by omega)]
    simp only [hl0, hP, hQ, List.length_append, List.length_singleton]
    rw [← hMd, mI_n _ _ _ _ (by omega), ← hMc, mI_s, ← hlen2]
    congr 1
    omega
  · rw [fl_sn (by omega)]
    simp only [hl0, hP, hQ, List.length_append, List.length_singleton]
    omega
  · rw [fl_sn (by omega)]
    simp only [hl0, hP, hQ]
    rw [Seg.ap, Seg.ap, Seg.one]
    refine ⟨i2.cg fun i _ hi => ⟨?_, ?_⟩, ⟨?_, fun _ => ?_⟩, ?_⟩
    · rw [← hMd, mI_n _ _ _ _ (by omega), ← hMc, mI_n _ _ _ _ (by omega), ← hMb, mI_o _ _ _ _ _ (by decide), ← hMa, mI_n _ _ _ _ (by omega)]
    · rw [← hMd, mI_o _ _ _ _ _ (by decide), ← hMc, mI_o _ _ _ _ _ (by decide), ← hMb, mI_n _ _ _ _ (by omega), ← hMa, mI_o _ _ _ _ _ (by decide)]
    · rw [Nat.zero_add, ← hMd, mI_n _ _ _ _ (by omega), ← hMc, mI_n _ _ _ _ (by omega), ← hMb, mI_o _ _ _ _ _ (by decide), ← hMa, mI_s]
    · rw [Nat.zero_add, ← hMd, mI_o _ _ _ _ _ (by decide), ← hMc, mI_o _ _ _ _ _ (by decide), ← hMb, mI_s]
    · rw [Nat.zero_add, List.length_singleton]
      refine i3.cg fun i hi1 hi => ⟨?_, ?_⟩
      · rw [← hMd, mI_n _ _ _ _ (by omega), ← hMc, mI_n _ _ _ _ (by omega), ← hMb, mI_o _ _ _ _ _ (by decide), ← hMa, mI_n _ _ _ _ (by omega)]
      · rw [← hMd, mI_o _ _ _ _ _ (by decide), ← hMc, mI_o _ _ _ _ _ (by decide), ← hMb, mI_n _ _ _ _ (by omega), ← hMa, mI_o _ _ _ _ _ (by decide)]
  · refine Fr.tr i4.toFr (Fr.tr (M' := Ma) ?_ (Fr.tr (M' := Mb) ?_ (Fr.tr (M' := Mc) ?_ ?_)))
    · rw [← hMa]; exact Fr.tsI ⟨by decide, by decide⟩
    · rw [← hMb]; exact Fr.tsI ⟨by decide, by decide⟩
    · rw [← hMc]; exact Fr.tsI ⟨by decide, by decide⟩
    · rw [← hMd]; exact Fr.tsI ⟨by decide, by decide⟩
set_option maxHeartbeats 1000000 in
theorem take_l (tw : Bool) : ∀ (suf pre : List (Nat × Ltr)) (M : Mem) (n : Nat), RS M → mI M 121 850 = nI (pre.length + 1 + suf.length) → pre.length + suf.length < 9000 → Seg M tw 0 pre → Seg M tw (pre.length + 1) suf → suf.length + 1 ≤ n → ∃ M1, f_X10_takeLetter_2 n 120 (nI pre.length) M = some (sI (sI M1 121 850 (nI (pre.length + suf.length))) 121 (851 + (pre.length + suf.length)) 0) ∧ Seg M1 tw 0 (pre ++ suf) ∧ FrL M M1 := by
  intro suf
  induction suf with
  | nil =>
    intro pre M n hS hc hlen h1 h2 hn
    obtain ⟨n, rfl⟩ : ∃ m, n = m + 1 := ⟨n - 1, by simp at hn; omega⟩
    simp only [List.length_nil, Nat.add_zero] at hc hlen ⊢
    have hSb : RS (sI M 121 850 (nI pre.length)) := hS.e rfl
    refine ⟨M, ?_, by simpa using h1, FrL.rf M⟩
    rw [f_X10_takeLetter_2, rs_f hS, rs_0 hS, bnd_e, rs_fa hS, l850, rs_c hS (by decide), mI_c (by decide), hc, nI_1, if_pos (nI_le (Nat.le_refl _) (by omega)), bnd_e, rs_fa hS, rs_c hS (by decide), rs_c hS (by decide), mI_c (by decide), hc, nI_pred, sI_c (by decide), bnd_e, rs_0 hSb, bnd_e, rs_fa hSb, bnd_e, rs_fa hSb, rs_c hSb (by decide), mI_c (by decide), mI_s, c851, rs_c hSb (by omega), sI_c (by omega), bnd_e]
  | cons z suf ih =>
    intro pre M n hS hc hlen h1 h2 hn
    simp only [List.length_cons] at hc hlen hn ⊢
    obtain ⟨n, rfl⟩ : ∃ m, n = m + 1 := ⟨n - 1, by omega⟩
    have hg := h2 0 z rfl
    simp only [Nat.add_zero] at hg
    generalize hMa : sI M 121 (851 + pre.length) (enc z) = Ma
    generalize hMb : sI Ma 123 pre.length (mI M 123 (pre.length + 1)) = Mb
    have hSa : RS Ma := by subst hMa; exact hS.e rfl
    have hSb : RS Mb := by subst hMb; exact hSa.e rfl
    have m1 : ∀ b, b ≠ 851 + pre.length → mI Mb 121 b = mI M 121 b := by
      intro b hb
      rw [← hMb, mI_o _ _ _ _ _ (by decide), ← hMa, mI_n _ _ _ _ hb]
    have m2 : ∀ b, b ≠ pre.length → mI Mb 123 b = mI M 123 b := by
      intro b hb
      rw [← hMb, mI_n _ _ _ _ hb, ← hMa, mI_o _ _ _ _ _ (by decide)]
    have e1 : mI Ma 123 (pre.length + 1) = mI M 123 (pre.length + 1) := by rw [← hMa, mI_o _ _ _ _ _ (by decide)]
    have s1 : Seg Mb tw 0 (pre ++ [z]) := by
      rw [Seg.ap, Seg.one]
      refine ⟨h1.cg fun i _ hi => ⟨m1 _ (by omega), m2 _ (by omega)⟩, ?_, fun ht => ?_⟩
      · rw [Nat.zero_add, ← hMb, mI_o _ _ _ _ _ (by decide), ← hMa, mI_s]
      · rw [Nat.zero_add, ← hMb, mI_s]; exact hg.2 ht
    have s2 : Seg Mb tw ((pre ++ [z]).length + 1) suf := by
      have h3 : Seg M tw (pre.length + 1) ([z] ++ suf) := h2
      have h4 := (Seg.ap.mp h3).2
      rw [show (pre ++ [z]).length + 1 = pre.length + 1 + [z].length by simp]
      exact h4.cg fun i hi _ => ⟨m1 _ (by simp at hi; omega), m2 _ (by simp at hi; omega)⟩
    have el : (pre ++ [z]).length = pre.length + 1 := by simp
    obtain ⟨M1, i1, i2, i3⟩ := ih (pre ++ [z]) Mb n hSb (by rw [m1 _ (by omega), hc, el]; congr 1; omega) (by rw [el]; omega) s1 s2 (by omega)
    refine ⟨M1, ?_, by simpa using i2, FrL.tr ⟨?_, ?_, ?_, ?_⟩ i3⟩
    · rw [el] at i1
      rw [show pre.length + (suf.length + 1) = pre.length + 1 + suf.length by omega, ← i1, f_X10_takeLetter_2, rs_f hS, rs_0 hS, bnd_e, rs_fa hS, l850, rs_c hS (by decide), mI_c (by decide), hc, nI_1, if_neg (nI_ge (by omega) (by omega)), bnd_e, rs_fa hS, bnd_e, rs_fa hS, c851, nI_1, rs_c hS (by omega), rs_c hS (by omega), bnd_e, sI_c (by omega), mI_c (by omega), show 851 + pre.length + 1 = 851 + (pre.length + 1) by omega, hg.1, hMa, rs_2 hSa, bnd_e, rs_fw hSa, bnd_e, rs_fw hSa, rs_cw hSa (by omega), rs_cw hSa (by omega), bnd_e, sI_c (by omega), mI_c (by omega), e1, hMb, bnd_e]
    · rw [← hMb, ← hMa]; rfl
    · intro o q1 q2 k
      rw [← hMb, mI_o _ _ _ _ _ q2, ← hMa, mI_o _ _ _ _ _ q1]
    · intro o k; rw [← hMb, ← hMa]; rfl
    · intro b hb; exact m1 b (by omega)
theorem at_l {M : Mem} {tw : Bool} (hS : RS M) {f g : Nat} (hf : f < 16) (hg : g < 16) (all : List (Nat × Ltr)) (hc : mI M 121 850 = nI all.length) (hlen : all.length ≤ 9000) (hs : Seg M tw 0 all) (hp : ∀ x, x ∈ all → x.1 < 256) : ∀ (a pre : List (Nat × Ltr)) (n : Nat) (b : List (Nat × Ltr)), all = pre ++ a ++ b → (∀ x, x ∈ a → x.1 ≠ 16 * f + g) → a.length + 1 ≤ n → (∀ z b', b = z :: b' → z.1 = 16 * f + g) → f_X10_letterAt_2 M n 120 (nI f) (nI g) (nI pre.length) = some (if b = [] then -1 else nI (pre.length + a.length)) := by
  intro a
  induction a with
  | nil =>
    intro pre n b e h1 hn hb
    obtain ⟨n, rfl⟩ : ∃ m, n = m + 1 := ⟨n - 1, by simp at hn; omega⟩
    simp only [List.append_nil] at e
    cases b with
    | nil =>
      rw [List.append_nil] at e
      subst e
      rw [f_X10_letterAt_2, rs_f hS, rs_0 hS, bnd_e, rs_fa hS, l850, rs_c hS (by decide), cl_n (by decide), hc, if_pos (nI_le (Nat.le_refl _) (by omega)), if_pos rfl]
    | cons z b =>
      have hz := hb z b rfl
      have hl : all.length = pre.length + 1 + b.length := by rw [e]; simp; omega
      have hgz := hs pre.length z (by rw [e, List.getElem?_append_right (Nat.le_refl _)]; simp)
      rw [Nat.zero_add] at hgz
      rw [f_X10_letterAt_2, rs_f hS, rs_0 hS, bnd_e, rs_fa hS, l850, rs_c hS (by decide), cl_n (by decide), hc, if_neg (nI_ge (by omega) (by omega)), bnd_e, rs_fa hS, c851, rs_c hS (by omega), f_X10_pairOf, cl_n (by omega), hgz.1, enc_pair (by omega), obd_s, c16, hz, if_pos rfl, if_neg (by simp)]
      simp
  | cons y a ih =>
    intro pre n b e h1 hn hb
    simp only [List.length_cons] at hn
    obtain ⟨n, rfl⟩ : ∃ m, n = m + 1 := ⟨n - 1, by omega⟩
    have hy := h1 y (by simp)
    have hy2 : y.1 < 256 := hp y (by rw [e]; simp)
    have hl : all.length = pre.length + (a.length + 1) + b.length := by rw [e]; simp; omega
    have hgz := hs pre.length y (by rw [e, List.append_assoc, List.getElem?_append_right (Nat.le_refl _)]; simp)
    rw [Nat.zero_add] at hgz
    have hi := ih (pre ++ [y]) n b (by rw [e]; simp) (fun x hx => h1 x (by simp [hx])) (by omega) hb
    rw [show (pre ++ [y]).length = pre.length + 1 by simp] at hi
    rw [f_X10_letterAt_2, rs_f hS, rs_0 hS, bnd_e, rs_fa hS, l850, rs_c hS (by decide), cl_n (by decide), hc, if_neg (nI_ge (by omega) (by omega)), bnd_e, rs_fa hS, c851, rs_c hS (by omega), f_X10_pairOf, cl_n (by omega), hgz.1, enc_pair hy2, obd_s, c16, if_neg (fun q => hy ((nI_eq (by omega) (by omega)).mp q)), bnd_e, nI_1, hi]
    congr 2
    congr 1
    simp; omega
/-- the place of the first letter of a lane that has one -/
theorem RV.tat {M : Mem} {tw : Bool} {t : Int32} {S : St} {pb pt : List Row4} (h : RV M tw t S pb pt) {f g : Nat} (hf : f < 16) (hg : g < 16) {x : Ltr} {r : List Ltr} (hx : xL S (16 * f + g) = x :: r) {n : Nat} (hn : 9100 ≤ n) : f_X10_letterAt n 120 (nI f) (nI g) M = some (nI (flr (xL S) 0 (16 * f + g)).length) := by
  obtain ⟨hS, ht, ha, hw, hl, hb1, hb2⟩ := h
  have hsp := fl_split S (show 16 * f + g < 256 by omega)
  have hb : (flr (xL S) 0 (16 * f + g)).length ≤ (fl S).length := by rw [hsp, List.length_append, List.length_append]; omega
  have := hl.2.1
  have q := at_l hS hf hg (fl S) hl.1 hl.2.1 hl.2.2 (fun x hx => (fl_mem hx).1) (flr (xL S) 0 (16 * f + g)) [] n ((((xL S (16 * f + g)).map fun x => (16 * f + g, x))) ++ flr (xL S) (16 * f + g + 1) (255 - (16 * f + g))) (by rw [hsp]; simp) (fun x hx => by have := flr_in hx; omega) (by omega) (by rw [hx]; intro z b' e; simp at e; rw [← e.1])
  rw [f_X10_letterAt, show (0 : Int32) = nI ([] : List (Nat × Ltr)).length from rfl, q, if_neg (by rw [hx]; simp)]
  simp
theorem RV.tno {M : Mem} {tw : Bool} {t : Int32} {S : St} {pb pt : List Row4} (h : RV M tw t S pb pt) {f g : Nat} (hf : f < 16) (hg : g < 16) (hx : xL S (16 * f + g) = []) {n : Nat} (hn : 9100 ≤ n) : f_X10_letterAt n 120 (nI f) (nI g) M = some (-1) := by
  obtain ⟨hS, ht, ha, hw, hl, hb1, hb2⟩ := h
  have := hl.2.1
  have q := at_l hS hf hg (fl S) hl.1 hl.2.1 hl.2.2 (fun x hx => (fl_mem hx).1) (fl S) [] n [] (by simp) (fun x hm e => by have := (fl_mem hm).2; rw [e, hx] at this; simp at this) (by omega) (by simp)
  rw [f_X10_letterAt, show (0 : Int32) = nI ([] : List (Nat × Ltr)).length from rfl, q, if_pos rfl]
set_option maxHeartbeats 1000000 in
/-- the first letter of a lane is taken away -/
theorem RV.take {M : Mem} {tw : Bool} {t : Int32} {S : St} {pb pt : List Row4} (h : RV M tw t S pb pt) {l : Nat} (hl0 : l < 256) {x : Ltr} {r : List Ltr} (hx : xL S l = x :: r) {n : Nat} (hn : 9100 ≤ n) : mI M 121 (851 + (flr (xL S) 0 l).length) = enc (l, x) ∧ (flr (xL S) 0 l).length < 9000 ∧ ∃ M', f_X10_takeLetter n 120 (nI (flr (xL S) 0 l).length) M = some M' ∧ RV M' tw t (uL S l r) pb pt ∧ Fr PA M M' := by
  obtain ⟨hS, ht, ha, hw, hl, hb1, hb2⟩ := h
  have hsp := fl_split S hl0
  rw [hx] at hsp
  have hnew := fl_uL S hl0 r
  generalize flr (xL S) 0 l = pre at hsp hnew ⊢
  generalize hQ : (r.map fun x => (l, x)) ++ flr (xL S) (l + 1) (255 - l) = suf
  have hsp2 : fl S = pre ++ ([(l, x)] ++ suf) := by rw [hsp, ← hQ]; simp
  have hnew2 : fl (uL S l r) = pre ++ suf := by rw [hnew, ← hQ]; simp
  have hlen : (fl S).length = pre.length + 1 + suf.length := by rw [hsp2]; simp; omega
  have hle := hl.2.1
  have hseg := hl.2.2
  rw [hsp2, Seg.ap, Seg.ap, Seg.one, Nat.zero_add, List.length_singleton] at hseg
  obtain ⟨g1, g2, g3⟩ := hseg
  obtain ⟨M1, i1, i2, i3⟩ := take_l tw suf pre M n hS (by rw [hl.1, hlen]) (by omega) g1 g3 (by omega)
  have hS1 : RS M1 := hS.e i3.1
  refine ⟨g2.1, by omega, _, i1, ?_, ?_⟩
  · generalize hMa : sI M1 121 850 (nI (pre.length + suf.length)) = Ma
    generalize hMb : sI Ma 121 (851 + (pre.length + suf.length)) 0 = Mb
    have k1 : ∀ b, b < 850 ∨ 9851 ≤ b → mI Mb 121 b = mI M 121 b := by
      intro b hb
      rw [← hMb, mI_n _ _ _ _ (by omega), ← hMa, mI_n _ _ _ _ (by omega)]
      exact i3.2.2.2 b (by omega)
    refine ⟨?_, ?_, fun kk ii hv => ?_, hw.cg (fun b _ _ => k1 b (by omega)) rfl, ⟨?_, ?_, ?_⟩, hb1.cg (k1 _ (by omega)) (fun b _ _ => k1 b (by omega)), hb2.cg (k1 _ (by omega)) (fun b _ _ => k1 b (by omega))⟩
    · subst hMb; subst hMa; exact hS1.e rfl
    · rw [← hMb, mI_o _ _ _ _ _ (by decide), ← hMa, mI_o _ _ _ _ _ (by decide), i3.2.1 120 (by decide) (by decide)]; exact ht
    · rw [k1 _ (ad_lim hv).2.1]; exact ha kk ii hv
    · rw [hnew2, ← hMb, mI_n _ _ _ _ (by omega), ← hMa, mI_s, List.length_append]
    · rw [hnew2, List.length_append]; omega
    · rw [hnew2]
      refine i2.cg fun i _ hi => ⟨?_, ?_⟩
      · rw [List.length_append] at hi
        rw [← hMb, mI_n _ _ _ _ (by omega), ← hMa, mI_n _ _ _ _ (by omega)]
      · rw [← hMb, mI_o _ _ _ _ _ (by decide), ← hMa, mI_o _ _ _ _ _ (by decide)]
  · exact Fr.tr i3.toFr (Fr.tr (Fr.tsI ⟨by decide, by decide⟩) (Fr.tsI ⟨by decide, by decide⟩))
/-! ===== the reference's registers, one by one ===== -/
theorem RV.toRK {M : Mem} {tw : Bool} {t : Int32} {S : St} {pb pt : List Row4} (h : RV M tw t S pb pt) : RK M 120 121 := h.1.toRK
theorem RV.rg {M : Mem} {tw : Bool} {t : Int32} {S : St} {pb pt : List Row4} (h : RV M tw t S pb pt) {k i : Nat} (hv : vk k i) : mI M 121 (ad k i) = xR S k i := h.2.2.1 k i hv
theorem RV.st {M : Mem} {tw : Bool} {t : Int32} {S : St} {pb pt : List Row4} (h : RV M tw t S pb pt) {k i : Nat} (hv : vk k i) (x : Int32) : RV (sI M 121 (ad k i) x) tw t (uR S k i x) pb pt := by
  obtain ⟨hS, ht, ha, hw, hl, hb1, hb2⟩ := h
  have lim := ad_lim hv
  refine ⟨hS.e rfl, ?_, fun k' i' hv' => ?_, fun a hA => ?_, ⟨?_, hl.2.1, hl.2.2.cg fun j _ hj => ⟨?_, ?_⟩⟩, hb1.cg ?_ (fun b _ _ => ?_), hb2.cg ?_ (fun b _ _ => ?_)⟩
  · rw [mI_o _ _ _ _ _ (by decide)]; exact ht
  · rw [mI_sI, xR_uR]
    by_cases e : k' = k ∧ i' = i
    · rw [if_pos e, e.1, e.2, if_pos ⟨rfl, rfl⟩]
    · rw [if_neg e, if_neg (fun q => e (ad_inj hv' hv q.2))]
      exact ha k' i' hv'
  · obtain ⟨h1, h2, h3, h4⟩ := hw a hA
    have w : ∀ j, j < 41 → mI (sI M 121 (ad k i) x) 121 (149 + 44 * a + j) = mI M 121 (149 + 44 * a + j) := fun j hj => mI_n _ _ _ _ (fun e => ad_w hv hA hj e.symm)
    refine ⟨(w 0 (by decide)).trans h1, h2, fun j q hj => ?_, fun j hj1 hj2 => ?_⟩
    · have hl := (List.getElem?_eq_some_iff.mp hj).1
      have h2' : (xW S a).length ≤ 20 := h2
      have hl' : j < (xW S a).length := hl
      rw [show 150 + 44 * a + 2 * j = 149 + 44 * a + (1 + 2 * j) by omega, show 151 + 44 * a + 2 * j = 149 + 44 * a + (2 + 2 * j) by omega, w _ (by omega), w _ (by omega), show 149 + 44 * a + (1 + 2 * j) = 150 + 44 * a + 2 * j by omega, show 149 + 44 * a + (2 + 2 * j) = 151 + 44 * a + 2 * j by omega]
      exact h3 j q hj
    · rw [show 150 + 44 * a + 2 * j = 149 + 44 * a + (1 + 2 * j) by omega, show 151 + 44 * a + 2 * j = 149 + 44 * a + (2 + 2 * j) by omega, w _ (by omega), w _ (by omega), show 149 + 44 * a + (1 + 2 * j) = 150 + 44 * a + 2 * j by omega, show 149 + 44 * a + (2 + 2 * j) = 151 + 44 * a + 2 * j by omega]
      exact h4 j hj1 hj2
  · rw [mI_n _ _ _ _ (by omega)]; exact hl.1
  · have := hl.2.1
    exact mI_n _ _ _ _ (by omega)
  · exact mI_o _ _ _ _ _ (by decide)
  · exact mI_n _ _ _ _ (by omega)
  · exact mI_n _ _ _ _ (by omega)
  · exact mI_n _ _ _ _ (by omega)
  · exact mI_n _ _ _ _ (by omega)
theorem Fr.tad {M : Mem} {k i : Nat} {x : Int32} : Fr PA M (sI M 121 (ad k i) x) := Fr.tsI ⟨by decide, by decide⟩
theorem vk_n {k i : Nat} (hk : k < 11) (hi : i < 16) : vk k i := Or.inl ⟨hk, hi⟩
section
variable {M : Mem} {tw : Bool} {t : Int32} {S : St} {pb pt : List Row4}
theorem RV.get0 (h : RV M tw t S pb pt) {v : Nat} (hv : v < 16) : f_X10_get 120 (nI v) (0 : Int32) M = some (xR S 0 v) := (f_get h.toRK hv (w := 0) (by decide)).trans (congrArg some (h.rg (k := 0) (vk_n (by decide) hv)))
theorem RV.let0 (h : RV M tw t S pb pt) {v : Nat} (hv : v < 16) (x : Int32) : f_X10_let 120 (nI v) (0 : Int32) x M = some (sI M 121 (ad 0 v) x) := f_let h.toRK hv (w := 0) (by decide)
theorem RV.get1 (h : RV M tw t S pb pt) {v : Nat} (hv : v < 16) : f_X10_get 120 (nI v) (1 : Int32) M = some (xR S 1 v) := (f_get h.toRK hv (w := 1) (by decide)).trans (congrArg some (h.rg (k := 1) (vk_n (by decide) hv)))
theorem RV.let1 (h : RV M tw t S pb pt) {v : Nat} (hv : v < 16) (x : Int32) : f_X10_let 120 (nI v) (1 : Int32) x M = some (sI M 121 (ad 1 v) x) := f_let h.toRK hv (w := 1) (by decide)
theorem RV.get2 (h : RV M tw t S pb pt) {v : Nat} (hv : v < 16) : f_X10_get 120 (nI v) (2 : Int32) M = some (xR S 2 v) := (f_get h.toRK hv (w := 2) (by decide)).trans (congrArg some (h.rg (k := 2) (vk_n (by decide) hv)))
theorem RV.let2 (h : RV M tw t S pb pt) {v : Nat} (hv : v < 16) (x : Int32) : f_X10_let 120 (nI v) (2 : Int32) x M = some (sI M 121 (ad 2 v) x) := f_let h.toRK hv (w := 2) (by decide)
theorem RV.get3 (h : RV M tw t S pb pt) {v : Nat} (hv : v < 16) : f_X10_get 120 (nI v) (3 : Int32) M = some (xR S 3 v) := (f_get h.toRK hv (w := 3) (by decide)).trans (congrArg some (h.rg (k := 3) (vk_n (by decide) hv)))
theorem RV.let3 (h : RV M tw t S pb pt) {v : Nat} (hv : v < 16) (x : Int32) : f_X10_let 120 (nI v) (3 : Int32) x M = some (sI M 121 (ad 3 v) x) := f_let h.toRK hv (w := 3) (by decide)
theorem RV.get4 (h : RV M tw t S pb pt) {v : Nat} (hv : v < 16) : f_X10_get 120 (nI v) (4 : Int32) M = some (xR S 4 v) := (f_get h.toRK hv (w := 4) (by decide)).trans (congrArg some (h.rg (k := 4) (vk_n (by decide) hv)))
theorem RV.let4 (h : RV M tw t S pb pt) {v : Nat} (hv : v < 16) (x : Int32) : f_X10_let 120 (nI v) (4 : Int32) x M = some (sI M 121 (ad 4 v) x) := f_let h.toRK hv (w := 4) (by decide)
theorem RV.get5 (h : RV M tw t S pb pt) {v : Nat} (hv : v < 16) : f_X10_get 120 (nI v) (5 : Int32) M = some (xR S 5 v) := (f_get h.toRK hv (w := 5) (by decide)).trans (congrArg some (h.rg (k := 5) (vk_n (by decide) hv)))
theorem RV.let5 (h : RV M tw t S pb pt) {v : Nat} (hv : v < 16) (x : Int32) : f_X10_let 120 (nI v) (5 : Int32) x M = some (sI M 121 (ad 5 v) x) := f_let h.toRK hv (w := 5) (by decide)
theorem RV.get6 (h : RV M tw t S pb pt) {v : Nat} (hv : v < 16) : f_X10_get 120 (nI v) (6 : Int32) M = some (xR S 6 v) := (f_get h.toRK hv (w := 6) (by decide)).trans (congrArg some (h.rg (k := 6) (vk_n (by decide) hv)))
theorem RV.let6 (h : RV M tw t S pb pt) {v : Nat} (hv : v < 16) (x : Int32) : f_X10_let 120 (nI v) (6 : Int32) x M = some (sI M 121 (ad 6 v) x) := f_let h.toRK hv (w := 6) (by decide)
theorem RV.get7 (h : RV M tw t S pb pt) {v : Nat} (hv : v < 16) : f_X10_get 120 (nI v) (7 : Int32) M = some (xR S 7 v) := (f_get h.toRK hv (w := 7) (by decide)).trans (congrArg some (h.rg (k := 7) (vk_n (by decide) hv)))
theorem RV.let7 (h : RV M tw t S pb pt) {v : Nat} (hv : v < 16) (x : Int32) : f_X10_let 120 (nI v) (7 : Int32) x M = some (sI M 121 (ad 7 v) x) := f_let h.toRK hv (w := 7) (by decide)
theorem RV.of0 (h : RV M tw t S pb pt) {v : Nat} (hv : v < 16) : f_X10_of 120 (nI v) (0 : Int32) M = some (xR S 8 v) := (f_of h.toRK hv (w := 0) (by decide)).trans (congrArg some (h.rg (k := 8) (vk_n (by decide) hv)))
theorem RV.put0 (h : RV M tw t S pb pt) {v : Nat} (hv : v < 16) (x : Int32) : f_X10_put 120 (nI v) (0 : Int32) x M = some (sI M 121 (ad 8 v) x) := f_put h.toRK hv (w := 0) (by decide)
theorem RV.of1 (h : RV M tw t S pb pt) {v : Nat} (hv : v < 16) : f_X10_of 120 (nI v) (1 : Int32) M = some (xR S 9 v) := (f_of h.toRK hv (w := 1) (by decide)).trans (congrArg some (h.rg (k := 9) (vk_n (by decide) hv)))
theorem RV.put1 (h : RV M tw t S pb pt) {v : Nat} (hv : v < 16) (x : Int32) : f_X10_put 120 (nI v) (1 : Int32) x M = some (sI M 121 (ad 9 v) x) := f_put h.toRK hv (w := 1) (by decide)
theorem RV.of2 (h : RV M tw t S pb pt) {v : Nat} (hv : v < 16) : f_X10_of 120 (nI v) (2 : Int32) M = some (xR S 10 v) := (f_of h.toRK hv (w := 2) (by decide)).trans (congrArg some (h.rg (k := 10) (vk_n (by decide) hv)))
theorem RV.put2 (h : RV M tw t S pb pt) {v : Nat} (hv : v < 16) (x : Int32) : f_X10_put 120 (nI v) (2 : Int32) x M = some (sI M 121 (ad 10 v) x) := f_put h.toRK hv (w := 2) (by decide)
theorem RV.of3 (h : RV M tw t S pb pt) {v : Nat} (hv : v < 16) : f_X10_of 120 (nI v) (3 : Int32) M = some (nI (xW S v).length) := (f_of h.toRK hv (w := 3) (by decide)).trans (congrArg some (by rw [show 146 + 44 * v + 3 = 149 + 44 * v by omega]; exact (h.2.2.2.1 v hv).1))
end
/-! ===== who is ahead ===== -/
def ahd (s v s' v' : Int32) : Bool := decide (s < s' ∨ (s = s' ∧ v < v'))
theorem f_ah10 (s v s' v' : Int32) (M : Mem) : f_X10_isAhead s v s' v' M = some (if ahd s v s' v' then 1 else 0) := by
  rw [f_X10_isAhead]
  unfold ahd
  by_cases h : s = s'
  · subst h
    rw [if_pos rfl]
    have h1 : ¬ s < s := Int32.lt_irrefl
    by_cases h2 : v' ≤ v
    · rw [if_pos h2]
      have : ¬ v < v' := Int32.not_lt.mpr h2
      simp [h1, this]
    · rw [if_neg h2]
      have : v < v' := Int32.not_le.mp h2
      simp [this]
  · rw [if_neg h]
    by_cases h2 : s' ≤ s
    · rw [if_pos h2]
      have : ¬ s < s' := Int32.not_lt.mpr h2
      simp [h, this]
    · rw [if_neg h2]
      have : s < s' := Int32.not_le.mp h2
      simp [this]
theorem f_ah9 (s v s' v' : Int32) (M : Mem) : f_X9_isAhead s v s' v' M = some (if ahd s v s' v' then 1 else 0) := by
  rw [f_X9_isAhead]
  unfold ahd
  by_cases h : s < s'
  · rw [if_pos h]; simp [h]
  · rw [if_neg h]
    by_cases h1 : s = s'
    · rw [if_pos h1]
      by_cases h2 : v' ≤ v
      · rw [if_pos h2]
        have : ¬ v < v' := Int32.not_lt.mpr h2
        simp [h, this]
      · rw [if_neg h2]
        have : v < v' := Int32.not_le.mp h2
        simp [h1, this]
    · rw [if_neg h1]; simp [h, h1]
