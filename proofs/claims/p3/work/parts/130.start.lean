def memE : Mem := (((0, 0), (fun _ => (999, 0)), (fun _ _ => NUL)), (fun _ _ => 0), (fun _ _ => 0))
theorem kcl_inst {k : Nat} {C : String} {T : u_T} {N : Nat} (h : kcl[k]? = some (C, T, N)) : Cond.instantiable C N ∈ lw_g := by
  match k with
  | 0 => cases h; exact wd494
  | 1 => cases h; exact wd192
  | 2 => cases h; exact wd237
  | 3 => cases h; exact wd302
  | 4 => cases h; exact wd320
  | 5 => cases h; exact wd243
  | 6 => cases h; exact wd517
  | 7 => cases h; exact wd154
  | 8 => cases h; exact wd186
  | 9 => cases h; exact wd146
  | 10 => cases h; exact wd1415
  | n + 11 => simp [kcl] at h
theorem st_el {args : Array Value} {s : State} {tm : Term} {f : Nat → Value} {N : Nat} (h : ∀ j, j < N → (Term.elem tm (.int (Int32.ofNat j))).eval args s none [] s = some (f j)) : ∀ j : Nat, j < N → (Term.elem tm (.int (Int32.ofNat j))).eval args s none [] s = some (f j) := h
theorem start_K {args : Array Value} {s : State} (hts : ∀ w ∈ lw_tbl, w.before args s = true) (hgv : (Jvm.Cond.and given_1 narrow_1).before args s = true) : ∃ G : Gam, gB G = s.heap.size ∧ va_K (gD G) kcl (gT G) s ∧ Stx G s s.heap := by
  have htg : ∀ w ∈ lw_g, w.before args s = true := fun w hw => hts w (List.mem_filter.mp hw).1
  have hkn : ∀ k : Nat, ∃ q : ClassId × (Nat → Nat), ∀ (C : String) (T : u_T) (N : Nat), kcl[k]? = some (C, T, N) → u_Kn s C T N q.1 q.2 := by
    intro k
    cases hk : kcl[k]? with
    | none => exact ⟨(0, fun _ => 0), fun C T N h => by cases h⟩
    | some q =>
      obtain ⟨C, T, N⟩ := q
      obtain ⟨c, iS, h⟩ := u_known (ws := lw_g) htg (uin hk) (htg _ (kcl_inst hk))
      exact ⟨(c, iS), fun C' T' N' h' => by cases h'; exact h⟩
  obtain ⟨cI, kI, mI0, i1, i2, i3⟩ := Cond.arrayClass_spec (htg _ wd184)
  obtain ⟨cJ, kJ, mJ0, j1, j2, j3⟩ := Cond.arrayClass_spec (htg _ wd207)
  have hAO : va_AO RX4 s := va_AO.of (hts (Cond.arrayOver (.object RX4)) (List.mem_append_right _ (List.mem_of_getElem? (i := 175) (by decide +kernel))))
  have hs := flat_of_before _ hgv
  have hA : ∀ a : Nat, a < s.heap.size → ¬ (s.heap.size ≤ a) := fun a h => Nat.not_le.mpr h
  obtain ⟨tP, p1, p2⟩ := va_Tof (A := fun q => s.heap.size ≤ q) (tm := .static "QuorumGate$Sets" "PLANE_STEPS" "[I") (ty := .int) (N := 4) (f := v_PS) (by decide) (hs _ (by decide +kernel)) (va_eqt (hs _ (by decide +kernel))) (fun j hj => by
    match j, hj with
    | 0, _ => exact va_eqt (z := 0) (hs _ (by decide +kernel))
    | 1, _ => exact va_eqt (z := 1) (hs _ (by decide +kernel))
    | 2, _ => exact va_eqt (z := 3) (hs _ (by decide +kernel))
    | 3, _ => exact va_eqt (z := 9) (hs _ (by decide +kernel))
    | j + 4, h => exact absurd h (by omega)) hA
  obtain ⟨tH, h1, h2⟩ := va_Tof (A := fun q => s.heap.size ≤ q) (tm := .static "QuorumGate$Family" "HAVING" "[J") (ty := .long) (N := 6) (f := fun j => .long (l_HV j)) (by decide) (hs _ (by decide +kernel)) (va_eqt (hs _ (by decide +kernel))) (fun j hj => by
    match j, hj with
    | 0, _ => exact va_eqtl (z := -6148914691236517206) (hs _ (by decide +kernel))
    | 1, _ => exact va_eqtl (z := -3689348814741910324) (hs _ (by decide +kernel))
    | 2, _ => exact va_eqtl (z := -1085102592571150096) (hs _ (by decide +kernel))
    | 3, _ => exact va_eqtl (z := -71777214294589696) (hs _ (by decide +kernel))
    | 4, _ => exact va_eqtl (z := -281470681808896) (hs _ (by decide +kernel))
    | 5, _ => exact va_eqtl (z := -4294967296) (hs _ (by decide +kernel))
    | j + 6, h => exact absurd h (by omega)) hA
  obtain ⟨tO, o1, o2⟩ := va_Tof (A := fun q => s.heap.size ≤ q) (tm := .static "QuorumGate$Family" "OF_SIZE" "[J") (ty := .long) (N := 7) (f := fun j => .long (l_OS j)) (by decide) (hs _ (by decide +kernel)) (va_eqt (hs _ (by decide +kernel))) (fun j hj => by
    match j, hj with
    | 0, _ => exact va_eqtl (z := 1) (hs _ (by decide +kernel))
    | 1, _ => exact va_eqtl (z := 4295033110) (hs _ (by decide +kernel))
    | 2, _ => exact va_eqtl (z := 282668995843688) (hs _ (by decide +kernel))
    | 3, _ => exact va_eqtl (z := 78274679833913472) (hs _ (by decide +kernel))
    | 4, _ => exact va_eqtl (z := 1614655367130677248) (hs _ (by decide +kernel))
    | 5, _ => exact va_eqtl (z := 7530159316599308288) (hs _ (by decide +kernel))
    | 6, _ => exact va_eqtl (z := -9223372036854775808) (hs _ (by decide +kernel))
    | j + 7, h => exact absurd h (by omega)) hA
  obtain ⟨kA, comp, f2, f3, f4, cP, f1⟩ : ∃ (kA : Class) (comp : ClassId) (_ : True) (_ : True) (_ : True) (cP : ClassId), s.vm.findClass ("[" ++ (FieldType.object RX4).toString) = some cP ∧ s.vm.classes[cP]? = some kA ∧ kA.kind = .array comp (.object RX4) ∧ s.vm.findClass RX4 = some comp := by
    obtain ⟨comp, c, k, r1, r2, r3, r4, r5⟩ := Cond.arrayOver_spec (va_AO.use (A := args) hAO)
    exact ⟨k, comp, trivial, trivial, trivial, c, r5, r3, r4, r1⟩
  obtain ⟨f1, g2, g3, g4⟩ := f1
  refine ⟨((fun k => (Classical.choose (hkn k)).1, fun k => (Classical.choose (hkn k)).2), (cI, cJ, cP), s.heap.size, (tP, tH, tO)), rfl, ⟨fun k q hq => ?_, fun k q hq => ?_⟩, ?_, hAO, ?_, ?_, ?_⟩
  · obtain ⟨C, T, N⟩ := q
    exact Classical.choose_spec (hkn k) C T N hq
  · match k, hq with
    | 0, hq => cases hq; exact ⟨fun n z => ⟨fun k h => (by cases h), kI, i2, mI0, i3⟩, i1⟩
    | 1, hq => cases hq; exact ⟨fun n z => ⟨fun k h => (by cases h), kJ, j2, mJ0, j3⟩, j1⟩
    | 2, hq => cases hq; exact ⟨fun n z => ⟨fun k h => (by cases h), kA, g2, comp, g3⟩, kA, comp, g2, g3, g4, f1⟩
    | k + 3, hq => simp [gT] at hq
  · intro w hw
    have h1 : w ∈ lw_tbl := by
      refine List.mem_append_right _ ?_
      simp only [lw_nst, List.mem_cons, List.not_mem_nil, or_false] at hw
      rcases hw with rfl | rfl | rfl | rfl | rfl | rfl | rfl | rfl | rfl | rfl | rfl | rfl | rfl | rfl | rfl | rfl
      all_goals first
        | exact List.mem_of_getElem? (i := 30) (by decide +kernel)
        | exact List.mem_of_getElem? (i := 62) (by decide +kernel)
        | exact List.mem_of_getElem? (i := 68) (by decide +kernel)
        | exact List.mem_of_getElem? (i := 119) (by decide +kernel)
        | exact List.mem_of_getElem? (i := 196) (by decide +kernel)
        | exact List.mem_of_getElem? (i := 370) (by decide +kernel)
        | exact List.mem_of_getElem? (i := 586) (by decide +kernel)
        | exact List.mem_of_getElem? (i := 713) (by decide +kernel)
        | exact List.mem_of_getElem? (i := 810) (by decide +kernel)
        | exact List.mem_of_getElem? (i := 886) (by decide +kernel)
        | exact List.mem_of_getElem? (i := 899) (by decide +kernel)
        | exact List.mem_of_getElem? (i := 919) (by decide +kernel)
        | exact List.mem_of_getElem? (i := 1101) (by decide +kernel)
        | exact List.mem_of_getElem? (i := 1155) (by decide +kernel)
        | exact List.mem_of_getElem? (i := 1197) (by decide +kernel)
        | exact List.mem_of_getElem? (i := 1223) (by decide +kernel)
    have h2 : w.onTables = true := by
      simp only [lw_nst, List.mem_cons, List.not_mem_nil, or_false] at hw
      rcases hw with rfl | rfl | rfl | rfl | rfl | rfl | rfl | rfl | rfl | rfl | rfl | rfl | rfl | rfl | rfl | rfl <;> rfl
    exact va_Nw.of h2 (hts w h1)
  · exact ⟨va_Zof (hts _ (List.mem_append_right _ (List.mem_of_getElem? (i := 534) (by decide +kernel)))) (htg _ wd127) p1 hA, p2⟩
  · exact ⟨va_Zof (hts _ (List.mem_append_right _ (List.mem_of_getElem? (i := 695) (by decide +kernel)))) (htg _ wd129) h1 hA, h2⟩
  · exact ⟨va_Zof (hts _ (List.mem_append_right _ (List.mem_of_getElem? (i := 712) (by decide +kernel)))) (htg _ wd129) o1 hA, o2⟩
