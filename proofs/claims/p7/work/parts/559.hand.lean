/-! ===== apart, base ===== -/
theorem op10 {M : Mem} {i n : Nat} (h : WI i M) (hn : 100000 ≤ n) : ∃ r, f_X9_apart n 0 M = some r ∧ f_X10_apart n 120 M = some r := by
  obtain ⟨N, A, Q, S, w⟩ := h
  obtain ⟨X, Y, L, p, sb, xg, xr⟩ := id w.1
  obtain ⟨_, r, z7, sw, hQ⟩ := id w
  refine ⟨nI (apN N S), ?_, r.ap sw.n sw.n16 (by omega)⟩
  rw [f_X9_apart, chk_t xg.1, xg.2.1, bnd_e, sb.f, sb.ap sw.n16 (by omega), obd_s]
theorem apN_c {N : Nat} {S S' : St} (h : ∀ v, v < N → xR S 17 v = xR S' 17 v) : apN N S = apN N S' := by
  unfold apN
  refine suB_c N 0 (fun a _ ha => suB_c _ _ (fun b _ hb => ?_))
  unfold apP
  rw [h a (by omega), h b (by omega)]
set_option maxRecDepth 100000 in
theorem allb_k : (List.range 17).all (fun N => (List.range 32).all fun i => bt (((1 : Int32) <<< (nI N &&& 31)) - 1) i == decide (i < N)) = true := by decide +kernel
theorem all_b {N i : Nat} (h16 : N ≤ 16) (hi : i < 32) : bt (((1 : Int32) <<< (nI N &&& 31)) - 1) i = decide (i < N) :=
  eq_of_beq (List.all_eq_true.mp (List.all_eq_true.mp allb_k N (List.mem_range.mpr (by omega))) i (List.mem_range.mpr hi))
theorem SB.isS {M : Mem} {N : Nat} {S : St} (sb : SB M N S) (a : Int32) : f_X7_isSetOfNodes 1 a M = some (if a &&& ((((1 : Int32) <<< (nI N &&& 31)) - 1) ^^^ (-1 : Int32)) = 0 then 1 else 0) := by
  rw [f_X7_isSetOfNodes, sb.f, f_X7_allNodes, sb.f, sb.n, obd_s]
  split <;> rfl
theorem op7 {M : Mem} {i n : Nat} (h : WI i M) (a b : Int32) (hn : 100000 ≤ n) : Okk i (f_X9_base n 0 a b M) (fun M1 => f_X10_base n 120 a b M1) := by
  obtain ⟨N, A, Q, S, w⟩ := h
  obtain ⟨X, Y, L, p, sb, xg, xr⟩ := id w.1
  obtain ⟨_, r, z7, sw, hQ⟩ := id w
  have h16 := sw.n16
  have h2 := sw.n2
  have al := f_all r sw.n
  rcases out_in (N := N) (by omega) a with ha | ⟨k, hk, rfl⟩
  · refine Okk.same w (r := -1) ?_ ?_
    · rw [f_X9_base, chk_t xg.1, xg.2.1, bnd_e, sb.f, ndc0 sb ha, obd_s, if_pos rfl]
    · show f_X10_base n 120 a b M = _
      rw [f_X10_base, rs_f r.1, ndr0 r sw.n (by omega) h16 ha, obd_s, if_pos rfl]
  · by_cases b0 : b = 0
    · refine Okk.same w (r := -1) ?_ ?_
      · rw [f_X9_base, chk_t xg.1, xg.2.1, bnd_e, sb.f, ndc sb hk h16, obd_s, if_neg ne10, if_pos b0]
      · show f_X10_base n 120 (nI k) b M = _
        rw [f_X10_base, rs_f r.1, ndr r sw.n hk h16, obd_s, if_neg ne10, if_pos b0]
    · by_cases c : b &&& ((((1 : Int32) <<< (nI N &&& 31)) - 1) ^^^ (-1 : Int32)) = 0
      · have bb : ∀ i, N ≤ i → i < 32 → bt b i = false := fun i h1 h2 => by
          have := bt_minus b (((1 : Int32) <<< (nI N &&& 31)) - 1) h2
          rw [c, b_0, all_b h16 h2, decide_eq_false (by omega)] at this
          simpa using this.symm
        let C : Nat → Int32 := fun v => if v = k then b else xR S 17 v
        generalize hM1 : sI (sI M 2 k b) 1 4 0 = M1
        have m1 : MC N C 0 M M1 := by
          rw [← hM1]
          refine ⟨rfl, fun o ho b => by rw [mI_o _ _ _ _ _ (by omega), mI_o _ _ _ _ _ (by omega)], by rw [mI_n _ _ _ _ (by decide), mI_o _ _ _ _ _ (by decide)]; exact sb.n, mI_s _ _ _ _, fun v hv => ?_, fun _ _ => rfl⟩
          rw [mI_o _ _ _ _ _ (by decide)]
          by_cases e : v = k
          · rw [e, mI_s]; exact (if_pos rfl).symm
          · rw [mI_n _ _ _ _ e, sb.b hv]; exact (if_neg e).symm
        obtain ⟨M2, e2, io, rk, r2, ⟨xg2, sb2⟩, fin⟩ := w.mk (n := n) m1 h2 h16 (Or.inl rfl) (fun z => absurd z (by decide)) (fun v hv i h1 h2 => by
          show bt (if v = k then b else xR S 17 v) i = false
          split
          · exact bb i h1 h2
          · exact sw.bi v hv i h1 h2) ⟨fun v hv => by
          show ¬ (if v = k then b else xR S 17 v) = 0
          split
          · exact b0
          · exact sw.tb.1 v hv, fun z => absurd z (by decide)⟩ (by omega)
        have eb := f_begin (N := nI N) (t := 0) rk (n := n) (by omega)
        rw [if_pos rfl] at eb
        have n2 : mI M2 121 0 = nI N := r2.N sw.n
        have rkb : RK (wA M2 121 (bgf (mI M2 121) (nI N) 0)) 120 121 := rk
        generalize hMb : wA M2 121 (bgf (mI M2 121) (nI N) 0) = Mb at eb rkb
        have wc : Wc 121 (2 + k) b Mb (sI Mb 121 (2 + k) b) := Wc.s _ _ _ _
        generalize hM3 : sI Mb 121 (2 + k) b = M3 at wc
        have wI : ∀ o, o ≠ 121 → ∀ c, mI Mb o c = mI M2 o c := fun o n c => by rw [← hMb]; exact if_neg n
        have sb3 : Mb.1 = M2.1 := by rw [← hMb]; rfl
        have s3 : M3.1 = M2.1 := wc.1.trans sb3
        have f3 : ∀ c, c < 10465 → mI M3 121 c = rfm (mI M2 121) N 0 C c := fun c hc => by
          have eq : ∀ c, mI Mb 121 c = bgf (mI M2 121) (nI N) 0 c := fun c => by
            rw [← hMb]
            show (if (121 : Nat) = 121 then bgf (mI M2 121) (nI N) 0 c else M2.2.1 121 c) = _
            rw [if_pos rfl]
          unfold rfm
          by_cases q : c = 2 + k
          · rw [q, wc.2.1, if_pos (by omega)]
            show b = if 2 + k - 2 = k then b else _
            rw [if_pos (by omega)]
          · rw [wc.2.2.1 c q, eq]
            by_cases q2 : 2 ≤ c ∧ c < 2 + N
            · rw [if_pos q2]
              show _ = if c - 2 = k then b else xR S 17 (c - 2)
              rw [if_neg (by omega)]
              unfold bgf
              rw [if_neg (by omega), if_neg (by omega), if_pos (by omega)]
              have := r2.rg (k := 17) (i := c - 2) (by unfold vk; omega)
              rw [show ad 17 (c - 2) = c by show 2 + (c - 2) = c; omega] at this
              exact this
            · rw [if_neg q2]
        have i3 : ∀ o, ¬ (120 ≤ o ∧ o ≤ 130) → ∀ c, mI M3 o c = mI M2 o c := fun o ho c => by rw [wc.2.2.2.1 o (by omega), wI o (by omega)]
        have i120 : ∀ c, mI M3 120 c = mI M2 120 c := fun c => by rw [wc.2.2.2.1 120 (by decide), wI 120 (by decide)]
        have r3 := rfm_RV (M := M3) (f := mI M2 121) (N := N) (tr := 0) (C := C) (B := fun v => if v < N then C v else mI M2 121 (2 + v)) false h16 (r2.1.e s3) (by rw [i120]; exact r2.2.1) (fun v _ => rfl) f3
        have ea : apN N (fS0 N (fun v => if v < N then C v else mI M2 121 (2 + v)) 0) = apN N (fS0 N C 0) := apN_c (fun v hv => by
          show (if v < N then C v else _) = C v
          rw [if_pos hv])
        refine ⟨nI (apN N (fS0 N C 0)), M2, M3, ?_, io, ?_, fin M3 s3 i3 i120 f3⟩
        · rw [f_X9_base, chk_t xg.1, xg.2.1, bnd_e, sb.f, ndc sb hk h16, obd_s, if_neg ne10, if_neg b0, bnd_e, sb.f, sb.isS, obd_s, if_pos c, if_neg ne10, bnd_e, sb.f]
          have et : f_X7_tellByHand 1 (nI k) b M = some M1 := by
            rw [f_X7_tellByHand, sb.f, sb.r2, bnd_e, sb.a2, sb.i2 (by omega), sI_c (by omega), bnd_e, chk_t (Or.inl rfl), hM1, bnd_e]
          rw [et, obd_s, chk_t (xg.s (Shp1.e m1.1)).1, e2, obd2_s, chk_t xg2.1, xg2.2.1, bnd_e, sb2.f, sb2.ap h16 (by omega), obd_s]
        · show f_X10_base n 120 (nI k) b M2 = _
          rw [f_X10_base, rk.f, ndr r2 sw.n hk h16, obd_s, if_neg ne10, if_neg b0, f_all r2 sw.n, obd_s, if_pos c, rk.r, bnd_e, rk.a, rs_c0 r2.1, cl0, n2, eb, obd_s, rkb.f, rkb.r, bnd_e, rkb.a, show (2 : Int32) + nI k = nI (2 + k) by rw [show (2 : Int32) = nI 2 from rfl, nI_add], rkb.i (by omega), sI_c (by omega), hM3, bnd_e, r3.ap rfl h16 (by omega), obd_s, ea]
      · refine Okk.same w (r := -1) ?_ ?_
        · rw [f_X9_base, chk_t xg.1, xg.2.1, bnd_e, sb.f, ndc sb hk h16, obd_s, if_neg ne10, if_neg b0, bnd_e, sb.f, sb.isS, obd_s, if_neg c, if_pos rfl]
        · show f_X10_base n 120 (nI k) b M = _
          rw [f_X10_base, rs_f r.1, ndr r sw.n hk h16, obd_s, if_neg ne10, if_neg b0, al, obd_s, if_neg c]
