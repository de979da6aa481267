/-! ===== the class's search: all states ===== -/
theorem pcx_ms {x : Int32} (h : ∀ i, 16 ≤ i → i < 32 → bt x i = false) : pc x = (ms x).length := by
  unfold pc ms
  have e : List.range 32 = List.range 16 ++ List.range' 16 16 := by decide
  rw [e, List.filter_append]
  have z : (List.range' 16 16).filter (fun i => bt x i) = [] := by
    rw [List.filter_eq_nil_iff]
    intro i hi
    have := List.mem_range'_1.mp hi
    rw [h i (by omega) (by omega)]
    decide
  rw [z, List.append_nil]
theorem exl_ge (N most : Nat) (S : St) (d : Nat) : ∀ (cs : List Nat) (q : Bq), q.1.length ≤ (exl N most S d cs q).1.length := by
  intro cs
  induction cs with
  | nil => intro q; exact Nat.le_refl _
  | cons c cs ih =>
    intro q
    rw [exl_c]
    exact Nat.le_trans (met1_le _ _ _ _) (ih _)
section
variable {D : Nat → Prop} {X0 Y0 N : Nat} {t : Int32} {Q : Nat → Int32} {pb pt : List Row4} {A P most : Nat} {S0 : St} {ask : Int32} {sn : Nat → Int32}
set_option maxHeartbeats 1000000 in
theorem ru_15 (k : SK N A P most S0) (hX : X0 ≤ 100000) (hY : Y0 ≤ 1000000) (hQc : ∀ v, v < N → qm N S0 v = Q v) : ∀ (d i m n : Nat) (M : Mem) (q : Bq), i + d = most → d + 1 ≤ m → i ≤ q.1.length → GQ N A P most S0 q → CM D X0 Y0 t N Q pb pt A P most S0 ask sn M q → d + 21400 ≤ n → ∃ M', f_X6_run_15 n 114 (nI i) M = some M' ∧ GQ N A P most S0 (bfs N most ask sn m i q) ∧ CM D X0 Y0 t N Q pb pt A P most S0 ask sn M' (bfs N most ask sn m i q) ∧ FrS D M M' := by
  obtain ⟨h2, h16, h40, hA, hP, hN0, ht0, hQ⟩ := id k
  have stop : ∀ (i m n : Nat) (M : Mem) (q : Bq), i = q.1.length → GQ N A P most S0 q → CM D X0 Y0 t N Q pb pt A P most S0 ask sn M q → 1 ≤ m → 1 ≤ n → ∃ M', f_X6_run_15 n 114 (nI i) M = some M' ∧ GQ N A P most S0 (bfs N most ask sn m i q) ∧ CM D X0 Y0 t N Q pb pt A P most S0 ask sn M' (bfs N most ask sn m i q) ∧ FrS D M M' := by
    intro i m n M q hi gq hM hm hn
    obtain ⟨n, rfl⟩ : ∃ j, n = j + 1 := ⟨n - 1, by omega⟩
    obtain ⟨m, rfl⟩ : ∃ j, m = j + 1 := ⟨m - 1, by omega⟩
    have eb : bfs N most ask sn (m + 1) i q = q := by
      unfold bfs
      rw [List.getElem?_eq_none (by omega)]
    rw [eb]
    obtain ⟨Sx, ex, dx, ddx, vx, gx, s, _⟩ := id hM
    have i114 : isO M 6 114 := by obtain ⟨L, sx, _⟩ := vx; exact sx.1
    refine ⟨M, ?_, gq, hM, FrS.rf D M⟩
    rw [f_X6_run_15, chk_t i114, s.2.2.1, if_pos (by rw [hi]; exact Int32.le_refl _)]
  intro d
  induction d with
  | zero =>
    intro i m n M q hi hm hil gq hM hn
    exact stop i m n M q (by have := gq.1; omega) gq hM (by omega) (by omega)
  | succ d ih =>
    intro i m n M q hi hm hil gq hM hn
    by_cases c : i = q.1.length
    · exact stop i m n M q c gq hM (by omega) (by omega)
    · obtain ⟨n, rfl⟩ : ∃ j, n = j + 1 := ⟨n - 1, by omega⟩
      obtain ⟨m, rfl⟩ : ∃ j, m = j + 1 := ⟨m - 1, by omega⟩
      have hlt : i < q.1.length := by omega
      have hl := gq.1
      obtain ⟨p, hp⟩ : ∃ p, q.1[i]? = some p := ⟨_, List.getElem?_eq_getElem hlt⟩
      obtain ⟨Sx, ex, dx, ddx, vx, gx, s, _⟩ := id hM
      have i114 : isO M 6 114 := by obtain ⟨L, sx, _⟩ := vx; exact sx.1
      have h15 := s.2.2.2.2.2.2.2.2.2.2.1
      have h10 := s.2.2.1
      by_cases hb : q.2 = true
      · have hl2 := gq.2.1 hb
        rw [bfs_full hb hl2]
        refine ⟨M, ?_, gq, hM, FrS.rf D M⟩
        rw [f_X6_run_15, chk_t i114, h10, if_neg (nI_ge hlt (by omega)), h15, if_pos hb, if_neg ne10]
      · rw [if_neg hb] at h15
        obtain ⟨M1, S, e, dC, e1, v1, g1, se, s1, hs1, f1, _⟩ := hM.rc k gq hp (n := n) (by omega)
        have qS : ∀ v, v < N → qm N S v = Q v := fun v hv => by rw [g1.2.2.1.m]; exact hQc v hv
        have e0 : mv0 N S = mv0 N p.1 := mv0_c se h16
        have ea : asks' 0 N N S ask sn = asks' 0 N N p.1 ask sn := asks_c se h16 ask sn
        have an := v1.asks (n := n) (ask := ask) (sn := sn) g1.1.1 h16 qS s1.2.2.2.2.1 s1.2.2.2.2.2.1 (by omega)
        obtain ⟨L1, x1, c1, p1⟩ := id v1
        have q1 := p1.1
        have cm := p1.cm (n := n) g1.1 h16 (by omega)
        have b16 : ∀ i, 16 ≤ i → i < 32 → bt ((asks' 0 N N p.1 ask sn).foldl (fun m g => bon m g) 0) i = false := fun i a b => by
          rw [fn_b _ _ _ b (fun w hw => by have := asks_m (i := 0) (d := N) (by omega) hw; omega), b_0, Bool.false_or]
          exact decide_eq_false (fun z => by have := asks_m (i := 0) (d := N) (by omega) z; omega)
        have bc := f_bcx b16 M1
        rw [pcx_ms b16, ms_asks h16] at bc
        have el : (mv0 N p.1).length + (asks' 0 N N p.1 ask sn).length = (mvl N p.1 ask sn).length := by
          rw [show mvl N p.1 ask sn = mv0 N p.1 ++ (asks' 0 N N p.1 ask sn).map (fun v => 272 + v) from rfl, List.length_append, List.length_map]
        have hml := mvl_len (N := N) p.1 ask sn
        obtain ⟨M2, e2, gq2, hM2, f2⟩ := ru_65 k hX hY hQc (f_X6_run_15 n) (i := i) (p := p) (by omega) (mvl N p.1 ask sn).length 0 n M1 q (by omega) hp gq ⟨_, _, _, _, v1, g1, s1, hs1⟩ (by omega)
        rw [List.drop_zero] at gq2 hM2
        have hle : q.1.length ≤ (exl N most p.1 p.2 (mvl N p.1 ask sn) q).1.length := exl_ge _ _ _ _ _ _
        obtain ⟨M3, e3, gq3, hM3, f3⟩ := ih (i + 1) m n M2 _ (by omega) (by omega) (by omega) gq2 hM2 (by omega)
        have eb : bfs N most ask sn (m + 1) i q = bfs N most ask sn m (i + 1) (exl N most p.1 p.2 (mvl N p.1 ask sn) q) := by
          rw [bfs, hp]
        rw [eb]
        refine ⟨M3, ?_, gq3, hM3, f1.tr (f2.tr f3)⟩
        rw [f_X6_run_15, chk_t i114, h10, if_neg (nI_ge hlt (by omega)), h15, if_pos rfl, e1, obd_s, chk_t x1.1, x1.2.1.1, bnd_e, cs_f q1, cm, obd_s, an, obd_s, ea, bc, obd_s, e0, nI_add, bnd_e, el]
        exact e2.trans e3
end
