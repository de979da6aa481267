/-! ===== the class's search: all moves of a state ===== -/
theorem asks_c {S S' : St} (h : SE S S') {N : Nat} (h16 : N ≤ 16) (ask : Int32) (sn : Nat → Int32) : asks' 0 N N S ask sn = asks' 0 N N S' ask sn := by
  unfold asks'
  apply List.filter_congr
  intro v hv
  have := List.mem_range'_1.mp hv
  rw [h.tma h16 (by omega), h.1 2 v (by omega) (by omega)]
theorem mv0_c {S S' : St} (h : SE S S') {N : Nat} (h16 : N ≤ 16) : mv0 N S = mv0 N S' := by
  have := h.sy.tmv h16 0 (sn := fun _ => 0) (sn' := fun _ => 0) (fun _ _ => rfl)
  rwa [mvl_0, mvl_0] at this
def CM (D : Nat → Prop) (X0 Y0 : Nat) (t : Int32) (N : Nat) (Q : Nat → Int32) (pb pt : List Row4) (A P most : Nat) (S0 : St) (ask : Int32) (sn : Nat → Int32) (M : Mem) (q : Bq) : Prop := ∃ S e dC d, SV X0 Y0 t N Q pb pt S M e dC ∧ GS N A P S0 S d ∧ SQ N ask sn most M e dC q ∧ Sep D M dC
section
variable {D : Nat → Prop} {X0 Y0 N : Nat} {t : Int32} {Q : Nat → Int32} {pb pt : List Row4} {A P most : Nat} {S0 : St} {ask : Int32} {sn : Nat → Int32}
/-- a state met, taken up -/
theorem CM.rc {M : Mem} {q : Bq} {i n : Nat} {p : St × Nat} (k : SK N A P most S0) (gq : GQ N A P most S0 q) (h : CM D X0 Y0 t N Q pb pt A P most S0 ask sn M q) (hp : q.1[i]? = some p) (hn : 9400 ≤ n) : ∃ M' S e dC, f_X6_recall n 114 (nI i) M = some M' ∧ SV X0 Y0 t N Q pb pt S M' e dC ∧ GS N A P S0 S p.2 ∧ SE S p.1 ∧ SQ N ask sn most M' e dC q ∧ Sep D M' dC ∧ FrS D M M' ∧ mI M' 114 15 = mI M 114 15 := by
  obtain ⟨h2, h16, h40, hA, hP, hN0, ht0, hQ⟩ := id k
  obtain ⟨S, e, dC, d, v, g, s, hs⟩ := h
  obtain ⟨dp, gp⟩ := gq.2.2 i p hp
  have hi := gl_lt hp
  have hl := gq.1
  have o1 := offs_s (N := N) hp
  have o2 := offs_mono (N := N) (l := q.1) (q.1.length - (i + 1)) (i + 1)
  rw [show i + 1 + (q.1.length - (i + 1)) = q.1.length by omega] at o2
  obtain ⟨M', S', e1, v', f, cc, se, g', _, _⟩ := v.recall (n := n) gp g (by omega) (Tok_of gp h16 (by omega) (by have := gp.fl k (by omega); omega)) (i := i) (by omega) (s.1.1 i (by omega)) (fun j x hx => (s.1.2 i p hp).1 j x hx) (by have := s.2.1; omega) hn
  exact ⟨M', S', e, dC, e1, v', g', se, s.up v f cc, (v.frs f hs).2, (v.frs f hs).1, f.2.2.2.2.1 15 (by decide)⟩
set_option maxHeartbeats 2000000 in
theorem ru_65 (k : SK N A P most S0) (hX : X0 ≤ 100000) (hY : Y0 ≤ 1000000) (hQc : ∀ v, v < N → qm N S0 v = Q v) (K : Nat → Int32 → Mem → Option Mem) {i : Nat} {p : St × Nat} (hi : i < most) : ∀ (d j n : Nat) (M : Mem) (q : Bq), j + d = (mvl N p.1 ask sn).length → q.1[i]? = some p → GQ N A P most S0 q → CM D X0 Y0 t N Q pb pt A P most S0 ask sn M q → d + 21000 ≤ n → ∃ M', f_X6_run_65 K n 114 (nI i) (nI (mv0 N p.1).length) ((asks' 0 N N p.1 ask sn).foldl (fun m g => bon m g) 0) (nI (mvl N p.1 ask sn).length) (nI j) M = K 114 (nI (i + 1)) M' ∧ GQ N A P most S0 (exl N most p.1 p.2 ((mvl N p.1 ask sn).drop j) q) ∧ CM D X0 Y0 t N Q pb pt A P most S0 ask sn M' (exl N most p.1 p.2 ((mvl N p.1 ask sn).drop j) q) ∧ FrS D M M' := by
  obtain ⟨h2, h16, h40, hA, hP, hN0, ht0, hQ⟩ := id k
  intro d
  induction d with
  | zero =>
    intro j n M q hj hp gq hM hn
    obtain ⟨n, rfl⟩ : ∃ m, n = m + 1 := ⟨n - 1, by omega⟩
    have hml := mvl_len (N := N) p.1 ask sn
    rw [List.drop_of_length_le (by omega)]
    refine ⟨M, ?_, gq, hM, FrS.rf D M⟩
    rw [f_X6_run_65, if_pos (nI_le (by omega) (by omega)), nI_1, bnd_e]
  | succ d ih =>
    intro j n M q hj hp gq hM hn
    obtain ⟨n, rfl⟩ : ∃ m, n = m + 1 := ⟨n - 1, by omega⟩
    have hml := mvl_len (N := N) p.1 ask sn
    have hjl : j < (mvl N p.1 ask sn).length := by omega
    obtain ⟨Sx, ex, dx, ddx, vx, gx, sx', _⟩ := id hM
    have i114 : isO M 6 114 := by obtain ⟨L, sx, _⟩ := vx; exact sx.1
    have h15 := sx'.2.2.2.2.2.2.2.2.2.2.1
    by_cases hb : q.2 = true
    · have hl := gq.2.1 hb
      rw [exl_full hb hl]
      refine ⟨M, ?_, gq, hM, FrS.rf D M⟩
      rw [f_X6_run_65, if_neg (nI_ge (by omega) (by omega)), chk_t i114, h15, if_pos hb, if_neg ne10, nI_1, bnd_e]
    · rw [if_neg hb] at h15
      obtain ⟨M1, S, e, dC, e1, v1, g1, se, s1, hs1, f1, _⟩ := hM.rc k gq hp (n := n) (by omega)
      obtain ⟨dp, gp⟩ := gq.2.2 i p hp
      have hil := gl_lt hp
      have hl40 := gq.1
      have hmv : mvl N S ask sn = mvl N p.1 ask sn := se.sy.tmv h16 ask (fun _ _ => rfl)
      generalize hcc : (mvl N p.1 ask sn)[j] = c
      have hcj : (mvl N S ask sn)[j]? = some c := by rw [hmv, ← hcc]; exact List.getElem?_eq_getElem hjl
      have hcm : c ∈ mvl N p.1 ask sn := by rw [← hcc]; exact List.getElem_mem hjl
      have ok := mvl_ok gp.1 h16 hcm
      have ok2 := mvl_ok g1.1 h16 (by rw [hmv]; exact hcm : c ∈ mvl N S ask sn)
      have g3 := g1.mv h2 h16 (by omega) hQ ok2 t
      have gm := gp.mv h2 h16 (by omega) hQ ok 0
      have sm : SE (dm t N c S) (dm 0 N c p.1) := se.tdm g1.1 h16 (by
        rcases ok2 with z | z | z
        · exact Or.inl z
        · exact Or.inr (Or.inl ⟨z.1, z.2.1, z.2.2.1⟩)
        · exact Or.inr (Or.inr ⟨z.1, z.2.1⟩))
      have hfl := g1.fl k (by omega)
      have qS : ∀ v, v < N → qm N S v = Q v := fun v hv => by rw [g1.2.2.1.m]; exact hQc v hv
      have e0 : mv0 N S = mv0 N p.1 := mv0_c se h16
      have ea : asks' 0 N N S ask sn = asks' 0 N N p.1 ask sn := asks_c se h16 ask sn
      have emv : mvl N S ask sn = mv0 N S ++ (asks' 0 N N S ask sn).map (fun v => 272 + v) := rfl
      have hl0 : (mv0 N p.1).length ≤ (mvl N p.1 ask sn).length := by
        rw [show mvl N p.1 ask sn = mv0 N p.1 ++ (asks' 0 N N p.1 ask sn).map (fun v => 272 + v) from rfl, List.length_append]
        omega
      obtain ⟨L1, x1, c1, p1⟩ := id v1
      have q1 := p1.1
      have mvd : ∃ M2, f_X6_run_65 K (n + 1) 114 (nI i) (nI (mv0 N p.1).length) ((asks' 0 N N p.1 ask sn).foldl (fun m g => bon m g) 0) (nI (mvl N p.1 ask sn).length) (nI j) M = f_X6_run_121 K (f_X6_run_65 K n) n 114 (nI i) (nI (mv0 N p.1).length) ((asks' 0 N N p.1 ask sn).foldl (fun m g => bon m g) 0) (nI (mvl N p.1 ask sn).length) (nI j) M2 ∧ SV X0 Y0 t N Q pb pt (dm t N c S) M2 e dC ∧ FrUp M1 M2 ∧ ∀ b, mI M2 dC b = mI M1 dC b := by
        by_cases w : j < (mv0 N p.1).length
        · rw [emv, List.getElem?_append_left (by rw [e0]; exact w)] at hcj
          obtain ⟨M2, e2, v2, f2, c2⟩ := v1.go (F := f_X2_makeMove n 63 (nI j)) (S' := dm t N c S) (fun X Y p => p.mk g1.1 (by omega) h2 h16 hfl (by omega) hcj (by omega))
          refine ⟨M2, ?_, v2, f2, c2⟩
          rw [f_X6_run_65, if_neg (nI_ge (by omega) (by omega)), chk_t i114, h15, if_pos rfl, e1, obd_s, if_neg (nI_ge w (by omega)), chk_t x1.1, x1.2.1.1, bnd_e, cs_f q1, e2, obd_s]
        · rw [emv, List.getElem?_append_right (by rw [e0]; omega), List.getElem?_map, e0, ea] at hcj
          cases hv : (asks' 0 N N p.1 ask sn)[j - (mv0 N p.1).length]? with
          | none => rw [hv] at hcj; cases hcj
          | some v =>
            rw [hv] at hcj
            have hc : c = 272 + v := (Option.some.inj hcj).symm
            obtain ⟨v0, vz⟩ : v < N ∧ xR S 0 v = 0 := by
              rcases ok2 with z | z | z
              · omega
              · omega
              · have := z.2.2
                rw [hc, Nat.add_sub_cancel_left] at this
                exact ⟨by have := z.2.1; omega, this.1⟩
            have ed : dm t N c S = ak t N v S := by
              unfold dm
              rw [hc, if_neg (by omega), if_neg (by omega), Nat.add_sub_cancel_left]
            obtain ⟨M2, e2, v2, f2, c2⟩ := v1.go (F := f_X2_startAsking n 63 (nI v)) (S' := ak t N v S) (fun X Y p => p.tak h16 v0 (by rw [vz]; decide) (qS v v0) hfl (by omega))
            refine ⟨M2, ?_, by rw [ed]; exact v2, f2, c2⟩
            have em := f_member (x := (asks' 0 N N p.1 ask sn).foldl (fun m g => bon m g) 0) (i := j - (mv0 N p.1).length) (v := v) (n := n) M1 (by omega) (by rw [ms_asks h16]; exact hv)
            rw [f_X6_run_65, if_neg (nI_ge (by omega) (by omega)), chk_t i114, h15, if_pos rfl, e1, obd_s, if_pos (nI_le (by omega) (by omega)), chk_t x1.1, x1.2.1.1, bnd_e, cs_f q1, nI_sb (by omega), em, obd_s, e2, obd_s]
      obtain ⟨M2, E2, v2, f2, c2⟩ := mvd
      have s2 := s1.up v1 f2 c2
      obtain ⟨M3, e3', d3, e3, v3, s3, f3⟩ := v2.meet hX hY h16 (A := A) (P := P) (most := most) (dd := p.2 + 1) (S0 := S0) (Sm := dm 0 N c p.1) (q := q) (n := n) (by omega) h40 (by omega) (fun v hv => by rw [g3.2.2.1.m]; exact hQc v hv) gq g3 (by omega) sm s2 (by omega)
      have h2' := v1.frs f2 hs1
      have h3' := v2.frq f3 h2'.2
      obtain ⟨M', e', gq', hM', f'⟩ := ih (j + 1) n M3 (met1 most q (dm 0 N c p.1) (p.2 + 1)) (by omega) (met1_pre hp) (gq.m hil (by omega) gm) ⟨_, _, _, _, v3, g3, s3, h3'.2⟩ (by omega)
      have ed : (mvl N p.1 ask sn).drop j = c :: (mvl N p.1 ask sn).drop (j + 1) := by rw [List.drop_eq_getElem_cons hjl, hcc]
      rw [ed, exl_c]
      obtain ⟨L2, x2, _, _⟩ := id v2
      refine ⟨M', ?_, gq', hM', f1.tr (h2'.1.tr (h3'.1.tr f'))⟩
      have l16 : mLn M2 116 = 40 := x2.2.2.2.1.2.1
      rw [E2, f_X6_run_121, chk_t x2.1, x2.2.1.2.2.1, bnd_e, chk_t x2.2.2.1.2.1, l16, chk_t (inB_n (show i < 40 by omega) (by decide)), mI_c (by omega), (s2.1.2 i p hp).2, nI_1, e3, obd_s, nI_1, bnd_e]
      exact e'
end
