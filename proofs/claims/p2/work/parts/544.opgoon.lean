/-! ===== goOn ===== -/
/-- the moves by draws: the state after them, how many -/
def gN (N : Nat) : Nat → St → Int64 → St × Nat
  | 0, S, _ => (S, 0)
  | k + 1, S, g => if mv0 N S = [] then (S, 0) else ((gN N k (dm 0 N (((mv0 N S)[dk g (mv0 N S).length]?).getD 0) S) (drw g)).1, (gN N k (dm 0 N (((mv0 N S)[dk g (mv0 N S).length]?).getD 0) S) (drw g)).2 + 1)
theorem gN_z {N k : Nat} {S : St} {g : Int64} (h : mv0 N S = []) : gN N k S g = (S, 0) := by
  cases k with
  | zero => rfl
  | succ k => show (if mv0 N S = [] then _ else _) = _; rw [if_pos h]
theorem gN_s {N k c : Nat} {S : St} {g : Int64} (h : mv0 N S ≠ []) (hc : (mv0 N S)[dk g (mv0 N S).length]? = some c) : gN N (k + 1) S g = ((gN N k (dm 0 N c S) (drw g)).1, (gN N k (dm 0 N c S) (drw g)).2 + 1) := by
  show (if mv0 N S = [] then _ else _) = _
  rw [if_neg h, hc]
  rfl
/-- what the moves keep -/
def GI (N A : Nat) (P : Nat → Nat) (S0 S : St) : Prop := Inv N A S ∧ IX N S ∧ IZ N S ∧ (∀ a, a < 16 → Ph a S ≤ P a) ∧ ∀ k i, k = 7 ∨ k = 17 ∨ k = 19 ∨ k = 20 → xR S k i = xR S0 k i
theorem GI.tdm {N A c : Nat} {P : Nat → Nat} {S0 S : St} (h : GI N A P S0 S) (h16 : N ≤ 16) (hA : A < 1048576) (hc : c ∈ mv0 N S) (t : Int32) : GI N A P S0 (dm t N c S) := by
  obtain ⟨hI, hX, hZ, hP, hR⟩ := h
  rcases mv0_in hI h16 hc with ⟨h1, h2, h3, h4⟩ | ⟨h1, h2, h3, h4⟩
  · rw [dm_1 h1]
    obtain ⟨x1, x2⟩ := br_X hI h16 hA hX h2 h3 t
    have kk : Qk S (br t N (c / 16) (c % 16) S) := fun k z i => (Kq.tbr S t N (c / 16) (c % 16)).1 k i z
    refine ⟨hI.tbr h16 hA h2 h3 t, x1, hZ.tbr hI h16 h2 h3 t, fun a ha => Nat.le_trans (x2 a ha) (hP a ha), fun k i hk => ?_⟩
    rcases hk with rfl | hk
    · rw [kk 7 (by omega)]; exact hR 7 i (by omega)
    · rw [br_19 (by omega)]; exact hR k i (by omega)
  · rw [dm_2 h1 h2]
    have h0 : xR S 0 (c - 256) ≠ 0 := by rw [h4]; decide
    obtain ⟨x1, x2⟩ := lv_X hI h16 hX h3 h0 t
    rw [if_pos h4] at x2
    exact ⟨hI.tlv h16 h3 h0 t, x1, hZ.tlv t, fun a ha => Nat.le_trans (x2 a ha) (hP a ha), fun k i hk => by rw [lv_R (by omega), if_neg (by omega)]; exact hR k i (by omega)⟩
theorem GI.tfl {N A : Nat} {P : Nat → Nat} {S0 S : St} (h : GI N A P S0 S) : (fl S).length ≤ smN P 16 :=
  Nat.le_trans (fl_PhS S) (smN_le 16 h.2.2.2.1)
theorem GI.tgN {N A : Nat} {P : Nat → Nat} {S0 : St} (h16 : N ≤ 16) (hA : A < 1048576) : ∀ (k : Nat) (S : St) (g : Int64), Gk g → GI N A P S0 S → GI N A P S0 (gN N k S g).1 := by
  intro k
  induction k with
  | zero => intro S g _ h; exact h
  | succ k ih =>
    intro S g hg h
    by_cases c : mv0 N S = []
    · rw [gN_z c]; exact h
    · have hl : 0 < (mv0 N S).length := List.length_pos_iff.mpr c
      have hm : (mv0 N S).length < 1000 := by
        have e := mvl_0 N S (fun _ => 0)
        have := mvl_len (N := N) S 0 (fun _ => 0)
        rw [e] at this
        omega
      obtain ⟨j, hj, ej⟩ := drk_lt hg hl hm
      have hd : dk g (mv0 N S).length = j := by unfold dk; rw [ej, nI_clamp (by omega)]
      have hc : (mv0 N S)[dk g (mv0 N S).length]? = some ((mv0 N S)[j]) := by rw [hd]; exact List.getElem?_eq_getElem hj
      rw [gN_s c hc]
      exact ih _ _ (Gk_drw hg) (h.tdm h16 hA (List.getElem_mem hj) 0)
theorem cgo {N A : Nat} {P : Nat → Nat} {S0 : St} {Q : Nat → Int32} {X Y T : Nat} (h2 : 2 ≤ N) (h16 : N ≤ 16) (hA : A < 1048576) (hP : smN P 16 + N ≤ 9000) (hT : T ≤ 500) : ∀ (d i n : Nat) (M : Mem) (S : St) (g : Int64), i + d = T → HV M 14 X Y 0 N Q S [] [] → XG M → mL M 14 16 = g → Gk g → GI N A P S0 S → d + 60 ≤ n → ∃ M', f_X9_goOn_28 n 0 (nI T) (nI i) M = some (nI (i + (gN N d S g).2), M') ∧ HV M' 14 X Y 0 N Q (gN N d S g).1 [] [] ∧ FrD M M' 14 := by
  intro d
  induction d with
  | zero =>
    intro i n M S g hi p xg hg hG hI hn
    obtain ⟨n, rfl⟩ : ∃ m, n = m + 1 := ⟨n - 1, by omega⟩
    refine ⟨M, ?_, p, (FrH.rf M 14).D⟩
    rw [f_X9_goOn_28, if_pos (nI_le (by omega) (by omega))]
    rfl
  | succ d ih =>
    intro i n M S g hi p xg hg hG hI hn
    obtain ⟨n, rfl⟩ : ∃ m, n = m + 1 := ⟨n - 1, by omega⟩
    have hl := hI.tfl
    obtain ⟨d1, d2⟩ := p.dr (n := n) hI.1 hA h2 h16 (by omega) (by have := p.1.2.2.2.2.2.2; omega) hg hG (by omega)
    by_cases c : mv0 N S = []
    · rw [gN_z c]
      refine ⟨M, ?_, p, (FrH.rf M 14).D⟩
      rw [f_X9_goOn_28, if_neg (nI_ge (by omega) (by omega)), chk_t xg.1, xg.2.2.2.1, bnd_e, cs_f p.1, d1 c, obd2_s, if_pos rfl]
      rfl
    · obtain ⟨m, M1, hm, e1, p1, g1, f1⟩ := d2 c
      have mem : m ∈ mv0 N S := List.mem_of_getElem? hm
      have hI1 := hI.tdm h16 hA mem 0
      have xg1 := xg.s f1.w4.s1
      obtain ⟨M', e', p', f'⟩ := ih (i + 1) n M1 _ (drw g) (by omega) p1 xg1 g1 (Gk_drw hG) hI1 (by omega)
      rw [gN_s c hm]
      refine ⟨M', ?_, p', f1.tr f'⟩
      rw [f_X9_goOn_28, if_neg (nI_ge (by omega) (by omega)), chk_t xg.1, xg.2.2.2.1, bnd_e, cs_f p.1, e1, obd2_s, if_neg ne10, bnd_e, nI_1, e']
      show some (nI (i + 1 + (gN N d (dm 0 N m S) (drw g)).2), M') = some (nI (i + ((gN N d (dm 0 N m S) (drw g)).2 + 1)), M')
      rw [show i + 1 + (gN N d (dm 0 N m S) (drw g)).2 = i + ((gN N d (dm 0 N m S) (drw g)).2 + 1) by omega]
theorem rgo {N A : Nat} {P : Nat → Nat} {S0 : St} {T : Nat} (h2 : 2 ≤ N) (h16 : N ≤ 16) (hA : A < 1048576) (hP : smN P 16 + N ≤ 9000) (hT : T ≤ 500) (hN : xR S0 20 0 = nI N) (ht : xR S0 20 1 = 1 → N % 2 = 1) : ∀ (d i n : Nat) (M : Mem) (S : St) (g : Int64), i + d = T → RV M false 0 S [] [] → mI M 120 7 = 0 → mL M 120 8 = g → Gk g → GI N A P S0 S → d + 9300 ≤ n → ∃ M', f_X10_goOn_25 n 120 (nI T) (nI i) M = some (nI (i + (gN N d S g).2), M') ∧ RV M' false 0 (gN N d S g).1 [] [] ∧ FrG M M' := by
  intro d
  induction d with
  | zero =>
    intro i n M S g hi r h7 hg hG hI hn
    obtain ⟨n, rfl⟩ : ∃ m, n = m + 1 := ⟨n - 1, by omega⟩
    refine ⟨M, ?_, r, FrG.rf M⟩
    rw [f_X10_goOn_25, if_pos (nI_le (by omega) (by omega))]
    rfl
  | succ d ih =>
    intro i n M S g hi r h7 hg hG hI hn
    obtain ⟨n, rfl⟩ : ∃ m, n = m + 1 := ⟨n - 1, by omega⟩
    have hl := hI.tfl
    have hR := hI.2.2.2.2
    obtain ⟨M1, d1, d2, f1⟩ := r.goO (n := n) hI.1 (by rw [hR 20 0 (by omega)]; exact hN) h2 h16 (by rw [hR 20 1 (by omega)]; exact ht) hA (by omega) h7 hg hG (by omega)
    by_cases c : mv0 N S = []
    · rw [gN_z c]
      obtain ⟨e1, r1, _⟩ := d1 c
      refine ⟨M1, ?_, r1, f1⟩
      rw [f_X10_goOn_25, if_neg (nI_ge (by omega) (by omega)), rs_f r.1, e1, obd2_s, if_pos rfl]
      rfl
    · obtain ⟨m, hm, e1, r1, g1⟩ := d2 c
      have mem : m ∈ mv0 N S := List.mem_of_getElem? hm
      have hI1 := hI.tdm h16 hA mem 0
      obtain ⟨M', e', r', f'⟩ := ih (i + 1) n M1 _ (drw g) (by omega) r1 (by rw [f1.2.2.1 7 (by decide)]; exact h7) g1 (Gk_drw hG) hI1 (by omega)
      rw [gN_s c hm]
      refine ⟨M', ?_, r', f1.tr f'⟩
      rw [f_X10_goOn_25, if_neg (nI_ge (by omega) (by omega)), rs_f r.1, e1, obd2_s, if_neg ne10, bnd_e, nI_1, e']
      show some (nI (i + 1 + (gN N d (dm 0 N m S) (drw g)).2), M') = some (nI (i + ((gN N d (dm 0 N m S) (drw g)).2 + 1)), M')
      rw [show i + 1 + (gN N d (dm 0 N m S) (drw g)).2 = i + ((gN N d (dm 0 N m S) (drw g)).2 + 1) by omega]
theorem WJ.gi {M : Mem} {N A i : Nat} {Q : Nat → Int32} {S : St} (w : WJ M N A i Q S) : GI N A (fun a => Ph a S) S S :=
  ⟨w.2.2.2.1.inv, w.2.2.2.1.ix, w.2.2.2.1.iz, fun _ _ => Nat.le_refl _, fun _ _ _ => rfl⟩
/-- a number up to 500, or none -/
theorem up500 (b : Int32) : (b < 0 ∨ nI 501 ≤ b) ∨ ∃ k, k ≤ 500 ∧ b = nI k := by
  rcases out_in (N := 501) (by decide) b with h | ⟨k, hk, e⟩
  · exact Or.inl h
  · exact Or.inr ⟨k, by omega, e⟩
theorem op39 {M : Mem} {i n : Nat} (h : WI i M) (hi : i ≤ 511) (a b : Int32) (hn : 100000 ≤ n) : Okk i (f_X9_goOn n 0 a b M) (fun M1 => f_X10_goOn n 120 a b M1) := by
  obtain ⟨N, A, Q, S, w⟩ := h
  obtain ⟨X, Y, L, p, sb, xg, xr⟩ := id w.1
  obtain ⟨_, r, z7, sw, hQ⟩ := id w
  have h16 := sw.n16
  have h2 := sw.n2
  have hA := sw.a
  have ps := sw.ps hi
  by_cases ca : a < 0
  · refine Okk.same w (r := -1) ?_ ?_
    · rw [f_X9_goOn, if_pos ca]
    · show f_X10_goOn n 120 a b M = _
      rw [f_X10_goOn, if_pos ca]
  · obtain ⟨s, hs, rfl⟩ := nn_e ca
    rcases up500 b with hb | ⟨T, hT, rfl⟩
    · refine Okk.same w (r := -1) ?_ ?_
      · rw [f_X9_goOn, if_neg ca]
        by_cases cb : b < 0
        · rw [if_pos cb]
        · rw [if_neg cb, if_neg (show ¬ b ≤ (500 : Int32) from fun z => by
            have h1 := hb.resolve_left cb
            have h3 := Int32.le_trans h1 z
            exact absurd h3 (by decide))]
      · show f_X10_goOn n 120 (nI s) b M = _
        rw [f_X10_goOn, if_neg ca, show (500 : Int32) = nI 500 from rfl, show (0 : Int32) = nI 0 from rfl]
        rcases hb with hb | hb
        · rw [show f_X10_isIn b (nI 0) (nI 500) M = some 0 by rw [f_X10_isIn, if_pos (show b < nI 0 from hb)], obd_s, if_pos (show (0 : Int32) = nI 0 from rfl)]
        · have : f_X10_isIn b (nI 0) (nI 500) M = some 0 := by
            rw [f_X10_isIn]
            by_cases cb : b < nI 0
            · rw [if_pos cb]
            · rw [if_neg cb, if_pos (gt3 (N := 500) (by decide) hb)]
          rw [this, obd_s, if_pos (show (0 : Int32) = nI 0 from rfl)]
    · have g0 : Gk ((nI s).toInt64) := lN_Gk hs
      have hP : smN (fun a => Ph a S) 16 + N ≤ 9000 := by
        show PhS S + N ≤ 9000
        omega
      have pL := p.tsL 14 16 ((nI s).toInt64)
      obtain ⟨M1, e1, p1, f1⟩ := cgo (A := A) h2 h16 (by omega) hP hT T 0 n _ S _ (by omega) pL (show XG (sL M 14 16 ((nI s).toInt64)) from xg) (mL_s _ _ _ _) g0 w.gi (by omega)
      have f0 : FrD M (sL M 14 16 ((nI s).toInt64)) 14 := ⟨_, FrH.rf _ _⟩
      have F := (f0.tr f1).w4
      have pp : ∀ X Y, HV M 14 X Y 0 N Q S [] [] → HV M1 14 X Y 0 N Q (gN N T S ((nI s).toInt64)).1 [] [] := fun X Y p' => by
        obtain ⟨M1', e1', p1', _⟩ := cgo (A := A) h2 h16 (by omega) hP hT T 0 n _ S _ (by omega) (p'.tsL 14 16 ((nI s).toInt64)) (show XG (sL M 14 16 ((nI s).toInt64)) from xg) (mL_s _ _ _ _) g0 w.gi (by omega)
        rw [e1] at e1'
        cases e1'
        exact p1'
      have gi := GI.tgN (P := fun a => Ph a S) (S0 := S) h16 (show A < 1048576 by omega) T S _ g0 w.gi
      obtain ⟨cw, r1, s120, io⟩ := w.cls F pp (fun kk j hk => gi.2.2.2.2 kk j (by omega))
      have rL := r1.tsL 120 8 ((nI s).toInt64)
      obtain ⟨M2, e2, r2, f2⟩ := rgo h2 h16 (show A < 1048576 by omega) hP hT sw.n sw.t T 0 n _ S _ (by omega) rL (by show mI M1 120 7 = 0; rw [s120]; exact z7) (mL_s _ _ _ _) g0 w.gi (by omega)
      have kq : Qk S (gN N T S ((nI s).toInt64)).1 := fun k hk j => gi.2.2.2.2 k j (by omega)
      have cI : ∀ o, ¬ (120 ≤ o ∧ o ≤ 130) → ∀ b, mI M2 o b = mI M1 o b := fun o ho b => by
        have := f2.2.1 o (fun z => ho ⟨by have := z.1; omega, by have := z.2; omega⟩) b
        exact this
      have c7 : mI M2 120 7 = 0 := by
        have := f2.2.2.1 7 (by decide)
        rw [this]
        show mI M1 120 7 = 0
        rw [s120]; exact z7
      have sw' : SW N A (i + 1) (gN N T S ((nI s).toInt64)).1 := sw.st (fun kk j hk => gi.2.2.2.2 kk j (by omega)) gi.1 gi.2.1 gi.2.2.1 (by omega) (fun y hy => by
        have nb : nbr N (gN N T S ((nI s).toInt64)).1 = nbr N S := smN_c N (fun v _ => by rw [gi.2.2.2.2 7 v (by omega)])
        rw [nb]
        have h8 := sw.pb y hy
        have h9 : Ph y (gN N T S ((nI s).toInt64)).1 ≤ Ph y S := gi.2.2.2.1 y (by omega)
        omega)
      have c1 : M2.1 = M1.1 := f2.1
      refine ⟨nI (0 + (gN N T S ((nI s).toInt64)).2), M1, M2, ?_, io, ?_, WJ.fin cw r2 c1 cI (fun o ho b => (f2.2.2.2 o b (by omega)).trans (mL_o _ _ _ _ (by omega))) c7 sw' (fun v hv => by rw [kq.m]; exact hQ v hv)⟩
      · rw [f_X9_goOn, if_neg ca, if_neg (show ¬ nI T < 0 from nI_nlt (b := 0) (Nat.zero_le _) (by omega)), if_pos (show nI T ≤ (500 : Int32) from nI_le (b := 500) hT (by decide)), chk_t xg.1, xg.2.2.2.1, bnd_e, cs_f p.1, bnd_e]
        exact e1
      · show f_X10_goOn n 120 (nI s) (nI T) M1 = _
        rw [f_X10_goOn, if_neg ca, show (500 : Int32) = nI 500 from rfl, f_isI M1 hT (by decide), obd_s, if_neg ne10, rs_f r1.1, bnd_e]
        exact e2
