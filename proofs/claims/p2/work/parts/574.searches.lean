/-! ===== searched, searchedBy, soonest, from any state between the calls ===== -/
theorem tell_out {c : Int32} (h : Out 6 c) {M : Mem} : f_X6_tell 114 c M = some (-1) := by
  have n : ∀ k, k < 6 → ¬ c = nI k := fun k hk e => by
    rw [e] at h
    rcases h with h | h
    · exact absurd h (show ¬ nI k < 0 from nI_nl (a := k) (b := 0) (Nat.zero_le _) (by omega))
    · exact absurd h (nI_ge hk (by decide))
  rw [f_X6_tell, if_neg (show ¬ c = (0 : Int32) from n 0 (by decide)), if_neg (show ¬ c = (1 : Int32) from n 1 (by decide)), if_neg (show ¬ c = (2 : Int32) from n 2 (by decide)), if_neg (show ¬ c = (3 : Int32) from n 3 (by decide)), if_neg (show ¬ c = (4 : Int32) from n 4 (by decide)), if_neg (show ¬ c = (5 : Int32) from n 5 (by decide))]
theorem WJ.sk {M : Mem} {N A i m : Nat} {Q : Nat → Int32} {S : St} (w : WJ M N A i Q S) (hi : i ≤ 511) (h40 : m ≤ 40) : SK N A 8176 m S ∧ GS N A 8176 S S 0 := by
  have sw := w.2.2.2.1
  have h16 := sw.n16
  have tc := w.tc
  refine ⟨⟨sw.n2, h16, h40, by have := sw.a; omega, by omega, sw.n, sw.t, tc.1⟩, sw.inv, ⟨sw.ix, tc.2, sw.ps hi⟩, Qk.rf S, Kn.rf N S⟩
theorem WJ.run {M : Mem} {N A i m n : Nat} {Q : Nat → Int32} {S : St} (w : WJ M N A i Q S) (hi : i ≤ 511) (ask : Int32) (h1 : 1 ≤ m) (h40 : m ≤ 40) (hn : 100000 ≤ n) : ∃ M1, f_X6_run n 114 14 ask (nI m) M = some M1 ∧ CW M1 N Q S ∧ RV M1 false 0 S [] [] ∧ mI M1 120 7 = 0 ∧ GQ N A 8176 m S (bfq N m ask S) ∧ (∃ D X0 Y0 pb pt, CM D X0 Y0 0 N Q pb pt A 8176 m S ask (fun v => xR S 2 v) M1 (bfq N m ask S)) ∧ isO M1 9 0 ∧ mR M1 0 5 = 114 ∧ isO M1 6 114 := by
  obtain ⟨X, Y, L, p, sb, xg, xr⟩ := id w.1
  obtain ⟨sk, gs⟩ := w.sk hi h40
  obtain ⟨X0, Y0, pb, pt, sr, hX, hY, dj, sep, fin⟩ := w.1.sea
  have hN := p.1.2.2.2.2.2.2
  obtain ⟨M1, e1, gq, cm, f⟩ := run_w p sr sk h1 gs hX hY (fun v hv => w.2.2.2.2 v hv) dj sep (n := n) (by omega)
  have cw := fin M1 0 Q pb pt A 8176 m S ask _ _ cm f
  obtain ⟨f1, f2, f3, f4, f5⟩ := id f
  have r1 : RV M1 false 0 S [] [] := w.2.1.mr f1 (fun o a b => ⟨f2 o (by omega), fun c => f3 o c (by omega) (by omega) (by omega), f4 o (Or.inl ⟨b, by omega, by omega⟩)⟩)
  obtain ⟨_, _, _, _, _, xg1, _, _, xs1, _⟩ := id cw
  obtain ⟨_, _, _, _, _, _, _, _, sx1, _⟩ := xs1
  exact ⟨M1, e1, cw, r1, by rw [f4 120 (Or.inl ⟨by decide, by decide, by decide⟩)]; exact w.2.2.1, gq, ⟨_, _, _, _, _, cm⟩, xg1.1, xg1.2.2.2.2.2.2, sx1.1⟩
theorem WJ.fz {M M1 M2 : Mem} {N A i : Nat} {Q : Nat → Int32} {S : St} {ask : Int32} (w : WJ M N A i Q S) (cw : CW M1 N Q S) (r1 : RV M1 false 0 S [] []) (z1 : mI M1 120 7 = 0) (f : FZ (sI M1 120 7 ask) M2) : WI (i + 1) M2 := by
  obtain ⟨Mz, rfl, e, hI, h6, h3, h8⟩ := f
  have oz : ∀ o, o ≠ 120 → ∀ b, mI (sI Mz 120 7 0) o b = mI Mz o b := fun o n b => mI_o _ _ _ _ _ n
  have om : ∀ o, o ≠ 120 → ∀ b, mI (sI M1 120 7 ask) o b = mI M1 o b := fun o n b => mI_o _ _ _ _ _ n
  refine w.rfb cw r1 z1 (show Mz.1 = M1.1 from e) (fun o ho b => by rw [oz o (by omega), hI o (by omega), om o (by omega)]) (by rw [mI_n _ _ _ _ (by decide), h3, mI_n _ _ _ _ (by decide)]) (by rw [mI_s, z1]) (fun b hb => by rw [oz 126 (by decide), h6 b hb, om 121 (by decide)]) (fun o _ b => h8 o b)
theorem FZ.e {M1 M2 : Mem} (f : FZ M1 M2) : FZ (sI M1 120 7 (mI M1 120 7)) M2 := by
  have e : sI M1 120 7 (mI M1 120 7) = M1 := by
    refine Prod.ext rfl (Prod.ext ?_ rfl)
    funext a b
    show (if a = 120 ∧ b = 7 then mI M1 120 7 else M1.2.1 a b) = M1.2.1 a b
    by_cases c : a = 120 ∧ b = 7
    · rw [if_pos c, c.1, c.2]; rfl
    · rw [if_neg c]
  rw [e]; exact f
/-- both of them have searched -/
theorem WJ.both {M : Mem} {N A i m n : Nat} {Q : Nat → Int32} {S : St} (w : WJ M N A i Q S) (hi : i ≤ 511) (ask : Int32) (ha : ask &&& ((((1 : Int32) <<< (nI N &&& 31)) - 1) ^^^ (-1 : Int32)) = 0) (h1 : 1 ≤ m) (h40 : m ≤ 40) (c : Int32) (hn : 100000 ≤ n) : ∃ M1 r M2, f_X6_run n 114 14 ask (nI m) M = some M1 ∧ f_X6_tell 114 c M1 = some r ∧ isO M1 9 0 ∧ mR M1 0 5 = 114 ∧ isO M1 6 114 ∧ isO M1 10 120 ∧ f_X10_searchedBy n 120 ask (nI m) c M1 = some (r, M2) ∧ WI (i + 1) M2 := by
  obtain ⟨M1, e1, cw, r1, z1, gq, ⟨D, X0, Y0, pb, pt, cm⟩, i0, i5, i6⟩ := w.run hi ask h1 h40 hn
  obtain ⟨sk, gs⟩ := w.sk hi h40
  have io := r1.1.io (i := 120) (c := 10) (by decide) (by decide) (by decide)
  have sw := w.2.2.2.1
  rcases out_in (N := 6) (by decide) c with h | ⟨u, hu, rfl⟩
  · refine ⟨M1, -1, M1, e1, tell_out h, i0, i5, i6, io, ?_, N, A, Q, S, cw, r1, z1, sw.mo, w.2.2.2.2⟩
    have i1 : f_X10_isIn (nI m) (1 : Int32) (40 : Int32) M1 = some 1 := is_in3 (L := 1) (N := 40) (by decide) h1 h40
    rw [f_X10_searchedBy, rs_f r1.1, f_all r1 sw.n, obd_s, if_pos ha, i1, obd_s, if_neg ne10, out_is h (lt_of (by decide)), obd_s, if_pos rfl]
  · obtain ⟨M2, e2, f2⟩ := r1.sby2 (n := n) (w := u) sk h1 gs ha hu (by omega)
    exact ⟨M1, _, M2, e1, f_tellE cm (bfq_dn _ _ _ _) hu, i0, i5, i6, io, e2, w.fz cw r1 z1 f2⟩
theorem op42 {M : Mem} {i n : Nat} (h : WI i M) (hi : i ≤ 511) (a b c : Int32) (hn : 100000 ≤ n) : Okk i (f_X9_searchedBy n 0 a b c M) (fun M1 => f_X10_searchedBy n 120 a b c M1) := by
  obtain ⟨N, A, Q, S, w⟩ := h
  obtain ⟨X, Y, L, p, sb, xg, xc, xv, xs, xr⟩ := id w.1
  obtain ⟨_, r, z7, sw, hQ⟩ := id w
  by_cases ha : a &&& ((((1 : Int32) <<< (nI N &&& 31)) - 1) ^^^ (-1 : Int32)) = 0
  · rcases rng3 (L := 1) (N := 40) (by decide) (by decide) b with hb | ⟨m, h1, h40, rfl⟩
    · refine Okk.same w (r := -1) ?_ ?_
      · rw [f_X9_searchedBy, chk_t xg.1, xg.2.1, bnd_e, sb.f, sb.isS, if_pos ha, obd_s, if_neg ne10]
        by_cases q : b < 1
        · rw [if_pos q]
        · rw [if_neg q, if_neg (show ¬ b ≤ (40 : Int32) from Int32.not_le.mpr (gt3 (N := 40) (by decide) (hb.resolve_left q)))]
      · show f_X10_searchedBy n 120 a b c M = _
        rw [f_X10_searchedBy, rs_f r.1, f_all r sw.n, obd_s, if_pos ha, show (40 : Int32) = nI 40 from rfl, show (1 : Int32) = nI 1 from rfl]
        rw [is_out3 (by decide) hb, obd_s, if_pos rfl]
    · obtain ⟨M1, y, M2, e1, et, i0, i5, i6, io, e2, wi⟩ := w.both hi a ha h1 h40 c hn
      refine ⟨y, M1, M2, ?_, io, e2, wi⟩
      obtain ⟨_, _, _, _, _, _, _, _, sx, _⟩ := xs
      rw [f_X9_searchedBy, chk_t xg.1, xg.2.1, bnd_e, sb.f, sb.isS, if_pos ha, obd_s, if_neg ne10, if_neg (show ¬ nI m < (1 : Int32) from nI_nl (a := m) (b := 1) h1 (by omega)), if_pos (show nI m ≤ (40 : Int32) from nI_le (a := m) (b := 40) h40 (by decide)), xg.2.2.2.2.2.2, bnd_e, chk_t sx.1, xg.2.2.2.1, bnd_e, cs_f p.1, e1, obd_s, chk_t i0, i5, bnd_e, chk_t i6, et, obd_s]
  · refine Okk.same w (r := -1) ?_ ?_
    · rw [f_X9_searchedBy, chk_t xg.1, xg.2.1, bnd_e, sb.f, sb.isS, if_neg ha, obd_s, if_pos rfl]
    · show f_X10_searchedBy n 120 a b c M = _
      rw [f_X10_searchedBy, rs_f r.1, f_all r sw.n, obd_s, if_neg ha]
theorem and0 (x : Int32) : (0 : Int32) &&& x = 0 := by
  refine b_ext fun i _ => ?_
  rw [b_and, b_0]; rfl
theorem op41 {M : Mem} {i n : Nat} (h : WI i M) (hi : i ≤ 511) (a b : Int32) (hn : 100000 ≤ n) : Okk i (f_X9_searched n 0 a b M) (fun M1 => f_X10_searched n 120 a b M1) := by
  obtain ⟨N, A, Q, S, w⟩ := h
  obtain ⟨X, Y, L, p, sb, xg, xc, xv, xs, xr⟩ := id w.1
  obtain ⟨_, r, z7, sw, hQ⟩ := id w
  have ha := and0 ((((1 : Int32) <<< (nI N &&& 31)) - 1) ^^^ (-1 : Int32))
  rcases rng3 (L := 1) (N := 40) (by decide) (by decide) a with hb | ⟨m, h1, h40, rfl⟩
  · refine Okk.same w (r := -1) ?_ ?_
    · rw [f_X9_searched]
      by_cases q : a < 1
      · rw [if_pos q]
      · rw [if_neg q, if_neg (show ¬ a ≤ (40 : Int32) from Int32.not_le.mpr (gt3 (N := 40) (by decide) (hb.resolve_left q)))]
    · show f_X10_searched n 120 a b M = _
      rw [f_X10_searched, rs_f r.1, f_X10_searchedBy, rs_f r.1, f_all r sw.n, obd_s, if_pos ha, show (40 : Int32) = nI 40 from rfl, show (1 : Int32) = nI 1 from rfl]
      rw [is_out3 (by decide) hb, obd_s, if_pos rfl, obd2_s]
  · obtain ⟨M1, y, M2, e1, et, i0, i5, i6, io, e2, wi⟩ := w.both hi 0 ha h1 h40 b hn
    refine ⟨y, M1, M2, ?_, io, ?_, wi⟩
    · obtain ⟨_, _, _, _, _, _, _, _, sx, _⟩ := xs
      rw [f_X9_searched, if_neg (show ¬ nI m < (1 : Int32) from nI_nl (a := m) (b := 1) h1 (by omega)), if_pos (show nI m ≤ (40 : Int32) from nI_le (a := m) (b := 40) h40 (by decide)), chk_t xg.1, xg.2.2.2.2.2.2, bnd_e, chk_t sx.1, xg.2.2.2.1, bnd_e, cs_f p.1, e1, obd_s, chk_t i0, i5, bnd_e, chk_t i6, et, obd_s]
    · show f_X10_searched n 120 (nI m) b M1 = _
      rw [f_X10_searched, chk_t io, e2, obd2_s]
theorem op45 {M : Mem} {i n : Nat} (h : WI i M) (hi : i ≤ 511) (a b : Int32) (hn : 100000 ≤ n) : Okk i (f_X9_soonest n 0 a b M) (fun M1 => f_X10_soonest n 120 a b M1) := by
  obtain ⟨N, A, Q, S, w⟩ := h
  obtain ⟨X, Y, L, p, sb, xg, xc, xv, xs, xr⟩ := id w.1
  obtain ⟨_, r, z7, sw, hQ⟩ := id w
  have h16 := sw.n16
  have h2 := sw.n2
  rcases out_in (N := N) (by omega) a with ha | ⟨v, hv, rfl⟩
  · refine Okk.same w (r := -1) ?_ ?_
    · rw [f_X9_soonest, chk_t xg.1, xg.2.1, bnd_e, sb.f, ndc0 sb ha, obd_s, if_pos rfl]
    · show f_X10_soonest n 120 a b M = _
      rw [f_X10_soonest, rs_f r.1, ndr0 r sw.n (by omega) h16 ha, obd_s, if_pos rfl]
  · rcases rng3 (L := 1) (N := 40) (by decide) (by decide) b with hb | ⟨m, h1, h40, rfl⟩
    · refine Okk.same w (r := -1) ?_ ?_
      · rw [f_X9_soonest, chk_t xg.1, xg.2.1, bnd_e, sb.f, ndc sb hv h16, obd_s, if_neg ne10]
        by_cases q : b < 1
        · rw [if_pos q]
        · rw [if_neg q, if_neg (show ¬ b ≤ (40 : Int32) from Int32.not_le.mpr (gt3 (N := 40) (by decide) (hb.resolve_left q)))]
      · show f_X10_soonest n 120 (nI v) b M = _
        rw [f_X10_soonest, rs_f r.1, ndr r sw.n hv h16, obd_s, if_neg ne10, show (40 : Int32) = nI 40 from rfl, show (1 : Int32) = nI 1 from rfl]
        rw [is_out3 (by decide) hb, obd_s, if_pos rfl]
    · obtain ⟨M1, e1, cw, r1, z1, gq, ⟨D, X0, Y0, pb, pt, cm⟩, i0, i5, i6⟩ := w.run hi 0 h1 h40 hn
      obtain ⟨sk, gs⟩ := w.sk hi h40
      have io := r1.1.io (i := 120) (c := 10) (by decide) (by decide) (by decide)
      obtain ⟨M2, e2, f2⟩ := r1.ssn2 (n := n) sk h1 gs z1 hv (ndr r1 sw.n hv h16) (by omega)
      refine ⟨_, M1, M2, ?_, io, e2, w.fz cw r1 z1 f2.e⟩
      obtain ⟨_, _, _, _, _, _, _, _, sx, _⟩ := xs
      rw [f_X9_soonest, chk_t xg.1, xg.2.1, bnd_e, sb.f, ndc sb hv h16, obd_s, if_neg ne10, if_neg (show ¬ nI m < (1 : Int32) from nI_nl (a := m) (b := 1) h1 (by omega)), if_pos (show nI m ≤ (40 : Int32) from nI_le (a := m) (b := 40) h40 (by decide)), xg.2.2.2.2.2.2, bnd_e, chk_t sx.1, xg.2.2.2.1, bnd_e, cs_f p.1, e1, obd_s, chk_t i0, i5, bnd_e, chk_t i6, f_sonE cm gq h40 (by omega) (by omega), obd_s]
