/-! ===== a letter is read, by the reference ===== -/
def rd (t : Int32) (N k f g : Nat) (s : Int32) (S : St) : St :=
  let S1 := if s ≤ xR S 1 g then S else uR S 1 g s
  if k = 0 then rq t g f s S1
  else if k = 4 then yl t g f s S1
  else if k = 5 then rl t g f s S1
  else if xR S1 0 g = 1 ∧ xR S1 2 g = s then (if k = 1 then gr t N g f S1 else if k = 2 then fd t N g f S1 else iq t g f S1)
  else S1
/-- what the hearing of f's letter by s at g rests on -/
def Hok (S : St) (f g : Nat) (s : Int32) : Prop := (∀ w, w ∈ xW S g → w.1 < 16) ∧ (xW S g).length < 20 ∧ Srt f s (xW S g) ∧ Gok S g
theorem RV.rd45 {M : Mem} {tw : Bool} {t : Int32} {S : St} {pb pt : List Row4} (h : RV M tw t S pb pt) {N : Nat} (hN : xR S 20 0 = nI N) (h2N : 2 ≤ N) (h16 : N ≤ 16) {k f g : Nat} (hk : k < 6) (hf : f < 16) (hg : g < 16) {s : Int32} (hH : Hok S f g s) (hl : (fl S).length + N ≤ 9000) {n : Nat} (hn : 9200 ≤ n) {u0 : Int32} (hu : ((xR S 0 g = 1 ∧ xR S 2 g = s) ∧ u0 = 1) ∨ (¬ (xR S 0 g = 1 ∧ xR S 2 g = s) ∧ u0 = 0)) : ∃ M', f_X10_read_45 n 120 (nI k) (nI f) (nI g) s u0 M = some M' ∧ RV M' tw t (if k = 0 then rq t g f s S else if k = 4 then yl t g f s S else if k = 5 then rl t g f s S else if xR S 0 g = 1 ∧ xR S 2 g = s then (if k = 1 then gr t N g f S else if k = 2 then fd t N g f S else iq t g f S) else S) pb pt ∧ Fr PA M M' := by
  obtain ⟨hW, hwl, hs, hG⟩ := hH
  have kd : ∀ a b : Nat, a < 6 → b < 6 → a ≠ b → ¬ nI a = nI b := fun a b ha hb hne q => hne ((nI_eq (by omega) (by omega)).mp q)
  rcases (show k = 0 ∨ k = 1 ∨ k = 2 ∨ k = 3 ∨ k = 4 ∨ k = 5 by omega) with rfl | rfl | rfl | rfl | rfl | rfl
  · obtain ⟨M', e, h', f'⟩ := h.trq (a := g) (v := f) (s := s) hg hf (by omega) hW hwl hs hG (n := n) (by omega)
    exact ⟨M', by rw [f_X10_read_45, if_pos (by rfl), rs_f h.1, e, obd_s], h', f'⟩
  · rw [if_neg (show ¬ (1 : Nat) = 0 by decide), if_neg (show ¬ (1 : Nat) = 4 by decide), if_neg (show ¬ (1 : Nat) = 5 by decide)]
    rcases hu with ⟨c, rfl⟩ | ⟨c, rfl⟩
    · rw [if_pos c, if_pos (show (1 : Nat) = 1 from rfl)]
      obtain ⟨M', e, h', f'⟩ := h.tgr hN h16 (v := g) (a := f) hg (n := n) (by omega)
      exact ⟨M', by rw [f_X10_read_45, if_neg (show ¬ nI 1 = (0 : Int32) by decide), if_pos (by rfl), if_neg ne10, rs_f h.1, e, obd_s], h', f'⟩
    · rw [if_neg c]
      exact ⟨M, by rw [f_X10_read_45, if_neg (show ¬ nI 1 = (0 : Int32) by decide), if_pos (by rfl), if_pos rfl], h, Fr.rf _ _⟩
  · rw [if_neg (show ¬ (2 : Nat) = 0 by decide), if_neg (show ¬ (2 : Nat) = 4 by decide), if_neg (show ¬ (2 : Nat) = 5 by decide)]
    rcases hu with ⟨c, rfl⟩ | ⟨c, rfl⟩
    · rw [if_pos c, if_neg (show ¬ (2 : Nat) = 1 by decide), if_pos (show (2 : Nat) = 2 from rfl)]
      obtain ⟨M', e, h', f'⟩ := h.tfd hN h16 (v := g) (a := f) hg hl (n := n) (by omega)
      exact ⟨M', by rw [f_X10_read_45, if_neg (show ¬ nI 2 = (0 : Int32) by decide), if_neg (show ¬ nI 2 = (1 : Int32) by decide), if_pos (by rfl), if_neg ne10, rs_f h.1, e, obd_s], h', f'⟩
    · rw [if_neg c]
      exact ⟨M, by rw [f_X10_read_45, if_neg (show ¬ nI 2 = (0 : Int32) by decide), if_neg (show ¬ nI 2 = (1 : Int32) by decide), if_pos (by rfl), if_pos rfl], h, Fr.rf _ _⟩
  · rw [if_neg (show ¬ (3 : Nat) = 0 by decide), if_neg (show ¬ (3 : Nat) = 4 by decide), if_neg (show ¬ (3 : Nat) = 5 by decide)]
    rcases hu with ⟨c, rfl⟩ | ⟨c, rfl⟩
    · rw [if_pos c, if_neg (show ¬ (3 : Nat) = 1 by decide), if_neg (show ¬ (3 : Nat) = 2 by decide)]
      obtain ⟨M', e, h', f'⟩ := h.tiq (v := g) (a := f) hg hf (by omega) (n := n) (by omega)
      exact ⟨M', by rw [f_X10_read_45, if_neg (show ¬ nI 3 = (0 : Int32) by decide), if_neg (show ¬ nI 3 = (1 : Int32) by decide), if_neg (show ¬ nI 3 = (2 : Int32) by decide), if_pos (by rfl), if_neg ne10, rs_f h.1, e, obd_s], h', f'⟩
    · rw [if_neg c]
      exact ⟨M, by rw [f_X10_read_45, if_neg (show ¬ nI 3 = (0 : Int32) by decide), if_neg (show ¬ nI 3 = (1 : Int32) by decide), if_neg (show ¬ nI 3 = (2 : Int32) by decide), if_pos (by rfl), if_pos rfl], h, Fr.rf _ _⟩
  · rw [if_neg (show ¬ (4 : Nat) = 0 by decide), if_pos (show (4 : Nat) = 4 from rfl)]
    obtain ⟨M', e, h', f'⟩ := h.tyl (a := g) (v := f) (s := s) hg hf (by omega) hW hwl hs (n := n) (by omega)
    exact ⟨M', by rw [f_X10_read_45, if_neg (show ¬ nI 4 = (0 : Int32) by decide), if_neg (show ¬ nI 4 = (1 : Int32) by decide), if_neg (show ¬ nI 4 = (2 : Int32) by decide), if_neg (show ¬ nI 4 = (3 : Int32) by decide), if_pos (by rfl), rs_f h.1, e, obd_s], h', f'⟩
  · rw [if_neg (show ¬ (5 : Nat) = 0 by decide), if_neg (show ¬ (5 : Nat) = 4 by decide), if_pos (show (5 : Nat) = 5 from rfl)]
    obtain ⟨M', e, h', f'⟩ := h.trl (a := g) (v := f) (s := s) hg hf (by omega) hW (n := n) (by omega)
    exact ⟨M', by rw [f_X10_read_45, if_neg (show ¬ nI 5 = (0 : Int32) by decide), if_neg (show ¬ nI 5 = (1 : Int32) by decide), if_neg (show ¬ nI 5 = (2 : Int32) by decide), if_neg (show ¬ nI 5 = (3 : Int32) by decide), if_neg (show ¬ nI 5 = (4 : Int32) by decide), if_pos (by rfl), rs_f h.1, e, obd_s], h', f'⟩
theorem RV.trd {M : Mem} {tw : Bool} {t : Int32} {S : St} {pb pt : List Row4} (h : RV M tw t S pb pt) {N : Nat} (hN : xR S 20 0 = nI N) (h2N : 2 ≤ N) (h16 : N ≤ 16) {k f g : Nat} (hk : k < 6) (hf : f < 16) (hg : g < 16) {s : Int32} (hH : Hok S f g s) (hl : (fl S).length + N ≤ 9000) {n : Nat} (hn : 9200 ≤ n) : ∃ M', f_X10_read n 120 (nI k) (nI f) (nI g) s M = some M' ∧ RV M' tw t (rd t N k f g s S) pb pt ∧ Fr PA M M' := by
  have r19 : ∀ {M : Mem} {S : St} (_ : RV M tw t S pb pt), ∃ u0, (((xR S 0 g = 1 ∧ xR S 2 g = s) ∧ u0 = 1) ∨ (¬ (xR S 0 g = 1 ∧ xR S 2 g = s) ∧ u0 = 0)) ∧ f_X10_read_19 n 120 (nI k) (nI f) (nI g) s M = f_X10_read_45 n 120 (nI k) (nI f) (nI g) s u0 M := by
    intro M S h
    by_cases c : xR S 0 g = 1
    · by_cases c2 : xR S 2 g = s
      · exact ⟨1, Or.inl ⟨⟨c, c2⟩, rfl⟩, by rw [f_X10_read_19, rs_f h.1, h.get0 hg, obd_s, if_pos c, h.get2 hg, obd_s, if_pos c2]⟩
      · exact ⟨0, Or.inr ⟨fun q => c2 q.2, rfl⟩, by rw [f_X10_read_19, rs_f h.1, h.get0 hg, obd_s, if_pos c, h.get2 hg, obd_s, if_neg c2]⟩
    · exact ⟨0, Or.inr ⟨fun q => c q.1, rfl⟩, by rw [f_X10_read_19, rs_f h.1, h.get0 hg, obd_s, if_neg c]⟩
  unfold rd
  simp only []
  by_cases c : s ≤ xR S 1 g
  · rw [if_pos c]
    obtain ⟨u0, hu, eu⟩ := r19 h
    obtain ⟨M', e, h', f'⟩ := h.rd45 hN h2N h16 hk hf hg hH hl hn hu
    exact ⟨M', by rw [f_X10_read, rs_f h.1, h.get1 hg, obd_s, if_pos c, eu, e], h', f'⟩
  · rw [if_neg c]
    have h1 := h.st (vk_n (k := 1) (by decide) hg) s
    obtain ⟨u0, hu, eu⟩ := r19 h1
    obtain ⟨M', e, h', f'⟩ := h1.rd45 (by simpa [xR_uR] using hN) h2N h16 hk hf hg (show Hok (uR S 1 g s) f g s from hH) hl hn hu
    exact ⟨M', by rw [f_X10_read, rs_f h.1, h.get1 hg, obd_s, if_neg c, h.let1 hg, obd_s, eu, e], h', Fr.tr Fr.tad f'⟩
theorem wtl_o (f g : Nat) {a : Nat} (ha : a ≠ 14) (b : Nat) : ∀ (ws : List Nat) (S : St), xR (wtl f g ws S) a b = xR S a b := by
  intro ws
  induction ws with
  | nil => intro S; rfl
  | cons w ws ih =>
    intro S
    unfold wtl
    rw [List.foldl_cons]
    have := ih (if xR S 0 w = 1 ∧ (w = f ∨ w = g) then uR S 14 w (xR S 14 w + 1) else S)
    unfold wtl at this
    rw [this]
    split
    · rw [xR_uR, if_neg (fun q => ha q.1)]
    · rfl
theorem wtl_W (f g : Nat) : ∀ (ws : List Nat) (S : St), (wtl f g ws S).2 = S.2 := by
  intro ws
  induction ws with
  | nil => intro S; rfl
  | cons w ws ih =>
    intro S
    unfold wtl
    rw [List.foldl_cons]
    have := ih (if xR S 0 w = 1 ∧ (w = f ∨ w = g) then uR S 14 w (xR S 14 w + 1) else S)
    unfold wtl at this
    rw [this]
    split
    · rfl
    · rfl
theorem wt_R {N k f g : Nat} {s : Int32} {S : St} {a : Nat} (h14 : a ≠ 14) (h15 : a ≠ 15) (h18 : a ≠ 18) (b : Nat) : xR (wt N k f g s S) a b = xR S a b := by
  unfold wt
  rw [wtl_o _ _ h14, xR_uR, if_neg (fun q => h18 q.1), xR_uR, if_neg (fun q => h15 q.1), xR_uT]
theorem wt_WL (N k f g : Nat) (s : Int32) (S : St) : xW (wt N k f g s S) = xW S ∧ xL (wt N k f g s S) = xL S := by
  have := wtl_W f g (List.range N) (uR (uR (uT S (nI k, nI f, nI g, s)) 15 1 (xR S 15 1 + 1)) 18 g (xR S 18 g + 1))
  unfold wt
  constructor
  · show (wtl f g _ _).2.1 = _
    rw [this]; rfl
  · show (wtl f g _ _).2.2.1 = _
    rw [this]; rfl
theorem fl_L {S S' : St} (h : xL S = xL S') : fl S = fl S' := by
  unfold fl; rw [h]
/-- a letter of a lane is brought -/
def br (t : Int32) (N f g : Nat) (S : St) : St := match xL S (16 * f + g) with
  | [] => S
  | x :: r => rd t N x.1.toNatClampNeg f g x.2.1 (wt N x.1.toNatClampNeg f g x.2.1 (uL S (16 * f + g) r))
/-- a letter as letters are -/
def Lok (x : Ltr) : Prop := (∃ k, k < 6 ∧ x.1 = nI k) ∧ ∃ s, s < 1048576 ∧ x.2.1 = nI s
theorem f_pairs (l : Nat) (hl : l < 256) : nI l / (16 : Int32) = nI (l / 16) ∧ nI l - nI l / (16 : Int32) * (16 : Int32) = nI (l % 16) := by
  rw [show (16 : Int32) = nI 16 from rfl]
  exact ⟨pk_div (by omega) (by decide) (by decide), pk_rem (by omega) (by decide) (by decide)⟩
set_option maxHeartbeats 1000000 in
theorem RV.tbr {M : Mem} {tw : Bool} {t : Int32} {S : St} {pb pt : List Row4} (h : RV M tw t S pb pt) {N : Nat} (hN : xR S 20 0 = nI N) (h2N : 2 ≤ N) (h16 : N ≤ 16) {f g : Nat} (hf : f < 16) (hg : g < 16) {x : Ltr} {r : List Ltr} (hx : xL S (16 * f + g) = x :: r) (hL : Lok x) (hH : Hok S f g x.2.1) (hl : (fl S).length + N ≤ 9000) {n : Nat} (hn : 9200 ≤ n) : ∃ M', f_X10_bringNow n 120 (nI (flr (xL S) 0 (16 * f + g)).length) M = some (x.1, M') ∧ RV M' tw t (br t N f g S) pb pt ∧ Fr PA M M' := by
  obtain ⟨⟨k, hk, ek⟩, sv, hsv, es⟩ := hL
  obtain ⟨g1, g2, M1, e1, h1, f1⟩ := h.take (l := 16 * f + g) (by omega) hx (n := n) (by omega)
  have kk : x.1.toNatClampNeg = k := by rw [ek, nI_clamp (by omega)]
  obtain ⟨M2, e2, h2, f2⟩ := h1.twt (N := N) (k := k) (f := f) (g := g) (by rw [xR_uL]; exact hN) h16 hf hg x.2.1 (n := n) (by omega)
  have wl := wt_WL N k f g x.2.1 (uL S (16 * f + g) r)
  have hH2 : Hok (wt N k f g x.2.1 (uL S (16 * f + g) r)) f g x.2.1 := by
    unfold Hok Gok at hH ⊢
    rw [wl.1, wt_R (by decide) (by decide) (by decide), xW_uL, xR_uL]
    exact hH
  have hlen : (fl (wt N k f g x.2.1 (uL S (16 * f + g) r))).length + N ≤ 9000 := by
    rw [fl_L wl.2]
    have a1 := fl_split S (l := 16 * f + g) (by omega)
    have a2 := fl_uL S (l := 16 * f + g) (by omega) r
    rw [hx] at a1
    have b1 := congrArg List.length a1
    have b2 := congrArg List.length a2
    simp only [List.length_append, List.length_map, List.length_cons] at b1 b2
    omega
  obtain ⟨M3, e3, h3, f3⟩ := h2.trd (N := N) (k := k) (f := f) (g := g) (s := x.2.1) (by rw [wt_R (by decide) (by decide) (by decide), xR_uL]; exact hN) h2N h16 hk hf hg hH2 hlen hn
  refine ⟨M3, ?_, ?_, Fr.tr f1 (Fr.tr f2 f3)⟩
  · obtain ⟨p1, p2⟩ := f_pairs (16 * f + g) (by omega)
    have ep : enc (16 * f + g, x) &&& (255 : Int32) = nI (16 * f + g) := enc_pair (show (16 * f + g, x).1 < 256 by show 16 * f + g < 256; omega)
    rw [f_X10_bringNow, rs_f h.1, rs_0 h.1, bnd_e, rs_fa h.1, c851, rs_c h.1 (by omega), bnd_e, cl_n (by omega), g1, f_X10_pairOf, ep, obd_s, chk_t (by decide), bnd_e, obd_s, chk_t (by decide), bnd_e, e1, obd_s, f_X10_kindOf, enc_kind (show (16 * f + g, x).1 < 256 by show 16 * f + g < 256; omega) (show k < 8 by omega) ek, obd_s, f_X10_stampOf, enc_stamp (show (16 * f + g, x).1 < 256 by show 16 * f + g < 256; omega) (show k < 8 by omega) ek hsv es, obd_s, rs_f h1.1, p2, p1, show (16 * f + g) / 16 = f by omega, show (16 * f + g) % 16 = g by omega, ← es, e2, obd_s, f_X10_kindOf, enc_kind (show (16 * f + g, x).1 < 256 by show 16 * f + g < 256; omega) (show k < 8 by omega) ek, obd_s, f_X10_stampOf, enc_stamp (show (16 * f + g, x).1 < 256 by show 16 * f + g < 256; omega) (show k < 8 by omega) ek hsv es, obd_s, rs_f h2.1, ← es, e3, obd_s, f_X10_kindOf, enc_kind (show (16 * f + g, x).1 < 256 by show 16 * f + g < 256; omega) (show k < 8 by omega) ek, obd_s, ek]
  · unfold br; rw [hx]; simp only []; rw [kk]; exact h3
/-! ===== the moves of the reference ===== -/
theorem RV.cg {M M' : Mem} {tw : Bool} {t : Int32} {S : St} {pb pt : List Row4} (h : RV M tw t S pb pt) (e1 : M'.1 = M.1) (e2 : mI M' 120 3 = mI M 120 3) (e3 : ∀ b, mI M' 121 b = mI M 121 b) (e4 : ∀ b, mI M' 123 b = mI M 123 b) : RV M' tw t S pb pt := by
  obtain ⟨hS, ht, hA, hw, hl, hb1, hb2⟩ := h
  exact ⟨hS.e e1, e2.trans ht, fun k i hv => (e3 _).trans (hA k i hv), hw.cg (fun b _ _ => e3 b) rfl, ⟨(e3 _).trans hl.1, hl.2.1, hl.2.2.cg fun j _ _ => ⟨e3 _, e4 _⟩⟩, hb1.cg (e3 _) (fun b _ _ => e3 b), hb2.cg (e3 _) (fun b _ _ => e3 b)⟩
/-- what steps and moves leave as it is -/
def FrM (M M' : Mem) : Prop := M'.1 = M.1 ∧ (∀ o, ¬ (120 ≤ o ∧ o ≤ 124) → ∀ k, mI M' o k = mI M o k) ∧ (∀ k, k ≠ 6 → mI M' 120 k = mI M 120 k) ∧ (∀ o k, mL M' o k = mL M o k)
theorem FrM.rf (M : Mem) : FrM M M := ⟨rfl, fun _ _ _ => rfl, fun _ _ => rfl, fun _ _ => rfl⟩
theorem FrM.tr {M M' M'' : Mem} (h : FrM M M') (h' : FrM M' M'') : FrM M M'' :=
  ⟨h'.1.trans h.1, fun o q k => (h'.2.1 o q k).trans (h.2.1 o q k), fun k q => (h'.2.2.1 k q).trans (h.2.2.1 k q), fun o k => (h'.2.2.2 o k).trans (h.2.2.2 o k)⟩
/-- and a draw -/
def FrG (M M' : Mem) : Prop := M'.1 = M.1 ∧ (∀ o, ¬ (120 ≤ o ∧ o ≤ 124) → ∀ k, mI M' o k = mI M o k) ∧ (∀ k, k ≠ 6 → mI M' 120 k = mI M 120 k) ∧ (∀ o k, ¬ (o = 120 ∧ k = 8) → mL M' o k = mL M o k)
theorem FrM.G {M M' : Mem} (h : FrM M M') : FrG M M' := ⟨h.1, h.2.1, h.2.2.1, fun o k _ => h.2.2.2 o k⟩
theorem FrG.rf (M : Mem) : FrG M M := (FrM.rf M).G
theorem FrG.tr {M M' M'' : Mem} (h : FrG M M') (h' : FrG M' M'') : FrG M M'' :=
  ⟨h'.1.trans h.1, fun o q k => (h'.2.1 o q k).trans (h.2.1 o q k), fun k q => (h'.2.2.1 k q).trans (h.2.2.1 k q), fun o k q => (h'.2.2.2 o k q).trans (h.2.2.2 o k q)⟩
theorem FrM.of {M M' : Mem} {P : Nat → Prop} (h : Fr P M M') (hP : ∀ o, P o → 121 ≤ o ∧ o ≤ 124) : FrM M M' :=
  ⟨h.1, fun o q k => h.2.1 o (fun z => q ⟨by have := hP o z; omega, (hP o z).2⟩) k, fun k _ => h.2.1 120 (fun z => by have := hP 120 z; omega) k, fun o k => h.2.2 o k⟩
theorem FrM.ofA {M M' : Mem} (h : Fr PA M M') : FrM M M' := FrM.of h (fun o z => by unfold PA at z; omega)
def MV (M : Mem) (cs : List Int32) : Prop := mI M 120 6 = nI cs.length ∧ ∀ i c, cs[i]? = some c → mI M 124 i = c
theorem rs_4 {M : Mem} (h : RS M) : mR M 120 4 = 124 := h.r (by decide)
theorem rs_5 {M : Mem} (h : RS M) : mR M 120 5 = 125 := h.r (by decide)
theorem rs_f4 {α : Type} {M : Mem} (h : RS M) (x : Option α) : chk (isO M 100 124) x = x := chk_t (h.io (by decide) (by decide) (by decide))
theorem rs_f5 {α : Type} {M : Mem} (h : RS M) (x : Option α) : chk (isO M 100 125) x = x := chk_t (h.io (by decide) (by decide) (by decide))
theorem rs_c4 {α : Type} {M : Mem} (h : RS M) {k : Nat} (hk : k < 288) (x : Option α) : chk (inB (nI k) (mLn M 124)) x = x := by
  refine chk_t ?_
  rw [h.ln (c := 288) (by decide) (by decide) (by decide)]; exact inB_n hk (by decide)
theorem rs_c5 {α : Type} {M : Mem} (h : RS M) {k : Nat} (hk : k < 16) (x : Option α) : chk (inB (nI k) (mLn M 125)) x = x := by
  refine chk_t ?_
  rw [h.ln (c := 16) (by decide) (by decide) (by decide)]; exact inB_n hk (by decide)
def pushM (M : Mem) (cs : List Int32) (c : Int32) : Mem := sI (sI M 124 cs.length c) 120 6 (nI (cs.length + 1))
theorem MV.push {M : Mem} {cs : List Int32} (h : MV M cs) (c : Int32) : MV (pushM M cs c) (cs ++ [c]) := by
  refine ⟨?_, fun i d hi => ?_⟩
  · unfold pushM
    rw [mI_s, List.length_append, List.length_singleton]
  · unfold pushM
    rw [mI_o _ _ _ _ _ (by decide)]
    by_cases q : i < cs.length
    · rw [List.getElem?_append_left q] at hi
      rw [mI_n _ _ _ _ (by omega)]
      exact h.2 i d hi
    · rw [List.getElem?_append_right (by omega)] at hi
      have hl := (List.getElem?_eq_some_iff.mp hi).1
      rw [List.length_singleton] at hl
      have e : i = cs.length := by omega
      subst e
      rw [Nat.sub_self] at hi
      simp at hi
      rw [mI_s, hi]
theorem pushM_F (M : Mem) (cs : List Int32) (c : Int32) : FrM M (pushM M cs c) := by
  unfold pushM
  refine ⟨rfl, fun o q k => ?_, fun k q => ?_, fun _ _ => rfl⟩
  · rw [mI_o _ _ _ _ _ (by omega), mI_o _ _ _ _ _ (by omega)]
  · rw [mI_n _ _ _ _ q, mI_o _ _ _ _ _ (by decide)]
theorem RV.push {M : Mem} {tw : Bool} {t : Int32} {S : St} {pb pt : List Row4} (h : RV M tw t S pb pt) (cs : List Int32) (c : Int32) : RV (pushM M cs c) tw t S pb pt := by
  refine h.cg rfl ?_ (fun b => ?_) (fun b => ?_)
  · exact (pushM_F M cs c).2.2.1 3 (by decide)
  · unfold pushM; rw [mI_o _ _ _ _ _ (by decide), mI_o _ _ _ _ _ (by decide)]
  · unfold pushM; rw [mI_o _ _ _ _ _ (by decide), mI_o _ _ _ _ _ (by decide)]
/-- pairs in a row, each once -/
def dd : Option Nat → List (Nat × Ltr) → List Nat
  | _, [] => []
  | o, q :: r => if o = some q.1 then dd o r else q.1 :: dd (some q.1) r
def lanes (S : St) : List Nat := (List.range 256).filter fun l => !(xL S l).isEmpty
theorem dd_same (l : Nat) (xs : List Ltr) (rest : List (Nat × Ltr)) : dd (some l) ((xs.map fun x => (l, x)) ++ rest) = dd (some l) rest := by
  induction xs with
  | nil => rfl
  | cons x xs ih =>
    rw [List.map_cons, List.cons_append]
    conv => lhs; unfold dd
    rw [if_pos rfl]
    exact ih
theorem dd_flr (L : Nat → List Ltr) : ∀ (n a : Nat) (o : Option Nat), (∀ l, o = some l → l < a) → dd o (flr L a n) = (List.range' a n).filter fun l => !(L l).isEmpty := by
  intro n
  induction n with
  | zero => intro a o _; rfl
  | succ n ih =>
    intro a o ho
    have e : flr L a (n + 1) = ((L a).map fun x => (a, x)) ++ flr L (a + 1) n := by
      unfold flr
      rw [List.range'_succ, List.flatMap_cons]
    rw [e, List.range'_succ, List.filter_cons]
    cases hL : L a with
    | nil =>
      simp only [List.map_nil, List.nil_append, List.isEmpty_nil, Bool.not_true, Bool.false_eq_true, if_false]
      exact ih (a + 1) o (fun l q => by have := ho l q; omega)
    | cons x xs =>
      rw [List.map_cons, List.cons_append]
      conv => lhs; unfold dd
      rw [if_neg (fun q => by have := ho a q; omega), dd_same]
      simp only [List.isEmpty_cons, Bool.not_false, if_true]
      rw [ih (a + 1) (some a) (fun l q => by have := Option.some.inj q; omega)]
theorem dd_fl (S : St) : dd none (fl S) = lanes S := by
  rw [fl_r, dd_flr _ _ _ _ (fun l q => by cases q)]
  unfold lanes
  rw [List.range_eq_range']
theorem lanes_len (S : St) : (lanes S).length ≤ 256 := by
  have := List.length_filter_le (fun l => !(xL S l).isEmpty) (List.range 256)
  rw [List.length_range] at this
  exact this
theorem m1_ne' (v : Nat) (h : v < 256) : ¬ (-1 : Int32) = nI v := fun q => by
  have h1 := nI_pos (n := v) (by omega)
  rw [← q] at h1
  exact h1 (by decide)
def lastI : Option Nat → Int32
  | none => -1
  | some l => nI l
set_option maxHeartbeats 1000000 in
theorem lay_1 {tw : Bool} {t : Int32} {S : St} {pb pt : List Row4} : ∀ (q p : List (Nat × Ltr)) (o : Option Nat) (cs : List Int32) (M : Mem) (n : Nat), RV M tw t S pb pt → fl S = p ++ q → (∀ l, o = some l → l < 256) → MV M cs → cs.length + (dd o q).length ≤ 288 → q.length + 1 ≤ n → ∃ M' n', n ≤ n' + q.length + 1 ∧ f_X10_layMoves_9 n 120 (lastI o) (nI p.length) M = f_X10_layMoves_83 n' 120 0 M' ∧ RV M' tw t S pb pt ∧ MV M' (cs ++ (dd o q).map nI) ∧ FrM M M' := by
  intro q
  induction q with
  | nil =>
    intro p o cs M n h e ho hm hl hn
    obtain ⟨n, rfl⟩ : ∃ m, n = m + 1 := ⟨n - 1, by omega⟩
    rw [List.append_nil] at e
    have h9 := h.2.2.2.2.1.2.1
    refine ⟨M, n, by simp, ?_, h, by simpa [dd] using hm, FrM.rf M⟩
    rw [f_X10_layMoves_9, rs_f h.1, rs_0 h.1, bnd_e, rs_fa h.1, l850, rs_c h.1 (by decide), cl_n (by decide), h.2.2.2.2.1.1, e, if_pos (nI_le (Nat.le_refl _) (by rw [e] at h9; omega))]
  | cons z q ih =>
    intro p o cs M n h e ho hm hl hn
    simp only [List.length_cons] at hn
    obtain ⟨n, rfl⟩ : ∃ m, n = m + 1 := ⟨n - 1, by omega⟩
    have h9 := h.2.2.2.2.1.2.1
    have hlen : (fl S).length = p.length + q.length + 1 := by rw [e]; simp; omega
    have hz : z.1 < 256 := (fl_mem (S := S) (by rw [e]; simp)).1
    have g := h.2.2.2.2.1.2.2 p.length z (by rw [e, List.getElem?_append_right (Nat.le_refl _)]; simp)
    rw [Nat.zero_add] at g
    have ep : (p ++ [z]).length = p.length + 1 := by simp
    have e' : fl S = (p ++ [z]) ++ q := by rw [e]; simp
    have open1 : ∀ y, (if nI z.1 = lastI o then f_X10_layMoves_9 n 120 (lastI o) (nI (p.length + 1)) M else f_X10_layMoves_9 n 120 (nI z.1) (nI (p.length + 1)) (pushM M cs (nI z.1))) = y → (nI z.1 = lastI o ∨ cs.length < 288) → f_X10_layMoves_9 (n + 1) 120 (lastI o) (nI p.length) M = y := by
      intro y hy hc
      rw [f_X10_layMoves_9, rs_f h.1, rs_0 h.1, bnd_e, rs_fa h.1, l850, rs_c h.1 (by decide), cl_n (by decide), h.2.2.2.2.1.1, hlen, if_neg (nI_ge (by omega) (by omega)), bnd_e, rs_fa h.1, c851, rs_c h.1 (by omega), f_X10_pairOf, mI_c (by omega), g.1, enc_pair hz, obd_s]
      by_cases c : nI z.1 = lastI o
      · rw [if_pos c] at hy ⊢
        rw [nI_1, bnd_e]; exact hy
      · rw [if_neg c] at hy ⊢
        have hc := hc.resolve_left c
        rw [bnd_e, rs_fa h.1, rs_c h.1 (by omega), f_X10_pairOf, mI_c (by omega), g.1, enc_pair hz, obd_s, rs_4 h.1, bnd_e, rs_f4 h.1, hm.1, rs_c4 h.1 hc, bnd_e, cl_n (by omega), mI_o _ _ _ _ _ (by decide), hm.1, nI_1, nI_1]
        simp only [bnd_e]
        exact hy
    unfold dd at hl ⊢
    by_cases c : o = some z.1
    · rw [if_pos c] at hl ⊢
      obtain ⟨M', n', i0, i1, i2, i3, i4⟩ := ih (p ++ [z]) o cs M n h e' ho hm hl (by omega)
      refine ⟨M', n', by simp only [List.length_cons]; omega, open1 _ ?_ (Or.inl (by rw [c]; rfl)), i2, i3, i4⟩
      rw [if_pos (by rw [c]; rfl), ← ep]; exact i1
    · rw [if_neg c] at hl ⊢
      simp only [List.length_cons] at hl
      have hne : ¬ nI z.1 = lastI o := by
        cases o with
        | none => exact fun q => by have := m1_ne' z.1 hz; exact this q.symm
        | some l => exact fun q => c (by rw [(nI_eq (a := z.1) (b := l) (by omega) (by have := ho l rfl; omega)).mp q])
      obtain ⟨M', n', i0, i1, i2, i3, i4⟩ := ih (p ++ [z]) (some z.1) (cs ++ [nI z.1]) (pushM M cs (nI z.1)) n (h.push cs _) e' (fun l q => by have := Option.some.inj q; omega) (hm.push _) (by simp; omega) (by omega)
      refine ⟨M', n', by simp only [List.length_cons]; omega, open1 _ ?_ (Or.inr (by omega)), i2, by simpa using i3, FrM.tr (pushM_F M cs _) i4⟩
      rw [if_neg hne, ← ep]; exact i1
def inss (N : Nat) (S : St) : List Nat := (List.range N).filter fun v => decide (xR S 0 v = 2)
def inss' (i d : Nat) (S : St) : List Nat := (List.range' i d).filter fun v => decide (xR S 0 v = 2)
def lvc (v : Nat) : Int32 := (-1 : Int32) - nI v
theorem lay_2 {tw : Bool} {t : Int32} {S : St} {pb pt : List Row4} {N : Nat} (hN : xR S 20 0 = nI N) (h16 : N ≤ 16) : ∀ (d i : Nat) (cs : List Int32) (M : Mem) (n : Nat), RV M tw t S pb pt → i + d = N → MV M cs → cs.length + d ≤ 288 → d + 1 ≤ n → ∃ M' n', n ≤ n' + d + 1 ∧ f_X10_layMoves_83 n 120 (nI i) M = f_X10_layMoves_136 n' 120 0 M' ∧ RV M' tw t S pb pt ∧ MV M' (cs ++ (inss' i d S).map lvc) ∧ FrM M M' := by
  intro d
  induction d with
  | zero =>
    intro i cs M n h hi hm hl hn
    obtain ⟨n, rfl⟩ : ∃ m, n = m + 1 := ⟨n - 1, by omega⟩
    refine ⟨M, n, by omega, ?_, h, by simpa [inss'] using hm, FrM.rf M⟩
    rw [f_X10_layMoves_83, rs_f h.1, rs_0 h.1, bnd_e, rs_fa h.1, rs_c0 h.1, cl0, h.N hN, if_pos (nI_le (by omega) (by omega))]
  | succ d ih =>
    intro i cs M n h hi hm hl hn
    obtain ⟨n, rfl⟩ : ∃ m, n = m + 1 := ⟨n - 1, by omega⟩
    have open1 : ∀ y, (if xR S 0 i = 2 then f_X10_layMoves_83 n 120 (nI (i + 1)) (pushM M cs (lvc i)) else f_X10_layMoves_83 n 120 (nI (i + 1)) M) = y → f_X10_layMoves_83 (n + 1) 120 (nI i) M = y := by
      intro y hy
      rw [f_X10_layMoves_83, rs_f h.1, rs_0 h.1, bnd_e, rs_fa h.1, rs_c0 h.1, cl0, h.N hN, if_neg (nI_ge (by omega) (by omega)), h.get0 (by omega), obd_s]
      by_cases c : xR S 0 i = 2
      · rw [if_pos c] at hy ⊢
        rw [rs_4 h.1, bnd_e, rs_f4 h.1, hm.1, rs_c4 h.1 (by omega), bnd_e, cl_n (by omega), mI_o _ _ _ _ _ (by decide), hm.1, nI_1, nI_1]
        simp only [bnd_e]
        exact hy
      · rw [if_neg c] at hy ⊢
        simp only [bnd_e, nI_1]
        exact hy
    have el : inss' i (d + 1) S = if xR S 0 i = 2 then i :: inss' (i + 1) d S else inss' (i + 1) d S := by
      unfold inss'
      rw [List.range'_succ, List.filter_cons]
      by_cases c : xR S 0 i = 2
      · rw [if_pos (decide_eq_true c), if_pos c]
      · rw [if_neg (by simpa using c), if_neg c]
    rw [el]
    by_cases c : xR S 0 i = 2
    · rw [if_pos c] at open1 ⊢
      obtain ⟨M', n', i0, i1, i2, i3, i4⟩ := ih (i + 1) (cs ++ [lvc i]) (pushM M cs (lvc i)) n (h.push cs _) (by omega) (hm.push _) (by simp; omega) (by omega)
      exact ⟨M', n', by omega, open1 _ i1, i2, by simpa using i3, FrM.tr (pushM_F M cs _) i4⟩
    · rw [if_neg c] at open1 ⊢
      obtain ⟨M', n', i0, i1, i2, i3, i4⟩ := ih (i + 1) cs M n h (by omega) hm (by omega) (by omega)
      exact ⟨M', n', by omega, open1 _ i1, i2, i3, i4⟩
def asks' (i d N : Nat) (S : St) (ask : Int32) (sn : Nat → Int32) : List Nat := (List.range' i d).filter fun v => bt ask v && (mayA N v S && decide (xR S 2 v = sn v))
def akc (v : Nat) : Int32 := nI (256 + v)
theorem c256 (v : Nat) : (256 : Int32) + nI v = nI (256 + v) := by rw [show (256 : Int32) = nI 256 from rfl, nI_add]
theorem P2_M {M M' : Mem} (h : Fr P2 M M') : FrM M M' ∧ (∀ b, mI M' 124 b = mI M 124 b) ∧ (∀ k, mI M' 125 k = mI M 125 k) ∧ ∀ k, mI M' 120 k = mI M 120 k :=
  ⟨FrM.of h (fun o z => by unfold P2 at z; omega), fun b => h.2.1 124 (by unfold P2; decide) b, fun b => h.2.1 125 (by unfold P2; decide) b, fun k => h.2.1 120 (by unfold P2; decide) k⟩
set_option maxHeartbeats 1000000 in
theorem lay_3 {tw : Bool} {t : Int32} {S : St} {pb pt : List Row4} {N : Nat} (hN : xR S 20 0 = nI N) (h16 : N ≤ 16) (ht : xR S 20 1 = 1 → N % 2 = 1) {ask : Int32} {sn : Nat → Int32} : ∀ (d i : Nat) (cs : List Int32) (M : Mem) (n : Nat), RV M tw t S pb pt → i + d = N → MV M cs → cs.length + d ≤ 288 → mI M 120 7 = ask → (∀ v, v < N → mI M 125 v = sn v) → d + 61 ≤ n → ∃ M', f_X10_layMoves_136 n 120 (nI i) M = some M' ∧ RV M' tw t S pb pt ∧ MV M' (cs ++ (asks' i d N S ask sn).map akc) ∧ FrM M M' := by
  intro d
  induction d with
  | zero =>
    intro i cs M n h hi hm hl hask hsn hn
    obtain ⟨n, rfl⟩ : ∃ m, n = m + 1 := ⟨n - 1, by omega⟩
    refine ⟨M, ?_, h, by simpa [asks'] using hm, FrM.rf M⟩
    rw [f_X10_layMoves_136, rs_f h.1, rs_0 h.1, bnd_e, rs_fa h.1, rs_c0 h.1, cl0, h.N hN, if_pos (nI_le (by omega) (by omega))]
  | succ d ih =>
    intro i cs M n h hi hm hl hask hsn hn
    obtain ⟨n, rfl⟩ : ∃ m, n = m + 1 := ⟨n - 1, by omega⟩
    obtain ⟨M1, c1, h1, f1⟩ := h.can hN h16 ht (v := i) (by omega) (n := n) (by omega)
    obtain ⟨g1, g2, g3, g4⟩ := P2_M f1
    have hm1 : MV M1 cs := ⟨(g4 6).trans hm.1, fun k c q => (g2 k).trans (hm.2 k c q)⟩
    have hask1 : mI M1 120 7 = ask := (g4 7).trans hask
    have hsn1 : ∀ v, v < N → mI M1 125 v = sn v := fun v hv => (g3 v).trans (hsn v hv)
    have el : asks' i (d + 1) N S ask sn = if (bt ask i && (mayA N i S && decide (xR S 2 i = sn i))) = true then i :: asks' (i + 1) d N S ask sn else asks' (i + 1) d N S ask sn := by
      unfold asks'
      rw [List.range'_succ, List.filter_cons]
    rw [el]
    have open1 : ∀ y, (if bt ask i = true then (if mayA N i S = true then (if xR S 2 i = sn i then f_X10_layMoves_136 n 120 (nI (i + 1)) (pushM M1 cs (akc i)) else f_X10_layMoves_136 n 120 (nI (i + 1)) M1) else f_X10_layMoves_136 n 120 (nI (i + 1)) M1) else f_X10_layMoves_136 n 120 (nI (i + 1)) M) = y → f_X10_layMoves_136 (n + 1) 120 (nI i) M = y := by
      intro y hy
      rw [f_X10_layMoves_136, rs_f h.1, rs_0 h.1, bnd_e, rs_fa h.1, rs_c0 h.1, cl0, h.N hN, if_neg (nI_ge (by omega) (by omega)), hask, f_has10 _ (by omega), obd_s, c1, obd2_s]
      cases b1 : bt ask i
      · rw [b1] at hy
        simp only [Bool.false_eq_true, if_false, if_true, bnd_e, nI_1] at hy ⊢
        exact hy
      · rw [b1] at hy
        simp only [if_true, ne10, if_false] at hy ⊢
        cases b2 : mayA N i S
        · rw [b2] at hy
          simp only [Bool.false_eq_true, if_false, if_true, bnd_e, nI_1] at hy ⊢
          exact hy
        · rw [b2] at hy
          simp only [if_true, ne10, if_false] at hy ⊢
          rw [rs_f h1.1, h1.get2 (by omega), obd_s, rs_5 h1.1, bnd_e, rs_f5 h1.1, rs_c5 h1.1 (by omega), cl_n (by omega), hsn1 i (by omega)]
          by_cases c : xR S 2 i = sn i
          · rw [if_pos c] at hy ⊢
            rw [rs_4 h1.1, bnd_e, rs_f4 h1.1, hm1.1, rs_c4 h1.1 (by omega), bnd_e, cl_n (by omega), c256, mI_o _ _ _ _ _ (by decide), hm1.1, nI_1, nI_1]
            simp only [bnd_e]
            exact hy
          · rw [if_neg c] at hy ⊢
            simp only [bnd_e, nI_1]
            exact hy
    cases b1 : bt ask i
    · rw [b1] at open1
      obtain ⟨M', i1, i2, i3, i4⟩ := ih (i + 1) cs M n h (by omega) hm (by omega) hask hsn (by omega)
      refine ⟨M', open1 _ (by simpa using i1), i2, by simpa using i3, i4⟩
    · rw [b1] at open1
      cases b2 : mayA N i S
      · rw [b2] at open1
        obtain ⟨M', i1, i2, i3, i4⟩ := ih (i + 1) cs M1 n h1 (by omega) hm1 (by omega) hask1 hsn1 (by omega)
        refine ⟨M', open1 _ (by simpa using i1), i2, by simpa using i3, FrM.tr g1 i4⟩
      · rw [b2] at open1
        by_cases c : xR S 2 i = sn i
        · have p7 : mI (pushM M1 cs (akc i)) 120 7 = ask := ((pushM_F M1 cs (akc i)).2.2.1 7 (by decide)).trans hask1
          have p5 : ∀ v, v < N → mI (pushM M1 cs (akc i)) 125 v = sn v := fun v hv => ((pushM_F M1 cs (akc i)).2.1 125 (by decide) v).trans (hsn1 v hv)
          obtain ⟨M', i1, i2, i3, i4⟩ := ih (i + 1) (cs ++ [akc i]) (pushM M1 cs (akc i)) n (h1.push cs _) (by omega) (hm1.push _) (by simp; omega) p7 p5 (by omega)
          refine ⟨M', open1 _ (by simpa [c] using i1), i2, by simpa [c] using i3, FrM.tr g1 (FrM.tr (pushM_F M1 cs _) i4)⟩
        · obtain ⟨M', i1, i2, i3, i4⟩ := ih (i + 1) cs M1 n h1 (by omega) hm1 (by omega) hask1 hsn1 (by omega)
          refine ⟨M', open1 _ (by simpa [c] using i1), i2, by simpa [c] using i3, FrM.tr g1 i4⟩
/-- the moves, as the reference writes them -/
def mvc (N : Nat) (S : St) (ask : Int32) (sn : Nat → Int32) : List Int32 := (lanes S).map nI ++ (inss N S).map lvc ++ (asks' 0 N N S ask sn).map akc
theorem inss_len (N : Nat) (S : St) : (inss N S).length ≤ N := by
  have := List.length_filter_le (fun v => decide (xR S 0 v = 2)) (List.range N)
  rw [List.length_range] at this
  exact this
theorem RV.lay {M : Mem} {tw : Bool} {t : Int32} {S : St} {pb pt : List Row4} (h : RV M tw t S pb pt) {N : Nat} (hN : xR S 20 0 = nI N) (h16 : N ≤ 16) (ht : xR S 20 1 = 1 → N % 2 = 1) {ask : Int32} {sn : Nat → Int32} (hask : mI M 120 7 = ask) (hsn : ∀ v, v < N → mI M 125 v = sn v) {n : Nat} (hn : 9200 ≤ n) : ∃ M', f_X10_layMoves n 120 M = some M' ∧ RV M' tw t S pb pt ∧ MV M' (mvc N S ask sn) ∧ FrM M M' := by
  have h9 := h.2.2.2.2.1.2.1
  generalize hM0 : sI M 120 6 0 = M0
  have h0 : RV M0 tw t S pb pt := by
    rw [← hM0]
    exact h.cg rfl (mI_n _ _ _ _ (by decide)) (fun b => mI_o _ _ _ _ _ (by decide)) (fun b => mI_o _ _ _ _ _ (by decide))
  have m0 : MV M0 [] := ⟨by rw [← hM0, mI_s]; rfl, fun i c q => by simp at q⟩
  have f0 : FrM M M0 := by
    rw [← hM0]
    exact ⟨rfl, fun o q k => mI_o _ _ _ _ _ (by omega), fun k q => mI_n _ _ _ _ q, fun _ _ => rfl⟩
  have hl1 := lanes_len S
  have hl2 := inss_len N S
  have hdd := dd_fl S
  obtain ⟨M1, n1, a0, a1, a2, a3, a4⟩ := lay_1 (fl S) [] none [] M0 n h0 (by simp) (fun l q => by cases q) m0 (by rw [hdd]; simp; omega) (by omega)
  rw [hdd, List.nil_append] at a3
  obtain ⟨M2, n2, b0, b1, b2, b3, b4⟩ := lay_2 hN h16 N 0 ((lanes S).map nI) M1 n1 a2 (by omega) a3 (by simp; omega) (by omega)
  have ei : inss' 0 N S = inss N S := by unfold inss' inss; rw [List.range_eq_range']
  rw [ei] at b3
  have f2 : FrM M M2 := FrM.tr f0 (FrM.tr a4 b4)
  obtain ⟨M3, c1, c2, c3, c4⟩ := lay_3 hN h16 ht (ask := ask) (sn := sn) N 0 _ M2 n2 b2 (by omega) b3 (by simp; omega) ((f2.2.2.1 7 (by decide)).trans hask) (fun v hv => (f2.2.1 125 (by decide) v).trans (hsn v hv)) (by omega)
  refine ⟨M3, ?_, c2, c3, FrM.tr f2 c4⟩
  have a1' : f_X10_layMoves_9 n 120 (-1) 0 M0 = f_X10_layMoves_83 n1 120 0 M1 := a1
  have b1' : f_X10_layMoves_83 n1 120 0 M1 = f_X10_layMoves_136 n2 120 0 M2 := b1
  have c1' : f_X10_layMoves_136 n2 120 0 M2 = some M3 := c1
  rw [f_X10_layMoves, rs_f h.1, bnd_e, hM0, a1', b1', c1']
/-! ===== what holds of the model's state ===== -/
theorem nd_le : ∀ (n : Nat) (l : List Nat), l.Nodup → (∀ x, x ∈ l → x < n) → l.length ≤ n := by
  intro n
  induction n with
  | zero =>
    intro l _ h
    cases l with
    | nil => exact Nat.le_refl _
    | cons a r => exact absurd (h a (by simp)) (by omega)
  | succ n ih =>
    intro l hd h
    by_cases c : n ∈ l
    · have h1 := ih (l.erase n) (hd.erase n) (fun x hx => by
        have h2 := (hd.mem_erase_iff.mp hx)
        have h3 := h x h2.2
        have h4 := h2.1
        omega)
      have h5 := List.length_erase_of_mem c
      omega
    · have h1 := ih l hd (fun x hx => by
        have h3 := h x hx
        have h4 : x ≠ n := fun e => c (e ▸ hx)
        omega)
      omega
theorem ahd_t {s v s' v' s'' v'' : Int32} (h : ahd s v s' v' = true) (h' : ahd s' v' s'' v'' = true) : ahd s v s'' v'' = true := by
  unfold ahd at *
  have q := of_decide_eq_true h
  have q' := of_decide_eq_true h'
  clear h h'
  refine decide_eq_true ?_
  simp only [Int32.lt_iff_toInt_lt, ← Int32.toInt_inj] at *
  omega
theorem ahd_tot {s v s' v' : Int32} (h : ahd s v s' v' = false) (hne : ¬ (s = s' ∧ v = v')) : ahd s' v' s v = true := by
  unfold ahd at *
  have q := of_decide_eq_false h
  clear h
  refine decide_eq_true ?_
  simp only [Int32.lt_iff_toInt_lt, ← Int32.toInt_inj] at *
  omega
theorem ahd_ir (s v : Int32) : ahd s v s v = false := by
  unfold ahd
  refine decide_eq_false ?_
  rintro (h | ⟨_, h⟩)
  · exact Int32.lt_irrefl h
  · exact Int32.lt_irrefl h
theorem ahd_as {s v s' v' : Int32} (h : ahd s v s' v' = true) : ahd s' v' s v = false := by
  cases c : ahd s' v' s v
  · rfl
  · have := ahd_t h c
    rw [ahd_ir] at this
    exact absurd this (by decide)
def aw (x y : Wtr) : Prop := ahd x.2 (nI x.1) y.2 (nI y.1) = true
/-- those that wait: by turns, each node once -/
def Wok (N A : Nat) (l : List Wtr) : Prop := l.Pairwise aw ∧ (l.map Prod.fst).Nodup ∧ ∀ w, w ∈ l → w.1 < N ∧ ∃ s, s ≤ A ∧ w.2 = nI s
theorem Wok.len {N A : Nat} {l : List Wtr} (h : Wok N A l) : l.length ≤ N := by
  have := nd_le N (l.map Prod.fst) h.2.1 (fun x hx => by
    obtain ⟨w, hw, rfl⟩ := List.mem_map.mp hx
    exact (h.2.2 w hw).1)
  rwa [List.length_map] at this
theorem Wok.tl {N A : Nat} {w : Wtr} {l : List Wtr} (h : Wok N A (w :: l)) : Wok N A l :=
  ⟨(List.pairwise_cons.mp h.1).2, by have := h.2.1; rw [List.map_cons] at this; exact (List.nodup_cons.mp this).2, fun x hx => h.2.2 x (List.mem_cons_of_mem _ hx)⟩
theorem Srt_of {v : Nat} {s : Int32} : ∀ {l : List Wtr}, l.Pairwise aw → Srt v s l := by
  intro l
  induction l with
  | nil => intro _ x hx; simp [spl] at hx
  | cons w r ih =>
    intro h x hx
    unfold spl at hx
    by_cases c : ahw v s w = true
    · rw [if_pos c] at hx
      rcases List.mem_cons.mp hx with rfl | hx
      · exact c
      · exact ahd_t c ((List.pairwise_cons.mp h).1 x hx)
    · rw [if_neg c] at hx
      exact ih (List.pairwise_cons.mp h).2 x hx
theorem ins_perm {v : Nat} {s : Int32} {l : List Wtr} {x : Wtr} : x ∈ ins v s l ↔ x = (v, s) ∨ x ∈ l := by
  refine ⟨ins_mem, fun h => ?_⟩
  unfold ins
  rcases h with rfl | h
  · simp
  · rw [← spl_ap (ahw v s) l] at h
    rcases List.mem_append.mp h with h | h
    · exact List.mem_append_left _ h
    · exact List.mem_append_right _ (List.mem_cons_of_mem _ h)
theorem ins_Wok {N A v s : Nat} {l : List Wtr} (h : Wok N A l) (hv : v < N) (h16 : N ≤ 16) (hs : s ≤ A) (hn : v ∉ l.map Prod.fst) : Wok N A (ins v (nI s) l) := by
  have hsp := spl_ap (ahw v (nI s)) l
  have hsrt := Srt_of (v := v) (s := nI s) h.1
  have h1 := spl_1 (ahw v (nI s)) l
  refine ⟨?_, ?_, fun w hw => ?_⟩
  · unfold ins
    have hp : ((spl (ahw v (nI s)) l).1 ++ (spl (ahw v (nI s)) l).2).Pairwise aw := by rw [hsp]; exact h.1
    rw [List.pairwise_append] at hp ⊢
    refine ⟨hp.1, List.pairwise_cons.mpr ⟨fun y hy => hsrt y hy, hp.2.1⟩, fun x hx y hy => ?_⟩
    rcases List.mem_cons.mp hy with rfl | hy
    · refine ahd_tot (h1 x hx) (fun q => ?_)
      have hxl : x ∈ l := by rw [← hsp]; exact List.mem_append_left _ hx
      have := (h.2.2 x hxl).1
      have e : v = x.1 := (nI_eq (by omega) (by omega)).mp q.2
      exact hn (by rw [e]; exact List.mem_map_of_mem hxl)
    · exact hp.2.2 x hx y hy
  · unfold ins
    have hp : ((spl (ahw v (nI s)) l).1.map Prod.fst ++ (spl (ahw v (nI s)) l).2.map Prod.fst).Nodup := by rw [← List.map_append, hsp]; exact h.2.1
    have hn2 : v ∉ (spl (ahw v (nI s)) l).1.map Prod.fst ++ (spl (ahw v (nI s)) l).2.map Prod.fst := by rw [← List.map_append, hsp]; exact hn
    rw [List.mem_append, not_or] at hn2
    rw [List.map_append, List.map_cons]
    rw [List.nodup_append] at hp ⊢
    refine ⟨hp.1, List.nodup_cons.mpr ⟨hn2.2, hp.2.1⟩, fun a ha b hb => ?_⟩
    rcases List.mem_cons.mp hb with rfl | hb
    · exact fun e => hn2.1 (e ▸ ha)
    · exact hp.2.2 a ha b hb
  · rcases ins_mem hw with rfl | hw
    · exact ⟨hv, s, hs, rfl⟩
    · exact h.2.2 w hw
theorem gone_sub {v : Nat} {s : Int32} {l : List Wtr} : (gone v s l).Sublist l := by
  induction l with
  | nil => exact List.Sublist.refl _
  | cons w r ih =>
    unfold gone
    by_cases c : w = (v, s)
    · rw [if_pos c]; exact List.sublist_cons_self _ _
    · rw [if_neg c]; exact ih.cons₂ _
theorem Wok.sub {N A : Nat} {l l' : List Wtr} (h : Wok N A l) (q : l'.Sublist l) : Wok N A l' :=
  ⟨h.1.sublist q, h.2.1.sublist (q.map _), fun w hw => h.2.2 w (q.subset hw)⟩
/-- the stamp by which v waits -/
def engW (l : List Wtr) (v : Nat) : Option Int32 := match l with
  | [] => none
  | w :: r => if w.1 = v then some w.2 else engW r v
theorem engW_none {l : List Wtr} {v : Nat} : engW l v = none ↔ v ∉ l.map Prod.fst := by
  induction l with
  | nil => simp [engW]
  | cons w r ih =>
    unfold engW
    rw [List.map_cons, List.mem_cons, not_or]
    by_cases c : w.1 = v
    · rw [if_pos c]; simp [c]
    · rw [if_neg c, ih]; exact ⟨fun h => ⟨fun e => c e.symm, h⟩, fun h => h.2⟩
theorem engW_some {l : List Wtr} {v : Nat} {s : Int32} (hd : (l.map Prod.fst).Nodup) : engW l v = some s ↔ (v, s) ∈ l := by
  induction l with
  | nil => simp [engW]
  | cons w r ih =>
    rw [List.map_cons] at hd
    have hd2 := List.nodup_cons.mp hd
    unfold engW
    by_cases c : w.1 = v
    · rw [if_pos c]
      constructor
      · intro h
        have : w = (v, s) := Prod.ext c (Option.some.inj h)
        rw [this]; simp
      · intro h
        rcases List.mem_cons.mp h with h | h
        · rw [← h]
        · exact absurd (List.mem_map_of_mem (f := Prod.fst) h) (by rw [← c]; exact hd2.1)
    · rw [if_neg c, ih hd2.2]
      constructor
      · intro h; exact List.mem_cons_of_mem _ h
      · intro h
        rcases List.mem_cons.mp h with h | h
        · exact absurd (congrArg Prod.fst h).symm c
        · exact h
def eng (S : St) (a v : Nat) : Option Int32 := if xR S 8 a = nI v then some (xR S 9 a) else engW (xW S a) v
theorem engW_ins {N A v s : Nat} {l : List Wtr} (h : Wok N A l) (hv : v < N) (h16 : N ≤ 16) (hs : s ≤ A) (hn : v ∉ l.map Prod.fst) (u : Nat) : engW (ins v (nI s) l) u = if u = v then some (nI s) else engW l u := by
  have hd := (ins_Wok h hv h16 hs hn).2.1
  by_cases c : u = v
  · rw [if_pos c, engW_some hd, c]; exact ins_perm.mpr (Or.inl rfl)
  · rw [if_neg c]
    cases e : engW l u with
    | none =>
      rw [engW_none] at e ⊢
      intro q
      obtain ⟨w, hw, rfl⟩ := List.mem_map.mp q
      rcases ins_mem hw with rfl | hw
      · exact c rfl
      · exact e (List.mem_map_of_mem hw)
    | some z =>
      rw [engW_some h.2.1] at e
      rw [engW_some hd]
      exact ins_perm.mpr (Or.inr e)
theorem engW_gone {l : List Wtr} (hd : (l.map Prod.fst).Nodup) {v : Nat} {s : Int32} (hm : engW l v = some s) (u : Nat) : engW (gone v s l) u = if u = v then none else engW l u := by
  induction l with
  | nil => simp [engW] at hm
  | cons w r ih =>
    rw [List.map_cons] at hd
    have hd2 := List.nodup_cons.mp hd
    unfold gone
    by_cases c : w = (v, s)
    · rw [if_pos c]
      subst c
      by_cases q : u = v
      · rw [if_pos q, engW_none, q]; exact hd2.1
      · rw [if_neg q]
        conv => rhs; unfold engW
        rw [if_neg (fun e => q e.symm)]
    · rw [if_neg c]
      have hm2 : w.1 ≠ v := by
        intro e
        unfold engW at hm
        rw [if_pos e] at hm
        exact c (Prod.ext e (Option.some.inj hm))
      have hm3 : engW r v = some s := by
        unfold engW at hm
        rwa [if_neg hm2] at hm
      have := ih hd2.2 hm3
      unfold engW
      by_cases q : w.1 = u
      · rw [if_pos q, if_pos q, if_neg (fun e => hm2 (q.trans e))]
      · rw [if_neg q, if_neg q]; exact this
theorem gone_id {l : List Wtr} {v : Nat} {s : Int32} (h : (v, s) ∉ l) : gone v s l = l := by
  induction l with
  | nil => rfl
  | cons w r ih =>
    unfold gone
    rw [if_neg (fun e => h (by rw [e]; simp)), ih (fun q => h (List.mem_cons_of_mem _ q))]
/-- a lane's REQUESTs and RELEASEs, from what the arbiter knows on -/
def run : Option Int32 → List Ltr → Option (Option Int32)
  | e, [] => some e
  | e, x :: r => if x.1 = nI 0 then (if e = none then run (some x.2.1) r else none) else if x.1 = nI 5 then (if e = some x.2.1 then run none r else none) else run e r
theorem run_ap (r : List Ltr) (x : Ltr) : ∀ e, run e (r ++ [x]) = (run e r).bind fun e' => run e' [x] := by
  induction r with
  | nil => intro e; rfl
  | cons y r ih =>
    intro e
    rw [List.cons_append]
    unfold run
    split
    · split
      · exact ih _
      · rfl
    · split
      · split
        · exact ih _
        · rfl
      · exact ih _
theorem run_other {e : Option Int32} {x : Ltr} (h0 : ¬ x.1 = nI 0) (h5 : ¬ x.1 = nI 5) : run e [x] = some e := by
  unfold run
  rw [if_neg h0, if_neg h5]; rfl
theorem run_req {s : Int32} {t : Int32} : run none [(nI 0, s, t)] = some (some s) := by
  unfold run
  rw [if_pos rfl, if_pos rfl]; rfl
theorem run_rel {s : Int32} {t : Int32} : run (some s) [(nI 5, s, t)] = some none := by
  unfold run
  rw [if_neg (show ¬ nI 5 = nI 0 by decide), if_pos rfl, if_pos rfl]; rfl
/-- v's asking at a that isn't over -/
def opn (S : St) (v a : Nat) : Option Int32 := if xR S 0 v ≠ 0 ∧ bt (xR S 3 v) a = true then some (xR S 2 v) else none
/-- s is a stamp of v's; of its latest, while it asks, only at those in use -/
def Zok (S : St) (v a : Nat) (s : Int32) : Prop := ∃ n m, s = nI n ∧ xR S 2 v = nI m ∧ n ≤ m ∧ m < 1048576 ∧ (n = m → xR S 0 v = 1 → bt (xR S 3 v) a = true)
/-- what holds of S, but that of v0 at a0 the arbiter's part is e0 -/
def oe (S : St) (v0 a0 : Nat) (e0 : Option Int32) (v a : Nat) : Option Int32 := if v = v0 ∧ a = a0 then e0 else eng S a v
def IA (N : Nat) (S : St) : Prop := ∀ v, v < 16 → (xR S 0 v = 0 ∨ xR S 0 v = 1 ∨ xR S 0 v = 2) ∧ (N ≤ v → xR S 0 v = 0) ∧ (xR S 7 v = 0 ∨ xR S 7 v = 1) ∧ (xR S 10 v = 0 ∨ xR S 10 v = 1)
def IB (N : Nat) (S : St) : Prop := ∀ v, v < 16 → ∀ i, N ≤ i → i < 32 → bt (xR S 3 v) i = false
def IC (S : St) : Prop := ∀ v, v < 16 → xR S 0 v = 1 → ∀ i, i < 32 → (bt (xR S 4 v) i = true → bt (xR S 3 v) i = true) ∧ (bt (xR S 5 v) i = true → bt (xR S 3 v) i = true)
def ID (A : Nat) (S : St) : Prop := ∀ v, v < 16 → ∃ c m, c ≤ A ∧ m ≤ c ∧ xR S 1 v = nI c ∧ xR S 2 v = nI m
def IE (N A : Nat) (S : St) : Prop := ∀ l, l < 256 → (∀ x, x ∈ xL S l → (∃ k, k < 6 ∧ x.1 = nI k) ∧ ∃ s, s ≤ A ∧ x.2.1 = nI s) ∧ (¬ (l / 16 < N ∧ l % 16 < N) → xL S l = [])
def IF (N A : Nat) (S : St) : Prop := ∀ a, a < 16 → Wok N A (xW S a) ∧ (N ≤ a → xW S a = []) ∧ ((xR S 8 a = -1 ∧ xR S 9 a = 0 ∧ xR S 10 a = 0) ∨ ∃ g, g < N ∧ xR S 8 a = nI g ∧ g ∉ (xW S a).map Prod.fst ∧ ∃ s, s ≤ A ∧ xR S 9 a = nI s)
def IG (N : Nat) (S : St) (v0 a0 : Nat) (e0 : Option Int32) : Prop := ∀ v, v < N → ∀ a, a < N → run (oe S v0 a0 e0 v a) (xL S (16 * v + a)) = some (opn S v a)
def IH (N : Nat) (S : St) (v0 a0 : Nat) (e0 : Option Int32) : Prop := ∀ v, v < N → ∀ a, a < N → (∀ s, oe S v0 a0 e0 v a = some s → Zok S v a s) ∧ (∀ x, x ∈ xL S (16 * v + a) → x.1 = nI 0 → Zok S v a x.2.1) ∧ (∀ x, x ∈ xL S (16 * a + v) → (x.1 = nI 1 ∨ x.1 = nI 2 ∨ x.1 = nI 3) → Zok S v a x.2.1)
def InvG (N A : Nat) (S : St) (v0 a0 : Nat) (e0 : Option Int32) : Prop := IA N S ∧ IB N S ∧ IC S ∧ ID A S ∧ IE N A S ∧ IF N A S ∧ IG N S v0 a0 e0 ∧ IH N S v0 a0 e0
def Inv (N A : Nat) (S : St) : Prop := InvG N A S 99 99 none
theorem oe_99 {S : St} {e0 : Option Int32} {v a : Nat} (hv : v < 16) : oe S 99 99 e0 v a = eng S a v := by
  unfold oe
  rw [if_neg (by omega)]
theorem oe_id {S : St} {v0 a0 v a : Nat} : oe S v0 a0 (eng S a0 v0) v a = eng S a v := by
  unfold oe
  by_cases c : v = v0 ∧ a = a0
  · rw [if_pos c, c.1, c.2]
  · rw [if_neg c]
theorem InvG.id {N A : Nat} {S : St} {v0 a0 : Nat} (h16 : N ≤ 16) : InvG N A S v0 a0 (eng S a0 v0) ↔ Inv N A S := by
  have e : ∀ v, v < N → ∀ a, oe S v0 a0 (eng S a0 v0) v a = oe S 99 99 none v a := fun v hv a => by rw [oe_id, oe_99 (by omega)]
  unfold Inv InvG IG IH
  constructor
  · rintro ⟨a, b, c, d, f, g, i, j⟩
    exact ⟨a, b, c, d, f, g, fun v hv a ha => (e v hv a) ▸ i v hv a ha, fun v hv a ha => (e v hv a) ▸ j v hv a ha⟩
  · rintro ⟨a, b, c, d, f, g, i, j⟩
    exact ⟨a, b, c, d, f, g, fun v hv a ha => (e v hv a).symm ▸ i v hv a ha, fun v hv a ha => (e v hv a).symm ▸ j v hv a ha⟩
/-! ===== the model's steps keep it ===== -/
theorem sn_L {t : Int32} {k f g : Nat} {s : Int32} {S : St} (l : Nat) : xL (sn t k f g s S) l = if l = 16 * f + g then xL S (16 * f + g) ++ [(nI k, s, t)] else xL S l := rfl
theorem sn_W (t : Int32) (k f g : Nat) (s : Int32) (S : St) : xW (sn t k f g s S) = xW S := rfl
theorem Zok.cg {S S' : St} {v a : Nat} {s : Int32} (h : Zok S v a s) (e2 : xR S' 2 v = xR S 2 v) (e0 : xR S' 0 v = 1 → xR S 0 v = 1 ∧ (bt (xR S 3 v) a = true → bt (xR S' 3 v) a = true)) : Zok S' v a s := by
  obtain ⟨n, m, h1, h2, h3, h4, h5⟩ := h
  exact ⟨n, m, h1, e2.trans h2, h3, h4, fun q1 q2 => (e0 q2).2 (h5 q1 (e0 q2).1)⟩
theorem Zok.ex {S S' : St} {v a : Nat} {s : Int32} (h : Zok S v a s) (e2 : xR S' 2 v = xR S 2 v) (e0 : xR S' 0 v = xR S 0 v) (e3 : xR S' 3 v = xR S 3 v) : Zok S' v a s :=
  h.cg e2 (fun q => ⟨e0 ▸ q, fun z => e3.symm ▸ z⟩)
theorem nI_ne {a b : Nat} (ha : a < 2 ^ 31) (hb : b < 2 ^ 31) (h : a ≠ b) : ¬ nI a = nI b := fun q => h ((nI_eq ha hb).mp q)
/-- who waits and the registers that are read are as they were -/
def Sam (S S' : St) : Prop := xW S' = xW S ∧ ∀ k, k < 11 → k ≠ 6 → ∀ i, xR S' k i = xR S k i
theorem Sam.topn {S S' : St} (h : Sam S S') (v a : Nat) : opn S' v a = opn S v a := by
  unfold opn; rw [h.2 0 (by decide) (by decide), h.2 3 (by decide) (by decide), h.2 2 (by decide) (by decide)]
theorem Sam.toe {S S' : St} (h : Sam S S') (v0 a0 : Nat) (e0 : Option Int32) (v a : Nat) : oe S' v0 a0 e0 v a = oe S v0 a0 e0 v a := by
  unfold oe eng; rw [h.2 8 (by decide) (by decide), h.2 9 (by decide) (by decide), h.1]
theorem Sam.z {S S' : St} (h : Sam S S') {v a : Nat} {s : Int32} (z : Zok S v a s) : Zok S' v a s :=
  z.ex (h.2 2 (by decide) (by decide) v) (h.2 0 (by decide) (by decide) v) (h.2 3 (by decide) (by decide) v)
theorem Sam.inv {N A : Nat} {S S' : St} {v0 a0 : Nat} {e0 : Option Int32} (q : Sam S S') (h : InvG N A S v0 a0 e0) (hE : IE N A S') (hG : IG N S' v0 a0 e0) (hH : IH N S' v0 a0 e0) : InvG N A S' v0 a0 e0 := by
  obtain ⟨a, b, c, d, f, g, i, j⟩ := h
  have r : ∀ k, (k = 0 ∨ k = 1 ∨ k = 2 ∨ k = 3 ∨ k = 4 ∨ k = 5 ∨ k = 7 ∨ k = 8 ∨ k = 9 ∨ k = 10) → xR S' k = xR S k := fun k hk => funext fun i => q.2 k (by omega) (by omega) i
  have r0 := r 0 (by omega); have r1 := r 1 (by omega); have r2 := r 2 (by omega); have r3 := r 3 (by omega); have r4 := r 4 (by omega); have r5 := r 5 (by omega); have r7 := r 7 (by omega); have r8 := r 8 (by omega); have r9 := r 9 (by omega); have r10 := r 10 (by omega)
  refine ⟨?_, ?_, ?_, ?_, hE, ?_, hG, hH⟩
  · unfold IA; rw [r0, r7, r10]; exact a
  · unfold IB; rw [r3]; exact b
  · unfold IC; rw [r0, r3, r4, r5]; exact c
  · unfold ID; rw [r1, r2]; exact d
  · unfold IF; rw [q.1, r8, r9, r10]; exact g
theorem InvG.reg {N A : Nat} {S S' : St} {v0 a0 : Nat} {e0 : Option Int32} (h : InvG N A S v0 a0 e0) (q : Sam S S') (hL : xL S' = xL S) : InvG N A S' v0 a0 e0 := by
  refine q.inv h ?_ ?_ ?_
  · unfold IE; rw [hL]; exact h.2.2.2.2.1
  · intro v hv a ha; rw [q.toe, q.topn, hL]; exact h.2.2.2.2.2.2.1 v hv a ha
  · intro v hv a ha
    rw [hL]
    obtain ⟨j1, j2, j3⟩ := h.2.2.2.2.2.2.2 v hv a ha
    exact ⟨fun s z => q.z (j1 s (by rw [← q.toe]; exact z)), fun x q1 q2 => q.z (j2 x q1 q2), fun x q1 q2 => q.z (j3 x q1 q2)⟩
/-- GRANT, FAIL, INQUIRE, YIELD are sent -/
theorem InvG.tsn {N A : Nat} {S : St} {v0 a0 : Nat} {e0 : Option Int32} (h : InvG N A S v0 a0 e0) (h16 : N ≤ 16) {t s : Int32} {k f g : Nat} (hk : 1 ≤ k ∧ k ≤ 4) (hf : f < N) (hg : g < N) (hs : ∃ n, n ≤ A ∧ s = nI n) (hz : k ≤ 3 → Zok S g f s) : InvG N A (sn t k f g s S) v0 a0 e0 := by
  have q : Sam S (sn t k f g s S) := ⟨rfl, fun k' hk' _ i => sn_R _ _ _ _ _ _ (by omega)⟩
  have n0 : ¬ nI k = nI 0 := nI_ne (by omega) (by decide) (by omega)
  have n5 : ¬ nI k = nI 5 := nI_ne (by omega) (by decide) (by omega)
  refine q.inv h ?_ ?_ ?_
  · intro l hl
    rw [sn_L]
    by_cases c : l = 16 * f + g
    · rw [if_pos c]
      refine ⟨fun x hx => ?_, fun z => absurd ⟨by omega, by omega⟩ z⟩
      rcases List.mem_append.mp hx with hx | hx
      · exact (h.2.2.2.2.1 _ (by omega)).1 x hx
      · rw [List.mem_singleton] at hx
        subst hx
        exact ⟨⟨k, by omega, rfl⟩, hs⟩
    · rw [if_neg c]; exact h.2.2.2.2.1 l hl
  · intro v hv a ha
    rw [q.toe, q.topn, sn_L]
    have i := h.2.2.2.2.2.2.1 v hv a ha
    by_cases c : 16 * v + a = 16 * f + g
    · rw [if_pos c, ← c, run_ap, i, Option.bind_some, run_other n0 n5]
    · rw [if_neg c]; exact i
  · intro v hv a ha
    obtain ⟨j1, j2, j3⟩ := h.2.2.2.2.2.2.2 v hv a ha
    refine ⟨fun s z => q.z (j1 s (by rw [← q.toe]; exact z)), fun x q1 q2 => q.z ?_, fun x q1 q2 => q.z ?_⟩
    · rw [sn_L] at q1
      by_cases c : 16 * v + a = 16 * f + g
      · rw [if_pos c, ← c] at q1
        rcases List.mem_append.mp q1 with q1 | q1
        · exact j2 x q1 q2
        · rw [List.mem_singleton] at q1
          subst q1
          exact absurd q2 n0
      · rw [if_neg c] at q1; exact j2 x q1 q2
    · rw [sn_L] at q1
      by_cases c : 16 * a + v = 16 * f + g
      · rw [if_pos c, ← c] at q1
        rcases List.mem_append.mp q1 with q1 | q1
        · exact j3 x q1 q2
        · rw [List.mem_singleton] at q1
          subst q1
          have e1 : a = f := by omega
          have e2 : v = g := by omega
          rw [e1, e2]
          refine hz ?_
          rcases q2 with q2 | q2 | q2
          · have := (nI_eq (a := k) (by omega) (by decide)).mp q2; omega
          · have := (nI_eq (a := k) (by omega) (by decide)).mp q2; omega
          · have := (nI_eq (a := k) (by omega) (by decide)).mp q2; omega
      · rw [if_neg c] at q1; exact j3 x q1 q2
theorem Option.bind_x {α β : Type} (a : α) (f : α → Option β) : (some a).bind f = f a := rfl
/-- the head of a lane is taken: what its REQUEST or RELEASE says is put aside -/
def popE (S : St) (f g : Nat) (x : Ltr) : Option Int32 := if x.1 = nI 0 then some x.2.1 else if x.1 = nI 5 then none else eng S g f
theorem Inv.pop {N A : Nat} {S : St} (h : Inv N A S) (h16 : N ≤ 16) {f g : Nat} (hf : f < N) (hg : g < N) {x : Ltr} {r : List Ltr} (hx : xL S (16 * f + g) = x :: r) : InvG N A (uL S (16 * f + g) r) f g (popE S f g x) ∧ (x.1 = nI 0 → eng S g f = none) ∧ (x.1 = nI 5 → eng S g f = some x.2.1) ∧ ((x.1 = nI 1 ∨ x.1 = nI 2 ∨ x.1 = nI 3) → Zok S g f x.2.1) := by
  have q : Sam S (uL S (16 * f + g) r) := ⟨rfl, fun _ _ _ _ => rfl⟩
  have i := h.2.2.2.2.2.2.1 f hf g hg
  have j := h.2.2.2.2.2.2.2 f hf g hg
  rw [oe_99 (by omega), hx] at i
  have ei : run (popE S f g x) r = some (opn S f g) ∧ (x.1 = nI 0 → eng S g f = none) ∧ (x.1 = nI 5 → eng S g f = some x.2.1) := by
    unfold run at i
    unfold popE
    by_cases c0 : x.1 = nI 0
    · rw [if_pos c0] at i ⊢
      by_cases c : eng S g f = none
      · rw [if_pos c] at i
        exact ⟨i, fun _ => c, fun z => absurd (c0.symm.trans z) (by decide)⟩
      · rw [if_neg c] at i; cases i
    · rw [if_neg c0] at i ⊢
      by_cases c5 : x.1 = nI 5
      · rw [if_pos c5] at i ⊢
        by_cases c : eng S g f = some x.2.1
        · rw [if_pos c] at i
          exact ⟨i, fun z => absurd z c0, fun _ => c⟩
        · rw [if_neg c] at i; cases i
      · rw [if_neg c5] at i ⊢
        exact ⟨i, fun z => absurd z c0, fun z => absurd z c5⟩
  have mem : ∀ l y, y ∈ xL (uL S (16 * f + g) r) l → y ∈ xL S l := by
    intro l y hy
    rw [xL_uL] at hy
    by_cases c : l = 16 * f + g
    · rw [if_pos c] at hy
      rw [c, hx]; exact List.mem_cons_of_mem _ hy
    · rw [if_neg c] at hy; exact hy
  refine ⟨?_, ei.2.1, ei.2.2, fun z => (h.2.2.2.2.2.2.2 g hg f hf).2.2 x (by rw [hx]; simp) z⟩
  obtain ⟨a, b, c, d, e, ff, ig, ih⟩ := h
  refine ⟨a, b, c, d, ?_, ff, ?_, ?_⟩
  · intro l hl
    refine ⟨fun y hy => (e l hl).1 y (mem l y hy), fun z => ?_⟩
    have e2 := (e l hl).2 z
    rw [xL_uL]
    by_cases c : l = 16 * f + g
    · rw [c, hx] at e2; cases e2
    · rw [if_neg c]; exact e2
  · intro v hv a ha
    rw [q.topn, xL_uL]
    by_cases c : 16 * v + a = 16 * f + g
    · have e1 : v = f := by omega
      have e2 : a = g := by omega
      rw [if_pos c, e1, e2]
      unfold oe
      rw [if_pos ⟨rfl, rfl⟩]
      exact ei.1
    · rw [if_neg c]
      have := ig v hv a ha
      rw [oe_99 (by omega)] at this
      unfold oe
      rw [if_neg (fun z => c (by rw [z.1, z.2]))]
      exact this
  · intro v hv a ha
    obtain ⟨j1, j2, j3⟩ := ih v hv a ha
    refine ⟨fun s z => q.z ?_, fun y q1 q2 => q.z (j2 y (mem _ y q1) q2), fun y q1 q2 => q.z (j3 y (mem _ y q1) q2)⟩
    unfold oe at z
    by_cases c : v = f ∧ a = g
    · rw [if_pos c] at z
      rw [c.1, c.2]
      unfold popE at z
      by_cases c0 : x.1 = nI 0
      · rw [if_pos c0] at z
        rw [← Option.some.inj z]
        exact j.2.1 x (by rw [hx]; simp) c0
      · rw [if_neg c0] at z
        by_cases c5 : x.1 = nI 5
        · rw [if_pos c5] at z; cases z
        · rw [if_neg c5] at z
          exact j.1 s (by rw [oe_99 (by omega)]; exact z)
    · rw [if_neg c] at z
      exact j1 s (by rw [oe_99 (by omega)]; exact z)
/-! ===== the arbiter's steps keep it ===== -/
def gF' (t : Int32) (a : Nat) (S : St) : St := match xW S a with
  | [] => S
  | w :: r => sn t 1 a w.1 w.2 (uW (uR (uR S 8 a (nI w.1)) 9 a w.2) a r)
theorem gF_e (t : Int32) (a : Nat) (S : St) : gF t a S = gF' t a (nob a S) := by
  unfold gF gF'
  rw [show xW (nob a S) a = xW S a from rfl]
  cases xW S a with
  | nil => rfl
  | cons w r => rfl
theorem nob_R {a : Nat} {S : St} {k i : Nat} (h : i ≠ a ∨ k < 8 ∨ 10 < k) : xR (nob a S) k i = xR S k i := by
  unfold nob
  rw [xR_uR, if_neg (by omega), xR_uR, if_neg (by omega), xR_uR, if_neg (by omega)]
theorem nob_8 (a : Nat) (S : St) : xR (nob a S) 8 a = -1 ∧ xR (nob a S) 9 a = 0 ∧ xR (nob a S) 10 a = 0 := by
  unfold nob
  refine ⟨?_, ?_, ?_⟩ <;> simp [xR_uR]
theorem oe_n {S : St} {v0 a0 : Nat} {e0 : Option Int32} {v a : Nat} (h : v ≠ v0) : oe S v0 a0 e0 v a = eng S a v := by
  unfold oe
  rw [if_neg (fun z => h z.1)]
theorem oe_y {S : St} {v0 a0 : Nat} {e0 : Option Int32} : oe S v0 a0 e0 v0 a0 = e0 := by
  unfold oe
  rw [if_pos ⟨rfl, rfl⟩]
/-- only what a knows has changed: whom it granted, who waits -/
def Arb (a : Nat) (S S' : St) : Prop := xL S' = xL S ∧ (∀ b, b ≠ a → xW S' b = xW S b) ∧ ∀ k i, (i ≠ a ∨ k < 8) → k < 11 → xR S' k i = xR S k i
theorem Arb.inv {N A a : Nat} {S S' : St} {v0 v1 : Nat} {e0 e1 : Option Int32} (q : Arb a S S') (h16 : N ≤ 16) (ha : a < N) (h : InvG N A S v0 a e0) (hF : Wok N A (xW S' a) ∧ ((xR S' 8 a = -1 ∧ xR S' 9 a = 0 ∧ xR S' 10 a = 0) ∨ ∃ g, g < N ∧ xR S' 8 a = nI g ∧ g ∉ (xW S' a).map Prod.fst ∧ ∃ s, s ≤ A ∧ xR S' 9 a = nI s)) (h10 : xR S' 10 a = 0 ∨ xR S' 10 a = 1) (he : ∀ v, v < N → oe S' v1 a e1 v a = oe S v0 a e0 v a) : InvG N A S' v1 a e1 := by
  obtain ⟨qL, qW, qR⟩ := q
  obtain ⟨ja, jb, jc, jd, je, jf, jg, jh⟩ := h
  have r : ∀ k, k < 8 → xR S' k = xR S k := fun k hk => funext fun i => qR k i (Or.inr hk) (by omega)
  have ro : ∀ v b, opn S' v b = opn S v b := fun v b => by unfold opn; rw [r 0 (by decide), r 3 (by decide), r 2 (by decide)]
  have rz : ∀ {v b s}, Zok S v b s → Zok S' v b s := fun z => z.ex (by rw [r 2 (by decide)]) (by rw [r 0 (by decide)]) (by rw [r 3 (by decide)])
  have re : ∀ v, v < N → ∀ b, b < N → oe S' v1 a e1 v b = oe S v0 a e0 v b := by
    intro v hv b hb
    by_cases c : b = a
    · rw [c]; exact he v hv
    · unfold oe
      rw [if_neg (fun z => c z.2), if_neg (fun z => c z.2)]
      unfold eng
      rw [qR 8 b (Or.inl c) (by decide), qR 9 b (Or.inl c) (by decide), qW b c]
  refine ⟨?_, ?_, ?_, ?_, ?_, ?_, ?_, ?_⟩
  · intro v hv
    rw [r 0 (by decide), r 7 (by decide)]
    obtain ⟨x1, x2, x3, x4⟩ := ja v hv
    refine ⟨x1, x2, x3, ?_⟩
    by_cases c : v = a
    · rw [c]; exact h10
    · rw [qR 10 v (Or.inl c) (by decide)]; exact x4
  · unfold IB; rw [r 3 (by decide)]; exact jb
  · unfold IC; rw [r 0 (by decide), r 3 (by decide), r 4 (by decide), r 5 (by decide)]; exact jc
  · unfold ID; rw [r 1 (by decide), r 2 (by decide)]; exact jd
  · unfold IE; rw [qL]; exact je
  · intro b hb
    by_cases c : b = a
    · rw [c]; exact ⟨hF.1, fun z => absurd ha (by omega), hF.2⟩
    · rw [qW b c, qR 8 b (Or.inl c) (by decide), qR 9 b (Or.inl c) (by decide), qR 10 b (Or.inl c) (by decide)]; exact jf b hb
  · intro v hv b hb
    rw [re v hv b hb, ro, qL]; exact jg v hv b hb
  · intro v hv b hb
    rw [qL]
    obtain ⟨j1, j2, j3⟩ := jh v hv b hb
    exact ⟨fun s z => rz (j1 s (by rw [← re v hv b hb]; exact z)), fun x q1 q2 => rz (j2 x q1 q2), fun x q1 q2 => rz (j3 x q1 q2)⟩
theorem nob_A (a : Nat) (S : St) : Arb a S (nob a S) := ⟨rfl, fun _ _ => rfl, fun k i h _ => nob_R (by omega)⟩
theorem m1_ne {v : Nat} (h : v < 16) : ¬ (-1 : Int32) = nI v := fun q => nI_m1 h q.symm
theorem eng_nob {a : Nat} {S : St} {v : Nat} (hv : v < 16) : eng (nob a S) a v = engW (xW S a) v := by
  unfold eng
  rw [(nob_8 a S).1, if_neg (m1_ne hv)]
  rfl
theorem InvG.tnob {N A a v0 : Nat} {S : St} {e0 : Option Int32} (h : InvG N A S v0 a e0) (h16 : N ≤ 16) (ha : a < N) (ho : ∀ v, v < N → v ≠ v0 → eng S a v = engW (xW S a) v) : InvG N A (nob a S) v0 a e0 := by
  refine (nob_A a S).inv h16 ha h ⟨(h.2.2.2.2.2.1 a (by omega)).1, Or.inl (nob_8 a S)⟩ (Or.inl (nob_8 a S).2.2) (fun v hv => ?_)
  unfold oe
  by_cases c : v = v0 ∧ a = a
  · rw [if_pos c, if_pos c]
  · rw [if_neg c, if_neg c, eng_nob (by omega)]
    exact (ho v hv (fun e => c ⟨e, rfl⟩)).symm
theorem Inv.a {N A a : Nat} {S : St} (h16 : N ≤ 16) : InvG N A S 99 a none ↔ Inv N A S := by
  have e : ∀ v, v < N → ∀ b, oe S 99 a none v b = oe S 99 99 none v b := fun v hv b => by
    unfold oe; rw [if_neg (by omega), if_neg (by omega)]
  unfold Inv InvG IG IH
  constructor
  · rintro ⟨x1, x2, x3, x4, x5, x6, i, j⟩
    exact ⟨x1, x2, x3, x4, x5, x6, fun v hv a ha => (e v hv a) ▸ i v hv a ha, fun v hv a ha => (e v hv a) ▸ j v hv a ha⟩
  · rintro ⟨x1, x2, x3, x4, x5, x6, i, j⟩
    exact ⟨x1, x2, x3, x4, x5, x6, fun v hv a ha => (e v hv a).symm ▸ i v hv a ha, fun v hv a ha => (e v hv a).symm ▸ j v hv a ha⟩
theorem Inv.tgF' {N A a : Nat} {S : St} (h : Inv N A S) (h16 : N ≤ 16) (ha : a < N) (h8 : xR S 8 a = -1) (t : Int32) : Inv N A (gF' t a S) := by
  unfold gF'
  have hF := h.2.2.2.2.2.1 a (by omega)
  have hr : xR S 9 a = 0 ∧ xR S 10 a = 0 := by
    rcases hF.2.2 with z | ⟨g, z1, z2, _⟩
    · exact z.2
    · rw [h8] at z2; exact absurd z2 (m1_ne (by omega))
  cases hw : xW S a with
  | nil => exact h
  | cons w r =>
    simp only []
    rw [hw] at hF
    obtain ⟨hw1, s, hs, es⟩ := hF.1.2.2 w (by simp)
    have hd := hF.1.2.1
    rw [List.map_cons] at hd
    have hd2 := List.nodup_cons.mp hd
    have e8 : xR (uW (uR (uR S 8 a (nI w.1)) 9 a w.2) a r) 8 a = nI w.1 := by simp [xR_uR, xR_uW]
    have e9 : xR (uW (uR (uR S 8 a (nI w.1)) 9 a w.2) a r) 9 a = w.2 := by simp [xR_uR, xR_uW]
    have e10 : xR (uW (uR (uR S 8 a (nI w.1)) 9 a w.2) a r) 10 a = 0 := by simp [xR_uR, xR_uW, hr.2]
    have eW : xW (uW (uR (uR S 8 a (nI w.1)) 9 a w.2) a r) a = r := by rw [xW_uW, if_pos rfl]
    have q : Arb a S (uW (uR (uR S 8 a (nI w.1)) 9 a w.2) a r) := ⟨rfl, fun b hb => by rw [xW_uW, if_neg hb]; rfl, fun k i hk hk2 => by
      rw [xR_uW, xR_uR, if_neg (by omega), xR_uR, if_neg (by omega)]⟩
    have h1 : Inv N A (uW (uR (uR S 8 a (nI w.1)) 9 a w.2) a r) := by
      rw [← Inv.a (a := a) h16]
      refine q.inv (v0 := 99) (e0 := none) h16 ha ((Inv.a h16).mpr h) ⟨by rw [eW]; exact hF.1.tl, Or.inr ⟨w.1, hw1, e8, by rw [eW]; exact hd2.1, s, hs, by rw [e9]; exact es⟩⟩ (Or.inl e10) (fun v hv => ?_)
      unfold oe
      rw [if_neg (by omega), if_neg (by omega)]
      unfold eng
      rw [e8, e9, eW, h8, if_neg (m1_ne (show v < 16 by omega)), hw]
      unfold engW
      by_cases c : w.1 = v
      · rw [if_pos (by rw [c]), if_pos c]
      · rw [if_neg (nI_ne (by omega) (by omega) c), if_neg c]
        cases r <;> rfl
    refine InvG.tsn h1 h16 (by decide) ha hw1 ⟨s, hs, es⟩ (fun _ => ?_)
    have := (h1.2.2.2.2.2.2.2 w.1 hw1 a ha).1 w.2
    rw [oe_99 (by omega)] at this
    refine this ?_
    unfold eng
    rw [e8, e9, if_pos rfl]
/-- one comes waiting of whom a knew nothing -/
theorem InvG.tins {N A a v n : Nat} {S : St} (h : InvG N A S v a (some (nI n))) (h16 : N ≤ 16) (ha : a < N) (hv : v < N) (hn : n ≤ A) (he : eng S a v = none) : Inv N A (uW S a (ins v (nI n) (xW S a))) := by
  have hF := h.2.2.2.2.2.1 a (by omega)
  have h8 : ¬ xR S 8 a = nI v := fun c => by unfold eng at he; rw [if_pos c] at he; cases he
  have hW : v ∉ (xW S a).map Prod.fst := by
    unfold eng at he
    rw [if_neg h8] at he
    exact engW_none.mp he
  have eW : xW (uW S a (ins v (nI n) (xW S a))) a = ins v (nI n) (xW S a) := by rw [xW_uW, if_pos rfl]
  have q : Arb a S (uW S a (ins v (nI n) (xW S a))) := ⟨rfl, fun b hb => by rw [xW_uW, if_neg hb], fun _ _ _ _ => rfl⟩
  rw [← Inv.a (a := a) h16]
  refine q.inv (v0 := v) (e0 := some (nI n)) h16 ha h ⟨by rw [eW]; exact ins_Wok hF.1 hv h16 hn hW, ?_⟩ (h.1 a (by omega)).2.2.2 (fun u hu => ?_)
  · rcases hF.2.2 with z | ⟨g, z1, z2, z3, z4⟩
    · exact Or.inl z
    · refine Or.inr ⟨g, z1, z2, ?_, z4⟩
      rw [eW]
      intro m
      obtain ⟨w, hw, e⟩ := List.mem_map.mp m
      rcases ins_mem hw with rfl | hw
      · exact h8 (by rw [z2, ← e])
      · exact z3 (by rw [← e]; exact List.mem_map_of_mem hw)
  · rw [oe_n (by omega)]
    by_cases c : u = v
    · subst c
      rw [oe_y]
      unfold eng
      rw [eW, engW_ins hF.1 hv h16 hn hW, xR_uW, if_neg h8, if_pos rfl]
    · rw [oe_n c]
      unfold eng
      rw [eW, engW_ins hF.1 hv h16 hn hW, xR_uW, if_neg c]
theorem eng_z {N A a v : Nat} {S : St} (h : Inv N A S) (h16 : N ≤ 16) (ha : a < N) (hv : v < N) {s : Int32} (e : eng S a v = some s) : Zok S v a s := by
  have := (h.2.2.2.2.2.2.2 v hv a ha).1 s
  rw [oe_99 (by omega)] at this
  exact this e
theorem rq2_R {t : Int32} {a : Nat} {old : List Wtr} {S : St} {k i : Nat} (hk : k ≠ 16) : xR (rq2 t a old S) k i = xR S k i := by
  unfold rq2
  split
  · rfl
  · split
    · exact sn_R _ _ _ _ _ _ hk
    · rfl
theorem rq2_n {t : Int32} {a : Nat} {old : List Wtr} {S : St} (h : old = []) : rq2 t a old S = S := by subst h; rfl
theorem rq2_c {t : Int32} {a : Nat} {old : List Wtr} {S : St} {y : Wtr} {ys : List Wtr} (h : old = y :: ys) : rq2 t a old S = if ahd y.2 (nI y.1) (xR S 9 a) (xR S 8 a) then sn t 2 a y.1 y.2 S else S := by subst h; rfl
theorem rq2_W {t : Int32} {a : Nat} {old : List Wtr} {S : St} : xW (rq2 t a old S) = xW S := by
  unfold rq2
  split
  · rfl
  · split
    · rfl
    · rfl
theorem InvG.trq {N A a v n : Nat} {S : St} (h : InvG N A S v a (some (nI n))) (h16 : N ≤ 16) (ha : a < N) (hv : v < N) (hn : n ≤ A) (he : eng S a v = none) (t : Int32) : Inv N A (rq t a v (nI n) S) := by
  have h1 := h.tins h16 ha hv hn he
  have hF := h1.2.2.2.2.2.1 a (by omega)
  have hFo := h.2.2.2.2.2.1 a (by omega)
  have eW : xW (uW S a (ins v (nI n) (xW S a))) a = ins v (nI n) (xW S a) := by rw [xW_uW, if_pos rfl]
  unfold rq
  by_cases c8 : xR S 8 a = -1
  · rw [if_pos c8, gF_e]
    refine Inv.tgF' ?_ h16 ha (nob_8 _ _).1 t
    rw [← Inv.a (a := a) h16]
    refine InvG.tnob ((Inv.a h16).mpr h1) h16 ha (fun u hu _ => ?_)
    unfold eng
    rw [xR_uW, c8, if_neg (m1_ne (by omega))]
  · rw [if_neg c8]
    obtain ⟨g, hg, e8, hgW, sg, hsg, e9⟩ := hF.2.2.resolve_left (fun z => c8 z.1)
    have e8' : xR S 8 a = nI g := e8
    have e9' : xR S 9 a = nI sg := e9
    have gnS : ∀ S', xR S' 8 a = xR S 8 a → gn S' a = g := fun S' z => gn_e (z.trans e8') (by omega)
    split
    · have h2 : Inv N A (rq2 t a (xW S a) (uW S a (ins v (nI n) (xW S a)))) := by
        by_cases hc : xW S a = []
        · rw [rq2_n hc]; exact h1
        · obtain ⟨y, ys, hy⟩ := List.exists_cons_of_ne_nil hc
          rw [rq2_c hy]
          split
          · obtain ⟨hy1, sy, hsy, ey⟩ := hFo.1.2.2 y (by rw [hy]; simp)
            refine InvG.tsn h1 h16 (by decide) ha hy1 ⟨sy, hsy, ey⟩ (fun _ => eng_z h1 h16 ha hy1 ?_)
            have hm : y ∈ ins v (nI n) (xW S a) := ins_perm.mpr (Or.inr (by rw [hy]; simp))
            unfold eng
            rw [eW, if_neg]
            · exact (engW_some (by rw [eW] at hF; exact hF.1.2.1)).mpr hm
            · intro z
              have : g = y.1 := (nI_eq (by omega) (by omega)).mp (e8.symm.trans z)
              exact hgW (by rw [eW, this]; exact List.mem_map_of_mem hm)
          · exact h1
      unfold rq3
      have k8 : xR (rq2 t a (xW S a) (uW S a (ins v (nI n) (xW S a)))) 8 a = nI g := by rw [rq2_R (by decide)]; exact e8
      have k9 : xR (rq2 t a (xW S a) (uW S a (ins v (nI n) (xW S a)))) 9 a = nI sg := by rw [rq2_R (by decide)]; exact e9
      split
      · exact h2
      · rw [gn_e k8 (by omega), k9]
        have h3 : Inv N A (uR (rq2 t a (xW S a) (uW S a (ins v (nI n) (xW S a)))) 10 a 1) := by
          rw [← Inv.a (a := a) h16]
          have hF2 := h2.2.2.2.2.2.1 a (by omega)
          have q : Arb a (rq2 t a (xW S a) (uW S a (ins v (nI n) (xW S a)))) (uR (rq2 t a (xW S a) (uW S a (ins v (nI n) (xW S a)))) 10 a 1) := ⟨rfl, fun _ _ => rfl, fun k i hk _ => by rw [xR_uR, if_neg (by omega)]⟩
          refine q.inv (v0 := 99) (e0 := none) h16 ha ((Inv.a h16).mpr h2) ⟨hF2.1, Or.inr ⟨g, hg, ?_, ?_, sg, hsg, ?_⟩⟩ (Or.inr (by rw [xR_uR, if_pos ⟨rfl, rfl⟩])) (fun u hu => ?_)
          · rw [xR_uR, if_neg (by omega)]; exact k8
          · rw [xW_uR, rq2_W]; exact hgW
          · rw [xR_uR, if_neg (by omega)]; exact k9
          · rw [oe_n (by omega), oe_n (by omega)]
            unfold eng
            rw [xR_uR, if_neg (show ¬ (8 = 10 ∧ a = a) by omega), xR_uR, if_neg (show ¬ (9 = 10 ∧ a = a) by omega), xW_uR]
        refine InvG.tsn h3 h16 (by decide) ha hg ⟨sg, hsg, rfl⟩ (fun _ => eng_z h3 h16 ha hg ?_)
        unfold eng
        rw [xR_uR, if_neg (show ¬ (8 = 10 ∧ a = a) by omega), k8, if_pos rfl, xR_uR, if_neg (show ¬ (9 = 10 ∧ a = a) by omega), k9]
    · refine InvG.tsn h1 h16 (by decide) ha hv ⟨n, hn, rfl⟩ (fun _ => eng_z h1 h16 ha hv ?_)
      unfold eng
      rw [eW, if_neg]
      · exact (engW_some (by rw [eW] at hF; exact hF.1.2.1)).mpr (ins_perm.mpr (Or.inl rfl))
      · intro z
        have : g = v := (nI_eq (by omega) (by omega)).mp (e8.symm.trans z)
        exact hgW (by rw [eW, this]; exact List.mem_map_of_mem (f := Prod.fst) (ins_perm.mpr (Or.inl rfl)))
theorem Inv.tyl {N A a v n : Nat} {S : St} (h : Inv N A S) (h16 : N ≤ 16) (ha : a < N) (hv : v < N) (hn : n ≤ A) (t : Int32) : Inv N A (yl t a v (nI n) S) := by
  have hF := h.2.2.2.2.2.1 a (by omega)
  unfold yl
  split
  · rename_i c
    obtain ⟨g, hg, e8, hgW, _⟩ := hF.2.2.resolve_left (fun z => m1_ne (show v < 16 by omega) (z.1.symm.trans c.1))
    have egv : g = v := (nI_eq (by omega) (by omega)).mp (e8.symm.trans c.1)
    subst egv
    have he : eng S a g = some (nI n) := by unfold eng; rw [if_pos c.1, c.2]
    have h0 : InvG N A S g a (some (nI n)) := by rw [← he]; exact (InvG.id h16).mpr h
    have h1 := h0.tnob h16 ha (fun u hu hne => by
      unfold eng
      rw [e8, if_neg (nI_ne (by omega) (by omega) (fun z => hne z.symm))])
    have h2 := h1.tins h16 ha hg hn (by rw [eng_nob (by omega)]; exact engW_none.mpr hgW)
    rw [gF_e]
    exact Inv.tgF' h2 h16 ha (nob_8 _ _).1 t
  · exact h
theorem InvG.trl {N A a v n : Nat} {S : St} (h : InvG N A S v a none) (h16 : N ≤ 16) (ha : a < N) (hv : v < N) (he : eng S a v = some (nI n)) (t : Int32) : Inv N A (rl t a v (nI n) S) := by
  have hF := h.2.2.2.2.2.1 a (by omega)
  unfold rl
  split
  · rename_i c
    obtain ⟨g, hg, e8, hgW, _⟩ := hF.2.2.resolve_left (fun z => m1_ne (show v < 16 by omega) (z.1.symm.trans c.1))
    have egv : g = v := (nI_eq (by omega) (by omega)).mp (e8.symm.trans c.1)
    subst egv
    have h1 := h.tnob h16 ha (fun u hu hne => by
      unfold eng
      rw [e8, if_neg (nI_ne (by omega) (by omega) (fun z => hne z.symm))])
    have h2 : Inv N A (nob a S) := by
      have e : eng (nob a S) a g = none := by rw [eng_nob (by omega)]; exact engW_none.mpr hgW
      rw [← e] at h1
      exact (InvG.id h16).mp h1
    rw [gF_e]
    exact Inv.tgF' h2 h16 ha (nob_8 _ _).1 t
  · rename_i c
    have h8 : ¬ xR S 8 a = nI v := by
      intro z
      unfold eng at he
      rw [if_pos z] at he
      exact c ⟨z, Option.some.inj he⟩
    have hW : engW (xW S a) v = some (nI n) := by
      unfold eng at he
      rwa [if_neg h8] at he
    have eW : xW (uW S a (gone v (nI n) (xW S a))) a = gone v (nI n) (xW S a) := by rw [xW_uW, if_pos rfl]
    have q : Arb a S (uW S a (gone v (nI n) (xW S a))) := ⟨rfl, fun b hb => by rw [xW_uW, if_neg hb], fun _ _ _ _ => rfl⟩
    rw [← Inv.a (a := a) h16]
    refine q.inv (v0 := v) (e0 := none) h16 ha h ⟨by rw [eW]; exact hF.1.sub gone_sub, ?_⟩ (h.1 a (by omega)).2.2.2 (fun u hu => ?_)
    · rcases hF.2.2 with z | ⟨g, z1, z2, z3, z4⟩
      · exact Or.inl z
      · refine Or.inr ⟨g, z1, z2, ?_, z4⟩
        rw [eW]
        intro m
        exact z3 ((gone_sub.map _).subset m)
    · rw [oe_n (by omega)]
      by_cases c2 : u = v
      · subst c2
        rw [oe_y]
        unfold eng
        rw [eW, engW_gone hF.1.2.1 hW, xR_uW, if_neg h8, if_pos rfl]
      · rw [oe_n c2]
        unfold eng
        rw [eW, engW_gone hF.1.2.1 hW, xR_uW, if_neg c2]
/-! ===== the asker's steps keep it ===== -/
def Asr (v : Nat) (S S' : St) : Prop := xW S' = xW S ∧ ∀ k i, (i ≠ v ∨ k = 1 ∨ k = 2 ∨ k = 3 ∨ 7 ≤ k) → k < 11 → k ≠ 6 → xR S' k i = xR S k i
theorem Asr.inv {N A v : Nat} {S S' : St} (q : Asr v S S') (h16 : N ≤ 16) (hv : v < N) (h : Inv N A S) (hL : xL S' = xL S) (hA : xR S' 0 v = 1 ∨ xR S' 0 v = 2) (ho : xR S 0 v = 1) (hC : xR S' 0 v = 1 → ∀ i, i < 32 → (bt (xR S' 4 v) i = true → bt (xR S 3 v) i = true) ∧ (bt (xR S' 5 v) i = true → bt (xR S 3 v) i = true)) : Inv N A S' := by
  obtain ⟨qW, qR⟩ := q
  obtain ⟨ja, jb, jc, jd, je, jf, jg, jh⟩ := h
  have r : ∀ k, (k = 1 ∨ k = 2 ∨ k = 3 ∨ k = 7 ∨ k = 8 ∨ k = 9 ∨ k = 10) → xR S' k = xR S k := fun k hk => funext fun i => qR k i (by omega) (by omega) (by omega)
  have r1 := r 1 (by omega); have r2 := r 2 (by omega); have r3 := r 3 (by omega); have r7 := r 7 (by omega); have r8 := r 8 (by omega); have r9 := r 9 (by omega); have r10 := r 10 (by omega)
  have n1 : ¬ xR S 0 v = 0 := by rw [ho]; exact ne10
  have n1' : ¬ xR S' 0 v = 0 := by rcases hA with z | z <;> rw [z] <;> decide
  have ro : ∀ u b, opn S' u b = opn S u b := fun u b => by
    unfold opn
    rw [r3, r2]
    by_cases c : u = v
    · subst c
      by_cases d : bt (xR S 3 u) b = true
      · rw [if_pos ⟨n1', d⟩, if_pos ⟨n1, d⟩]
      · rw [if_neg (fun z => d z.2), if_neg (fun z => d z.2)]
    · rw [qR 0 u (Or.inl c) (by decide) (by decide)]
  have re : ∀ u b, oe S' 99 99 none u b = oe S 99 99 none u b := fun u b => by unfold oe eng; rw [r8, r9, qW]
  have rz : ∀ {u b s}, Zok S u b s → Zok S' u b s := fun {u b s} z => z.cg (by rw [r2]) (fun q1 => by
    by_cases c : u = v
    · subst c; exact ⟨ho, fun d => by rw [r3]; exact d⟩
    · rw [qR 0 u (Or.inl c) (by decide) (by decide)] at q1
      exact ⟨q1, fun d => by rw [r3]; exact d⟩)
  refine ⟨?_, ?_, ?_, ?_, ?_, ?_, ?_, ?_⟩
  · intro u hu
    rw [r7, r10]
    obtain ⟨x1, x2, x3, x4⟩ := ja u hu
    by_cases c : u = v
    · subst c
      exact ⟨Or.inr hA, fun z => absurd hv (by omega), x3, x4⟩
    · rw [qR 0 u (Or.inl c) (by decide) (by decide)]; exact ⟨x1, x2, x3, x4⟩
  · unfold IB; rw [r3]; exact jb
  · intro u hu h1 i hi
    rw [r3]
    by_cases c : u = v
    · subst c; exact hC h1 i hi
    · rw [qR 0 u (Or.inl c) (by decide) (by decide)] at h1
      rw [qR 4 u (Or.inl c) (by decide) (by decide), qR 5 u (Or.inl c) (by decide) (by decide)]
      exact jc u hu h1 i hi
  · unfold ID; rw [r1, r2]; exact jd
  · unfold IE; rw [hL]; exact je
  · unfold IF; rw [qW, r8, r9, r10]; exact jf
  · intro u hu b hb
    rw [re, ro, hL]; exact jg u hu b hb
  · intro u hu b hb
    rw [hL]
    obtain ⟨j1, j2, j3⟩ := jh u hu b hb
    exact ⟨fun s z => rz (j1 s (by rw [← re]; exact z)), fun x q1 q2 => rz (j2 x q1 q2), fun x q1 q2 => rz (j3 x q1 q2)⟩
theorem en0_R {t : Int32} {N v : Nat} {S : St} {k i : Nat} (hk : k < 11) : xR (en0 t N v S) k i = if k = 0 ∧ i = v then 2 else if k = 5 ∧ i = v then 0 else xR S k i := by
  have n15 : ∀ {S : St} {j : Nat} {x : Int32}, xR (uR S 15 j x) k i = xR S k i := fun {S j x} => by rw [xR_uR, if_neg (by omega)]
  have n12 : ∀ {S : St} {j : Nat} {x : Int32}, xR (uR S 12 j x) k i = xR S k i := fun {S j x} => by rw [xR_uR, if_neg (by omega)]
  have ni : ∀ (c : Prop) [Decidable c] (A B : St), xR (if c then A else B) k i = if c then xR A k i else xR B k i := fun c _ A B => by split <;> rfl
  unfold en0
  simp only []
  rw [xR_uE, n15, ni, n15, ite_self, ni, n15, ite_self, ni, n15, ite_self, n12, n15, xR_uR, xR_uR]
  by_cases c5 : k = 5 ∧ i = v
  · rw [if_pos c5, if_neg (by omega), if_pos c5]
  · rw [if_neg c5]
    by_cases c0 : k = 0 ∧ i = v
    · rw [if_pos c0, if_pos c0]
    · rw [if_neg c0, if_neg c0, if_neg c5]
theorem en0_WL {t : Int32} {N v : Nat} {S : St} : xW (en0 t N v S) = xW S ∧ xL (en0 t N v S) = xL S := by
  have nW : ∀ (c : Prop) [Decidable c] (A B : St), xW (if c then A else B) = if c then xW A else xW B := fun c _ A B => by split <;> rfl
  have nL : ∀ (c : Prop) [Decidable c] (A B : St), xL (if c then A else B) = if c then xL A else xL B := fun c _ A B => by split <;> rfl
  unfold en0
  simp only []
  constructor
  · simp only [xW_uE, xW_uR, nW, ite_self]
  · simp only [xL_uE, xL_uR, nL, ite_self]
theorem en_R {t : Int32} {N v : Nat} {S : St} {k i : Nat} (hk : k < 11) : xR (en t N v S) k i = if k = 0 ∧ i = v then 2 else if k = 5 ∧ i = v then 0 else xR S k i := by
  unfold en
  rw [xR_uR, if_neg (by omega)]
  exact en0_R hk
theorem en_WL {t : Int32} {N v : Nat} {S : St} : xW (en t N v S) = xW S ∧ xL (en t N v S) = xL S := ⟨(en0_WL (t := t)).1, (en0_WL (t := t)).2⟩
theorem Inv.ten {N A v : Nat} {S : St} (h : Inv N A S) (h16 : N ≤ 16) (hv : v < N) (h1 : xR S 0 v = 1) (t : Int32) : Inv N A (en t N v S) := by
  refine Asr.inv (v := v) (S := S) ⟨en_WL.1, fun k i hk hk2 _ => ?_⟩ h16 hv h en_WL.2 (Or.inr ?_) h1 (fun z => ?_)
  · rw [en_R hk2, if_neg (by omega), if_neg (by omega)]
  · rw [en_R (by decide), if_pos ⟨rfl, rfl⟩]
  · rw [en_R (by decide), if_pos ⟨rfl, rfl⟩] at z
    exact absurd z (by decide)
theorem Inv.tgr {N A v a : Nat} {S : St} (h : Inv N A S) (h16 : N ≤ 16) (hv : v < N) (ha : a < N) (h1 : xR S 0 v = 1) (hb : bt (xR S 3 v) a = true) (t : Int32) : Inv N A (gr t N v a S) := by
  have hs : Inv N A (uR (uR (uR S 4 v (bon (xR S 4 v) a)) 5 v (bof (xR S 5 v) a)) 6 v (bof (xR S 6 v) a)) := by
    refine Asr.inv (v := v) (S := S) ⟨rfl, fun k i hk hk2 hk3 => ?_⟩ h16 hv h rfl (Or.inl ?_) h1 (fun _ i hi => ⟨fun z => ?_, fun z => ?_⟩)
    · rw [xR_uR, if_neg (by omega), xR_uR, if_neg (by omega), xR_uR, if_neg (by omega)]
    · simpa [xR_uR] using h1
    · have e : xR (uR (uR (uR S 4 v (bon (xR S 4 v) a)) 5 v (bof (xR S 5 v) a)) 6 v (bof (xR S 6 v) a)) 4 v = bon (xR S 4 v) a := by simp [xR_uR]
      rw [e, bt_on _ (by omega) hi] at z
      rcases Bool.or_eq_true _ _ |>.mp z with z | z
      · exact (h.2.2.1 v (by omega) h1 i hi).1 z
      · rw [of_decide_eq_true z]; exact hb
    · have e : xR (uR (uR (uR S 4 v (bon (xR S 4 v) a)) 5 v (bof (xR S 5 v) a)) 6 v (bof (xR S 6 v) a)) 5 v = bof (xR S 5 v) a := by simp [xR_uR]
      rw [e, bt_off _ (by omega) hi] at z
      exact (h.2.2.1 v (by omega) h1 i hi).2 (Bool.and_eq_true _ _ |>.mp z).1
  unfold gr
  simp only []
  split
  · exact hs.ten h16 hv (by simpa [xR_uR] using h1) t
  · exact hs
theorem stampA {N A v : Nat} {S : St} (h : Inv N A S) (hv : v < 16) : ∃ n, n ≤ A ∧ xR S 2 v = nI n := by
  obtain ⟨c, m, h1, h2, _, h4⟩ := h.2.2.2.1 v hv
  exact ⟨m, by omega, h4⟩
theorem Inv.tyT {N A v a : Nat} {S : St} (h : Inv N A S) (h16 : N ≤ 16) (hv : v < N) (ha : a < N) (h1 : xR S 0 v = 1) (t : Int32) : Inv N A (yT t v a S) := by
  have hs := InvG.tsn h h16 (t := t) (k := 4) (f := v) (g := a) (by decide) hv ha (stampA (v := v) h (by omega)) (fun z => absurd z (by decide))
  have e1 : xR (sn t 4 v a (xR S 2 v) S) 0 v = 1 := by rw [sn_R _ _ _ _ _ _ (by decide)]; exact h1
  unfold yT
  simp only []
  refine Asr.inv (v := v) (S := sn t 4 v a (xR S 2 v) S) ⟨rfl, fun k i hk hk2 hk3 => ?_⟩ h16 hv hs rfl (Or.inl ?_) e1 (fun _ i hi => ⟨fun z => ?_, fun z => ?_⟩)
  · rw [xR_uR, if_neg (by omega), xR_uR, if_neg (by omega)]
  · rw [xR_uR, if_neg (by omega), xR_uR, if_neg (by omega)]; exact e1
  · rw [xR_uR, if_neg (by omega), xR_uR, if_pos ⟨rfl, rfl⟩, bt_off _ (by omega) hi] at z
    rw [sn_R _ _ _ _ _ _ (by decide)]
    exact (h.2.2.1 v (by omega) h1 i hi).1 (Bool.and_eq_true _ _ |>.mp z).1
  · rw [xR_uR, if_neg (by omega), xR_uR, if_neg (by omega), sn_R _ _ _ _ _ _ (by decide)] at z
    rw [sn_R _ _ _ _ _ _ (by decide)]
    exact (h.2.2.1 v (by omega) h1 i hi).2 z
theorem yT_R0 (t : Int32) (v a : Nat) (S : St) (i : Nat) : xR (yT t v a S) 0 i = xR S 0 i := by
  unfold yT
  simp only []
  rw [xR_uR, if_neg (by omega), xR_uR, if_neg (by omega), sn_R _ _ _ _ _ _ (by decide)]
theorem Inv.tfdl {N A v : Nat} (h16 : N ≤ 16) (hv : v < N) (t : Int32) (db : Int32) : ∀ (ws : List Nat) (S : St), Inv N A S → xR S 0 v = 1 → (∀ w, w ∈ ws → w < N) → Inv N A (fdl t v db ws S) ∧ xR (fdl t v db ws S) 0 v = 1 := by
  intro ws
  induction ws with
  | nil => intro S h h1 _; exact ⟨h, h1⟩
  | cons w ws ih =>
    intro S h h1 hw
    unfold fdl
    rw [List.foldl_cons]
    have := ih (if bt db w then yT t v w S else S) (by
      split
      · exact h.tyT h16 hv (hw w (by simp)) h1 t
      · exact h) (by
      split
      · rw [yT_R0]; exact h1
      · exact h1) (fun x hx => hw x (by simp [hx]))
    unfold fdl at this
    exact this
theorem Inv.tfd {N A v a : Nat} {S : St} (h : Inv N A S) (h16 : N ≤ 16) (hv : v < N) (h1 : xR S 0 v = 1) (t : Int32) : Inv N A (fd t N v a S) := by
  have h0 : Inv N A (uR S 6 v (bon (xR S 6 v) a)) := InvG.reg h ⟨rfl, fun k _ hk i => by rw [xR_uR, if_neg (fun z => hk z.1)]⟩ rfl
  obtain ⟨h2, h3⟩ := Inv.tfdl h16 hv t (xR S 5 v) (List.range N) _ h0 (by rw [xR_uR, if_neg (by omega)]; exact h1) (fun w hw => List.mem_range.mp hw)
  unfold fd
  refine Asr.inv (v := v) (S := fdl t v (xR S 5 v) (List.range N) (uR S 6 v (bon (xR S 6 v) a))) ⟨rfl, fun k i hk hk2 hk3 => ?_⟩ h16 hv h2 rfl (Or.inl ?_) h3 (fun _ i hi => ⟨fun z => ?_, fun z => ?_⟩)
  · rw [xR_uR, if_neg (by omega)]
  · rw [xR_uR, if_neg (by omega)]; exact h3
  · rw [xR_uR, if_neg (by omega)] at z
    exact (h2.2.2.1 v (by omega) h3 i hi).1 z
  · rw [xR_uR, if_pos ⟨rfl, rfl⟩, b_0] at z
    exact absurd z (by decide)
theorem Inv.tiq {N A v a : Nat} {S : St} (h : Inv N A S) (h16 : N ≤ 16) (hv : v < N) (ha : a < N) (h1 : xR S 0 v = 1) (t : Int32) : Inv N A (iq t v a S) := by
  unfold iq
  split
  · rename_i hb
    split
    · refine Asr.inv (v := v) (S := S) ⟨rfl, fun k i hk hk2 hk3 => ?_⟩ h16 hv h rfl (Or.inl ?_) h1 (fun _ i hi => ⟨fun z => ?_, fun z => ?_⟩)
      · rw [xR_uR, if_neg (by omega)]
      · rw [xR_uR, if_neg (by omega)]; exact h1
      · rw [xR_uR, if_neg (by omega)] at z
        exact (h.2.2.1 v (by omega) h1 i hi).1 z
      · rw [xR_uR, if_pos ⟨rfl, rfl⟩, bt_on _ (by omega) hi] at z
        rcases Bool.or_eq_true _ _ |>.mp z with z | z
        · exact (h.2.2.1 v (by omega) h1 i hi).2 z
        · rw [of_decide_eq_true z]
          exact (h.2.2.1 v (by omega) h1 a (by omega)).1 hb
    · exact h.tyT h16 hv ha h1 t
  · exact h
theorem sAl_L {t : Int32} {k f : Nat} (hf : f < 16) (set s : Int32) : ∀ (d i : Nat) (S : St) (l : Nat), l < 256 → i + d ≤ 16 → xL (sAl t k f set s (List.range' i d) S) l = if l / 16 = f ∧ i ≤ l % 16 ∧ l % 16 < i + d ∧ bt set (l % 16) = true then xL S l ++ [(nI k, s, t)] else xL S l := by
  intro d
  induction d with
  | zero =>
    intro i S l hl hi
    rw [if_neg (by omega)]; rfl
  | succ d ih =>
    intro i S l hl hi
    unfold sAl
    rw [List.range'_succ, List.foldl_cons]
    have := ih (i + 1) (if bt set i then sn t k f i s S else S) l hl (by omega)
    unfold sAl at this
    rw [this]
    have e1 : xL (if bt set i then sn t k f i s S else S) l = if l = 16 * f + i ∧ bt set i = true then xL S l ++ [(nI k, s, t)] else xL S l := by
      by_cases c : bt set i = true
      · rw [if_pos c, sn_L]
        by_cases c2 : l = 16 * f + i
        · rw [if_pos c2, if_pos ⟨c2, c⟩, c2]
        · rw [if_neg c2, if_neg (fun z => c2 z.1)]
      · rw [if_neg c, if_neg (fun z => c z.2)]
    rw [e1]
    by_cases c : l = 16 * f + i ∧ bt set i = true
    · have q1 : l % 16 = i := by omega
      have q2 : l / 16 = f := by omega
      rw [if_pos c, if_neg (by omega), if_pos ⟨q2, by omega, by omega, by rw [q1]; exact c.2⟩]
    · rw [if_neg c]
      by_cases c2 : l / 16 = f ∧ i + 1 ≤ l % 16 ∧ l % 16 < i + 1 + d ∧ bt set (l % 16) = true
      · rw [if_pos c2, if_pos ⟨c2.1, by omega, by omega, c2.2.2.2⟩]
      · rw [if_neg c2, if_neg]
        rintro ⟨z1, z2, z3, z4⟩
        by_cases c3 : l % 16 = i
        · exact c ⟨by omega, by rw [← c3]; exact z4⟩
        · exact c2 ⟨z1, by omega, by omega, z4⟩
theorem sA_L {t : Int32} {N k f : Nat} (h16 : N ≤ 16) (hf : f < 16) (set s : Int32) (S : St) {l : Nat} (hl : l < 256) : xL (sA t N k f set s S) l = if l / 16 = f ∧ l % 16 < N ∧ bt set (l % 16) = true then xL S l ++ [(nI k, s, t)] else xL S l := by
  unfold sA
  rw [List.range_eq_range', sAl_L hf set s N 0 S l hl (by omega)]
  by_cases c : l / 16 = f ∧ l % 16 < N ∧ bt set (l % 16) = true
  · rw [if_pos c, if_pos ⟨c.1, by omega, by omega, c.2.2⟩]
  · rw [if_neg c, if_neg (fun z => c ⟨z.1, by omega, z.2.2.2⟩)]
theorem sAl_W (t : Int32) (k f : Nat) (set s : Int32) : ∀ (ws : List Nat) (S : St), xW (sAl t k f set s ws S) = xW S := by
  intro ws
  induction ws with
  | nil => intro S; rfl
  | cons w ws ih =>
    intro S
    unfold sAl
    rw [List.foldl_cons]
    have := ih (if bt set w then sn t k f w s S else S)
    unfold sAl at this
    rw [this]
    split <;> rfl
theorem sA_R {t : Int32} {N k f : Nat} {set s : Int32} {S : St} {a b : Nat} (h : a ≠ 16) : xR (sA t N k f set s S) a b = xR S a b := sAl_R t k f set s h _ S
theorem sA_W {t : Int32} {N k f : Nat} {set s : Int32} {S : St} : xW (sA t N k f set s S) = xW S := sAl_W t k f set s _ S
theorem rst_R {v : Nat} {S : St} {k i : Nat} : xR (rst v S) k i = if i = v ∧ (k = 0 ∨ (3 ≤ k ∧ k ≤ 6)) then 0 else xR S k i := by
  unfold rst
  simp only [xR_uR]
  by_cases c : i = v ∧ (k = 0 ∨ (3 ≤ k ∧ k ≤ 6))
  · rw [if_pos c]
    obtain ⟨c1, c2⟩ := c
    rcases (show k = 0 ∨ k = 3 ∨ k = 4 ∨ k = 5 ∨ k = 6 by omega) with rfl | rfl | rfl | rfl | rfl <;> simp [c1]
  · rw [if_neg c, if_neg (by omega), if_neg (by omega), if_neg (by omega), if_neg (by omega), if_neg (by omega)]
theorem Inv.tlv {N A v : Nat} {S : St} (h : Inv N A S) (h16 : N ≤ 16) (hv : v < N) (h1 : xR S 0 v ≠ 0) (t : Int32) : Inv N A (lv t N v S) := by
  have st := stampA h (show v < 16 by omega)
  obtain ⟨ja, jb, jc, jd, je, jf, jg, jh⟩ := h
  have eR : ∀ k i, k ≠ 16 → xR (lv t N v S) k i = if i = v ∧ (k = 0 ∨ (3 ≤ k ∧ k ≤ 6)) then 0 else xR S k i := fun k i hk => by
    unfold lv; rw [sA_R hk, rst_R]
  have r : ∀ k, (k = 1 ∨ k = 2 ∨ k = 7 ∨ k = 8 ∨ k = 9 ∨ k = 10) → xR (lv t N v S) k = xR S k := fun k hk => funext fun i => by rw [eR k i (by omega), if_neg (by omega)]
  have r1 := r 1 (by omega); have r2 := r 2 (by omega); have r7 := r 7 (by omega); have r8 := r 8 (by omega); have r9 := r 9 (by omega); have r10 := r 10 (by omega)
  have eW : xW (lv t N v S) = xW S := by unfold lv; rw [sA_W]; rfl
  have eL : ∀ l, l < 256 → xL (lv t N v S) l = if l / 16 = v ∧ l % 16 < N ∧ bt (xR S 3 v) (l % 16) = true then xL S l ++ [(nI 5, xR S 2 v, t)] else xL S l := fun l hl => by
    unfold lv; rw [sA_L h16 (by omega) _ _ _ hl]; rfl
  have e0 : xR (lv t N v S) 0 v = 0 := by rw [eR 0 v (by decide), if_pos ⟨rfl, Or.inl rfl⟩]
  have e0' : ∀ u, u ≠ v → ∀ k, k ≠ 16 → xR (lv t N v S) k u = xR S k u := fun u hu k hk => by rw [eR k u hk, if_neg (fun z => hu z.1)]
  have re : ∀ u b, oe (lv t N v S) 99 99 none u b = oe S 99 99 none u b := fun u b => by unfold oe eng; rw [r8, r9, eW]
  have rz : ∀ {u b s}, Zok S u b s → Zok (lv t N v S) u b s := fun {u b s} z => z.cg (by rw [r2]) (fun q1 => by
    by_cases c : u = v
    · subst c; rw [e0] at q1; exact absurd q1 ne01
    · rw [e0' u c 0 (by decide)] at q1
      exact ⟨q1, fun d => by rw [e0' u c 3 (by decide)]; exact d⟩)
  refine ⟨?_, ?_, ?_, ?_, ?_, ?_, ?_, ?_⟩
  · intro u hu
    rw [r7, r10]
    obtain ⟨x1, x2, x3, x4⟩ := ja u hu
    by_cases c : u = v
    · subst c; exact ⟨Or.inl e0, fun _ => e0, x3, x4⟩
    · rw [e0' u c 0 (by decide)]; exact ⟨x1, x2, x3, x4⟩
  · intro u hu i hi hi2
    by_cases c : u = v
    · subst c; rw [eR 3 u (by decide), if_pos ⟨rfl, Or.inr (by omega)⟩, b_0]
    · rw [e0' u c 3 (by decide)]; exact jb u hu i hi hi2
  · intro u hu q1 i hi
    by_cases c : u = v
    · subst c; rw [e0] at q1; exact absurd q1 ne01
    · rw [e0' u c 0 (by decide)] at q1
      rw [e0' u c 3 (by decide), e0' u c 4 (by decide), e0' u c 5 (by decide)]
      exact jc u hu q1 i hi
  · unfold ID; rw [r1, r2]; exact jd
  · intro l hl
    rw [eL l hl]
    by_cases c : l / 16 = v ∧ l % 16 < N ∧ bt (xR S 3 v) (l % 16) = true
    · rw [if_pos c]
      refine ⟨fun x hx => ?_, fun z => absurd ⟨by omega, c.2.1⟩ z⟩
      rcases List.mem_append.mp hx with hx | hx
      · exact (je l hl).1 x hx
      · rw [List.mem_singleton] at hx
        subst hx
        exact ⟨⟨5, by decide, rfl⟩, st⟩
    · rw [if_neg c]; exact je l hl
  · unfold IF; rw [eW, r8, r9, r10]; exact jf
  · intro u hu b hb
    rw [re, eL _ (by omega)]
    have i := jg u hu b hb
    by_cases c : u = v
    · subst c
      have o : opn (lv t N u S) u b = none := by unfold opn; rw [if_neg (fun z => z.1 e0)]
      rw [o, show (16 * u + b) % 16 = b by omega]
      by_cases c2 : bt (xR S 3 u) b = true
      · rw [if_pos ⟨by omega, hb, c2⟩, run_ap, i]
        unfold opn
        rw [if_pos ⟨h1, c2⟩, Option.bind_some, run_rel]
      · rw [if_neg (fun z => c2 z.2.2), i]
        unfold opn
        rw [if_neg (fun z => c2 z.2)]
    · have o : opn (lv t N v S) u b = opn S u b := by
        unfold opn; rw [e0' u c 0 (by decide), e0' u c 3 (by decide), r2]
      rw [o, if_neg (by omega)]; exact i
  · intro u hu b hb
    obtain ⟨j1, j2, j3⟩ := jh u hu b hb
    refine ⟨fun s z => rz (j1 s (by rw [← re]; exact z)), fun x q1 q2 => rz ?_, fun x q1 q2 => rz ?_⟩
    · rw [eL _ (by omega)] at q1
      split at q1
      · rcases List.mem_append.mp q1 with q1 | q1
        · exact j2 x q1 q2
        · rw [List.mem_singleton] at q1
          subst q1
          exact absurd (show nI 5 = nI 0 from q2) (by decide)
      · exact j2 x q1 q2
    · rw [eL _ (by omega)] at q1
      split at q1
      · rcases List.mem_append.mp q1 with q1 | q1
        · exact j3 x q1 q2
        · rw [List.mem_singleton] at q1
          subst q1
          exact absurd (show nI 5 = nI 1 ∨ nI 5 = nI 2 ∨ nI 5 = nI 3 from q2) (by decide)
      · exact j3 x q1 q2
/-! ===== to ask, to bring: they keep it ===== -/
theorem Wok.mo {N A A' : Nat} {l : List Wtr} (h : Wok N A l) (q : A ≤ A') : Wok N A' l :=
  ⟨h.1, h.2.1, fun w hw => ⟨(h.2.2 w hw).1, by obtain ⟨s, z1, z2⟩ := (h.2.2 w hw).2; exact ⟨s, by omega, z2⟩⟩⟩
theorem Inv.mo {N A A' : Nat} {S : St} (h : Inv N A S) (q : A ≤ A') : Inv N A' S := by
  obtain ⟨ja, jb, jc, jd, je, jf, jg, jh⟩ := h
  refine ⟨ja, jb, jc, ?_, ?_, ?_, jg, jh⟩
  · intro v hv
    obtain ⟨c, m, z1, z2, z3⟩ := jd v hv
    exact ⟨c, m, by omega, z2, z3⟩
  · intro l hl
    refine ⟨fun x hx => ?_, (je l hl).2⟩
    obtain ⟨z1, s, z2, z3⟩ := (je l hl).1 x hx
    exact ⟨z1, s, by omega, z3⟩
  · intro a ha
    obtain ⟨z1, z2, z3⟩ := jf a ha
    refine ⟨z1.mo q, z2, ?_⟩
    rcases z3 with z3 | ⟨g, y1, y2, y3, s, y4, y5⟩
    · exact Or.inl z3
    · exact Or.inr ⟨g, y1, y2, y3, s, by omega, y5⟩
theorem ak_R {t : Int32} {N v : Nat} {S : St} {k i : Nat} (hk : k ≠ 16) : xR (ak t N v S) k i = if i = v then (if k = 0 then 1 else if k = 1 then xR S 1 v + 1 else if k = 2 then xR S 1 v + 1 else if k = 3 then qm N S v else if k = 4 then 0 else if k = 5 then 0 else if k = 6 then 0 else if k = 13 then xR S 15 1 else if k = 14 then 0 else xR S k i) else xR S k i := by
  unfold ak
  simp only []
  rw [sA_R hk]
  simp only [xR_uR]
  by_cases c : i = v
  · subst c
    simp only [and_true, if_true]
    by_cases k14 : k = 14
    · simp [k14]
    · by_cases k13 : k = 13
      · simp [k13]
      · by_cases k0 : k = 0
        · simp [k0]
        · by_cases k6 : k = 6
          · simp [k6]
          · by_cases k5 : k = 5
            · simp [k5]
            · by_cases k4 : k = 4
              · simp [k4]
              · by_cases k3 : k = 3
                · simp [k3]
                · by_cases k2 : k = 2
                  · simp [k2]
                  · by_cases k1 : k = 1
                    · simp [k1]
                    · simp [k14, k13, k0, k6, k5, k4, k3, k2, k1]
  · simp [c]
theorem ak_L {t : Int32} {N v : Nat} {S : St} (h16 : N ≤ 16) (hv : v < 16) {l : Nat} (hl : l < 256) : xL (ak t N v S) l = if l / 16 = v ∧ l % 16 < N ∧ bt (qm N S v) (l % 16) = true then xL S l ++ [(nI 0, xR S 1 v + 1, t)] else xL S l := by
  unfold ak
  simp only []
  rw [sA_L h16 hv _ _ _ hl]
  rfl
theorem ak_W {t : Int32} {N v : Nat} {S : St} : xW (ak t N v S) = xW S := by
  unfold ak
  simp only []
  rw [sA_W]; rfl
theorem Inv.tak {N A v : Nat} {S : St} (h : Inv N A S) (h16 : N ≤ 16) (hv : v < N) (h0 : xR S 0 v = 0) (hA : A + 1 < 1048576) (hQ : ∀ i, N ≤ i → i < 32 → bt (qm N S v) i = false) (t : Int32) : Inv N (A + 1) (ak t N v S) := by
  obtain ⟨c, m, hc, hm, e1, e2⟩ := h.2.2.2.1 v (by omega)
  obtain ⟨ja, jb, jc, jd, je, jf, jg, jh⟩ := h.mo (Nat.le_succ A)
  have eR : ∀ k i, k ≠ 16 → i ≠ v → xR (ak t N v S) k i = xR S k i := fun k i hk hi => by rw [ak_R hk, if_neg hi]
  have r : ∀ k, (k = 7 ∨ k = 8 ∨ k = 9 ∨ k = 10) → xR (ak t N v S) k = xR S k := fun k hk => funext fun i => by
    rw [ak_R (by omega)]
    by_cases d : i = v
    · rw [if_pos d, if_neg (by omega), if_neg (by omega), if_neg (by omega), if_neg (by omega), if_neg (by omega), if_neg (by omega), if_neg (by omega), if_neg (by omega), if_neg (by omega)]
    · rw [if_neg d]
  have r7 := r 7 (by omega); have r8 := r 8 (by omega); have r9 := r 9 (by omega); have r10 := r 10 (by omega)
  have n0 : xR (ak t N v S) 0 v = 1 := by rw [ak_R (by decide), if_pos rfl]; rfl
  have n1 : xR (ak t N v S) 1 v = nI (c + 1) := by rw [ak_R (by decide), if_pos rfl, e1, nI_1]; rfl
  have n2 : xR (ak t N v S) 2 v = nI (c + 1) := by rw [ak_R (by decide), if_pos rfl, e1, nI_1]; rfl
  have n3 : xR (ak t N v S) 3 v = qm N S v := by rw [ak_R (by decide), if_pos rfl]; rfl
  have n4 : xR (ak t N v S) 4 v = 0 := by rw [ak_R (by decide), if_pos rfl]; rfl
  have n5 : xR (ak t N v S) 5 v = 0 := by rw [ak_R (by decide), if_pos rfl]; rfl
  have eL : ∀ l, l < 256 → xL (ak t N v S) l = if l / 16 = v ∧ l % 16 < N ∧ bt (qm N S v) (l % 16) = true then xL S l ++ [(nI 0, nI (c + 1), t)] else xL S l := fun l hl => by
    rw [ak_L h16 (by omega) hl, e1, nI_1]
  have re : ∀ u b, oe (ak t N v S) 99 99 none u b = oe S 99 99 none u b := fun u b => by unfold oe eng; rw [r8, r9, ak_W]
  have rz : ∀ {u b s}, Zok S u b s → Zok (ak t N v S) u b s := fun {u b s} z => by
    by_cases d : u = v
    · subst d
      obtain ⟨n, m', z1, z2, z3, z4, z5⟩ := z
      have em : m' = m := (nI_eq (by omega) (by omega)).mp (z2.symm.trans e2)
      exact ⟨n, c + 1, z1, n2, by omega, by omega, fun q => by omega⟩
    · exact z.ex (eR 2 u (by decide) d) (eR 0 u (by decide) d) (eR 3 u (by decide) d)
  refine ⟨?_, ?_, ?_, ?_, ?_, ?_, ?_, ?_⟩
  · intro u hu
    rw [r7, r10]
    obtain ⟨x1, x2, x3, x4⟩ := ja u hu
    by_cases d : u = v
    · subst d; exact ⟨Or.inr (Or.inl n0), fun z => absurd hv (by omega), x3, x4⟩
    · rw [eR 0 u (by decide) d]; exact ⟨x1, x2, x3, x4⟩
  · intro u hu i hi hi2
    by_cases d : u = v
    · subst d; rw [n3]; exact hQ i hi hi2
    · rw [eR 3 u (by decide) d]; exact jb u hu i hi hi2
  · intro u hu q1 i hi
    by_cases d : u = v
    · subst d
      rw [n4, n5, b_0]
      exact ⟨fun z => absurd z (by decide), fun z => absurd z (by decide)⟩
    · rw [eR 0 u (by decide) d] at q1
      rw [eR 3 u (by decide) d, eR 4 u (by decide) d, eR 5 u (by decide) d]
      exact jc u hu q1 i hi
  · intro u hu
    by_cases d : u = v
    · subst d; exact ⟨c + 1, c + 1, by omega, Nat.le_refl _, n1, n2⟩
    · rw [eR 1 u (by decide) d, eR 2 u (by decide) d]; exact jd u hu
  · intro l hl
    rw [eL l hl]
    by_cases d : l / 16 = v ∧ l % 16 < N ∧ bt (qm N S v) (l % 16) = true
    · rw [if_pos d]
      refine ⟨fun x hx => ?_, fun z => absurd ⟨by omega, d.2.1⟩ z⟩
      rcases List.mem_append.mp hx with hx | hx
      · exact (je l hl).1 x hx
      · rw [List.mem_singleton] at hx
        subst hx
        exact ⟨⟨0, by decide, rfl⟩, c + 1, by omega, rfl⟩
    · rw [if_neg d]; exact je l hl
  · unfold IF; rw [ak_W, r8, r9, r10]; exact jf
  · intro u hu b hb
    rw [re, eL _ (by omega)]
    have i := jg u hu b hb
    by_cases d : u = v
    · subst d
      have o : opn S u b = none := by unfold opn; rw [if_neg (fun z => z.1 h0)]
      rw [o] at i
      rw [show (16 * u + b) % 16 = b by omega]
      by_cases c2 : bt (qm N S u) b = true
      · have o2 : opn (ak t N u S) u b = some (nI (c + 1)) := by unfold opn; rw [n0, n3, n2, if_pos ⟨ne10, c2⟩]
        rw [if_pos ⟨by omega, hb, c2⟩, run_ap, i, Option.bind_some, run_req, o2]
      · have o2 : opn (ak t N u S) u b = none := by unfold opn; rw [n3, if_neg (fun z => c2 z.2)]
        rw [if_neg (fun z => c2 z.2.2), i, o2]
    · have o : opn (ak t N v S) u b = opn S u b := by
        unfold opn; rw [eR 0 u (by decide) d, eR 3 u (by decide) d, eR 2 u (by decide) d]
      rw [o, if_neg (by omega)]; exact i
  · intro u hu b hb
    obtain ⟨j1, j2, j3⟩ := jh u hu b hb
    refine ⟨fun s z => rz (j1 s (by rw [← re]; exact z)), fun x q1 q2 => ?_, fun x q1 q2 => ?_⟩
    · rw [eL _ (by omega)] at q1
      by_cases d : (16 * u + b) / 16 = v ∧ (16 * u + b) % 16 < N ∧ bt (qm N S v) ((16 * u + b) % 16) = true
      · rw [if_pos d] at q1
        rcases List.mem_append.mp q1 with q1 | q1
        · exact rz (j2 x q1 q2)
        · rw [List.mem_singleton] at q1
          subst q1
          have d1 : u = v := by omega
          subst d1
          exact ⟨c + 1, c + 1, rfl, n2, Nat.le_refl _, by omega, fun _ _ => by rw [n3]; have := d.2.2; rwa [show (16 * u + b) % 16 = b by omega] at this⟩
      · rw [if_neg d] at q1; exact rz (j2 x q1 q2)
    · rw [eL _ (by omega)] at q1
      split at q1
      · rcases List.mem_append.mp q1 with q1 | q1
        · exact rz (j3 x q1 q2)
        · rw [List.mem_singleton] at q1
          subst q1
          exact absurd (show nI 0 = nI 1 ∨ nI 0 = nI 2 ∨ nI 0 = nI 3 from q2) (by decide)
      · exact rz (j3 x q1 q2)
/-- a letter's stamp puts the clock on -/
theorem InvG.clk {N A : Nat} {S : St} {v0 a0 : Nat} {e0 : Option Int32} (h : InvG N A S v0 a0 e0) (h16 : N ≤ 16) (hA : A < 1048576) {g s : Nat} (hg : g < 16) (hs : s ≤ A) : InvG N A (if nI s ≤ xR S 1 g then S else uR S 1 g (nI s)) v0 a0 e0 := by
  split
  · exact h
  · rename_i c
    obtain ⟨ja, jb, jc, jd, je, jf, jg, jh⟩ := h
    have r : ∀ k, k ≠ 1 → xR (uR S 1 g (nI s)) k = xR S k := fun k hk => funext fun i => by rw [xR_uR, if_neg (fun z => hk z.1)]
    have ro : ∀ u b, opn (uR S 1 g (nI s)) u b = opn S u b := fun u b => rfl
    have re : ∀ u b, oe (uR S 1 g (nI s)) v0 a0 e0 u b = oe S v0 a0 e0 u b := fun u b => rfl
    have rz : ∀ {u b s'}, Zok S u b s' → Zok (uR S 1 g (nI s)) u b s' := fun z => z
    refine ⟨ja, jb, jc, ?_, je, jf, jg, jh⟩
    intro u hu
    obtain ⟨c', m, z1, z2, z3, z4⟩ := jd u hu
    by_cases d : u = g
    · subst d
      refine ⟨s, m, hs, ?_, by rw [xR_uR, if_pos ⟨rfl, rfl⟩], by rw [r 2 (by decide)]; exact z4⟩
      have : ¬ s ≤ c' := fun q => c (by rw [z3]; exact nI_le q (by omega))
      omega
    · exact ⟨c', m, z1, z2, by rw [xR_uR, if_neg (fun q => d q.2)]; exact z3, by rw [r 2 (by decide)]; exact z4⟩
theorem wt_S (N k f g : Nat) (s : Int32) (S : St) : Sam S (wt N k f g s S) := ⟨(wt_WL N k f g s S).1, fun k' hk _ i => wt_R (by omega) (by omega) (by omega) i⟩
theorem popE_cg {S S' : St} {f g : Nat} {x : Ltr} (h : eng S' g f = eng S g f) : popE S' f g x = popE S f g x := by
  unfold popE; rw [h]
/-- what a reading rests on -/
theorem Hok_of {N A : Nat} {S : St} {v0 a0 : Nat} {e0 : Option Int32} (h : InvG N A S v0 a0 e0) (h16 : N ≤ 16) {f g : Nat} (hg : g < N) (x : Int32) : Hok S f g x := by
  have hF := h.2.2.2.2.2.1 g (by omega)
  have hl := hF.1.len
  refine ⟨fun w hw => by have := (hF.1.2.2 w hw).1; omega, by omega, Srt_of hF.1.1, ?_⟩
  rcases hF.2.2 with z | ⟨y, z1, z2, _⟩
  · exact Or.inl z.1
  · exact Or.inr ⟨y, by omega, z2⟩
theorem clk_R {S : St} {g : Nat} {s : Int32} {k i : Nat} (hk : k ≠ 1) : xR (if s ≤ xR S 1 g then S else uR S 1 g s) k i = xR S k i := by
  split
  · rfl
  · rw [xR_uR, if_neg (fun z => hk z.1)]
theorem clk_2 {S : St} {g : Nat} {s : Int32} : (if s ≤ xR S 1 g then S else uR S 1 g s).2 = S.2 := by
  split <;> rfl
theorem Inv.tbr {N A : Nat} {S : St} (h : Inv N A S) (h16 : N ≤ 16) (hA : A < 1048576) {f g : Nat} (hf : f < N) (hg : g < N) (t : Int32) : Inv N A (br t N f g S) := by
  unfold br
  cases hx : xL S (16 * f + g) with
  | nil => exact h
  | cons x r =>
    simp only []
    obtain ⟨⟨k, hk, ek⟩, n, hn, en⟩ := (h.2.2.2.2.1 _ (show 16 * f + g < 256 by omega)).1 x (by rw [hx]; simp)
    have kk : x.1.toNatClampNeg = k := by rw [ek, nI_clamp (by omega)]
    rw [kk, en]
    obtain ⟨h1, p0, p5, pz⟩ := h.pop h16 hf hg hx
    have wl := wt_WL N k f g (nI n) (uL S (16 * f + g) r)
    have sm := wt_S N k f g (nI n) (uL S (16 * f + g) r)
    have h2 := h1.reg sm wl.2
    have h3 := h2.clk h16 hA (g := g) (s := n) (by omega) hn
    generalize hS2 : wt N k f g (nI n) (uL S (16 * f + g) r) = S2 at h2 h3 wl sm
    unfold rd
    simp only []
    have e2 : ∀ b u, eng S2 b u = eng S b u := fun b u => by
      unfold eng
      rw [sm.2 8 (by decide) (by decide), sm.2 9 (by decide) (by decide), sm.1]
      rfl
    have q2 : ∀ k, k < 11 → k ≠ 6 → ∀ i, xR S2 k i = xR S k i := fun k hk hk6 i => sm.2 k hk hk6 i
    generalize hS3 : (if nI n ≤ xR S2 1 g then S2 else uR S2 1 g (nI n)) = S3 at h3
    have r3 : ∀ k, k ≠ 1 → ∀ i, xR S3 k i = xR S2 k i := fun k hk i => by rw [← hS3]; exact clk_R hk
    have w3 : xW S3 = xW S2 := by rw [← hS3]; unfold xW; rw [clk_2]
    have e3 : ∀ b u, eng S3 b u = eng S b u := fun b u => by
      rw [← e2]
      unfold eng
      rw [r3 8 (by decide), r3 9 (by decide), w3]
    have other : ¬ k = 0 → ¬ k = 5 → Inv N A S3 := by
      intro k0 k5
      have : popE S f g x = eng S3 g f := by
        unfold popE
        rw [ek, if_neg (nI_ne (by omega) (by decide) k0), if_neg (nI_ne (by omega) (by decide) k5), e3]
      rw [this] at h3
      exact (InvG.id h16).mp h3
    by_cases k0 : k = 0
    · rw [if_pos k0]
      subst k0
      have : popE S f g x = some (nI n) := by unfold popE; rw [if_pos ek, en]
      rw [this] at h3
      exact h3.trq h16 hg hf hn (by rw [e3]; exact p0 ek) t
    · rw [if_neg k0]
      by_cases k4 : k = 4
      · rw [if_pos k4]
        exact (other k0 (by omega)).tyl h16 hg hf hn t
      · rw [if_neg k4]
        by_cases k5 : k = 5
        · rw [if_pos k5]
          subst k5
          have : popE S f g x = none := by unfold popE; rw [ek, if_neg (nI_ne (by decide) (by decide) (by decide)), if_pos rfl]
          rw [this] at h3
          exact h3.trl h16 hg hf (by rw [e3, p5 ek, en]) t
        · rw [if_neg k5]
          have h4 := other k0 k5
          split
          · rename_i c
            have z := pz (by rw [ek]; rcases (show k = 1 ∨ k = 2 ∨ k = 3 by omega) with rfl | rfl | rfl <;> simp)
            have hb : bt (xR S3 3 g) f = true := by
              obtain ⟨a, b, z1, z2, z3, z4, z5⟩ := z
              rw [r3 3 (by decide), q2 3 (by decide) (by decide)]
              have c1 := c.1
              have c2 := c.2
              rw [r3 0 (by decide), q2 0 (by decide) (by decide)] at c1
              rw [r3 2 (by decide), q2 2 (by decide) (by decide)] at c2
              refine z5 ?_ c1
              have : nI b = nI a := z2.symm.trans (c2.trans (en.symm.trans z1))
              exact ((nI_eq (by omega) (by omega)).mp this).symm
            split
            · exact h4.tgr h16 hg hf c.1 hb t
            · split
              · exact h4.tfd h16 hg c.1 t
              · exact h4.tiq h16 hg hf c.1 t
          · exact h4
/-! ===== how many letters ===== -/
theorem fl_uL_len (S : St) {l : Nat} (hl : l < 256) (r : List Ltr) : (fl (uL S l r)).length + (xL S l).length = (fl S).length + r.length := by
  have a1 := congrArg List.length (fl_split S hl)
  have a2 := congrArg List.length (fl_uL S hl r)
  simp only [List.length_append, List.length_map] at a1 a2
  omega
theorem fl_2 {S S' : St} (h : S'.2 = S.2) : fl S' = fl S := by
  apply fl_L
  unfold xL
  rw [h]
theorem gF_len {t : Int32} {a : Nat} {S : St} (ha : a < 16) (hW : ∀ w, w ∈ xW S a → w.1 < 16) : (fl (gF t a S)).length ≤ (fl S).length + 1 := by
  unfold gF
  cases hw : xW S a with
  | nil => exact Nat.le_succ _
  | cons w r =>
    simp only []
    rw [fl_sn_len (by have := hW w (by rw [hw]; simp); omega)]
    exact Nat.le_refl _
theorem en_fl {t : Int32} {N v : Nat} {S : St} : fl (en t N v S) = fl S := fl_L en_WL.2
theorem fdl_len {t : Int32} {v : Nat} (hv : v < 16) (db : Int32) : ∀ (ws : List Nat) (S : St), (∀ w, w ∈ ws → w < 16) → (fl (fdl t v db ws S)).length ≤ (fl S).length + ws.length := by
  intro ws
  induction ws with
  | nil => intro S _; exact Nat.le_refl _
  | cons w ws ih =>
    intro S hw
    have := hw w (by simp)
    unfold fdl
    rw [List.foldl_cons]
    have h2 := ih (if bt db w then yT t v w S else S) (fun w hx => hw w (by simp [hx]))
    unfold fdl at h2
    refine Nat.le_trans h2 ?_
    rw [List.length_cons]
    split
    · rw [yT_len _ (by omega)]; omega
    · omega
theorem rd_len {t : Int32} {N k f g : Nat} {s : Int32} {S : St} (h2 : 2 ≤ N) (h16 : N ≤ 16) (hf : f < 16) (hg : g < 16) (hH : Hok S f g s) : (fl (rd t N k f g s S)).length ≤ (fl S).length + N := by
  obtain ⟨hW, _, _, hG⟩ := hH
  unfold rd
  simp only []
  have c0 : fl (if s ≤ xR S 1 g then S else uR S 1 g s) = fl S := fl_2 clk_2
  have w0 : xW (if s ≤ xR S 1 g then S else uR S 1 g s) = xW S := by unfold xW; rw [clk_2]
  have r8 : xR (if s ≤ xR S 1 g then S else uR S 1 g s) 8 g = xR S 8 g := clk_R (by decide)
  generalize (if s ≤ xR S 1 g then S else uR S 1 g s) = S1 at c0 w0 r8
  have hW1 : ∀ w, w ∈ xW S1 g → w.1 < 16 := by rw [w0]; exact hW
  have hWi : ∀ w, w ∈ xW (uW S1 g (ins f s (xW S1 g))) g → w.1 < 16 := by
    intro w hw
    rw [xW_uW, if_pos rfl] at hw
    rcases ins_mem hw with rfl | hw
    · exact hf
    · exact hW1 w hw
  rw [← c0]
  have fW : ∀ l, fl (uW S1 g l) = fl S1 := fun _ => rfl
  split
  · unfold rq
    split
    · have := gF_len (t := t) hg hWi
      rw [fW] at this; omega
    · split
      · have hr2 : (fl (rq2 t g (xW S1 g) (uW S1 g (ins f s (xW S1 g))))).length ≤ (fl S1).length + 1 := by
          unfold rq2
          cases hc : xW S1 g with
          | nil => rw [fW]; exact Nat.le_succ _
          | cons y ys =>
            simp only []
            split
            · rw [fl_sn_len (by have := hW1 y (by rw [hc]; simp); omega), fW]; exact Nat.le_refl _
            · rw [fW]; exact Nat.le_succ _
        unfold rq3
        split
        · omega
        · have hgn : gn (rq2 t g (xW S1 g) (uW S1 g (ins f s (xW S1 g)))) g < 16 := by
            unfold gn
            rw [rq2_R (by decide), xR_uW, r8]
            rcases hG with z | ⟨y, hy, z⟩
            · rw [z]; decide
            · rw [z, nI_clamp (by omega)]; exact hy
          rw [fl_sn_len (by omega)]
          have : fl (uR (rq2 t g (xW S1 g) (uW S1 g (ins f s (xW S1 g)))) 10 g 1) = fl (rq2 t g (xW S1 g) (uW S1 g (ins f s (xW S1 g)))) := rfl
          rw [this]; omega
      · rw [fl_sn_len (by omega), fW]; omega
  · split
    · unfold yl
      split
      · have := gF_len (t := t) hg hWi
        rw [fW] at this; omega
      · omega
    · split
      · unfold rl
        split
        · have := gF_len (t := t) hg hW1
          omega
        · rw [fW]; omega
      · split
        · split
          · unfold gr
            simp only []
            split
            · rw [en_fl]; exact Nat.le_add_right _ _
            · exact Nat.le_add_right _ _
          · split
            · unfold fd
              have := fdl_len (t := t) hg (xR S1 5 g) (List.range N) (uR S1 6 g (bon (xR S1 6 g) f)) (fun w hw => by have := List.mem_range.mp hw; omega)
              rw [List.length_range] at this
              exact this
            · unfold iq
              split
              · split
                · exact Nat.le_add_right _ _
                · rw [yT_len _ (by omega)]; omega
              · omega
        · omega
theorem br_len {N A : Nat} {S : St} (h : Inv N A S) (h2 : 2 ≤ N) (h16 : N ≤ 16) {f g : Nat} (hf : f < N) (hg : g < N) (t : Int32) : (fl (br t N f g S)).length ≤ (fl S).length + N := by
  unfold br
  cases hx : xL S (16 * f + g) with
  | nil => exact Nat.le_add_right _ _
  | cons x r =>
    simp only []
    obtain ⟨h1, _, _, _⟩ := h.pop h16 hf hg hx
    have wl := wt_WL N x.1.toNatClampNeg f g x.2.1 (uL S (16 * f + g) r)
    have sm := wt_S N x.1.toNatClampNeg f g x.2.1 (uL S (16 * f + g) r)
    have h2' := h1.reg sm wl.2
    have a := rd_len (t := t) (k := x.1.toNatClampNeg) h2 h16 (show f < 16 by omega) (show g < 16 by omega) (Hok_of h2' h16 (f := f) hg x.2.1)
    have b := fl_uL_len S (show 16 * f + g < 256 by omega) r
    rw [fl_L wl.2] at a
    rw [hx, List.length_cons] at b
    omega
theorem lv_len {N v : Nat} {S : St} (h16 : N ≤ 16) (hv : v < 16) (t : Int32) : (fl (lv t N v S)).length ≤ (fl S).length + N := by
  have := sAl_len t (k := 5) hv (xR S 3 v) (xR S 2 v) (List.range N) (rst v S) (fun w hw => by have := List.mem_range.mp hw; omega)
  rw [List.length_range] at this
  exact this
theorem ak_len {N v : Nat} {S : St} (h16 : N ≤ 16) (hv : v < 16) (t : Int32) : (fl (ak t N v S)).length ≤ (fl S).length + N := by
  unfold ak
  simp only []
  have := sAl_len t (k := 0) hv (qm N S v) (xR S 1 v + 1) (List.range N) (uR (uR (uR (uR (uR (uR (uR (uR (uR S 1 v (xR S 1 v + 1)) 2 v (xR S 1 v + 1)) 3 v (qm N S v)) 4 v 0) 5 v 0) 6 v 0) 0 v 1) 13 v (xR S 15 1)) 14 v 0) (fun w hw => by have := List.mem_range.mp hw; omega)
  rw [List.length_range] at this
  exact this
/-! ===== a move of the reference, by a draw ===== -/
/-- a move's number: a lane; 256 + one that leaves; 272 + one that asks -/
def mvl (N : Nat) (S : St) (ask : Int32) (sn : Nat → Int32) : List Nat := lanes S ++ (inss N S).map (fun v => 256 + v) ++ (asks' 0 N N S ask sn).map (fun v => 272 + v)
def ci (c : Nat) : Int32 := if c < 256 then nI c else if c < 272 then lvc (c - 256) else akc (c - 272)
def dm (t : Int32) (N c : Nat) (S : St) : St := if c < 256 then br t N (c / 16) (c % 16) S else if c < 272 then lv t N (c - 256) S else ak t N (c - 272) S
theorem lanes_in {S : St} {l : Nat} (h : l ∈ lanes S) : l < 256 ∧ xL S l ≠ [] := by
  unfold lanes at h
  have := List.mem_filter.mp h
  refine ⟨List.mem_range.mp this.1, fun e => ?_⟩
  rw [e] at this
  exact absurd this.2 (by simp)
theorem inss_in {N : Nat} {S : St} {v : Nat} (h : v ∈ inss N S) : v < N ∧ xR S 0 v = 2 := by
  unfold inss at h
  have := List.mem_filter.mp h
  exact ⟨List.mem_range.mp this.1, of_decide_eq_true this.2⟩
theorem asks_in {N : Nat} {S : St} {ask : Int32} {sn : Nat → Int32} {v : Nat} (h : v ∈ asks' 0 N N S ask sn) : v < N ∧ bt ask v = true ∧ mayA N v S = true ∧ xR S 2 v = sn v := by
  unfold asks' at h
  have := List.mem_filter.mp h
  have h2 := List.mem_range'_1.mp this.1
  have h3 := Bool.and_eq_true _ _ |>.mp this.2
  have h4 := Bool.and_eq_true _ _ |>.mp h3.2
  exact ⟨by omega, h3.1, h4.1, of_decide_eq_true h4.2⟩
theorem mvc_e {N : Nat} (h16 : N ≤ 16) (S : St) (ask : Int32) (sn : Nat → Int32) : mvc N S ask sn = (mvl N S ask sn).map ci := by
  have e1 : (lanes S).map nI = (lanes S).map ci := by
    apply List.map_congr_left
    intro l hl
    unfold ci
    rw [if_pos (lanes_in hl).1]
  have e2 : (inss N S).map lvc = (inss N S).map (ci ∘ fun v => 256 + v) := by
    apply List.map_congr_left
    intro v hv
    have := (inss_in hv).1
    show lvc v = ci (256 + v)
    unfold ci
    rw [if_neg (by omega), if_pos (by omega), Nat.add_sub_cancel_left]
  have e3 : (asks' 0 N N S ask sn).map akc = (asks' 0 N N S ask sn).map (ci ∘ fun v => 272 + v) := by
    apply List.map_congr_left
    intro v hv
    show akc v = ci (272 + v)
    unfold ci
    rw [if_neg (by omega), if_neg (by omega), Nat.add_sub_cancel_left]
  unfold mvc mvl
  rw [List.map_append, List.map_append, List.map_map, List.map_map, e1, e2, e3]
theorem mvl_in {N : Nat} {S : St} {ask : Int32} {sn : Nat → Int32} {c : Nat} (h : c ∈ mvl N S ask sn) : (c < 256 ∧ xL S c ≠ []) ∨ (256 ≤ c ∧ c - 256 < N ∧ xR S 0 (c - 256) = 2) ∨ (272 ≤ c ∧ c - 272 < N ∧ mayA N (c - 272) S = true) := by
  unfold mvl at h
  rcases List.mem_append.mp h with h | h
  · rcases List.mem_append.mp h with h | h
    · exact Or.inl (lanes_in h)
    · obtain ⟨v, hv, rfl⟩ := List.mem_map.mp h
      have := inss_in hv
      rw [Nat.add_sub_cancel_left]
      exact Or.inr (Or.inl ⟨by omega, this.1, this.2⟩)
  · obtain ⟨v, hv, rfl⟩ := List.mem_map.mp h
    have := asks_in hv
    rw [Nat.add_sub_cancel_left]
    exact Or.inr (Or.inr ⟨by omega, this.1, this.2.2.1⟩)
theorem mvl_len {N : Nat} (S : St) (ask : Int32) (sn : Nat → Int32) : (mvl N S ask sn).length ≤ 256 + N + N := by
  have h1 := lanes_len S
  have h2 := inss_len N S
  have h3 : (asks' 0 N N S ask sn).length ≤ N := by
    unfold asks'
    have := List.length_filter_le (fun v => bt ask v && (mayA N v S && decide (xR S 2 v = sn v))) (List.range' 0 N)
    rw [List.length_range'] at this
    exact this
  unfold mvl
  simp only [List.length_append, List.length_map]
  omega
theorem Lok_of {N A : Nat} {S : St} (h : Inv N A S) (hA : A < 1048576) {l : Nat} (hl : l < 256) {x : Ltr} (hx : x ∈ xL S l) : Lok x := by
  obtain ⟨z1, s, z2, z3⟩ := (h.2.2.2.2.1 l hl).1 x hx
  exact ⟨z1, s, by omega, z3⟩
set_option maxHeartbeats 1000000 in
theorem RV.tdm {M : Mem} {tw : Bool} {t : Int32} {S : St} {pb pt : List Row4} (h : RV M tw t S pb pt) {N A : Nat} (hI : Inv N A S) (hN : xR S 20 0 = nI N) (h2N : 2 ≤ N) (h16 : N ≤ 16) (ht : xR S 20 1 = 1 → N % 2 = 1) (hA : A < 1048576) (hl : (fl S).length + N ≤ 9000) {ask : Int32} {sn : Nat → Int32} (hm : MV M (mvc N S ask sn)) {k c : Nat} (hc : (mvl N S ask sn)[k]? = some c) {n : Nat} (hn : 9200 ≤ n) : ∃ M', f_X10_doMove n 120 (nI k) M = some M' ∧ RV M' tw t (dm t N c S) pb pt ∧ Fr PA M M' := by
  have hk := (List.getElem?_eq_some_iff.mp hc).1
  have hkl := mvl_len (N := N) S ask sn
  have hcode : mI M 124 (nI k).toNatClampNeg = ci c := by rw [nI_clamp (by omega)]; exact hm.2 k (ci c) (by rw [mvc_e h16, List.getElem?_map, hc]; rfl)
  have hin := mvl_in (List.mem_of_getElem? hc)
  unfold dm
  by_cases c1 : c < 256
  · rw [if_pos c1]
    have hx : xL S c ≠ [] := by rcases hin with z | z | z <;> first | exact z.2 | omega
    obtain ⟨x, r, ex⟩ := List.exists_cons_of_ne_nil hx
    have hfg : c / 16 < N ∧ c % 16 < N := by
      apply Classical.byContradiction
      intro q
      exact hx ((hI.2.2.2.2.1 c c1).2 q)
    have ec : 16 * (c / 16) + c % 16 = c := by omega
    obtain ⟨M', e', h', f'⟩ := h.tbr hN h2N h16 (f := c / 16) (g := c % 16) (by omega) (by omega) (by rw [ec]; exact ex) (Lok_of hI hA c1 (by rw [ex]; simp)) (Hok_of hI h16 (by omega) _) hl hn
    rw [ec] at e'
    have e1 : ci c = nI c := by unfold ci; rw [if_pos c1]
    obtain ⟨p1, p2⟩ := f_pairs c c1
    have e2 := h.tat (f := c / 16) (g := c % 16) (by omega) (by omega) (by rw [ec]; exact ex) (n := n) (by omega)
    rw [ec] at e2
    refine ⟨M', ?_, h', f'⟩
    rw [f_X10_doMove, rs_f h.1, rs_4 h.1, bnd_e, rs_f4 h.1, rs_c4 h.1 (by omega), hcode, e1, if_pos (nI_pos' (by omega)), bnd_e, rs_f4 h.1, rs_c4 h.1 (by omega), hcode, e1, if_pos (by rw [show (256 : Int32) = nI 256 from rfl]; exact nI_lt c1 (by decide)), bnd_e, rs_f4 h.1, rs_c4 h.1 (by omega), hcode, e1, f_X10_takeFirst, chk_t (by decide), chk_t (by decide), rs_f h.1, p2, p1, e2, obd_s, e', obd2_s, obd_s]
  · rw [if_neg c1]
    by_cases c2 : c < 272
    · rw [if_pos c2]
      have hx : c - 256 < N := by rcases hin with z | z | z <;> omega
      obtain ⟨M', e', h', f'⟩ := h.tlv hN h16 (v := c - 256) (by omega) hl hn
      have e1 : ci c = lvc (c - 256) := by unfold ci; rw [if_neg c1, if_pos c2]
      have e3 : ∀ v, v < 16 → ¬ (0 : Int32) ≤ lvc v ∧ (-1 : Int32) - lvc v = nI v := by decide
      have e4 := e3 (c - 256) (by omega)
      refine ⟨M', ?_, h', f'⟩
      rw [f_X10_doMove, rs_f h.1, rs_4 h.1, bnd_e, rs_f4 h.1, rs_c4 h.1 (by omega), hcode, e1, if_neg e4.1, bnd_e, rs_f4 h.1, rs_c4 h.1 (by omega), hcode, e1, e4.2, e', obd_s]
    · rw [if_neg c2]
      have hx : c - 272 < N := by rcases hin with z | z | z <;> omega
      obtain ⟨M', e', h', f'⟩ := h.tak hN h16 ht (v := c - 272) (by omega) hl hn
      have e1 : ci c = nI (256 + (c - 272)) := by unfold ci; rw [if_neg c1, if_neg c2]; rfl
      have e3 : nI (256 + (c - 272)) - (256 : Int32) = nI (c - 272) := by
        rw [show (256 : Int32) = nI 256 from rfl, pk_sub (by omega), Nat.add_sub_cancel_left]
      refine ⟨M', ?_, h', f'⟩
      rw [f_X10_doMove, rs_f h.1, rs_4 h.1, bnd_e, rs_f4 h.1, rs_c4 h.1 (by omega), hcode, e1, if_pos (nI_pos' (by omega)), bnd_e, rs_f4 h.1, rs_c4 h.1 (by omega), hcode, e1, if_neg (by rw [show (256 : Int32) = nI 256 from rfl]; exact nI_nlt (by omega) (by omega)), bnd_e, rs_f4 h.1, rs_c4 h.1 (by omega), hcode, e1, e3, e', obd_s]
/-- a draw -/
def drw (g : Int64) : Int64 := ((g * (1103515245 : Int64)) + (12345 : Int64)) - ((g * (1103515245 : Int64)) + (12345 : Int64)) / (2147483648 : Int64) * (2147483648 : Int64)
def drk (g : Int64) (m : Int32) : Int32 := ((((drw g) / (65536 : Int64)) - ((drw g) / (65536 : Int64)) / (m.toInt64) * (m.toInt64))).toInt32
/-- the seed is one that draws leave at no negative number -/
def Gk (g : Int64) : Prop := ∃ x : Nat, x < 2147483648 ∧ g = lN x
theorem drw_e {x : Nat} (hx : x < 2147483648) : drw (lN x) = lN ((x * 1103515245 + 12345) % 2147483648) := by
  unfold drw
  rw [show (1103515245 : Int64) = lN 1103515245 from rfl, show (12345 : Int64) = lN 12345 from rfl, show (2147483648 : Int64) = lN 2147483648 from rfl, lN_mul, lN_add, pk_lRem (by omega) (by decide) (by decide)]
theorem Gk_drw {g : Int64} (h : Gk g) : Gk (drw g) := by
  obtain ⟨x, hx, rfl⟩ := h
  exact ⟨_, Nat.mod_lt _ (by decide), drw_e hx⟩
theorem drk_lt {g : Int64} (h : Gk g) {m : Nat} (h0 : 0 < m) (hm : m < 1000) : ∃ k, k < m ∧ drk g (nI m) = nI k := by
  obtain ⟨x, hx, rfl⟩ := h
  have hy : (x * 1103515245 + 12345) % 2147483648 < 2147483648 := Nat.mod_lt _ (by decide)
  refine ⟨(x * 1103515245 + 12345) % 2147483648 / 65536 % m, Nat.mod_lt _ h0, ?_⟩
  unfold drk
  rw [drw_e hx]
  generalize (x * 1103515245 + 12345) % 2147483648 = y at hy
  rw [show (65536 : Int64) = lN 65536 from rfl, pk_lDiv (by omega) (by decide) (by decide), nI_l (by omega), pk_lRem (by omega) h0 (by omega), lN_i]
theorem asks_0 (N : Nat) (S : St) (sn : Nat → Int32) : asks' 0 N N S 0 sn = [] := by
  unfold asks'
  rw [List.filter_eq_nil_iff]
  intro v _
  rw [b_0]
  simp
def mv0 (N : Nat) (S : St) : List Nat := lanes S ++ (inss N S).map (fun v => 256 + v)
theorem mvl_0 (N : Nat) (S : St) (sn : Nat → Int32) : mvl N S 0 sn = mv0 N S := by
  unfold mvl mv0
  rw [asks_0]
  simp
/-- which move a draw tells -/
def dk (g : Int64) (m : Nat) : Nat := (drk g (nI m)).toNatClampNeg
theorem RV.tsL {M : Mem} {tw : Bool} {t : Int32} {S : St} {pb pt : List Row4} (h : RV M tw t S pb pt) (o k : Nat) (x : Int64) : RV (sL M o k x) tw t S pb pt := h.cg rfl rfl (fun _ => rfl) (fun _ => rfl)
theorem mL_s (M : Mem) (o k : Nat) (x : Int64) : mL (sL M o k x) o k = x := by
  show up2 M.2.2 o k x o k = x
  exact up2_s _ _ _ _
theorem mL_o (M : Mem) (o k : Nat) (x : Int64) {a b : Nat} (h : ¬ (a = o ∧ b = k)) : mL (sL M o k x) a b = mL M a b := by
  show up2 M.2.2 o k x a b = M.2.2 a b
  unfold up2
  rw [if_neg h]
theorem sL_G (M : Mem) (x : Int64) : FrG M (sL M 120 8 x) := ⟨rfl, fun _ _ _ => rfl, fun _ _ => rfl, fun o k q => mL_o _ _ _ _ q⟩
set_option maxHeartbeats 1000000 in
theorem RV.goO {M : Mem} {tw : Bool} {t : Int32} {S : St} {pb pt : List Row4} (h : RV M tw t S pb pt) {N A : Nat} (hI : Inv N A S) (hN : xR S 20 0 = nI N) (h2N : 2 ≤ N) (h16 : N ≤ 16) (ht : xR S 20 1 = 1 → N % 2 = 1) (hA : A < 1048576) (hl : (fl S).length + N ≤ 9000) (hask : mI M 120 7 = 0) {g : Int64} (hg : mL M 120 8 = g) (hG : Gk g) {n : Nat} (hn : 9200 ≤ n) : ∃ M', (mv0 N S = [] → f_X10_goOnce n 120 M = some (0, M') ∧ RV M' tw t S pb pt ∧ mL M' 120 8 = g) ∧ (mv0 N S ≠ [] → ∃ c, (mv0 N S)[dk g (mv0 N S).length]? = some c ∧ f_X10_goOnce n 120 M = some (1, M') ∧ RV M' tw t (dm t N c S) pb pt ∧ mL M' 120 8 = drw g) ∧ FrG M M' := by
  obtain ⟨M1, e1, h1, m1, f1⟩ := h.lay hN h16 ht hask (sn := fun v => mI M 125 v) (fun v _ => rfl) hn
  have e0 : mvc N S 0 (fun v => mI M 125 v) = (mv0 N S).map ci := by rw [mvc_e h16, mvl_0]
  have len : mI M1 120 6 = nI (mv0 N S).length := by rw [m1.1, e0, List.length_map]
  have hml := mvl_len (N := N) S 0 (fun v => mI M 125 v)
  rw [mvl_0] at hml
  have g1 : mL M1 120 8 = g := (f1.2.2.2 120 8).trans hg
  by_cases c : mv0 N S = []
  · refine ⟨M1, fun _ => ⟨?_, h1, g1⟩, fun q => absurd c q, f1.G⟩
    rw [f_X10_goOnce, rs_f h.1, e1, obd_s, rs_f h1.1, len, c, if_pos (by rfl)]
  · have hpos : 0 < (mv0 N S).length := List.length_pos_iff.mpr c
    obtain ⟨k, hk, ek⟩ := drk_lt hG hpos (by omega)
    have edk : dk g (mv0 N S).length = k := by unfold dk; rw [ek, nI_clamp (by omega)]
    generalize hM2 : sL M1 120 8 (drw g) = M2
    have h2 : RV M2 tw t S pb pt := by rw [← hM2]; exact h1.tsL _ _ _
    have m2 : MV M2 (mvc N S 0 (fun v => mI M 125 v)) := by rw [← hM2]; exact m1
    have g2 : mL M2 120 8 = drw g := by rw [← hM2, mL_s]
    have f2 : FrG M1 M2 := by rw [← hM2]; exact sL_G _ _
    have hc : (mvl N S 0 (fun v => mI M 125 v))[k]? = some ((mv0 N S)[k]) := by rw [mvl_0]; exact List.getElem?_eq_getElem hk
    obtain ⟨M3, e3, h3, f3⟩ := h2.tdm hI hN h2N h16 ht hA hl m2 hc hn
    refine ⟨M3, fun q => absurd q c, fun _ => ⟨(mv0 N S)[k], by rw [edk]; exact List.getElem?_eq_getElem hk, ?_, h3, (f3.2.2 120 8).trans g2⟩, FrG.tr f1.G (FrG.tr f2 (FrM.ofA f3).G)⟩
    have nz : ¬ (nI (mv0 N S).length).toInt64 = 0 := by
      rw [nI_l (by omega), show (0 : Int64) = lN 0 from rfl]
      exact fun q => by have := (lN_eq (by omega) (by decide)).mp q; omega
    have ek2 : (((((drw g) / (65536 : Int64)) - ((drw g) / (65536 : Int64)) / ((nI (mv0 N S).length).toInt64) * ((nI (mv0 N S).length).toInt64))).toInt32) = nI k := ek
    rw [f_X10_goOnce, rs_f h.1, e1, obd_s, rs_f h1.1, len, if_neg (nI_ne0 hpos (by omega)), f_X10_draw, rs_f h1.1, chk_t (by decide), bnd_e, chk_t (by decide), chk_t nz, g1]
    rw [show ((g * (1103515245 : Int64)) + (12345 : Int64)) - ((g * (1103515245 : Int64)) + (12345 : Int64)) / (2147483648 : Int64) * (2147483648 : Int64) = drw g from rfl, hM2, g2, ek2, obd2_s, rs_f h2.1, e3, obd_s]
/-! ===== what would be is gone through and laid back, by the reference ===== -/
theorem rs_9 {M : Mem} (h : RS M) : mR M 120 9 = 126 := h.r (by decide)
theorem rs_f9 {α : Type} {M : Mem} (h : RS M) (x : Option α) : chk (isO M 100 126) x = x := chk_t (h.io (by decide) (by decide) (by decide))
theorem rs_c9 {α : Type} {M : Mem} (h : RS M) {k : Nat} (hk : k < 10465) (x : Option α) : chk (inB (nI k) (mLn M 126)) x = x := by
  refine chk_t ?_
  rw [h.ln (c := 10465) (by decide) (by decide) (by decide)]; exact inB_n hk (by decide)
/-- the first cells of o are as those of p were -/
def cpF (M : Mem) (p o lo : Nat) : Mem := (M.1, (fun a b => if a = o ∧ lo ≤ b ∧ b < 10465 then M.2.1 p b else M.2.1 a b), M.2.2)
theorem cpF_0 (M : Mem) (p o : Nat) : cpF M p o 10465 = M := by
  refine Prod.ext rfl (Prod.ext ?_ rfl)
  funext a b
  show (if a = o ∧ 10465 ≤ b ∧ b < 10465 then M.2.1 p b else M.2.1 a b) = M.2.1 a b
  rw [if_neg (by omega)]
theorem cpF_s (M : Mem) {p o d : Nat} (hpo : p ≠ o) (hd : d + 1 ≤ 10465) : cpF (sI M o (10465 - (d + 1)) (mI M p (10465 - (d + 1)))) p o (10465 - d) = cpF M p o (10465 - (d + 1)) := by
  refine Prod.ext rfl (Prod.ext ?_ rfl)
  funext a b
  show (if a = o ∧ 10465 - d ≤ b ∧ b < 10465 then up2 M.2.1 o (10465 - (d + 1)) (M.2.1 p (10465 - (d + 1))) p b else up2 M.2.1 o (10465 - (d + 1)) (M.2.1 p (10465 - (d + 1))) a b) = if a = o ∧ 10465 - (d + 1) ≤ b ∧ b < 10465 then M.2.1 p b else M.2.1 a b
  by_cases h1 : a = o ∧ 10465 - d ≤ b ∧ b < 10465
  · rw [if_pos h1, if_pos (by omega), up2_o _ _ _ _ hpo]
  · rw [if_neg h1]
    unfold up2
    by_cases h2 : a = o ∧ b = 10465 - (d + 1)
    · rw [if_pos h2, if_pos (by omega), h2.2]
    · rw [if_neg h2, if_neg (by omega)]
set_option maxHeartbeats 1000000 in
theorem aside_l : ∀ (d : Nat) (M : Mem) (n : Nat), RS M → d ≤ 10465 → d + 1 ≤ n → f_X10_putAside_2 n 120 (nI (10465 - d)) M = some (cpF M 121 126 (10465 - d)) := by
  intro d
  induction d with
  | zero =>
    intro M n hS _ hn
    obtain ⟨n, rfl⟩ : ∃ m, n = m + 1 := ⟨n - 1, by omega⟩
    rw [f_X10_putAside_2, Nat.sub_zero, if_pos (by rw [show (10465 : Int32) = nI 10465 from rfl]; exact nI_le (Nat.le_refl _) (by decide)), cpF_0]
  | succ d ih =>
    intro M n hS hd hn
    obtain ⟨n, rfl⟩ : ∃ m, n = m + 1 := ⟨n - 1, by omega⟩
    have hi := ih (sI M 126 (10465 - (d + 1)) (mI M 121 (10465 - (d + 1)))) n (hS.e rfl) (by omega) (by omega)
    rw [cpF_s M (by decide) hd] at hi
    rw [f_X10_putAside_2, if_neg (by rw [show (10465 : Int32) = nI 10465 from rfl]; exact nI_ge (by omega) (by decide)), rs_f hS, rs_9 hS, bnd_e, rs_f9 hS, rs_0 hS, bnd_e, rs_fa hS, rs_c hS (by omega), rs_c9 hS (by omega), bnd_e, cl_n (by omega), nI_1, bnd_e, show 10465 - (d + 1) + 1 = 10465 - d by omega, hi]
set_option maxHeartbeats 1000000 in
theorem back_l : ∀ (d : Nat) (M : Mem) (n : Nat), RS M → d ≤ 10465 → d + 1 ≤ n → f_X10_bringBack_2 n 120 (nI (10465 - d)) M = some (cpF M 126 121 (10465 - d)) := by
  intro d
  induction d with
  | zero =>
    intro M n hS _ hn
    obtain ⟨n, rfl⟩ : ∃ m, n = m + 1 := ⟨n - 1, by omega⟩
    rw [f_X10_bringBack_2, Nat.sub_zero, if_pos (by rw [show (10465 : Int32) = nI 10465 from rfl]; exact nI_le (Nat.le_refl _) (by decide)), cpF_0]
  | succ d ih =>
    intro M n hS hd hn
    obtain ⟨n, rfl⟩ : ∃ m, n = m + 1 := ⟨n - 1, by omega⟩
    have hi := ih (sI M 121 (10465 - (d + 1)) (mI M 126 (10465 - (d + 1)))) n (hS.e rfl) (by omega) (by omega)
    rw [cpF_s M (by decide) hd] at hi
    rw [f_X10_bringBack_2, if_neg (by rw [show (10465 : Int32) = nI 10465 from rfl]; exact nI_ge (by omega) (by decide)), rs_f hS, rs_0 hS, bnd_e, rs_fa hS, rs_9 hS, bnd_e, rs_f9 hS, rs_c9 hS (by omega), rs_c hS (by omega), bnd_e, cl_n (by omega), nI_1, bnd_e, show 10465 - (d + 1) + 1 = 10465 - d by omega, hi]
theorem f_aside {M : Mem} (hS : RS M) {n : Nat} (hn : 10466 ≤ n) : f_X10_putAside n 120 M = some (cpF M 121 126 0) := by
  have := aside_l 10465 M n hS (Nat.le_refl _) hn
  rw [f_X10_putAside]
  exact this
theorem f_back {M : Mem} (hS : RS M) {n : Nat} (hn : 10466 ≤ n) : f_X10_bringBack n 120 M = some (cpF M 126 121 0) := by
  have := back_l 10465 M n hS (Nat.le_refl _) hn
  rw [f_X10_bringBack]
  exact this
/-- all that can ask do -/
def akl (t : Int32) (N : Nat) (ws : List Nat) (S : St) : St := ws.foldl (fun S v => if mayA N v S then ak t N v S else S) S
theorem RV.aal {tw : Bool} {t : Int32} {pb pt : List Row4} {N : Nat} (h16 : N ≤ 16) : ∀ (d i n : Nat) (M : Mem) (S : St), RV M tw t S pb pt → xR S 20 0 = nI N → (xR S 20 1 = 1 → N % 2 = 1) → i + d = N → (fl S).length + N * d ≤ 9000 → d + 9201 ≤ n → ∃ M', f_X10_askAll_2 n 120 (nI i) M = some M' ∧ RV M' tw t (akl t N (List.range' i d) S) pb pt ∧ Fr PA M M' := by
  intro d
  induction d with
  | zero =>
    intro i n M S h hN ht hi hl hn
    obtain ⟨n, rfl⟩ : ∃ m, n = m + 1 := ⟨n - 1, by omega⟩
    refine ⟨M, ?_, h, Fr.rf _ _⟩
    rw [f_X10_askAll_2, rs_f h.1, rs_0 h.1, bnd_e, rs_fa h.1, rs_c0 h.1, cl0, h.N hN, if_pos (nI_le (by omega) (by omega))]
  | succ d ih =>
    intro i n M S h hN ht hi hl hn
    obtain ⟨n, rfl⟩ : ∃ m, n = m + 1 := ⟨n - 1, by omega⟩
    rw [Nat.mul_succ] at hl
    obtain ⟨M1, e1, h1, f1⟩ := h.can hN h16 ht (v := i) (by omega) (n := n) (by omega)
    have el : akl t N (List.range' i (d + 1)) S = akl t N (List.range' (i + 1) d) (if mayA N i S then ak t N i S else S) := by
      unfold akl
      rw [List.range'_succ, List.foldl_cons]
    have open1 : ∀ y, (if mayA N i S = true then obd (f_X10_askNow n 120 (nI i) M1) (fun M17 => f_X10_askAll_2 n 120 (nI (i + 1)) M17) else f_X10_askAll_2 n 120 (nI (i + 1)) M1) = y → f_X10_askAll_2 (n + 1) 120 (nI i) M = y := by
      intro y hy
      rw [f_X10_askAll_2, rs_f h.1, rs_0 h.1, bnd_e, rs_fa h.1, rs_c0 h.1, cl0, h.N hN, if_neg (nI_ge (by omega) (by omega)), e1, obd2_s]
      cases b : mayA N i S
      · rw [b] at hy
        simp only [Bool.false_eq_true, if_false, if_true, bnd_e, nI_1] at hy ⊢
        exact hy
      · rw [b] at hy
        simp only [if_true, ne10, if_false] at hy ⊢
        rw [rs_f h1.1]
        simp only [bnd_e, nI_1]
        exact hy
    rw [el]
    by_cases c : mayA N i S = true
    · rw [if_pos c] at open1 ⊢
      obtain ⟨M2, e2, h2, f2⟩ := h1.tak hN h16 ht (v := i) (by omega) (by omega) (n := n) (by omega)
      have hlen := ak_len (N := N) (v := i) (S := S) h16 (by omega) t
      have r20 : ∀ j, xR (ak t N i S) 20 j = xR S 20 j := fun j => by
        rw [ak_R (by decide)]
        by_cases q : j = i
        · rw [if_pos q]; rfl
        · rw [if_neg q]
      obtain ⟨M3, e3, h3, f3⟩ := ih (i + 1) n M2 _ h2 ((r20 0).trans hN) (by rw [r20 1]; exact ht) (by omega) (by omega) (by omega)
      exact ⟨M3, open1 _ (by rw [e2, obd_s, e3]), h3, Fr.tr (f1.mo P2_A) (Fr.tr f2 f3)⟩
    · rw [if_neg c] at open1 ⊢
      obtain ⟨M3, e3, h3, f3⟩ := ih (i + 1) n M1 S h1 hN ht (by omega) (by omega) (by omega)
      exact ⟨M3, open1 _ e3, h3, Fr.tr (f1.mo P2_A) f3⟩
def akA (t : Int32) (N : Nat) (S : St) : St := akl t N (List.range N) S
theorem RV.takA {M : Mem} {tw : Bool} {t : Int32} {S : St} {pb pt : List Row4} (h : RV M tw t S pb pt) {N : Nat} (hN : xR S 20 0 = nI N) (h16 : N ≤ 16) (ht : xR S 20 1 = 1 → N % 2 = 1) (hl : (fl S).length + N * N ≤ 9000) {n : Nat} (hn : 9300 ≤ n) : ∃ M', f_X10_askAll n 120 M = some M' ∧ RV M' tw t (akA t N S) pb pt ∧ Fr PA M M' := by
  obtain ⟨M', e, h', f'⟩ := RV.aal (tw := tw) (t := t) (pb := pb) (pt := pt) h16 N 0 n M S h hN ht (by omega) hl (by omega)
  refine ⟨M', ?_, ?_, f'⟩
  · rw [f_X10_askAll]; exact e
  · unfold akA; rw [List.range_eq_range']; exact h'
/-- a turn of a crowd: the state, the seed, whether it goes on -/
def cr1 (t : Int32) (N : Nat) (q : St × Int64 × Bool) : St × Int64 × Bool :=
  if q.2.2 then
    (let S := akA t N q.1
     if mv0 N S = [] then (S, q.2.1, false)
     else (match (mv0 N S)[dk q.2.1 (mv0 N S).length]? with
      | none => (S, q.2.1, false)
      | some c => (dm t N c S, drw q.2.1, true)))
  else q
def crn (t : Int32) (N : Nat) : Nat → St × Int64 × Bool → St × Int64 × Bool
  | 0, q => q
  | n + 1, q => crn t N n (cr1 t N q)
/-! ===== the class: letters in lanes ===== -/
def Chn (ne : Nat → Int32) : Int32 → List Nat → Prop
  | _, [] => True
  | x, c :: cs => x = nI c ∧ Chn ne (ne c) cs
def ChE (ne : Nat → Int32) : Int32 → List Nat → Prop
  | x, [] => x = -1
  | x, c :: cs => x = nI c ∧ ChE ne (ne c) cs
theorem Chn.cg {ne ne' : Nat → Int32} : ∀ {cs : List Nat} {x : Int32}, Chn ne x cs → (∀ c, c ∈ cs → ne' c = ne c) → Chn ne' x cs := by
  intro cs
  induction cs with
  | nil => intro x h _; exact h
  | cons c cs ih =>
    intro x h e
    refine ⟨h.1, ?_⟩
    rw [e c (by simp)]
    exact ih h.2 (fun d hd => e d (by simp [hd]))
theorem ChE.cg {ne ne' : Nat → Int32} : ∀ {cs : List Nat} {x : Int32}, ChE ne x cs → (∀ c, c ∈ cs → ne' c = ne c) → ChE ne' x cs := by
  intro cs
  induction cs with
  | nil => intro x h _; exact h
  | cons c cs ih =>
    intro x h e
    refine ⟨h.1, ?_⟩
    rw [e c (by simp)]
    exact ih h.2 (fun d hd => e d (by simp [hd]))
theorem Chn.app {ne ne' : Nat → Int32} {c : Nat} : ∀ {cs : List Nat} {x : Int32} {z : Nat}, Chn ne x (cs ++ [z]) → (cs ++ [z]).Nodup → (∀ d, d ∈ cs → ne' d = ne d) → ne' z = nI c → Chn ne' x (cs ++ [z] ++ [c]) := by
  intro cs
  induction cs with
  | nil =>
    intro x z h _ _ hz
    exact ⟨h.1, hz, trivial⟩
  | cons d cs ih =>
    intro x z h hd e hz
    rw [List.cons_append] at h hd
    refine ⟨h.1, ?_⟩
    rw [e d (by simp)]
    exact ih h.2 (List.nodup_cons.mp hd).2 (fun y hy => e y (by simp [hy])) hz
def tH : List (Nat × Nat × Nat) := [(0, 1, 1), (0, 2, 10), (0, 3, 11), (0, 4, 13), (0, 5, 15), (0, 6, 16), (1, 0, 2), (1, 1, 3), (1, 2, 4), (1, 3, 5), (1, 4, 6), (11, 1, 12), (13, 1, 14)] ++ ((List.range 16).map fun v => (10, v, 17 + 2 * v)) ++ ((List.range 16).map fun v => (17 + 2 * v, 10, 18 + 2 * v))
/-- a hall of the class: the shape of its cells but of the three rows of its letters -/
def CS (M : Mem) (h : Nat) : Prop := (∀ i, i < 49 → ¬ (7 ≤ i ∧ i ≤ 9) → M.1.2.1 (h + i) = tC.getD (14 + i) (0, 0)) ∧ (∀ q, q ∈ tH → mR M (h + q.1) q.2.1 = h + q.2.2) ∧ mR M h 0 = 1 ∧ isO M 7 1 ∧ h + 49 ≤ 131 ∧ 14 ≤ h ∧ 131 ≤ mN M
theorem CS.e {M M' : Mem} {h : Nat} (q : CS M h) (e : M'.1 = M.1) : CS M' h := by
  unfold CS mR mN at *
  have e2 : isO M 7 1 = isO M' 7 1 := by unfold isO mN mC; rw [e]
  rw [← e2, e]
  exact q
theorem CS.io {M : Mem} {h : Nat} (q : CS M h) {i c : Nat} (hi : i < 49) (hn : ¬ (7 ≤ i ∧ i ≤ 9)) (hc : (tC.getD (14 + i) (0, 0)).1 = c) : isO M c (h + i) := by
  refine ⟨by have := q.2.2.2.2; omega, ?_⟩
  rw [mC, q.1 i hi hn, hc]
theorem CS.ln {M : Mem} {h : Nat} (q : CS M h) {i c : Nat} (hi : i < 49) (hn : ¬ (7 ≤ i ∧ i ≤ 9)) (hc : (tC.getD (14 + i) (0, 0)).2 = c) : mLn M (h + i) = c := by
  rw [mLn, q.1 i hi hn, hc]
theorem CS.r {M : Mem} {h : Nat} (q : CS M h) {a b c : Nat} (z : (a, b, c) ∈ tH) : mR M (h + a) b = h + c := q.2.1 (a, b, c) z
def encC (x : Ltr) : Int32 := (x.2.1 <<< ((3 : Int32) &&& 31)) ||| x.1
theorem encC_kind {x : Ltr} {k : Nat} (hk : k < 8) (e : x.1 = nI k) : encC x &&& (7 : Int32) = nI k := by
  apply b_ext
  intro i hi
  rw [encC, b_and, b_or, b_shl03 _ hi, b_c7 i hi, e]
  by_cases h3 : i < 3
  · simp [h3, show ¬ 3 ≤ i by omega]
  · rw [bt_lt (k := 3) hk (by omega) hi]
    simp [h3]
theorem encC_stamp {x : Ltr} {k : Nat} (hk : k < 8) (e : x.1 = nI k) {s : Nat} (hs : s < 1048576) (es : x.2.1 = nI s) : encC x >>> ((3 : Int32) &&& 31) = nI s := by
  apply b_ext
  intro i hi
  rw [b_sshr03 _ hi]
  by_cases h3 : i < 29
  · rw [if_pos (by omega), encC, b_or, b_shl03 _ (by omega), e, es, bt_lt (k := 3) hk (by omega) (by omega)]
    simp
  · rw [if_neg (by omega), encC, b_or, b_shl03 _ (by omega), e, es, bt_lt (k := 3) hk (by omega) (by omega), bt_lt (k := 20) hs (by omega) (by omega), bt_lt (k := 20) hs (by omega) hi]
    simp
/-- the three rows of letters of a hall -/
def DS (M : Mem) (h d5 d6 d7 len : Nat) : Prop := (mR M (h + 1) 5 = d5 ∧ mR M (h + 1) 6 = d6 ∧ mR M (h + 1) 7 = d7) ∧ (isO M 100 d5 ∧ isO M 100 d6 ∧ isO M 100 d7) ∧ (mLn M d5 = len ∧ mLn M d6 = len ∧ mLn M d7 = len) ∧ ((d5 = h + 7 ∨ 131 ≤ d5) ∧ (d6 = h + 8 ∨ 131 ≤ d6) ∧ (d7 = h + 9 ∨ 131 ≤ d7) ∧ d5 ≠ d6 ∧ d5 ≠ d7 ∧ d6 ≠ d7)
theorem DS.e {M M' : Mem} {h d5 d6 d7 len : Nat} (q : DS M h d5 d6 d7 len) (e : M'.1 = M.1) : DS M' h d5 d6 d7 len := by
  have e2 : ∀ o, isO M' 100 o = isO M 100 o := fun o => by unfold isO mN mC; rw [e]
  unfold DS at *
  rw [e2, e2, e2]
  unfold mR mLn at *
  rw [e]
  exact q
/-- the letters of a hall: K the cells of each lane with their letters, fr the free ones, us how many were used, ow whose each is (256: free, 257: kept aside), e how many are kept aside -/
def PW (M : Mem) (h d5 d6 d7 len : Nat) (t : Int32) (se : Nat → Int32) (K : Nat → List (Nat × Ltr)) (fr : List Nat) (us : Nat) (ow : Nat → Nat) (e : Nat) : Prop :=
  DS M h d5 d6 d7 len
  ∧ (∀ l, l < 256 → ∀ q, q ∈ K l → q.1 < us ∧ ow q.1 = l ∧ mI M d5 q.1 = encC q.2 ∧ mI M d6 q.1 = q.2.2.2)
  ∧ (∀ l, l < 256 → ((K l).map Prod.fst).Nodup)
  ∧ (∀ l, l < 256 → Chn (mI M d7) (mI M (h + 2) l) ((K l).map Prod.fst))
  ∧ (∀ l, l < 256 → ∀ cs z, (K l).map Prod.fst = cs ++ [z] → mI M (h + 3) l = nI z)
  ∧ (∀ l, l < 256 → mI M (h + 4) l = nI (K l).length)
  ∧ (∀ f, f < 16 → ∀ g, g < 32 → bt (mI M (h + 5) f) g = decide (g < 16 ∧ K (16 * f + g) ≠ []))
  ∧ (∀ k, k < 6 → mI M (h + 6) k = se k)
  ∧ (fr.Nodup ∧ (∀ c, c ∈ fr → c < us ∧ ow c = 256) ∧ ChE (mI M d7) (mI M (h + 1) 9) fr)
  ∧ (mI M (h + 1) 8 = nI us ∧ us ≤ len ∧ us ≤ 9000 ∧ len ≤ 18000 ∧ 64 ≤ len)
  ∧ mI M (h + 1) 11 = t
  ∧ ∃ tot, mI M (h + 1) 10 = nI tot ∧ us = tot + fr.length + e ∧ tot = (flr (fun l => (K l).map Prod.snd) 0 256).length
def PV (M : Mem) (h : Nat) (t : Int32) (S : St) : Prop := ∃ d5 d6 d7 len K fr us ow, PW M h d5 d6 d7 len t (xR S 16) K fr us ow 0 ∧ ∀ l, l < 256 → (K l).map Prod.snd = xL S l
/-! ===== the class: a letter is put, taken ===== -/
section
variable {M : Mem} {h : Nat}
theorem cs_f {α : Type} (q : CS M h) (x : Option α) : chk (isO M 2 h) x = x := chk_t (q.io (i := 0) (by decide) (by decide) (by decide))
theorem cs_p {α : Type} (q : CS M h) (x : Option α) : chk (isO M 5 (h + 1)) x = x := chk_t (q.io (i := 1) (by decide) (by decide) (by decide))
theorem cs_a2 {α : Type} (q : CS M h) (x : Option α) : chk (isO M 100 (h + 2)) x = x := chk_t (q.io (i := 2) (by decide) (by decide) (by decide))
theorem cs_i2 {α : Type} (q : CS M h) {k : Nat} (hk : k < 256) (x : Option α) : chk (inB (nI k) (mLn M (h + 2))) x = x := by
  refine chk_t ?_
  rw [q.ln (i := 2) (c := 256) (by decide) (by decide) (by decide)]; exact inB_n hk (by decide)
theorem cs_r2 (q : CS M h) : mR M (h + 1) 0 = h + 2 := q.r (a := 1) (b := 0) (c := 2) (by decide)
theorem cs_a3 {α : Type} (q : CS M h) (x : Option α) : chk (isO M 100 (h + 3)) x = x := chk_t (q.io (i := 3) (by decide) (by decide) (by decide))
theorem cs_i3 {α : Type} (q : CS M h) {k : Nat} (hk : k < 256) (x : Option α) : chk (inB (nI k) (mLn M (h + 3))) x = x := by
  refine chk_t ?_
  rw [q.ln (i := 3) (c := 256) (by decide) (by decide) (by decide)]; exact inB_n hk (by decide)
theorem cs_r3 (q : CS M h) : mR M (h + 1) 1 = h + 3 := q.r (a := 1) (b := 1) (c := 3) (by decide)
theorem cs_a4 {α : Type} (q : CS M h) (x : Option α) : chk (isO M 100 (h + 4)) x = x := chk_t (q.io (i := 4) (by decide) (by decide) (by decide))
theorem cs_i4 {α : Type} (q : CS M h) {k : Nat} (hk : k < 256) (x : Option α) : chk (inB (nI k) (mLn M (h + 4))) x = x := by
  refine chk_t ?_
  rw [q.ln (i := 4) (c := 256) (by decide) (by decide) (by decide)]; exact inB_n hk (by decide)
theorem cs_r4 (q : CS M h) : mR M (h + 1) 2 = h + 4 := q.r (a := 1) (b := 2) (c := 4) (by decide)
theorem cs_a5 {α : Type} (q : CS M h) (x : Option α) : chk (isO M 100 (h + 5)) x = x := chk_t (q.io (i := 5) (by decide) (by decide) (by decide))
theorem cs_i5 {α : Type} (q : CS M h) {k : Nat} (hk : k < 16) (x : Option α) : chk (inB (nI k) (mLn M (h + 5))) x = x := by
  refine chk_t ?_
  rw [q.ln (i := 5) (c := 16) (by decide) (by decide) (by decide)]; exact inB_n hk (by decide)
theorem cs_r5 (q : CS M h) : mR M (h + 1) 3 = h + 5 := q.r (a := 1) (b := 3) (c := 5) (by decide)
theorem cs_a6 {α : Type} (q : CS M h) (x : Option α) : chk (isO M 100 (h + 6)) x = x := chk_t (q.io (i := 6) (by decide) (by decide) (by decide))
theorem cs_i6 {α : Type} (q : CS M h) {k : Nat} (hk : k < 6) (x : Option α) : chk (inB (nI k) (mLn M (h + 6))) x = x := by
  refine chk_t ?_
  rw [q.ln (i := 6) (c := 6) (by decide) (by decide) (by decide)]; exact inB_n hk (by decide)
theorem cs_r6 (q : CS M h) : mR M (h + 1) 4 = h + 6 := q.r (a := 1) (b := 4) (c := 6) (by decide)
theorem cs_h1 (q : CS M h) : mR M h 1 = h + 1 := q.r (a := 0) (b := 1) (c := 1) (by decide)
theorem cs_h0 (q : CS M h) : mR M h 0 = 1 := q.2.2.1
theorem cs_s {α : Type} (q : CS M h) (x : Option α) : chk (isO M 7 1) x = x := chk_t q.2.2.2.1
end
theorem CS.sI {M : Mem} {h o k : Nat} {x : Int32} (q : CS M h) : CS (sI M o k x) h := q.e rfl
theorem c16' (f g : Nat) : (nI f * (16 : Int32)) + nI g = nI (16 * f + g) := by rw [show (16 : Int32) = nI 16 from rfl, pk_mul, nI_add, Nat.mul_comm]
/-- the last of what a put does -/
def put5 (M : Mem) (h l c f g k : Nat) (m tot : Nat) : Mem := sI (sI (sI (sI (sI M (h + 3) l (nI c)) (h + 4) l (nI (m + 1))) (h + 5) f (bon (mI M (h + 5) f) g)) (h + 6) k (mI M (h + 6) k + 1)) (h + 1) 10 (nI (tot + 1))
theorem f205 {M : Mem} {h : Nat} (q : CS M h) {l c f g k m tot : Nat} (hl : l < 256) (hc : c < 100000) (hf : f < 16) (hg : g < 16) (hk : k < 6) (hm : mI M (h + 4) l = nI m) (ht : mI M (h + 1) 10 = nI tot) : f_X5_put_205 (h + 1) (nI k) (nI f) (nI g) (nI c) (nI l) M = some (put5 M h l c f g k m tot) := by
  generalize hMa : sI M (h + 3) l (nI c) = Ma
  generalize hMb : sI Ma (h + 4) l (nI (m + 1)) = Mb
  generalize hMc : sI Mb (h + 5) f (bon (mI M (h + 5) f) g) = Mc
  generalize hMd : sI Mc (h + 6) k (mI M (h + 6) k + 1) = Md
  have qa : CS Ma h := by rw [← hMa]; exact q.sI
  have qb : CS Mb h := by rw [← hMb]; exact qa.sI
  have qc : CS Mc h := by rw [← hMc]; exact qb.sI
  have qd : CS Md h := by rw [← hMd]; exact qc.sI
  have e1 : mI Ma (h + 4) l = nI m := by rw [← hMa, mI_o _ _ _ _ _ (by omega)]; exact hm
  have e2 : mI Mb (h + 5) f = mI M (h + 5) f := by rw [← hMb, mI_o _ _ _ _ _ (by omega), ← hMa, mI_o _ _ _ _ _ (by omega)]
  have e3 : mI Mc (h + 6) k = mI M (h + 6) k := by rw [← hMc, mI_o _ _ _ _ _ (by omega), ← hMb, mI_o _ _ _ _ _ (by omega), ← hMa, mI_o _ _ _ _ _ (by omega)]
  have e4 : mI Md (h + 1) 10 = nI tot := by rw [← hMd, mI_o _ _ _ _ _ (by omega), ← hMc, mI_o _ _ _ _ _ (by omega), ← hMb, mI_o _ _ _ _ _ (by omega), ← hMa, mI_o _ _ _ _ _ (by omega)]; exact ht
  have e5 : put5 M h l c f g k m tot = sI Md (h + 1) 10 (nI (tot + 1)) := by unfold put5; rw [hMa, hMb, hMc, hMd]
  rw [e5, f_X5_put_205, cs_p q, cs_r3 q, bnd_e, cs_a3 q, cs_i3 q hl, bnd_e, sI_c (by omega), hMa, cs_r4 qa, bnd_e, cs_a4 qa, cs_i4 qa hl, cs_i4 qa hl, bnd_e, mI_c (by omega), e1, nI_1, sI_c (by omega), hMb, cs_r5 qb, bnd_e, cs_a5 qb, cs_i5 qb hf, cs_i5 qb hf, bnd_e, mI_c (by omega), e2, sI_c (by omega)]
  rw [show (mI M (h + 5) f ||| ((1 : Int32) <<< (nI g &&& 31))) = bon (mI M (h + 5) f) g from rfl, hMc, cs_r6 qc, bnd_e, cs_a6 qc, cs_i6 qc hk, cs_i6 qc hk, bnd_e, mI_c (by omega), e3, sI_c (by omega), hMd, e4, nI_1, bnd_e]
theorem mI_d {M : Mem} {o k : Nat} (h : k < 2147483648) : mI M o (nI k).toNatClampNeg = mI M o k := by rw [nI_clamp (by omega)]
theorem sI_d {M : Mem} {o k : Nat} {x : Int32} (h : k < 2147483648) : sI M o (nI k).toNatClampNeg x = sI M o k x := by rw [nI_clamp (by omega)]
theorem put5_o {M : Mem} {h l c f g k m tot o : Nat} (b : Nat) (ho : ¬ (h + 1 ≤ o ∧ o ≤ h + 6) ∨ o = h + 2) : mI (put5 M h l c f g k m tot) o b = mI M o b := by
  unfold put5
  rw [mI_o _ _ _ _ _ (by omega), mI_o _ _ _ _ _ (by omega), mI_o _ _ _ _ _ (by omega), mI_o _ _ _ _ _ (by omega), mI_o _ _ _ _ _ (by omega)]
theorem put5_1 {M : Mem} {h l c f g k m tot : Nat} (b : Nat) : mI (put5 M h l c f g k m tot) (h + 1) b = if b = 10 then nI (tot + 1) else mI M (h + 1) b := by
  unfold put5
  rw [mI_sI]
  by_cases e : b = 10
  · rw [if_pos ⟨rfl, e⟩, if_pos e]
  · rw [if_neg (fun z => e z.2), if_neg e, mI_o _ _ _ _ _ (by omega), mI_o _ _ _ _ _ (by omega), mI_o _ _ _ _ _ (by omega), mI_o _ _ _ _ _ (by omega)]
theorem put5_3 {M : Mem} {h l c f g k m tot : Nat} (b : Nat) : mI (put5 M h l c f g k m tot) (h + 3) b = if b = l then nI c else mI M (h + 3) b := by
  unfold put5
  rw [mI_o _ _ _ _ _ (by omega), mI_o _ _ _ _ _ (by omega), mI_o _ _ _ _ _ (by omega), mI_o _ _ _ _ _ (by omega), mI_sI]
  by_cases e : b = l
  · rw [if_pos ⟨rfl, e⟩, if_pos e]
  · rw [if_neg (fun z => e z.2), if_neg e]
theorem put5_4 {M : Mem} {h l c f g k m tot : Nat} (b : Nat) : mI (put5 M h l c f g k m tot) (h + 4) b = if b = l then nI (m + 1) else mI M (h + 4) b := by
  unfold put5
  rw [mI_o _ _ _ _ _ (by omega), mI_o _ _ _ _ _ (by omega), mI_o _ _ _ _ _ (by omega), mI_sI]
  by_cases e : b = l
  · rw [if_pos ⟨rfl, e⟩, if_pos e]
  · rw [if_neg (fun z => e z.2), if_neg e, mI_o _ _ _ _ _ (by omega)]
theorem put5_5 {M : Mem} {h l c f g k m tot : Nat} (b : Nat) : mI (put5 M h l c f g k m tot) (h + 5) b = if b = f then bon (mI M (h + 5) f) g else mI M (h + 5) b := by
  unfold put5
  rw [mI_o _ _ _ _ _ (by omega), mI_o _ _ _ _ _ (by omega), mI_sI]
  by_cases e : b = f
  · rw [if_pos ⟨rfl, e⟩, if_pos e]
  · rw [if_neg (fun z => e z.2), if_neg e, mI_o _ _ _ _ _ (by omega), mI_o _ _ _ _ _ (by omega)]
theorem put5_6 {M : Mem} {h l c f g k m tot : Nat} (b : Nat) : mI (put5 M h l c f g k m tot) (h + 6) b = if b = k then mI M (h + 6) k + 1 else mI M (h + 6) b := by
  unfold put5
  rw [mI_o _ _ _ _ _ (by omega), mI_sI]
  by_cases e : b = k
  · rw [if_pos ⟨rfl, e⟩, if_pos e]
  · rw [if_neg (fun z => e z.2), if_neg e, mI_o _ _ _ _ _ (by omega), mI_o _ _ _ _ _ (by omega), mI_o _ _ _ _ _ (by omega)]
theorem DS.i {α : Type} {M : Mem} {h d5 d6 d7 len : Nat} (q : DS M h d5 d6 d7 len) {d c : Nat} (hd : d = d5 ∨ d = d6 ∨ d = d7) (hc : c < len) (hl : len < 2 ^ 31) (x : Option α) : chk (inB (nI c) (mLn M d)) x = x := by
  refine chk_t ?_
  have : mLn M d = len := by rcases hd with rfl | rfl | rfl <;> simp [q.2.2.1]
  rw [this]; exact inB_n hc hl
theorem DS.c {α : Type} {M : Mem} {h d5 d6 d7 len : Nat} (q : DS M h d5 d6 d7 len) {d : Nat} (hd : d = d5 ∨ d = d6 ∨ d = d7) (x : Option α) : chk (isO M 100 d) x = x := by
  refine chk_t ?_
  rcases hd with rfl | rfl | rfl
  · exact q.2.1.1
  · exact q.2.1.2.1
  · exact q.2.1.2.2
set_option maxHeartbeats 1000000 in
theorem f129 {M : Mem} {h d5 d6 d7 len l c f g k m tot z : Nat} {s t : Int32} (q : CS M h) (w : DS M h d5 d6 d7 len) (hl : 16 * f + g = l) (hc : c < len) (hz : m ≠ 0 → z < len ∧ z ≠ c) (hln : len < 20000) (hf : f < 16) (hg : g < 16) (hk : k < 6) (hm : mI M (h + 4) l = nI m) (hm2 : m < 20000) (hla : m ≠ 0 → mI M (h + 3) l = nI z) (htot : mI M (h + 1) 10 = nI tot) (ht : mI M (h + 1) 11 = t) : ∃ M', f_X5_put_129 (h + 1) (nI k) (nI f) (nI g) s (nI c) M = some M' ∧ M'.1 = M.1 ∧ (∀ o b, mL M' o b = mL M o b) ∧ (∀ b, mI M' d5 b = if b = c then encC (nI k, s, t) else mI M d5 b) ∧ (∀ b, mI M' d6 b = if b = c then t else mI M d6 b) ∧ (∀ b, mI M' d7 b = if m ≠ 0 ∧ b = z then nI c else if b = c then -1 else mI M d7 b) ∧ (∀ b, mI M' (h + 2) b = if m = 0 ∧ b = l then nI c else mI M (h + 2) b) ∧ (∀ b, mI M' (h + 3) b = if b = l then nI c else mI M (h + 3) b) ∧ (∀ b, mI M' (h + 4) b = if b = l then nI (m + 1) else mI M (h + 4) b) ∧ (∀ b, mI M' (h + 5) b = if b = f then bon (mI M (h + 5) f) g else mI M (h + 5) b) ∧ (∀ b, mI M' (h + 6) b = if b = k then mI M (h + 6) k + 1 else mI M (h + 6) b) ∧ (∀ b, mI M' (h + 1) b = if b = 10 then nI (tot + 1) else mI M (h + 1) b) ∧ (∀ o, ¬ (h + 1 ≤ o ∧ o ≤ h + 6) → o ≠ d5 → o ≠ d6 → o ≠ d7 → ∀ b, mI M' o b = mI M o b) := by
  obtain ⟨⟨w1, w2, w3⟩, wi, wl, x5, x6, x7, x56, x57, x67⟩ := id w
  have hq := q.2.2.2.2
  have l1 : l < 256 := by omega
  generalize hMa : sI M d5 c (encC (nI k, s, t)) = Ma
  generalize hMb : sI Ma d6 c t = Mb
  generalize hMc : sI Mb d7 c (-1) = Mc
  have sa : Ma.1 = M.1 := by rw [← hMa]; rfl
  have sb : Mb.1 = M.1 := by rw [← hMb]; exact sa
  have sc : Mc.1 = M.1 := by rw [← hMc]; exact sb
  have wa := w.e sa
  have wb := w.e sb
  have wc := w.e sc
  have qa := q.e sa
  have qb := q.e sb
  have qc := q.e sc
  have oc : ∀ o, o ≠ d5 → o ≠ d6 → o ≠ d7 → ∀ b, mI Mc o b = mI M o b := by
    intro o n5 n6 n7 b
    rw [← hMc, mI_o _ _ _ _ _ n7, ← hMb, mI_o _ _ _ _ _ n6, ← hMa, mI_o _ _ _ _ _ n5]
  have c5 : ∀ b, mI Mc d5 b = if b = c then encC (nI k, s, t) else mI M d5 b := by
    intro b
    rw [← hMc, mI_o _ _ _ _ _ x57, ← hMb, mI_o _ _ _ _ _ x56, ← hMa, mI_sI]
    by_cases e : b = c
    · rw [if_pos ⟨rfl, e⟩, if_pos e]
    · rw [if_neg (fun y => e y.2), if_neg e]
  have c6 : ∀ b, mI Mc d6 b = if b = c then t else mI M d6 b := by
    intro b
    rw [← hMc, mI_o _ _ _ _ _ x67, ← hMb, mI_sI]
    by_cases e : b = c
    · rw [if_pos ⟨rfl, e⟩, if_pos e]
    · rw [if_neg (fun y => e y.2), if_neg e, ← hMa, mI_o _ _ _ _ _ x56.symm]
  have c7 : ∀ b, mI Mc d7 b = if b = c then -1 else mI M d7 b := by
    intro b
    rw [← hMc, mI_sI]
    by_cases e : b = c
    · rw [if_pos ⟨rfl, e⟩, if_pos e]
    · rw [if_neg (fun y => e y.2), if_neg e, ← hMb, mI_o _ _ _ _ _ x67.symm, ← hMa, mI_o _ _ _ _ _ x57.symm]
  have h5 : ∀ i, i < 7 → h + i ≠ d5 ∧ h + i ≠ d6 ∧ h + i ≠ d7 := fun i hi => by omega
  have o1 : ∀ i, i < 7 → ∀ b, mI Mc (h + i) b = mI M (h + i) b := fun i hi b => oc _ (h5 i hi).1 (h5 i hi).2.1 (h5 i hi).2.2 b
  have e11 : mI Ma (h + 1) 11 = t := by rw [← hMa, mI_o _ _ _ _ _ (h5 1 (by decide)).1]; exact ht
  have start : f_X5_put_129 (h + 1) (nI k) (nI f) (nI g) s (nI c) M = if m = 0 then f_X5_put_205 (h + 1) (nI k) (nI f) (nI g) (nI c) (nI l) (sI Mc (h + 2) l (nI c)) else f_X5_put_205 (h + 1) (nI k) (nI f) (nI g) (nI c) (nI l) (sI Mc d7 z (nI c)) := by
    have w1a := wa.1; have w1b := wb.1; have w1c := wc.1
    rw [f_X5_put_129, cs_p q, w1, bnd_e, w.c (Or.inl rfl), w.i (Or.inl rfl) hc (by omega), bnd_e, sI_d (by omega)]
    rw [show ((s <<< ((3 : Int32) &&& 31)) ||| nI k) = encC (nI k, s, t) from rfl, hMa, w1a.2.1, bnd_e, wa.c (Or.inr (Or.inl rfl)), wa.i (Or.inr (Or.inl rfl)) hc (by omega), bnd_e, sI_d (by omega), e11, hMb, w1b.2.2, bnd_e, wb.c (Or.inr (Or.inr rfl)), wb.i (Or.inr (Or.inr rfl)) hc (by omega), bnd_e, sI_d (by omega), hMc, c16', hl, bnd_e, cs_r4 qc, bnd_e, cs_a4 qc, cs_i4 qc l1, mI_c (by omega), o1 4 (by decide), hm]
    by_cases e : m = 0
    · rw [if_pos e, e, if_pos (by rfl), cs_r2 qc, bnd_e, cs_a2 qc, cs_i2 qc l1, bnd_e, sI_c (by omega)]
    · obtain ⟨hz1, hz2⟩ := hz e
      rw [if_neg e, if_neg (nI_ne0 (by omega) (by omega)), w1c.2.2, bnd_e, wc.c (Or.inr (Or.inr rfl)), cs_r3 qc, bnd_e, cs_a3 qc, cs_i3 qc l1, mI_c (by omega), o1 3 (by decide), hla e, wc.i (Or.inr (Or.inr rfl)) hz1 (by omega), bnd_e, sI_d (by omega)]
  by_cases e : m = 0
  · rw [if_pos e] at start
    generalize hMd : sI Mc (h + 2) l (nI c) = Md at start
    have sd : Md.1 = M.1 := by rw [← hMd]; exact sc
    have od : ∀ o, o ≠ h + 2 → ∀ b, mI Md o b = mI Mc o b := fun o n b => by rw [← hMd, mI_o _ _ _ _ _ n]
    refine ⟨put5 Md h l c f g k m tot, ?_, sd, ?_, fun b => ?_, fun b => ?_, fun b => ?_, fun b => ?_, fun b => ?_, fun b => ?_, fun b => ?_, fun b => ?_, fun b => ?_, fun o n1 n5 n6 n7 b => ?_⟩
    · rw [start, f205 (q.e sd) l1 (by omega) hf hg hk (by rw [od _ (by omega), o1 4 (by decide)]; exact hm) (by rw [od _ (by omega), o1 1 (by decide)]; exact htot)]
    · intro o b; rw [← hMd, ← hMc, ← hMb, ← hMa]; rfl
    · rw [put5_o b (by omega), od _ (by omega), c5]
    · rw [put5_o b (by omega), od _ (by omega), c6]
    · rw [put5_o b (by omega), od _ (by omega), c7, if_neg (show ¬ (m ≠ 0 ∧ b = z) from fun y => y.1 e)]
    · rw [put5_o b (Or.inr rfl), ← hMd, mI_sI]
      by_cases e2 : b = l
      · rw [if_pos ⟨rfl, e2⟩, if_pos ⟨e, e2⟩]
      · rw [if_neg (fun y => e2 y.2), if_neg (fun y => e2 y.2), o1 2 (by decide)]
    · rw [put5_3, od _ (by omega), o1 3 (by decide)]
    · rw [put5_4, od _ (by omega), o1 4 (by decide)]
    · rw [put5_5, od _ (by omega), o1 5 (by decide), od _ (by omega), o1 5 (by decide)]
    · rw [put5_6, od _ (by omega), o1 6 (by decide), od _ (by omega), o1 6 (by decide)]
    · rw [put5_1, od _ (by omega), o1 1 (by decide)]
    · rw [put5_o b (Or.inl n1), od _ (by omega), oc o n5 n6 n7]
  · rw [if_neg e] at start
    obtain ⟨hz1, hz2⟩ := hz e
    generalize hMd : sI Mc d7 z (nI c) = Md at start
    have sd : Md.1 = M.1 := by rw [← hMd]; exact sc
    have od : ∀ o, o ≠ d7 → ∀ b, mI Md o b = mI Mc o b := fun o n b => by rw [← hMd, mI_o _ _ _ _ _ n]
    refine ⟨put5 Md h l c f g k m tot, ?_, sd, ?_, fun b => ?_, fun b => ?_, fun b => ?_, fun b => ?_, fun b => ?_, fun b => ?_, fun b => ?_, fun b => ?_, fun b => ?_, fun o n1 n5 n6 n7 b => ?_⟩
    · rw [start, f205 (q.e sd) l1 (by omega) hf hg hk (by rw [od _ (by omega), o1 4 (by decide)]; exact hm) (by rw [od _ (by omega), o1 1 (by decide)]; exact htot)]
    · intro o b; rw [← hMd, ← hMc, ← hMb, ← hMa]; rfl
    · rw [put5_o b (by omega), od _ x57, c5]
    · rw [put5_o b (by omega), od _ x67, c6]
    · rw [put5_o b (by omega), ← hMd, mI_sI]
      by_cases e2 : b = z
      · rw [if_pos ⟨rfl, e2⟩, if_pos ⟨e, e2⟩]
      · rw [if_neg (fun y => e2 y.2), if_neg (show ¬ (m ≠ 0 ∧ b = z) from fun y => e2 y.2), c7]
    · rw [put5_o b (Or.inr rfl), od _ (by omega), o1 2 (by decide), if_neg (fun y => e y.1)]
    · rw [put5_3, od _ (by omega), o1 3 (by decide)]
    · rw [put5_4, od _ (by omega), o1 4 (by decide)]
    · rw [put5_5, od _ (by omega), o1 5 (by decide), od _ (by omega), o1 5 (by decide)]
    · rw [put5_6, od _ (by omega), o1 6 (by decide), od _ (by omega), o1 6 (by decide)]
    · rw [put5_1, od _ (by omega), o1 1 (by decide)]
    · rw [put5_o b (Or.inl n1), od _ n7, oc o n5 n6 n7]
/-! ===== a letter put into a cell kept aside ===== -/
theorem flr_len_up {L : Nat → List Ltr} {l : Nat} (hl : l < 256) (x : List Ltr) : (flr (up1 L l x) 0 256).length + (L l).length = (flr L 0 256).length + x.length := by
  have a1 := congrArg List.length (flr_split L l hl)
  have a2 := congrArg List.length (flr_split (up1 L l x) l hl)
  rw [flr_up (a := 0) (n := l) (Or.inr (by omega)), flr_up (a := l + 1) (n := 255 - l) (Or.inl (by omega)), up1_s] at a2
  simp only [List.length_append, List.length_map] at a1 a2
  omega
theorem up1_fst {K : Nat → List (Nat × Ltr)} {l : Nat} {x : List (Nat × Ltr)} : (fun i => (up1 K l x i).map Prod.snd) = up1 (fun i => (K i).map Prod.snd) l (x.map Prod.snd) := by
  funext i
  unfold up1
  split <;> rfl
set_option maxHeartbeats 2000000 in
theorem PW.put {M : Mem} {h d5 d6 d7 len : Nat} {t : Int32} {se : Nat → Int32} {K : Nat → List (Nat × Ltr)} {fr : List Nat} {us : Nat} {ow : Nat → Nat} (q : CS M h) (p : PW M h d5 d6 d7 len t se K fr us ow 1) {c k f g : Nat} {s : Int32} (hc : c < us) (hoc : ow c = 257) (hk : k < 6) (hf : f < 16) (hg : g < 16) : ∃ M', f_X5_put_129 (h + 1) (nI k) (nI f) (nI g) s (nI c) M = some M' ∧ PW M' h d5 d6 d7 len t (up1 se k (se k + 1)) (up1 K (16 * f + g) (K (16 * f + g) ++ [(c, (nI k, s, t))])) fr us (up1 ow c (16 * f + g)) 0 ∧ M'.1 = M.1 ∧ (∀ o b, mL M' o b = mL M o b) ∧ (∀ o, ¬ (h + 1 ≤ o ∧ o ≤ h + 6) → o ≠ d5 → o ≠ d6 → o ≠ d7 → ∀ b, mI M' o b = mI M o b) := by
  obtain ⟨w, pc, pn, pch, pla, pma, pbu, pse, ⟨pf1, pf2, pf3⟩, ⟨pu1, pu2, pu3, pu4, pu5⟩, pt, tot, pt1, pt2, pt3⟩ := p
  generalize hl : 16 * f + g = l
  have l1 : l < 256 := by omega
  have hcl : ∀ l', l' < 256 → ∀ y, y ∈ K l' → y.1 ≠ c := fun l' hl' y hy e => by
    have := (pc l' hl' y hy).2.1
    rw [e, hoc] at this; omega
  have hml : (K l).length ≤ us := by
    have := nd_le us ((K l).map Prod.fst) (pn l l1) (fun x hx => by
      obtain ⟨y, hy, rfl⟩ := List.mem_map.mp hx
      exact (pc l l1 y hy).1)
    rwa [List.length_map] at this
  obtain ⟨z, hz⟩ : ∃ z, (K l).length ≠ 0 → ∃ cs, (K l).map Prod.fst = cs ++ [z] := by
    rcases nil_app ((K l).map Prod.fst) with e | ⟨cs, z, e⟩
    · exact ⟨0, fun n => absurd (by rw [← List.length_map (f := Prod.fst), e]; rfl) n⟩
    · exact ⟨z, fun _ => ⟨cs, e⟩⟩
  have hzK : (K l).length ≠ 0 → z < us ∧ ow z = l ∧ z ≠ c := by
    intro n
    obtain ⟨cs, e⟩ := hz n
    have : z ∈ (K l).map Prod.fst := by rw [e]; simp
    obtain ⟨y, hy, rfl⟩ := List.mem_map.mp this
    exact ⟨(pc l l1 y hy).1, (pc l l1 y hy).2.1, hcl l l1 y hy⟩
  obtain ⟨M', e, m1, m2, f5, f6, f7, g2, g3, g4, g5, g6, g1, fo⟩ := f129 (z := z) (s := s) q w hl (show c < len by omega) (fun n => ⟨by have := (hzK n).1; omega, (hzK n).2.2⟩) (by omega) hf hg hk (pma l l1) (by omega) (fun n => by obtain ⟨cs, e⟩ := hz n; exact pla l l1 cs z e) pt1 pt
  have uK : ∀ l', l' ≠ l → up1 K l (K l ++ [(c, (nI k, s, t))]) l' = K l' := fun l' n => up1_o _ _ _ n
  have uO : ∀ x, x ≠ c → up1 ow c l x = ow x := fun x n => up1_o _ _ _ n
  refine ⟨M', e, ⟨w.e m1, fun l' hl' y hy => ?_, fun l' hl' => ?_, fun l' hl' => ?_, fun l' hl' cs z' ez => ?_, fun l' hl' => ?_, fun f' hf' g' hg' => ?_, fun k' hk' => ?_, ⟨pf1, fun x hx => ?_, ?_⟩, ⟨?_, pu2, pu3, pu4, pu5⟩, ?_, tot + 1, ?_, by omega, ?_⟩, m1, m2, fo⟩
  · by_cases n : l' = l
    · subst n
      rw [up1_s] at hy
      rcases List.mem_append.mp hy with hy | hy
      · have hn := hcl l' hl' y hy
        rw [uO _ hn, f5, if_neg hn, f6, if_neg hn]
        exact pc l' hl' y hy
      · rw [List.mem_singleton] at hy
        subst hy
        exact ⟨hc, up1_s _ _ _, by rw [f5, if_pos rfl], by rw [f6, if_pos rfl]⟩
    · rw [uK l' n] at hy
      have hn := hcl l' hl' y hy
      rw [uO _ hn, f5, if_neg hn, f6, if_neg hn]
      exact pc l' hl' y hy
  · by_cases n : l' = l
    · subst n
      rw [up1_s, List.map_append, List.nodup_append]
      refine ⟨pn l' hl', by simp, fun x hx y hy => ?_⟩
      obtain ⟨r, hr, rfl⟩ := List.mem_map.mp hx
      simp at hy
      rw [hy]
      exact hcl l' hl' r hr
    · rw [uK l' n]; exact pn l' hl'
  · by_cases n : l' = l
    · subst n
      rw [up1_s, List.map_append, g2]
      by_cases m0 : (K l').length = 0
      · have : K l' = [] := List.eq_nil_of_length_eq_zero m0
        rw [this, if_pos ⟨rfl, rfl⟩]
        exact ⟨rfl, trivial⟩
      · rw [if_neg (fun y => m0 y.1)]
        obtain ⟨cs, ez⟩ := hz m0
        have hnd := pn l' hl'
        have hch := pch l' hl'
        rw [ez] at hnd hch ⊢
        refine Chn.app hch hnd (fun d hd => ?_) ?_
        · have hdz : d ≠ z := fun e2 => by
            rw [List.nodup_append] at hnd
            exact hnd.2.2 d hd z (by simp) e2
          have : d ∈ (K l').map Prod.fst := by rw [ez]; exact List.mem_append_left _ hd
          obtain ⟨r, hr, rfl⟩ := List.mem_map.mp this
          rw [f7, if_neg (fun y => hdz y.2), if_neg (hcl l' hl' r hr)]
        · rw [f7, if_pos ⟨m0, rfl⟩]
    · rw [uK l' n, g2, if_neg (fun y => n y.2)]
      refine (pch l' hl').cg fun x hx => ?_
      obtain ⟨r, hr, rfl⟩ := List.mem_map.mp hx
      rw [f7, if_neg, if_neg (hcl l' hl' r hr)]
      rintro ⟨m0, e2⟩
      have := (hzK m0).2.1
      rw [← e2, (pc l' hl' r hr).2.1] at this
      exact n this
  · by_cases n : l' = l
    · subst n
      rw [up1_s, List.map_append] at ez
      have := List.append_inj_right' ez (by simp)
      simp at this
      rw [g3, if_pos rfl, this]
    · rw [uK l' n] at ez
      rw [g3, if_neg n]
      exact pla l' hl' cs z' ez
  · by_cases n : l' = l
    · subst n
      rw [up1_s, g4, if_pos rfl, List.length_append, List.length_singleton]
    · rw [uK l' n, g4, if_neg n]; exact pma l' hl'
  · rw [g5]
    by_cases nf : f' = f
    · subst nf
      rw [if_pos rfl, bt_on _ (by omega) hg', pbu f' hf' g' hg']
      by_cases ng : g' = g
      · subst ng
        rw [hl, up1_s]
        simp [hg]
      · by_cases g16 : g' < 16
        · rw [uK _ (by omega)]; simp [ng]
        · simp [ng, g16]
    · rw [if_neg nf, pbu f' hf' g' hg']
      by_cases g16 : g' < 16
      · rw [uK _ (by omega)]
      · simp [g16]
  · rw [g6]
    by_cases n : k' = k
    · subst n; rw [if_pos rfl, up1_s, pse k' hk']
    · rw [if_neg n, up1_o _ _ _ n]; exact pse k' hk'
  · have := pf2 x hx
    rw [uO x (fun e2 => by rw [e2, hoc] at this; omega)]; exact this
  · rw [g1, if_neg (by decide)]
    refine pf3.cg fun x hx => ?_
    have := pf2 x hx
    rw [f7, if_neg, if_neg (fun e2 => by rw [e2, hoc] at this; omega)]
    rintro ⟨m0, e2⟩
    have h2 := (hzK m0).2.1
    rw [← e2, this.2] at h2
    omega
  · rw [g1, if_neg (by decide)]; exact pu1
  · rw [g1, if_neg (by decide)]; exact pt
  · rw [g1, if_pos rfl]
  · rw [up1_fst, List.map_append]
    have := flr_len_up (L := fun i => (K i).map Prod.snd) l1 ((K l).map Prod.snd ++ [(nI k, s, t)])
    simp only [List.length_append, List.length_singleton] at this
    simp only [List.map_cons, List.map_nil]
    omega
/-! ===== a row of letters made twice as long ===== -/
def gw1 (M : Mem) (a p j len : Nat) : Mem := sR (cpI (nw M 100 (2 * len) (2 * len)) a 0 (mN M) 0 len) p j (mN M)
theorem gw1_N (M : Mem) (a p j len : Nat) : mN (gw1 M a p j len) = mN M + 1 := rfl
theorem gw1_U (M : Mem) (a p j len : Nat) : mU (gw1 M a p j len) = mU M + 2 * len := rfl
theorem gw1_C (M : Mem) (a p j len : Nat) (i : Nat) : (gw1 M a p j len).1.2.1 i = if i = mN M then (100, 2 * len) else M.1.2.1 i := rfl
theorem gw1_R (M : Mem) (a p j len : Nat) {x : Nat} (y : Nat) (h : x ≠ mN M) : mR (gw1 M a p j len) x y = if x = p ∧ y = j then mN M else mR M x y := by
  show (if x = p ∧ y = j then mN M else (if x = mN M then NUL else M.1.2.2 x y)) = _
  rw [if_neg h]; rfl
theorem gw1_I (M : Mem) (a p j len : Nat) {x : Nat} (y : Nat) (h : x ≠ mN M) : mI (gw1 M a p j len) x y = mI M x y := by
  show (if x = mN M then va_cpy _ _ 0 0 len y else (if x = mN M then 0 else M.2.1 x y)) = _
  rw [if_neg h, if_neg h]; rfl
theorem gw1_J (M : Mem) (a p j len : Nat) {y : Nat} (h : a ≠ mN M) (hy : y < len) : mI (gw1 M a p j len) (mN M) y = mI M a y := by
  show (if mN M = mN M then va_cpy ((nw M 100 (2 * len) (2 * len)).2.1 a) ((nw M 100 (2 * len) (2 * len)).2.1 (mN M)) 0 0 len y else _) = _
  rw [if_pos rfl]
  have e := pk_cpy_in (f := (nw M 100 (2 * len) (2 * len)).2.1 a) (g := (nw M 100 (2 * len) (2 * len)).2.1 (mN M)) (sp := 0) (dp := 0) (n := len) (j := y) (Nat.zero_le _) (by omega)
  rw [e, Nat.zero_add, Nat.sub_zero]
  show (if a = mN M then 0 else M.2.1 a y) = _
  rw [if_neg h]; rfl
theorem gw1_L (M : Mem) (a p j len : Nat) {x : Nat} (y : Nat) (h : x ≠ mN M) : mL (gw1 M a p j len) x y = mL M x y := by
  show (if x = mN M then 0 else M.2.2 x y) = _
  rw [if_neg h]; rfl
theorem gw1_io {M : Mem} {a p j len : Nat} {c o : Nat} (h : isO M c o) : isO (gw1 M a p j len) c o := by
  refine ⟨by rw [gw1_N]; have := h.1; omega, ?_⟩
  rw [mC, gw1_C, if_neg (by have := h.1; omega)]; exact h.2
theorem gw1_new (M : Mem) (a p j len : Nat) : isO (gw1 M a p j len) 100 (mN M) := by
  refine ⟨by rw [gw1_N]; omega, ?_⟩
  rw [mC, gw1_C, if_pos rfl]
theorem gw1_ln {M : Mem} {a p j len : Nat} {o : Nat} (h : o ≠ mN M) : mLn (gw1 M a p j len) o = mLn M o := by
  rw [mLn, gw1_C, if_neg h]; rfl
theorem gw1_ln' (M : Mem) (a p j len : Nat) : mLn (gw1 M a p j len) (mN M) = 2 * len := by
  rw [mLn, gw1_C, if_pos rfl]
theorem n32 (n : Nat) : Int32.ofNat n = nI n := rfl
theorem f_copyOf {M : Mem} {a len : Nat} (ha : isO M 100 a) (hl : mLn M a = len) (h1 : 64 ≤ len) (h2 : len ≤ 1000000) (hN : mN M + 1 ≤ CAP) (hU : mU M + 2 * len ≤ CAPU) : f_J7_copyOf_59c91 a (nI (2 * len)) M = some (mN M, cpI (nw M 100 (2 * len) (2 * len)) a 0 (mN M) 0 len) := by
  have hne : a ≠ mN M := by have := ha.1; omega
  have l1 : mLn (nw M 100 (2 * len) (2 * len)) a = len := by
    show (if a = mN M then (100, 2 * len) else M.1.2.1 a).2 = len
    rw [if_neg hne]; exact hl
  have l2 : mLn (nw M 100 (2 * len) (2 * len)) (mN M) = 2 * len := by
    show (if mN M = mN M then (100, 2 * len) else M.1.2.1 (mN M)).2 = 2 * len
    rw [if_pos rfl]
  have c1 : (nI (2 * len)).toNatClampNeg = 2 * len := nI_clamp (by omega)
  rw [f_J7_copyOf_59c91, chk_t ha, hl, n32, if_neg (nI_ne (by omega) (by omega) (by omega)), chk_t (nI_pos (by omega)), chk_t (by rw [c1]; exact ⟨hN, hU⟩), bnd_e, c1, bnd_e, l1, n32, if_neg (nI_nlt (by omega) (by omega)), chk_t (by
    rw [l2]
    refine ⟨by decide, by decide, nI_pos (by omega), ?_, ?_⟩
    · rw [nI_clamp (by omega), show ((0 : Int32)).toNatClampNeg = 0 by decide]; omega
    · rw [nI_clamp (by omega), show ((0 : Int32)).toNatClampNeg = 0 by decide]; omega), bnd_e, nI_clamp (by omega), show ((0 : Int32)).toNatClampNeg = 0 by decide]
/-- room for a hall's rows of letters -/
def Rm (M : Mem) (h X Y : Nat) : Prop := mN M * 64 ≤ X + 3 * mLn M (mR M (h + 1) 5) ∧ mU M ≤ Y + 6 * mLn M (mR M (h + 1) 5) ∧ X ≤ 2000000 ∧ Y ≤ 6000000 ∧ ∃ z, mLn M (mR M (h + 1) 5) = 64 * 2 ^ z
theorem pw_dbl {a b : Nat} (ha : ∃ z, a = 64 * 2 ^ z) (hb : ∃ z, b = 64 * 2 ^ z) (h : a < b) : 2 * a ≤ b := by
  obtain ⟨x, rfl⟩ := ha
  obtain ⟨y, rfl⟩ := hb
  have hxy : x < y := by
    apply Decidable.byContradiction
    intro c
    have := Nat.pow_le_pow_right (n := 2) (by decide) (show y ≤ x by omega)
    omega
  have := Nat.pow_le_pow_right (n := 2) (by decide) (show x + 1 ≤ y by omega)
  rw [Nat.pow_succ] at this
  omega
/-- a hall's letters alone have changed -/
def FrP (M M' : Mem) (h : Nat) : Prop := mN M ≤ mN M' ∧ (∀ i, i < mN M → M'.1.2.1 i = M.1.2.1 i) ∧ (∀ a b, a < mN M → ¬ (a = h + 1 ∧ 5 ≤ b ∧ b ≤ 7) → mR M' a b = mR M a b) ∧ (∀ o, o < mN M → ¬ (h + 1 ≤ o ∧ o ≤ h + 6) → o ≠ mR M (h + 1) 5 → o ≠ mR M (h + 1) 6 → o ≠ mR M (h + 1) 7 → ∀ b, mI M' o b = mI M o b) ∧ (∀ o, o < mN M → ∀ b, mL M' o b = mL M o b) ∧ (∀ j, 5 ≤ j → j ≤ 7 → mR M' (h + 1) j = mR M (h + 1) j ∨ mN M ≤ mR M' (h + 1) j)
theorem FrP.rf (M : Mem) (h : Nat) : FrP M M h := ⟨Nat.le_refl _, fun _ _ => rfl, fun _ _ _ _ => rfl, fun _ _ _ _ _ _ _ => rfl, fun _ _ _ => rfl, fun _ _ _ => Or.inl rfl⟩
theorem FrP.tr {M M' M'' : Mem} {h : Nat} (p : FrP M M' h) (p' : FrP M' M'' h) : FrP M M'' h := by
  obtain ⟨a1, a2, a3, a4, a5, a6⟩ := p
  obtain ⟨b1, b2, b3, b4, b5, b6⟩ := p'
  refine ⟨Nat.le_trans a1 b1, fun i hi => (b2 i (by omega)).trans (a2 i hi), fun a b ha hn => (b3 a b (by omega) hn).trans (a3 a b ha hn), fun o ho h1 h5 h6 h7 b => ?_, fun o ho b => (b5 o (by omega) b).trans (a5 o ho b), fun j h5 h7 => ?_⟩
  · have n5 : o ≠ mR M' (h + 1) 5 := by rcases a6 5 (by decide) (by decide) with e | e <;> omega
    have n6 : o ≠ mR M' (h + 1) 6 := by rcases a6 6 (by decide) (by decide) with e | e <;> omega
    have n7 : o ≠ mR M' (h + 1) 7 := by rcases a6 7 (by decide) (by decide) with e | e <;> omega
    exact (b4 o (by omega) h1 n5 n6 n7 b).trans (a4 o ho h1 h5 h6 h7 b)
  · rcases b6 j h5 h7 with e | e
    · rcases a6 j h5 h7 with e2 | e2
      · exact Or.inl (e.trans e2)
      · exact Or.inr (by omega)
    · exact Or.inr (by omega)
theorem CS.gw {M : Mem} {h : Nat} (q : CS M h) {a j len : Nat} (hj : 5 ≤ j) : CS (gw1 M a (h + 1) j len) h := by
  obtain ⟨c1, c2, c3, c4, c5, c6, c7⟩ := q
  refine ⟨fun i hi hn => ?_, fun z hz => ?_, ?_, gw1_io c4, c5, c6, by rw [gw1_N]; omega⟩
  · rw [gw1_C, if_neg (by omega)]; exact c1 i hi hn
  · have hb : z.1 < 49 ∧ ¬ (z.1 = 1 ∧ 5 ≤ z.2.1) := by
      have : ∀ z, z ∈ tH → z.1 < 49 ∧ ¬ (z.1 = 1 ∧ 5 ≤ z.2.1) := by decide
      exact this z hz
    rw [gw1_R _ _ _ _ _ _ (by omega), if_neg (by omega)]; exact c2 z hz
  · rw [gw1_R _ _ _ _ _ _ (by omega), if_neg (by omega)]; exact c3
/-! ===== the class puts a letter ===== -/
theorem PW.cg {M M' : Mem} {h d5 d6 d7 len e5 e6 e7 len' : Nat} {t : Int32} {se : Nat → Int32} {K : Nat → List (Nat × Ltr)} {fr : List Nat} {us : Nat} {ow : Nat → Nat} {e : Nat} (p : PW M h d5 d6 d7 len t se K fr us ow e) (w : DS M' h e5 e6 e7 len') (hle : len ≤ len') (hlim : len' ≤ 18000) (hi : ∀ i, 1 ≤ i → i ≤ 6 → ∀ b, mI M' (h + i) b = mI M (h + i) b) (g5 : ∀ b, b < len → mI M' e5 b = mI M d5 b) (g6 : ∀ b, b < len → mI M' e6 b = mI M d6 b) (g7 : ∀ b, b < len → mI M' e7 b = mI M d7 b) : PW M' h e5 e6 e7 len' t se K fr us ow e := by
  obtain ⟨w0, pc, pn, pch, pla, pma, pbu, pse, ⟨pf1, pf2, pf3⟩, ⟨pu1, pu2, pu3, pu4, pu5⟩, pt, tot, pt1, pt2, pt3⟩ := p
  have hlt : ∀ l, l < 256 → ∀ x, x ∈ (K l).map Prod.fst → x < len := fun l hl x hx => by
    obtain ⟨y, hy, rfl⟩ := List.mem_map.mp hx
    have := (pc l hl y hy).1
    omega
  refine ⟨w, fun l hl y hy => ?_, pn, fun l hl => ?_, fun l hl cs z ez => ?_, fun l hl => ?_, fun f hf g hg => ?_, fun k hk => ?_, ⟨pf1, pf2, ?_⟩, ⟨?_, by omega, pu3, hlim, by omega⟩, ?_, tot, ?_, pt2, pt3⟩
  · have := pc l hl y hy
    rw [g5 _ (by omega), g6 _ (by omega)]; exact this
  · rw [hi 2 (by decide) (by decide)]
    exact (pch l hl).cg fun x hx => g7 x (hlt l hl x hx)
  · rw [hi 3 (by decide) (by decide)]; exact pla l hl cs z ez
  · rw [hi 4 (by decide) (by decide)]; exact pma l hl
  · rw [hi 5 (by decide) (by decide)]; exact pbu f hf g hg
  · rw [hi 6 (by decide) (by decide)]; exact pse k hk
  · rw [hi 1 (by decide) (by decide)]
    exact pf3.cg fun x hx => g7 x (by have := (pf2 x hx).1; omega)
  · rw [hi 1 (by decide) (by decide)]; exact pu1
  · rw [hi 1 (by decide) (by decide)]; exact pt
  · rw [hi 1 (by decide) (by decide)]; exact pt1
set_option maxHeartbeats 2000000 in
theorem PW.p81 {M : Mem} {h d5 d6 d7 len : Nat} {t : Int32} {se : Nat → Int32} {K : Nat → List (Nat × Ltr)} {fr : List Nat} {us : Nat} {ow : Nat → Nat} (q : CS M h) (p : PW M h d5 d6 d7 len t se K fr us ow 0) (hfr : fr = [] → us < len ∧ us < 9000) {k f g : Nat} {s : Int32} (hk : k < 6) (hf : f < 16) (hg : g < 16) : ∃ M' fr' us' ow' c, f_X5_put_81 (h + 1) (nI k) (nI f) (nI g) s M = some M' ∧ PW M' h d5 d6 d7 len t (up1 se k (se k + 1)) (up1 K (16 * f + g) (K (16 * f + g) ++ [(c, (nI k, s, t))])) fr' us' ow' 0 ∧ M'.1 = M.1 ∧ (∀ o b, mL M' o b = mL M o b) ∧ (∀ o, ¬ (h + 1 ≤ o ∧ o ≤ h + 6) → o ≠ d5 → o ≠ d6 → o ≠ d7 → ∀ b, mI M' o b = mI M o b) := by
  obtain ⟨w, pc, pn, pch, pla, pma, pbu, pse, ⟨pf1, pf2, pf3⟩, ⟨pu1, pu2, pu3, pu4, pu5⟩, pt, tot, pt1, pt2, pt3⟩ := id p
  have wd := w.2.2.2
  have hq := q.2.2.2.2
  have n1 : h + 1 ≠ d5 ∧ h + 1 ≠ d6 ∧ h + 1 ≠ d7 := by omega
  have ch0 : ∀ l c, l < 256 → (¬ ∃ y, y ∈ K l ∧ y.1 = c) → True := fun _ _ _ _ => trivial
  cases hfc : fr with
  | nil =>
    obtain ⟨hus, hus9⟩ := hfr hfc
    rw [hfc] at pf1 pf2 pf3 pt2
    have e9 : mI M (h + 1) 9 = -1 := pf3
    generalize hMa : sI M (h + 1) 8 (nI (us + 1)) = Ma
    have sa : Ma.1 = M.1 := by rw [← hMa]; rfl
    have qa := q.e sa
    have oa : ∀ o, o ≠ h + 1 → ∀ b, mI Ma o b = mI M o b := fun o n b => by rw [← hMa, mI_o _ _ _ _ _ n]
    have ob : ∀ b, b ≠ 8 → mI Ma (h + 1) b = mI M (h + 1) b := fun b n => by rw [← hMa, mI_n _ _ _ _ n]
    have pa : PW Ma h d5 d6 d7 len t se K [] (us + 1) (up1 ow us 257) 1 := by
      refine ⟨w.e sa, fun l hl y hy => ?_, pn, fun l hl => ?_, fun l hl cs z ez => ?_, fun l hl => ?_, fun f hf g hg => ?_, fun k hk => ?_, ⟨List.nodup_nil, fun c hc => by simp at hc, ?_⟩, ⟨?_, by omega, by omega, pu4, pu5⟩, ?_, tot, ?_, ?_, pt3⟩
      · have := pc l hl y hy
        rw [oa _ n1.1.symm, oa _ n1.2.1.symm, up1_o _ _ _ (by omega)]
        exact ⟨by omega, this.2⟩
      · rw [oa _ (by omega)]
        exact (pch l hl).cg fun x _ => oa _ n1.2.2.symm x
      · rw [oa _ (by omega)]; exact pla l hl cs z ez
      · rw [oa _ (by omega)]; exact pma l hl
      · rw [oa _ (by omega)]; exact pbu f hf g hg
      · rw [oa _ (by omega)]; exact pse k hk
      · rw [ob _ (by decide)]; exact e9
      · rw [← hMa, mI_s]
      · rw [ob _ (by decide)]; exact pt
      · rw [ob _ (by decide)]; exact pt1
      · simp only [List.length_nil] at pt2 ⊢; omega
    obtain ⟨M', e', p', m1, m2, m3⟩ := pa.put (s := s) qa (c := us) (by omega) (up1_s _ _ _) hk hf hg
    refine ⟨M', [], us + 1, _, us, ?_, p', m1.trans sa, fun o b => ?_, fun o z1 z5 z6 z7 b => ?_⟩
    · rw [f_X5_put_81, cs_p q, e9, if_pos rfl, pu1, bnd_e, nI_1, hMa, bnd_e, f_X5_put_107, cs_p qa, ob 9 (by decide), e9, if_neg (fun z => m1_ne' 0 (by decide) (by
        have h1 := nI_pos (n := us) (by omega)
        rw [z] at h1
        exact absurd (by decide) h1)), e']
    · rw [m2, ← hMa]; rfl
    · rw [m3 o z1 z5 z6 z7, oa _ (by omega)]
  | cons c cs =>
    rw [hfc] at pf1 pf2 pf3 pt2
    have hcu := pf2 c (by simp)
    have e9 : mI M (h + 1) 9 = nI c := pf3.1
    generalize hMa : sI M (h + 1) 9 (mI M d7 c) = Ma
    have sa : Ma.1 = M.1 := by rw [← hMa]; rfl
    have qa := q.e sa
    have oa : ∀ o, o ≠ h + 1 → ∀ b, mI Ma o b = mI M o b := fun o n b => by rw [← hMa, mI_o _ _ _ _ _ n]
    have ob : ∀ b, b ≠ 9 → mI Ma (h + 1) b = mI M (h + 1) b := fun b n => by rw [← hMa, mI_n _ _ _ _ n]
    have hnd := List.nodup_cons.mp pf1
    have pa : PW Ma h d5 d6 d7 len t se K cs us (up1 ow c 257) 1 := by
      refine ⟨w.e sa, fun l hl y hy => ?_, pn, fun l hl => ?_, fun l hl cs z ez => ?_, fun l hl => ?_, fun f hf g hg => ?_, fun k hk => ?_, ⟨hnd.2, fun x hx => ?_, ?_⟩, ⟨?_, pu2, pu3, pu4, pu5⟩, ?_, tot, ?_, ?_, pt3⟩
      · have := pc l hl y hy
        have hyc : y.1 ≠ c := fun z => by rw [z, hcu.2] at this; omega
        rw [oa _ n1.1.symm, oa _ n1.2.1.symm, up1_o _ _ _ hyc]
        exact this
      · rw [oa _ (by omega)]
        exact (pch l hl).cg fun x _ => oa _ n1.2.2.symm x
      · rw [oa _ (by omega)]; exact pla l hl cs z ez
      · rw [oa _ (by omega)]; exact pma l hl
      · rw [oa _ (by omega)]; exact pbu f hf g hg
      · rw [oa _ (by omega)]; exact pse k hk
      · have hxc : x ≠ c := fun z => hnd.1 (z ▸ hx)
        rw [up1_o _ _ _ hxc]
        exact pf2 x (by simp [hx])
      · rw [← hMa, mI_s, hMa]
        exact pf3.2.cg fun x _ => oa _ n1.2.2.symm x
      · rw [ob _ (by decide)]; exact pu1
      · rw [ob _ (by decide)]; exact pt
      · rw [ob _ (by decide)]; exact pt1
      · simp only [List.length_cons] at pt2; omega
    obtain ⟨M', e', p', m1, m2, m3⟩ := pa.put (s := s) qa (c := c) hcu.1 (up1_s _ _ _) hk hf hg
    refine ⟨M', cs, us, _, c, ?_, p', m1.trans sa, fun o b => ?_, fun o z1 z5 z6 z7 b => ?_⟩
    · have w17 := w.1
      rw [f_X5_put_81, cs_p q, e9, if_neg (fun z => by
        have h1 := nI_pos (n := c) (by omega)
        rw [z] at h1
        exact absurd (by decide) h1), f_X5_put_107, cs_p q, e9, if_pos rfl, w17.2.2, bnd_e, w.c (Or.inr (Or.inr rfl)), w.i (Or.inr (Or.inr rfl)) (by omega) (by omega), mI_d (by omega), hMa, bnd_e, e']
    · rw [m2, ← hMa]; rfl
    · rw [m3 o z1 z5 z6 z7, oa _ (by omega)]
theorem xR_sn16 (t : Int32) (k f g : Nat) (s : Int32) (S : St) : xR (sn t k f g s S) 16 = up1 (xR S 16) k (xR S 16 k + 1) := by
  funext i
  unfold sn
  rw [xR_uL, xR_uR]
  unfold up1
  by_cases e : i = k
  · rw [if_pos ⟨rfl, e⟩, if_pos e]
  · rw [if_neg (fun z => e z.2), if_neg e]
theorem PV.len {M : Mem} {h : Nat} {t : Int32} {S : St} {d5 d6 d7 len : Nat} {K : Nat → List (Nat × Ltr)} {fr : List Nat} {us : Nat} {ow : Nat → Nat} {e : Nat} (p : PW M h d5 d6 d7 len t (xR S 16) K fr us ow e) (hK : ∀ l, l < 256 → (K l).map Prod.snd = xL S l) : mI M (h + 1) 10 = nI (fl S).length ∧ us = (fl S).length + fr.length + e := by
  obtain ⟨tot, pt1, pt2, pt3⟩ := p.2.2.2.2.2.2.2.2.2.2.2
  have : tot = (fl S).length := by
    rw [pt3, fl_r]
    unfold flr
    refine congrArg List.length (fm_cg _ fun l hl => ?_)
    show ((K l).map Prod.snd).map (fun x => (l, x)) = _
    rw [hK l (by have := List.mem_range'_1.mp hl; omega)]
  rw [← this]
  exact ⟨pt1, pt2⟩
theorem cp_io {M : Mem} {a len c o : Nat} (h : isO M c o) : isO (cpI (nw M 100 (2 * len) (2 * len)) a 0 (mN M) 0 len) c o := gw1_io (a := a) (p := 0) (j := 0) h
theorem cp_new (M : Mem) (a len : Nat) : isO (cpI (nw M 100 (2 * len) (2 * len)) a 0 (mN M) 0 len) 100 (mN M) := gw1_new M a 0 0 len
set_option maxHeartbeats 4000000 in
theorem PV.put {M : Mem} {h X Y : Nat} {t : Int32} {S : St} (q : CS M h) (p : PV M h t S) (rm : Rm M h X Y) (hl : (fl S).length < 9000) {k f g : Nat} {s : Int32} (hk : k < 6) (hf : f < 16) (hg : g < 16) : ∃ M', f_X5_put (h + 1) (nI k) (nI f) (nI g) s M = some M' ∧ CS M' h ∧ PV M' h t (sn t k f g s S) ∧ Rm M' h X Y ∧ FrP M M' h := by
  obtain ⟨d5, d6, d7, len, K, fr, us, ow, p, hK⟩ := p
  obtain ⟨et, eu⟩ := PV.len p hK
  obtain ⟨w, pc, pn, pch, pla, pma, pbu, pse, ⟨pf1, pf2, pf3⟩, ⟨pu1, pu2, pu3, pu4, pu5⟩, pt, _⟩ := id p
  obtain ⟨⟨w5, w6, w7⟩, ⟨v5, v6, v7⟩, ⟨u5, u6, u7⟩, wd⟩ := id w
  obtain ⟨r1, r2, r3, r4, r5⟩ := rm
  rw [w5, u5] at r1 r2 r5
  have hq := q.2.2.2.2
  have fin : ∀ (M0 : Mem) (d5 d6 d7 len : Nat), CS M0 h → PW M0 h d5 d6 d7 len t (xR S 16) K fr us ow 0 → (fr = [] → us < len ∧ us < 9000) → Rm M0 h X Y → FrP M M0 h → ∃ M', f_X5_put_81 (h + 1) (nI k) (nI f) (nI g) s M0 = some M' ∧ CS M' h ∧ PV M' h t (sn t k f g s S) ∧ Rm M' h X Y ∧ FrP M M' h := by
    intro M0 d5 d6 d7 len q0 p0 hfr0 rm0 f0
    obtain ⟨M', fr', us', ow', c, e', p', m1, m2, m3⟩ := p0.p81 (s := s) q0 hfr0 hk hf hg
    obtain ⟨⟨w5, w6, w7⟩, _⟩ := p0.1
    refine ⟨M', e', q0.e m1, ⟨d5, d6, d7, len, _, fr', us', ow', by rw [xR_sn16]; exact p', fun l hl => ?_⟩, ?_, FrP.tr f0 ⟨?_, fun i _ => by rw [m1], fun a b _ _ => by unfold mR; rw [m1], fun o _ n1 n5 n6 n7 b => m3 o n1 (by rw [← w5]; exact n5) (by rw [← w6]; exact n6) (by rw [← w7]; exact n7) b, fun o _ b => m2 o b, fun j _ _ => Or.inl (by unfold mR; rw [m1])⟩⟩
    · rw [sn_L]
      by_cases e : l = 16 * f + g
      · rw [if_pos e, e, up1_s, List.map_append, hK _ (by omega)]; rfl
      · rw [if_neg e, up1_o _ _ _ e]; exact hK l hl
    · unfold Rm mN mU mLn mR at rm0 ⊢
      rw [m1]; exact rm0
    · unfold mN; rw [m1]; exact Nat.le_refl _
  have c0 : f_X5_put (h + 1) (nI k) (nI f) (nI g) s M = if mI M (h + 1) 9 = (-1 : Int32) then (if nI us < nI len then f_X5_put_81 (h + 1) (nI k) (nI f) (nI g) s M else obd2 (f_J7_copyOf_59c91 d5 (nI us * (2 : Int32)) M) fun r15 M16 => chk (isO M16 5 (h + 1)) <| chk (isO M16 100 r15) <| bnd (sR M16 (h + 1) 5 r15) fun M18 => bnd (mR M18 (h + 1) 6) fun o23 => chk (isO M18 100 o23) <| obd2 (f_J7_copyOf_59c91 o23 ((mI M18 (h + 1) 8) * (2 : Int32)) M18) fun r27 M28 => chk (isO M28 5 (h + 1)) <| chk (isO M28 100 r27) <| bnd (sR M28 (h + 1) 6 r27) fun M30 => bnd (mR M30 (h + 1) 7) fun o35 => chk (isO M30 100 o35) <| obd2 (f_J7_copyOf_59c91 o35 ((mI M30 (h + 1) 8) * (2 : Int32)) M30) fun r39 M40 => chk (isO M40 5 (h + 1)) <| chk (isO M40 100 r39) <| bnd (sR M40 (h + 1) 7 r39) fun M42 => f_X5_put_81 (h + 1) (nI k) (nI f) (nI g) s M42) else f_X5_put_81 (h + 1) (nI k) (nI f) (nI g) s M := by
    rw [f_X5_put, cs_p q, et, if_pos (by rw [show (131072 : Int32) = nI 131072 from rfl]; exact nI_lt (by omega) (by decide))]
    by_cases e : mI M (h + 1) 9 = -1
    · rw [if_pos e, if_pos e, w5, bnd_e, w.c (Or.inl rfl), u5, n32, pu1]
      by_cases e2 : nI us < nI len
      · rw [if_pos e2, if_pos e2]
      · rw [if_neg e2, if_neg e2, bnd_e, w.c (Or.inl rfl)]
    · rw [if_neg e, if_neg e]
  rw [c0]
  by_cases e9 : mI M (h + 1) 9 = -1
  · rw [if_pos e9]
    have hfr : fr = [] := by
      cases fr with
      | nil => rfl
      | cons c cs =>
        have h9 : mI M (h + 1) 9 = nI c := pf3.1
        have h1 := nI_pos (n := c) (by have := pf2 c (by simp); omega)
        rw [← h9, e9] at h1
        exact absurd (by decide) h1
    rw [hfr, List.length_nil] at eu
    by_cases e2 : us < len
    · rw [if_pos (nI_lt e2 (by omega))]
      exact fin M d5 d6 d7 len q p (fun _ => ⟨e2, by omega⟩) ⟨by rw [w5, u5]; exact r1, by rw [w5, u5]; exact r2, r3, r4, by rw [w5, u5]; exact r5⟩ (FrP.rf M h)
    · have eul : us = len := by omega
      rw [if_neg (nI_nlt (by omega) (by omega)), eul]
      have em : nI len * (2 : Int32) = nI (2 * len) := by rw [show (2 : Int32) = nI 2 from rfl, pk_mul, Nat.mul_comm]
      have pu1' : mI M (h + 1) 8 = nI len := by rw [← eul]; exact pu1
      have hN : mN M + 3 ≤ CAP := by unfold CAP; omega
      have hU : mU M + 6 * len ≤ CAPU := by unfold CAPU; omega
      generalize hG1 : gw1 M d5 (h + 1) 5 len = G1
      have N1 : mN G1 = mN M + 1 := by rw [← hG1]; rfl
      have U1 : mU G1 = mU M + 2 * len := by rw [← hG1]; rfl
      have q1 : CS G1 h := by rw [← hG1]; exact q.gw (by decide)
      have R1 : ∀ a b, a < mN M → mR G1 a b = if a = h + 1 ∧ b = 5 then mN M else mR M a b := fun a b ha => by rw [← hG1]; exact gw1_R _ _ _ _ _ _ (by omega)
      have I1 : ∀ o, o < mN M → ∀ b, mI G1 o b = mI M o b := fun o ho b => by rw [← hG1]; exact gw1_I _ _ _ _ _ _ (by omega)
      have J1 : ∀ b, b < len → mI G1 (mN M) b = mI M d5 b := fun b hb => by rw [← hG1]; exact gw1_J _ _ _ _ _ (by have := v5.1; omega) hb
      have C1 : ∀ i, i < mN M → G1.1.2.1 i = M.1.2.1 i := fun i hi => by rw [← hG1, gw1_C, if_neg (by omega)]
      have L1 : ∀ o, o < mN M → ∀ b, mL G1 o b = mL M o b := fun o ho b => by rw [← hG1]; exact gw1_L _ _ _ _ _ _ (by omega)
      have K1 : G1.1.2.1 (mN M) = (100, 2 * len) := by rw [← hG1, gw1_C, if_pos rfl]
      generalize hG2 : gw1 G1 d6 (h + 1) 6 len = G2
      have N2 : mN G2 = mN M + 2 := by rw [← hG2, gw1_N, N1]
      have U2 : mU G2 = mU M + 4 * len := by rw [← hG2, gw1_U, U1]; omega
      have q2 : CS G2 h := by rw [← hG2]; exact q1.gw (by decide)
      have R2 : ∀ a b, a < mN G1 → mR G2 a b = if a = h + 1 ∧ b = 6 then mN G1 else mR G1 a b := fun a b ha => by rw [← hG2]; exact gw1_R _ _ _ _ _ _ (by omega)
      have I2 : ∀ o, o < mN G1 → ∀ b, mI G2 o b = mI G1 o b := fun o ho b => by rw [← hG2]; exact gw1_I _ _ _ _ _ _ (by omega)
      have J2 : ∀ b, b < len → mI G2 (mN G1) b = mI G1 d6 b := fun b hb => by rw [← hG2]; exact gw1_J _ _ _ _ _ (by have := v6.1; omega) hb
      have C2 : ∀ i, i < mN G1 → G2.1.2.1 i = G1.1.2.1 i := fun i hi => by rw [← hG2, gw1_C, if_neg (by omega)]
      have L2 : ∀ o, o < mN G1 → ∀ b, mL G2 o b = mL G1 o b := fun o ho b => by rw [← hG2]; exact gw1_L _ _ _ _ _ _ (by omega)
      have K2 : G2.1.2.1 (mN G1) = (100, 2 * len) := by rw [← hG2, gw1_C, if_pos rfl]
      generalize hG3 : gw1 G2 d7 (h + 1) 7 len = G3
      have N3 : mN G3 = mN M + 3 := by rw [← hG3, gw1_N, N2]
      have U3 : mU G3 = mU M + 6 * len := by rw [← hG3, gw1_U, U2]; omega
      have q3 : CS G3 h := by rw [← hG3]; exact q2.gw (by decide)
      have R3 : ∀ a b, a < mN G2 → mR G3 a b = if a = h + 1 ∧ b = 7 then mN G2 else mR G2 a b := fun a b ha => by rw [← hG3]; exact gw1_R _ _ _ _ _ _ (by omega)
      have I3 : ∀ o, o < mN G2 → ∀ b, mI G3 o b = mI G2 o b := fun o ho b => by rw [← hG3]; exact gw1_I _ _ _ _ _ _ (by omega)
      have J3 : ∀ b, b < len → mI G3 (mN G2) b = mI G2 d7 b := fun b hb => by rw [← hG3]; exact gw1_J _ _ _ _ _ (by have := v7.1; omega) hb
      have C3 : ∀ i, i < mN G2 → G3.1.2.1 i = G2.1.2.1 i := fun i hi => by rw [← hG3, gw1_C, if_neg (by omega)]
      have L3 : ∀ o, o < mN G2 → ∀ b, mL G3 o b = mL G2 o b := fun o ho b => by rw [← hG3]; exact gw1_L _ _ _ _ _ _ (by omega)
      have K3 : G3.1.2.1 (mN G2) = (100, 2 * len) := by rw [← hG3, gw1_C, if_pos rfl]
      have b5 := v5.1; have b6 := v6.1; have b7 := v7.1
      have z5 : mR G3 (h + 1) 5 = mN M := by rw [R3 _ _ (by omega), if_neg (by omega), R2 _ _ (by omega), if_neg (by omega), R1 _ _ (by omega), if_pos ⟨rfl, rfl⟩]
      have z6 : mR G3 (h + 1) 6 = mN M + 1 := by rw [R3 _ _ (by omega), if_neg (by omega), R2 _ _ (by omega), if_pos ⟨rfl, rfl⟩, N1]
      have z7 : mR G3 (h + 1) 7 = mN M + 2 := by rw [R3 _ _ (by omega), if_pos ⟨rfl, rfl⟩, N2]
      have y5 : G3.1.2.1 (mN M) = (100, 2 * len) := by rw [C3 _ (by omega), C2 _ (by omega), K1]
      have y6 : G3.1.2.1 (mN M + 1) = (100, 2 * len) := by rw [C3 _ (by omega), ← N1, K2]
      have y7 : G3.1.2.1 (mN M + 2) = (100, 2 * len) := by rw [← N2, K3]
      have w3 : DS G3 h (mN M) (mN M + 1) (mN M + 2) (2 * len) := by
        refine ⟨⟨z5, z6, z7⟩, ⟨⟨by omega, ?_⟩, ⟨by omega, ?_⟩, ⟨by omega, ?_⟩⟩, ⟨?_, ?_, ?_⟩, by omega⟩
        · rw [mC, y5]
        · rw [mC, y6]
        · rw [mC, y7]
        · rw [mLn, y5]
        · rw [mLn, y6]
        · rw [mLn, y7]
      have I : ∀ o, o < mN M → ∀ b, mI G3 o b = mI M o b := fun o ho b => by rw [I3 _ (by omega), I2 _ (by omega), I1 _ ho]
      have p3 : PW G3 h (mN M) (mN M + 1) (mN M + 2) (2 * len) t (xR S 16) K fr us ow 0 := by
        refine p.cg w3 (by omega) (by omega) (fun i _ _ b => I _ (by omega) b) (fun b hb => ?_) (fun b hb => ?_) (fun b hb => ?_)
        · rw [I3 _ (by omega), I2 _ (by omega), J1 b hb]
        · rw [I3 _ (by omega), ← N1, J2 b hb, I1 _ b6]
        · rw [← N2, J3 b hb, I2 _ (by omega), I1 _ b7]
      obtain ⟨M', e', g1, g2, g3, g4⟩ := fin G3 _ _ _ _ q3 p3 (fun _ => by omega) ⟨by rw [z5, mLn, y5, N3]; show (mN M + 3) * 64 ≤ X + 3 * (2 * len); omega, by rw [z5, mLn, y5, U3]; show mU M + 6 * len ≤ Y + 6 * (2 * len); omega, r3, r4, by rw [z5, mLn, y5]; obtain ⟨z, ez⟩ := r5; exact ⟨z + 1, by show 2 * len = _; rw [ez, Nat.pow_succ]; omega⟩⟩ ⟨by omega, fun i hi => by rw [C3 _ (by omega), C2 _ (by omega), C1 _ hi], fun a b ha hn => by rw [R3 _ _ (by omega), if_neg (by omega), R2 _ _ (by omega), if_neg (by omega), R1 _ _ ha, if_neg (by omega)], fun o ho _ _ _ _ b => I o ho b, fun o ho b => by rw [L3 _ (by omega), L2 _ (by omega), L1 _ ho], fun j h5 h7 => by
        rcases (show j = 5 ∨ j = 6 ∨ j = 7 by omega) with rfl | rfl | rfl
        · right; rw [z5]; exact Nat.le_refl _
        · right; rw [z6]; omega
        · right; rw [z7]; omega⟩
      refine ⟨M', ?_, g1, g2, g3, g4⟩
      have f1 := f_copyOf (M := M) v5 u5 (by omega) (by omega) (by omega) (by omega)
      have f2 := f_copyOf (M := G1) (a := d6) (len := len) ⟨by omega, by rw [mC, C1 _ b6]; exact v6.2⟩ (by rw [mLn, C1 _ b6]; exact u6) (by omega) (by omega) (by omega) (by omega)
      have f3 := f_copyOf (M := G2) (a := d7) (len := len) ⟨by omega, by rw [mC, C2 _ (by omega), C1 _ b7]; exact v7.2⟩ (by rw [mLn, C2 _ (by omega), C1 _ b7]; exact u7) (by omega) (by omega) (by omega) (by omega)
      have i0 : isO M 5 (h + 1) := q.io (i := 1) (by decide) (by decide) (by decide)
      have i1 : isO G1 5 (h + 1) := q1.io (i := 1) (by decide) (by decide) (by decide)
      have i2 : isO G2 5 (h + 1) := q2.io (i := 1) (by decide) (by decide) (by decide)
      have e6 : mR G1 (h + 1) 6 = d6 := by rw [R1 _ _ (by omega), if_neg (by omega)]; exact w6
      have e7 : mR G2 (h + 1) 7 = d7 := by rw [R2 _ _ (by omega), if_neg (by omega), R1 _ _ (by omega), if_neg (by omega)]; exact w7
      have s1 : mI G1 (h + 1) 8 = nI len := by rw [I1 _ (by omega)]; exact pu1'
      have s2 : mI G2 (h + 1) 8 = nI len := by rw [I2 _ (by omega)]; exact s1
      have o6 : isO G1 100 d6 := ⟨by omega, by rw [mC, C1 _ b6]; exact v6.2⟩
      have o7 : isO G2 100 d7 := ⟨by omega, by rw [mC, C2 _ (by omega), C1 _ b7]; exact v7.2⟩
      rw [em, f1, obd2_s, chk_t (cp_io i0), chk_t (cp_new M d5 len), show sR (cpI (nw M 100 (2 * len) (2 * len)) d5 0 (mN M) 0 len) (h + 1) 5 (mN M) = G1 from hG1, bnd_e, e6, bnd_e, chk_t o6, s1, em, f2, obd2_s, chk_t (cp_io i1), chk_t (cp_new G1 d6 len), show sR (cpI (nw G1 100 (2 * len) (2 * len)) d6 0 (mN G1) 0 len) (h + 1) 6 (mN G1) = G2 from hG2, bnd_e, e7, bnd_e, chk_t o7, s2, em, f3, obd2_s, chk_t (cp_io i2), chk_t (cp_new G2 d7 len), show sR (cpI (nw G2 100 (2 * len) (2 * len)) d7 0 (mN G2) 0 len) (h + 1) 7 (mN G2) = G3 from hG3, bnd_e]
      exact e'
  · rw [if_neg e9]
    refine fin M d5 d6 d7 len q p (fun z => absurd ?_ e9) ⟨by rw [w5, u5]; exact r1, by rw [w5, u5]; exact r2, r3, r4, by rw [w5, u5]; exact r5⟩ (FrP.rf M h)
    rw [z] at pf3
    exact pf3
/-! ===== the class takes a letter ===== -/
set_option maxHeartbeats 1000000 in
theorem ftake {M : Mem} {h d5 d6 d7 len l c f g m tot : Nat} {y : Int32} (q : CS M h) (w : DS M h d5 d6 d7 len) (hl : 16 * f + g = l) (hc : c < len) (hln : len < 20000) (hf : f < 16) (hg : g < 16) (hm : mI M (h + 4) l = nI (m + 1)) (hm2 : m < 20000) (hfi : mI M (h + 2) l = nI c) (htot : mI M (h + 1) 10 = nI (tot + 1)) (hy : mI M (h + 1) 9 = y) : ∃ M', f_X5_takeFirst (h + 1) (nI f) (nI g) M = some (mI M d5 c, M') ∧ M'.1 = M.1 ∧ (∀ o b, mL M' o b = mL M o b) ∧ (∀ b, mI M' d7 b = if b = c then y else mI M d7 b) ∧ (∀ b, mI M' (h + 2) b = if b = l then mI M d7 c else mI M (h + 2) b) ∧ (∀ b, mI M' (h + 4) b = if b = l then nI m else mI M (h + 4) b) ∧ (∀ b, mI M' (h + 5) b = if m = 0 ∧ b = f then bof (mI M (h + 5) f) g else mI M (h + 5) b) ∧ (∀ b, mI M' (h + 1) b = if b = 10 then nI tot else if b = 9 then nI c else mI M (h + 1) b) ∧ (∀ o, o ≠ h + 1 → o ≠ h + 2 → o ≠ h + 4 → o ≠ h + 5 → o ≠ d7 → ∀ b, mI M' o b = mI M o b) := by
  obtain ⟨⟨w1, w2, w3⟩, wi, wl, x5, x6, x7, x56, x57, x67⟩ := id w
  have hq := q.2.2.2.2
  have l1 : l < 256 := by omega
  have h7 : ∀ i, i < 7 → h + i ≠ d7 := fun i hi => by omega
  have h5 : ∀ i, i < 7 → h + i ≠ d5 := fun i hi => by omega
  have fin : ∀ Mc : Mem, Mc.1 = M.1 → (∀ o b, mL Mc o b = mL M o b) → (∀ o, o ≠ h + 2 → o ≠ h + 4 → o ≠ h + 5 → ∀ b, mI Mc o b = mI M o b) → ∃ M', f_X5_takeFirst_72 (h + 1) (nI c) Mc = some (mI M d5 c, M') ∧ M'.1 = M.1 ∧ (∀ o b, mL M' o b = mL M o b) ∧ (∀ b, mI M' d7 b = if b = c then y else mI M d7 b) ∧ (∀ b, mI M' (h + 1) b = if b = 10 then nI tot else if b = 9 then nI c else mI M (h + 1) b) ∧ (∀ o, o ≠ h + 1 → o ≠ d7 → ∀ b, mI M' o b = mI Mc o b) := by
    intro Mc sc lc oc
    generalize hMd : sI Mc d7 c y = Md
    generalize hMe : sI Md (h + 1) 9 (nI c) = Me
    generalize hMf : sI Me (h + 1) 10 (nI tot) = Mf
    have sd : Md.1 = M.1 := by rw [← hMd]; exact sc
    have se : Me.1 = M.1 := by rw [← hMe]; exact sd
    have sf : Mf.1 = M.1 := by rw [← hMf]; exact se
    have wc := (w.e sc).1
    have wf := (w.e sf).1
    have y1 : mI Mc (h + 1) 9 = y := by rw [oc _ (by omega) (by omega) (by omega)]; exact hy
    have y2 : mI Me (h + 1) 10 = nI (tot + 1) := by rw [← hMe, mI_n _ _ _ _ (by decide), ← hMd, mI_o _ _ _ _ _ (h7 1 (by decide)), oc _ (by omega) (by omega) (by omega)]; exact htot
    have y3 : ∀ o, o ≠ h + 1 → o ≠ d7 → ∀ b, mI Mf o b = mI Mc o b := fun o n1 n7 b => by rw [← hMf, mI_o _ _ _ _ _ n1, ← hMe, mI_o _ _ _ _ _ n1, ← hMd, mI_o _ _ _ _ _ n7]
    refine ⟨Mf, ?_, sf, fun o b => ?_, fun b => ?_, fun b => ?_, y3⟩
    · rw [f_X5_takeFirst_72, cs_p (q.e sc), wc.2.2, bnd_e, (w.e sc).c (Or.inr (Or.inr rfl)), (w.e sc).i (Or.inr (Or.inr rfl)) hc (by omega), y1, sI_d (by omega), hMd, bnd_e, hMe, bnd_e, y2, nI_pred, hMf, bnd_e, wf.1, bnd_e, (w.e sf).c (Or.inl rfl), (w.e sf).i (Or.inl rfl) hc (by omega), mI_d (by omega), y3 d5 (h5 1 (by decide)).symm x57, oc _ (h5 2 (by decide)).symm (h5 4 (by decide)).symm (h5 5 (by decide)).symm]
    · rw [← hMf, ← hMe, ← hMd]; exact lc o b
    · rw [← hMf, mI_o _ _ _ _ _ (h7 1 (by decide)).symm, ← hMe, mI_o _ _ _ _ _ (h7 1 (by decide)).symm, ← hMd, mI_sI]
      by_cases e : b = c
      · rw [if_pos ⟨rfl, e⟩, if_pos e]
      · rw [if_neg (fun z => e z.2), if_neg e, oc _ (h7 2 (by decide)).symm (h7 4 (by decide)).symm (h7 5 (by decide)).symm]
    · rw [← hMf, mI_sI]
      by_cases e : b = 10
      · rw [if_pos ⟨rfl, e⟩, if_pos e]
      · rw [if_neg (fun z => e z.2), if_neg e, ← hMe, mI_sI]
        by_cases e2 : b = 9
        · rw [if_pos ⟨rfl, e2⟩, if_pos e2]
        · rw [if_neg (fun z => e2 z.2), if_neg e2, ← hMd, mI_o _ _ _ _ _ (h7 1 (by decide)), oc _ (by omega) (by omega) (by omega)]
  generalize hMa : sI M (h + 2) l (mI M d7 c) = Ma
  generalize hMb : sI Ma (h + 4) l (nI m) = Mb
  have sa : Ma.1 = M.1 := by rw [← hMa]; rfl
  have sb : Mb.1 = M.1 := by rw [← hMb]; exact sa
  have qa := q.e sa
  have qb := q.e sb
  have e4 : mI Ma (h + 4) l = nI (m + 1) := by rw [← hMa, mI_o _ _ _ _ _ (by omega)]; exact hm
  have e4b : mI Mb (h + 4) l = nI m := by rw [← hMb, mI_s]
  have ob : ∀ o, o ≠ h + 2 → o ≠ h + 4 → ∀ b, mI Mb o b = mI M o b := fun o n2 n4 b => by rw [← hMb, mI_o _ _ _ _ _ n4, ← hMa, mI_o _ _ _ _ _ n2]
  have b2 : ∀ b, mI Mb (h + 2) b = if b = l then mI M d7 c else mI M (h + 2) b := fun b => by
    rw [← hMb, mI_o _ _ _ _ _ (by omega), ← hMa, mI_sI]
    by_cases e : b = l
    · rw [if_pos ⟨rfl, e⟩, if_pos e]
    · rw [if_neg (fun z => e z.2), if_neg e]
  have b4 : ∀ b, mI Mb (h + 4) b = if b = l then nI m else mI M (h + 4) b := fun b => by
    rw [← hMb, mI_sI]
    by_cases e : b = l
    · rw [if_pos ⟨rfl, e⟩, if_pos e]
    · rw [if_neg (fun z => e z.2), if_neg e, ← hMa, mI_o _ _ _ _ _ (by omega)]
  have start : f_X5_takeFirst (h + 1) (nI f) (nI g) M = if m = 0 then f_X5_takeFirst_72 (h + 1) (nI c) (sI Mb (h + 5) f (bof (mI M (h + 5) f) g)) else f_X5_takeFirst_72 (h + 1) (nI c) Mb := by
    rw [f_X5_takeFirst, c16', hl, bnd_e, cs_p q, cs_r4 q, bnd_e, cs_a4 q, cs_i4 q l1, mI_c (by omega), hm, if_neg (nI_ne0 (by omega) (by omega)), cs_r2 q, bnd_e, cs_a2 q, cs_i2 q l1, mI_c (by omega), hfi, bnd_e, bnd_e, cs_a2 q, w3, bnd_e, w.c (Or.inr (Or.inr rfl)), w.i (Or.inr (Or.inr rfl)) hc (by omega), cs_i2 q l1, mI_d (by omega), sI_c (by omega), hMa, bnd_e, cs_r4 qa, bnd_e, cs_a4 qa, cs_i4 qa l1, cs_i4 qa l1, mI_c (by omega), e4, nI_pred, sI_c (by omega), hMb, bnd_e, cs_r4 qb, bnd_e, cs_a4 qb, cs_i4 qb l1, mI_c (by omega), e4b]
    by_cases e : m = 0
    · rw [if_pos e, if_pos (by rw [e]; rfl), cs_r5 qb, bnd_e, cs_a5 qb, cs_i5 qb hf, cs_i5 qb hf, mI_c (by omega), ob _ (by omega) (by omega), sI_c (by omega)]
      rw [show (mI M (h + 5) f &&& (((1 : Int32) <<< (nI g &&& 31)) ^^^ (-1 : Int32))) = bof (mI M (h + 5) f) g from rfl, bnd_e]
    · rw [if_neg e, if_neg (nI_ne0 (by omega) (by omega))]
  rw [start]
  by_cases e : m = 0
  · rw [if_pos e]
    obtain ⟨M', e', m1, m2, m7, m3, mo⟩ := fin (sI Mb (h + 5) f (bof (mI M (h + 5) f) g)) sb (fun o b => by rw [← hMb, ← hMa]; rfl) (fun o n2 n4 n5 b => by rw [mI_o _ _ _ _ _ n5, ob o n2 n4])
    refine ⟨M', e', m1, m2, m7, fun b => ?_, fun b => ?_, fun b => ?_, m3, fun o n1 n2 n4 n5 n7 b => ?_⟩
    · rw [mo _ (by omega) (h7 2 (by decide)), mI_o _ _ _ _ _ (by omega), b2]
    · rw [mo _ (by omega) (h7 4 (by decide)), mI_o _ _ _ _ _ (by omega), b4]
    · rw [mo _ (by omega) (h7 5 (by decide)), mI_sI]
      by_cases e2 : b = f
      · rw [if_pos ⟨rfl, e2⟩, if_pos ⟨e, e2⟩]
      · rw [if_neg (fun z => e2 z.2), if_neg (fun z => e2 z.2), ob _ (by omega) (by omega)]
    · rw [mo o n1 n7, mI_o _ _ _ _ _ n5, ob o n2 n4]
  · rw [if_neg e]
    obtain ⟨M', e', m1, m2, m7, m3, mo⟩ := fin Mb sb (fun o b => by rw [← hMb, ← hMa]; rfl) (fun o n2 n4 _ b => ob o n2 n4 b)
    refine ⟨M', e', m1, m2, m7, fun b => ?_, fun b => ?_, fun b => ?_, m3, fun o n1 n2 n4 n5 n7 b => ?_⟩
    · rw [mo _ (by omega) (h7 2 (by decide)), b2]
    · rw [mo _ (by omega) (h7 4 (by decide)), b4]
    · rw [mo _ (by omega) (h7 5 (by decide)), ob _ (by omega) (by omega), if_neg (fun z => e z.1)]
    · rw [mo o n1 n7, ob o n2 n4]
set_option maxHeartbeats 2000000 in
theorem PW.take {M : Mem} {h d5 d6 d7 len : Nat} {t : Int32} {se : Nat → Int32} {K : Nat → List (Nat × Ltr)} {fr : List Nat} {us : Nat} {ow : Nat → Nat} (q : CS M h) (p : PW M h d5 d6 d7 len t se K fr us ow 0) {f g c : Nat} {x : Ltr} {r : List (Nat × Ltr)} (hf : f < 16) (hg : g < 16) (hK : K (16 * f + g) = (c, x) :: r) : ∃ M', f_X5_takeFirst (h + 1) (nI f) (nI g) M = some (encC x, M') ∧ PW M' h d5 d6 d7 len t se (up1 K (16 * f + g) r) (c :: fr) us (up1 ow c 256) 0 ∧ M'.1 = M.1 ∧ (∀ o b, mL M' o b = mL M o b) ∧ (∀ o, ¬ (h + 1 ≤ o ∧ o ≤ h + 6) → o ≠ d5 → o ≠ d6 → o ≠ d7 → ∀ b, mI M' o b = mI M o b) := by
  obtain ⟨w, pc, pn, pch, pla, pma, pbu, pse, ⟨pf1, pf2, pf3⟩, ⟨pu1, pu2, pu3, pu4, pu5⟩, pt, tot, pt1, pt2, pt3⟩ := p
  generalize hl : 16 * f + g = l at hK ⊢
  have l1 : l < 256 := by omega
  have wd := w.2.2.2
  have hq := q.2.2.2.2
  have hcm : (c, x) ∈ K l := by rw [hK]; simp
  obtain ⟨c1, c2, c3, c4⟩ := pc l l1 _ hcm
  simp only at c1 c2 c3 c4
  have hnd := pn l l1
  rw [hK, List.map_cons] at hnd
  obtain ⟨nd1, nd2⟩ := List.nodup_cons.mp hnd
  have hcl : ∀ l', l' < 256 → ∀ y, y ∈ up1 K l r l' → y.1 ≠ c := fun l' hl' y hy e => by
    by_cases n : l' = l
    · subst n
      rw [up1_s] at hy
      exact nd1 (List.mem_map.mpr ⟨y, hy, e⟩)
    · rw [up1_o _ _ _ n] at hy
      have := (pc l' hl' y hy).2.1
      rw [e, c2] at this; omega
  have hmem : ∀ l', l' < 256 → ∀ y, y ∈ up1 K l r l' → y ∈ K l' := fun l' hl' y hy => by
    by_cases n : l' = l
    · subst n
      rw [up1_s] at hy
      rw [hK]; exact List.mem_cons_of_mem _ hy
    · rwa [up1_o _ _ _ n] at hy
  have hnf : c ∉ fr := fun hc => by have := (pf2 c hc).2; omega
  have hch := pch l l1
  rw [hK, List.map_cons] at hch
  have hlen := flr_len_up (L := fun i => (K i).map Prod.snd) l1 (r.map Prod.snd)
  have htp : ∃ tot', tot = tot' + 1 := by
    have : (K l).length = r.length + 1 := by rw [hK]; rfl
    simp only [List.length_map] at hlen
    exact ⟨tot - 1, by omega⟩
  obtain ⟨tot', rfl⟩ := htp
  have hml : (K l).length ≤ us := by
    have := nd_le us ((K l).map Prod.fst) (pn l l1) (fun x hx => by
      obtain ⟨y, hy, rfl⟩ := List.mem_map.mp hx
      exact (pc l l1 y hy).1)
    rwa [List.length_map] at this
  have hKl : (K l).length = r.length + 1 := by rw [hK]; rfl
  obtain ⟨M', e, m1, m2, f7, g2, g4, g5, g1, fo⟩ := ftake (y := mI M (h + 1) 9) (m := r.length) (tot := tot') q w hl (show c < len by omega) (by omega) hf hg (by rw [pma l l1, hKl]) (by omega) hch.1 pt1 rfl
  have o5 : ∀ b, mI M' d5 b = mI M d5 b := fun b => fo d5 (by omega) (by omega) (by omega) (by omega) wd.2.2.2.2.1 b
  have o6 : ∀ b, mI M' d6 b = mI M d6 b := fun b => fo d6 (by omega) (by omega) (by omega) (by omega) wd.2.2.2.2.2 b
  refine ⟨M', by rw [e, c3], ⟨w.e m1, fun l' hl' y hy => ?_, fun l' hl' => ?_, fun l' hl' => ?_, fun l' hl' cs z' ez => ?_, fun l' hl' => ?_, fun f' hf' g' hg' => ?_, fun k' hk' => ?_, ⟨List.nodup_cons.mpr ⟨hnf, pf1⟩, fun x hx => ?_, ?_⟩, ⟨?_, pu2, pu3, pu4, pu5⟩, ?_, tot', ?_, ?_, ?_⟩, m1, m2, fun o n1 n5 n6 n7 b => fo o (by omega) (by omega) (by omega) (by omega) n7 b⟩
  · rw [up1_o _ _ _ (hcl l' hl' y hy), o5, o6]
    exact pc l' hl' y (hmem l' hl' y hy)
  · by_cases n : l' = l
    · subst n; rw [up1_s]; exact nd2
    · rw [up1_o _ _ _ n]; exact pn l' hl'
  · have h7 : ∀ x, x ∈ (up1 K l r l').map Prod.fst → mI M' d7 x = mI M d7 x := fun x hx => by
      obtain ⟨y, hy, rfl⟩ := List.mem_map.mp hx
      rw [f7, if_neg (hcl l' hl' y hy)]
    refine Chn.cg ?_ h7
    rw [g2]
    by_cases n : l' = l
    · subst n; rw [up1_s, if_pos rfl]; exact hch.2
    · rw [up1_o _ _ _ n, if_neg n]; exact pch l' hl'
  · rw [fo (h + 3) (by omega) (by omega) (by omega) (by omega) (by omega)]
    by_cases n : l' = l
    · subst n
      rw [up1_s] at ez
      exact pla l' hl' (c :: cs) z' (by rw [hK, List.map_cons, ez]; rfl)
    · rw [up1_o _ _ _ n] at ez
      exact pla l' hl' cs z' ez
  · rw [g4]
    by_cases n : l' = l
    · subst n; rw [up1_s, if_pos rfl]
    · rw [up1_o _ _ _ n, if_neg n]; exact pma l' hl'
  · have h0 := pbu f' hf' g' hg'
    rw [g5]
    by_cases n : 16 * f' + g' = l ∧ g' < 16
    · have e1 : f' = f := by omega
      have e2 : g' = g := by omega
      subst e1; subst e2
      rw [hl, up1_s]
      by_cases r0 : r = []
      · rw [if_pos ⟨by rw [r0]; rfl, rfl⟩, bt_off _ (by omega) hg']
        simp [r0]
      · rw [if_neg (fun z => r0 (List.eq_nil_of_length_eq_zero z.1)), h0, hl, hK]
        simp [r0]
    · by_cases e1 : r.length = 0 ∧ f' = f
      · have e2 : f' = f := e1.2
        subst e2
        rw [if_pos e1, bt_off _ (by omega) hg', h0]
        by_cases g16 : g' < 16
        · have e3 : g' ≠ g := fun z => n ⟨by rw [z]; exact hl, g16⟩
          rw [up1_o _ _ _ (by omega)]
          simp [e3]
        · simp [g16]
      · rw [if_neg e1, h0]
        by_cases g16 : g' < 16
        · rw [up1_o _ _ _ (fun z => n ⟨z, g16⟩)]
        · simp [g16]
  · rw [fo (h + 6) (by omega) (by omega) (by omega) (by omega) (by omega)]; exact pse k' hk'
  · rcases List.mem_cons.mp hx with e2 | hx2
    · rw [e2]; exact ⟨c1, up1_s _ _ _⟩
    · have := pf2 x hx2
      rw [up1_o _ _ _ (fun z => hnf (by rw [← z]; exact hx2))]
      exact this
  · rw [g1, if_neg (by decide), if_pos rfl]
    refine ⟨rfl, ?_⟩
    rw [f7, if_pos rfl]
    refine pf3.cg fun x hx => ?_
    rw [f7, if_neg (fun z => hnf (by rw [← z]; exact hx))]
  · rw [g1, if_neg (by decide), if_neg (by decide)]; exact pu1
  · rw [g1, if_neg (by decide), if_neg (by decide)]; exact pt
  · rw [g1, if_pos rfl]
  · simp only [List.length_cons]; omega
  · rw [up1_fst]
    simp only [List.length_map] at hlen
    omega
theorem ltr_nil {K : Nat → List (Nat × Ltr)} {S : St} {l : Nat} (e : (K l).map Prod.snd = xL S l) (hx : xL S l = []) : K l = [] := by
  rw [hx] at e
  exact List.map_eq_nil_iff.mp e
theorem PV.tno {M : Mem} {h : Nat} {t : Int32} {S : St} (q : CS M h) (p : PV M h t S) {f g : Nat} (hf : f < 16) (hg : g < 16) (hx : xL S (16 * f + g) = []) : f_X5_takeFirst (h + 1) (nI f) (nI g) M = some (-1, M) := by
  obtain ⟨d5, d6, d7, len, K, fr, us, ow, p, hK⟩ := p
  have hm := p.2.2.2.2.2.1 (16 * f + g) (by omega)
  rw [ltr_nil (hK _ (by omega)) hx] at hm
  rw [f_X5_takeFirst, c16', bnd_e, cs_p q, cs_r4 q, bnd_e, cs_a4 q, cs_i4 q (by omega), mI_c (by omega), hm, if_pos (by rfl)]
theorem PV.take {M : Mem} {h X Y : Nat} {t : Int32} {S : St} (q : CS M h) (p : PV M h t S) (rm : Rm M h X Y) {f g : Nat} {x : Ltr} {r : List Ltr} (hf : f < 16) (hg : g < 16) (hx : xL S (16 * f + g) = x :: r) : ∃ M', f_X5_takeFirst (h + 1) (nI f) (nI g) M = some (encC x, M') ∧ CS M' h ∧ PV M' h t (uL S (16 * f + g) r) ∧ Rm M' h X Y ∧ FrP M M' h := by
  obtain ⟨d5, d6, d7, len, K, fr, us, ow, p, hK⟩ := p
  obtain ⟨⟨w5, w6, w7⟩, _⟩ := id p.1
  have e0 := hK (16 * f + g) (by omega)
  rw [hx] at e0
  obtain ⟨⟨c, x'⟩, r', ek, e1, e2⟩ := List.map_eq_cons_iff.mp e0
  simp only at e1
  subst e1
  obtain ⟨M', e', p', m1, m2, m3⟩ := p.take q hf hg ek
  refine ⟨M', e', q.e m1, ⟨d5, d6, d7, len, _, _, us, _, p', fun l hl => ?_⟩, ?_, ?_, fun i _ => by rw [m1], fun a b _ _ => by unfold mR; rw [m1], fun o _ n1 n5 n6 n7 b => m3 o n1 (by rw [← w5]; exact n5) (by rw [← w6]; exact n6) (by rw [← w7]; exact n7) b, fun o _ b => m2 o b, fun j _ _ => Or.inl (by unfold mR; rw [m1])⟩
  · rw [xL_uL]
    by_cases e : l = 16 * f + g
    · rw [if_pos e, e, up1_s, e2]
    · rw [if_neg e, up1_o _ _ _ e]; exact hK l hl
  · unfold Rm mN mU mLn mR at rm ⊢
    rw [m1]; exact rm
  · unfold mN; rw [m1]; exact Nat.le_refl _
theorem PV.cnt {M : Mem} {h : Nat} {t : Int32} {S : St} (q : CS M h) (p : PV M h t S) {f g : Nat} (hf : f < 16) (hg : g < 16) : f_X5_countOn (h + 1) (nI f) (nI g) M = some (nI (xL S (16 * f + g)).length) := by
  obtain ⟨d5, d6, d7, len, K, fr, us, ow, p, hK⟩ := p
  have hm := p.2.2.2.2.2.1 (16 * f + g) (by omega)
  rw [f_X5_countOn, cs_p q, cs_r4 q, bnd_e, cs_a4 q, c16', cs_i4 q (by omega), mI_c (by omega), hm, ← hK _ (by omega), List.length_map]
theorem drop_7 {h X Y : Nat} {t : Int32} {f g : Nat} (hf : f < 16) (hg : g < 16) : ∀ (xs : List Ltr) (M : Mem) (S : St) (n : Nat), CS M h → PV M h t S → Rm M h X Y → xL S (16 * f + g) = xs → xs.length + 1 ≤ n → xs.length < 20000 → ∃ M', f_X5_drop_7 n (h + 1) (nI f) (nI g) (nI xs.length) M = some M' ∧ CS M' h ∧ PV M' h t (if xs = [] then S else uL S (16 * f + g) []) ∧ Rm M' h X Y ∧ FrP M M' h := by
  intro xs
  induction xs with
  | nil =>
    intro M S n q p rm hx hn _
    obtain ⟨n, rfl⟩ : ∃ m, n = m + 1 := ⟨n - 1, by omega⟩
    refine ⟨M, ?_, q, by rw [if_pos rfl]; exact p, rm, FrP.rf M h⟩
    rw [f_X5_drop_7, if_pos (by decide)]
  | cons x xs ih =>
    intro M S n q p rm hx hn hl
    obtain ⟨n, rfl⟩ : ∃ m, n = m + 1 := ⟨n - 1, by omega⟩
    simp only [List.length_cons] at hn hl ⊢
    obtain ⟨M1, e1, q1, p1, r1, f1⟩ := p.take q rm hf hg hx
    obtain ⟨M2, e2, q2, p2, r2, f2⟩ := ih M1 _ n q1 p1 r1 (by rw [xL_uL, if_pos rfl]) (by omega) (by omega)
    refine ⟨M2, ?_, q2, ?_, r2, f1.tr f2⟩
    · rw [f_X5_drop_7, if_neg (show ¬ nI (xs.length + 1) ≤ (0 : Int32) from nI_ge (a := 0) (b := xs.length + 1) (by omega) (by omega)), cs_p q, e1, obd2_s, show nI (xs.length + 1) + (-1 : Int32) = nI xs.length by rw [← nI_pred xs.length, Int32.sub_eq_add_neg], bnd_e, e2]
    · rw [if_neg (by simp)]
      by_cases e : xs = []
      · rw [if_pos e] at p2
        rw [← e]; exact p2
      · rw [if_neg e] at p2
        have : uL (uL S (16 * f + g) xs) (16 * f + g) [] = uL S (16 * f + g) [] := by
          have z : up1 (up1 S.2.2.1 (16 * f + g) xs) (16 * f + g) [] = up1 S.2.2.1 (16 * f + g) [] := by
            funext a
            unfold up1
            by_cases e : a = 16 * f + g
            · rw [if_pos e, if_pos e]
            · rw [if_neg e, if_neg e, if_neg e]
          unfold uL
          rw [show (S.1, S.2.1, up1 S.2.2.1 (16 * f + g) xs, S.2.2.2).2.2.1 = up1 S.2.2.1 (16 * f + g) xs from rfl, z]
        rwa [this] at p2
theorem PV.drop {M : Mem} {h X Y : Nat} {t : Int32} {S : St} (q : CS M h) (p : PV M h t S) (rm : Rm M h X Y) {f g n : Nat} (hf : f < 16) (hg : g < 16) (hl : (xL S (16 * f + g)).length < 9001) (hn : 9002 ≤ n) : ∃ M', f_X5_drop n (h + 1) (nI f) (nI g) M = some M' ∧ CS M' h ∧ PV M' h t (if xL S (16 * f + g) = [] then S else uL S (16 * f + g) []) ∧ Rm M' h X Y ∧ FrP M M' h := by
  obtain ⟨M', e, r⟩ := drop_7 hf hg _ M S n q p rm rfl (by omega) (by omega)
  exact ⟨M', by rw [f_X5_drop, cs_p q, p.cnt q hf hg, obd_s, e], r⟩
/-! ===== the class: the places ===== -/
def ft : List (Nat × Nat) := [(0, 1), (1, 2), (2, 3), (3, 4), (4, 5), (5, 6), (6, 8), (8, 10), (11, 12), (12, 18), (13, 13), (15, 21)]
/-- the place of node v -/
def HPv (M : Mem) (h : Nat) (S : St) (v : Nat) : Prop := (∀ p, p ∈ ft → mI M (h + 17 + 2 * v) p.1 = xR S p.2 v) ∧ mI M (h + 17 + 2 * v) 7 = (if xR S 8 v = -1 then -1 else xR S 9 v) ∧ (xR S 0 v = 1 → mI M (h + 17 + 2 * v) 14 = xR S 14 v) ∧ (∀ u, u < 32 → bt (mI M (h + 17 + 2 * v) 9) u = decide (u ∈ (xW S v).map Prod.fst)) ∧ (∀ w, w ∈ xW S v → mI M (h + 18 + 2 * v) w.1 = w.2)
/-- the hall's own numbers -/
def HG (M : Mem) (h : Nat) (S : St) : Prop := (∀ v, v < 32 → bt (mI M h 7) v = decide (v < 16 ∧ xR S 0 v = 2)) ∧ (∀ v, v < 32 → bt (mI M h 8) v = decide (v < 16 ∧ xR S 0 v = 1)) ∧ (∀ v, v < 32 → bt (mI M h 9) v = decide (v < 16 ∧ xR S 7 v = 1)) ∧ mI M h 10 = xR S 15 1 ∧ mI M h 11 = xR S 15 0 ∧ mI M h 12 = xR S 15 2 ∧ mI M h 13 = xR S 15 5 ∧ mI M h 14 = xR S 15 3 ∧ mI M h 15 = xR S 15 4
def HP (M : Mem) (h : Nat) (S : St) : Prop := (∀ v, v < 16 → HPv M h S v) ∧ HG M h S
section
variable {M : Mem} {h : Nat}
theorem cs_h2 (q : CS M h) : mR M h 2 = h + 10 := q.r (a := 0) (b := 2) (c := 10) (by decide)
theorem cs_a10 {α : Type} (q : CS M h) (x : Option α) : chk (isO M 102 (h + 10)) x = x := chk_t (q.io (i := 10) (by decide) (by decide) (by decide))
theorem cs_i10 {α : Type} (q : CS M h) {k : Nat} (hk : k < 16) (x : Option α) : chk (inB (nI k) (mLn M (h + 10))) x = x := by
  refine chk_t ?_
  rw [q.ln (i := 10) (c := 16) (by decide) (by decide) (by decide)]; exact inB_n hk (by decide)
theorem cs_rp (q : CS M h) {v : Nat} (hv : v < 16) : mR M (h + 10) v = h + 17 + 2 * v := by
  have : ∀ v, v < 16 → (10, v, 17 + 2 * v) ∈ tH := by decide
  rw [q.r (this v hv)]; omega
theorem cs_rpc (q : CS M h) {v : Nat} (hv : v < 16) : mR M (h + 10) (nI v).toNatClampNeg = h + 17 + 2 * v := by
  rw [cl_n (by omega), cs_rp q hv]
theorem cs_po {α : Type} (q : CS M h) {v : Nat} (hv : v < 16) (x : Option α) : chk (isO M 4 (h + 17 + 2 * v)) x = x := by
  have : ∀ v, v < 16 → (tC.getD (14 + (17 + 2 * v)) (0, 0)).1 = 4 := by decide
  have z := q.io (i := 17 + 2 * v) (by omega) (by omega) (this v hv)
  rw [← Nat.add_assoc] at z
  exact chk_t z
theorem cs_pr (q : CS M h) {v : Nat} (hv : v < 16) : mR M (h + 17 + 2 * v) 10 = h + 18 + 2 * v := by
  have : ∀ v, v < 16 → (17 + 2 * v, 10, 18 + 2 * v) ∈ tH := by decide
  have z := q.r (this v hv)
  rw [← Nat.add_assoc, ← Nat.add_assoc] at z
  exact z
theorem cs_pa {α : Type} (q : CS M h) {v : Nat} (hv : v < 16) (x : Option α) : chk (isO M 100 (h + 18 + 2 * v)) x = x := by
  have : ∀ v, v < 16 → (tC.getD (14 + (18 + 2 * v)) (0, 0)).1 = 100 := by decide
  have z := q.io (i := 18 + 2 * v) (by omega) (by omega) (this v hv)
  rw [← Nat.add_assoc] at z
  exact chk_t z
theorem cs_pi {α : Type} (q : CS M h) {v : Nat} (hv : v < 16) {k : Nat} (hk : k < 16) (x : Option α) : chk (inB (nI k) (mLn M (h + 18 + 2 * v))) x = x := by
  have : ∀ v, v < 16 → (tC.getD (14 + (18 + 2 * v)) (0, 0)).2 = 16 := by decide
  have z := q.ln (i := 18 + 2 * v) (by omega) (by omega) (this v hv)
  rw [← Nat.add_assoc] at z
  refine chk_t ?_
  rw [z]; exact inB_n hk (by decide)
end
/-- the places of the others stay -/
theorem HP.at {M M' : Mem} {h : Nat} {S S' : St} (p : HP M h S) {v : Nat} (hv : HPv M' h S' v) (ho : ∀ o, (o = h ∨ (h + 17 ≤ o ∧ o < h + 49)) → o ≠ h + 17 + 2 * v → o ≠ h + 18 + 2 * v → ∀ b, mI M' o b = mI M o b) (hr : ∀ k i, i ≠ v → k ≠ 15 → k ≠ 16 → k ≠ 17 → xR S' k i = xR S k i) (h0 : xR S' 0 v = xR S 0 v) (h7 : xR S' 7 v = xR S 7 v) (h15 : xR S' 15 = xR S 15) (hW : ∀ a, a ≠ v → xW S' a = xW S a) : HP M' h S' := by
  obtain ⟨p1, g7, g8, g9, g10⟩ := p
  have e0 : ∀ u, xR S' 0 u = xR S 0 u := fun u => by
    by_cases n : u = v
    · rw [n, h0]
    · exact hr 0 u n (by decide) (by decide) (by decide)
  have e7 : ∀ u, xR S' 7 u = xR S 7 u := fun u => by
    by_cases n : u = v
    · rw [n, h7]
    · exact hr 7 u n (by decide) (by decide) (by decide)
  have eh : ∀ b, mI M' h b = mI M h b := fun b => ho h (Or.inl rfl) (by omega) (by omega) b
  refine ⟨fun u hu => ?_, ?_⟩
  · by_cases n : u = v
    · rw [n]; exact hv
    · obtain ⟨a1, a2, a3, a4, a5⟩ := p1 u hu
      have o1 : ∀ b, mI M' (h + 17 + 2 * u) b = mI M (h + 17 + 2 * u) b := fun b => ho _ (Or.inr (by omega)) (by omega) (by omega) b
      have o2 : ∀ b, mI M' (h + 18 + 2 * u) b = mI M (h + 18 + 2 * u) b := fun b => ho _ (Or.inr (by omega)) (by omega) (by omega) b
      have hf : ∀ p, p ∈ ft → p.2 ≠ 15 ∧ p.2 ≠ 16 ∧ p.2 ≠ 17 := by decide
      refine ⟨fun p hp => ?_, ?_, fun z => ?_, fun w hw => ?_, fun w hw => ?_⟩
      · rw [o1, hr _ _ n (hf p hp).1 (hf p hp).2.1 (hf p hp).2.2]; exact a1 p hp
      · rw [o1, hr 8 _ n (by decide) (by decide) (by decide), hr 9 _ n (by decide) (by decide) (by decide)]; exact a2
      · rw [o1, hr 14 _ n (by decide) (by decide) (by decide)]
        exact a3 (by rw [← e0]; exact z)
      · rw [o1, hW _ n]; exact a4 w hw
      · rw [hW _ n] at hw
        rw [o2]; exact a5 w hw
  · refine ⟨fun u hu => ?_, fun u hu => ?_, fun u hu => ?_, ?_⟩
    · rw [eh, e0]; exact g7 u hu
    · rw [eh, e0]; exact g8 u hu
    · rw [eh, e7]; exact g9 u hu
    · rw [eh, eh, eh, eh, eh, eh, h15]; exact g10
/-- one number of a place -/
theorem HP.fld {M : Mem} {h : Nat} {S : St} (p : HP M h S) {v a k : Nat} {x : Int32} (hv : v < 16) (hf : (a, k) ∈ ft) (h8 : k ≠ 8) : HP (sI M (h + 17 + 2 * v) a x) h (uR S k v x) := by
  have hp := p.1 v hv
  obtain ⟨a1, a2, a3, a4, a5⟩ := hp
  have inj : ∀ p, p ∈ ft → ∀ p', p' ∈ ft → (p.1 = p'.1 ↔ p.2 = p'.2) := by decide
  have lim : ∀ p, p ∈ ft → p.1 ≠ 7 ∧ p.1 ≠ 14 ∧ p.1 ≠ 9 ∧ p.2 ≠ 9 ∧ p.2 ≠ 0 ∧ p.2 ≠ 14 ∧ p.2 ≠ 7 ∧ p.2 ≠ 15 := by decide
  obtain ⟨l1, l2, l3, l4, l5, l6, l7, l8⟩ := lim _ hf
  simp only at l1 l2 l3 l4 l5 l6 l7 l8
  have r : ∀ k' i, k' ≠ k → xR (uR S k v x) k' i = xR S k' i := fun k' i n => by rw [xR_uR, if_neg (fun z => n z.1)]
  refine p.at ⟨fun p hp => ?_, ?_, fun z => ?_, fun u hu => ?_, fun w hw => ?_⟩ (fun o _ n _ b => by rw [mI_o _ _ _ _ _ n]) (fun k' i n _ _ _ => by rw [xR_uR, if_neg (fun z => n z.2)]) (r 0 v l5.symm) (r 7 v l7.symm) (by funext i; exact r 15 i l8.symm) (fun _ _ => rfl)
  · have ij := inj p hp (a, k) hf
    by_cases e : p.1 = a
    · rw [e, mI_s, xR_uR, if_pos ⟨ij.mp e, rfl⟩]
    · rw [mI_n _ _ _ _ e, r _ _ (fun z => e (ij.mpr z))]; exact a1 p hp
  · rw [mI_n _ _ _ _ l1.symm, r 8 v h8.symm, r 9 v l4.symm]; exact a2
  · rw [mI_n _ _ _ _ l2.symm, r 14 v l6.symm]
    exact a3 (by rw [← r 0 v l5.symm]; exact z)
  · rw [mI_n _ _ _ _ l3.symm]; exact a4 u hu
  · rw [mI_o _ _ _ _ _ (by omega)]; exact a5 w hw
/-! ===== the class: who waits first ===== -/
theorem nd_eq : ∀ {l : List Wtr}, (l.map Prod.fst).Nodup → ∀ {a b : Wtr}, a ∈ l → b ∈ l → a.1 = b.1 → a = b := by
  intro l
  induction l with
  | nil => intro _ a b ha; simp at ha
  | cons w r ih =>
    intro h a b ha hb e
    rw [List.map_cons] at h
    obtain ⟨h1, h2⟩ := List.nodup_cons.mp h
    rcases List.mem_cons.mp ha with ea | ha
    · rcases List.mem_cons.mp hb with eb | hb
      · rw [ea, eb]
      · exact absurd (List.mem_map.mpr ⟨b, hb, by rw [← e, ea]⟩) h1
    · rcases List.mem_cons.mp hb with eb | hb
      · exact absurd (List.mem_map.mpr ⟨a, ha, by rw [e, eb]⟩) h1
      · exact ih h2 ha hb e
def hdW (l : List Wtr) : Int32 := match l with
  | [] => -1
  | w :: _ => nI w.1
def Bst (l : List Wtr) (i : Nat) (b : Int32) : Prop := (b = -1 ∧ ∀ w, w ∈ l → i ≤ w.1) ∨ ∃ w, w ∈ l ∧ w.1 < i ∧ b = nI w.1 ∧ ∀ w', w' ∈ l → w'.1 < i → w' = w ∨ aw w w'
theorem Bst_hd {N A : Nat} {l : List Wtr} (hl : Wok N A l) (h16 : N ≤ 16) {b : Int32} (hb : Bst l 16 b) : b = hdW l := by
  cases l with
  | nil =>
    rcases hb with ⟨e, _⟩ | ⟨w, hw, _⟩
    · exact e
    · simp at hw
  | cons w0 r =>
    have h0 := hl.2.2 w0 (by simp)
    rcases hb with ⟨_, h⟩ | ⟨w, hw, _, e, h⟩
    · have := h w0 (by simp); omega
    · rcases h w0 (by simp) (by omega) with h1 | h1
      · rw [e, ← h1]; rfl
      · rcases List.mem_cons.mp hw with h2 | h2
        · rw [e, h2]; rfl
        · have h3 := (List.pairwise_cons.mp hl.1).1 w h2
          have h4 := ahd_as h3
          unfold aw at h1
          rw [h4] at h1
          exact absurd h1 (by decide)
set_option maxHeartbeats 1000000 in
theorem fw_4 {M : Mem} {h v N A : Nat} {l : List Wtr} (q : CS M h) (hv : v < 16) (hl : Wok N A l) (h16 : N ≤ 16) (hm : ∀ u, u < 32 → bt (mI M (h + 17 + 2 * v) 9) u = decide (u ∈ l.map Prod.fst)) (hs : ∀ w, w ∈ l → mI M (h + 18 + 2 * v) w.1 = w.2) : ∀ (d i : Nat) (b : Int32) (n : Nat), i + d = 16 → d + 1 ≤ n → Bst l i b → f_X4_firstWaiter_4 M n (h + 17 + 2 * v) b (nI i) = some (hdW l) := by
  intro d
  induction d with
  | zero =>
    intro i b n hi hn hb
    obtain ⟨n, rfl⟩ : ∃ m, n = m + 1 := ⟨n - 1, by omega⟩
    have : i = 16 := by omega
    subst this
    rw [f_X4_firstWaiter_4, if_pos (show (16 : Int32) ≤ nI 16 by decide), Bst_hd hl h16 hb]
  | succ d ih =>
    intro i b n hi hn hb
    obtain ⟨n, rfl⟩ : ∃ m, n = m + 1 := ⟨n - 1, by omega⟩
    rw [f_X4_firstWaiter_4, if_neg (show ¬ (16 : Int32) ≤ nI i from nI_ge (a := i) (b := 16) (by omega) (by decide)), cs_po q hv, f_has9 _ (by omega), obd_s, hm i (by omega), nI_1]
    by_cases c : i ∈ l.map Prod.fst
    · obtain ⟨w, hw, ew⟩ := List.mem_map.mp c
      rw [decide_eq_true c, if_pos rfl, if_neg (by decide)]
      have only : ∀ w', w' ∈ l → w'.1 < i + 1 → ¬ w'.1 < i → w' = w := fun w' hw' h1 h2 => nd_eq hl.2.1 hw' hw (by omega)
      rcases hb with ⟨e, hb⟩ | ⟨u, hu, ui, e, hb⟩
      · rw [if_pos e, bnd_e]
        refine ih (i + 1) _ n (by omega) (by omega) (Or.inr ⟨w, hw, by omega, by rw [ew], fun w' hw' h1 => ?_⟩)
        have := hb w' hw'
        exact Or.inl (only w' hw' h1 (by omega))
      · have hu2 := (hl.2.2 u hu).1
        rw [e, if_neg (nI_m1 (by omega)), cs_pr q hv, bnd_e, cs_pa q hv, cs_pi q hv (by omega), bnd_e, cs_pa q hv, cs_pi q hv (by omega), mI_c (by omega), mI_c (by omega), hs u hu, ← ew, hs w hw, ew]
        by_cases c2 : u.2 ≤ w.2
        · rw [if_pos c2, bnd_e]
          have huw : aw u w := by
            unfold aw ahd
            refine decide_eq_true ?_
            by_cases c3 : u.2 = w.2
            · exact Or.inr ⟨c3, nI_lt (by omega) (by omega)⟩
            · exact Or.inl (Int32.lt_of_le_of_ne c2 c3)
          refine ih (i + 1) _ n (by omega) (by omega) (Or.inr ⟨u, hu, by omega, rfl, fun w' hw' h1 => ?_⟩)
          by_cases c4 : w'.1 < i
          · exact hb w' hw' c4
          · rw [only w' hw' h1 c4]; exact Or.inr huw
        · rw [if_neg c2, bnd_e]
          have hwu : aw w u := by
            unfold aw ahd
            exact decide_eq_true (Or.inl (Int32.not_le.mp c2))
          refine ih (i + 1) _ n (by omega) (by omega) (Or.inr ⟨w, hw, by omega, by rw [ew], fun w' hw' h1 => ?_⟩)
          by_cases c4 : w'.1 < i
          · rcases hb w' hw' c4 with e5 | e5
            · rw [e5]; exact Or.inr hwu
            · exact Or.inr (ahd_t hwu e5)
          · exact Or.inl (only w' hw' h1 c4)
    · rw [decide_eq_false c, if_pos (by decide), bnd_e]
      have nc : ∀ w, w ∈ l → w.1 ≠ i := fun w hw e => c (List.mem_map.mpr ⟨w, hw, e⟩)
      refine ih (i + 1) b n (by omega) (by omega) ?_
      rcases hb with ⟨e, hb⟩ | ⟨u, hu, ui, e, hb⟩
      · exact Or.inl ⟨e, fun w hw => by have := hb w hw; have := nc w hw; omega⟩
      · exact Or.inr ⟨u, hu, by omega, e, fun w' hw' h1 => hb w' hw' (by have := nc w' hw'; omega)⟩
theorem HP.fw {M : Mem} {h v N A n : Nat} {S : St} (q : CS M h) (p : HP M h S) (hv : v < 16) (hl : Wok N A (xW S v)) (h16 : N ≤ 16) (hn : 17 ≤ n) : f_X4_firstWaiter n (h + 17 + 2 * v) M = some (hdW (xW S v)) := by
  obtain ⟨_, _, _, a4, a5⟩ := p.1 v hv
  rw [f_X4_firstWaiter, show (0 : Int32) = nI 0 from rfl]
  exact fw_4 q hv hl h16 a4 a5 16 0 _ n (by omega) (by omega) (Or.inl ⟨rfl, fun _ _ => Nat.zero_le _⟩)
/-! ===== the class: the logs ===== -/
/-- a log of the class that was told xs -/
def LG (M : Mem) (l m : Nat) (xs : List Row4) : Prop := mI M l 0 = nI m ∧ mI M l 2 = nI (min xs.length m) ∧ mI M l 3 = nI (xs.length % m) ∧ ∀ j q, xs[j]? = some q → xs.length ≤ j + m → mI M (l + 1) (4 * (j % m)) = q.1 ∧ mI M (l + 1) (4 * (j % m) + 1) = q.2.1 ∧ mI M (l + 1) (4 * (j % m) + 2) = q.2.2.1 ∧ mI M (l + 1) (4 * (j % m) + 3) = q.2.2.2
theorem LG.cg {M M' : Mem} {l m : Nat} {xs : List Row4} (g : LG M l m xs) (h0 : ∀ k, mI M' l k = mI M l k) (h1 : ∀ k, mI M' (l + 1) k = mI M (l + 1) k) : LG M' l m xs := by
  obtain ⟨g0, g2, g3, g4⟩ := g
  refine ⟨by rw [h0, g0], by rw [h0, g2], by rw [h0, g3], fun j q hj hl => ?_⟩
  rw [h1, h1, h1, h1]; exact g4 j q hj hl
set_option maxHeartbeats 1000000 in
theorem f_add {M : Mem} {l m : Nat} {xs : List Row4} (hm : m = 30 ∨ m = 40) (i1 : isO M 3 l) (r1 : mR M l 1 = l + 1) (i2 : isO M 100 (l + 1)) (n2 : mLn M (l + 1) = 4 * m) (g : LG M l m xs) (a b c d : Int32) : ∃ M', f_X3_add l a b c d M = some M' ∧ LG M' l m (xs ++ [(a, b, c, d)]) ∧ M'.1 = M.1 ∧ (∀ o k, mL M' o k = mL M o k) ∧ ∀ o, o ≠ l → o ≠ l + 1 → ∀ k, mI M' o k = mI M o k := by
  obtain ⟨g0, g2, g3, g4⟩ := g
  generalize hp : xs.length % m = p at g3
  have pm : p < m := by rw [← hp]; exact Nat.mod_lt _ (by omega)
  have io : ∀ M' : Mem, M'.1 = M.1 → isO M' 3 l ∧ mR M' l 1 = l + 1 ∧ isO M' 100 (l + 1) ∧ mLn M' (l + 1) = 4 * m := fun M' e => by
    unfold isO mN mC mR mLn at *
    rw [e]
    exact ⟨i1, r1, i2, n2⟩
  generalize hMa : sI M (l + 1) (4 * p) a = Ma
  generalize hMb : sI Ma (l + 1) (4 * p + 1) b = Mb
  generalize hMc : sI Mb (l + 1) (4 * p + 2) c = Mc
  generalize hMd : sI Mc (l + 1) (4 * p + 3) d = Md
  have sa : Ma.1 = M.1 := by rw [← hMa]; rfl
  have sb : Mb.1 = M.1 := by rw [← hMb]; exact sa
  have sc : Mc.1 = M.1 := by rw [← hMc]; exact sb
  have sd : Md.1 = M.1 := by rw [← hMd]; exact sc
  obtain ⟨a1, a2, a3, a4⟩ := io Ma sa
  obtain ⟨b1, b2, b3, b4⟩ := io Mb sb
  obtain ⟨c1, c2, c3, c4⟩ := io Mc sc
  obtain ⟨d1, d2, d3, d4⟩ := io Md sd
  have od : ∀ o, o ≠ l + 1 → ∀ k, mI Md o k = mI M o k := fun o n k => by
    rw [← hMd, mI_o _ _ _ _ _ n, ← hMc, mI_o _ _ _ _ _ n, ← hMb, mI_o _ _ _ _ _ n, ← hMa, mI_o _ _ _ _ _ n]
  have cd : ∀ k, mI Md (l + 1) k = if k = 4 * p + 3 then d else if k = 4 * p + 2 then c else if k = 4 * p + 1 then b else if k = 4 * p then a else mI M (l + 1) k := fun k => by
    rw [← hMd, mI_sI, ← hMc, mI_sI, ← hMb, mI_sI, ← hMa, mI_sI]
    simp only [true_and]
  generalize hu : (if m ≤ p + 1 then 0 else p + 1) = u
  generalize hMe : sI Md l 3 (nI u) = Me
  have se : Me.1 = M.1 := by rw [← hMe]; exact sd
  obtain ⟨e1, e2, e3, e4⟩ := io Me se
  have f0 : mI Me l 0 = nI m := by rw [← hMe, mI_n _ _ _ _ (by decide), od _ (by omega)]; exact g0
  have f2 : mI Me l 2 = nI (min xs.length m) := by rw [← hMe, mI_n _ _ _ _ (by decide), od _ (by omega)]; exact g2
  generalize hw : min (xs.length + 1) m = w
  refine ⟨sI Me l 2 (nI w), ?_, ⟨?_, ?_, ?_, fun j q hj hl => ?_⟩, se, fun o k => ?_, fun o n1 n2 k => ?_⟩
  · have k1 : nI p * (4 : Int32) = nI (4 * p) := by rw [show (4 : Int32) = nI 4 from rfl, pk_mul, Nat.mul_comm]
    have k2 : nI (4 * p) + (2 : Int32) = nI (4 * p + 2) := by rw [show (2 : Int32) = nI 2 from rfl, nI_add]
    have k3 : nI (4 * p) + (3 : Int32) = nI (4 * p + 3) := by rw [show (3 : Int32) = nI 3 from rfl, nI_add]
    have inb : ∀ i, i < 4 → inB (nI (4 * p + i)) (4 * m) := fun i hi => inB_n (by omega) (by omega)
    have last : f_X3_add_71 l (nI u) l Md = some (sI Me l 2 (nI w)) := by
      rw [f_X3_add_71, chk_t d1, hMe, bnd_e, chk_t e1, f0, f2]
      by_cases c : m ≤ xs.length
      · rw [if_pos (nI_le (by omega) (by omega)), bnd_e, show w = m by omega]
      · rw [if_neg (nI_ge (by omega) (by omega)), nI_1, bnd_e, show min xs.length m + 1 = w by omega]
    have in0 : inB (nI (4 * p)) (4 * m) := inb 0 (by decide)
    have in1 : inB (nI (4 * p + 1)) (4 * m) := inb 1 (by decide)
    have in2 : inB (nI (4 * p + 2)) (4 * m) := inb 2 (by decide)
    have in3 : inB (nI (4 * p + 3)) (4 * m) := inb 3 (by decide)
    rw [f_X3_add, chk_t i1, g3, k1, bnd_e, r1, bnd_e, chk_t i2, n2, chk_t in0, sI_d (by omega), hMa, bnd_e, a2, bnd_e, chk_t a3, a4, nI_1, chk_t in1, sI_d (by omega), hMb, bnd_e, b2, bnd_e, chk_t b3, b4, k2, chk_t in2, sI_d (by omega), hMc, bnd_e, c2, bnd_e, chk_t c3, c4, k3, chk_t in3, sI_d (by omega), hMd, bnd_e, od l (by omega), g0, od l (by omega), g3, nI_1]
    by_cases c : m ≤ p + 1
    · rw [if_pos (nI_le c (by omega))]
      rw [← hu, if_pos c] at last
      exact last
    · rw [if_neg (nI_ge (by omega) (by omega))]
      rw [← hu, if_neg c] at last
      exact last
  · rw [mI_n _ _ _ _ (by decide)]; exact f0
  · rw [mI_s, List.length_append, List.length_singleton, hw]
  · rw [mI_n _ _ _ _ (by decide), ← hMe, mI_s, List.length_append, List.length_singleton, ← hu, ← hp]
    congr 1
    rcases hm with rfl | rfl <;> split <;> omega
  · have mo : ∀ k, mI (sI Me l 2 (nI w)) (l + 1) k = mI Md (l + 1) k := fun k => by rw [mI_o _ _ _ _ _ (by omega), ← hMe, mI_o _ _ _ _ _ (by omega)]
    rw [mo, mo, mo, mo]
    rw [List.length_append, List.length_singleton] at hl
    by_cases c : j < xs.length
    · rw [List.getElem?_append_left c] at hj
      have hne : j % m ≠ p := by
        rw [← hp]
        rcases hm with rfl | rfl <;> omega
      rw [cd, cd, cd, cd, if_neg (by omega), if_neg (by omega), if_neg (by omega), if_neg (by omega), if_neg (by omega), if_neg (by omega), if_neg (by omega), if_neg (by omega), if_neg (by omega), if_neg (by omega), if_neg (by omega), if_neg (by omega), if_neg (by omega), if_neg (by omega), if_neg (by omega), if_neg (by omega)]
      exact g4 j q hj (by omega)
    · have hj2 := hj
      rw [List.getElem?_append_right (by omega)] at hj
      have : j - xs.length = 0 := by
        cases e : j - xs.length with
        | zero => rfl
        | succ n => rw [e] at hj; simp at hj
      rw [this] at hj
      simp only [List.getElem?_cons_zero, Option.some.injEq] at hj
      subst hj
      have ej : j % m = p := by rw [show j = xs.length by omega, hp]
      rw [ej, cd, cd, cd, cd]
      refine ⟨?_, ?_, ?_, ?_⟩
      · rw [if_neg (by omega), if_neg (by omega), if_neg (by omega), if_pos rfl]
      · rw [if_neg (by omega), if_neg (by omega), if_pos rfl]
      · rw [if_neg (by omega), if_pos rfl]
      · rw [if_pos rfl]
  · rw [← hMe, ← hMd, ← hMc, ← hMb, ← hMa]; rfl
  · rw [mI_o _ _ _ _ _ n1, ← hMe, mI_o _ _ _ _ _ n1, od o n2]
/-! ===== the class: a hall ===== -/
/-- what a step of a hall leaves alone -/
def FrH (M M' : Mem) (h : Nat) : Prop := mN M ≤ mN M' ∧ (∀ i, i < mN M → M'.1.2.1 i = M.1.2.1 i) ∧ (∀ a b, a < mN M → ¬ (a = h + 1 ∧ 5 ≤ b ∧ b ≤ 7) → mR M' a b = mR M a b) ∧ (∀ o, o < mN M → ¬ (h ≤ o ∧ o < h + 49) → o ≠ mR M (h + 1) 5 → o ≠ mR M (h + 1) 6 → o ≠ mR M (h + 1) 7 → ∀ b, mI M' o b = mI M o b) ∧ (∀ o, o < mN M → ∀ b, mL M' o b = mL M o b) ∧ (∀ j, 5 ≤ j → j ≤ 7 → mR M' (h + 1) j = mR M (h + 1) j ∨ mN M ≤ mR M' (h + 1) j)
theorem FrH.rf (M : Mem) (h : Nat) : FrH M M h := ⟨Nat.le_refl _, fun _ _ => rfl, fun _ _ _ _ => rfl, fun _ _ _ _ _ _ _ => rfl, fun _ _ _ => rfl, fun _ _ _ => Or.inl rfl⟩
theorem FrH.tr {M M' M'' : Mem} {h : Nat} (p : FrH M M' h) (p' : FrH M' M'' h) : FrH M M'' h := by
  obtain ⟨a1, a2, a3, a4, a5, a6⟩ := p
  obtain ⟨b1, b2, b3, b4, b5, b6⟩ := p'
  refine ⟨Nat.le_trans a1 b1, fun i hi => (b2 i (by omega)).trans (a2 i hi), fun a b ha hn => (b3 a b (by omega) hn).trans (a3 a b ha hn), fun o ho h1 h5 h6 h7 b => ?_, fun o ho b => (b5 o (by omega) b).trans (a5 o ho b), fun j h5 h7 => ?_⟩
  · have n5 : o ≠ mR M' (h + 1) 5 := by rcases a6 5 (by decide) (by decide) with e | e <;> omega
    have n6 : o ≠ mR M' (h + 1) 6 := by rcases a6 6 (by decide) (by decide) with e | e <;> omega
    have n7 : o ≠ mR M' (h + 1) 7 := by rcases a6 7 (by decide) (by decide) with e | e <;> omega
    exact (b4 o (by omega) h1 n5 n6 n7 b).trans (a4 o ho h1 h5 h6 h7 b)
  · rcases b6 j h5 h7 with e | e
    · rcases a6 j h5 h7 with e2 | e2
      · exact Or.inl (e.trans e2)
      · exact Or.inr (by omega)
    · exact Or.inr (by omega)
theorem FrP.toH {M M' : Mem} {h : Nat} (p : FrP M M' h) : FrH M M' h := by
  obtain ⟨a1, a2, a3, a4, a5, a6⟩ := p
  exact ⟨a1, a2, a3, fun o ho n => a4 o ho (fun z => n (by omega)), fun o ho => a5 o ho, a6⟩
/-- a step that makes nothing new -/
theorem FrH.of {M M' : Mem} {h : Nat} (e : M'.1 = M.1) (hI : ∀ o, ¬ (h ≤ o ∧ o < h + 49) → ∀ b, mI M' o b = mI M o b) (hL : ∀ o b, mL M' o b = mL M o b) : FrH M M' h :=
  ⟨by unfold mN; rw [e]; exact Nat.le_refl _, fun i _ => by rw [e], fun a b _ _ => by unfold mR; rw [e], fun o _ n _ _ _ b => hI o n b, fun o _ b => hL o b, fun j _ _ => Or.inl (by unfold mR; rw [e])⟩
theorem FrH.sI {M : Mem} {h o k : Nat} {x : Int32} (ho : h ≤ o ∧ o < h + 49) : FrH M (sI M o k x) h :=
  FrH.of rfl (fun o' n b => mI_o _ _ _ _ _ (fun z => n (by rw [z]; exact ho))) (fun _ _ => rfl)
theorem HP.cg {M M' : Mem} {h : Nat} {S S' : St} (p : HP M h S) (ho : ∀ o, (o = h ∨ (h + 17 ≤ o ∧ o < h + 49)) → ∀ b, mI M' o b = mI M o b) (hr : ∀ k i, k ≠ 16 → xR S' k i = xR S k i) (hW : xW S' = xW S) : HP M' h S' := by
  obtain ⟨p1, g7, g8, g9, g10, g11, g12, g13, g14, g15⟩ := p
  have hf : ∀ p, p ∈ ft → p.2 ≠ 16 := by decide
  have e0 := fun v => hr 0 v (by decide)
  have e15 := fun v => hr 15 v (by decide)
  have eh := ho h (Or.inl rfl)
  refine ⟨fun v hv => ?_, fun v hv => ?_, fun v hv => ?_, fun v hv => ?_, ?_, ?_, ?_, ?_, ?_, ?_⟩
  · obtain ⟨a1, a2, a3, a4, a5⟩ := p1 v hv
    have o1 := ho (h + 17 + 2 * v) (Or.inr (by omega))
    have o2 := ho (h + 18 + 2 * v) (Or.inr (by omega))
    refine ⟨fun p hp => ?_, ?_, fun z => ?_, fun w hw => ?_, fun w hw => ?_⟩
    · rw [o1, hr _ _ (hf p hp)]; exact a1 p hp
    · rw [o1, hr 8 _ (by decide), hr 9 _ (by decide)]; exact a2
    · rw [o1, hr 14 _ (by decide)]; exact a3 (by rw [← e0]; exact z)
    · rw [o1, hW]; exact a4 w hw
    · rw [hW] at hw; rw [o2]; exact a5 w hw
  · rw [eh, e0]; exact g7 v hv
  · rw [eh, e0]; exact g8 v hv
  · rw [eh, hr 7 _ (by decide)]; exact g9 v hv
  · rw [eh, e15]; exact g10
  · rw [eh, e15]; exact g11
  · rw [eh, e15]; exact g12
  · rw [eh, e15]; exact g13
  · rw [eh, e15]; exact g14
  · rw [eh, e15]; exact g15
/-- a hall of the class stands for S; N nodes, Q the quorums it keeps, pb and pt what its logs held before -/
def HV (M : Mem) (h X Y : Nat) (t : Int32) (N : Nat) (Q : Nat → Int32) (S : St) (pb pt : List Row4) : Prop := CS M h ∧ PV M h t S ∧ HP M h S ∧ Rm M h X Y ∧ (LG M (h + 11) 30 (pb ++ xE S) ∧ LG M (h + 13) 40 (pt ++ xT S)) ∧ mI M 1 3 = nI N ∧ (∀ v, v < N → mI M (h + 15) v = Q v)
theorem PV.ds {M : Mem} {h : Nat} {t : Int32} {S : St} (p : PV M h t S) : (mR M (h + 1) 5 = h + 7 ∨ 131 ≤ mR M (h + 1) 5) ∧ (mR M (h + 1) 6 = h + 8 ∨ 131 ≤ mR M (h + 1) 6) ∧ (mR M (h + 1) 7 = h + 9 ∨ 131 ≤ mR M (h + 1) 7) := by
  obtain ⟨d5, d6, d7, len, K, fr, us, ow, p, _⟩ := p
  obtain ⟨⟨w5, w6, w7⟩, _, _, x⟩ := p.1
  rw [w5, w6, w7]
  exact ⟨x.1, x.2.1, x.2.2.1⟩
theorem HV.frP {M M' : Mem} {h X Y N : Nat} {t : Int32} {Q : Nat → Int32} {S S' : St} {pb pt : List Row4} (p : HV M h X Y t N Q S pb pt) (f : FrP M M' h) (q' : CS M' h) (p' : PV M' h t S') (r' : Rm M' h X Y) (hr : ∀ k i, k ≠ 16 → xR S' k i = xR S k i) (hW : xW S' = xW S) (hE : xE S' = xE S) (hT : xT S' = xT S) : HV M' h X Y t N Q S' pb pt := by
  obtain ⟨q, p, hp, rm, ⟨lb, lt⟩, hN, hQ⟩ := p
  have ds := p.ds
  have hq := q.2.2.2.2
  have oI : ∀ o, o < 131 → ¬ (h + 1 ≤ o ∧ o ≤ h + 9) → ∀ b, mI M' o b = mI M o b := fun o h1 h2 b => f.2.2.2.1 o (by omega) (by omega) (by omega) (by omega) (by omega) b
  refine ⟨q', p', hp.cg (fun o ho => oI o (by omega) (by omega)) hr hW, r', ⟨?_, ?_⟩, ?_, fun v hv => ?_⟩
  · rw [hE]; exact lb.cg (oI _ (by omega) (by omega)) (oI _ (by omega) (by omega))
  · rw [hT]; exact lt.cg (oI _ (by omega) (by omega)) (oI _ (by omega) (by omega))
  · rw [oI 1 (by decide) (by omega)]; exact hN
  · rw [oI _ (by omega) (by omega)]; exact hQ v hv
theorem HV.put {M : Mem} {h X Y N : Nat} {t : Int32} {Q : Nat → Int32} {S : St} {pb pt : List Row4} (p : HV M h X Y t N Q S pb pt) (hl : (fl S).length < 9000) {k f g : Nat} {s : Int32} (hk : k < 6) (hf : f < 16) (hg : g < 16) : ∃ M', f_X5_put (h + 1) (nI k) (nI f) (nI g) s M = some M' ∧ HV M' h X Y t N Q (sn t k f g s S) pb pt ∧ FrH M M' h := by
  obtain ⟨M', e, q', p', r', f'⟩ := p.2.1.put (s := s) p.1 p.2.2.2.1 hl hk hf hg
  refine ⟨M', e, p.frP f' q' p' r' (fun k' i n => ?_) rfl rfl rfl, f'.toH⟩
  unfold sn
  rw [xR_uL, xR_uR, if_neg (fun z => n z.1)]
theorem HV.take {M : Mem} {h X Y N : Nat} {t : Int32} {Q : Nat → Int32} {S : St} {pb pt : List Row4} (p : HV M h X Y t N Q S pb pt) {f g : Nat} {x : Ltr} {r : List Ltr} (hf : f < 16) (hg : g < 16) (hx : xL S (16 * f + g) = x :: r) : ∃ M', f_X5_takeFirst (h + 1) (nI f) (nI g) M = some (encC x, M') ∧ HV M' h X Y t N Q (uL S (16 * f + g) r) pb pt ∧ FrH M M' h := by
  obtain ⟨M', e, q', p', r', f'⟩ := p.2.1.take p.1 p.2.2.2.1 hf hg hx
  exact ⟨M', e, p.frP f' q' p' r' (fun k' i n => rfl) rfl rfl rfl, f'.toH⟩
/-! ===== the class: a grant ===== -/
theorem PV.fr {M M' : Mem} {h : Nat} {t : Int32} {S S' : St} (q : CS M h) (p : PV M h t S) (e : M'.1 = M.1) (hI : ∀ o, ¬ (o = h ∨ (h + 11 ≤ o ∧ o < h + 49)) → ∀ b, mI M' o b = mI M o b) (hL : xL S' = xL S) (h16 : xR S' 16 = xR S 16) : PV M' h t S' := by
  obtain ⟨d5, d6, d7, len, K, fr, us, ow, p, hK⟩ := p
  have w := p.1
  have x := w.2.2.2
  have hq := q.2.2.2.2
  have hl := p.2.2.2.2.2.2.2.2.2.1
  refine ⟨d5, d6, d7, len, K, fr, us, ow, ?_, fun l hl => by rw [hL]; exact hK l hl⟩
  rw [h16]
  exact p.cg (w.e e) (Nat.le_refl _) (by omega) (fun i _ _ b => hI _ (by omega) b) (fun b _ => hI _ (by omega) b) (fun b _ => hI _ (by omega) b) (fun b _ => hI _ (by omega) b)
/-- places and the hall's own numbers alone are set -/
theorem HV.at {M M' : Mem} {h X Y N : Nat} {t : Int32} {Q : Nat → Int32} {S S' : St} {pb pt : List Row4} (p : HV M h X Y t N Q S pb pt) (e : M'.1 = M.1) (hI : ∀ o, ¬ (o = h ∨ (h + 17 ≤ o ∧ o < h + 49)) → ∀ b, mI M' o b = mI M o b) (hp : HP M' h S') (hL : xL S' = xL S) (h16 : xR S' 16 = xR S 16) (hE : xE S' = xE S) (hT : xT S' = xT S) : HV M' h X Y t N Q S' pb pt := by
  obtain ⟨q, p, _, rm, ⟨lb, lt⟩, hN, hQ⟩ := p
  have hq := q.2.2.2.2
  refine ⟨q.e e, p.fr q e (fun o n b => hI o (by omega) b) hL h16, hp, ?_, ⟨?_, ?_⟩, ?_, fun v hv => ?_⟩
  · unfold Rm mN mU mLn mR at rm ⊢
    rw [e]; exact rm
  · rw [hE]; exact lb.cg (hI _ (by omega)) (hI _ (by omega))
  · rw [hT]; exact lt.cg (hI _ (by omega)) (hI _ (by omega))
  · rw [hI 1 (by omega)]; exact hN
  · rw [hI _ (by omega)]; exact hQ v hv
/-- a without the one granted, and its first waiting one granted, before the letter -/
def g1 (a : Nat) (w : Wtr) (r : List Wtr) (S : St) : St := uW (uR (uR (nob a S) 8 a (nI w.1)) 9 a w.2) a r
theorem g1_R (a : Nat) (w : Wtr) (r : List Wtr) (S : St) (k : Nat) : xR (g1 a w r S) k a = if k = 9 then w.2 else if k = 8 then nI w.1 else if k = 10 then 0 else xR S k a := by
  unfold g1 nob
  rw [xR_uW, xR_uR, xR_uR, xR_uR, xR_uR, xR_uR]
  by_cases c9 : k = 9
  · rw [if_pos ⟨c9, rfl⟩, if_pos c9]
  · rw [if_neg (fun z => c9 z.1), if_neg c9]
    by_cases c8 : k = 8
    · rw [if_pos ⟨c8, rfl⟩, if_pos c8]
    · rw [if_neg (fun z => c8 z.1), if_neg c8]
      by_cases c10 : k = 10
      · rw [if_pos ⟨c10, rfl⟩, if_pos c10]
      · rw [if_neg (fun z => c10 z.1), if_neg c10, if_neg (fun z => c9 z.1), if_neg (fun z => c8 z.1)]
theorem g1_Ro (a : Nat) (w : Wtr) (r : List Wtr) (S : St) (k i : Nat) (n : i ≠ a) : xR (g1 a w r S) k i = xR S k i := by
  unfold g1 nob
  rw [xR_uW, xR_uR, xR_uR, xR_uR, xR_uR, xR_uR, if_neg (fun z => n z.2), if_neg (fun z => n z.2), if_neg (fun z => n z.2), if_neg (fun z => n z.2), if_neg (fun z => n z.2)]
theorem g1_Rk (a : Nat) (w : Wtr) (r : List Wtr) (S : St) (k : Nat) (h : k ≠ 8 ∧ k ≠ 9 ∧ k ≠ 10) : xR (g1 a w r S) k = xR S k := by
  funext i
  by_cases n : i = a
  · rw [n, g1_R, if_neg h.2.1, if_neg h.1, if_neg h.2.2]
  · exact g1_Ro a w r S k i n
set_option maxHeartbeats 1000000 in
theorem HV.grant {M : Mem} {h X Y N A n : Nat} {t : Int32} {Q : Nat → Int32} {S : St} {pb pt : List Row4} (p : HV M h X Y t N Q S pb pt) (hl : (fl S).length < 9000) {a : Nat} (ha : a < 16) (hw : Wok N A (xW S a)) (h16 : N ≤ 16) (hn : 17 ≤ n) {w : Wtr} {r : List Wtr} (hx : xW S a = w :: r) : ∃ M', f_X2_grantFirst n h (nI a) M = some M' ∧ HV M' h X Y t N Q (gF t a S) pb pt ∧ FrH M M' h := by
  obtain ⟨q, pv, hp, rm, lg, hN, hQ⟩ := id p
  have hq := q.2.2.2.2
  have wN := (hw.2.2 w (by rw [hx]; simp)).1
  obtain ⟨a1, a2, a3, a4, a5⟩ := hp.1 a ha
  generalize hP : h + 17 + 2 * a = P at *
  generalize hMa : sI M P 9 (bof (mI M P 9) w.1) = Ma
  generalize hMb : sI Ma P 6 (nI w.1) = Mb
  generalize hMc : sI Mb P 7 w.2 = Mc
  generalize hMd : sI Mc P 8 0 = Md
  have sa : Ma.1 = M.1 := by rw [← hMa]; rfl
  have sb : Mb.1 = M.1 := by rw [← hMb]; exact sa
  have sc : Mc.1 = M.1 := by rw [← hMc]; exact sb
  have sd : Md.1 = M.1 := by rw [← hMd]; exact sc
  have od : ∀ o, o ≠ P → ∀ b, mI Md o b = mI M o b := fun o n b => by rw [← hMd, mI_o _ _ _ _ _ n, ← hMc, mI_o _ _ _ _ _ n, ← hMb, mI_o _ _ _ _ _ n, ← hMa, mI_o _ _ _ _ _ n]
  have ob : ∀ o, o ≠ P → ∀ b, mI Mb o b = mI M o b := fun o n b => by rw [← hMb, mI_o _ _ _ _ _ n, ← hMa, mI_o _ _ _ _ _ n]
  have d8 : mI Md P 8 = 0 := by rw [← hMd, mI_s]
  have d7 : mI Md P 7 = w.2 := by rw [← hMd, mI_n _ _ _ _ (by decide), ← hMc, mI_s]
  have d6 : mI Md P 6 = nI w.1 := by rw [← hMd, mI_n _ _ _ _ (by decide), ← hMc, mI_n _ _ _ _ (by decide), ← hMb, mI_s]
  have d9 : mI Md P 9 = bof (mI M P 9) w.1 := by rw [← hMd, mI_n _ _ _ _ (by decide), ← hMc, mI_n _ _ _ _ (by decide), ← hMb, mI_n _ _ _ _ (by decide), ← hMa, mI_s]
  have dn : ∀ b, b ≠ 6 → b ≠ 7 → b ≠ 8 → b ≠ 9 → mI Md P b = mI M P b := fun b n6 n7 n8 n9 => by rw [← hMd, mI_n _ _ _ _ n8, ← hMc, mI_n _ _ _ _ n7, ← hMb, mI_n _ _ _ _ n6, ← hMa, mI_n _ _ _ _ n9]
  have hpd : HP Md h (g1 a w r S) := by
    refine hp.at (v := a) ⟨fun p hp => ?_, ?_, fun z => ?_, fun u hu => ?_, fun w' hw' => ?_⟩ (fun o _ n _ b => od o (by rw [← hP]; exact n) b) (fun k i n _ _ _ => g1_Ro a w r S k i n) (by rw [g1_Rk _ _ _ _ _ (by decide)]) (by rw [g1_Rk _ _ _ _ _ (by decide)]) (g1_Rk _ _ _ _ _ (by decide)) (fun b n => ?_)
    · have lim : ∀ p, p ∈ ft → p.1 ≠ 7 ∧ p.1 ≠ 9 ∧ p.2 ≠ 9 ∧ (p.1 = 6 ↔ p.2 = 8) ∧ (p.1 = 8 ↔ p.2 = 10) := by decide
      obtain ⟨l7, l9, k9, l6, l8⟩ := lim p hp
      rw [hP, g1_R, if_neg k9]
      by_cases c6 : p.1 = 6
      · rw [c6, d6, if_pos (l6.mp c6)]
      · rw [if_neg (fun z => c6 (l6.mpr z))]
        by_cases c8 : p.1 = 8
        · rw [c8, d8, if_pos (l8.mp c8)]
        · rw [if_neg (fun z => c8 (l8.mpr z)), dn _ c6 l7 c8 l9]
          exact a1 p hp
    · have e8 : xR (g1 a w r S) 8 a = nI w.1 := by rw [g1_R, if_neg (by decide), if_pos rfl]
      have e9 : xR (g1 a w r S) 9 a = w.2 := by rw [g1_R, if_pos rfl]
      rw [hP, d7, e8, e9, if_neg (nI_m1 (by omega))]
    · rw [hP, dn _ (by decide) (by decide) (by decide) (by decide), g1_Rk _ _ _ _ _ (by decide)]
      exact a3 (by rw [g1_Rk _ _ _ _ _ (by decide)] at z; exact z)
    · rw [hP, d9, bt_off _ (by omega) hu, a4 u hu, hx]
      have nd := hw.2.1
      rw [hx, List.map_cons] at nd
      obtain ⟨n1, n2⟩ := List.nodup_cons.mp nd
      show _ = decide (u ∈ (xW (uW _ a r) a).map Prod.fst)
      rw [xW_uW, if_pos rfl, List.map_cons]
      by_cases c : u = w.1
      · rw [c, decide_eq_false n1]; simp
      · simp [c]
    · have hw2 : w' ∈ r := by
        have z : xW (g1 a w r S) a = r := by unfold g1; rw [xW_uW, if_pos rfl]
        rwa [z] at hw'
      rw [od _ (by omega)]
      exact a5 w' (by rw [hx]; exact List.mem_cons_of_mem _ hw2)
    · unfold g1 nob
      rw [xW_uW, if_neg n]; rfl
  have vd : HV Md h X Y t N Q (g1 a w r S) pb pt := p.at sd (fun o n b => od o (by omega) b) hpd rfl (g1_Rk _ _ _ _ _ (by decide)) rfl rfl
  have frd : FrH M Md h := FrH.of sd (fun o n b => od o (by omega) b) (fun o b => by rw [← hMd, ← hMc, ← hMb, ← hMa]; rfl)
  obtain ⟨M', e', v', f'⟩ := vd.put (k := 1) (f := a) (g := w.1) (s := w.2) hl (by decide) ha (by omega)
  refine ⟨M', ?_, ?_, frd.tr f'⟩
  · have qb := q.e sb
    have qd := q.e sd
    have fw := hp.fw q ha hw h16 hn
    have po := fun x : Option Mem => cs_po q ha x
    have rb := cs_pr qb ha
    rw [hP] at fw po rb
    have hh : hdW (xW S a) = nI w.1 := by rw [hx]; rfl
    have hm : mI Mb (h + 18 + 2 * a) w.1 = w.2 := by rw [ob _ (by omega)]; exact a5 w (by rw [hx]; simp)
    rw [f_X2_grantFirst, cs_f q, cs_h2 q, bnd_e, cs_a10 q, cs_i10 q ha, cs_rpc q ha, bnd_e, hP, po, fw, obd_s, hh, if_neg (nI_m1 (by omega)), show (mI M P 9 &&& (((1 : Int32) <<< (nI w.1 &&& 31)) ^^^ (-1 : Int32))) = bof (mI M P 9) w.1 from rfl, hMa, bnd_e, hMb, bnd_e, rb, bnd_e, cs_pa qb ha, cs_pi qb ha (by omega), mI_c (by omega), hm, hMc, bnd_e, chk_t (Or.inl rfl), hMd, bnd_e, cs_h1 qd, bnd_e, cs_p qd, d7]
    rw [show f_X5_put (h + 1) 1 (nI a) (nI w.1) w.2 Md = some M' from e', obd_s]
  · unfold gF
    rw [hx]
    exact v'
/-! ===== the class: letters to all of a set; one number of a place ===== -/
theorem HV.fs {M : Mem} {h X Y N : Nat} {t : Int32} {Q : Nat → Int32} {S : St} {pb pt : List Row4} (p : HV M h X Y t N Q S pb pt) {v a k : Nat} (hv : v < 16) (hf : (a, k) ∈ ft) : mI M (h + 17 + 2 * v) a = xR S k v := (p.2.2.1.1 v hv).1 (a, k) hf
theorem HV.fld {M : Mem} {h X Y N : Nat} {t : Int32} {Q : Nat → Int32} {S : St} {pb pt : List Row4} (p : HV M h X Y t N Q S pb pt) {v a k : Nat} {x : Int32} (hv : v < 16) (hf : (a, k) ∈ ft) (h8 : k ≠ 8) : HV (sI M (h + 17 + 2 * v) a x) h X Y t N Q (uR S k v x) pb pt ∧ FrH M (sI M (h + 17 + 2 * v) a x) h := by
  have k16 : ∀ p, p ∈ ft → p.2 ≠ 16 := by decide
  refine ⟨p.at rfl (fun o n b => mI_o _ _ _ _ _ (by omega)) (p.2.2.1.fld hv hf h8) rfl ?_ rfl rfl, FrH.sI (by omega)⟩
  funext i
  rw [xR_uR, if_neg (fun z => k16 _ hf z.1.symm)]
set_option maxHeartbeats 1000000 in
theorem HV.sal {h X Y N : Nat} {t : Int32} {Q : Nat → Int32} {pb pt : List Row4} (h16 : N ≤ 16) {k f : Nat} (hk : k < 6) (hf : f < 16) (set s : Int32) : ∀ (d i n : Nat) (M : Mem) (S : St), HV M h X Y t N Q S pb pt → xR S 2 f = s → i + d = N → (fl S).length + d ≤ 9000 → d + 1 ≤ n → ∃ M', f_X2_sendToAll_3 n h (nI k) (nI f) set (nI i) M = some M' ∧ HV M' h X Y t N Q (sAl t k f set s (List.range' i d) S) pb pt ∧ FrH M M' h := by
  intro d
  induction d with
  | zero =>
    intro i n M S p hs hi hl hn
    obtain ⟨n, rfl⟩ : ∃ m, n = m + 1 := ⟨n - 1, by omega⟩
    refine ⟨M, ?_, p, FrH.rf _ _⟩
    have q := p.1
    rw [f_X2_sendToAll_3, cs_f q, cs_h0 q, bnd_e, cs_s q, p.2.2.2.2.2.1, if_pos (nI_le (by omega) (by omega))]
  | succ d ih =>
    intro i n M S p hs hi hl hn
    obtain ⟨n, rfl⟩ : ∃ m, n = m + 1 := ⟨n - 1, by omega⟩
    have q := p.1
    have el : sAl t k f set s (List.range' i (d + 1)) S = sAl t k f set s (List.range' (i + 1) d) (if bt set i then sn t k f i s S else S) := by
      unfold sAl
      rw [List.range'_succ, List.foldl_cons]
    rw [el, f_X2_sendToAll_3, cs_f q, cs_h0 q, bnd_e, cs_s q, p.2.2.2.2.2.1, if_neg (nI_ge (by omega) (by omega)), f_has9 _ (by omega), obd_s]
    by_cases c : bt set i = true
    · obtain ⟨M1, e1, p1, f1⟩ := p.put (k := k) (f := f) (g := i) (s := s) (by omega) hk hf (by omega)
      obtain ⟨M2, e2, p2, f2⟩ := ih (i + 1) n M1 _ p1 (by rw [sn_R _ _ _ _ _ _ (by decide)]; exact hs) (by omega) (by rw [fl_sn_len (by omega)]; omega) (by omega)
      refine ⟨M2, ?_, ?_, f1.tr f2⟩
      · rw [if_pos c, if_neg (by decide), cs_h1 q, bnd_e, cs_p q, cs_h2 q, bnd_e, cs_a10 q, cs_i10 q hf, cs_rpc q hf, bnd_e, cs_po q hf, p.fs hf (a := 1) (k := 2) (by decide), hs, e1, obd_s, nI_1, bnd_e, e2]
      · rw [if_pos c]; exact p2
    · obtain ⟨M2, e2, p2, f2⟩ := ih (i + 1) n M S p hs (by omega) (by omega) (by omega)
      refine ⟨M2, ?_, ?_, f2⟩
      · rw [if_neg c, if_pos rfl, nI_1, bnd_e, e2]
      · rw [if_neg c]; exact p2
theorem HV.tsA {M : Mem} {h X Y N n : Nat} {t : Int32} {Q : Nat → Int32} {S : St} {pb pt : List Row4} (p : HV M h X Y t N Q S pb pt) (h16 : N ≤ 16) {k f : Nat} (hk : k < 6) (hf : f < 16) (set : Int32) (hl : (fl S).length + N ≤ 9000) (hn : 17 ≤ n) : ∃ M', f_X2_sendToAll n h (nI k) (nI f) set M = some M' ∧ HV M' h X Y t N Q (sA t N k f set (xR S 2 f) S) pb pt ∧ FrH M M' h := by
  obtain ⟨M', e, p', f'⟩ := HV.sal (h := h) (X := X) (Y := Y) (Q := Q) (t := t) (pb := pb) (pt := pt) h16 hk hf set (xR S 2 f) N 0 n M S p rfl (by omega) hl (by omega)
  refine ⟨M', by rw [f_X2_sendToAll, show (0 : Int32) = nI 0 from rfl, e], ?_, f'⟩
  unfold sA
  rw [List.range_eq_range']
  exact p'
/-! ===== the class: asking, leaving ===== -/
theorem uR_co (S : St) {k i k' i' : Nat} {x x' : Int32} (h : k ≠ k') : uR (uR S k i x) k' i' x' = uR (uR S k' i' x') k i x := by
  unfold uR
  refine Prod.ext ?_ rfl
  funext a b
  show (if a = k' ∧ b = i' then x' else if a = k ∧ b = i then x else S.1 a b) = (if a = k ∧ b = i then x else if a = k' ∧ b = i' then x' else S.1 a b)
  by_cases c : a = k ∧ b = i
  · rw [if_pos c, if_pos c, if_neg (fun z => h (c.1.symm.trans z.1))]
  · rw [if_neg c, if_neg c]
theorem sn_uR {t : Int32} {k f g : Nat} {s : Int32} {S : St} {k' i : Nat} {x : Int32} (h : k' ≠ 16) : sn t k f g s (uR S k' i x) = uR (sn t k f g s S) k' i x := by
  have e : xR (uR S k' i x) 16 k = xR S 16 k := by rw [xR_uR, if_neg (fun z => h z.1.symm)]
  unfold sn
  rw [e, uR_co S h]
  rfl
theorem sAl_uR {t : Int32} {k f : Nat} {set s : Int32} {k' i : Nat} {x : Int32} (h : k' ≠ 16) : ∀ (ws : List Nat) (S : St), sAl t k f set s ws (uR S k' i x) = uR (sAl t k f set s ws S) k' i x := by
  intro ws
  induction ws with
  | nil => intro S; rfl
  | cons w ws ih =>
    intro S
    have e : ∀ S', sAl t k f set s (w :: ws) S' = sAl t k f set s ws (if bt set w then sn t k f w s S' else S') := fun S' => by unfold sAl; rw [List.foldl_cons]
    rw [e, e, ← ih]
    by_cases c : bt set w = true
    · rw [if_pos c, if_pos c, sn_uR h]
    · rw [if_neg c, if_neg c]
theorem HP.stt {M M' : Mem} {h : Nat} {S : St} (p : HP M h S) {v : Nat} {y : Int32} (h7 : ∀ u, u < 32 → bt (mI M' h 7) u = decide (u < 16 ∧ (if u = v then y else xR S 0 u) = 2)) (h8 : ∀ u, u < 32 → bt (mI M' h 8) u = decide (u < 16 ∧ (if u = v then y else xR S 0 u) = 1)) (ho : ∀ o, o ≠ h → ∀ b, mI M' o b = mI M o b) (hh : ∀ b, b ≠ 7 → b ≠ 8 → mI M' h b = mI M h b) (h14 : y = 1 → mI M (h + 17 + 2 * v) 14 = xR S 14 v) : HP M' h (uR S 0 v y) := by
  obtain ⟨p1, g7, g8, g9, g10⟩ := p
  have r0 : ∀ u, xR (uR S 0 v y) 0 u = if u = v then y else xR S 0 u := fun u => by
    rw [xR_uR]
    by_cases c : u = v
    · rw [if_pos ⟨rfl, c⟩, if_pos c]
    · rw [if_neg (fun z => c z.2), if_neg c]
  have r : ∀ k u, k ≠ 0 → xR (uR S 0 v y) k u = xR S k u := fun k u n => by rw [xR_uR, if_neg (fun z => n z.1)]
  have lim : ∀ p, p ∈ ft → p.2 ≠ 0 := by decide
  refine ⟨fun u hu => ?_, fun u hu => ?_, fun u hu => ?_, fun u hu => ?_, ?_⟩
  · obtain ⟨a1, a2, a3, a4, a5⟩ := p1 u hu
    have o1 := ho (h + 17 + 2 * u) (by omega)
    have o2 := ho (h + 18 + 2 * u) (by omega)
    refine ⟨fun p hp => ?_, ?_, fun z => ?_, fun w hw => ?_, fun w hw => ?_⟩
    · rw [o1, r _ _ (lim p hp)]; exact a1 p hp
    · rw [o1, r _ _ (by decide), r _ _ (by decide)]; exact a2
    · rw [o1, r _ _ (by decide)]
      rw [r0] at z
      by_cases c : u = v
      · rw [if_pos c] at z
        rw [c]; exact h14 z
      · rw [if_neg c] at z
        exact a3 z
    · rw [o1]; exact a4 w hw
    · rw [o2]; exact a5 w hw
  · rw [r0]; exact h7 u hu
  · rw [r0]; exact h8 u hu
  · rw [hh _ (by decide) (by decide), r _ _ (by decide)]; exact g9 u hu
  · rw [hh _ (by decide) (by decide), hh _ (by decide) (by decide), hh _ (by decide) (by decide), hh _ (by decide) (by decide), hh _ (by decide) (by decide), hh _ (by decide) (by decide), r _ _ (by decide), r _ _ (by decide), r _ _ (by decide), r _ _ (by decide), r _ _ (by decide), r _ _ (by decide)]
    exact g10
set_option maxHeartbeats 1000000 in
theorem HV.rest {M : Mem} {h X Y N : Nat} {t : Int32} {Q : Nat → Int32} {S : St} {pb pt : List Row4} (p : HV M h X Y t N Q S pb pt) {v : Nat} (hv : v < 16) : ∃ M', f_X4_rest (h + 17 + 2 * v) M = some M' ∧ HV M' h X Y t N Q (uR (uR (uR (uR S 3 v 0) 4 v 0) 5 v 0) 6 v 0) pb pt ∧ FrH M M' h ∧ M'.1 = M.1 := by
  obtain ⟨p1, f1⟩ := p.fld (a := 2) (k := 3) (x := 0) hv (by decide) (by decide)
  obtain ⟨p2, f2⟩ := p1.fld (a := 3) (k := 4) (x := 0) hv (by decide) (by decide)
  obtain ⟨p3, f3⟩ := p2.fld (a := 4) (k := 5) (x := 0) hv (by decide) (by decide)
  obtain ⟨p4, f4⟩ := p3.fld (a := 5) (k := 6) (x := 0) hv (by decide) (by decide)
  exact ⟨_, by rw [f_X4_rest, cs_po p.1 hv, bnd_e, bnd_e, bnd_e, bnd_e], p4, ((f1.tr f2).tr f3).tr f4, rfl⟩
set_option maxHeartbeats 1000000 in
theorem HV.idle {M : Mem} {h X Y N : Nat} {t : Int32} {Q : Nat → Int32} {S : St} {pb pt : List Row4} (p : HV M h X Y t N Q S pb pt) {v : Nat} (hv : v < 16) : ∃ M', f_X2_beIdle h (nI v) M = some M' ∧ HV M' h X Y t N Q (rst v S) pb pt ∧ FrH M M' h := by
  generalize hMa : sI M h 7 (bof (mI M h 7) v) = Ma
  generalize hMb : sI Ma h 8 (bof (mI M h 8) v) = Mb
  have sa : Ma.1 = M.1 := by rw [← hMa]; rfl
  have sb : Mb.1 = M.1 := by rw [← hMb]; exact sa
  have ob : ∀ o, o ≠ h → ∀ b, mI Mb o b = mI M o b := fun o n b => by rw [← hMb, mI_o _ _ _ _ _ n, ← hMa, mI_o _ _ _ _ _ n]
  obtain ⟨_, g7, g8, _⟩ := p.2.2.1
  have hpb : HP Mb h (uR S 0 v 0) := by
    refine p.2.2.1.stt (fun u hu => ?_) (fun u hu => ?_) ob (fun b n7 n8 => by rw [← hMb, mI_n _ _ _ _ n8, ← hMa, mI_n _ _ _ _ n7]) (fun z => absurd z (by decide))
    · rw [← hMb, mI_n _ _ _ _ (by decide), ← hMa, mI_s, bt_off _ (by omega) hu, g7 u hu]
      by_cases c : u = v
      · rw [if_pos c]; simp [c]
      · rw [if_neg c]; simp [c]
    · rw [← hMb, mI_s, bt_off _ (by omega) hu, g8 u hu]
      by_cases c : u = v
      · rw [if_pos c]; simp [c]
      · rw [if_neg c]; simp [c]
  have vb : HV Mb h X Y t N Q (uR S 0 v 0) pb pt := p.at sb (fun o n b => ob o (fun z => n (Or.inl z)) b) hpb rfl (by funext i; rw [xR_uR, if_neg (fun z => by have := z.1; omega)]) rfl rfl
  have fb : FrH M Mb h := FrH.of sb (fun o n b => ob o (fun z => n (by omega)) b) (fun o b => by rw [← hMb, ← hMa]; rfl)
  obtain ⟨M', e', p', f', _⟩ := vb.rest hv
  refine ⟨M', ?_, ?_, fb.tr f'⟩
  · have q := p.1
    have qb := q.e sb
    have e8 : mI Ma h 8 = mI M h 8 := by rw [← hMa, mI_n _ _ _ _ (by decide)]
    rw [f_X2_beIdle, cs_f q, show (mI M h 7 &&& (((1 : Int32) <<< (nI v &&& 31)) ^^^ (-1 : Int32))) = bof (mI M h 7) v from rfl, hMa, bnd_e, e8, show (mI M h 8 &&& (((1 : Int32) <<< (nI v &&& 31)) ^^^ (-1 : Int32))) = bof (mI M h 8) v from rfl, hMb, bnd_e, cs_h2 qb, bnd_e, cs_a10 qb, cs_i10 qb hv, cs_rpc qb hv, bnd_e, cs_po qb hv, e', obd_s]
  · unfold rst
    rw [uR_co (uR (uR (uR S 3 v 0) 4 v 0) 5 v 0) (k := 6) (k' := 0) (by decide), uR_co (uR (uR S 3 v 0) 4 v 0) (k := 5) (k' := 0) (by decide), uR_co (uR S 3 v 0) (k := 4) (k' := 0) (by decide), uR_co S (k := 3) (k' := 0) (by decide)]
    exact p'
theorem HV.tlv {M : Mem} {h X Y N n : Nat} {t : Int32} {Q : Nat → Int32} {S : St} {pb pt : List Row4} (p : HV M h X Y t N Q S pb pt) (h16 : N ≤ 16) {v : Nat} (hv : v < 16) (hl : (fl S).length + N ≤ 9000) (hn : 17 ≤ n) : ∃ M', f_X2_finish n h (nI v) M = some M' ∧ HV M' h X Y t N Q (lv t N v S) pb pt ∧ FrH M M' h := by
  obtain ⟨M1, e1, p1, f1⟩ := p.tsA h16 (k := 5) (by decide) hv (xR S 3 v) hl hn
  obtain ⟨M2, e2, p2, f2⟩ := p1.idle hv
  have q := p.1
  refine ⟨M2, ?_, ?_, f1.tr f2⟩
  · rw [f_X2_finish, cs_f q, cs_h2 q, bnd_e, cs_a10 q, cs_i10 q hv, cs_rpc q hv, bnd_e, cs_po q hv, p.fs hv (a := 2) (k := 3) (by decide), show (5 : Int32) = nI 5 from rfl, e1, obd_s, cs_f p1.1, e2, obd_s]
  · have : lv t N v S = rst v (sA t N 5 v (xR S 3 v) (xR S 2 v) S) := by
      unfold lv sA rst
      rw [sAl_uR (by decide), sAl_uR (by decide), sAl_uR (by decide), sAl_uR (by decide), sAl_uR (by decide)]
    rw [this]; exact p2
theorem cs_h5 {M : Mem} {h : Nat} (q : CS M h) : mR M h 5 = h + 15 := q.r (a := 0) (b := 5) (c := 15) (by decide)
theorem cs_a15 {α : Type} {M : Mem} {h : Nat} (q : CS M h) (x : Option α) : chk (isO M 100 (h + 15)) x = x := chk_t (q.io (i := 15) (by decide) (by decide) (by decide))
theorem cs_i15 {α : Type} {M : Mem} {h : Nat} (q : CS M h) {k : Nat} (hk : k < 16) (x : Option α) : chk (inB (nI k) (mLn M (h + 15))) x = x := by
  refine chk_t ?_
  rw [q.ln (i := 15) (c := 16) (by decide) (by decide) (by decide)]; exact inB_n hk (by decide)
theorem HP.s14 {M : Mem} {h : Nat} {S : St} (p : HP M h S) {v : Nat} {x : Int32} (hv : v < 16) : HP (sI M (h + 17 + 2 * v) 14 x) h (uR S 14 v x) := by
  obtain ⟨a1, a2, a3, a4, a5⟩ := p.1 v hv
  have lim : ∀ p, p ∈ ft → p.1 ≠ 14 ∧ p.2 ≠ 14 := by decide
  have r : ∀ k' i, k' ≠ 14 → xR (uR S 14 v x) k' i = xR S k' i := fun k' i n => by rw [xR_uR, if_neg (fun z => n z.1)]
  refine p.at ⟨fun p hp => ?_, ?_, fun z => ?_, fun u hu => ?_, fun w hw => ?_⟩ (fun o _ n _ b => by rw [mI_o _ _ _ _ _ n]) (fun k' i n _ _ _ => by rw [xR_uR, if_neg (fun z => n z.2)]) (r 0 v (by decide)) (r 7 v (by decide)) (by funext i; exact r 15 i (by decide)) (fun _ _ => rfl)
  · rw [mI_n _ _ _ _ (lim p hp).1, r _ _ (lim p hp).2]; exact a1 p hp
  · rw [mI_n _ _ _ _ (by decide), r _ _ (by decide), r _ _ (by decide)]; exact a2
  · rw [mI_s, xR_uR, if_pos ⟨rfl, rfl⟩]
  · rw [mI_n _ _ _ _ (by decide)]; exact a4 u hu
  · rw [mI_o _ _ _ _ _ (by omega)]; exact a5 w hw
theorem HV.s14 {M : Mem} {h X Y N : Nat} {t : Int32} {Q : Nat → Int32} {S : St} {pb pt : List Row4} (p : HV M h X Y t N Q S pb pt) {v : Nat} {x : Int32} (hv : v < 16) : HV (sI M (h + 17 + 2 * v) 14 x) h X Y t N Q (uR S 14 v x) pb pt ∧ FrH M (sI M (h + 17 + 2 * v) 14 x) h :=
  ⟨p.at rfl (fun o n b => mI_o _ _ _ _ _ (by omega)) (p.2.2.1.s14 hv) rfl (by funext i; rw [xR_uR, if_neg (fun z => by have := z.1; omega)]) rfl rfl, FrH.sI (by omega)⟩
set_option maxHeartbeats 2000000 in
theorem HV.tak {M : Mem} {h X Y N n : Nat} {t : Int32} {Q : Nat → Int32} {S : St} {pb pt : List Row4} (p : HV M h X Y t N Q S pb pt) (h16 : N ≤ 16) {v : Nat} (hv : v < N) (h0 : xR S 0 v ≠ 2) (hQ : qm N S v = Q v) (hl : (fl S).length + N ≤ 9000) (hn : 17 ≤ n) : ∃ M', f_X2_startAsking n h (nI v) M = some M' ∧ HV M' h X Y t N Q (ak t N v S) pb pt ∧ FrH M M' h := by
  have hv6 : v < 16 := by omega
  have q := p.1
  generalize hc : xR S 1 v + 1 = c
  obtain ⟨p1, f1⟩ := p.fld (a := 0) (k := 1) (x := c) hv6 (by decide) (by decide)
  generalize hMa : sI M (h + 17 + 2 * v) 0 c = Ma at p1 f1
  obtain ⟨p2, f2⟩ := p1.fld (a := 1) (k := 2) (x := c) hv6 (by decide) (by decide)
  generalize hMb : sI Ma (h + 17 + 2 * v) 1 c = Mb at p2 f2
  obtain ⟨Mc, e3, p3, f3, s3⟩ := p2.rest hv6
  obtain ⟨p4, f4⟩ := p3.fld (a := 2) (k := 3) (x := Q v) hv6 (by decide) (by decide)
  generalize hMd : sI Mc (h + 17 + 2 * v) 2 (Q v) = Md at p4 f4
  have b10 : mI Md h 10 = xR S 15 1 := by
    have := p4.2.2.1.2.2.2.2.1
    rw [this]
    simp [xR_uR]
  obtain ⟨p5, f5⟩ := p4.fld (a := 13) (k := 13) (x := xR S 15 1) hv6 (by decide) (by decide)
  generalize hMe : sI Md (h + 17 + 2 * v) 13 (xR S 15 1) = Me at p5 f5
  obtain ⟨p6, f6⟩ := p5.s14 (x := 0) hv6
  generalize hMf : sI Me (h + 17 + 2 * v) 14 0 = Mf at p6 f6
  generalize hS6 : uR (uR (uR (uR (uR (uR (uR (uR (uR S 1 v c) 2 v c) 3 v 0) 4 v 0) 5 v 0) 6 v 0) 3 v (Q v)) 13 v (xR S 15 1)) 14 v 0 = S6 at p6
  have r0 : ∀ u, xR S6 0 u = xR S 0 u := fun u => by rw [← hS6]; simp [xR_uR]
  generalize hMg : sI Mf h 8 (bon (mI Mf h 8) v) = Mg
  have sg : Mg.1 = Mf.1 := by rw [← hMg]; rfl
  have og : ∀ o, o ≠ h → ∀ b, mI Mg o b = mI Mf o b := fun o n b => by rw [← hMg, mI_o _ _ _ _ _ n]
  obtain ⟨_, g7, g8, _⟩ := id p6.2.2.1
  have hpg : HP Mg h (uR S6 0 v 1) := by
    refine p6.2.2.1.stt (fun u hu => ?_) (fun u hu => ?_) og (fun b _ n8 => by rw [← hMg, mI_n _ _ _ _ n8]) (fun _ => ?_)
    · rw [← hMg, mI_n _ _ _ _ (by decide), g7 u hu]
      by_cases d : u = v
      · rw [if_pos d, d, r0]; simp [h0]
      · rw [if_neg d]
    · rw [← hMg, mI_s, bt_on _ (by omega) hu, g8 u hu]
      by_cases d : u = v
      · rw [if_pos d]; simp [d, hv6]
      · rw [if_neg d]; simp [d]
    · rw [← hMf, mI_s, ← hS6, xR_uR, if_pos ⟨rfl, rfl⟩]
  have p7 : HV Mg h X Y t N Q (uR S6 0 v 1) pb pt := p6.at sg (fun o n b => og o (fun z => n (Or.inl z)) b) hpg rfl (by funext i; rw [xR_uR, if_neg (fun z => by have := z.1; omega)]) rfl rfl
  have f7 : FrH Mf Mg h := FrH.of sg (fun o n b => og o (fun z => n (by omega)) b) (fun o b => by rw [← hMg]; rfl)
  have r2 : xR (uR S6 0 v 1) 2 v = c := by rw [← hS6]; simp [xR_uR]
  have r3 : mI Mg (h + 17 + 2 * v) 2 = Q v := by rw [p7.fs hv6 (a := 2) (k := 3) (by decide), ← hS6]; simp [xR_uR]
  have l6 : xL (uR S6 0 v 1) = xL S := by rw [← hS6]; rfl
  obtain ⟨M', e', p', f'⟩ := p7.tsA h16 (k := 0) (f := v) (by decide) hv6 (Q v) (by unfold fl at hl ⊢; rw [l6]; exact hl) hn
  refine ⟨M', ?_, ?_, ((((((f1.tr f2).tr f3).tr f4).tr f5).tr f6).tr f7).tr f'⟩
  · have qc := p3.1
    have ea : mI Ma (h + 17 + 2 * v) 0 = c := by rw [← hMa, mI_s]
    rw [f_X2_startAsking, cs_f q, cs_h2 q, bnd_e, cs_a10 q, cs_i10 q hv6, cs_rpc q hv6, bnd_e, cs_po q hv6, p.fs hv6 (a := 0) (k := 1) (by decide), hc, hMa, bnd_e, ea, hMb, bnd_e, e3, obd_s, cs_f qc, cs_h5 qc, bnd_e, cs_a15 qc, cs_i15 qc hv6, cs_po qc hv6, mI_c (by omega), p3.2.2.2.2.2.2 v hv, hMd, bnd_e, b10, hMe, bnd_e, hMf, bnd_e, show (mI Mf h 8 ||| ((1 : Int32) <<< (nI v &&& 31))) = bon (mI Mf h 8) v from rfl, hMg, bnd_e, r3]
    rw [show f_X2_sendToAll n h 0 (nI v) (Q v) Mg = some M' from e', obd_s]
  · rw [r2] at p'
    have : uR S6 0 v 1 = uR (uR (uR (uR (uR (uR (uR (uR (uR S 1 v c) 2 v c) 3 v (Q v)) 4 v 0) 5 v 0) 6 v 0) 0 v 1) 13 v (xR S 15 1)) 14 v 0 := by
      rw [← hS6, uR_co (k := 14) (k' := 0) _ (by decide), uR_co (k := 13) (k' := 0) _ (by decide), uR_co (k := 6) (k' := 3) _ (by decide), uR_co (k := 5) (k' := 3) _ (by decide), uR_co (k := 4) (k' := 3) _ (by decide), uR_uR]
    rw [this] at p'
    unfold ak
    rw [hQ, hc]
    exact p'
/-! ===== the class hears a yield, a release ===== -/
theorem HV.tW {M M' : Mem} {h X Y N : Nat} {t : Int32} {Q : Nat → Int32} {S : St} {pb pt : List Row4} (p : HV M h X Y t N Q S pb pt) {a : Nat} (ha : a < 16) {l : List Wtr} (e : M'.1 = M.1) (hL : ∀ o b, mL M' o b = mL M o b) (ho : ∀ o, o ≠ h + 17 + 2 * a → o ≠ h + 18 + 2 * a → ∀ b, mI M' o b = mI M o b) (hP : ∀ b, b ≠ 9 → mI M' (h + 17 + 2 * a) b = mI M (h + 17 + 2 * a) b) (h9 : ∀ u, u < 32 → bt (mI M' (h + 17 + 2 * a) 9) u = decide (u ∈ l.map Prod.fst)) (hr : ∀ w, w ∈ l → mI M' (h + 18 + 2 * a) w.1 = w.2) : HV M' h X Y t N Q (uW S a l) pb pt ∧ FrH M M' h := by
  obtain ⟨a1, a2, a3, a4, a5⟩ := p.2.2.1.1 a ha
  have lim : ∀ p, p ∈ ft → p.1 ≠ 9 := by decide
  have w0 : xW (uW S a l) a = l := by rw [xW_uW, if_pos rfl]
  have hp : HP M' h (uW S a l) := by
    refine p.2.2.1.at (v := a) ⟨fun p hp => ?_, ?_, fun z => ?_, fun u hu => ?_, fun w hw => ?_⟩ (fun o _ n1 n2 b => ho o n1 n2 b) (fun k i _ _ _ _ => rfl) rfl rfl rfl (fun b n => by rw [xW_uW, if_neg n])
    · rw [hP _ (lim p hp)]; exact a1 p hp
    · rw [hP _ (by decide)]; exact a2
    · rw [hP _ (by decide)]; exact a3 z
    · rw [w0]; exact h9 u hu
    · rw [w0] at hw; exact hr w hw
  exact ⟨p.at e (fun o n b => ho o (by omega) (by omega) b) hp rfl rfl rfl rfl, FrH.of e (fun o n b => ho o (by omega) (by omega) b) hL⟩
theorem HV.lw {M : Mem} {h X Y N : Nat} {t : Int32} {Q : Nat → Int32} {S : St} {pb pt : List Row4} (p : HV M h X Y t N Q S pb pt) {a v : Nat} {s : Int32} (ha : a < 16) (hv : v < 16) (hn : v ∉ (xW S a).map Prod.fst) : ∃ M', f_X4_letWait (h + 17 + 2 * a) (nI v) s M = some M' ∧ HV M' h X Y t N Q (uW S a (ins v s (xW S a))) pb pt ∧ FrH M M' h := by
  obtain ⟨_, _, _, a4, a5⟩ := p.2.2.1.1 a ha
  have q := p.1
  generalize hMa : sI M (h + 17 + 2 * a) 9 (bon (mI M (h + 17 + 2 * a) 9) v) = Ma
  generalize hMb : sI Ma (h + 18 + 2 * a) v s = Mb
  have sa : Ma.1 = M.1 := by rw [← hMa]; rfl
  have sb : Mb.1 = M.1 := by rw [← hMb]; exact sa
  have qa := q.e sa
  obtain ⟨p', f'⟩ := p.tW (M' := Mb) (l := ins v s (xW S a)) ha sb (fun o b => by rw [← hMb, ← hMa]; rfl) (fun o n1 n2 b => by rw [← hMb, mI_o _ _ _ _ _ n2, ← hMa, mI_o _ _ _ _ _ n1]) (fun b n => by rw [← hMb, mI_o _ _ _ _ _ (by omega), ← hMa, mI_n _ _ _ _ n]) (fun u hu => by
    rw [← hMb, mI_o _ _ _ _ _ (by omega), ← hMa, mI_s, bt_on _ (by omega) hu, a4 u hu]
    have e : u ∈ (ins v s (xW S a)).map Prod.fst ↔ u ∈ (xW S a).map Prod.fst ∨ u = v := by
      simp only [List.mem_map, ins_perm]
      constructor
      · rintro ⟨w, hw | hw, e⟩
        · right; rw [← e, hw]
        · left; exact ⟨w, hw, e⟩
      · rintro (⟨w, hw, e⟩ | e)
        · exact ⟨w, Or.inr hw, e⟩
        · exact ⟨(v, s), Or.inl rfl, e.symm⟩
    by_cases c1 : u ∈ (xW S a).map Prod.fst
    · rw [decide_eq_true c1, decide_eq_true (e.mpr (Or.inl c1))]; rfl
    · rw [decide_eq_false c1]
      by_cases c2 : u = v
      · rw [decide_eq_true c2, decide_eq_true (e.mpr (Or.inr c2))]; rfl
      · rw [decide_eq_false c2, decide_eq_false (fun z => (e.mp z).elim c1 c2)]; rfl) (fun w hw => by
    rcases ins_perm.mp hw with e | hw2
    · rw [e, ← hMb, mI_s]
    · have n : w.1 ≠ v := fun z => hn (List.mem_map.mpr ⟨w, hw2, z⟩)
      rw [← hMb, mI_n _ _ _ _ n, ← hMa, mI_o _ _ _ _ _ (by omega)]
      exact a5 w hw2)
  refine ⟨Mb, ?_, p', f'⟩
  rw [f_X4_letWait, cs_po q ha, show (mI M (h + 17 + 2 * a) 9 ||| ((1 : Int32) <<< (nI v &&& 31))) = bon (mI M (h + 17 + 2 * a) 9) v from rfl, hMa, bnd_e, cs_pr qa ha, bnd_e, cs_pa qa ha, cs_pi qa ha hv, sI_c (by omega), hMb, bnd_e]
theorem HV.ig {M : Mem} {h X Y N : Nat} {t : Int32} {Q : Nat → Int32} {S : St} {pb pt : List Row4} (p : HV M h X Y t N Q S pb pt) {a v : Nat} {s : Int32} (ha : a < 16) (hv : v < 16) : f_X4_isGrantedBy (h + 17 + 2 * a) (nI v) s M = some (if xR S 8 a = nI v ∧ xR S 9 a = s then 1 else 0) := by
  obtain ⟨_, a2, _, _, _⟩ := p.2.2.1.1 a ha
  rw [f_X4_isGrantedBy, cs_po p.1 ha, p.fs ha (a := 6) (k := 8) (by decide), a2]
  by_cases c : xR S 8 a = nI v
  · rw [if_pos c, if_neg (show ¬ xR S 8 a = -1 by rw [c]; exact nI_m1 hv)]
    by_cases d : xR S 9 a = s
    · rw [if_pos d, if_pos ⟨c, d⟩]
    · rw [if_neg d, if_neg (fun z => d z.2)]
  · rw [if_neg c, if_neg (fun z => c z.1)]
theorem HV.tyl {M : Mem} {h X Y N A n : Nat} {t : Int32} {Q : Nat → Int32} {S : St} {pb pt : List Row4} (p : HV M h X Y t N Q S pb pt) (h16 : N ≤ 16) {a v s : Nat} (ha : a < 16) (hv : v < N) (hs : s ≤ A) (hW : Wok N A (xW S a)) (hg : xR S 8 a = nI v → v ∉ (xW S a).map Prod.fst) (hl : (fl S).length < 9000) (hn : 17 ≤ n) : ∃ M', f_X2_hearYield n h (nI v) (nI a) (nI s) M = some M' ∧ HV M' h X Y t N Q (yl t a v (nI s) S) pb pt ∧ FrH M M' h := by
  have q := p.1
  have start : f_X2_hearYield n h (nI v) (nI a) (nI s) M = (if (if xR S 8 a = nI v ∧ xR S 9 a = nI s then (1 : Int32) else 0) = 0 then some M else obd (f_X4_letWait (h + 17 + 2 * a) (nI v) (nI s) M) fun M14 => chk (isO M14 2 h) <| obd (f_X2_grantFirst n h (nI a) M14) fun M17 => some M17) := by
    rw [f_X2_hearYield, cs_f q, cs_h2 q, bnd_e, cs_a10 q, cs_i10 q ha, cs_rpc q ha, bnd_e, cs_po q ha, p.ig ha (by omega), obd_s]
  rw [start]
  unfold yl
  by_cases c : xR S 8 a = nI v ∧ xR S 9 a = nI s
  · rw [if_pos c, if_pos c, if_neg (by decide)]
    obtain ⟨M1, e1, p1, f1⟩ := p.lw (s := nI s) ha (by omega) (hg c.1)
    have w1 : xW (uW S a (ins v (nI s) (xW S a))) a = ins v (nI s) (xW S a) := by rw [xW_uW, if_pos rfl]
    have hW1 := ins_Wok hW hv h16 hs (hg c.1)
    obtain ⟨w, r, hx⟩ : ∃ w r, ins v (nI s) (xW S a) = w :: r := by
      cases z : ins v (nI s) (xW S a) with
      | nil => have := ins_len v (nI s) (xW S a); rw [z] at this; simp at this
      | cons w r => exact ⟨w, r, rfl⟩
    obtain ⟨M2, e2, p2, f2⟩ := p1.grant (A := A) hl ha (by rw [w1]; exact hW1) h16 hn (by rw [w1]; exact hx)
    exact ⟨M2, by rw [e1, obd_s, cs_f p1.1, e2, obd_s], p2, f1.tr f2⟩
  · rw [if_neg c, if_neg c, if_pos rfl]
    exact ⟨M, rfl, p, FrH.rf _ _⟩
theorem nob_nob (a : Nat) (S : St) : nob a (nob a S) = nob a S := by
  refine Prod.ext ?_ rfl
  funext k i
  show xR (nob a (nob a S)) k i = xR (nob a S) k i
  unfold nob
  simp only [xR_uR]
  by_cases c10 : k = 10 ∧ i = a
  · rw [if_pos c10, if_pos c10]
  · rw [if_neg c10, if_neg c10]
    by_cases c9 : k = 9 ∧ i = a
    · rw [if_pos c9, if_pos c9]
    · rw [if_neg c9, if_neg c9]
      by_cases c8 : k = 8 ∧ i = a
      · rw [if_pos c8, if_pos c8]
      · rw [if_neg c8, if_neg c8]
theorem gF_nob (t : Int32) (a : Nat) (S : St) : gF t a (nob a S) = gF t a S := by
  rw [gF_e, gF_e, nob_nob]
theorem gone_fst {v : Nat} {s : Int32} : ∀ {l : List Wtr}, (l.map Prod.fst).Nodup → (v, s) ∈ l → ∀ u, u ∈ (gone v s l).map Prod.fst ↔ u ∈ l.map Prod.fst ∧ u ≠ v := by
  intro l
  induction l with
  | nil => intro _ h; simp at h
  | cons w r ih =>
    intro hd hm u
    rw [List.map_cons] at hd
    obtain ⟨d1, d2⟩ := List.nodup_cons.mp hd
    unfold gone
    by_cases c : w = (v, s)
    · rw [if_pos c, List.map_cons, List.mem_cons]
      have ew : w.1 = v := by rw [c]
      rw [ew] at d1 ⊢
      constructor
      · intro h
        exact ⟨Or.inr h, fun z => d1 (z ▸ h)⟩
      · rintro ⟨h | h, n⟩
        · exact absurd h n
        · exact h
    · rw [if_neg c, List.map_cons, List.map_cons, List.mem_cons, List.mem_cons]
      have hm2 : (v, s) ∈ r := by
        rcases List.mem_cons.mp hm with e | e
        · exact absurd e.symm c
        · exact e
      rw [ih d2 hm2 u]
      have nv : w.1 ≠ v := fun z => d1 (List.mem_map.mpr ⟨(v, s), hm2, z.symm⟩)
      constructor
      · rintro (h | ⟨h, n⟩)
        · exact ⟨Or.inl h, fun z => nv (h ▸ z)⟩
        · exact ⟨Or.inr h, n⟩
      · rintro ⟨h | h, n⟩
        · exact Or.inl h
        · exact Or.inr ⟨h, n⟩
set_option maxHeartbeats 1000000 in
theorem HV.forget {M : Mem} {h X Y N : Nat} {t : Int32} {Q : Nat → Int32} {S : St} {pb pt : List Row4} (p : HV M h X Y t N Q S pb pt) {a : Nat} (ha : a < 16) : ∃ M', f_X4_forgetGranted (h + 17 + 2 * a) M = some M' ∧ HV M' h X Y t N Q (nob a S) pb pt ∧ FrH M M' h := by
  obtain ⟨a1, a2, a3, a4, a5⟩ := p.2.2.1.1 a ha
  obtain ⟨r8, r9, r10⟩ := nob_8 a S
  generalize hS : nob a S = S1 at r8 r9 r10 ⊢
  have rr : ∀ k i, (i ≠ a ∨ k < 8 ∨ 10 < k) → xR S1 k i = xR S k i := fun k i z => by rw [← hS]; exact nob_R z
  have lim : ∀ p, p ∈ ft → p.1 ≠ 7 ∧ ((p.1 = 6 ∧ p.2 = 8) ∨ (p.1 = 8 ∧ p.2 = 10) ∨ (p.1 ≠ 6 ∧ p.1 ≠ 8 ∧ (p.2 < 8 ∨ 10 < p.2))) := by decide
  have hp : HP (sI (sI (sI M (h + 17 + 2 * a) 6 (-1)) (h + 17 + 2 * a) 7 (-1)) (h + 17 + 2 * a) 8 0) h S1 := by
    refine p.2.2.1.at (v := a) ⟨fun p hp => ?_, ?_, fun z => ?_, fun u hu => ?_, fun w hw => ?_⟩ (fun o _ n _ b => by rw [mI_o _ _ _ _ _ n, mI_o _ _ _ _ _ n, mI_o _ _ _ _ _ n]) (fun k i n _ _ _ => rr k i (Or.inl n)) (rr 0 a (by omega)) (rr 7 a (by omega)) (by funext i; exact rr 15 i (by omega)) (fun b n => by rw [← hS]; rfl)
    · obtain ⟨l7, ⟨l1, l2⟩ | ⟨l1, l2⟩ | ⟨l1, l2, l3⟩⟩ := lim p hp
      · rw [l1, l2, mI_n _ _ _ _ (by decide), mI_n _ _ _ _ (by decide), mI_s, r8]
      · rw [l1, l2, mI_s, r10]
      · rw [mI_n _ _ _ _ l2, mI_n _ _ _ _ l7, mI_n _ _ _ _ l1, rr _ _ (Or.inr l3)]
        exact a1 p hp
    · rw [mI_n _ _ _ _ (by decide), mI_s, r8, if_pos rfl]
    · rw [mI_n _ _ _ _ (by decide), mI_n _ _ _ _ (by decide), mI_n _ _ _ _ (by decide), rr _ _ (by omega)]
      exact a3 (by rw [rr _ _ (by omega)] at z; exact z)
    · rw [mI_n _ _ _ _ (by decide), mI_n _ _ _ _ (by decide), mI_n _ _ _ _ (by decide), ← hS]
      exact a4 u hu
    · rw [mI_o _ _ _ _ _ (by omega), mI_o _ _ _ _ _ (by omega), mI_o _ _ _ _ _ (by omega)]
      exact a5 w (by rw [← hS] at hw; exact hw)
  refine ⟨sI (sI (sI M (h + 17 + 2 * a) 6 (-1)) (h + 17 + 2 * a) 7 (-1)) (h + 17 + 2 * a) 8 0, by rw [f_X4_forgetGranted, cs_po p.1 ha, bnd_e, bnd_e, chk_t (Or.inl rfl), bnd_e], p.at rfl (fun o n b => by rw [mI_o _ _ _ _ _ (by omega), mI_o _ _ _ _ _ (by omega), mI_o _ _ _ _ _ (by omega)]) hp ?_ ?_ ?_ ?_, FrH.of rfl (fun o n b => by rw [mI_o _ _ _ _ _ (by omega), mI_o _ _ _ _ _ (by omega), mI_o _ _ _ _ _ (by omega)]) (fun _ _ => rfl)⟩
  · rw [← hS]; rfl
  · funext i; exact rr 16 i (by omega)
  · rw [← hS]; rfl
  · rw [← hS]; rfl
theorem HV.iw {M : Mem} {h X Y N A : Nat} {t : Int32} {Q : Nat → Int32} {S : St} {pb pt : List Row4} (p : HV M h X Y t N Q S pb pt) {a v : Nat} {s : Int32} (ha : a < 16) (hv : v < 16) (hW : Wok N A (xW S a)) : f_X4_isWaitingBy (h + 17 + 2 * a) (nI v) s M = some (if (v, s) ∈ xW S a then 1 else 0) := by
  obtain ⟨_, _, _, a4, a5⟩ := p.2.2.1.1 a ha
  have q := p.1
  rw [f_X4_isWaitingBy, cs_po q ha, f_has9 _ (by omega), obd_s, a4 v (by omega)]
  by_cases c : v ∈ (xW S a).map Prod.fst
  · obtain ⟨w, hw, e⟩ := List.mem_map.mp c
    have hr := a5 w hw
    rw [e] at hr
    rw [decide_eq_true c, if_pos rfl, if_neg (by decide), cs_pr q ha, bnd_e, cs_pa q ha, cs_pi q ha hv, mI_c (by omega), hr]
    by_cases d : w.2 = s
    · rw [if_pos d, if_pos (by rw [← e, ← d]; exact hw)]
    · rw [if_neg d, if_neg (fun z => d (by rw [nd_eq hW.2.1 hw z e]))]
  · rw [decide_eq_false c, if_pos (by decide), if_neg (fun z => c (List.mem_map.mpr ⟨_, z, rfl⟩))]
theorem HV.trl {M : Mem} {h X Y N A n : Nat} {t : Int32} {Q : Nat → Int32} {S : St} {pb pt : List Row4} (p : HV M h X Y t N Q S pb pt) (h16 : N ≤ 16) {a v : Nat} {s : Int32} (ha : a < 16) (hv : v < 16) (hW : Wok N A (xW S a)) (hl : (fl S).length < 9000) (hn : 17 ≤ n) : ∃ M', f_X2_hearRelease n h (nI v) (nI a) s M = some M' ∧ HV M' h X Y t N Q (rl t a v s S) pb pt ∧ FrH M M' h := by
  have q := p.1
  obtain ⟨_, _, _, a4, a5⟩ := p.2.2.1.1 a ha
  rw [f_X2_hearRelease, cs_f q, cs_h2 q, bnd_e, cs_a10 q, cs_i10 q ha, cs_rpc q ha, bnd_e, cs_po q ha, p.ig ha hv, obd_s]
  unfold rl
  by_cases c : xR S 8 a = nI v ∧ xR S 9 a = s
  · rw [if_pos c, if_pos c, if_neg (by decide)]
    obtain ⟨M1, e1, p1, f1⟩ := p.forget ha
    cases hx : xW S a with
    | nil =>
      have fw := p1.2.2.1.fw p1.1 ha (N := N) (A := A) (n := n) (by show Wok N A (xW S a); exact hW) h16 hn
      have hh : xW (nob a S) a = [] := hx
      rw [hh] at fw
      have q1 := p1.1
      refine ⟨M1, ?_, ?_, f1⟩
      · rw [e1, obd_s, cs_f q1, f_X2_grantFirst, cs_f q1, cs_h2 q1, bnd_e, cs_a10 q1, cs_i10 q1 ha, cs_rpc q1 ha, bnd_e, cs_po q1 ha, fw, obd_s, if_pos (show hdW [] = (-1 : Int32) from rfl), obd_s]
      · unfold gF
        rw [hx]
        exact p1
    | cons w r =>
      obtain ⟨M2, e2, p2, f2⟩ := p1.grant (A := A) hl ha hW h16 hn (w := w) (r := r) hx
      rw [gF_nob] at p2
      exact ⟨M2, by rw [e1, obd_s, cs_f p1.1, e2, obd_s], p2, f1.tr f2⟩
  · rw [if_neg c, if_neg c, if_pos rfl, p.iw ha hv hW, obd_s]
    by_cases d : (v, s) ∈ xW S a
    · rw [if_pos d, if_neg (by decide)]
      have gf := gone_fst hW.2.1 d
      obtain ⟨p', f'⟩ := p.tW (M' := sI M (h + 17 + 2 * a) 9 (bof (mI M (h + 17 + 2 * a) 9) v)) (l := gone v s (xW S a)) ha rfl (fun _ _ => rfl) (fun o n1 _ b => by rw [mI_o _ _ _ _ _ n1]) (fun b n => by rw [mI_n _ _ _ _ n]) (fun u hu => by
        rw [mI_s, bt_off _ (by omega) hu, a4 u hu]
        by_cases c1 : u ∈ (xW S a).map Prod.fst
        · by_cases c2 : u = v
          · rw [decide_eq_true c1, decide_eq_true c2, decide_eq_false (fun z => ((gf u).mp z).2 c2)]; rfl
          · rw [decide_eq_true c1, decide_eq_false c2, decide_eq_true ((gf u).mpr ⟨c1, c2⟩)]; rfl
        · rw [decide_eq_false c1, decide_eq_false (fun z => c1 ((gf u).mp z).1)]; rfl) (fun w hw => by
        rw [mI_o _ _ _ _ _ (by omega)]
        exact a5 w (gone_sub.subset hw))
      exact ⟨_, rfl, p', f'⟩
    · rw [if_neg d, if_pos rfl, gone_id d, uW_id]
      exact ⟨M, rfl, p, FrH.rf _ _⟩
/-! ===== the class hears an inquiry ===== -/
theorem HV.ia {M : Mem} {h X Y N : Nat} {t : Int32} {Q : Nat → Int32} {S : St} {pb pt : List Row4} (p : HV M h X Y t N Q S pb pt) {v : Nat} {s : Int32} (hv : v < 16) : f_X2_isAskingBy h (nI v) s M = some (if xR S 0 v = 1 ∧ xR S 2 v = s then 1 else 0) := by
  obtain ⟨_, _, g8, _⟩ := p.2.2.1
  have q := p.1
  rw [f_X2_isAskingBy, cs_f q, f_has9 _ (by omega), obd_s, g8 v (by omega)]
  by_cases c : xR S 0 v = 1
  · rw [decide_eq_true ⟨hv, c⟩, if_pos rfl, if_neg (by decide), cs_h2 q, bnd_e, cs_a10 q, cs_i10 q hv, cs_rpc q hv, bnd_e, cs_po q hv, p.fs hv (a := 1) (k := 2) (by decide)]
    by_cases d : xR S 2 v = s
    · rw [if_pos d, if_pos ⟨c, d⟩]
    · rw [if_neg d, if_neg (fun z => d z.2)]
  · rw [decide_eq_false (fun z => c z.2), if_pos (by decide), if_neg (fun z => c z.1)]
set_option maxHeartbeats 1000000 in
theorem HV.tiq {M : Mem} {h X Y N : Nat} {t : Int32} {Q : Nat → Int32} {S : St} {pb pt : List Row4} (p : HV M h X Y t N Q S pb pt) {a v : Nat} {s : Int32} (ha : a < 16) (hv : v < 16) (hl : (fl S).length < 9000) : ∃ M', f_X2_hearInquire h (nI a) (nI v) s M = some M' ∧ HV M' h X Y t N Q (if xR S 0 v = 1 ∧ xR S 2 v = s then iq t v a S else S) pb pt ∧ FrH M M' h := by
  have q := p.1
  rw [f_X2_hearInquire, cs_f q, cs_h2 q, bnd_e, cs_a10 q, cs_i10 q hv, cs_rpc q hv, bnd_e, cs_po q hv, p.ia hv, obd_s]
  by_cases c : xR S 0 v = 1 ∧ xR S 2 v = s
  · rw [if_pos c, if_pos c, if_neg (by decide), p.fs hv (a := 3) (k := 4) (by decide), f_has9 _ (by omega), obd_s]
    unfold iq
    by_cases d : bt (xR S 4 v) a = true
    · rw [if_pos d, if_pos d, if_neg (by decide), p.fs hv (a := 5) (k := 6) (by decide)]
      by_cases e : xR S 6 v = 0
      · rw [if_pos e, if_pos e, p.fs hv (a := 4) (k := 5) (by decide)]
        obtain ⟨p1, f1⟩ := p.fld (a := 4) (k := 5) (x := bon (xR S 5 v) a) hv (by decide) (by decide)
        exact ⟨_, rfl, p1, f1⟩
      · rw [if_neg e, if_neg e, cs_h1 q, bnd_e, cs_p q]
        obtain ⟨M1, e1, p1, f1⟩ := p.put (k := 4) (f := v) (g := a) (s := s) hl (by decide) hv ha
        obtain ⟨p2, f2⟩ := p1.fld (a := 3) (k := 4) (x := bof (xR S 4 v) a) hv (by decide) (by decide)
        have r4 := p1.fs hv (a := 3) (k := 4) (by decide)
        rw [sn_R _ _ _ _ _ _ (by decide)] at r4
        generalize hMa : sI M1 (h + 17 + 2 * v) 3 (bof (xR S 4 v) a) = Ma at p2 f2
        have r6 := p2.fs hv (a := 5) (k := 6) (by decide)
        rw [xR_uR, if_neg (by omega), sn_R _ _ _ _ _ _ (by decide)] at r6
        obtain ⟨p3, f3⟩ := p2.fld (a := 5) (k := 6) (x := bon (xR S 6 v) a) hv (by decide) (by decide)
        refine ⟨sI Ma (h + 17 + 2 * v) 5 (bon (xR S 6 v) a), ?_, ?_, (f1.tr f2).tr f3⟩
        · rw [show f_X5_put (h + 1) 4 (nI v) (nI a) s M = some M1 from e1, obd_s, cs_po p1.1 hv, r4, show (xR S 4 v &&& (((1 : Int32) <<< (nI a &&& 31)) ^^^ (-1 : Int32))) = bof (xR S 4 v) a from rfl, hMa, bnd_e, r6, show (xR S 6 v ||| ((1 : Int32) <<< (nI a &&& 31))) = bon (xR S 6 v) a from rfl, bnd_e]
        · unfold yT
          rw [c.2]
          exact p3
    · rw [if_neg d, if_neg d, if_pos rfl]
      exact ⟨M, rfl, p, FrH.rf _ _⟩
  · rw [if_neg c, if_neg c, if_pos rfl]
    exact ⟨M, rfl, p, FrH.rf _ _⟩
/-! ===== all yields at once ===== -/
def bfl (d : Int32) (ws : List Nat) (x : Int32) : Int32 := ws.foldl (fun x w => if bt d w then bof x w else x) x
def bnl (d : Int32) (ws : List Nat) (x : Int32) : Int32 := ws.foldl (fun x w => if bt d w then bon x w else x) x
theorem uR_id (S : St) (k i : Nat) : uR S k i (xR S k i) = S := by
  refine Prod.ext ?_ rfl
  funext a b
  show (if a = k ∧ b = i then xR S k i else S.1 a b) = S.1 a b
  by_cases c : a = k ∧ b = i
  · rw [if_pos c, c.1, c.2]; rfl
  · rw [if_neg c]
theorem fdl_e {t : Int32} {v : Nat} {d : Int32} : ∀ (ws : List Nat) (S : St), fdl t v d ws S = uR (uR (sAl t 4 v d (xR S 2 v) ws S) 4 v (bfl d ws (xR S 4 v))) 6 v (bnl d ws (xR S 6 v)) := by
  intro ws
  induction ws with
  | nil =>
    intro S
    show S = uR (uR S 4 v (xR S 4 v)) 6 v (xR S 6 v)
    rw [uR_id, uR_id]
  | cons w ws ih =>
    intro S
    have e1 : fdl t v d (w :: ws) S = fdl t v d ws (if bt d w then yT t v w S else S) := by unfold fdl; rw [List.foldl_cons]
    have e2 : sAl t 4 v d (xR S 2 v) (w :: ws) S = sAl t 4 v d (xR S 2 v) ws (if bt d w then sn t 4 v w (xR S 2 v) S else S) := by unfold sAl; rw [List.foldl_cons]
    have e3 : bfl d (w :: ws) (xR S 4 v) = bfl d ws (if bt d w then bof (xR S 4 v) w else xR S 4 v) := by unfold bfl; rw [List.foldl_cons]
    have e4 : bnl d (w :: ws) (xR S 6 v) = bnl d ws (if bt d w then bon (xR S 6 v) w else xR S 6 v) := by unfold bnl; rw [List.foldl_cons]
    rw [e1, e2, e3, e4, ih]
    by_cases c : bt d w = true
    · rw [if_pos c, if_pos c, if_pos c, if_pos c]
      have r2 : xR (yT t v w S) 2 v = xR S 2 v := by
        unfold yT
        simp only []
        rw [xR_uR, if_neg (by omega), xR_uR, if_neg (by omega), sn_R _ _ _ _ _ _ (by decide)]
      have r4 : xR (yT t v w S) 4 v = bof (xR S 4 v) w := by
        unfold yT
        simp only []
        rw [xR_uR, if_neg (by omega), xR_uR, if_pos ⟨rfl, rfl⟩]
      have r6 : xR (yT t v w S) 6 v = bon (xR S 6 v) w := by
        unfold yT
        simp only []
        rw [xR_uR, if_pos ⟨rfl, rfl⟩]
      rw [r2, r4, r6]
      unfold yT
      simp only []
      rw [sAl_uR (by decide), sAl_uR (by decide), uR_co (k := 6) (k' := 4) _ (by decide), uR_uR, uR_uR]
    · rw [if_neg c, if_neg c, if_neg c, if_neg c]
theorem bfl_b (d : Int32) : ∀ (ws : List Nat) (x : Int32), (∀ w, w ∈ ws → w < 32) → ∀ i, i < 32 → bt (bfl d ws x) i = (bt x i && !decide (i ∈ ws ∧ bt d i = true)) := by
  intro ws
  induction ws with
  | nil => intro x _ i _; simp [bfl]
  | cons w ws ih =>
    intro x hw i hi
    have e : bfl d (w :: ws) x = bfl d ws (if bt d w then bof x w else x) := by unfold bfl; rw [List.foldl_cons]
    rw [e, ih _ (fun w' h => hw w' (by simp [h])) i hi]
    have h32 := hw w (by simp)
    by_cases c : bt d w = true
    · rw [if_pos c, bt_off _ h32 hi]
      by_cases c2 : i = w
      · simp [c2, c]
      · simp [c2]
    · rw [if_neg c]
      by_cases c2 : i = w
      · simp [c2, c]
      · simp [c2]
theorem bnl_b (d : Int32) : ∀ (ws : List Nat) (x : Int32), (∀ w, w ∈ ws → w < 32) → ∀ i, i < 32 → bt (bnl d ws x) i = (bt x i || decide (i ∈ ws ∧ bt d i = true)) := by
  intro ws
  induction ws with
  | nil => intro x _ i _; simp [bnl]
  | cons w ws ih =>
    intro x hw i hi
    have e : bnl d (w :: ws) x = bnl d ws (if bt d w then bon x w else x) := by unfold bnl; rw [List.foldl_cons]
    rw [e, ih _ (fun w' h => hw w' (by simp [h])) i hi]
    have h32 := hw w (by simp)
    by_cases c : bt d w = true
    · rw [if_pos c, bt_on _ h32 hi]
      by_cases c2 : i = w
      · simp [c2, c]
      · simp [c2]
    · rw [if_neg c]
      by_cases c2 : i = w
      · simp [c2, c]
      · simp [c2]
set_option maxHeartbeats 1000000 in
theorem HV.tfd {M : Mem} {h X Y N n : Nat} {t : Int32} {Q : Nat → Int32} {S : St} {pb pt : List Row4} (p : HV M h X Y t N Q S pb pt) (h16 : N ≤ 16) {a v : Nat} {s : Int32} (hv : v < 16) (hd0 : xR S 0 v = 1 → ∀ i, N ≤ i → i < 32 → bt (xR S 5 v) i = false) (hl : (fl S).length + N ≤ 9000) (hn : 17 ≤ n) : ∃ M', f_X2_hearFail n h (nI a) (nI v) s M = some M' ∧ HV M' h X Y t N Q (if xR S 0 v = 1 ∧ xR S 2 v = s then fd t N v a S else S) pb pt ∧ FrH M M' h := by
  have q := p.1
  rw [f_X2_hearFail, cs_f q, cs_h2 q, bnd_e, cs_a10 q, cs_i10 q hv, cs_rpc q hv, bnd_e, cs_po q hv, p.ia hv, obd_s]
  by_cases c : xR S 0 v = 1 ∧ xR S 2 v = s
  · have hd := hd0 c.1
    rw [if_pos c, if_pos c, if_neg (by decide), p.fs hv (a := 5) (k := 6) (by decide)]
    obtain ⟨p1, f1⟩ := p.fld (a := 5) (k := 6) (x := bon (xR S 6 v) a) hv (by decide) (by decide)
    generalize hMa : sI M (h + 17 + 2 * v) 5 (bon (xR S 6 v) a) = Ma at p1 f1
    generalize hS6 : uR S 6 v (bon (xR S 6 v) a) = S6 at p1
    have q2 : xR S6 2 v = xR S 2 v := by rw [← hS6, xR_uR, if_neg (by omega)]
    have q4 : xR S6 4 v = xR S 4 v := by rw [← hS6, xR_uR, if_neg (by omega)]
    have q5 : xR S6 5 v = xR S 5 v := by rw [← hS6, xR_uR, if_neg (by omega)]
    have q6 : xR S6 6 v = bon (xR S 6 v) a := by rw [← hS6, xR_uR, if_pos ⟨rfl, rfl⟩]
    have m4 := p1.fs hv (a := 4) (k := 5) (by decide)
    rw [q5] at m4
    generalize hdd : xR S 5 v = d at *
    obtain ⟨M2, e2, p2, f2⟩ := p1.tsA h16 (k := 4) (f := v) (by decide) hv d (by rw [← hS6]; exact hl) hn
    have sR : ∀ k, k ≠ 16 → xR (sA t N 4 v d (xR S6 2 v) S6) k v = xR S6 k v := fun k hk => by unfold sA; exact sAl_R _ _ _ _ _ hk _ _
    generalize hT : sA t N 4 v d (xR S6 2 v) S6 = T at p2 sR
    have n3 := p2.fs hv (a := 3) (k := 4) (by decide)
    have n4 := p2.fs hv (a := 4) (k := 5) (by decide)
    have n5 := p2.fs hv (a := 5) (k := 6) (by decide)
    rw [sR _ (by decide), q4] at n3
    rw [sR _ (by decide), q5] at n4
    rw [sR _ (by decide), q6] at n5
    have mw : ∀ w, w ∈ List.range N → w < 32 := fun w hw => by have := List.mem_range.mp hw; omega
    have b4 : xR S 4 v &&& (d ^^^ (-1 : Int32)) = bfl d (List.range N) (xR S 4 v) := by
      apply b_ext
      intro i hi
      rw [b_and, b_not _ hi, bfl_b _ _ _ mw i hi]
      by_cases z : i < N
      · simp [z]
      · simp [z, hd i (by omega) hi]
    have b6 : bon (xR S 6 v) a ||| d = bnl d (List.range N) (bon (xR S 6 v) a) := by
      apply b_ext
      intro i hi
      rw [b_or, bnl_b _ _ _ mw i hi]
      by_cases z : i < N
      · simp [z]
      · simp [z, hd i (by omega) hi]
    obtain ⟨p3, f3⟩ := p2.fld (a := 3) (k := 4) (x := bfl d (List.range N) (xR S 4 v)) hv (by decide) (by decide)
    obtain ⟨p4, f4⟩ := p3.fld (a := 5) (k := 6) (x := bnl d (List.range N) (bon (xR S 6 v) a)) hv (by decide) (by decide)
    obtain ⟨p5, f5⟩ := p4.fld (a := 4) (k := 5) (x := 0) hv (by decide) (by decide)
    refine ⟨_, ?_, ?_, (((f1.tr f2).tr f3).tr f4).tr f5⟩
    · rw [show (xR S 6 v ||| ((1 : Int32) <<< (nI a &&& 31))) = bon (xR S 6 v) a from rfl, hMa, bnd_e, m4, show f_X2_sendToAll n h 4 (nI v) d Ma = some M2 from e2, obd_s, cs_po p2.1 hv, n3, n4, b4, bnd_e, mI_n _ _ _ _ (by decide), mI_n _ _ _ _ (by decide), n5, n4, b6, bnd_e, bnd_e]
    · have ef : fd t N v a S = uR (uR (uR T 4 v (bfl d (List.range N) (xR S 4 v))) 6 v (bnl d (List.range N) (bon (xR S 6 v) a))) 5 v 0 := by
        unfold fd
        rw [hdd, hS6, fdl_e, q4, q6]
        rw [show sAl t 4 v d (xR S6 2 v) (List.range N) S6 = T from hT]
      rw [ef]
      exact p5
  · rw [if_neg c, if_neg c, if_pos rfl]
    exact ⟨M, rfl, p, FrH.rf _ _⟩
/-! ===== the class hears a request ===== -/
theorem HV.s7 {M : Mem} {h X Y N : Nat} {t : Int32} {Q : Nat → Int32} {S : St} {pb pt : List Row4} (p : HV M h X Y t N Q S pb pt) {a g : Nat} (ha : a < 16) (hg : g < 16) (h8 : xR S 8 a = nI g) : mI M (h + 17 + 2 * a) 7 = xR S 9 a := by
  obtain ⟨_, a2, _⟩ := p.2.2.1.1 a ha
  rw [a2, if_neg (show ¬ xR S 8 a = -1 by rw [h8]; exact nI_m1 hg)]
theorem HV.iag {M : Mem} {h X Y N : Nat} {t : Int32} {Q : Nat → Int32} {S : St} {pb pt : List Row4} (p : HV M h X Y t N Q S pb pt) {a g : Nat} {w : Wtr} (ha : a < 16) (hg : g < 16) (h8 : xR S 8 a = nI g) (hw : w ∈ xW S a) (hw6 : w.1 < 16) : f_X4_isAheadOfGranted (h + 17 + 2 * a) (nI w.1) M = some (if ahd w.2 (nI w.1) (xR S 9 a) (xR S 8 a) then 1 else 0) := by
  obtain ⟨_, _, _, _, a5⟩ := p.2.2.1.1 a ha
  have q := p.1
  rw [f_X4_isAheadOfGranted, cs_po q ha, cs_pr q ha, bnd_e, cs_pa q ha, cs_pi q ha hw6, mI_c (by omega), a5 w hw, p.s7 ha hg h8, p.fs ha (a := 6) (k := 8) (by decide), f_ah9, obd_s, chk_t]
  by_cases c : ahd w.2 (nI w.1) (xR S 9 a) (xR S 8 a) = true
  · rw [if_pos c]; exact Or.inr rfl
  · rw [if_neg c]; exact Or.inl rfl
theorem HV.r102 {M : Mem} {h X Y N n : Nat} {t : Int32} {Q : Nat → Int32} {S : St} {pb pt : List Row4} (p : HV M h X Y t N Q S pb pt) {a g : Nat} (ha : a < 16) (hg : g < 16) (h8 : xR S 8 a = nI g) (h10 : xR S 10 a = 0 ∨ xR S 10 a = 1) (hl : (fl S).length < 9000) : ∃ M', f_X2_hearRequest_102 n h (nI a) (h + 17 + 2 * a) M = some M' ∧ HV M' h X Y t N Q (rq3 t a S) pb pt ∧ FrH M M' h := by
  have q := p.1
  rw [f_X2_hearRequest_102, cs_po q ha, p.fs ha (a := 8) (k := 10) (by decide)]
  unfold rq3
  by_cases c : xR S 10 a = 1
  · rw [if_pos c, if_neg (by rw [c]; decide)]
    exact ⟨M, rfl, p, FrH.rf _ _⟩
  · have c0 : xR S 10 a = 0 := h10.resolve_right c
    rw [if_neg c, if_pos c0]
    obtain ⟨p1, f1⟩ := p.fld (a := 8) (k := 10) (x := 1) ha (by decide) (by decide)
    generalize hMa : sI M (h + 17 + 2 * a) 8 1 = Ma at p1 f1
    have k8 : xR (uR S 10 a 1) 8 a = nI g := by rw [xR_uR, if_neg (by omega)]; exact h8
    have k9 : xR (uR S 10 a 1) 9 a = xR S 9 a := by rw [xR_uR, if_neg (by omega)]
    have m6 := p1.fs ha (a := 6) (k := 8) (by decide)
    have m7 := p1.s7 ha hg k8
    rw [k8] at m6
    rw [k9] at m7
    obtain ⟨M2, e2, p2, f2⟩ := p1.put (k := 3) (f := a) (g := g) (s := xR S 9 a) hl (by decide) ha hg
    refine ⟨M2, ?_, ?_, f1.tr f2⟩
    · rw [chk_t (Or.inr rfl), bnd_e, cs_f p1.1, cs_h1 p1.1, bnd_e, cs_p p1.1, m6, m7, show f_X5_put (h + 1) 3 (nI a) (nI g) (xR S 9 a) Ma = some M2 from e2, obd_s]
    · rw [gn_e h8 hg]; exact p2
set_option maxHeartbeats 1000000 in
theorem HV.trq {M : Mem} {h X Y N A n : Nat} {t : Int32} {Q : Nat → Int32} {S : St} {pb pt : List Row4} (p : HV M h X Y t N Q S pb pt) (h16 : N ≤ 16) {a v s : Nat} (ha : a < 16) (hv : v < N) (hs : s ≤ A) (hW : Wok N A (xW S a)) (hnv : v ∉ (xW S a).map Prod.fst) (hG : Gok S a) (h10 : xR S 10 a = 0 ∨ xR S 10 a = 1) (hl : (fl S).length + 2 ≤ 9000) (hn : 17 ≤ n) : ∃ M', f_X2_hearRequest n h (nI v) (nI a) (nI s) M = some M' ∧ HV M' h X Y t N Q (rq t a v (nI s) S) pb pt ∧ FrH M M' h := by
  have q := p.1
  have v6 : v < 16 := by omega
  obtain ⟨M1, e1, p1, f1⟩ := p.lw (s := nI s) ha v6 hnv
  have hW1 := ins_Wok hW hv h16 hs hnv
  have fw0 := p.2.2.1.fw q ha hW h16 hn
  have w1 : xW (uW S a (ins v (nI s) (xW S a))) a = ins v (nI s) (xW S a) := by rw [xW_uW, if_pos rfl]
  have fw1 := p1.2.2.1.fw p1.1 ha (N := N) (A := A) (by rw [w1]; exact hW1) h16 hn
  rw [w1] at fw1
  generalize hl1 : ins v (nI s) (xW S a) = l1 at *
  have hvl : (v, nI s) ∈ l1 := by rw [← hl1]; exact ins_perm.mpr (Or.inl rfl)
  have hml : ∀ w, w ∈ l1 → w = (v, nI s) ∨ w ∈ xW S a := fun w hw => ins_perm.mp (by rw [hl1]; exact hw)
  have hms : ∀ w, w ∈ xW S a → w ∈ l1 := fun w hw => by rw [← hl1]; exact ins_perm.mpr (Or.inr hw)
  have q1 := p1.1
  rw [f_X2_hearRequest, cs_f q, cs_h2 q, bnd_e, cs_a10 q, cs_i10 q ha, cs_rpc q ha, bnd_e, cs_po q ha, fw0, obd_s, e1, obd_s, cs_po q1 ha, p1.fs ha (a := 6) (k := 8) (by decide)]
  generalize hS1 : uW S a l1 = S1 at *
  have r8 : xR S1 8 a = xR S 8 a := by rw [← hS1]; rfl
  have r9 : xR S1 9 a = xR S 9 a := by rw [← hS1]; rfl
  have r10 : xR S1 10 a = xR S 10 a := by rw [← hS1]; rfl
  have l0 : (fl S1).length = (fl S).length := by rw [← hS1]; rfl
  obtain ⟨w, r, hx⟩ : ∃ w r, l1 = w :: r := by
    cases z : l1 with
    | nil => rw [z] at hvl; simp at hvl
    | cons w r => exact ⟨w, r, rfl⟩
  unfold rq
  rw [hl1, hS1, r8]
  by_cases c : xR S 8 a = -1
  · rw [if_pos c, if_pos c]
    obtain ⟨M2, e2, p2, f2⟩ := p1.grant (A := A) (by omega) ha (by rw [w1]; exact hW1) h16 hn (by rw [w1]; exact hx)
    exact ⟨M2, by rw [cs_f q1, e2, obd_s], p2, f1.tr f2⟩
  · rw [if_neg c, if_neg c, fw1, obd_s]
    obtain ⟨g, hg, hg8⟩ : ∃ g, g < 16 ∧ xR S 8 a = nI g := hG.resolve_left c
    have k8 : xR S1 8 a = nI g := r8.trans hg8
    have iv := p1.iag ha hg k8 (w := (v, nI s)) (by rw [w1]; exact hvl) v6
    rw [r8, r9] at iv
    simp only at iv
    have hhd : hdW l1 = nI v ↔ l1.head? = some (v, nI s) := by
      rw [hx]
      show nI w.1 = nI v ↔ some w = some (v, nI s)
      constructor
      · intro z
        have hwl : w ∈ l1 := by rw [hx]; simp
        have w6 := (hW1.2.2 w hwl).1
        have e := (nI_eq (by omega) (by omega)).mp z
        rcases hml w hwl with h1 | h1
        · rw [h1]
        · exact absurd (List.mem_map.mpr ⟨w, h1, e⟩) hnv
      · intro z
        injection z with z
        rw [z]
    have fail : ∃ M', f_X2_hearRequest_55 n h (nI v) (nI a) (nI s) M1 = some M' ∧ HV M' h X Y t N Q (sn t 2 a v (nI s) S1) pb pt ∧ FrH M1 M' h := by
      obtain ⟨M2, e2, p2, f2⟩ := p1.put (k := 2) (f := a) (g := v) (s := nI s) (by omega) (by decide) ha v6
      exact ⟨M2, by rw [f_X2_hearRequest_55, cs_f q1, cs_h1 q1, bnd_e, cs_p q1, show f_X5_put (h + 1) 2 (nI a) (nI v) (nI s) M1 = some M2 from e2, obd_s], p2, f2⟩
    obtain ⟨Mf, ef, pf, ff⟩ := fail
    by_cases d : l1.head? = some (v, nI s)
    · rw [if_pos (hhd.mpr d), iv, obd_s]
      by_cases e : ahd (nI s) (nI v) (xR S 9 a) (xR S 8 a) = true
      · rw [if_pos e, if_neg (show ¬ (1 : Int32) = 0 by decide), if_pos (show l1.head? = some (v, nI s) ∧ ahd (nI s) (nI v) (xR S 9 a) (xR S 8 a) = true from ⟨d, e⟩)]
        have plain : ∃ M', f_X2_hearRequest_102 n h (nI a) (h + 17 + 2 * a) M1 = some M' ∧ HV M' h X Y t N Q (rq3 t a S1) pb pt ∧ FrH M1 M' h := p1.r102 ha hg k8 (by rw [r10]; exact h10) (by omega)
        obtain ⟨Mp, ep, pp, fp⟩ := plain
        cases hold : xW S a with
        | nil =>
          rw [if_pos (show hdW [] = (-1 : Int32) from rfl)]
          exact ⟨Mp, ep, pp, f1.tr fp⟩
        | cons u us =>
          have hu : u ∈ xW S a := by rw [hold]; simp
          have u6 := (hW.2.2 u hu).1
          have iu := p1.iag ha hg k8 (w := u) (by rw [w1]; exact hms u hu) (by omega)
          rw [r8, r9] at iu
          rw [if_neg (show ¬ hdW (u :: us) = (-1 : Int32) from nI_m1 (by omega)), show hdW (u :: us) = nI u.1 from rfl, iu, obd_s]
          unfold rq2
          simp only []
          rw [r8, r9]
          by_cases k : ahd u.2 (nI u.1) (xR S 9 a) (xR S 8 a) = true
          · obtain ⟨M2, e2, p2, f2⟩ := p1.put (k := 2) (f := a) (g := u.1) (s := u.2) (by omega) (by decide) ha (by omega)
            obtain ⟨M3, e3, p3, f3⟩ := p2.r102 (n := n) ha hg (by rw [sn_R _ _ _ _ _ _ (by decide)]; exact k8) (by rw [sn_R _ _ _ _ _ _ (by decide), r10]; exact h10) (by rw [fl_sn_len (by omega)]; omega)
            obtain ⟨_, _, _, _, a5⟩ := p1.2.2.1.1 a ha
            rw [if_pos k, if_neg (by decide), if_pos k]
            refine ⟨M3, ?_, p3, (f1.tr f2).tr f3⟩
            rw [cs_f q1, cs_h1 q1, bnd_e, cs_p q1, cs_pr q1 ha, bnd_e, cs_pa q1 ha, cs_pi q1 ha (by omega), mI_c (by omega), a5 u (by rw [w1]; exact hms u hu), show f_X5_put (h + 1) 2 (nI a) (nI u.1) u.2 M1 = some M2 from e2, obd_s, e3]
          · rw [if_neg k, if_pos rfl, if_neg k]
            exact ⟨Mp, ep, pp, f1.tr fp⟩
      · rw [if_neg e, if_pos rfl, if_neg (fun z => e z.2)]
        exact ⟨Mf, ef, pf, f1.tr ff⟩
    · rw [if_neg (fun z => d (hhd.mp z)), if_neg (fun z => d z.1)]
      exact ⟨Mf, ef, pf, f1.tr ff⟩
/-! ===== Integer.bitCount, as far as it is asked whether it is less than two ===== -/
def bcn (m : Nat) : Nat :=
  (fun x1 => (fun x3 => (fun x5 => (fun x7 => (x7 + (x7 >>> 16)) &&& 63) (x5 + (x5 >>> 8))) ((x3 + (x3 >>> 4)) &&& 252645135)) ((x1 &&& 858993459) + ((x1 >>> 2) &&& 858993459))) (m - ((m >>> 1) &&& 1431655765))
def pq (m : Nat) : Nat := m % 2 + (m / 2 % 2 + (m / 4 % 2 + (m / 8 % 2 + (m / 16 % 2 + (m / 32 % 2 + (m / 64 % 2 + (m / 128 % 2 + (m / 256 % 2 + (m / 512 % 2 + (m / 1024 % 2 + (m / 2048 % 2 + (m / 4096 % 2 + (m / 8192 % 2 + (m / 16384 % 2 + m / 32768 % 2))))))))))))))
theorem by_l1 {a b k c : Nat} (ha : a < 256) (hk : k ≤ 8) (hc : c < 2 ^ (8 - k)) : ((2 ^ 8 * b + a) >>> k) &&& (2 ^ 8 * c + c) = 2 ^ 8 * ((b >>> k) &&& c) + ((a >>> k) &&& c) := by
  have hc8 : c < 2 ^ 8 := Nat.lt_of_lt_of_le hc (Nat.pow_le_pow_right (by decide) (by omega))
  have hr : (a >>> k) &&& c < 2 ^ 8 := Nat.lt_of_le_of_lt Nat.and_le_right hc8
  apply Nat.eq_of_testBit_eq
  intro j
  rw [Nat.testBit_and, Nat.testBit_shiftRight, Nat.testBit_two_pow_mul_add _ ha, Nat.testBit_two_pow_mul_add _ hc8, Nat.testBit_two_pow_mul_add _ hr]
  by_cases h : j < 8
  · rw [if_pos h, if_pos h, Nat.testBit_and, Nat.testBit_shiftRight]
    by_cases h2 : k + j < 8
    · rw [if_pos h2]
    · have z : c.testBit j = false := Nat.testBit_lt_two_pow (Nat.lt_of_lt_of_le hc (Nat.pow_le_pow_right (by decide) (by omega)))
      rw [z, Bool.and_false, Bool.and_false]
  · rw [if_neg h, if_neg h, if_neg (by omega), Nat.testBit_and, Nat.testBit_shiftRight, show k + j - 8 = k + (j - 8) by omega]
theorem and_lo {x C : Nat} (hx : x < 65536) : x &&& C = x &&& (C % 65536) := by
  have h : (x &&& C) % 2 ^ 16 = (x % 2 ^ 16) &&& (C % 2 ^ 16) := Nat.and_mod_two_pow
  rw [Nat.mod_eq_of_lt (Nat.lt_of_le_of_lt Nat.and_le_left hx), Nat.mod_eq_of_lt hx] at h
  exact h
def b1 (a : Nat) : Nat := a - ((a >>> 1) &&& 85)
def b2 (p : Nat) : Nat := (p &&& 51) + ((p >>> 2) &&& 51)
def b3 (p : Nat) : Nat := (p + p / 16) % 16
theorem by_all : ∀ a, a < 256 → ((a >>> 1) &&& 85 ≤ a ∧ b1 a < 256) ∧ (b2 (b1 a) ≤ 68 ∧ b2 (b1 a) % 16 ≤ 4) ∧ b3 (b2 (b1 a)) = pq a ∧ pq a ≤ 8 := by decide +kernel
theorem pq_by {a b : Nat} (ha : a < 256) (hb : b < 256) : pq (256 * b + a) = pq a + pq b := by
  have e1 : (256 * b + a) % 2 = a % 2 := by omega
  have e2 : (256 * b + a) / 2 % 2 = a / 2 % 2 := by omega
  have e3 : (256 * b + a) / 4 % 2 = a / 4 % 2 := by omega
  have e4 : (256 * b + a) / 8 % 2 = a / 8 % 2 := by omega
  have e5 : (256 * b + a) / 16 % 2 = a / 16 % 2 := by omega
  have e6 : (256 * b + a) / 32 % 2 = a / 32 % 2 := by omega
  have e7 : (256 * b + a) / 64 % 2 = a / 64 % 2 := by omega
  have e8 : (256 * b + a) / 128 % 2 = a / 128 % 2 := by omega
  have f1 : (256 * b + a) / 256 % 2 = b % 2 := by omega
  have f2 : (256 * b + a) / 512 % 2 = b / 2 % 2 := by omega
  have f3 : (256 * b + a) / 1024 % 2 = b / 4 % 2 := by omega
  have f4 : (256 * b + a) / 2048 % 2 = b / 8 % 2 := by omega
  have f5 : (256 * b + a) / 4096 % 2 = b / 16 % 2 := by omega
  have f6 : (256 * b + a) / 8192 % 2 = b / 32 % 2 := by omega
  have f7 : (256 * b + a) / 16384 % 2 = b / 64 % 2 := by omega
  have f8 : (256 * b + a) / 32768 % 2 = b / 128 % 2 := by omega
  have z : ∀ x, x < 256 → x / 256 % 2 = 0 ∧ x / 512 % 2 = 0 ∧ x / 1024 % 2 = 0 ∧ x / 2048 % 2 = 0 ∧ x / 4096 % 2 = 0 ∧ x / 8192 % 2 = 0 ∧ x / 16384 % 2 = 0 ∧ x / 32768 % 2 = 0 := fun x hx => ⟨by omega, by omega, by omega, by omega, by omega, by omega, by omega, by omega⟩
  obtain ⟨a1, a2, a3, a4, a5, a6, a7, a8⟩ := z a ha
  obtain ⟨c1, c2, c3, c4, c5, c6, c7, c8⟩ := z b hb
  unfold pq
  rw [e1, e2, e3, e4, e5, e6, e7, e8, f1, f2, f3, f4, f5, f6, f7, f8, a1, a2, a3, a4, a5, a6, a7, a8, c1, c2, c3, c4, c5, c6, c7, c8]
  omega
theorem bcn_e {m : Nat} (hm : m < 65536) : bcn m = pq m := by
  obtain ⟨a, b, ha, hb, rfl⟩ : ∃ a b, a < 256 ∧ b < 256 ∧ m = 256 * b + a := ⟨m % 256, m / 256, Nat.mod_lt _ (by decide), by omega, by omega⟩
  obtain ⟨⟨a1, a2⟩, ⟨a3, a6⟩, a4, a5⟩ := by_all a ha
  obtain ⟨⟨c1, c2⟩, ⟨c3, c6⟩, c4, c5⟩ := by_all b hb
  have s1 : ((256 * b + a) >>> 1) &&& 1431655765 = 256 * ((b >>> 1) &&& 85) + ((a >>> 1) &&& 85) := by
    have := Nat.shiftRight_le (256 * b + a) 1
    rw [and_lo (by omega)]
    exact by_l1 (b := b) (c := 85) ha (by decide) (by decide)
  have x1 : 256 * b + a - (256 * ((b >>> 1) &&& 85) + ((a >>> 1) &&& 85)) = 256 * b1 b + b1 a := by
    unfold b1; omega
  have s2 : (256 * b1 b + b1 a) &&& 858993459 = 256 * (b1 b &&& 51) + (b1 a &&& 51) := by
    rw [and_lo (by omega)]
    exact by_l1 (b := b1 b) (a := b1 a) (k := 0) (c := 51) a2 (by decide) (by decide)
  have s3 : ((256 * b1 b + b1 a) >>> 2) &&& 858993459 = 256 * ((b1 b >>> 2) &&& 51) + ((b1 a >>> 2) &&& 51) := by
    have := Nat.shiftRight_le (256 * b1 b + b1 a) 2
    rw [and_lo (by omega)]
    exact by_l1 (b := b1 b) (a := b1 a) (k := 2) (c := 51) a2 (by decide) (by decide)
  have x3 : 256 * (b1 b &&& 51) + (b1 a &&& 51) + (256 * ((b1 b >>> 2) &&& 51) + ((b1 a >>> 2) &&& 51)) = 256 * b2 (b1 b) + b2 (b1 a) := by
    unfold b2; omega
  generalize hP : b2 (b1 a) = P at *
  generalize hQ : b2 (b1 b) = Q at *
  have x4 : 256 * Q + P + ((256 * Q + P) >>> 4) = 256 * (Q + Q / 16) + (P + P / 16 + 16 * (Q % 16)) := by
    rw [Nat.shiftRight_eq_div_pow]; omega
  have m15 : ∀ x, x &&& 15 = x % 16 := fun x => Nat.and_two_pow_sub_one_eq_mod x 4
  have s5 : (256 * (Q + Q / 16) + (P + P / 16 + 16 * (Q % 16))) &&& 252645135 = 256 * pq b + pq a := by
    rw [and_lo (by omega)]
    have := by_l1 (b := Q + Q / 16) (a := P + P / 16 + 16 * (Q % 16)) (k := 0) (c := 15) (by omega) (by decide) (by decide)
    rw [Nat.shiftRight_zero, Nat.shiftRight_zero, Nat.shiftRight_zero, m15, m15] at this
    have e : (252645135 : Nat) % 65536 = 2 ^ 8 * 15 + 15 := by decide
    rw [e, show (256 : Nat) = 2 ^ 8 from rfl, this, ← a4, ← c4]
    unfold b3
    omega
  have x7 : 256 * pq b + pq a + ((256 * pq b + pq a) >>> 8) = 256 * pq b + (pq a + pq b) := by
    rw [Nat.shiftRight_eq_div_pow]; omega
  have x9 : (256 * pq b + (pq a + pq b) + ((256 * pq b + (pq a + pq b)) >>> 16)) &&& 63 = pq a + pq b := by
    have m63 : ∀ x, x &&& 63 = x % 64 := fun x => Nat.and_two_pow_sub_one_eq_mod x 6
    have z : ∀ p, p < 9 → ∀ q, q < 9 → (256 * q + (p + q) + (256 * q + (p + q)) / 2 ^ 16) % 64 = p + q := by decide +kernel
    rw [m63, Nat.shiftRight_eq_div_pow]; exact z _ (by omega) _ (by omega)
  have e : bcn (256 * b + a) = pq a + pq b := by
    unfold bcn
    simp only []
    rw [s1, x1, s2, s3, x3, x4, s5, x7, x9]
  rw [e, pq_by ha hb]
theorem ush (m k : Nat) (hm : m < 2 ^ 32) (hk : k < 32) : ((nI m).toUInt32 >>> ((nI k).toUInt32 &&& Int32.toUInt32 31)).toInt32 = nI (m >>> k) := by
  apply Int32.toBitVec_inj.mp
  apply BitVec.eq_of_toNat_eq
  show (UInt32.toBitVec ((nI m).toUInt32 >>> ((nI k).toUInt32 &&& Int32.toUInt32 31))).toNat = (BitVec.ofNat 32 (m >>> k)).toNat
  have e1 : (UInt32.toBitVec ((nI m).toUInt32 >>> ((nI k).toUInt32 &&& Int32.toUInt32 31))).toNat = ((nI m).toUInt32.toNat) >>> (((nI k).toUInt32 &&& Int32.toUInt32 31).toNat % 32) := UInt32.toNat_shiftRight _ _
  have e2 : (nI m).toUInt32.toNat = m := by
    show (BitVec.ofNat 32 m).toNat = m
    rw [BitVec.toNat_ofNat]; exact Nat.mod_eq_of_lt hm
  have e3 : ((nI k).toUInt32 &&& Int32.toUInt32 31).toNat = k := by
    have : ∀ k, k < 32 → ((nI k).toUInt32 &&& Int32.toUInt32 31).toNat = k := by decide +kernel
    exact this k hk
  have hs : m >>> k < 2 ^ 32 := Nat.lt_of_le_of_lt (Nat.shiftRight_le m k) hm
  rw [e1, e2, e3, Nat.mod_eq_of_lt hk, BitVec.toNat_ofNat, Nat.mod_eq_of_lt hs]
theorem nI_sb {a b : Nat} (h : b ≤ a) : nI a - nI b = nI (a - b) := by
  have e : nI a = nI (a - b) + nI b := by rw [nI_add]; congr 1; omega
  rw [e, Int32.add_sub_cancel]
theorem f_bc {m : Nat} (hm : m < 65536) (M : Mem) : f_J6_bitCount_0f7a4 (nI m) M = some (nI (bcn m)) := by
  have h1 : (m >>> 1) &&& 1431655765 ≤ m := Nat.le_trans Nat.and_le_left (Nat.shiftRight_le m 1)
  generalize hx1 : m - ((m >>> 1) &&& 1431655765) = x1
  generalize hx3 : (x1 &&& 858993459) + ((x1 >>> 2) &&& 858993459) = x3
  generalize hx5 : (x3 + (x3 >>> 4)) &&& 252645135 = x5
  generalize hx7 : x5 + (x5 >>> 8) = x7
  have eb : bcn m = (x7 + (x7 >>> 16)) &&& 63 := by
    unfold bcn
    rw [hx1]
    show (fun x3 => (fun x5 => (fun x7 => (x7 + (x7 >>> 16)) &&& 63) (x5 + (x5 >>> 8))) ((x3 + (x3 >>> 4)) &&& 252645135)) ((x1 &&& 858993459) + ((x1 >>> 2) &&& 858993459)) = _
    rw [hx3]
    show (fun x5 => (fun x7 => (x7 + (x7 >>> 16)) &&& 63) (x5 + (x5 >>> 8))) ((x3 + (x3 >>> 4)) &&& 252645135) = _
    rw [hx5]
    show (fun x7 => (x7 + (x7 >>> 16)) &&& 63) (x5 + (x5 >>> 8)) = _
    rw [hx7]
  have l1 : x1 ≤ m := by omega
  have l3 : x3 ≤ 2 * x1 := by
    have a1 : x1 &&& 858993459 ≤ x1 := Nat.and_le_left
    have a2 : (x1 >>> 2) &&& 858993459 ≤ x1 >>> 2 := Nat.and_le_left
    have a3 := Nat.shiftRight_le x1 2
    omega
  have l5 : x5 ≤ 2 * x3 := by
    have a1 : (x3 + (x3 >>> 4)) &&& 252645135 ≤ x3 + (x3 >>> 4) := Nat.and_le_left
    have a3 := Nat.shiftRight_le x3 4
    omega
  have l7 : x7 ≤ 2 * x5 := by
    have a3 := Nat.shiftRight_le x5 8
    omega
  have k1 := ush m 1 (by omega) (by decide)
  have k2 := ush x1 2 (by omega) (by decide)
  have k4 := ush x3 4 (by omega) (by decide)
  have k8 := ush x5 8 (by omega) (by decide)
  have k16 := ush x7 16 (by omega) (by decide)
  rw [f_J6_bitCount_0f7a4, show ((1 : Int32)).toUInt32 = (nI 1).toUInt32 from rfl, k1, show (1431655765 : Int32) = nI 1431655765 from rfl, nx_and, nI_sb h1, hx1, bnd_e, show ((2 : Int32)).toUInt32 = (nI 2).toUInt32 from rfl, k2, show (858993459 : Int32) = nI 858993459 from rfl, nx_and, nx_and, nI_add, hx3, bnd_e, show ((4 : Int32)).toUInt32 = (nI 4).toUInt32 from rfl, k4, nI_add, show (252645135 : Int32) = nI 252645135 from rfl, nx_and, hx5, bnd_e, show ((8 : Int32)).toUInt32 = (nI 8).toUInt32 from rfl, k8, nI_add, hx7, bnd_e, show ((16 : Int32)).toUInt32 = (nI 16).toUInt32 from rfl, k16, nI_add, bnd_e, show (63 : Int32) = nI 63 from rfl, nx_and, eb]
theorem pcN_pq {m : Nat} (hm : m < 65536) : pcN m = pq m := by
  have st : ∀ k, k < 65536 → pcN k = k % 2 + pcN (k / 2) := fun k hk => pcN_half (by omega)
  have z : m / 32768 / 2 = 0 := by omega
  rw [st m hm, st (m / 2) (by omega), Nat.div_div_eq_div_mul, st (m / (2 * 2)) (by omega), Nat.div_div_eq_div_mul, st (m / (2 * 2 * 2)) (by omega), Nat.div_div_eq_div_mul, st (m / (2 * 2 * 2 * 2)) (by omega), Nat.div_div_eq_div_mul, st (m / (2 * 2 * 2 * 2 * 2)) (by omega), Nat.div_div_eq_div_mul, st (m / (2 * 2 * 2 * 2 * 2 * 2)) (by omega), Nat.div_div_eq_div_mul, st (m / (2 * 2 * 2 * 2 * 2 * 2 * 2)) (by omega), Nat.div_div_eq_div_mul, st (m / (2 * 2 * 2 * 2 * 2 * 2 * 2 * 2)) (by omega), Nat.div_div_eq_div_mul, st (m / (2 * 2 * 2 * 2 * 2 * 2 * 2 * 2 * 2)) (by omega), Nat.div_div_eq_div_mul, st (m / (2 * 2 * 2 * 2 * 2 * 2 * 2 * 2 * 2 * 2)) (by omega), Nat.div_div_eq_div_mul, st (m / (2 * 2 * 2 * 2 * 2 * 2 * 2 * 2 * 2 * 2 * 2)) (by omega), Nat.div_div_eq_div_mul, st (m / (2 * 2 * 2 * 2 * 2 * 2 * 2 * 2 * 2 * 2 * 2 * 2)) (by omega), Nat.div_div_eq_div_mul, st (m / (2 * 2 * 2 * 2 * 2 * 2 * 2 * 2 * 2 * 2 * 2 * 2 * 2)) (by omega), Nat.div_div_eq_div_mul, st (m / (2 * 2 * 2 * 2 * 2 * 2 * 2 * 2 * 2 * 2 * 2 * 2 * 2 * 2)) (by omega), Nat.div_div_eq_div_mul, st (m / (2 * 2 * 2 * 2 * 2 * 2 * 2 * 2 * 2 * 2 * 2 * 2 * 2 * 2 * 2)) (by omega), show m / (2 * 2 * 2 * 2 * 2 * 2 * 2 * 2 * 2 * 2 * 2 * 2 * 2 * 2 * 2) / 2 = 0 from z, pcN_0]
  rfl
theorem f_bcx {x : Int32} (h : ∀ i, 16 ≤ i → i < 32 → bt x i = false) (M : Mem) : f_J6_bitCount_0f7a4 x M = some (nI (pc x)) := by
  have hx := bt_hi (k := 16) (by decide) h
  have e := f_bc (m := x.toBitVec.toNat) (by omega) M
  rw [bcn_e (by omega), ← pcN_pq (by omega), ← pc_N, ← nI_tn x] at e
  exact e
/-! ===== the class: who is ahead; the hall's counts ===== -/
theorem St.ext {S S' : St} (hR : ∀ k i, xR S k i = xR S' k i) (hW : xW S = xW S') (hL : xL S = xL S') (hE : xE S = xE S') (hT : xT S = xT S') : S = S' := by
  obtain ⟨a, b, c, d, e⟩ := S
  obtain ⟨a', b', c', d', e'⟩ := S'
  have h1 : a = a' := by funext k i; exact hR k i
  have h2 : b = b' := hW
  have h3 : c = c' := hL
  have h4 : d = d' := hE
  have h5 : e = e' := hT
  rw [h1, h2, h3, h4, h5]
def gt : List (Nat × Nat) := [(10, 1), (11, 0), (12, 2), (13, 5), (14, 3), (15, 4)]
theorem HP.gs {M : Mem} {h : Nat} {S : St} (p : HP M h S) {b j : Nat} (hb : (b, j) ∈ gt) : mI M h b = xR S 15 j := by
  obtain ⟨_, _, _, _, g10, g11, g12, g13, g14, g15⟩ := p
  have : (b = 10 ∧ j = 1) ∨ (b = 11 ∧ j = 0) ∨ (b = 12 ∧ j = 2) ∨ (b = 13 ∧ j = 5) ∨ (b = 14 ∧ j = 3) ∨ (b = 15 ∧ j = 4) := by
    simpa [gt] using hb
  rcases this with ⟨rfl, rfl⟩ | ⟨rfl, rfl⟩ | ⟨rfl, rfl⟩ | ⟨rfl, rfl⟩ | ⟨rfl, rfl⟩ | ⟨rfl, rfl⟩
  · exact g10
  · exact g11
  · exact g12
  · exact g13
  · exact g14
  · exact g15
theorem HP.gw {M : Mem} {h : Nat} {S : St} (p : HP M h S) {b j : Nat} (hb : (b, j) ∈ gt) (x : Int32) : HP (sI M h b x) h (uR S 15 j x) := by
  have gs := fun b' j' (hb' : (b', j') ∈ gt) => p.gs hb'
  obtain ⟨p1, g7, g8, g9, _⟩ := p
  have hf : ∀ p, p ∈ ft → p.2 ≠ 15 := by decide
  have r : ∀ k i, k ≠ 15 → xR (uR S 15 j x) k i = xR S k i := fun k i n => by rw [xR_uR, if_neg (fun z => n z.1)]
  have lim : ∀ p, p ∈ gt → p.1 ≠ 7 ∧ p.1 ≠ 8 ∧ p.1 ≠ 9 := by decide
  have inj : ∀ p, p ∈ gt → ∀ p', p' ∈ gt → (p.1 = p'.1 ↔ p.2 = p'.2) := by decide
  obtain ⟨l7, l8, l9⟩ := lim _ hb
  have all : ∀ b' j', (b', j') ∈ gt → mI (sI M h b x) h b' = xR (uR S 15 j x) 15 j' := fun b' j' hb' => by
    have ij := inj _ hb' _ hb
    by_cases c : b' = b
    · rw [c, mI_s, xR_uR, if_pos ⟨rfl, ij.mp c⟩]
    · rw [mI_n _ _ _ _ c, xR_uR, if_neg (fun z => c (ij.mpr z.2))]; exact gs b' j' hb'
  refine ⟨fun v hv => ?_, fun v hv => ?_, fun v hv => ?_, fun v hv => ?_, all 10 1 (by decide), all 11 0 (by decide), all 12 2 (by decide), all 13 5 (by decide), all 14 3 (by decide), all 15 4 (by decide)⟩
  · obtain ⟨a1, a2, a3, a4, a5⟩ := p1 v hv
    have o1 : ∀ k, mI (sI M h b x) (h + 17 + 2 * v) k = mI M (h + 17 + 2 * v) k := fun k => mI_o _ _ _ _ _ (by omega)
    have o2 : ∀ k, mI (sI M h b x) (h + 18 + 2 * v) k = mI M (h + 18 + 2 * v) k := fun k => mI_o _ _ _ _ _ (by omega)
    refine ⟨fun p hp => ?_, ?_, fun z => ?_, fun w hw => ?_, fun w hw => ?_⟩
    · rw [o1, r _ _ (hf p hp)]; exact a1 p hp
    · rw [o1, r 8 _ (by decide), r 9 _ (by decide)]; exact a2
    · rw [o1, r 14 _ (by decide)]; exact a3 (by rw [← r 0 v (by decide)]; exact z)
    · rw [o1]; exact a4 w hw
    · rw [o2]; exact a5 w hw
  · rw [mI_n _ _ _ _ (Ne.symm l7), r 0 _ (by decide)]; exact g7 v hv
  · rw [mI_n _ _ _ _ (Ne.symm l8), r 0 _ (by decide)]; exact g8 v hv
  · rw [mI_n _ _ _ _ (Ne.symm l9), r 7 _ (by decide)]; exact g9 v hv
theorem HV.gs {M : Mem} {h X Y N : Nat} {t : Int32} {Q : Nat → Int32} {S : St} {pb pt : List Row4} (p : HV M h X Y t N Q S pb pt) {b j : Nat} (hb : (b, j) ∈ gt) : mI M h b = xR S 15 j := p.2.2.1.gs hb
theorem HV.gw {M : Mem} {h X Y N : Nat} {t : Int32} {Q : Nat → Int32} {S : St} {pb pt : List Row4} (p : HV M h X Y t N Q S pb pt) {b j : Nat} (hb : (b, j) ∈ gt) (x : Int32) : HV (sI M h b x) h X Y t N Q (uR S 15 j x) pb pt ∧ FrH M (sI M h b x) h :=
  ⟨p.at rfl (fun o n b => mI_o _ _ _ _ _ (by omega)) (p.2.2.1.gw hb x) rfl (by funext i; rw [xR_uR, if_neg (fun z => by have := z.1; omega)]) rfl rfl, FrH.sI (by omega)⟩
theorem HV.t11 {M : Mem} {h X Y N : Nat} {t : Int32} {Q : Nat → Int32} {S : St} {pb pt : List Row4} (p : HV M h X Y t N Q S pb pt) : mI M (h + 1) 11 = t := by
  obtain ⟨d5, d6, d7, len, K, fr, us, ow, w, _⟩ := p.2.1
  exact w.2.2.2.2.2.2.2.2.2.2.1
/-- a register of no place's and no hall's number that the class's hall holds -/
theorem HV.ahl {h X Y N : Nat} {t : Int32} {Q : Nat → Int32} {S : St} {pb pt : List Row4} {M : Mem} (p : HV M h X Y t N Q S pb pt) (h16 : N ≤ 16) {v : Nat} (hv : v < 16) : ∀ (d i n : Nat), i + d = N → d + 1 ≤ n → f_X2_isSomeoneAheadOf_2 M n h (nI v) (nI i) = some (if ovr' i d v S then 1 else 0) := by
  intro d
  induction d with
  | zero =>
    intro i n hi hn
    obtain ⟨n, rfl⟩ : ∃ m, n = m + 1 := ⟨n - 1, by omega⟩
    have q := p.1
    rw [f_X2_isSomeoneAheadOf_2, cs_f q, cs_h0 q, bnd_e, cs_s q, p.2.2.2.2.2.1, if_pos (nI_le (by omega) (by omega))]
    rfl
  | succ d ih =>
    intro i n hi hn
    obtain ⟨n, rfl⟩ : ∃ m, n = m + 1 := ⟨n - 1, by omega⟩
    have q := p.1
    have g8 := p.2.2.1.2.2.1 i (by omega)
    have eo : ovr' i (d + 1) v S = ((decide (xR S 0 i = 1) && ahd (xR S 2 i) (nI i) (xR S 2 v) (nI v)) || ovr' (i + 1) d v S) := by
      unfold ovr'
      rw [List.range'_succ, List.any_cons]
    rw [eo, f_X2_isSomeoneAheadOf_2, cs_f q, cs_h0 q, bnd_e, cs_s q, p.2.2.2.2.2.1, if_neg (nI_ge (by omega) (by omega)), f_has9 _ (by omega), obd_s, g8]
    have next := ih (i + 1) n (by omega) (by omega)
    by_cases c : xR S 0 i = 1
    · rw [if_pos (show decide (i < 16 ∧ xR S 0 i = 1) = true from decide_eq_true ⟨by omega, c⟩), if_neg ne10, cs_h2 q, bnd_e, cs_a10 q, cs_i10 q (by omega), cs_rpc q (by omega), bnd_e, cs_po q (by omega), bnd_e, cs_a10 q, cs_i10 q hv, cs_rpc q hv, bnd_e, cs_po q hv, p.fs (v := i) (by omega) (a := 1) (k := 2) (by decide), p.fs hv (a := 1) (k := 2) (by decide), f_ah9, obd_s, decide_eq_true c, Bool.true_and]
      cases ha : ahd (xR S 2 i) (nI i) (xR S 2 v) (nI v)
      · rw [if_neg (show ¬ false = true by decide), if_pos rfl, nI_1, bnd_e, next, Bool.false_or]
      · rw [if_pos rfl, if_neg ne10, Bool.true_or, if_pos rfl]
    · rw [if_neg (show ¬ decide (i < 16 ∧ xR S 0 i = 1) = true from fun z => c (of_decide_eq_true z).2), if_pos rfl, nI_1, bnd_e, next, decide_eq_false c, Bool.false_and, Bool.false_or]
theorem HV.ahead {h X Y N : Nat} {t : Int32} {Q : Nat → Int32} {S : St} {pb pt : List Row4} {M : Mem} (p : HV M h X Y t N Q S pb pt) (h16 : N ≤ 16) {v : Nat} (hv : v < 16) {n : Nat} (hn : 17 ≤ n) : f_X2_isSomeoneAheadOf n h (nI v) M = some (if ovr N v S then 1 else 0) := by
  have := p.ahl h16 hv N 0 n (by omega) (by omega)
  have eo : ovr' 0 N v S = ovr N v S := by
    unfold ovr' ovr
    rw [List.range_eq_range']
  rw [eo] at this
  exact this
