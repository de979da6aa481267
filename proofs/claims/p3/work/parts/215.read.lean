/-! ===== a letter is read, by the reference ===== -/
def rd (t : Int32) (N k f g : Nat) (s : Int32) (S : St) : St :=
  let S1 := if s ≤ xR S 1 g then S else uR S 1 g s
  if k = 0 then rq t g f s S1
  else if k = 4 then yl t g f s S1
  else if k = 5 then rl t g f s S1
  else if xR S1 0 g = 1 ∧ xR S1 2 g = s then (if k = 1 then gr t N g f S1 else if k = 2 then fd t N g f S1 else iq t g f S1)
  else S1
/-- what the hearing of f's letter by s at g rests on -/
def Hok (S : St) (f g : Nat) (s : Int32) : Prop := (∀ w, w ∈ xW S g → w.1 < 16) ∧ (xW S g).length < 20 ∧ Srt f s (xW S g) ∧ Gok S g
theorem RV.rd45 {M : Mem} {tw : Bool} {t : Int32} {S : St} {pb pt : List Row4} (h : RV M tw t S pb pt) {N : Nat} (hN : xR S 20 0 = nI N) (h2N : 2 ≤ N) (h16 : N ≤ 16) {k f g : Nat} (hk : k < 6) (hf : f < 16) (hg : g < 16) {s : Int32} (hH : Hok S f g s) (hl : (fl S).length + N ≤ 9000) {n : Nat} (hn : 9200 ≤ n) {u0 : Int32} (hu : ((xR S 0 g = 1 ∧ xR S 2 g = s) ∧ u0 = 1) ∨ (¬ (xR S 0 g = 1 ∧ xR S 2 g = s) ∧ u0 = 0)) : ∃ M', f_X10_read_45 n 120 (nI k) (nI f) (nI g) s u0 M = some M' ∧ RV M' tw t (if k = 0 then rq t g f s S else if k = 4 then yl t g f s S else if k = 5 then rl t g f s S else if xR S 0 g = 1 ∧ xR S 2 g = s then (if k = 1 then gr t N g f S else if k = 2 then fd t N g f S else iq t g f S) else S) pb pt ∧ Fr PA M M' := by
  obtain ⟨hW, hwl, hs, hG⟩ := hH
  have kd : ∀ a b : Nat, a < 6 → b < 6 → a ≠ b → ¬ nI a = nI b := fun a b ha hb hne q => hne ((nI_eq (by omega) (by omega)).mp q)
  rcases (show k = 0 ∨ k = 1 ∨ k = 2 ∨ k = 3 ∨ k = 4 ∨ k = 5 by omega) with rfl | rfl | rfl | rfl | rfl | rfl
  · obtain ⟨M', e, h', f'⟩ := h.trq (a := g) (v := f) (s := s) hg hf (by omega) hW hwl hs hG (n := n) (by omega)
    exact ⟨M', by rw [f_X10_read_45, if_pos (by rfl), rs_f h.1, e, obd_s], h', f'⟩
  · rw [if_neg (show ¬ (1 : Nat) = 0 by decide), if_neg (show ¬ (1 : Nat) = 4 by decide), if_neg (show ¬ (1 : Nat) = 5 by decide)]
    rcases hu with ⟨c, rfl⟩ | ⟨c, rfl⟩
    · rw [if_pos c, if_pos (show (1 : Nat) = 1 from rfl)]
      obtain ⟨M', e, h', f'⟩ := h.tgr hN h16 (v := g) (a := f) hg (n := n) (by omega)
      exact ⟨M', by rw [f_X10_read_45, if_neg (show ¬ nI 1 = (0 : Int32) by decide), if_pos (by rfl), if_neg ne10, rs_f h.1, e, obd_s], h', f'⟩
    · rw [if_neg c]
      exact ⟨M, by rw [f_X10_read_45, if_neg (show ¬ nI 1 = (0 : Int32) by decide), if_pos (by rfl), if_pos rfl], h, Fr.rf _ _⟩
  · rw [if_neg (show ¬ (2 : Nat) = 0 by decide), if_neg (show ¬ (2 : Nat) = 4 by decide), if_neg (show ¬ (2 : Nat) = 5 by decide)]
    rcases hu with ⟨c, rfl⟩ | ⟨c, rfl⟩
    · rw [if_pos c, if_neg (show ¬ (2 : Nat) = 1 by decide), if_pos (show (2 : Nat) = 2 from rfl)]
      obtain ⟨M', e, h', f'⟩ := h.tfd hN h16 (v := g) (a := f) hg hl (n := n) (by omega)
      exact ⟨M', by rw [f_X10_read_45, if_neg (show ¬ nI 2 = (0 : Int32) by decide), if_neg (show ¬ nI 2 = (1 : Int32) by decide), if_pos (by rfl), if_neg ne10, rs_f h.1, e, obd_s], h', f'⟩
    · rw [if_neg c]
      exact ⟨M, by rw [f_X10_read_45, if_neg (show ¬ nI 2 = (0 : Int32) by decide), if_neg (show ¬ nI 2 = (1 : Int32) by decide), if_pos (by rfl), if_pos rfl], h, Fr.rf _ _⟩
  · rw [if_neg (show ¬ (3 : Nat) = 0 by decide), if_neg (show ¬ (3 : Nat) = 4 by decide), if_neg (show ¬ (3 : Nat) = 5 by decide)]
    rcases hu with ⟨c, rfl⟩ | ⟨c, rfl⟩
    · rw [if_pos c, if_neg (show ¬ (3 : Nat) = 1 by decide), if_neg (show ¬ (3 : Nat) = 2 by decide)]
      obtain ⟨M', e, h', f'⟩ := h.tiq (v := g) (a := f) hg hf (by omega) (n := n) (by omega)
      exact ⟨M', by rw [f_X10_read_45, if_neg (show ¬ nI 3 = (0 : Int32) by decide), if_neg (show ¬ nI 3 = (1 : Int32) by decide), if_neg (show ¬ nI 3 = (2 : Int32) by decide), if_pos (by rfl), if_neg ne10, rs_f h.1, e, obd_s], h', f'⟩
    · rw [if_neg c]
      exact ⟨M, by rw [f_X10_read_45, if_neg (show ¬ nI 3 = (0 : Int32) by decide), if_neg (show ¬ nI 3 = (1 : Int32) by decide), if_neg (show ¬ nI 3 = (2 : Int32) by decide), if_pos (by rfl), if_pos rfl], h, Fr.rf _ _⟩
  · rw [if_neg (show ¬ (4 : Nat) = 0 by decide), if_pos (show (4 : Nat) = 4 from rfl)]
    obtain ⟨M', e, h', f'⟩ := h.tyl (a := g) (v := f) (s := s) hg hf (by omega) hW hwl hs (n := n) (by omega)
    exact ⟨M', by rw [f_X10_read_45, if_neg (show ¬ nI 4 = (0 : Int32) by decide), if_neg (show ¬ nI 4 = (1 : Int32) by decide), if_neg (show ¬ nI 4 = (2 : Int32) by decide), if_neg (show ¬ nI 4 = (3 : Int32) by decide), if_pos (by rfl), rs_f h.1, e, obd_s], h', f'⟩
  · rw [if_neg (show ¬ (5 : Nat) = 0 by decide), if_neg (show ¬ (5 : Nat) = 4 by decide), if_pos (show (5 : Nat) = 5 from rfl)]
    obtain ⟨M', e, h', f'⟩ := h.trl (a := g) (v := f) (s := s) hg hf (by omega) hW (n := n) (by omega)
    exact ⟨M', by rw [f_X10_read_45, if_neg (show ¬ nI 5 = (0 : Int32) by decide), if_neg (show ¬ nI 5 = (1 : Int32) by decide), if_neg (show ¬ nI 5 = (2 : Int32) by decide), if_neg (show ¬ nI 5 = (3 : Int32) by decide), if_neg (show ¬ nI 5 = (4 : Int32) by decide), if_pos (by rfl), rs_f h.1, e, obd_s], h', f'⟩
theorem RV.trd {M : Mem} {tw : Bool} {t : Int32} {S : St} {pb pt : List Row4} (h : RV M tw t S pb pt) {N : Nat} (hN : xR S 20 0 = nI N) (h2N : 2 ≤ N) (h16 : N ≤ 16) {k f g : Nat} (hk : k < 6) (hf : f < 16) (hg : g < 16) {s : Int32} (hH : Hok S f g s) (hl : (fl S).length + N ≤ 9000) {n : Nat} (hn : 9200 ≤ n) : ∃ M', f_X10_read n 120 (nI k) (nI f) (nI g) s M = some M' ∧ RV M' tw t (rd t N k f g s S) pb pt ∧ Fr PA M M' := by
  have r19 : ∀ {M : Mem} {S : St} (_ : RV M tw t S pb pt), ∃ u0, (((xR S 0 g = 1 ∧ xR S 2 g = s) ∧ u0 = 1) ∨ (¬ (xR S 0 g = 1 ∧ xR S 2 g = s) ∧ u0 = 0)) ∧ f_X10_read_19 n 120 (nI k) (nI f) (nI g) s M = f_X10_read_45 n 120 (nI k) (nI f) (nI g) s u0 M := by
    intro M S h
    by_cases c : xR S 0 g = 1
    · by_cases c2 : xR S 2 g = s
      · exact ⟨1, Or.inl ⟨⟨c, c2⟩, rfl⟩, by rw [f_X10_read_19, rs_f h.1, h.get0 hg, obd_s, if_pos c, h.get2 hg, obd_s, if_pos c2]⟩
      · exact ⟨0, Or.inr ⟨fun q => c2 q.2, rfl⟩, by rw [f_X10_read_19, rs_f h.1, h.get0 hg, obd_s, if_pos c, h.get2 hg, obd_s, if_neg c2]⟩
    · exact ⟨0, Or.inr ⟨fun q => c q.1, rfl⟩, by rw [f_X10_read_19, rs_f h.1, h.get0 hg, obd_s, if_neg c]⟩
  unfold rd
  simp only []
  by_cases c : s ≤ xR S 1 g
  · rw [if_pos c]
    obtain ⟨u0, hu, eu⟩ := r19 h
    obtain ⟨M', e, h', f'⟩ := h.rd45 hN h2N h16 hk hf hg hH hl hn hu
    exact ⟨M', by rw [f_X10_read, rs_f h.1, h.get1 hg, obd_s, if_pos c, eu, e], h', f'⟩
  · rw [if_neg c]
    have h1 := h.st (vk_n (k := 1) (by decide) hg) s
    obtain ⟨u0, hu, eu⟩ := r19 h1
    obtain ⟨M', e, h', f'⟩ := h1.rd45 (by simpa [xR_uR] using hN) h2N h16 hk hf hg (show Hok (uR S 1 g s) f g s from hH) hl hn hu
    exact ⟨M', by rw [f_X10_read, rs_f h.1, h.get1 hg, obd_s, if_neg c, h.let1 hg, obd_s, eu, e], h', Fr.tr Fr.tad f'⟩
theorem wtl_o (f g : Nat) {a : Nat} (ha : a ≠ 14) (b : Nat) : ∀ (ws : List Nat) (S : St), xR (wtl f g ws S) a b = xR S a b := by
  intro ws
  induction ws with
  | nil => intro S; rfl
  | cons w ws ih =>
    intro S
    unfold wtl
    rw [List.foldl_cons]
    have := ih (if xR S 0 w = 1 ∧ (w = f ∨ w = g) then uR S 14 w (xR S 14 w + 1) else S)
    unfold wtl at this
    rw [this]
    split
    · rw [xR_uR, if_neg (fun q => ha q.1)]
    · rfl
theorem wtl_W (f g : Nat) : ∀ (ws : List Nat) (S : St), (wtl f g ws S).2 = S.2 := by
  intro ws
  induction ws with
  | nil => intro S; rfl
  | cons w ws ih =>
    intro S
    unfold wtl
    rw [List.foldl_cons]
    have := ih (if xR S 0 w = 1 ∧ (w = f ∨ w = g) then uR S 14 w (xR S 14 w + 1) else S)
    unfold wtl at this
    rw [this]
    split
    · rfl
    · rfl
theorem wt_R {N k f g : Nat} {s : Int32} {S : St} {a : Nat} (h14 : a ≠ 14) (h15 : a ≠ 15) (h18 : a ≠ 18) (b : Nat) : xR (wt N k f g s S) a b = xR S a b := by
  unfold wt
  rw [wtl_o _ _ h14, xR_uR, if_neg (fun q => h18 q.1), xR_uR, if_neg (fun q => h15 q.1), xR_uT]
theorem wt_WL (N k f g : Nat) (s : Int32) (S : St) : xW (wt N k f g s S) = xW S ∧ xL (wt N k f g s S) = xL S := by
  have := wtl_W f g (List.range N) (uR (uR (uT S (nI k, nI f, nI g, s)) 15 1 (xR S 15 1 + 1)) 18 g (xR S 18 g + 1))
  unfold wt
  constructor
  · show (wtl f g _ _).2.1 = _
    rw [this]; rfl
  · show (wtl f g _ _).2.2.1 = _
    rw [this]; rfl
theorem fl_L {S S' : St} (h : xL S = xL S') : fl S = fl S' := by
  unfold fl; rw [h]
/-- a letter of a lane is brought -/
def br (t : Int32) (N f g : Nat) (S : St) : St := match xL S (16 * f + g) with
  | [] => S
  | x :: r => rd t N x.1.toNatClampNeg f g x.2.1 (wt N x.1.toNatClampNeg f g x.2.1 (uL S (16 * f + g) r))
/-- a letter as letters are -/
def Lok (x : Ltr) : Prop := (∃ k, k < 6 ∧ x.1 = nI k) ∧ ∃ s, s < 1048576 ∧ x.2.1 = nI s
theorem f_pairs (l : Nat) (hl : l < 256) : nI l / (16 : Int32) = nI (l / 16) ∧ nI l - nI l / (16 : Int32) * (16 : Int32) = nI (l % 16) := by
  rw [show (16 : Int32) = nI 16 from rfl]
  exact ⟨pk_div (by omega) (by decide) (by decide), pk_rem (by omega) (by decide) (by decide)⟩
set_option maxHeartbeats 1000000 in
theorem RV.tbr {M : Mem} {tw : Bool} {t : Int32} {S : St} {pb pt : List Row4} (h : RV M tw t S pb pt) {N : Nat} (hN : xR S 20 0 = nI N) (h2N : 2 ≤ N) (h16 : N ≤ 16) {f g : Nat} (hf : f < 16) (hg : g < 16) {x : Ltr} {r : List Ltr} (hx : xL S (16 * f + g) = x :: r) (hL : Lok x) (hH : Hok S f g x.2.1) (hl : (fl S).length + N ≤ 9000) {n : Nat} (hn : 9200 ≤ n) : ∃ M', f_X10_bringNow n 120 (nI (flr (xL S) 0 (16 * f + g)).length) M = some (x.1, M') ∧ RV M' tw t (br t N f g S) pb pt ∧ Fr PA M M' := by
  obtain ⟨⟨k, hk, ek⟩, sv, hsv, es⟩ := hL
  obtain ⟨g1, g2, M1, e1, h1, f1⟩ := h.take (l := 16 * f + g) (by omega) hx (n := n) (by omega)
  have kk : x.1.toNatClampNeg = k := by rw [ek, nI_clamp (by omega)]
  obtain ⟨M2, e2, h2, f2⟩ := h1.twt (N := N) (k := k) (f := f) (g := g) (by rw [xR_uL]; exact hN) h16 hf hg x.2.1 (n := n) (by omega)
  have wl := wt_WL N k f g x.2.1 (uL S (16 * f + g) r)
  have hH2 : Hok (wt N k f g x.2.1 (uL S (16 * f + g) r)) f g x.2.1 := by
    unfold Hok Gok at hH ⊢
    rw [wl.1, wt_R (by decide) (by decide) (by decide), xW_uL, xR_uL]
    exact hH
  have hlen : (fl (wt N k f g x.2.1 (uL S (16 * f + g) r))).length + N ≤ 9000 := by
    rw [fl_L wl.2]
    have a1 := fl_split S (l := 16 * f + g) (by omega)
    have a2 := fl_uL S (l := 16 * f + g) (by omega) r
    rw [hx] at a1
    have b1 := congrArg List.length a1
    have b2 := congrArg List.length a2
    simp only [List.length_append, List.length_map, List.length_cons] at b1 b2
    omega
  obtain ⟨M3, e3, h3, f3⟩ := h2.trd (N := N) (k := k) (f := f) (g := g) (s := x.2.1) (by rw [wt_R (by decide) (by decide) (by decide), xR_uL]; exact hN) h2N h16 hk hf hg hH2 hlen hn
  refine ⟨M3, ?_, ?_, Fr.tr f1 (Fr.tr f2 f3)⟩
  · obtain ⟨p1, p2⟩ := f_pairs (16 * f + g) (by omega)
    have ep : enc (16 * f + g, x) &&& (255 : Int32) = nI (16 * f + g) := enc_pair (show (16 * f + g, x).1 < 256 by show 16 * f + g < 256; omega)
    rw [f_X10_bringNow, rs_f h.1, rs_0 h.1, bnd_e, rs_fa h.1, c851, rs_c h.1 (by omega), bnd_e, cl_n (by omega), g1, f_X10_pairOf, ep, obd_s, chk_t (by decide), bnd_e, obd_s, chk_t (by decide), bnd_e, e1, obd_s, f_X10_kindOf, enc_kind (show (16 * f + g, x).1 < 256 by show 16 * f + g < 256; omega) (show k < 8 by omega) ek, obd_s, f_X10_stampOf, enc_stamp (show (16 * f + g, x).1 < 256 by show 16 * f + g < 256; omega) (show k < 8 by omega) ek hsv es, obd_s, rs_f h1.1, p2, p1, show (16 * f + g) / 16 = f by omega, show (16 * f + g) % 16 = g by omega, ← es, e2, obd_s, f_X10_kindOf, enc_kind (show (16 * f + g, x).1 < 256 by show 16 * f + g < 256; omega) (show k < 8 by omega) ek, obd_s, f_X10_stampOf, enc_stamp (show (16 * f + g, x).1 < 256 by show 16 * f + g < 256; omega) (show k < 8 by omega) ek hsv es, obd_s, rs_f h2.1, ← es, e3, obd_s, f_X10_kindOf, enc_kind (show (16 * f + g, x).1 < 256 by show 16 * f + g < 256; omega) (show k < 8 by omega) ek, obd_s, ek]
  · unfold br; rw [hx]; simp only []; rw [kk]; exact h3
