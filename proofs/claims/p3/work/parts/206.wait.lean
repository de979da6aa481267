/-! ===== who waits at an arbiter of the reference ===== -/
theorem c42 (i : Nat) : (4 : Int32) + ((2 : Int32) * nI i) = nI (4 + 2 * i) := by rw [show (4 : Int32) = nI 4 from rfl, show (2 : Int32) = nI 2 from rfl, pk_mul, nI_add]
theorem RV.wn {M : Mem} {tw : Bool} {t : Int32} {S : St} {pb pt : List Row4} (h : RV M tw t S pb pt) {a i : Nat} (ha : a < 16) (hi : i < 20) : f_X10_waitNode 120 (nI a) (nI i) M = some (mI M 121 (150 + 44 * a + 2 * i)) := by
  rw [f_X10_waitNode, rs_f h.1, c42, f_of h.toRK ha (by omega), obd_s]
  congr 2
  omega
theorem RV.ws {M : Mem} {tw : Bool} {t : Int32} {S : St} {pb pt : List Row4} (h : RV M tw t S pb pt) {a i : Nat} (ha : a < 16) (hi : i < 20) : f_X10_waitStamp 120 (nI a) (nI i) M = some (mI M 121 (151 + 44 * a + 2 * i)) := by
  rw [f_X10_waitStamp, rs_f h.1, c42, nI_1, f_of h.toRK ha (by omega), obd_s]
  congr 2
  omega
theorem wn_K {M : Mem} (h : RK M 120 121) {a i : Nat} (ha : a < 16) (hi : i < 20) : f_X10_waitNode 120 (nI a) (nI i) M = some (mI M 121 (150 + 44 * a + 2 * i)) := by
  rw [f_X10_waitNode, chk_t h.1, c42, f_of h ha (by omega), obd_s]
  congr 2
  omega
theorem ws_K {M : Mem} (h : RK M 120 121) {a i : Nat} (ha : a < 16) (hi : i < 20) : f_X10_waitStamp 120 (nI a) (nI i) M = some (mI M 121 (151 + 44 * a + 2 * i)) := by
  rw [f_X10_waitStamp, chk_t h.1, c42, nI_1, f_of h ha (by omega), obd_s]
  congr 2
  omega
theorem pn_K {M : Mem} (h : RK M 120 121) {a i : Nat} {x : Int32} (ha : a < 16) (hi : i < 20) : f_X10_put 120 (nI a) ((4 : Int32) + ((2 : Int32) * nI i)) x M = some (sI M 121 (150 + 44 * a + 2 * i) x) := by
  rw [c42, f_put h ha (by omega)]
  congr 2
  omega
theorem ps_K {M : Mem} (h : RK M 120 121) {a i : Nat} {x : Int32} (ha : a < 16) (hi : i < 20) : f_X10_put 120 (nI a) (((4 : Int32) + ((2 : Int32) * nI i)) + (1 : Int32)) x M = some (sI M 121 (151 + 44 * a + 2 * i) x) := by
  rw [c42, nI_1, f_put h ha (by omega)]
  congr 2
  omega
/-- the cells of who waits at a alone have changed (149 + 44 a .. 189 + 44 a) -/
def FrW (a : Nat) (M M' : Mem) : Prop := M'.1 = M.1 ∧ (∀ o, o ≠ 121 → ∀ k, mI M' o k = mI M o k) ∧ (∀ o k, mL M' o k = mL M o k) ∧ (∀ b, b < 149 + 44 * a ∨ 190 + 44 * a ≤ b → mI M' 121 b = mI M 121 b)
theorem FrW.rf (a : Nat) (M : Mem) : FrW a M M := ⟨rfl, fun _ _ _ => rfl, fun _ _ => rfl, fun _ _ => rfl⟩
theorem FrW.tr {a : Nat} {M M' M'' : Mem} (h : FrW a M M') (h' : FrW a M' M'') : FrW a M M'' :=
  ⟨h'.1.trans h.1, fun o q1 k => (h'.2.1 o q1 k).trans (h.2.1 o q1 k), fun o k => (h'.2.2.1 o k).trans (h.2.2.1 o k), fun b q => (h'.2.2.2 b q).trans (h.2.2.2 b q)⟩
theorem FrW.s {a b : Nat} {M : Mem} {x : Int32} (h1 : 149 + 44 * a ≤ b) (h2 : b < 190 + 44 * a) : FrW a M (sI M 121 b x) :=
  ⟨rfl, fun o q k => mI_o _ _ _ _ _ q, fun _ _ => rfl, fun c hc => mI_n _ _ _ _ (by omega)⟩
theorem FrW.toFr {a : Nat} {M M' : Mem} (h : FrW a M M') : Fr PA M M' :=
  ⟨h.1, fun o q k => h.2.1 o (fun e => q (e ▸ ⟨by decide, by decide⟩)) k, fun o k => h.2.2.1 o k⟩
def Wsg (M : Mem) (a p : Nat) (xs : List Wtr) : Prop := ∀ i q, xs[i]? = some q → mI M 121 (150 + 44 * a + 2 * (p + i)) = nI q.1 ∧ mI M 121 (151 + 44 * a + 2 * (p + i)) = q.2
theorem Wsg.nil (M : Mem) (a p : Nat) : Wsg M a p [] := fun i q h => by simp at h
theorem Wsg.ap {M : Mem} {a p : Nat} {xs ys : List Wtr} : Wsg M a p (xs ++ ys) ↔ Wsg M a p xs ∧ Wsg M a (p + xs.length) ys := by
  constructor
  · intro h
    refine ⟨fun i q hi => h i q ?_, fun i q hi => ?_⟩
    · rw [List.getElem?_append_left (List.getElem?_eq_some_iff.mp hi).1, hi]
    · have := h (xs.length + i) q (by rw [List.getElem?_append_right (by omega), Nat.add_sub_cancel_left, hi])
      rw [show p + xs.length + i = p + (xs.length + i) by omega]
      exact this
  · intro h i q hi
    by_cases hlt : i < xs.length
    · rw [List.getElem?_append_left hlt] at hi
      exact h.1 i q hi
    · rw [List.getElem?_append_right (by omega)] at hi
      have := h.2 (i - xs.length) q hi
      rw [show p + xs.length + (i - xs.length) = p + i by omega] at this
      exact this
theorem Wsg.one {M : Mem} {a p : Nat} {x : Wtr} : Wsg M a p [x] ↔ (mI M 121 (150 + 44 * a + 2 * p) = nI x.1 ∧ mI M 121 (151 + 44 * a + 2 * p) = x.2) := by
  constructor
  · intro h
    exact h 0 x rfl
  · intro h i q hi
    cases i with
    | zero => simp at hi; subst hi; exact h
    | succ i => simp at hi
theorem Wsg.cg {M M' : Mem} {a p : Nat} {xs : List Wtr} (h : Wsg M a p xs) (e : ∀ b, 150 + 44 * a + 2 * p ≤ b → b < 150 + 44 * a + 2 * (p + xs.length) → mI M' 121 b = mI M 121 b) : Wsg M' a p xs := by
  intro i q hi
  have hl := (List.getElem?_eq_some_iff.mp hi).1
  rw [e _ (by omega) (by omega), e _ (by omega) (by omega)]
  exact h i q hi
/-- RV behind a change of who waits at a -/
theorem RV.wst {M M' : Mem} {tw : Bool} {t : Int32} {S : St} {pb pt : List Row4} (h : RV M tw t S pb pt) {a : Nat} (ha : a < 16) {ws : List Wtr} (f : FrW a M M') (h1 : mI M' 121 (149 + 44 * a) = nI ws.length) (h2 : ws.length ≤ 20) (h3 : Wsg M' a 0 ws) (h4 : ∀ b, 150 + 44 * a + 2 * ws.length ≤ b → b < 190 + 44 * a → mI M' 121 b = 0) : RV M' tw t (uW S a ws) pb pt := by
  obtain ⟨hS, ht, hA, hw, hl, hb1, hb2⟩ := h
  refine ⟨hS.e f.1, (f.2.1 120 (by decide) 3).trans ht, fun k i hv => ?_, fun c hc => ?_, ⟨?_, hl.2.1, hl.2.2.cg fun j _ hj => ⟨?_, ?_⟩⟩, hb1.cg ?_ (fun b _ _ => ?_), hb2.cg ?_ (fun b _ _ => ?_)⟩
  · rw [f.2.2.2 _ ?_]
    · exact hA k i hv
    · have q : ∀ j, j < 41 → ad k i ≠ 149 + 44 * a + j := fun j hj => ad_w hv ha hj
      have q1 := q (ad k i - (149 + 44 * a))
      omega
  · rw [xW_uW]
    by_cases e : c = a
    · subst e
      rw [if_pos rfl]
      refine ⟨h1, h2, fun i q hi => ?_, fun i hi hj => ⟨h4 _ (by omega) (by omega), h4 _ (by omega) (by omega)⟩⟩
      have := h3 i q hi
      rw [Nat.zero_add] at this
      exact this
    · rw [if_neg e]
      obtain ⟨g1, g2, g3, g4⟩ := hw c hc
      refine ⟨?_, g2, fun i q hi => ?_, fun i hi hj => ?_⟩
      · rw [f.2.2.2 _ (by omega)]; exact g1
      · have hl := (List.getElem?_eq_some_iff.mp hi).1
        rw [f.2.2.2 _ (by omega), f.2.2.2 _ (by omega)]; exact g3 i q hi
      · rw [f.2.2.2 _ (by omega), f.2.2.2 _ (by omega)]; exact g4 i hi hj
  · rw [f.2.2.2 _ (by omega)]; exact hl.1
  · have := hl.2.1
    exact f.2.2.2 _ (by omega)
  · exact f.2.1 123 (by decide) _
  · exact f.2.2.2 _ (by omega)
  · exact f.2.2.2 _ (by omega)
  · exact f.2.2.2 _ (by omega)
  · exact f.2.2.2 _ (by omega)
set_option maxHeartbeats 1000000 in
theorem come_l {a v : Nat} {s : Int32} (ha : a < 16) (p : List Wtr) (hp : ∀ x, x ∈ p → ahd s (nI v) x.2 (nI x.1) = false) : ∀ (d : Nat) (q rest : List Wtr) (M : Mem) (n : Nat), q.length = d → (∀ x, x ∈ q → ahd s (nI v) x.2 (nI x.1) = true) → p.length + d + rest.length < 20 → RK M 120 121 → Wsg M a 0 (p ++ q) → Wsg M a (p.length + d + 1) rest → d + 1 ≤ n → ∃ n' M1, f_X10_comeWaiting_8 n 120 (nI a) (nI v) s (nI (p.length + d)) M = f_X10_comeWaiting_87 n' 120 (nI a) (nI v) s (nI p.length) M1 ∧ Wsg M1 a 0 p ∧ Wsg M1 a (p.length + 1) (q ++ rest) ∧ FrW a M M1 ∧ mI M1 121 (149 + 44 * a) = mI M 121 (149 + 44 * a) ∧ (∀ b, 150 + 44 * a + 2 * (p.length + d + 1) ≤ b → mI M1 121 b = mI M 121 b) := by
  intro d
  induction d with
  | zero =>
    intro q rest M n hq hlt hlen hK h1 h2 hn
    have hq0 : q = [] := List.eq_nil_of_length_eq_zero hq
    subst hq0
    obtain ⟨n, rfl⟩ : ∃ m, n = m + 1 := ⟨n - 1, by omega⟩
    refine ⟨n, M, ?_, by simpa using h1, by simpa using h2, FrW.rf a M, rfl, fun _ _ => rfl⟩
    rw [f_X10_comeWaiting_8, Nat.add_zero]
    rcases nil_app p with rfl | ⟨p', z, rfl⟩
    · rw [if_pos (show nI ([] : List Wtr).length ≤ 0 from nI_le (Nat.le_refl 0) (by decide))]
    · have hz := hp z (by simp)
      have hg := h1 p'.length z (by simp)
      rw [Nat.zero_add] at hg
      have hk : (p' ++ [z]).length = p'.length + 1 := by simp
      rw [hk] at hlen ⊢
      rw [if_neg (by rw [show (0 : Int32) = nI 0 from rfl]; exact nI_ge (by omega) (by omega)), chk_t hK.1, nI_pred, ws_K hK ha (by omega), obd_s, wn_K hK ha (by omega), obd_s, hg.1, hg.2, f_ah10, obd_s, hz, if_pos (by rfl)]
  | succ d ih =>
    intro q rest M n hq hlt hlen hK h1 h2 hn
    obtain ⟨n, rfl⟩ : ∃ m, n = m + 1 := ⟨n - 1, by omega⟩
    rcases nil_app q with rfl | ⟨q', z, rfl⟩
    · simp at hq
    have hq' : q'.length = d := by simpa using hq
    have hz := hlt z (by simp)
    have hg := h1 (p.length + d) z (by rw [List.getElem?_append_right (by omega)]; simp [hq'])
    rw [Nat.zero_add] at hg
    have e2 : nI (p.length + (d + 1)) - (1 : Int32) = nI (p.length + d) := by rw [show p.length + (d + 1) = (p.length + d) + 1 by omega, nI_pred]
    have e3 : nI (p.length + (d + 1)) + (-1 : Int32) = nI (p.length + d) := by rw [show p.length + (d + 1) = (p.length + d) + 1 by omega, pk_m1]
    generalize hMa : sI M 121 (150 + 44 * a + 2 * (p.length + (d + 1))) (nI z.1) = Ma
    generalize hMb : sI Ma 121 (151 + 44 * a + 2 * (p.length + (d + 1))) z.2 = Mb
    have hKa : RK Ma 120 121 := by subst hMa; exact hK
    have hKb : RK Mb 120 121 := by subst hMb; exact hKa
    have m1 : ∀ b, b ≠ 150 + 44 * a + 2 * (p.length + (d + 1)) → b ≠ 151 + 44 * a + 2 * (p.length + (d + 1)) → mI Mb 121 b = mI M 121 b := by
      intro b hb1 hb2
      rw [← hMb, mI_n _ _ _ _ hb2, ← hMa, mI_n _ _ _ _ hb1]
    have fa : FrW a M Mb := by
      refine FrW.tr (M' := Ma) ?_ ?_
      · rw [← hMa]; exact FrW.s (by omega) (by omega)
      · rw [← hMb]; exact FrW.s (by omega) (by omega)
    have s1 : Wsg Mb a 0 (p ++ q') := by
      have : Wsg M a 0 ((p ++ q') ++ [z]) := by simpa using h1
      refine (Wsg.ap.mp this).1.cg fun b _ hb => ?_
      simp only [List.length_append, hq'] at hb
      exact m1 _ (by omega) (by omega)
    have s2 : Wsg Mb a (p.length + d + 1) (z :: rest) := by
      rw [show z :: rest = [z] ++ rest from rfl, Wsg.ap]
      refine ⟨Wsg.one.mpr ⟨?_, ?_⟩, ?_⟩
      · rw [← hMb, mI_n _ _ _ _ (by omega), ← hMa, show 150 + 44 * a + 2 * (p.length + d + 1) = 150 + 44 * a + 2 * (p.length + (d + 1)) by omega, mI_s]
      · rw [← hMb, show 151 + 44 * a + 2 * (p.length + d + 1) = 151 + 44 * a + 2 * (p.length + (d + 1)) by omega, mI_s]
      · have h3 : Wsg M a (p.length + (d + 1) + 1) rest := h2
        rw [show p.length + d + 1 + [z].length = p.length + (d + 1) + 1 by simp; omega]
        exact h3.cg fun b h5 _ => m1 _ (by omega) (by omega)
    obtain ⟨n', M1, i1, i2, i3, i4, i5, i6⟩ := ih q' (z :: rest) Mb n hq' (fun x hx => hlt x (by simp [hx])) (by simp; omega) hKb s1 s2 (by omega)
    refine ⟨n', M1, ?_, i2, by simpa using i3, FrW.tr fa i4, i5.trans (m1 _ (by omega) (by omega)), fun b hb => (i6 b (by omega)).trans (m1 b (by omega) (by omega))⟩
    have e5 : mI Ma 121 (151 + 44 * a + 2 * (p.length + d)) = z.2 := by rw [← hMa, mI_n _ _ _ _ (by omega)]; exact hg.2
    rw [← i1, f_X10_comeWaiting_8, if_neg (by rw [show (0 : Int32) = nI 0 from rfl]; exact nI_ge (by omega) (by omega)), chk_t hK.1, e2, ws_K hK ha (by omega), obd_s, wn_K hK ha (by omega), obd_s, hg.1, hg.2, f_ah10, obd_s, hz, if_neg (by decide), obd_s, pn_K hK ha (by omega), obd_s, hMa, chk_t hKa.1, ws_K hKa ha (by omega), obd_s, e5, ps_K hKa ha (by omega), obd_s, hMb, e3, bnd_e]
/-- one comes waiting: between p and q -/
theorem RV.come {M : Mem} {tw : Bool} {t : Int32} {S : St} {pb pt : List Row4} (h : RV M tw t S pb pt) {a v : Nat} {s : Int32} (ha : a < 16) {p q : List Wtr} (hw : xW S a = p ++ q) (hp : ∀ x, x ∈ p → ahd s (nI v) x.2 (nI x.1) = false) (hq : ∀ x, x ∈ q → ahd s (nI v) x.2 (nI x.1) = true) (hl : (xW S a).length < 20) {n : Nat} (hn : 30 ≤ n) : ∃ M', f_X10_comeWaiting n 120 (nI a) (nI v) s M = some M' ∧ RV M' tw t (uW S a (p ++ (v, s) :: q)) pb pt ∧ FrW a M M' := by
  have hW := h.2.2.2.1 a ha
  have hlen : p.length + q.length = (xW S a).length := by rw [hw, List.length_append]
  have hseg : Wsg M a 0 (p ++ q) := by
    rw [← hw]
    intro i z hi
    rw [Nat.zero_add]
    exact hW.2.2.1 i z hi
  obtain ⟨n', M1, i1, i2, i3, i4, i5, i6⟩ := come_l (v := v) (s := s) ha p hp q.length q [] M n rfl hq (by simp; omega) h.toRK hseg (Wsg.nil _ _ _) (by omega)
  rw [List.append_nil] at i3
  have hK1 : RK M1 120 121 := (h.1.e i4.1).toRK
  generalize hMa : sI M1 121 (150 + 44 * a + 2 * p.length) (nI v) = Ma
  generalize hMb : sI Ma 121 (151 + 44 * a + 2 * p.length) s = Mb
  generalize hMc : sI Mb 121 (149 + 44 * a) (nI ((xW S a).length + 1)) = Mc
  have hKa : RK Ma 120 121 := by subst hMa; exact hK1
  have hKb : RK Mb 120 121 := by subst hMb; exact hKa
  have m1 : ∀ b, b ≠ 150 + 44 * a + 2 * p.length → b ≠ 151 + 44 * a + 2 * p.length → b ≠ 149 + 44 * a → mI Mc 121 b = mI M1 121 b := by
    intro b hb1 hb2 hb3
    rw [← hMc, mI_n _ _ _ _ hb3, ← hMb, mI_n _ _ _ _ hb2, ← hMa, mI_n _ _ _ _ hb1]
  have e3 : mI Mb 121 (149 + 44 * a) = nI (xW S a).length := by
    rw [← hMb, mI_n _ _ _ _ (by omega), ← hMa, mI_n _ _ _ _ (by omega), i5]; exact hW.1
  have fr : FrW a M Mc := by
    refine FrW.tr i4 (FrW.tr (M' := Ma) ?_ (FrW.tr (M' := Mb) ?_ ?_))
    · rw [← hMa]; exact FrW.s (by omega) (by omega)
    · rw [← hMb]; exact FrW.s (by omega) (by omega)
    · rw [← hMc]; exact FrW.s (by omega) (by omega)
  have hl2 : (p ++ (v, s) :: q).length = (xW S a).length + 1 := by simp; omega
  refine ⟨Mc, ?_, h.wst ha fr ?_ (by omega) ?_ (fun b hb1 hb2 => ?_), fr⟩
  · have o3 := f_of (w := 3) hKb ha (by decide)
    have p3 := f_put (w := 3) (x := nI ((xW S a).length + 1)) hKb ha (by decide)
    rw [show (nI 3) = (3 : Int32) from rfl] at o3 p3
    rw [f_X10_comeWaiting, rs_f h.1, h.of3 ha, obd_s, ← hlen, i1, f_X10_comeWaiting_87, chk_t hK1.1, pn_K hK1 ha (by omega), obd_s, hMa, chk_t hKa.1, ps_K hKa ha (by omega), obd_s, hMb, chk_t hKb.1, o3, obd_s, show 146 + 44 * a + 3 = 149 + 44 * a by omega, e3, nI_1, p3, obd_s, show 146 + 44 * a + 3 = 149 + 44 * a by omega, hMc]
  · rw [hl2, ← hMc, mI_s]
  · rw [show p ++ (v, s) :: q = p ++ ([(v, s)] ++ q) by simp, Wsg.ap, Wsg.ap, Wsg.one]
    refine ⟨i2.cg fun b h5 h6 => m1 _ (by omega) (by omega) (by omega), ⟨?_, ?_⟩, ?_⟩
    · rw [Nat.zero_add, ← hMc, mI_n _ _ _ _ (by omega), ← hMb, mI_n _ _ _ _ (by omega), ← hMa, mI_s]
    · rw [Nat.zero_add, ← hMc, mI_n _ _ _ _ (by omega), ← hMb, mI_s]
    · rw [Nat.zero_add, List.length_singleton]
      exact i3.cg fun b h5 h6 => m1 _ (by omega) (by omega) (by omega)
  · rw [hl2] at hb1
    rw [m1 _ (by omega) (by omega) (by omega), i6 _ (by omega)]
    have hz := hW.2.2.2 ((b - (150 + 44 * a)) / 2) (by omega) (by omega)
    rcases Nat.mod_two_eq_zero_or_one (b - (150 + 44 * a)) with e | e
    · have : b = 150 + 44 * a + 2 * ((b - (150 + 44 * a)) / 2) := by omega
      rw [this]; exact hz.1
    · have : b = 151 + 44 * a + 2 * ((b - (150 + 44 * a)) / 2) := by omega
      rw [this]; exact hz.2
