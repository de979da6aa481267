/-! ===== who waits at an arbiter of the reference ===== -/
theorem c42 (i : Nat) : (4 : Int32) + ((2 : Int32) * nI i) = nI (4 + 2 * i) := by rw [show (4 : Int32) = nI 4 from rfl, show (2 : Int32) = nI 2 from rfl, pk_mul, nI_add]
theorem RV.wn {M : Mem} {tw : Bool} {t : Int32} {S : St} {pb pt : List Row4} (h : RV M tw t S pb pt) {a i : Nat} (ha : a < 16) (hi : i < 20) : f_X10_waitNode 120 (nI a) (nI i) M = some (mI M 121 (150 + 44 * a + 2 * i)) := by
  rw [f_X10_waitNode, rs_f h.1, c42, f_of h.toRK ha (by omega), obd_s]
  congr 2
  omega
theorem RV.ws {M : Mem} {tw : Bool} {t : Int32} {S : St} {pb pt : List Row4} (h : RV M tw t S pb pt) {a i : Nat} (ha : a < 16) (hi : i < 20) : f_X10_waitStamp 120 (nI a) (nI i) M = some (mI M 121 (151 + 44 * a + 2 * i)) := by
  rw [f_X10_waitStamp, rs_f h.1, c42, nI_1, f_of h.toRK ha (by omega), obd_s]
  congr 2
  omega
theorem wn_K {M : Mem} (h : RK M 120 121) {a i : Nat} (ha : a < 16) (hi : i < 20) : f_X10_waitNode 120 (nI a) (nI i) M = some (mI M 121 (150 + 44 * a + 2 * i)) := by
  rw [f_X10_waitNode, chk_t h.1, c42, f_of h ha (by omega), obd_s]
  congr 2
  omega
theorem ws_K {M : Mem} (h : RK M 120 121) {a i : Nat} (ha : a < 16) (hi : i < 20) : f_X10_waitStamp 120 (nI a) (nI i) M = some (mI M 121 (151 + 44 * a + 2 * i)) := by
  rw [f_X10_waitStamp, chk_t h.1, c42, nI_1, f_of h ha (by omega), obd_s]
  congr 2
  omega
theorem pn_K {M : Mem} (h : RK M 120 121) {a i : Nat} {x : Int32} (ha : a < 16) (hi : i < 20) : f_X10_put 120 (nI a) ((4 : Int32) + ((2 : Int32) * nI i)) x M = some (sI M 121 (150 + 44 * a + 2 * i) x) := by
  rw [c42, f_put h ha (by omega)]
  congr 2
  omega
theorem ps_K {M : Mem} (h : RK M 120 121) {a i : Nat} {x : Int32} (ha : a < 16) (hi : i < 20) : f_X10_put 120 (nI a) (((4 : Int32) + ((2 : Int32) * nI i)) + (1 : Int32)) x M = some (sI M 121 (151 + 44 * a + 2 * i) x) := by
  rw [c42, nI_1, f_put h ha (by omega)]
  congr 2
  omega
/-- the cells of who waits at a alone have changed (149 + 44 a .. 189 + 44 a) -/
def FrW (a : Nat) (M M' : Mem) : Prop := M'.1 = M.1 ∧ (∀ o, o ≠ 121 → ∀ k, mI M' o k = mI M o k) ∧ (∀ o k, mL M' o k = mL M o k) ∧ (∀ b, b < 149 + 44 * a ∨ 190 + 44 * a ≤ b → mI M' 121 b = mI M 121 b)
theorem FrW.rf (a : Nat) (M : Mem) : FrW a M M := ⟨rfl, fun _ _ _ => rfl, fun _ _ => rfl, fun _ _ => rfl⟩
theorem FrW.tr {a : Nat} {M M' M'' : Mem} (h : FrW a M M') (h' : FrW a M' M'') : FrW a M M'' :=
  ⟨h'.1.trans h.1, fun o q1 k => (h'.2.1 o q1 k).trans (h.2.1 o q1 k), fun o k => (h'.2.2.1 o k).trans (h.2.2.1 o k), fun b q => (h'.2.2.2 b q).trans (h.2.2.2 b q)⟩
theorem FrW.s {a b : Nat} {M : Mem} {x : Int32} (h1 : 149 + 44 * a ≤ b) (h2 : b < 190 + 44 * a) : FrW a M (sI M 121 b x) :=
  ⟨rfl, fun o q k => mI_o _ _ _ _ _ q, fun _ _ => rfl, fun c hc => mI_n _ _ _ _ (by omega)⟩
theorem FrW.toFr {a : Nat} {M M' : Mem} (h : FrW a M M') : Fr PA M M' :=
  ⟨h.1, fun o q k => h.2.1 o (fun e => q (e ▸ ⟨by decide, by decide⟩)) k, fun o k => h.2.2.1 o k⟩
def Wsg (M : Mem) (a p : Nat) (xs : List Wtr) : Prop := ∀ i q, xs[i]? = some q → mI M 121 (150 + 44 * a + 2 * (p + i)) = nI q.1 ∧ mI M 121 (151 + 44 * a + 2 * (p + i)) = q.2
theorem Wsg.nil (M : Mem) (a p : Nat) : Wsg M a p [] := fun i q h => by simp at h
theorem Wsg.ap {M : Mem} {a p : Nat} {xs ys : List Wtr} : Wsg M a p (xs ++ ys) ↔ Wsg M a p xs ∧ Wsg M a (p + xs.length) ys := by
  constructor
  · intro h
    refine ⟨fun i q hi => h i q ?_, fun i q hi => ?_⟩
    · rw [List.getElem?_append_left (List.getElem?_eq_some_iff.mp hi).1, hi]
    · have := h (xs.length + i) q (by rw [List.getElem?_append_right (by omega), Nat.add_sub_cancel_left, hi])
      rw [show p + xs.length + i = p + (xs.length + i) by omega]
      exact this
  · intro h i q hi
    by_cases hlt : i < xs.length
    · rw [List.getElem?_append_left hlt] at hi
      exact h.1 i q hi
    · rw [List.getElem?_append_right (by omega)] at hi
      have := h.2 (i - xs.length) q hi
      rw [show p + xs.length + (i - xs.length) = p + i by omega] at this
      exact this
theorem Wsg.one {M : Mem} {a p : Nat} {x : Wtr} : Wsg M a p [x] ↔ (mI M 121 (150 + 44 * a + 2 * p) = nI x.1 ∧ mI M 121 (151 + 44 * a + 2 * p) = x.2) := by
  constructor
  · intro h
    exact h 0 x rfl
  · intro h i q hi
    cases i with
    | zero => simp at hi; subst hi; exact h
    | succ i => simp at hi
theorem Wsg.cg {M M' : Mem} {a p : Nat} {xs : List Wtr} (h : Wsg M a p xs) (e : ∀ b, 150 + 44 * a + 2 * p ≤ b → b < 150 + 44 * a + 2 * (p + xs.length) → mI M' 121 b = mI M 121 b) : Wsg M' a p xs := by
  intro i q hi
  have hl := (List.getElem?_eq_some_iff.mp hi).1
  rw [e _ (by omega) (by omega), e _ (by omega) (by omega)]
  exact h i q hi
/-- RV behind a change of who waits at a -/
theorem RV.wst {M M' : Mem} {tw : Bool} {t : Int32} {S : St} {pb pt : List Row4} (h : RV M tw t S pb pt) {a : Nat} (ha : a < 16) {ws : List Wtr} (f : FrW a M M') (h1 : mI M' 121 (149 + 44 * a) = nI ws.length) (h2 : ws.length ≤ 20) (h3 : Wsg M' a 0 ws) (h4 : ∀ b, 150 + 44 * a + 2 * ws.length ≤ b → b < 190 + 44 * a → mI M' 121 b = 0) : RV M' tw t (uW S a ws) pb pt := by
  obtain ⟨hS, ht, hA, hw, hl, hb1, hb2⟩ := h
  refine ⟨hS.e f.1, (f.2.1 120 (by decide) 3).trans ht, fun k i hv => ?_, fun c hc => ?_, ⟨?_, hl.2.1, hl.2.2.cg fun j _ hj => ⟨?_, ?_⟩⟩, hb1.cg ?_ (fun b _ _ => ?_), hb2.cg ?_ (fun b _ _ => ?_)⟩
  · rw [f.2.2.2 _ ?_]
    · exact hA k i hv
    · have q : ∀ j, j < 41 → ad k i ≠ 149 + 44 * a + j := fun j hj => ad_w hv ha hj
      have q1 := q (ad k i - (149 + 44 * a))
      omega
  · rw [xW_uW]
    by_cases e : c = a
    · subst e
      rw [if_pos rfl]
      refine ⟨h1, h2, fun i q hi => ?_, fun i hi hj => ⟨h4 _ (by omega) (by omega), h4 _ (by omega) (by omega)⟩⟩
      have := h3 i q hi
      rw [Nat.zero_add] at this
      exact this
    · rw [if_neg e]
      obtain ⟨g1, g2, g3, g4⟩ := hw c hc
      refine ⟨?_, g2, fun i q hi => ?_, fun i hi hj => ?_⟩
      · rw [f.2.2.2 _ (by omega)]; exact g1
      · have hl := (List.getElem?_eq_some_iff.mp hi).1
        rw [f.2.2.2 _ (by omega), f.2.2.2 _ (by omega)]; exact g3 i q hi
      · rw [f.2.2.2 _ (by omega), f.2.2.2 _ (by omega)]; exact g4 i hi hj
  · rw [f.2.2.2 _ (by omega)]; exact hl.1
  · have := hl.2.1
    exact f.2.2.2 _ (by omega)
  · exact f.2.1 123 (by decide) _
  · exact f.2.2.2 _ (by omega)
  · exact f.2.2.2 _ (by omega)
  · exact f.2.2.2 _ (by omega)
  · exact f.2.2.2 _ (by omega)
set_option maxHeartbeats 1000000 in
theorem come_l {a v : Nat} {s : Int32} (ha : a < 16) (p : List Wtr) (hp : ∀ x, x ∈ p → ahd s (nI v) x.2 (nI x.1) = false) : ∀ (d : Nat) (q rest : List Wtr) (M : Mem) (n : Nat), q.length = d → (∀ x, x ∈ q → ahd s (nI v) x.2 (nI x.1) = true) → p.length + d + rest.length < 20 → RK M 120 121 → Wsg M a 0 (p ++ q) → Wsg M a (p.length + d + 1) rest → d + 1 ≤ n → ∃ n' M1, f_X10_comeWaiting_8 n 120 (nI a) (nI v) s (nI (p.length + d)) M = f_X10_comeWaiting_87 n' 120 (nI a) (nI v) s (nI p.length) M1 ∧ Wsg M1 a 0 p ∧ Wsg M1 a (p.length + 1) (q ++ rest) ∧ FrW a M M1 ∧ mI M1 121 (149 + 44 * a) = mI M 121 (149 + 44 * a) ∧ (∀ b, 150 + 44 * a + 2 * (p.length + d + 1) ≤ b → mI M1 121 b = mI M 121 b) := by
  intro d
  induction d with
  | zero =>
    intro q rest M n hq hlt hlen hK h1 h2 hn
    have hq0 : q = [] := List.eq_nil_of_length_eq_zero hq
    subst hq0
    obtain ⟨n, rfl⟩ : ∃ m, n = m + 1 := ⟨n - 1, by omega⟩
    refine ⟨n, M, ?_, by simpa using h1, by simpa using h2, FrW.rf a M, rfl, fun _ _ => rfl⟩
    rw [f_X10_comeWaiting_8, Nat.add_zero]
    rcases nil_app p with rfl | ⟨p', z, rfl⟩
    · rw [if_pos (show nI ([] : List Wtr).length ≤ 0 from nI_le (Nat.le_refl 0) (by decide))]
    · have hz := hp z (by simp)
      have hg := h1 p'.length z (by simp)
      rw [Nat.zero_add] at hg
      have hk : (p' ++ [z]).length = p'.length + 1 := by simp
      rw [hk] at hlen ⊢
      rw [if_neg (by rw [show (0 : Int32) = nI 0 from rfl]; exact nI_ge (by omega) (by omega)), chk_t hK.1, nI_pred, ws_K hK ha (by omega), obd_s, wn_K hK ha (by omega), obd_s, hg.1, hg.2, f_ah10, obd_s, hz, if_pos (by rfl)]
  | succ d ih =>
    intro q rest M n hq hlt hlen hK h1 h2 hn
    obtain ⟨n, rfl⟩ : ∃ m, n = m + 1 := ⟨n - 1, by omega⟩
    rcases nil_app q with rfl | ⟨q', z, rfl⟩
    · simp at hq
    have hq' : q'.length = d := by simpa using hq
    have hz := hlt z (by simp)
    have hg := h1 (p.length + d) z (by rw [List.getElem?_append_right (by omega)]; simp [hq'])
    rw [Nat.zero_add] at hg
    have e2 : nI (p.length + (d + 1)) - (1 : Int32) = nI (p.length + d) := by rw [show p.length + (d + 1) = (p.length + d) + 1 by omega, nI_pred]
    have e3 : nI (p.length + (d + 1)) + (-1 : Int32) = nI (p.length + d) := by rw [show p.length + (d + 1) = (p.length + d) + 1 by omega, pk_m1]
    generalize hMa : sI M 121 (150 + 44 * a + 2 * (p.length + (d + 1))) (nI z.1) = Ma
    generalize hMb : sI Ma 121 (151 + 44 * a + 2 * (p.length + (d + 1))) z.2 = Mb
    have hKa : RK Ma 120 121 := by subst hMa; exact hK
    have hKb : RK Mb 120 121 := by subst hMb; exact hKa
    have m1 : ∀ b, b ≠ 150 + 44 * a + 2 * (p.length + (d + 1)) → b ≠ 151 + 44 * a + 2 * (p.length + (d + 1)) → mI Mb 121 b = mI M 121 b := by
      intro b hb1 hb2
      rw [← hMb, mI_n _ _ _ _ hb2, ← hMa, mI_n _ _ _ _ hb1]
    have fa : FrW a M Mb := by
      refine FrW.tr (M' := Ma) ?_ ?_
      · rw [← hMa]; exact FrW.s (by omega) (by omega)
      · rw [← hMb]; exact FrW.s (by omega) (by omega)
    have s1 : Wsg Mb a 0 (p ++ q') := by
      have : Wsg M a 0 ((p ++ q') ++ [z]) := by simpa using h1
      refine (Wsg.ap.mp this).1.cg fun b _ hb => ?_
      simp only [List.length_append, hq'] at hb
      exact m1 _ (by omega) (by omega)
    have s2 : Wsg Mb a (p.length + d + 1) (z :: rest) := by
      rw [show z :: rest = [z] ++ rest from rfl, Wsg.ap]
      refine ⟨Wsg.one.mpr ⟨?_, ?_⟩, ?_⟩
      · rw [← hMb, mI_n _ _ _ _ (by omega), ← hMa, show 150 + 44 * a + 2 * (p.length + d + 1) = 150 + 44 * a + 2 * (p.length + (d + 1)) by omega, mI_s]
      · rw [← hMb, show 151 + 44 * a + 2 * (p.length + d + 1) = 151 + 44 * a + 2 * (p.length + (d + 1)) by omega, mI_s]
      · have h3 : Wsg M a (p.length + (d + 1) + 1) rest := h2
        rw [show p.length + d + 1 + [z].length = p.length + (d + 1) + 1 by simp; omega]
        exact h3.cg fun b h5 _ => m1 _ (by omega) (by omega)
    obtain ⟨n', M1, i1, i2, i3, i4, i5, i6⟩ := ih q' (z :: rest) Mb n hq' (fun x hx => hlt x (by simp [hx])) (by simp; omega) hKb s1 s2 (by omega)
    refine ⟨n', M1, ?_, i2, by simpa using i3, FrW.tr fa i4, i5.trans (m1 _ (by omega) (by omega)), fun b hb => (i6 b (by omega)).trans (m1 b (by omega) (by omega))⟩
    have e5 : mI Ma 121 (151 + 44 * a + 2 * (p.length + d)) = z.2 := by rw [← hMa, mI_n _ _ _ _ (by omega)]; exact hg.2
    rw [← i1, f_X10_comeWaiting_8, if_neg (by rw [show (0 : Int32) = nI 0 from rfl]; exact nI_ge (by omega) (by omega)), chk_t hK.1, e2, ws_K hK ha (by omega), obd_s, wn_K hK ha (by omega), obd_s, hg.1, hg.2, f_ah10, obd_s, hz, if_neg (by decide), obd_s, pn_K hK ha (by omega), obd_s, hMa, chk_t hKa.1, ws_K hKa ha (by omega), obd_s, e5, ps_K hKa ha (by omega), obd_s, hMb, e3, bnd_e]
/-- one comes waiting: between p and q -/
theorem RV.come {M : Mem} {tw : Bool} {t : Int32} {S : St} {pb pt : List Row4} (h : RV M tw t S pb pt) {a v : Nat} {s : Int32} (ha : a < 16) {p q : List Wtr} (hw : xW S a = p ++ q) (hp : ∀ x, x ∈ p → ahd s (nI v) x.2 (nI x.1) = false) (hq : ∀ x, x ∈ q → ahd s (nI v) x.2 (nI x.1) = true) (hl : (xW S a).length < 20) {n : Nat} (hn : 30 ≤ n) : ∃ M', f_X10_comeWaiting n 120 (nI a) (nI v) s M = some M' ∧ RV M' tw t (uW S a (p ++ (v, s) :: q)) pb pt ∧ FrW a M M' := by
  have hW := h.2.2.2.1 a ha
  have hlen : p.length + q.length = (xW S a).length := by rw [hw, List.length_append]
  have hseg : Wsg M a 0 (p ++ q) := by
    rw [← hw]
    intro i z hi
    rw [Nat.zero_add]
    exact hW.2.2.1 i z hi
  obtain ⟨n', M1, i1, i2, i3, i4, i5, i6⟩ := come_l (v := v) (s := s) ha p hp q.length q [] M n rfl hq (by simp; omega) h.toRK hseg (Wsg.nil _ _ _) (by omega)
  rw [List.append_nil] at i3
  have hK1 : RK M1 120 121 := (h.1.e i4.1).toRK
  generalize hMa : sI M1 121 (150 + 44 * a + 2 * p.length) (nI v) = Ma
  generalize hMb : sI Ma 121 (151 + 44 * a + 2 * p.length) s = Mb
  generalize hMc : sI Mb 121 (149 + 44 * a) (nI ((xW S a).length + 1)) = Mc
  have hKa : RK Ma 120 121 := by subst hMa; exact hK1
  have hKb : RK Mb 120 121 := by subst hMb; exact hKa
  have m1 : ∀ b, b ≠ 150 + 44 * a + 2 * p.length → b ≠ 151 + 44 * a + 2 * p.length → b ≠ 149 + 44 * a → mI Mc 121 b = mI M1 121 b := by
    intro b hb1 hb2 hb3
    rw [← hMc, mI_n _ _ _ _ hb3, ← hMb, mI_n _ _ _ _ hb2, ← hMa, mI_n _ _ _ _ hb1]
  have e3 : mI Mb 121 (149 + 44 * a) = nI (xW S a).length := by
    rw [← hMb, mI_n _ _ _ _ (by omega), ← hMa, mI_n _ _ _ _ (by omega), i5]; exact hW.1
  have fr : FrW a M Mc := by
    refine FrW.tr i4 (FrW.tr (M' := Ma) ?_ (FrW.tr (M' := Mb) ?_ ?_))
    · rw [← hMa]; exact FrW.s (by omega) (by omega)
    · rw [← hMb]; exact FrW.s (by omega) (by omega)
    · rw [← hMc]; exact FrW.s (by omega) (by omega)
  have hl2 : (p ++ (v, s) :: q).length = (xW S a).length + 1 := by simp; omega
  refine ⟨Mc, ?_, h.wst ha fr ?_ (by omega) ?_ (fun b hb1 hb2 => ?_), fr⟩
  · have o3 := f_of (w := 3) hKb ha (by decide)
    have p3 := f_put (w := 3) (x := nI ((xW S a).length + 1)) hKb ha (by decide)
    rw [show (nI 3) = (3 : Int32) from rfl] at o3 p3
    rw [f_X10_comeWaiting, rs_f h.1, h.of3 ha, obd_s, ← hlen, i1, f_X10_comeWaiting_87, chk_t hK1.1, pn_K hK1 ha (by omega), obd_s, hMa, chk_t hKa.1, ps_K hKa ha (by omega), obd_s, hMb, chk_t hKb.1, o3, obd_s, show 146 + 44 * a + 3 = 149 + 44 * a by omega, e3, nI_1, p3, obd_s, show 146 + 44 * a + 3 = 149 + 44 * a by omega, hMc]
  · rw [hl2, ← hMc, mI_s]
  · rw [show p ++ (v, s) :: q = p ++ ([(v, s)] ++ q) by simp, Wsg.ap, Wsg.ap, Wsg.one]
    refine ⟨i2.cg fun b h5 h6 => m1 _ (by omega) (by omega) (by omega), ⟨?_, ?_⟩, ?_⟩
    · rw [Nat.zero_add, ← hMc, mI_n _ _ _ _ (by omega), ← hMb, mI_n _ _ _ _ (by omega), ← hMa, mI_s]
    · rw [Nat.zero_add, ← hMc, mI_n _ _ _ _ (by omega), ← hMb, mI_s]
    · rw [Nat.zero_add, List.length_singleton]
      exact i3.cg fun b h5 h6 => m1 _ (by omega) (by omega) (by omega)
  · rw [hl2] at hb1
    rw [m1 _ (by omega) (by omega) (by omega), i6 _ (by omega)]
    have hz := hW.2.2.2 ((b - (150 + 44 * a)) / 2) (by omega) (by omega)
    rcases Nat.mod_two_eq_zero_or_one (b - (150 + 44 * a)) with e | e
    · have : b = 150 + 44 * a + 2 * ((b - (150 + 44 * a)) / 2) := by omega
      rw [this]; exact hz.1
    · have : b = 151 + 44 * a + 2 * ((b - (150 + 44 * a)) / 2) := by omega
      rw [this]; exact hz.2
/-! ===== one goes from those that wait; the first one is granted ===== -/
theorem c4n (j : Nat) : (4 : Int32) + nI j = nI (4 + j) := by rw [show (4 : Int32) = nI 4 from rfl, nI_add]
theorem c4n2 (j : Nat) : ((4 : Int32) + nI j) + (2 : Int32) = nI (6 + j) := by rw [c4n, show (2 : Int32) = nI 2 from rfl, nI_add]; congr 1; omega
theorem c2n (j : Nat) : (2 : Int32) * nI j = nI (2 * j) := by rw [show (2 : Int32) = nI 2 from rfl, pk_mul]
set_option maxHeartbeats 1000000 in
theorem go_l {a m : Nat} (ha : a < 16) (hm : m < 20) : ∀ (d k : Nat) (M : Mem) (n : Nat), k + d = 2 * m → RK M 120 121 → d + 1 ≤ n → ∃ M1, f_X10_goWaiting_14 n 120 (nI a) (nI m) (nI k) M = some M1 ∧ FrW a M M1 ∧ mI M1 121 (149 + 44 * a) = nI m ∧ (∀ j, j < 40 → mI M1 121 (150 + 44 * a + j) = if k ≤ j ∧ j < 2 * m then mI M 121 (150 + 44 * a + (j + 2)) else if j = 2 * m ∨ j = 2 * m + 1 then 0 else mI M 121 (150 + 44 * a + j)) := by
  intro d
  induction d with
  | zero =>
    intro k M n hk hK hn
    obtain ⟨n, rfl⟩ : ∃ m, n = m + 1 := ⟨n - 1, by omega⟩
    have hk2 : k = 2 * m := by omega
    subst hk2
    generalize hMa : sI M 121 (150 + 44 * a + 2 * m) 0 = Ma
    generalize hMb : sI Ma 121 (151 + 44 * a + 2 * m) 0 = Mb
    generalize hMc : sI Mb 121 (149 + 44 * a) (nI m) = Mc
    have hKa : RK Ma 120 121 := by subst hMa; exact hK
    have hKb : RK Mb 120 121 := by subst hMb; exact hKa
    have p3 := f_put (w := 3) (x := nI m) hKb ha (by decide)
    rw [show (nI 3) = (3 : Int32) from rfl, show 146 + 44 * a + 3 = 149 + 44 * a by omega, hMc] at p3
    refine ⟨Mc, ?_, ?_, ?_, fun j hj => ?_⟩
    · rw [f_X10_goWaiting_14, c2n, if_pos (nI_le (Nat.le_refl _) (by omega)), chk_t hK.1, ← c2n, pn_K hK ha hm, obd_s, hMa, chk_t hKa.1, ps_K hKa ha hm, obd_s, hMb, chk_t hKb.1, p3, obd_s]
    · refine FrW.tr (M' := Ma) ?_ (FrW.tr (M' := Mb) ?_ ?_)
      · rw [← hMa]; exact FrW.s (by omega) (by omega)
      · rw [← hMb]; exact FrW.s (by omega) (by omega)
      · rw [← hMc]; exact FrW.s (by omega) (by omega)
    · rw [← hMc, mI_s]
    · rw [if_neg (by omega), ← hMc, mI_n _ _ _ _ (by omega)]
      by_cases e : j = 2 * m
      · rw [if_pos (Or.inl e), ← hMb, mI_n _ _ _ _ (by omega), ← hMa, e, mI_s]
      · by_cases e2 : j = 2 * m + 1
        · rw [if_pos (Or.inr e2), ← hMb, e2, show 150 + 44 * a + (2 * m + 1) = 151 + 44 * a + 2 * m by omega, mI_s]
        · rw [if_neg (by omega), ← hMb, mI_n _ _ _ _ (by omega), ← hMa, mI_n _ _ _ _ (by omega)]
  | succ d ih =>
    intro k M n hk hK hn
    obtain ⟨n, rfl⟩ : ∃ m, n = m + 1 := ⟨n - 1, by omega⟩
    generalize hMa : sI M 121 (150 + 44 * a + k) (mI M 121 (150 + 44 * a + (k + 2))) = Ma
    have hKa : RK Ma 120 121 := by subst hMa; exact hK
    obtain ⟨M1, i1, i2, i3, i4⟩ := ih (k + 1) Ma n (by omega) hKa (by omega)
    have o1 := f_of (w := 6 + k) hK ha (by omega)
    have p1 := f_put (w := 4 + k) (x := mI M 121 (150 + 44 * a + (k + 2))) hK ha (by omega)
    rw [show 146 + 44 * a + (6 + k) = 150 + 44 * a + (k + 2) by omega] at o1
    rw [show 146 + 44 * a + (4 + k) = 150 + 44 * a + k by omega, hMa] at p1
    refine ⟨M1, ?_, FrW.tr ?_ i2, i3, fun j hj => ?_⟩
    · rw [← i1, f_X10_goWaiting_14, c2n, if_neg (nI_ge (by omega) (by omega)), chk_t hK.1, c4n2, o1, obd_s, c4n, p1, obd_s, nI_1, bnd_e]
    · rw [← hMa]; exact FrW.s (by omega) (by omega)
    · rw [i4 j hj]
      by_cases e : j = k
      · subst e
        rw [if_neg (by omega), if_neg (by omega), if_pos (by omega), ← hMa, mI_s]
      · have x1 : mI Ma 121 (150 + 44 * a + (j + 2)) = mI M 121 (150 + 44 * a + (j + 2)) ∨ j + 2 = k := by
          by_cases q : j + 2 = k
          · exact Or.inr q
          · exact Or.inl (by rw [← hMa, mI_n _ _ _ _ (by omega)])
        have x2 : mI Ma 121 (150 + 44 * a + j) = mI M 121 (150 + 44 * a + j) := by rw [← hMa, mI_n _ _ _ _ (by omega)]
        by_cases c1 : k + 1 ≤ j ∧ j < 2 * m
        · rw [if_pos c1, if_pos (by omega)]
          rcases x1 with x1 | x1
          · exact x1
          · omega
        · rw [if_neg c1, if_neg (show ¬ (k ≤ j ∧ j < 2 * m) by omega), x2]
/-- the i-th goes -/
theorem RV.go {M : Mem} {tw : Bool} {t : Int32} {S : St} {pb pt : List Row4} (h : RV M tw t S pb pt) {a : Nat} (ha : a < 16) {p q : List Wtr} {x : Wtr} (hw : xW S a = p ++ x :: q) {n : Nat} (hn : 50 ≤ n) : ∃ M', f_X10_goWaiting n 120 (nI a) (nI p.length) M = some M' ∧ RV M' tw t (uW S a (p ++ q)) pb pt ∧ FrW a M M' := by
  have hW := h.2.2.2.1 a ha
  have hlen : (xW S a).length = p.length + q.length + 1 := by rw [hw]; simp; omega
  have h20 := hW.2.1
  obtain ⟨M1, i1, i2, i3, i4⟩ := go_l (a := a) (m := p.length + q.length) ha (by omega) (2 * q.length) (2 * p.length) M n (by omega) h.toRK (by omega)
  refine ⟨M1, ?_, h.wst ha i2 ?_ (by simp; omega) (fun i z hi => ?_) (fun b hb1 hb2 => ?_), i2⟩
  · rw [f_X10_goWaiting, rs_f h.1, h.of3 ha, obd_s, hlen, nI_pred, bnd_e, c2n, bnd_e, i1]
  · rw [i3, List.length_append]
  · have hl := (List.getElem?_eq_some_iff.mp hi).1
    rw [List.length_append] at hl
    rw [Nat.zero_add]
    have y1 := i4 (2 * i) (by omega)
    have y2 := i4 (2 * i + 1) (by omega)
    rw [show 150 + 44 * a + (2 * i + 1) = 151 + 44 * a + 2 * i by omega] at y2
    by_cases c : i < p.length
    · rw [List.getElem?_append_left c] at hi
      have g := hW.2.2.1 i z (by rw [hw, List.getElem?_append_left c, hi])
      rw [y1, y2, if_neg (by omega), if_neg (by omega), if_neg (by omega), if_neg (by omega)]
      exact g
    · rw [List.getElem?_append_right (by omega)] at hi
      have g := hW.2.2.1 (i + 1) z (by rw [hw, List.getElem?_append_right (by omega), show i + 1 - p.length = (i - p.length) + 1 by omega, List.getElem?_cons_succ, hi])
      rw [y1, y2, if_pos (by omega), if_pos (by omega), show 150 + 44 * a + (2 * i + 2) = 150 + 44 * a + 2 * (i + 1) by omega, show 150 + 44 * a + (2 * i + 1 + 2) = 151 + 44 * a + 2 * (i + 1) by omega]
      exact g
  · rw [List.length_append] at hb1
    have y := i4 (b - (150 + 44 * a)) (by omega)
    rw [show 150 + 44 * a + (b - (150 + 44 * a)) = b by omega] at y
    rw [y, if_neg (by omega)]
    by_cases c : b - (150 + 44 * a) = 2 * (p.length + q.length) ∨ b - (150 + 44 * a) = 2 * (p.length + q.length) + 1
    · rw [if_pos c]
    · rw [if_neg c]
      have hz := hW.2.2.2 ((b - (150 + 44 * a)) / 2) (by omega) (by omega)
      rcases Nat.mod_two_eq_zero_or_one (b - (150 + 44 * a)) with e | e
      · have : b = 150 + 44 * a + 2 * ((b - (150 + 44 * a)) / 2) := by omega
        rw [this]; exact hz.1
      · have : b = 151 + 44 * a + 2 * ((b - (150 + 44 * a)) / 2) := by omega
        rw [this]; exact hz.2
/-- nobody is granted by a -/
def nob (a : Nat) (S : St) : St := uR (uR (uR S 8 a (-1)) 9 a 0) 10 a 0
def gF (t : Int32) (a : Nat) (S : St) : St := match xW S a with
  | [] => nob a S
  | w :: r => sn t 1 a w.1 w.2 (uW (uR (uR (nob a S) 8 a (nI w.1)) 9 a w.2) a r)
theorem uR_uR (S : St) (k i : Nat) (x y : Int32) : uR (uR S k i x) k i y = uR S k i y := by
  unfold uR
  refine Prod.ext ?_ rfl
  funext a b
  simp only [up2]
  by_cases e : a = k ∧ b = i
  · rw [if_pos e, if_pos e]
  · rw [if_neg e, if_neg e, if_neg e]
theorem uR_cm (S : St) {k i k' i' : Nat} (x y : Int32) (h : ¬ (k = k' ∧ i = i')) : uR (uR S k i x) k' i' y = uR (uR S k' i' y) k i x := by
  unfold uR
  refine Prod.ext ?_ rfl
  funext a b
  simp only [up2]
  by_cases e : a = k ∧ b = i
  · by_cases e' : a = k' ∧ b = i'
    · exact absurd ⟨e.1.symm.trans e'.1, e.2.symm.trans e'.2⟩ h
    · rw [if_neg e', if_pos e, if_pos e]
  · by_cases e' : a = k' ∧ b = i'
    · rw [if_pos e', if_neg e, if_pos e']
    · rw [if_neg e', if_neg e, if_neg e, if_neg e']
theorem uR_uW (S : St) (k i : Nat) (x : Int32) (a : Nat) (w : List Wtr) : uR (uW S a w) k i x = uW (uR S k i x) a w := rfl
theorem fl_uW (S : St) (a : Nat) (w : List Wtr) : fl (uW S a w) = fl S := rfl
theorem fl_uR (S : St) (k i : Nat) (x : Int32) : fl (uR S k i x) = fl S := rfl
theorem RV.tnob {M : Mem} {tw : Bool} {t : Int32} {S : St} {pb pt : List Row4} (h : RV M tw t S pb pt) {a : Nat} (ha : a < 16) : ∃ M', f_X10_nobody 120 (nI a) M = some M' ∧ RV M' tw t (nob a S) pb pt ∧ Fr PA M M' := by
  have h1 := h.st (vk_n (k := 8) (by decide) ha) (-1)
  have h2 := h1.st (vk_n (k := 9) (by decide) ha) 0
  have h3 := h2.st (vk_n (k := 10) (by decide) ha) 0
  refine ⟨_, ?_, h3, Fr.tr Fr.tad (Fr.tr Fr.tad Fr.tad)⟩
  rw [f_X10_nobody, rs_f h.1, h.put0 ha, obd_s, rs_f h1.1, h1.put1 ha, obd_s, rs_f h2.1, h2.put2 ha, obd_s]
theorem RV.wn0 {M : Mem} {tw : Bool} {t : Int32} {S : St} {pb pt : List Row4} (h : RV M tw t S pb pt) {a : Nat} (ha : a < 16) : f_X10_waitNode 120 (nI a) (0 : Int32) M = some (mI M 121 (150 + 44 * a)) := h.wn (i := 0) ha (by decide)
theorem RV.ws0 {M : Mem} {tw : Bool} {t : Int32} {S : St} {pb pt : List Row4} (h : RV M tw t S pb pt) {a : Nat} (ha : a < 16) : f_X10_waitStamp 120 (nI a) (0 : Int32) M = some (mI M 121 (151 + 44 * a)) := h.ws (i := 0) ha (by decide)
theorem RV.w0 {M : Mem} {tw : Bool} {t : Int32} {S : St} {pb pt : List Row4} (h : RV M tw t S pb pt) {a : Nat} (ha : a < 16) {w : Wtr} {r : List Wtr} (hw : xW S a = w :: r) : mI M 121 (150 + 44 * a) = nI w.1 ∧ mI M 121 (151 + 44 * a) = w.2 := (h.2.2.2.1 a ha).2.2.1 0 w (by rw [hw]; rfl)
theorem RV.wl {M : Mem} {tw : Bool} {t : Int32} {S : St} {pb pt : List Row4} (h : RV M tw t S pb pt) {a : Nat} (ha : a < 16) : (xW S a).length ≤ 20 := (h.2.2.2.1 a ha).2.1
theorem RV.tgF {M : Mem} {tw : Bool} {t : Int32} {S : St} {pb pt : List Row4} (h : RV M tw t S pb pt) {a : Nat} (ha : a < 16) (hlen : (fl S).length < 9000) (hw : ∀ w, w ∈ xW S a → w.1 < 16) {n : Nat} (hn : 9100 ≤ n) : ∃ M', f_X10_grantFirst n 120 (nI a) M = some M' ∧ RV M' tw t (gF t a S) pb pt ∧ Fr PA M M' := by
  obtain ⟨M1, e1, h1, f1⟩ := h.tnob ha
  cases hc : xW S a with
  | nil =>
    refine ⟨M1, ?_, ?_, f1⟩
    · rw [f_X10_grantFirst, rs_f h.1, e1, obd_s, rs_f h1.1, h1.of3 ha, obd_s, show xW (nob a S) a = [] from hc, if_pos (by rfl)]
    · unfold gF; rw [hc]; exact h1
  | cons w r =>
    have hc1 : xW (nob a S) a = w :: r := hc
    have hwl := h.wl ha
    have hwl2 : (xW S a).length = r.length + 1 := by rw [hc]; rfl
    have hw16 : w.1 < 16 := hw w (by rw [hc]; simp)
    have h2 := h1.st (vk_n (k := 8) (by decide) ha) (nI w.1)
    have h3 := h2.st (vk_n (k := 9) (by decide) ha) w.2
    obtain ⟨M4, e4, h4, f4⟩ := h3.go (p := []) (q := r) (x := w) ha hc (n := n) (by omega)
    obtain ⟨M5, e5, h5, f5⟩ := h4.send (k := 1) (f := a) (g := w.1) (s := w.2) ha hw16 (by decide) hlen hn
    have w01 := h1.w0 ha hc1
    have w02 := h2.w0 ha hc1
    have r8 : xR (uW (uR (uR (nob a S) 8 a (nI w.1)) 9 a w.2) a ([] ++ r)) 8 a = nI w.1 := by
      rw [xR_uW, xR_uR, if_neg (by omega), xR_uR, if_pos ⟨rfl, rfl⟩]
    have r9 : xR (uW (uR (uR (nob a S) 8 a (nI w.1)) 9 a w.2) a ([] ++ r)) 9 a = w.2 := by
      rw [xR_uW, xR_uR, if_pos ⟨rfl, rfl⟩]
    refine ⟨M5, ?_, ?_, Fr.tr f1 (Fr.tr Fr.tad (Fr.tr Fr.tad (Fr.tr f4.toFr f5)))⟩
    · rw [f_X10_grantFirst, rs_f h.1, e1, obd_s, rs_f h1.1, h1.of3 ha, obd_s, hc1, if_neg (by rw [show (0 : Int32) = nI 0 from rfl]; exact fun q => by have := (nI_eq (by simp; omega) (by decide)).mp q; simp at this), h1.wn0 ha, obd_s, w01.1, h1.put0 ha, obd_s, rs_f h2.1, h2.ws0 ha, obd_s, w02.2, h2.put1 ha, obd_s, rs_f h3.1, show (0 : Int32) = nI ([] : List Wtr).length from rfl, e4, obd_s, rs_f h4.1]
      rw [show (nI ([] : List Wtr).length) = (0 : Int32) from rfl, h4.of0 ha, obd_s, h4.of1 ha, obd_s, r8, r9, show (1 : Int32) = nI 1 from rfl, e5, obd_s]
    · unfold gF; rw [hc]; exact h5
/-! ===== REQUEST, YIELD, RELEASE at an arbiter of the reference ===== -/
def spl (f : Wtr → Bool) : List Wtr → List Wtr × List Wtr
  | [] => ([], [])
  | w :: r => if f w then ([], w :: r) else (w :: (spl f r).1, (spl f r).2)
theorem spl_ap (f : Wtr → Bool) (l : List Wtr) : (spl f l).1 ++ (spl f l).2 = l := by
  induction l with
  | nil => rfl
  | cons w r ih =>
    unfold spl
    by_cases h : f w = true
    · rw [if_pos h]; rfl
    · rw [if_neg h]; simp [ih]
theorem spl_1 (f : Wtr → Bool) (l : List Wtr) : ∀ x, x ∈ (spl f l).1 → f x = false := by
  induction l with
  | nil => intro x h; simp [spl] at h
  | cons w r ih =>
    intro x hx
    unfold spl at hx
    by_cases h : f w = true
    · rw [if_pos h] at hx; simp at hx
    · rw [if_neg h] at hx
      rcases List.mem_cons.mp hx with rfl | hx
      · simpa using h
      · exact ih x hx
def ahw (v : Nat) (s : Int32) (w : Wtr) : Bool := ahd s (nI v) w.2 (nI w.1)
def ins (v : Nat) (s : Int32) (l : List Wtr) : List Wtr := (spl (ahw v s) l).1 ++ (v, s) :: (spl (ahw v s) l).2
theorem ins_len (v : Nat) (s : Int32) (l : List Wtr) : (ins v s l).length = l.length + 1 := by
  have := congrArg List.length (spl_ap (ahw v s) l)
  rw [List.length_append] at this
  unfold ins
  rw [List.length_append, List.length_cons]
  omega
/-- of those that v by s is ahead of none comes before one that it isn't ahead of -/
def Srt (v : Nat) (s : Int32) (l : List Wtr) : Prop := ∀ x, x ∈ (spl (ahw v s) l).2 → ahw v s x = true
theorem fl_sn_len {t : Int32} {k f g : Nat} {s : Int32} {S : St} (h : 16 * f + g < 256) : (fl (sn t k f g s S)).length = (fl S).length + 1 := by
  rw [fl_sn h, fl_split S h]
  simp only [List.length_append, List.length_singleton]
  omega
theorem bz_if (b : Bool) : bz (if b then (1 : Int32) else 0) := by
  cases b
  · exact Or.inl rfl
  · exact Or.inr rfl
theorem if10 (b : Bool) : ((if b then (1 : Int32) else 0) = 0) ↔ (b = false) := by
  cases b
  · simp
  · simp [ne10]
theorem if11 (b : Bool) : ((if b then (1 : Int32) else 0) = 1) ↔ (b = true) := by
  cases b
  · simp [ne01]
  · simp
theorem RV.aog {M : Mem} {tw : Bool} {t : Int32} {S : St} {pb pt : List Row4} (h : RV M tw t S pb pt) {a : Nat} (ha : a < 16) (v s : Int32) : f_X10_isAheadOfGranted 120 (nI a) v s M = some (if ahd s v (xR S 9 a) (xR S 8 a) then 1 else 0) := by
  rw [f_X10_isAheadOfGranted, rs_f h.1, h.of1 ha, obd_s, h.of0 ha, obd_s, f_ah10, obd_s, chk_t (bz_if _)]
def gn (S : St) (a : Nat) : Nat := (xR S 8 a).toNatClampNeg
theorem gn_e {S : St} {a g : Nat} (h : xR S 8 a = nI g) (hg : g < 16) : gn S a = g := by
  unfold gn; rw [h, nI_clamp (by omega)]
def rq3 (t : Int32) (a : Nat) (S : St) : St := if xR S 10 a = 1 then S else sn t 3 a (gn S a) (xR S 9 a) (uR S 10 a 1)
def rq2 (t : Int32) (a : Nat) (old : List Wtr) (S : St) : St := match old with
  | [] => S
  | w :: _ => if ahd w.2 (nI w.1) (xR S 9 a) (xR S 8 a) then sn t 2 a w.1 w.2 S else S
def rq (t : Int32) (a v : Nat) (s : Int32) (S : St) : St :=
  if xR S 8 a = -1 then gF t a (uW S a (ins v s (xW S a)))
  else if (ins v s (xW S a)).head? = some (v, s) ∧ ahd s (nI v) (xR S 9 a) (xR S 8 a) = true then rq3 t a (rq2 t a (xW S a) (uW S a (ins v s (xW S a))))
  else sn t 2 a v s (uW S a (ins v s (xW S a)))
/-- whom a granted -/
def Gok (S : St) (a : Nat) : Prop := xR S 8 a = -1 ∨ ∃ g, g < 16 ∧ xR S 8 a = nI g
theorem nI_m1 {g : Nat} (h : g < 16) : ¬ nI g = -1 := by
  intro q
  have h1 := nI_pos (n := g) (by omega)
  rw [q] at h1
  exact h1 (by decide)
theorem RV.trq3 {M : Mem} {tw : Bool} {t : Int32} {S : St} {pb pt : List Row4} (h : RV M tw t S pb pt) {a : Nat} (ha : a < 16) (hlen : (fl S).length < 9000) (hg : ∃ g, g < 16 ∧ xR S 8 a = nI g) {n : Nat} (hn : 9100 ≤ n) : ∃ M', f_X10_requested_133 n 120 (nI a) M = some M' ∧ RV M' tw t (rq3 t a S) pb pt ∧ Fr PA M M' := by
  obtain ⟨g, hg16, hge⟩ := hg
  unfold rq3
  by_cases e : xR S 10 a = 1
  · rw [if_pos e]
    refine ⟨M, ?_, h, Fr.rf _ _⟩
    rw [f_X10_requested_133, rs_f h.1, h.of2 ha, obd_s, if_pos e]
  · rw [if_neg e, gn_e hge hg16]
    have h1 := h.st (vk_n (k := 10) (by decide) ha) 1
    obtain ⟨M2, e2, h2, f2⟩ := h1.send (k := 3) (f := a) (g := g) (s := xR S 9 a) ha hg16 (by decide) hlen hn
    refine ⟨M2, ?_, h2, Fr.tr Fr.tad f2⟩
    rw [f_X10_requested_133, rs_f h.1, h.of2 ha, obd_s, if_neg e, h.put2 ha, obd_s, rs_f h1.1, h1.of0 ha, obd_s, h1.of1 ha, obd_s, show xR (uR S 10 a 1) 8 a = nI g from hge, show xR (uR S 10 a 1) 9 a = xR S 9 a from rfl, show (3 : Int32) = nI 3 from rfl, e2, obd_s]
theorem RV.rqf {M : Mem} {tw : Bool} {t : Int32} {S : St} {pb pt : List Row4} (h : RV M tw t S pb pt) {a v : Nat} {s : Int32} (ha : a < 16) (hv : v < 16) (hlen : (fl S).length < 9000) {n : Nat} (hn : 9100 ≤ n) : ∃ M', f_X10_requested_97 n 120 (nI a) (nI v) s M = some M' ∧ RV M' tw t (sn t 2 a v s S) pb pt ∧ Fr PA M M' := by
  obtain ⟨M2, e2, h2, f2⟩ := h.send (k := 2) (f := a) (g := v) (s := s) ha hv (by decide) hlen hn
  refine ⟨M2, ?_, h2, f2⟩
  rw [f_X10_requested_97, rs_f h.1, show (2 : Int32) = nI 2 from rfl, e2, obd_s]
theorem ins_hd {v : Nat} {s : Int32} {l : List Wtr} : ∃ w r, ins v s l = w :: r := by
  unfold ins
  cases (spl (ahw v s) l).1 with
  | nil => exact ⟨_, _, rfl⟩
  | cons w r => exact ⟨_, _, rfl⟩
set_option maxHeartbeats 1000000 in
theorem RV.rq14 {M : Mem} {tw : Bool} {t : Int32} {S : St} {pb pt : List Row4} (h : RV M tw t S pb pt) {a v : Nat} {s : Int32} (ha : a < 16) (hv : v < 16) (hlen : (fl S).length + 2 ≤ 9000) (hW : ∀ w, w ∈ xW S a → w.1 < 16) (hwl : (xW S a).length < 20) (hs : Srt v s (xW S a)) (hG : Gok S a) {n : Nat} (hn : 9100 ≤ n) {u0 : Int32} (hu0 : (xW S a = [] ∧ u0 = 0) ∨ (xW S a ≠ [] ∧ u0 = 1)) : ∃ M', f_X10_requested_14 n 120 (nI a) (nI v) s u0 M = some M' ∧ RV M' tw t (rq t a v s S) pb pt ∧ Fr PA M M' := by
  obtain ⟨M1, e1, h1, f1⟩ := h.come (v := v) (s := s) ha (p := (spl (ahw v s) (xW S a)).1) (q := (spl (ahw v s) (xW S a)).2) (spl_ap _ _).symm (spl_1 _ _) hs hwl (n := n) (by omega)
  have hS1 : uW S a ((spl (ahw v s) (xW S a)).1 ++ (v, s) :: (spl (ahw v s) (xW S a)).2) = uW S a (ins v s (xW S a)) := rfl
  rw [hS1] at h1
  have hfl : (fl (uW S a (ins v s (xW S a)))).length = (fl S).length := rfl
  obtain ⟨w, r, hwr⟩ := @ins_hd v s (xW S a)
  have hx1 : xW (uW S a (ins v s (xW S a))) a = w :: r := by rw [xW_uW, if_pos rfl, hwr]
  have hW1 : ∀ w, w ∈ xW (uW S a (ins v s (xW S a))) a → w.1 < 16 := by
    intro x hx
    rw [xW_uW, if_pos rfl] at hx
    unfold ins at hx
    rcases List.mem_append.mp hx with hx | hx
    · exact hW x (by rw [← spl_ap (ahw v s) (xW S a)]; exact List.mem_append_left _ hx)
    · rcases List.mem_cons.mp hx with rfl | hx
      · exact hv
      · exact hW x (by rw [← spl_ap (ahw v s) (xW S a)]; exact List.mem_append_right _ hx)
  have hr8 : xR (uW S a (ins v s (xW S a))) 8 a = xR S 8 a := rfl
  have hr9 : xR (uW S a (ins v s (xW S a))) 9 a = xR S 9 a := rfl
  rcases hG with hG | hG
  · obtain ⟨M2, e2, h2, f2⟩ := h1.tgF ha (by omega) hW1 hn
    refine ⟨M2, ?_, ?_, Fr.tr f1.toFr f2⟩
    · rw [f_X10_requested_14, rs_f h.1, h.wn0 ha, obd_s, h.ws0 ha, obd_s, e1, obd_s, rs_f h1.1, h1.of0 ha, obd_s, hr8, if_pos hG, e2, obd_s]
    · unfold rq; rw [if_pos hG]; exact h2
  · obtain ⟨g, hg16, hge⟩ := hG
    have hne : ¬ xR S 8 a = -1 := by rw [hge]; exact nI_m1 hg16
    have w01 := h1.w0 ha hx1
    have fail : ∀ u : Int32, (u = 0 ∨ ahd s (nI v) (xR S 9 a) (xR S 8 a) = false) → ∃ M', f_X10_requested_80 n 120 (nI a) (nI v) s u0 (mI M 121 (150 + 44 * a)) (mI M 121 (151 + 44 * a)) u M1 = some M' ∧ RV M' tw t (sn t 2 a v s (uW S a (ins v s (xW S a)))) pb pt ∧ Fr PA M M' := by
      intro u hu
      obtain ⟨M2, e2, h2, f2⟩ := h1.rqf (v := v) (s := s) ha hv (by omega) hn
      refine ⟨M2, ?_, h2, Fr.tr f1.toFr f2⟩
      rw [f_X10_requested_80]
      by_cases q : u = 0
      · rw [if_pos q, e2]
      · rw [if_neg q, rs_f h1.1, h1.aog ha, obd_s, hr9, hr8, if_pos ((if10 _).mpr (hu.resolve_left q)), e2]
    have open1 : ∀ x, f_X10_requested_80 n 120 (nI a) (nI v) s u0 (mI M 121 (150 + 44 * a)) (mI M 121 (151 + 44 * a)) (if w = (v, s) then 1 else 0) M1 = x → f_X10_requested_14 n 120 (nI a) (nI v) s u0 M = x := by
      intro x hx
      rw [f_X10_requested_14, rs_f h.1, h.wn0 ha, obd_s, h.ws0 ha, obd_s, e1, obd_s, rs_f h1.1, h1.of0 ha, obd_s, hr8, if_neg hne, h1.wn0 ha, obd_s, w01.1]
      by_cases q1 : w.1 = v
      · rw [if_pos (by rw [q1]), h1.ws0 ha, obd_s, w01.2]
        by_cases q2 : w.2 = s
        · rw [if_pos q2]
          rw [if_pos (Prod.ext q1 q2)] at hx
          exact hx
        · rw [if_neg q2]
          rw [if_neg (fun q => q2 (congrArg Prod.snd q))] at hx
          exact hx
      · rw [if_neg (fun q => q1 ((nI_eq (by have := hW1 w (by rw [hx1]; simp); omega) (by omega)).mp q))]
        rw [if_neg (fun q => q1 (congrArg Prod.fst q))] at hx
        exact hx
    by_cases c1 : w = (v, s)
    · rw [if_pos c1] at open1
      by_cases c2 : ahd s (nI v) (xR S 9 a) (xR S 8 a) = true
      · have hcond : (ins v s (xW S a)).head? = some (v, s) ∧ ahd s (nI v) (xR S 9 a) (xR S 8 a) = true := ⟨by rw [hwr, c1]; rfl, c2⟩
        have erq : rq t a v s S = rq3 t a (rq2 t a (xW S a) (uW S a (ins v s (xW S a)))) := by unfold rq; rw [if_neg hne, if_pos hcond]
        have start : ∀ x, (if u0 = 0 then f_X10_requested_133 n 120 (nI a) M1 else obd (f_X10_isAheadOfGranted 120 (nI a) (mI M 121 (150 + 44 * a)) (mI M 121 (151 + 44 * a)) M1) fun r11 => if r11 = 0 then f_X10_requested_133 n 120 (nI a) M1 else obd (f_X10_send n 120 (2 : Int32) (nI a) (mI M 121 (150 + 44 * a)) (mI M 121 (151 + 44 * a)) M1) fun M15 => f_X10_requested_133 n 120 (nI a) M15) = x → f_X10_requested_80 n 120 (nI a) (nI v) s u0 (mI M 121 (150 + 44 * a)) (mI M 121 (151 + 44 * a)) 1 M1 = x := by
          intro x hx
          rw [f_X10_requested_80, if_neg ne10, rs_f h1.1, h1.aog ha, obd_s, hr9, hr8, if_neg (fun q => by rw [(if10 _).mp q] at c2; cases c2)]
          exact hx
        have hcase : ∃ M2, (f_X10_requested_80 n 120 (nI a) (nI v) s u0 (mI M 121 (150 + 44 * a)) (mI M 121 (151 + 44 * a)) 1 M1 = f_X10_requested_133 n 120 (nI a) M2) ∧ RV M2 tw t (rq2 t a (xW S a) (uW S a (ins v s (xW S a)))) pb pt ∧ Fr PA M1 M2 := by
          by_cases hc : xW S a = []
          · refine ⟨M1, start _ ?_, ?_, Fr.rf _ _⟩
            · rcases hu0 with z | z
              · rw [if_pos z.2]
              · exact absurd hc z.1
            · have e : rq2 t a (xW S a) (uW S a (ins v s (xW S a))) = uW S a (ins v s (xW S a)) := by
                generalize uW S a (ins v s (xW S a)) = S1
                rw [hc]; rfl
              rw [e]; exact h1
          · obtain ⟨y, ys, hy⟩ := List.exists_cons_of_ne_nil hc
            have hu1 : ¬ u0 = 0 := by
              rcases hu0 with z | z
              · exact absurd z.1 hc
              · rw [z.2]; exact ne10
            have y0 := h.w0 ha hy
            have e : rq2 t a (xW S a) (uW S a (ins v s (xW S a))) = if ahd y.2 (nI y.1) (xR S 9 a) (xR S 8 a) then sn t 2 a y.1 y.2 (uW S a (ins v s (xW S a))) else uW S a (ins v s (xW S a)) := by
              rw [← hr8, ← hr9]
              generalize uW S a (ins v s (xW S a)) = S1
              rw [hy]; rfl
            rw [e]
            by_cases c3 : ahd y.2 (nI y.1) (xR S 9 a) (xR S 8 a) = true
            · obtain ⟨M2, e2, h2, f2⟩ := h1.send (k := 2) (f := a) (g := y.1) (s := y.2) ha (hW y (by rw [hy]; simp)) (by decide) (by omega) hn
              refine ⟨M2, start _ ?_, ?_, f2⟩
              · rw [if_neg hu1, y0.1, y0.2, h1.aog ha, obd_s, hr9, hr8, if_neg (fun q => by rw [(if10 _).mp q] at c3; cases c3), show (2 : Int32) = nI 2 from rfl, e2, obd_s]
              · rw [if_pos c3]; exact h2
            · refine ⟨M1, start _ ?_, ?_, Fr.rf _ _⟩
              · rw [if_neg hu1, y0.1, y0.2, h1.aog ha, obd_s, hr9, hr8, if_pos ((if10 _).mpr (by simpa using c3))]
              · rw [if_neg c3]; exact h1
        obtain ⟨M2, e2, h2, f2⟩ := hcase
        have k8 : xR (rq2 t a (xW S a) (uW S a (ins v s (xW S a)))) 8 a = nI g := by
          unfold rq2
          split
          · exact hge
          · split
            · unfold sn
              rw [xR_uL, xR_uR, if_neg (by omega)]; exact hge
            · exact hge
        have kl : (fl (rq2 t a (xW S a) (uW S a (ins v s (xW S a))))).length < 9000 := by
          by_cases hc : xW S a = []
          · have e : rq2 t a (xW S a) (uW S a (ins v s (xW S a))) = uW S a (ins v s (xW S a)) := by
              generalize uW S a (ins v s (xW S a)) = S1
              rw [hc]; rfl
            rw [e, hfl]; omega
          · obtain ⟨y, ys, hy⟩ := List.exists_cons_of_ne_nil hc
            have hy16 := hW y (by rw [hy]; simp)
            have e : rq2 t a (xW S a) (uW S a (ins v s (xW S a))) = if ahd y.2 (nI y.1) (xR S 9 a) (xR S 8 a) then sn t 2 a y.1 y.2 (uW S a (ins v s (xW S a))) else uW S a (ins v s (xW S a)) := by
              rw [← hr8, ← hr9]
              generalize uW S a (ins v s (xW S a)) = S1
              rw [hy]; rfl
            rw [e]
            split
            · rw [fl_sn_len (by omega), hfl]; omega
            · rw [hfl]; omega
        obtain ⟨M3, e3, h3, f3⟩ := h2.trq3 ha kl ⟨g, hg16, k8⟩ hn
        exact ⟨M3, open1 _ (e2.trans e3), by rw [erq]; exact h3, Fr.tr f1.toFr (Fr.tr f2 f3)⟩
      · have hcond : ¬ ((ins v s (xW S a)).head? = some (v, s) ∧ ahd s (nI v) (xR S 9 a) (xR S 8 a) = true) := fun q => c2 q.2
        have erq : rq t a v s S = sn t 2 a v s (uW S a (ins v s (xW S a))) := by unfold rq; rw [if_neg hne, if_neg hcond]
        obtain ⟨M2, e2, h2, f2⟩ := fail 1 (Or.inr (by simpa using c2))
        exact ⟨M2, open1 _ e2, by rw [erq]; exact h2, f2⟩
    · rw [if_neg c1] at open1
      have hcond : ¬ ((ins v s (xW S a)).head? = some (v, s) ∧ ahd s (nI v) (xR S 9 a) (xR S 8 a) = true) := fun q => c1 (by rw [hwr] at q; simpa using q.1)
      have erq : rq t a v s S = sn t 2 a v s (uW S a (ins v s (xW S a))) := by unfold rq; rw [if_neg hne, if_neg hcond]
      obtain ⟨M2, e2, h2, f2⟩ := fail 0 (Or.inl rfl)
      exact ⟨M2, open1 _ e2, by rw [erq]; exact h2, f2⟩
theorem RV.trq {M : Mem} {tw : Bool} {t : Int32} {S : St} {pb pt : List Row4} (h : RV M tw t S pb pt) {a v : Nat} {s : Int32} (ha : a < 16) (hv : v < 16) (hlen : (fl S).length + 2 ≤ 9000) (hW : ∀ w, w ∈ xW S a → w.1 < 16) (hwl : (xW S a).length < 20) (hs : Srt v s (xW S a)) (hG : Gok S a) {n : Nat} (hn : 9100 ≤ n) : ∃ M', f_X10_requested n 120 (nI a) (nI v) s M = some M' ∧ RV M' tw t (rq t a v s S) pb pt ∧ Fr PA M M' := by
  by_cases c : xW S a = []
  · obtain ⟨M1, e1, h1, f1⟩ := h.rq14 (v := v) (s := s) ha hv hlen hW hwl hs hG hn (Or.inl ⟨c, rfl⟩)
    refine ⟨M1, ?_, h1, f1⟩
    rw [f_X10_requested, rs_f h.1, h.of3 ha, obd_s, c, if_pos (show nI ([] : List Wtr).length ≤ 0 from nI_le (Nat.le_refl 0) (by decide)), e1]
  · obtain ⟨M1, e1, h1, f1⟩ := h.rq14 (v := v) (s := s) ha hv hlen hW hwl hs hG hn (Or.inr ⟨c, rfl⟩)
    have hp : 0 < (xW S a).length := List.length_pos_iff.mpr c
    refine ⟨M1, ?_, h1, f1⟩
    rw [f_X10_requested, rs_f h.1, h.of3 ha, obd_s, if_neg (by rw [show (0 : Int32) = nI 0 from rfl]; exact nI_ge hp (by omega)), e1]
def yl (t : Int32) (a v : Nat) (s : Int32) (S : St) : St := if xR S 8 a = nI v ∧ xR S 9 a = s then gF t a (uW S a (ins v s (xW S a))) else S
theorem RV.ig {M : Mem} {tw : Bool} {t : Int32} {S : St} {pb pt : List Row4} (h : RV M tw t S pb pt) {a : Nat} (ha : a < 16) (v s : Int32) : f_X10_isGranted 120 (nI a) v s M = some (if xR S 8 a = v ∧ xR S 9 a = s then 1 else 0) := by
  rw [f_X10_isGranted, rs_f h.1, h.of0 ha, obd_s]
  by_cases q1 : xR S 8 a = v
  · rw [if_pos q1, h.of1 ha, obd_s]
    by_cases q2 : xR S 9 a = s
    · rw [if_pos q2, if_pos ⟨q1, q2⟩]
    · rw [if_neg q2, if_neg (fun q => q2 q.2)]
  · rw [if_neg q1, if_neg (fun q => q1 q.1)]
theorem ins_mem {v : Nat} {s : Int32} {l : List Wtr} {x : Wtr} (h : x ∈ ins v s l) : x = (v, s) ∨ x ∈ l := by
  unfold ins at h
  rcases List.mem_append.mp h with h | h
  · exact Or.inr (by rw [← spl_ap (ahw v s) l]; exact List.mem_append_left _ h)
  · rcases List.mem_cons.mp h with h | h
    · exact Or.inl h
    · exact Or.inr (by rw [← spl_ap (ahw v s) l]; exact List.mem_append_right _ h)
theorem RV.tyl {M : Mem} {tw : Bool} {t : Int32} {S : St} {pb pt : List Row4} (h : RV M tw t S pb pt) {a v : Nat} {s : Int32} (ha : a < 16) (hv : v < 16) (hlen : (fl S).length < 9000) (hW : ∀ w, w ∈ xW S a → w.1 < 16) (hwl : (xW S a).length < 20) (hs : Srt v s (xW S a)) {n : Nat} (hn : 9100 ≤ n) : ∃ M', f_X10_yielded n 120 (nI a) (nI v) s M = some M' ∧ RV M' tw t (yl t a v s S) pb pt ∧ Fr PA M M' := by
  unfold yl
  by_cases c : xR S 8 a = nI v ∧ xR S 9 a = s
  · rw [if_pos c]
    obtain ⟨M1, e1, h1, f1⟩ := h.come (v := v) (s := s) ha (p := (spl (ahw v s) (xW S a)).1) (q := (spl (ahw v s) (xW S a)).2) (spl_ap _ _).symm (spl_1 _ _) hs hwl (n := n) (by omega)
    obtain ⟨M2, e2, h2, f2⟩ := h1.tgF ha hlen (fun w hw => by
      rw [xW_uW, if_pos rfl] at hw
      rcases ins_mem (l := xW S a) hw with rfl | hw
      · exact hv
      · exact hW w hw) hn
    refine ⟨M2, ?_, h2, Fr.tr f1.toFr f2⟩
    rw [f_X10_yielded, rs_f h.1, h.ig ha, obd_s, if_pos c, if_neg ne10, e1, obd_s, rs_f h1.1, e2, obd_s]
  · rw [if_neg c]
    refine ⟨M, ?_, h, Fr.rf _ _⟩
    rw [f_X10_yielded, rs_f h.1, h.ig ha, obd_s, if_neg c, if_pos rfl]
/-- the first (v, s) goes -/
def gone (v : Nat) (s : Int32) : List Wtr → List Wtr
  | [] => []
  | w :: r => if w = (v, s) then r else w :: gone v s r
def rl (t : Int32) (a v : Nat) (s : Int32) (S : St) : St := if xR S 8 a = nI v ∧ xR S 9 a = s then gF t a S else uW S a (gone v s (xW S a))
theorem uW_id (S : St) (a : Nat) : uW S a (xW S a) = S := by
  unfold uW
  refine Prod.ext rfl (Prod.ext ?_ rfl)
  funext b
  show up1 S.2.1 a (S.2.1 a) b = S.2.1 b
  unfold up1
  by_cases e : b = a
  · rw [if_pos e, e]
  · rw [if_neg e]
theorem RV.rl19 {M : Mem} {tw : Bool} {t : Int32} {S : St} {pb pt : List Row4} (h : RV M tw t S pb pt) {a v : Nat} {s : Int32} (ha : a < 16) (hv : v < 16) (hW : ∀ w, w ∈ xW S a → w.1 < 16) : ∀ (q p : List Wtr) (n : Nat), xW S a = p ++ q → q.length + 60 ≤ n → ∃ M', f_X10_released_19 n 120 (nI a) (nI v) s (nI p.length) M = some M' ∧ RV M' tw t (uW S a (p ++ gone v s q)) pb pt ∧ FrW a M M' := by
  intro q
  induction q with
  | nil =>
    intro p n e hn
    obtain ⟨n, rfl⟩ : ∃ m, n = m + 1 := ⟨n - 1, by omega⟩
    have hl := h.wl ha
    rw [List.append_nil] at e
    refine ⟨M, ?_, ?_, FrW.rf a M⟩
    · rw [f_X10_released_19, rs_f h.1, h.of3 ha, obd_s, e, if_pos (nI_le (Nat.le_refl _) (by rw [e] at hl; omega))]
    · rw [show gone v s [] = [] from rfl, List.append_nil, ← e, uW_id]; exact h
  | cons w r ih =>
    intro p n e hn
    simp only [List.length_cons] at hn
    obtain ⟨n, rfl⟩ : ∃ m, n = m + 1 := ⟨n - 1, by omega⟩
    have hl := h.wl ha
    have hl2 : (xW S a).length = p.length + r.length + 1 := by rw [e]; simp; omega
    have g := (h.2.2.2.1 a ha).2.2.1 p.length w (by rw [e, List.getElem?_append_right (Nat.le_refl _)]; simp)
    have hi := ih (p ++ [w]) n (by rw [e]; simp) (by omega)
    rw [show (p ++ [w]).length = p.length + 1 by simp] at hi
    have hw16 := hW w (by rw [e]; simp)
    have start : ∀ x, (if nI w.1 = nI v then (if w.2 = s then obd (f_X10_goWaiting n 120 (nI a) (nI p.length) M) fun M17 => some M17 else f_X10_released_19 n 120 (nI a) (nI v) s (nI (p.length + 1)) M) else f_X10_released_19 n 120 (nI a) (nI v) s (nI (p.length + 1)) M) = x → f_X10_released_19 (n + 1) 120 (nI a) (nI v) s (nI p.length) M = x := by
      intro x hx
      rw [f_X10_released_19, rs_f h.1, h.of3 ha, obd_s, hl2, if_neg (nI_ge (by omega) (by omega)), h.wn ha (by omega), obd_s, g.1, h.ws ha (by omega), obd_s, g.2]
      simp only [bnd_e, nI_1]
      exact hx
    by_cases c : w = (v, s)
    · obtain ⟨M2, e2, h2, f2⟩ := h.go (n := n) ha e (by omega)
      refine ⟨M2, start _ ?_, ?_, f2⟩
      · rw [c, if_pos rfl, if_pos rfl, e2, obd_s]
      · rw [show gone v s (w :: r) = r by unfold gone; rw [if_pos c]]
        exact h2
    · obtain ⟨M2, e2, h2, f2⟩ := hi
      refine ⟨M2, start _ ?_, ?_, f2⟩
      · by_cases c1 : nI w.1 = nI v
        · rw [if_pos c1, if_neg (fun c2 => c (Prod.ext ((nI_eq (by omega) (by omega)).mp c1) c2)), e2]
        · rw [if_neg c1, e2]
      · rw [show gone v s (w :: r) = w :: gone v s r by rw [gone, if_neg c]]
        simpa using h2
theorem RV.trl {M : Mem} {tw : Bool} {t : Int32} {S : St} {pb pt : List Row4} (h : RV M tw t S pb pt) {a v : Nat} {s : Int32} (ha : a < 16) (hv : v < 16) (hlen : (fl S).length < 9000) (hW : ∀ w, w ∈ xW S a → w.1 < 16) {n : Nat} (hn : 9100 ≤ n) : ∃ M', f_X10_released n 120 (nI a) (nI v) s M = some M' ∧ RV M' tw t (rl t a v s S) pb pt ∧ Fr PA M M' := by
  unfold rl
  by_cases c : xR S 8 a = nI v ∧ xR S 9 a = s
  · rw [if_pos c]
    obtain ⟨M2, e2, h2, f2⟩ := h.tgF ha hlen hW hn
    refine ⟨M2, ?_, h2, f2⟩
    rw [f_X10_released, rs_f h.1, h.ig ha, obd_s, if_pos c, if_neg ne10, e2, obd_s]
  · rw [if_neg c]
    have hl := h.wl ha
    obtain ⟨M2, e2, h2, f2⟩ := h.rl19 (v := v) (s := s) ha hv hW (xW S a) [] n (by simp) (by omega)
    refine ⟨M2, ?_, by simpa using h2, f2.toFr⟩
    rw [f_X10_released, rs_f h.1, h.ig ha, obd_s, if_neg c, if_pos rfl, show (0 : Int32) = nI ([] : List Wtr).length from rfl, e2]
/-! ===== how many bits ===== -/
def pcN (m : Nat) : Nat := ((List.range 32).filter fun i => m.testBit i).length
theorem pcN_half {m : Nat} (h : m < 2 ^ 31) : pcN m = m % 2 + pcN (m / 2) := by
  have e : List.range 32 = 0 :: (List.range 31).map Nat.succ := List.range_succ_eq_map
  have e2 : List.range 32 = List.range 31 ++ [31] := List.range_succ
  have hb : (m / 2).testBit 31 = false := Nat.testBit_lt_two_pow (by omega)
  have h1 : pcN (m / 2) = ((List.range 31).filter fun i => (m / 2).testBit i).length := by
    unfold pcN
    rw [e2, List.filter_append, List.length_append]
    simp [hb]
  rw [h1]
  unfold pcN
  rw [e]
  have h3 : ((List.range 31).map Nat.succ).filter (fun i => m.testBit i) = ((List.range 31).filter fun i => (m / 2).testBit i).map Nat.succ := by
    rw [List.filter_map]
    congr 1
  rw [List.filter_cons, h3]
  by_cases h2 : m % 2 = 1
  · have : m.testBit 0 = true := by rw [Nat.testBit_zero]; simp [h2]
    rw [if_pos this, List.length_cons, List.length_map, h2]; omega
  · have : m.testBit 0 = false := by rw [Nat.testBit_zero]; simp [h2]
    rw [if_neg (by rw [this]; simp), List.length_map]; omega
theorem pcN_0 : pcN 0 = 0 := by decide
theorem and_pred (m : Nat) (h : 0 < m) : (m &&& (m - 1)) % 2 = 0 ∧ (m &&& (m - 1)) / 2 = if m % 2 = 1 then m / 2 else (m / 2) &&& (m / 2 - 1) := by
  constructor
  · have := Nat.testBit_and m (m - 1) 0
    simp only [Nat.testBit_zero] at this
    have h2 : ¬ (m % 2 = 1 ∧ (m - 1) % 2 = 1) := by omega
    have h3 : (m &&& (m - 1)) % 2 < 2 := Nat.mod_lt _ (by decide)
    by_cases q : (m &&& (m - 1)) % 2 = 1
    · rw [q] at this
      simp at this
      exact absurd this h2
    · omega
  · by_cases q : m % 2 = 1
    · rw [if_pos q]
      apply Nat.eq_of_testBit_eq
      intro i
      rw [← Nat.testBit_succ, Nat.testBit_and, Nat.testBit_succ, Nat.testBit_succ, show (m - 1) / 2 = m / 2 by omega, Bool.and_self]
    · rw [if_neg q]
      apply Nat.eq_of_testBit_eq
      intro i
      rw [← Nat.testBit_succ, Nat.testBit_and, Nat.testBit_succ, Nat.testBit_succ, Nat.testBit_and, show (m - 1) / 2 = m / 2 - 1 by omega]
theorem pcN_pred : ∀ (k m : Nat), m < 2 ^ k → k ≤ 31 → 0 < m → pcN (m &&& (m - 1)) + 1 = pcN m := by
  intro k
  induction k with
  | zero => intro m h _ h0; omega
  | succ k ih =>
    intro m h hk h0
    have hm : m < 2 ^ 31 := Nat.lt_of_lt_of_le h (Nat.pow_le_pow_right (by decide) hk)
    have ha : m &&& (m - 1) ≤ m := Nat.and_le_left
    obtain ⟨a1, a2⟩ := and_pred m h0
    rw [pcN_half hm, pcN_half (m := m &&& (m - 1)) (by omega), a1, a2]
    by_cases q : m % 2 = 1
    · rw [if_pos q, q]; omega
    · rw [if_neg q]
      have := ih (m / 2) (by rw [Nat.pow_succ] at h; omega) (by omega) (by omega)
      omega
theorem many_l (M : Mem) : ∀ (d m c n : Nat), pcN m = d → m < 2 ^ 31 → d + 1 ≤ n → f_X10_many_4 M n (nI c) (nI m) = some (nI (c + d)) := by
  intro d
  induction d with
  | zero =>
    intro m c n h hm hn
    obtain ⟨n, rfl⟩ : ∃ m, n = m + 1 := ⟨n - 1, by omega⟩
    have : m = 0 := by
      rcases Nat.eq_zero_or_pos m with q | q
      · exact q
      · have := pcN_pred 31 m hm (Nat.le_refl _) q
        omega
    subst this
    rw [f_X10_many_4, if_pos (by rfl)]
    rfl
  | succ d ih =>
    intro m c n h hm hn
    obtain ⟨n, rfl⟩ : ∃ m, n = m + 1 := ⟨n - 1, by omega⟩
    have h0 : 0 < m := by
      rcases Nat.eq_zero_or_pos m with q | q
      · rw [q, pcN_0] at h; omega
      · exact q
    have := pcN_pred 31 m hm (Nat.le_refl _) h0
    have ha : m &&& (m - 1) ≤ m := Nat.and_le_left
    rw [f_X10_many_4, if_neg (nI_ne0 h0 (by omega)), bnd_e, nI_1, show nI m - (1 : Int32) = nI (m - 1) by rw [show m = (m - 1) + 1 by omega, nI_pred]; rfl, nx_and, bnd_e, ih _ _ _ (by omega) (by omega) (by omega)]
    congr 2
    omega
def pc (x : Int32) : Nat := ((List.range 32).filter fun i => bt x i).length
theorem pc_N (m : Nat) : pc (nI m) = pcN m := by
  unfold pc pcN
  congr 1
  apply List.filter_congr
  intro i hi
  rw [bt_nI m (List.mem_range.mp hi)]
theorem pc_le (x : Int32) : pc x ≤ 32 := by
  unfold pc
  have := List.length_filter_le (fun i => bt x i) (List.range 32)
  rw [List.length_range] at this
  exact this
theorem nI_tn (x : Int32) : x = nI x.toBitVec.toNat := by
  apply Int32.toBitVec_inj.mp
  show _ = BitVec.ofNat 32 _
  rw [BitVec.ofNat_toNat, BitVec.setWidth_eq]
theorem bt_hi {x : Int32} {k : Nat} (hk : k ≤ 32) (h : ∀ i, k ≤ i → i < 32 → bt x i = false) : x.toBitVec.toNat < 2 ^ k := by
  apply Nat.lt_pow_two_of_testBit
  intro i hi
  by_cases q : i < 32
  · have := h i hi q
    unfold bt at this
    rw [BitVec.getLsbD] at this
    exact this
  · exact Nat.testBit_lt_two_pow (Nat.lt_of_lt_of_le x.toBitVec.isLt (Nat.pow_le_pow_right (by decide) (by omega)))
theorem f_many {x : Int32} (h : ∀ i, 31 ≤ i → i < 32 → bt x i = false) {n : Nat} (hn : 40 ≤ n) (M : Mem) : f_X10_many n x M = some (nI (pc x)) := by
  have hx := bt_hi (by decide) h
  rw [nI_tn x, pc_N, f_X10_many]
  have hp : pcN x.toBitVec.toNat ≤ 32 := by rw [← pc_N, ← nI_tn]; exact pc_le x
  have := many_l M (pcN x.toBitVec.toNat) x.toBitVec.toNat 0 n rfl hx (by omega)
  rw [Nat.zero_add] at this
  exact this
/-! ===== the masks of the reference ===== -/
theorem bt_or1 (x : Int32) {v i : Nat} (hv : v < 32) (hi : i < 32) : bt (x ||| ((1 : Int32) <<< (nI v &&& 31))) i = (bt x i || decide (i = v)) := bt_on x hv hi
theorem or_0 (x : Int32) : x ||| (0 : Int32) = x := Int32.or_zero
theorem cl0 : ((0 : Int32)).toNatClampNeg = 0 := by decide
theorem rs_c0 {α : Type} {M : Mem} (h : RS M) (x : Option α) : chk (inB (0 : Int32) (mLn M 121)) x = x := rs_c h (k := 0) (by decide) x
theorem RV.N {M : Mem} {tw : Bool} {t : Int32} {S : St} {pb pt : List Row4} (h : RV M tw t S pb pt) {N : Nat} (hN : xR S 20 0 = nI N) : mI M 121 0 = nI N := (h.rg (k := 20) (i := 0) (by unfold vk; omega)).trans hN
theorem ins_l {M : Mem} {tw : Bool} {t : Int32} {S : St} {pb pt : List Row4} (h : RV M tw t S pb pt) {N : Nat} (hN : xR S 20 0 = nI N) (h16 : N ≤ 16) (q : Int32) (fn : Mem → Nat → Nat → Int32 → Int32 → Option Int32) (hf : fn = f_X10_insides_4 ∧ q = 2 ∨ fn = f_X10_askings_4 ∧ q = 1) : ∀ (d i n : Nat) (x : Int32), i + d = N → d + 1 ≤ n → (∀ w, w < 32 → bt x w = decide (w < i ∧ xR S 0 w = q)) → ∃ y, fn M n 120 x (nI i) = some y ∧ ∀ w, w < 32 → bt y w = decide (w < N ∧ xR S 0 w = q) := by
  intro d
  induction d with
  | zero =>
    intro i n x hi hn hx
    obtain ⟨n, rfl⟩ : ∃ m, n = m + 1 := ⟨n - 1, by omega⟩
    have hi2 : i = N := by omega
    subst hi2
    refine ⟨x, ?_, hx⟩
    rcases hf with ⟨rfl, rfl⟩ | ⟨rfl, rfl⟩
    · rw [f_X10_insides_4, rs_f h.1, rs_0 h.1, bnd_e, rs_fa h.1, rs_c0 h.1, cl0, h.N hN, if_pos (nI_le (Nat.le_refl _) (by omega))]
    · rw [f_X10_askings_4, rs_f h.1, rs_0 h.1, bnd_e, rs_fa h.1, rs_c0 h.1, cl0, h.N hN, if_pos (nI_le (Nat.le_refl _) (by omega))]
  | succ d ih =>
    intro i n x hi hn hx
    obtain ⟨n, rfl⟩ : ∃ m, n = m + 1 := ⟨n - 1, by omega⟩
    have step : ∀ y, fn M n 120 (if xR S 0 i = q then x ||| ((1 : Int32) <<< (nI i &&& 31)) else x ||| 0) (nI (i + 1)) = y → fn M (n + 1) 120 x (nI i) = y := by
      intro y hy
      rcases hf with ⟨rfl, rfl⟩ | ⟨rfl, rfl⟩
      · rw [f_X10_insides_4, rs_f h.1, rs_0 h.1, bnd_e, rs_fa h.1, rs_c0 h.1, cl0, h.N hN, if_neg (nI_ge (by omega) (by omega)), h.get0 (by omega), obd_s]
        simp only [bnd_e, nI_1]
        by_cases c : xR S 0 i = 2
        · rw [if_pos c] at hy ⊢; exact hy
        · rw [if_neg c] at hy ⊢; exact hy
      · rw [f_X10_askings_4, rs_f h.1, rs_0 h.1, bnd_e, rs_fa h.1, rs_c0 h.1, cl0, h.N hN, if_neg (nI_ge (by omega) (by omega)), h.get0 (by omega), obd_s]
        simp only [bnd_e, nI_1]
        by_cases c : xR S 0 i = 1
        · rw [if_pos c] at hy ⊢; exact hy
        · rw [if_neg c] at hy ⊢; exact hy
    obtain ⟨y, h1, h2⟩ := ih (i + 1) n (if xR S 0 i = q then x ||| ((1 : Int32) <<< (nI i &&& 31)) else x ||| 0) (by omega) (by omega) (fun w hw => by
      by_cases c : xR S 0 i = q
      · rw [if_pos c, bt_or1 _ (by omega) hw, hx w hw]
        by_cases c2 : w = i
        · subst c2; simp [c]
        · have : (w < i + 1) = (w < i) := by apply propext; omega
          simp [c2, this]
      · rw [if_neg c, or_0, hx w hw]
        by_cases c2 : w = i
        · subst c2; simp [c]
        · have : (w < i + 1) = (w < i) := by apply propext; omega
          simp [this])
    exact ⟨y, step _ h1, h2⟩
theorem RV.insd {M : Mem} {tw : Bool} {t : Int32} {S : St} {pb pt : List Row4} (h : RV M tw t S pb pt) {N : Nat} (hN : xR S 20 0 = nI N) (h16 : N ≤ 16) {n : Nat} (hn : 40 ≤ n) : ∃ y, f_X10_insides n 120 M = some y ∧ ∀ w, w < 32 → bt y w = decide (w < N ∧ xR S 0 w = 2) := by
  rw [f_X10_insides]
  exact ins_l h hN h16 2 f_X10_insides_4 (Or.inl ⟨rfl, rfl⟩) N 0 n 0 (by omega) (by omega) (fun w hw => by rw [b_0]; simp)
theorem RV.askg {M : Mem} {tw : Bool} {t : Int32} {S : St} {pb pt : List Row4} (h : RV M tw t S pb pt) {N : Nat} (hN : xR S 20 0 = nI N) (h16 : N ≤ 16) {n : Nat} (hn : 40 ≤ n) : ∃ y, f_X10_askings n 120 M = some y ∧ ∀ w, w < 32 → bt y w = decide (w < N ∧ xR S 0 w = 1) := by
  rw [f_X10_askings]
  exact ins_l h hN h16 1 f_X10_askings_4 (Or.inr ⟨rfl, rfl⟩) N 0 n 0 (by omega) (by omega) (fun w hw => by rw [b_0]; simp)
/-- how many are inside -/
def pcI (N : Nat) (S : St) : Nat := ((List.range 32).filter fun w => decide (w < N ∧ xR S 0 w = 2)).length
theorem pc_mask {N : Nat} {S : St} {y : Int32} (h : ∀ w, w < 32 → bt y w = decide (w < N ∧ xR S 0 w = 2)) : pc y = pcI N S := by
  unfold pc pcI
  congr 1
  apply List.filter_congr
  intro i hi
  exact h i (List.mem_range.mp hi)
/-! ===== the book and the trace of the reference ===== -/
theorem lastn_push {α : Type} (n : Nat) (hn : 0 < n) (l : List α) (x : α) : lastn n (l ++ [x]) = (if (lastn n l).length = n then (lastn n l).drop 1 else lastn n l) ++ [x] := by
  unfold lastn
  rw [List.length_drop, List.length_append, List.length_singleton]
  by_cases h : n ≤ l.length
  · rw [if_pos (by omega), List.drop_drop, List.drop_append_of_le_length (by omega)]
    congr 2
    omega
  · rw [if_neg (by omega), show l.length - n = 0 by omega, show l.length + 1 - n = 0 by omega]
    rfl
/-- the cells B .. B + 4 n - 1 and the count A alone have changed -/
def FrB (A B n : Nat) (M M' : Mem) : Prop := M'.1 = M.1 ∧ (∀ o, o ≠ 121 → ∀ k, mI M' o k = mI M o k) ∧ (∀ o k, mL M' o k = mL M o k) ∧ (∀ b, b ≠ A → (b < B ∨ B + 4 * n ≤ b) → mI M' 121 b = mI M 121 b)
theorem FrB.rf (A B n : Nat) (M : Mem) : FrB A B n M M := ⟨rfl, fun _ _ _ => rfl, fun _ _ => rfl, fun _ _ _ => rfl⟩
theorem FrB.tr {A B n : Nat} {M M' M'' : Mem} (h : FrB A B n M M') (h' : FrB A B n M' M'') : FrB A B n M M'' :=
  ⟨h'.1.trans h.1, fun o q k => (h'.2.1 o q k).trans (h.2.1 o q k), fun o k => (h'.2.2.1 o k).trans (h.2.2.1 o k), fun b q1 q2 => (h'.2.2.2 b q1 q2).trans (h.2.2.2 b q1 q2)⟩
theorem FrB.s {A B n b : Nat} {M : Mem} {x : Int32} (h : b = A ∨ (B ≤ b ∧ b < B + 4 * n)) : FrB A B n M (sI M 121 b x) :=
  ⟨rfl, fun o q k => mI_o _ _ _ _ _ q, fun _ _ => rfl, fun c h1 h2 => mI_n _ _ _ _ (by omega)⟩
theorem FrB.toFr {A B n : Nat} {M M' : Mem} (h : FrB A B n M M') : Fr PA M M' :=
  ⟨h.1, fun o q k => h.2.1 o (fun e => q (e ▸ ⟨by decide, by decide⟩)) k, fun o k => h.2.2.1 o k⟩
set_option maxHeartbeats 1000000 in
theorem shift_E {v1 v2 v3 : Int32} (v : Int32) : ∀ (d : Nat) (M : Mem) (n : Nat), RS M → d ≤ 116 → d + 1 ≤ n → ∃ M1 n', f_X10_enter_237 n 120 v v2 v3 (nI (10029 - d)) M = f_X10_enter_237 (n' + 1) 120 v v2 v3 (nI 10029) M1 ∧ FrB 9857 9913 30 M M1 ∧ mI M1 121 9857 = mI M 121 9857 ∧ (∀ b, b < 10029 → 10029 - d ≤ b → mI M1 121 b = mI M 121 (b + 4)) ∧ (∀ b, b < 10029 - d ∨ 10029 ≤ b → mI M1 121 b = mI M 121 b) := by
  intro d
  induction d with
  | zero =>
    intro M n hS hd hn
    obtain ⟨n, rfl⟩ : ∃ m, n = m + 1 := ⟨n - 1, by omega⟩
    exact ⟨M, n, rfl, FrB.rf _ _ _ _, rfl, fun b h1 h2 => by omega, fun _ _ => rfl⟩
  | succ d ih =>
    intro M n hS hd hn
    obtain ⟨n, rfl⟩ : ∃ m, n = m + 1 := ⟨n - 1, by omega⟩
    generalize hMa : sI M 121 (10029 - (d + 1)) (mI M 121 (10029 - (d + 1) + 4)) = Ma
    have hSa : RS Ma := by subst hMa; exact hS.e rfl
    obtain ⟨M1, n', i1, i2, i3, i4, i5⟩ := ih Ma n hSa (by omega) (by omega)
    refine ⟨M1, n', ?_, FrB.tr ?_ i2, ?_, fun b h1 h2 => ?_, fun b h1 => ?_⟩
    · rw [← i1, f_X10_enter_237, if_neg (by rw [show (10029 : Int32) = nI 10029 from rfl]; exact nI_ge (by omega) (by omega)), rs_f hS, rs_0 hS, bnd_e, rs_fa hS, bnd_e, rs_fa hS, show nI (10029 - (d + 1)) + (4 : Int32) = nI (10029 - (d + 1) + 4) by rw [show (4 : Int32) = nI 4 from rfl, nI_add], rs_c hS (by omega), rs_c hS (by omega), bnd_e, cl_n (by omega), cl_n (by omega), hMa, nI_1, bnd_e]
      congr 2
      omega
    · rw [← hMa]; exact FrB.s (Or.inr (by omega))
    · rw [i3, ← hMa, mI_n _ _ _ _ (by omega)]
    · by_cases c : b = 10029 - (d + 1)
      · rw [i5 b (by omega), ← hMa, c, mI_s]
      · rw [i4 b h1 (by omega), ← hMa, mI_n _ _ _ _ (by omega)]
    · rw [i5 b (by omega), ← hMa, mI_n _ _ _ _ (by omega)]
set_option maxHeartbeats 1000000 in
theorem shift_T {v1 v2 v3 v4 : Int32} : ∀ (d : Nat) (M : Mem) (n : Nat), RS M → d ≤ 156 → d + 1 ≤ n → ∃ M1 n', n ≤ n' + 1 + d ∧ f_X10_writeTrace_18 n 120 v1 v2 v3 v4 (nI (10189 - d)) M = f_X10_writeTrace_18 (n' + 1) 120 v1 v2 v3 v4 (nI 10189) M1 ∧ FrB 9858 10033 40 M M1 ∧ mI M1 121 9858 = mI M 121 9858 ∧ (∀ b, b < 10189 → 10189 - d ≤ b → mI M1 121 b = mI M 121 (b + 4)) ∧ (∀ b, b < 10189 - d ∨ 10189 ≤ b → mI M1 121 b = mI M 121 b) := by
  intro d
  induction d with
  | zero =>
    intro M n hS hd hn
    obtain ⟨n, rfl⟩ : ∃ m, n = m + 1 := ⟨n - 1, by omega⟩
    exact ⟨M, n, by omega, rfl, FrB.rf _ _ _ _, rfl, fun b h1 h2 => by omega, fun _ _ => rfl⟩
  | succ d ih =>
    intro M n hS hd hn
    obtain ⟨n, rfl⟩ : ∃ m, n = m + 1 := ⟨n - 1, by omega⟩
    generalize hMa : sI M 121 (10189 - (d + 1)) (mI M 121 (10189 - (d + 1) + 4)) = Ma
    have hSa : RS Ma := by subst hMa; exact hS.e rfl
    obtain ⟨M1, n', i0, i1, i2, i3, i4, i5⟩ := ih Ma n hSa (by omega) (by omega)
    refine ⟨M1, n', by omega, ?_, FrB.tr ?_ i2, ?_, fun b h1 h2 => ?_, fun b h1 => ?_⟩
    · rw [← i1, f_X10_writeTrace_18, if_neg (by rw [show (10189 : Int32) = nI 10189 from rfl]; exact nI_ge (by omega) (by omega)), rs_f hS, rs_0 hS, bnd_e, rs_fa hS, bnd_e, rs_fa hS, show nI (10189 - (d + 1)) + (4 : Int32) = nI (10189 - (d + 1) + 4) by rw [show (4 : Int32) = nI 4 from rfl, nI_add], rs_c hS (by omega), rs_c hS (by omega), bnd_e, cl_n (by omega), cl_n (by omega), hMa, nI_1, bnd_e]
      congr 2
      omega
    · rw [← hMa]; exact FrB.s (Or.inr (by omega))
    · rw [i3, ← hMa, mI_n _ _ _ _ (by omega)]
    · by_cases c : b = 10189 - (d + 1)
      · rw [i5 b (by omega), ← hMa, c, mI_s]
      · rw [i4 b h1 (by omega), ← hMa, mI_n _ _ _ _ (by omega)]
    · rw [i5 b (by omega), ← hMa, mI_n _ _ _ _ (by omega)]
/-- one row put behind m others -/
def put4 (M : Mem) (B m : Nat) (q : Row4) : Mem := sI (sI (sI (sI M 121 (B + 4 * m) q.1) 121 (B + 4 * m + 1) q.2.1) 121 (B + 4 * m + 2) q.2.2.1) 121 (B + 4 * m + 3) q.2.2.2
theorem put4_o (M : Mem) (B m : Nat) (q : Row4) {b : Nat} (h : b < B + 4 * m ∨ B + 4 * m + 3 < b) : mI (put4 M B m q) 121 b = mI M 121 b := by
  unfold put4
  rw [mI_n _ _ _ _ (by omega), mI_n _ _ _ _ (by omega), mI_n _ _ _ _ (by omega), mI_n _ _ _ _ (by omega)]
theorem put4_s (M : Mem) (B m : Nat) (q : Row4) : mI (put4 M B m q) 121 (B + 4 * m) = q.1 ∧ mI (put4 M B m q) 121 (B + 4 * m + 1) = q.2.1 ∧ mI (put4 M B m q) 121 (B + 4 * m + 2) = q.2.2.1 ∧ mI (put4 M B m q) 121 (B + 4 * m + 3) = q.2.2.2 := by
  unfold put4
  refine ⟨?_, ?_, ?_, ?_⟩
  · rw [mI_n _ _ _ _ (by omega), mI_n _ _ _ _ (by omega), mI_n _ _ _ _ (by omega), mI_s]
  · rw [mI_n _ _ _ _ (by omega), mI_n _ _ _ _ (by omega), mI_s]
  · rw [mI_n _ _ _ _ (by omega), mI_s]
  · rw [mI_s]
theorem put4_F {A B n m : Nat} (M : Mem) (q : Row4) (h : m < n) : FrB A B n M (put4 M B m q) := by
  unfold put4
  exact FrB.tr (FrB.s (Or.inr (by omega))) (FrB.tr (FrB.s (Or.inr (by omega))) (FrB.tr (FrB.s (Or.inr (by omega))) (FrB.s (Or.inr (by omega)))))
theorem Rows.put {M : Mem} {B : Nat} {xs : List Row4} (h : Rows M B xs) (q : Row4) : Rows (put4 M B xs.length q) B (xs ++ [q]) := by
  intro i z hi
  by_cases c : i < xs.length
  · rw [List.getElem?_append_left c] at hi
    rw [put4_o _ _ _ _ (by omega), put4_o _ _ _ _ (by omega), put4_o _ _ _ _ (by omega), put4_o _ _ _ _ (by omega)]
    exact h i z hi
  · rw [List.getElem?_append_right (by omega)] at hi
    have hl := (List.getElem?_eq_some_iff.mp hi).1
    rw [List.length_singleton] at hl
    have e : i = xs.length := by omega
    subst e
    rw [Nat.sub_self] at hi
    simp at hi
    rw [← hi]
    exact put4_s _ _ _ _
theorem Rows.cg {M M' : Mem} {B : Nat} {xs : List Row4} (h : Rows M B xs) (e : ∀ b, B ≤ b → b < B + 4 * xs.length → mI M' 121 b = mI M 121 b) : Rows M' B xs := by
  intro i q hi
  have hl := (List.getElem?_eq_some_iff.mp hi).1
  rw [e _ (by omega) (by omega), e _ (by omega) (by omega), e _ (by omega) (by omega), e _ (by omega) (by omega)]
  exact h i q hi
theorem Rows.sh {M M' : Mem} {B : Nat} {xs : List Row4} (h : Rows M B xs) (e : ∀ b, B ≤ b → b + 4 < B + 4 * xs.length → mI M' 121 b = mI M 121 (b + 4)) : Rows M' B (xs.drop 1) := by
  intro i q hi
  rw [List.getElem?_drop] at hi
  have hl := (List.getElem?_eq_some_iff.mp hi).1
  rw [e _ (by omega) (by omega), e _ (by omega) (by omega), e _ (by omega) (by omega), e _ (by omega) (by omega)]
  have := h (1 + i) q hi
  rw [show B + 4 * i + 4 = B + 4 * (1 + i) by omega, show B + 4 * i + 1 + 4 = B + 4 * (1 + i) + 1 by omega, show B + 4 * i + 2 + 4 = B + 4 * (1 + i) + 2 by omega, show B + 4 * i + 3 + 4 = B + 4 * (1 + i) + 3 by omega]
  exact this
/-- RV behind a change of the book -/
theorem RV.bookE {M M' : Mem} {tw : Bool} {t : Int32} {S : St} {pb pt : List Row4} (h : RV M tw t S pb pt) (x : Row4) (f : FrB 9857 9913 30 M M') (hb : RVb M' 9857 9913 30 (pb ++ (xE S ++ [x]))) : RV M' tw t (uE S x) pb pt := by
  obtain ⟨hS, ht, hA, hw, hl, hb1, hb2⟩ := h
  refine ⟨hS.e f.1, (f.2.1 120 (by decide) 3).trans ht, fun k i hv => ?_, hw.cg (fun b _ _ => f.2.2.2 b (by omega) (by omega)) rfl, ⟨?_, hl.2.1, hl.2.2.cg fun j _ hj => ⟨?_, ?_⟩⟩, hb, hb2.cg (f.2.2.2 _ (by omega) (by omega)) (fun b _ _ => f.2.2.2 _ (by omega) (by omega))⟩
  · have := ad_lim hv
    rw [f.2.2.2 _ (by omega) (by omega)]; exact hA k i hv
  · rw [f.2.2.2 _ (by omega) (by omega)]; exact hl.1
  · have := hl.2.1
    exact f.2.2.2 _ (by omega) (by omega)
  · exact f.2.1 123 (by decide) _
theorem RV.bookT {M M' : Mem} {tw : Bool} {t : Int32} {S : St} {pb pt : List Row4} (h : RV M tw t S pb pt) (x : Row4) (f : FrB 9858 10033 40 M M') (hb : RVb M' 9858 10033 40 (pt ++ (xT S ++ [x]))) : RV M' tw t (uT S x) pb pt := by
  obtain ⟨hS, ht, hA, hw, hl, hb1, hb2⟩ := h
  refine ⟨hS.e f.1, (f.2.1 120 (by decide) 3).trans ht, fun k i hv => ?_, hw.cg (fun b _ _ => f.2.2.2 b (by omega) (by omega)) rfl, ⟨?_, hl.2.1, hl.2.2.cg fun j _ hj => ⟨?_, ?_⟩⟩, hb1.cg (f.2.2.2 _ (by omega) (by omega)) (fun b _ _ => f.2.2.2 _ (by omega) (by omega)), hb⟩
  · have := ad_lim hv
    rw [f.2.2.2 _ (by omega) (by omega)]; exact hA k i hv
  · rw [f.2.2.2 _ (by omega) (by omega)]; exact hl.1
  · have := hl.2.1
    exact f.2.2.2 _ (by omega) (by omega)
  · exact f.2.1 123 (by decide) _
theorem RVb.push {M Ma Mb : Mem} {A B n : Nat} (hn : 0 < n) (hA : A < B ∨ B + 4 * n ≤ A) {xs : List Row4} (h : RVb M A B n xs) (q : Row4) (m : Nat) (hm : m = if (lastn n xs).length = n then n - 1 else (lastn n xs).length) (ha : Rows Ma B (if (lastn n xs).length = n then (lastn n xs).drop 1 else lastn n xs)) (e : Mb = sI (put4 Ma B m q) 121 A (nI (m + 1))) : RVb Mb A B n (xs ++ [q]) := by
  subst e
  have hle := lastn_le n xs
  have hlen : (if (lastn n xs).length = n then (lastn n xs).drop 1 else lastn n xs).length = m := by
    rw [hm]
    by_cases c : (lastn n xs).length = n
    · rw [if_pos c, if_pos c, List.length_drop, c]
    · rw [if_neg c, if_neg c]
  have hmn : m < n := by
    rw [hm]
    by_cases c : (lastn n xs).length = n
    · rw [if_pos c]; omega
    · rw [if_neg c]; omega
  refine ⟨?_, ?_⟩
  · rw [mI_s, lastn_push n hn, List.length_append, hlen, List.length_singleton]
  · rw [lastn_push n hn]
    have := ha.put q
    rw [hlen] at this
    refine this.cg fun b h1 h2 => mI_n _ _ _ _ ?_
    rw [List.length_append, hlen, List.length_singleton] at h2
    omega
theorem c4i (B m : Nat) : nI B + ((4 : Int32) * nI m) = nI (B + 4 * m) := by rw [show (4 : Int32) = nI 4 from rfl, pk_mul, nI_add]
set_option maxHeartbeats 1000000 in
theorem RV.w279 {M : Mem} (hS : RS M) {m v : Nat} (hv : v < 16) (hm : m < 30) (hA : mI M 121 9857 = nI m) (x y : Int32) (n : Nat) : f_X10_enter_279 n 120 (nI v) x y M = some (sI (put4 M 9913 m (nI v, mI M 121 (18 + 8 * v + 2), x, y)) 121 9857 (nI (m + 1))) := by
  generalize hMa : sI M 121 (9913 + 4 * m) (nI v) = Ma
  generalize hMb : sI Ma 121 (9913 + 4 * m + 1) (mI M 121 (18 + 8 * v + 2)) = Mb
  generalize hMc : sI Mb 121 (9913 + 4 * m + 2) x = Mc
  generalize hMd : sI Mc 121 (9913 + 4 * m + 3) y = Md
  have hSa : RS Ma := by subst hMa; exact hS.e rfl
  have hSb : RS Mb := by subst hMb; exact hSa.e rfl
  have hSc : RS Mc := by subst hMc; exact hSb.e rfl
  have hSd : RS Md := by subst hMd; exact hSc.e rfl
  have hp : put4 M 9913 m (nI v, mI M 121 (18 + 8 * v + 2), x, y) = Md := by
    unfold put4
    rw [hMa, hMb, hMc, hMd]
  have g2 : f_X10_get 120 (nI v) (2 : Int32) Ma = some (mI M 121 (18 + 8 * v + 2)) := by
    have := f_get hSa.toRK hv (w := 2) (by decide)
    rw [← hMa] at this ⊢
    rw [mI_n _ _ _ _ (by omega)] at this
    exact this
  have hB : mI Md 121 9857 = nI m := by
    rw [← hMd, mI_n _ _ _ _ (by omega), ← hMc, mI_n _ _ _ _ (by omega), ← hMb, mI_n _ _ _ _ (by omega), ← hMa, mI_n _ _ _ _ (by omega)]
    exact hA
  rw [hp, f_X10_enter_279, rs_f hS, rs_0 hS, bnd_e, rs_fa hS, show (9857 : Int32) = nI 9857 from rfl, rs_c hS (by decide), mI_c (by decide), hA, show (9913 : Int32) = nI 9913 from rfl, c4i, bnd_e, bnd_e, rs_fa hS, rs_c hS (by omega), bnd_e, cl_n (by omega), hMa, rs_0 hSa, bnd_e, rs_fa hSa, g2, obd_s, nI_1, rs_c hSa (by omega), bnd_e, cl_n (by omega), hMb, rs_0 hSb, bnd_e, rs_fa hSb, show nI (9913 + 4 * m) + (2 : Int32) = nI (9913 + 4 * m + 2) by rw [show (2 : Int32) = nI 2 from rfl, nI_add], rs_c hSb (by omega), bnd_e, cl_n (by omega), hMc, rs_0 hSc, bnd_e, rs_fa hSc, show nI (9913 + 4 * m) + (3 : Int32) = nI (9913 + 4 * m + 3) by rw [show (3 : Int32) = nI 3 from rfl, nI_add], rs_c hSc (by omega), bnd_e, cl_n (by omega), hMd, rs_0 hSd, bnd_e, rs_fa hSd, rs_c hSd (by decide), rs_c hSd (by decide), bnd_e, cl_n (by decide), hB, nI_1]
/-! ===== one enters; a bringing is written down ===== -/
set_option maxHeartbeats 1000000 in
theorem RV.e217 {M : Mem} {tw : Bool} {t : Int32} {S : St} {pb pt : List Row4} (h : RV M tw t S pb pt) {v : Nat} (hv : v < 16) (x y : Int32) {n : Nat} (hn : 130 ≤ n) : ∃ M', (if mI M 121 9857 = (30 : Int32) then f_X10_enter_237 n 120 (nI v) x y (9913 : Int32) M else f_X10_enter_279 n 120 (nI v) x y M) = some M' ∧ RV M' tw t (uE S (nI v, xR S 2 v, x, y)) pb pt ∧ Fr PA M M' := by
  have hB := h.2.2.2.2.2.1
  have hle := lastn_le 30 (pb ++ xE S)
  have g2 : mI M 121 (18 + 8 * v + 2) = xR S 2 v := h.rg (vk_n (k := 2) (by decide) hv)
  by_cases c : (lastn 30 (pb ++ xE S)).length = 30
  · have hc : mI M 121 9857 = (30 : Int32) := by rw [hB.1, c]; rfl
    rw [if_pos hc]
    obtain ⟨M1, n', i1, i2, i3, i4, i5⟩ := shift_E (v1 := 0) (v2 := x) (v3 := y) (nI v) 116 M n h.1 (by decide) (by omega)
    rw [show nI (10029 - 116) = (9913 : Int32) from rfl] at i1
    generalize hMa : sI M1 121 9857 (nI 29) = Ma
    have hS1 : RS M1 := h.1.e i2.1
    have hSa : RS Ma := by subst hMa; exact hS1.e rfl
    have q279 := RV.w279 hSa hv (m := 29) (by decide) (by rw [← hMa, mI_s]) x y n'
    have ga : mI Ma 121 (18 + 8 * v + 2) = xR S 2 v := by
      rw [← hMa, mI_n _ _ _ _ (by omega), i5 _ (by omega)]; exact g2
    rw [ga] at q279
    refine ⟨sI (put4 Ma 9913 29 (nI v, xR S 2 v, x, y)) 121 9857 (nI (29 + 1)), ?_, h.bookE _ (FrB.tr i2 (FrB.tr (M' := Ma) ?_ (FrB.tr (put4_F (n := 30) (m := 29) Ma _ (by decide)) (FrB.s (Or.inl rfl))))) ?_, ?_⟩
    · rw [i1, f_X10_enter_237, if_pos (by rw [show (10029 : Int32) = nI 10029 from rfl]; exact nI_le (Nat.le_refl _) (by decide)), rs_f hS1, rs_0 hS1, bnd_e, rs_fa hS1, show (9857 : Int32) = nI 9857 from rfl, rs_c hS1 (by decide), rs_c hS1 (by decide), bnd_e, cl_n (by decide), i3, hc, show (30 : Int32) - 1 = nI 29 from rfl, hMa, q279]
    · rw [← hMa]; exact FrB.s (Or.inl rfl)
    · rw [← List.append_assoc]
      refine RVb.push (M := M) (Ma := Ma) (by decide) (Or.inl (by decide)) hB _ 29 (by rw [if_pos c]) ?_ rfl
      rw [if_pos c]
      refine hB.2.sh fun b h1 h2 => ?_
      rw [c] at h2
      rw [← hMa, mI_n _ _ _ _ (by omega), i4 b (by omega) (by omega)]
    · refine Fr.tr i2.toFr (Fr.tr (M' := Ma) ?_ (Fr.tr (put4_F (A := 9857) (n := 30) (m := 29) Ma _ (by decide)).toFr (Fr.tsI ⟨by decide, by decide⟩)))
      rw [← hMa]; exact Fr.tsI ⟨by decide, by decide⟩
  · have hc : ¬ mI M 121 9857 = (30 : Int32) := by
      rw [hB.1, show (30 : Int32) = nI 30 from rfl]
      exact fun q => c ((nI_eq (by omega) (by decide)).mp q)
    rw [if_neg hc]
    have q279 := RV.w279 h.1 hv (m := (lastn 30 (pb ++ xE S)).length) (by omega) hB.1 x y n
    rw [g2] at q279
    refine ⟨_, q279, h.bookE _ (FrB.tr (put4_F (n := 30) M _ (by omega)) (FrB.s (Or.inl rfl))) ?_, Fr.tr (put4_F (A := 9857) (n := 30) M _ (by omega)).toFr (Fr.tsI ⟨by decide, by decide⟩)⟩
    rw [← List.append_assoc]
    refine RVb.push (M := M) (Ma := M) (by decide) (Or.inl (by decide)) hB _ _ (by rw [if_neg c]) ?_ rfl
    rw [if_neg c]
    exact hB.2
/-- somebody asks that is ahead of v -/
def ovr (N v : Nat) (S : St) : Bool := (List.range N).any fun w => decide (xR S 0 w = 1) && ahd (xR S 2 w) (nI w) (xR S 2 v) (nI v)
def ovr' (i d v : Nat) (S : St) : Bool := (List.range' i d).any fun w => decide (xR S 0 w = 1) && ahd (xR S 2 w) (nI w) (xR S 2 v) (nI v)
theorem RV.e136 {M : Mem} {tw : Bool} {t : Int32} {S : St} {pb pt : List Row4} (h : RV M tw t S pb pt) {N : Nat} (hN : xR S 20 0 = nI N) (h16 : N ≤ 16) {v : Nat} (hv : v < 16) (x y : Int32) : ∀ (d i : Nat) (b : Bool) (n : Nat), i + d = N → d + 131 ≤ n → ∃ n', 130 ≤ n' ∧ f_X10_enter_136 n 120 (nI v) x y (if b then 1 else 0) (nI i) M = f_X10_enter_217 n' 120 (nI v) x y (if b || ovr' i d v S then 1 else 0) (xR S 15 5) (9856 : Int32) 121 M := by
  intro d
  induction d with
  | zero =>
    intro i b n hi hn
    obtain ⟨n, rfl⟩ : ∃ m, n = m + 1 := ⟨n - 1, by omega⟩
    have hi2 : i = N := by omega
    subst hi2
    refine ⟨n, by omega, ?_⟩
    have e5 : mI M 121 9856 = xR S 15 5 := h.rg (k := 15) (i := 5) (by unfold vk; omega)
    rw [f_X10_enter_136, rs_f h.1, rs_0 h.1, bnd_e, rs_fa h.1, rs_c0 h.1, cl0, h.N hN, if_pos (nI_le (Nat.le_refl _) (by omega)), bnd_e, rs_fa h.1, show (9856 : Int32) = nI 9856 from rfl, rs_c h.1 (by decide), mI_c (by decide), e5]
    have : ovr' i 0 v S = false := rfl
    rw [this, Bool.or_false]
    cases b
    · rfl
    · rfl
  | succ d ih =>
    intro i b n hi hn
    obtain ⟨n, rfl⟩ : ∃ m, n = m + 1 := ⟨n - 1, by omega⟩
    have eo : ovr' i (d + 1) v S = ((decide (xR S 0 i = 1) && ahd (xR S 2 i) (nI i) (xR S 2 v) (nI v)) || ovr' (i + 1) d v S) := by
      unfold ovr'
      rw [List.range'_succ, List.any_cons]
    obtain ⟨n', h1, h2⟩ := ih (i + 1) (b || (decide (xR S 0 i = 1) && ahd (xR S 2 i) (nI i) (xR S 2 v) (nI v))) n (by omega) (by omega)
    refine ⟨n', h1, ?_⟩
    rw [eo, ← Bool.or_assoc, ← h2, f_X10_enter_136, rs_f h.1, rs_0 h.1, bnd_e, rs_fa h.1, rs_c0 h.1, cl0, h.N hN, if_neg (nI_ge (by omega) (by omega))]
    simp only [bnd_e, nI_1]
    cases b with
    | true => rw [if_neg (by decide)]; rfl
    | false =>
      rw [if_pos (by rfl), h.get0 (by omega), obd_s, Bool.false_or]
      by_cases c : xR S 0 i = 1
      · rw [if_pos c, h.get2 (by omega), obd_s, h.get2 hv, obd_s, f_ah10, obd_s]
        cases ha : ahd (xR S 2 i) (nI i) (xR S 2 v) (nI v)
        · simp [c]
        · simp [c, ne10]
      · rw [if_neg c]; simp [c]
def en0 (t : Int32) (N v : Nat) (S : St) : St :=
  let S1 := uR (uR (uR (uR S 0 v 2) 5 v 0) 15 0 (xR S 15 0 + 1)) 12 v (xR S 12 v + 1)
  let x := xR S 15 1 - xR S 13 v
  let y := xR S 14 v
  let S2 := if x ≤ xR S 15 4 then S1 else uR S1 15 4 x
  let S3 := if y ≤ xR S 15 3 then S2 else uR S2 15 3 y
  let S4 := if pcI N S3 ≤ 1 then S3 else uR S3 15 2 (xR S3 15 2 + 1)
  let S5 := uR S4 15 5 (xR S4 15 5 + (if ovr N v S4 then 1 else 0))
  uE S5 (nI v, xR S5 2 v, x, y)
theorem c9865 (v : Nat) : (9865 : Int32) + ((3 : Int32) * nI v) = nI (9865 + 3 * v) := by rw [show (9865 : Int32) = nI 9865 from rfl, show (3 : Int32) = nI 3 from rfl, pk_mul, nI_add]
theorem RV.cnt {M : Mem} {tw : Bool} {t : Int32} {S : St} {pb pt : List Row4} (h : RV M tw t S pb pt) {v w : Nat} (hv : v < 16) (hw : w < 3) : f_X10_countOf 120 (nI v) (nI w) M = some (xR S (12 + w) v) := by
  have e : mI M 121 (9865 + 3 * v + w) = xR S (12 + w) v := by
    have hk : vk (12 + w) v := by unfold vk; omega
    have := h.rg hk
    rwa [show ad (12 + w) v = 9865 + 3 * v + w by have := ad_cases hk; omega] at this
  rw [f_X10_countOf, rs_f h.1, rs_0 h.1, bnd_e, rs_fa h.1, c9865, nI_add, rs_c h.1 (by omega), cl_n (by omega), e]
theorem pcI_uR {N : Nat} {S : St} {k i : Nat} {x : Int32} (hk : k ≠ 0) : pcI N (uR S k i x) = pcI N S := by
  unfold pcI
  congr 1
  apply List.filter_congr
  intro w _
  rw [xR_uR, if_neg (fun q => hk q.1.symm)]
set_option maxHeartbeats 2000000 in
theorem RV.ten0 {M : Mem} {tw : Bool} {t : Int32} {S : St} {pb pt : List Row4} (h : RV M tw t S pb pt) {N : Nat} (hN : xR S 20 0 = nI N) (h16 : N ≤ 16) {v : Nat} (hv : v < 16) {n : Nat} (hn : 200 ≤ n) : ∃ M', f_X10_enter n 120 (nI v) M = some M' ∧ RV M' tw t (en0 t N v S) pb pt ∧ Fr PA M M' := by
  have v15 : ∀ i, i < 6 → vk 15 i := fun i hi => by unfold vk; omega
  have v12 : vk 12 v := by unfold vk; omega
  have h1 := h.st (vk_n (k := 0) (by decide) hv) 2
  have h2 := h1.st (vk_n (k := 5) (by decide) hv) 0
  have h3 := h2.st (v15 0 (by decide)) (xR S 15 0 + 1)
  have h4 := h3.st v12 (xR S 12 v + 1)
  generalize hM1 : sI M 121 (ad 0 v) 2 = M1 at h1 h2 h3 h4
  generalize hM2 : sI M1 121 (ad 5 v) 0 = M2 at h2 h3 h4
  generalize hM3 : sI M2 121 (ad 15 0) (xR S 15 0 + 1) = M3 at h3 h4
  generalize hM4 : sI M3 121 (ad 12 v) (xR S 12 v + 1) = M4 at h4
  have F1 : Fr PA M M1 := by rw [← hM1]; exact Fr.tad
  have F2 : Fr PA M1 M2 := by rw [← hM2]; exact Fr.tad
  have F3 : Fr PA M2 M3 := by rw [← hM3]; exact Fr.tad
  have F4 : Fr PA M3 M4 := by rw [← hM4]; exact Fr.tad
  generalize hS4 : uR (uR (uR (uR S 0 v 2) 5 v 0) 15 0 (xR S 15 0 + 1)) 12 v (xR S 12 v + 1) = S4 at h4
  have r151 : xR S4 15 1 = xR S 15 1 := by subst hS4; simp [xR_uR]
  have r154 : xR S4 15 4 = xR S 15 4 := by subst hS4; simp [xR_uR]
  have r153 : xR S4 15 3 = xR S 15 3 := by subst hS4; simp [xR_uR]
  have r13 : xR S4 13 v = xR S 13 v := by subst hS4; simp [xR_uR]
  have r14 : xR S4 14 v = xR S 14 v := by subst hS4; simp [xR_uR]
  have hN4 : xR S4 20 0 = nI N := by subst hS4; simpa [xR_uR] using hN
  have a150 : mI M2 121 9851 = xR S 15 0 := by
    have := h2.rg (v15 0 (by decide))
    rw [show ad 15 0 = 9851 from rfl] at this
    rw [this]; simp [xR_uR]
  have a12 : mI M3 121 (9865 + 3 * v) = xR S 12 v := by
    have := h3.rg v12
    rw [show ad 12 v = 9865 + 3 * v by have := ad_cases v12; omega] at this
    rw [this]; simp [xR_uR]
  have a151 : mI M4 121 9852 = xR S 15 1 := (h4.rg (v15 1 (by decide))).trans r151
  have a154 : mI M4 121 9855 = xR S 15 4 := (h4.rg (v15 4 (by decide))).trans r154
  -- the tail
  have tail : ∀ {M : Mem} {S : St} (_ : RV M tw t S pb pt) (_ : xR S 20 0 = nI N) (x y : Int32) (n : Nat), 190 ≤ n → ∃ M', f_X10_enter_107 n 120 (nI v) x y M = some M' ∧ RV M' tw t (let S4 := if pcI N S ≤ 1 then S else uR S 15 2 (xR S 15 2 + 1); let S5 := uR S4 15 5 (xR S4 15 5 + (if ovr N v S4 then 1 else 0)); uE S5 (nI v, xR S5 2 v, x, y)) pb pt ∧ Fr PA M M' := by
    intro M S h hN x y n hn
    obtain ⟨msk, g1, g2⟩ := h.insd hN h16 (n := n) (by omega)
    have hm := f_many (x := msk) (fun i hi1 hi2 => by rw [g2 i hi2]; simp; omega) (n := n) (by omega) M
    have hpc := pc_mask g2
    have p32 := pc_le msk
    have last : ∀ {M : Mem} {S : St} (_ : RV M tw t S pb pt) (_ : xR S 20 0 = nI N) (n : Nat), 190 ≤ n → ∃ M', f_X10_enter_136 n 120 (nI v) x y 0 0 M = some M' ∧ RV M' tw t (let S5 := uR S 15 5 (xR S 15 5 + (if ovr N v S then 1 else 0)); uE S5 (nI v, xR S5 2 v, x, y)) pb pt ∧ Fr PA M M' := by
      intro M S h hN n hn
      obtain ⟨n', q1, q2⟩ := h.e136 hN h16 hv x y N 0 false n (by omega) (by omega)
      have eo : ovr' 0 N v S = ovr N v S := by
        unfold ovr' ovr
        rw [List.range_eq_range']
      rw [Bool.false_or, eo] at q2
      have q2' : f_X10_enter_136 n 120 (nI v) x y 0 0 M = f_X10_enter_217 n' 120 (nI v) x y (if ovr N v S then 1 else 0) (xR S 15 5) (9856 : Int32) 121 M := q2
      have h5 := h.st (v15 5 (by decide)) (xR S 15 5 + (if ovr N v S then 1 else 0))
      generalize hM5 : sI M 121 (ad 15 5) (xR S 15 5 + (if ovr N v S then 1 else 0)) = M5 at h5
      obtain ⟨M6, e6, h6, f6⟩ := h5.e217 hv x y (n := n') (by omega)
      refine ⟨M6, ?_, h6, Fr.tr (M' := M5) ?_ f6⟩
      · rw [q2', f_X10_enter_217, rs_fa h.1, show (9856 : Int32) = nI 9856 from rfl, rs_c h.1 (by decide), bnd_e, cl_n (by decide), show (9856 : Nat) = ad 15 5 from rfl, hM5, rs_f h5.1, rs_0 h5.1, bnd_e, rs_fa h5.1, show (9857 : Int32) = nI 9857 from rfl, rs_c h5.1 (by decide), cl_n (by decide)]
        exact e6
      · rw [← hM5]; exact Fr.tad
    by_cases c : pcI N S ≤ 1
    · obtain ⟨M', e', h', f'⟩ := last h hN n hn
      refine ⟨M', ?_, ?_, f'⟩
      · rw [f_X10_enter_107, rs_f h.1, g1, obd_s, hm, obd_s, hpc, if_pos (by rw [show (1 : Int32) = nI 1 from rfl]; exact nI_le c (by decide)), e']
      · rw [if_pos c]; exact h'
    · have h5 := h.st (v15 2 (by decide)) (xR S 15 2 + 1)
      generalize hM5 : sI M 121 (ad 15 2) (xR S 15 2 + 1) = M5 at h5
      have a152 : mI M 121 9853 = xR S 15 2 := h.rg (v15 2 (by decide))
      obtain ⟨M', e', h', f'⟩ := last h5 (by simpa [xR_uR] using hN) n hn
      refine ⟨M', ?_, ?_, Fr.tr (M' := M5) ?_ f'⟩
      · rw [f_X10_enter_107, rs_f h.1, g1, obd_s, hm, obd_s, hpc, if_neg (by rw [show (1 : Int32) = nI 1 from rfl]; exact nI_ge (by omega) (by omega)), rs_0 h.1, bnd_e, rs_fa h.1, show (9853 : Int32) = nI 9853 from rfl, rs_c h.1 (by decide), rs_c h.1 (by decide), bnd_e, cl_n (by decide), a152, show (9853 : Nat) = ad 15 2 from rfl, hM5, e']
      · rw [if_neg c]; exact h'
      · rw [← hM5]; exact Fr.tad
  have mid : ∀ {M : Mem} {S : St} (_ : RV M tw t S pb pt) (_ : xR S 20 0 = nI N) (x y : Int32) (n : Nat), 190 ≤ n → ∃ M', f_X10_enter_86 n 120 (nI v) x y M = some M' ∧ RV M' tw t (let S3 := if y ≤ xR S 15 3 then S else uR S 15 3 y; let S4 := if pcI N S3 ≤ 1 then S3 else uR S3 15 2 (xR S3 15 2 + 1); let S5 := uR S4 15 5 (xR S4 15 5 + (if ovr N v S4 then 1 else 0)); uE S5 (nI v, xR S5 2 v, x, y)) pb pt ∧ Fr PA M M' := by
    intro M S h hN x y n hn
    have a153 : mI M 121 9854 = xR S 15 3 := h.rg (v15 3 (by decide))
    by_cases c : y ≤ xR S 15 3
    · obtain ⟨M', e', h', f'⟩ := tail h hN x y n hn
      refine ⟨M', ?_, ?_, f'⟩
      · rw [f_X10_enter_86, rs_f h.1, rs_0 h.1, bnd_e, rs_fa h.1, show (9854 : Int32) = nI 9854 from rfl, rs_c h.1 (by decide), mI_c (by decide), a153, if_pos c, e']
      · rw [if_pos c]; exact h'
    · have h5 := h.st (v15 3 (by decide)) y
      generalize hM5 : sI M 121 (ad 15 3) y = M5 at h5
      obtain ⟨M', e', h', f'⟩ := tail h5 (by simpa [xR_uR] using hN) x y n hn
      refine ⟨M', ?_, ?_, Fr.tr (M' := M5) ?_ f'⟩
      · rw [f_X10_enter_86, rs_f h.1, rs_0 h.1, bnd_e, rs_fa h.1, show (9854 : Int32) = nI 9854 from rfl, rs_c h.1 (by decide), mI_c (by decide), a153, if_neg c, bnd_e, rs_fa h.1, rs_c h.1 (by decide), bnd_e, sI_c (by decide), show (9854 : Nat) = ad 15 3 from rfl, hM5, e']
      · rw [if_neg c]; exact h'
      · rw [← hM5]; exact Fr.tad
  have c1 := h4.cnt (w := 1) hv (by decide)
  have c2 := h4.cnt (w := 2) hv (by decide)
  rw [show 12 + 1 = 13 from rfl, r13, show nI 1 = (1 : Int32) from rfl] at c1
  rw [show 12 + 2 = 14 from rfl, r14, show nI 2 = (2 : Int32) from rfl] at c2
  have open1 : ∀ z, (if xR S 15 1 - xR S 13 v ≤ xR S 15 4 then f_X10_enter_86 n 120 (nI v) (xR S 15 1 - xR S 13 v) (xR S 14 v) M4 else f_X10_enter_86 n 120 (nI v) (xR S 15 1 - xR S 13 v) (xR S 14 v) (sI M4 121 (ad 15 4) (xR S 15 1 - xR S 13 v))) = z → f_X10_enter n 120 (nI v) M = z := by
    intro z hz
    rw [f_X10_enter, rs_f h.1, h.let0 hv, obd_s, hM1, rs_f h1.1, h1.let5 hv, obd_s, hM2, rs_f h2.1, rs_0 h2.1, bnd_e, rs_fa h2.1, show (9851 : Int32) = nI 9851 from rfl, rs_c h2.1 (by decide), rs_c h2.1 (by decide), bnd_e, cl_n (by decide), a150, show (9851 : Nat) = ad 15 0 from rfl, hM3, rs_0 h3.1, bnd_e, rs_fa h3.1, c9865, bnd_e, rs_c h3.1 (by omega), rs_c h3.1 (by omega), bnd_e, cl_n (by omega), a12, show 9865 + 3 * v = ad 12 v by have := ad_cases v12; omega, hM4, rs_0 h4.1, bnd_e, rs_fa h4.1, show (9852 : Int32) = nI 9852 from rfl, rs_c h4.1 (by decide), c1, obd_s, mI_c (by decide), a151, bnd_e, c2, obd_s, bnd_e, rs_fa h4.1, show (9855 : Int32) = nI 9855 from rfl, rs_c h4.1 (by decide), mI_c (by decide), a154]
    by_cases c : xR S 15 1 - xR S 13 v ≤ xR S 15 4
    · rw [if_pos c] at hz ⊢
      exact hz
    · rw [if_neg c] at hz ⊢
      rw [bnd_e, rs_fa h4.1, rs_c h4.1 (by decide), bnd_e, sI_c (by decide)]
      exact hz
  by_cases c : xR S 15 1 - xR S 13 v ≤ xR S 15 4
  · obtain ⟨M', e', h', f'⟩ := mid h4 hN4 (xR S 15 1 - xR S 13 v) (xR S 14 v) n (by omega)
    rw [if_pos c] at open1
    refine ⟨M', open1 _ e', ?_, Fr.tr F1 (Fr.tr F2 (Fr.tr F3 (Fr.tr F4 f')))⟩
    unfold en0
    simp only [hS4]
    rw [if_pos c]
    rw [r153] at h'
    exact h'
  · have h5 := h4.st (v15 4 (by decide)) (xR S 15 1 - xR S 13 v)
    rw [if_neg c] at open1
    generalize hM5 : sI M4 121 (ad 15 4) (xR S 15 1 - xR S 13 v) = M5 at h5 open1
    obtain ⟨M', e', h', f'⟩ := mid h5 (by simpa [xR_uR] using hN4) (xR S 15 1 - xR S 13 v) (xR S 14 v) n (by omega)
    refine ⟨M', open1 _ e', ?_, Fr.tr F1 (Fr.tr F2 (Fr.tr F3 (Fr.tr F4 (Fr.tr (M' := M5) ?_ f'))))⟩
    · unfold en0
      simp only [hS4]
      rw [if_neg c]
      rw [show xR (uR S4 15 4 (xR S 15 1 - xR S 13 v)) 15 3 = xR S 15 3 by rw [xR_uR, if_neg (by omega), r153]] at h'
      exact h'
    · rw [← hM5]; exact Fr.tad
/-- since when it is inside, by the clock of the letters: the class alone holds it -/
def en (t : Int32) (N v : Nat) (S : St) : St := uR (en0 t N v S) 21 v t
theorem RV.r21 {M : Mem} {tw : Bool} {t : Int32} {S : St} {pb pt : List Row4} (h : RV M tw t S pb pt) (i : Nat) (x : Int32) : RV M tw t (uR S 21 i x) pb pt := by
  obtain ⟨h1, h2, h3, h4⟩ := h
  refine ⟨h1, h2, fun k j hk => ?_, h4⟩
  rw [xR_uR, if_neg (fun z => by unfold vk at hk; omega)]
  exact h3 k j hk
theorem RV.ten {M : Mem} {tw : Bool} {t : Int32} {S : St} {pb pt : List Row4} (h : RV M tw t S pb pt) {N : Nat} (hN : xR S 20 0 = nI N) (h16 : N ≤ 16) {v : Nat} (hv : v < 16) {n : Nat} (hn : 200 ≤ n) : ∃ M', f_X10_enter n 120 (nI v) M = some M' ∧ RV M' tw t (en t N v S) pb pt ∧ Fr PA M M' := by
  obtain ⟨M', e, h', f⟩ := h.ten0 hN h16 hv hn
  exact ⟨M', e, h'.r21 v t, f⟩
