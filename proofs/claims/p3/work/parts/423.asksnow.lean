/-! ===== the class: who may ask anew; the search's own rows ===== -/
theorem HV.at5 {M M' : Mem} {X Y N : Nat} {t : Int32} {Q : Nat → Int32} {S : St} {pb pt : List Row4} (p : HV M 63 X Y t N Q S pb pt) (e : M'.1 = M.1) (hI : ∀ o, ¬ (114 ≤ o ∧ o ≤ 118) → ∀ b, mI M' o b = mI M o b) : HV M' 63 X Y t N Q S pb pt := by
  obtain ⟨q, ⟨d5, d6, d7, len, K, fr, us, ow, w, hK⟩, hp, rm, ⟨lb, lt⟩, hN, hQ⟩ := p
  obtain ⟨_, _, _, y5, y6, y7, _⟩ := id w.1
  have hl := w.2.2.2.2.2.2.2.2.2.1
  refine ⟨q.e e, ⟨d5, d6, d7, len, K, fr, us, ow, ?_, hK⟩, hp.cg (fun o ho b => hI o (by omega) b) (fun _ _ _ => rfl) rfl, ?_, ⟨?_, ?_⟩, ?_, fun v hv => ?_⟩
  · exact w.cg (w.1.e e) (Nat.le_refl _) hl.2.2.2.1 (fun i a b k => hI _ (by omega) k) (fun k _ => hI d5 (by omega) k) (fun k _ => hI d6 (by omega) k) (fun k _ => hI d7 (by omega) k)
  · unfold Rm mN mU mLn mR at rm ⊢
    rw [e]; exact rm
  · exact lb.cg (hI _ (by omega)) (hI _ (by omega))
  · exact lt.cg (hI _ (by omega)) (hI _ (by omega))
  · rw [hI 1 (by omega)]; exact hN
  · rw [hI _ (by omega)]; exact hQ v hv
section
variable {X0 Y0 N : Nat} {t : Int32} {Q : Nat → Int32} {S : St} {pb pt : List Row4} {M : Mem} {e dC : Nat}
theorem SV.at5 {M' : Mem} (h : SV X0 Y0 t N Q pb pt S M e dC) (s : M'.1 = M.1) (hI : ∀ o, ¬ (114 ≤ o ∧ o ≤ 118) → ∀ b, mI M' o b = mI M o b) (h6 : mI M' 114 6 = mI M 114 6) : SV X0 Y0 t N Q pb pt S M' e dC := by
  obtain ⟨L, sx, c, p⟩ := h
  exact ⟨L, sx.e s, c.e s h6, p.at5 s hI⟩
def anC (ask : Int32) (N : Nat) (sn : Nat → Int32) (S : St) (v : Nat) : Bool := bt ask v && (mayA N v S && decide (xR S 2 v = sn v))
theorem an_l (h : SV X0 Y0 t N Q pb pt S M e dC) {ask : Int32} {sn : Nat → Int32} (hI : IA N S) (h16 : N ≤ 16) (hQ : ∀ v, v < N → qm N S v = Q v) (ha : mI M 114 9 = ask) (hs : ∀ v, v < N → mI M 118 v = sn v) : ∀ (d v n : Nat) (acc : Int32), v + d = N → d + 1 ≤ n → f_X6_asksNow_4 M n 114 acc (nI v) = some ((asks' v d N S ask sn).foldl (fun m g => bon m g) acc) := by
  obtain ⟨L, sx, c, p⟩ := h
  have q := p.1
  intro d
  induction d with
  | zero =>
    intro v n acc hv hn
    obtain ⟨n, rfl⟩ : ∃ m, n = m + 1 := ⟨n - 1, by omega⟩
    rw [f_X6_asksNow_4, chk_t sx.1, sx.2.1.1, bnd_e, cs_f q, cs_h0 q, bnd_e, cs_s q, p.2.2.2.2.2.1, if_pos (nI_le (by omega) (by omega))]
    rfl
  | succ d ih =>
    intro v n acc hv hn
    obtain ⟨n, rfl⟩ : ∃ m, n = m + 1 := ⟨n - 1, by omega⟩
    have v16 : v < 16 := by omega
    have i18 : ∀ x : Option Int32, chk (inB (nI v) (mLn M 118)) x = x := fun x => by
      refine chk_t ?_
      rw [sx.2.2.2.1.2.2.2]; exact inB_n v16 (by decide)
    have p1 : mI M (63 + 17 + 2 * v) 1 = xR S 2 v := (p.2.2.1.1 v v16).1 (1, 2) (by decide)
    have el : asks' v (d + 1) N S ask sn = if anC ask N sn S v = true then v :: asks' (v + 1) d N S ask sn else asks' (v + 1) d N S ask sn := by
      unfold asks' anC
      rw [List.range'_succ, List.filter_cons]
    have k44 : ∀ u : Int32, (u = if xR S 2 v = sn v then 1 else 0) → f_X6_asksNow_44 (f_X6_asksNow_4 M n) M n 114 acc (nI v) u = some ((asks' v (d + 1) N S ask sn).foldl (fun m g => bon m g) acc) := by
      intro u hu
      rw [f_X6_asksNow_44, chk_t sx.1, ha, f_has9 _ (by omega), obd_s, nI_1, el]
      unfold anC
      by_cases z1 : bt ask v = true
      · rw [if_pos z1, if_neg ne10, hu]
        by_cases z2 : xR S 2 v = sn v
        · rw [if_pos z2, if_neg ne10, sx.2.1.1, bnd_e, cs_f q, p.may hI h16 (by omega) (hQ v (by omega)), obd_s]
          by_cases z3 : mayA N v S = true
          · rw [if_pos z3, if_neg ne10, if_pos (by rw [z1, z3, decide_eq_true z2]; rfl), List.foldl_cons, bnd_e, bnd_e]
            exact ih (v + 1) n (bon acc v) (by omega) (by omega)
          · rw [if_neg z3, if_pos rfl, if_neg (by rw [Bool.not_eq_true] at z3; rw [z3, Bool.false_and, Bool.and_false]; decide), bnd_e]
            exact ih (v + 1) n acc (by omega) (by omega)
        · rw [if_neg z2, if_pos rfl, if_neg (by rw [decide_eq_false z2, Bool.and_false, Bool.and_false]; decide), bnd_e]
          exact ih (v + 1) n acc (by omega) (by omega)
      · rw [if_neg z1, if_pos rfl, if_neg (by rw [Bool.not_eq_true] at z1; rw [z1, Bool.false_and]; decide), bnd_e]
        exact ih (v + 1) n acc (by omega) (by omega)
    rw [f_X6_asksNow_4, chk_t sx.1, sx.2.1.1, bnd_e, cs_f q, cs_h0 q, bnd_e, cs_s q, p.2.2.2.2.2.1, if_neg (nI_ge (by omega) (by omega)), bnd_e, cs_f q, cs_h2 q, bnd_e, cs_a10 q, cs_i10 q v16, cs_rpc q v16, bnd_e, cs_po q v16, sx.2.1.2.2.2.2, bnd_e, chk_t sx.2.2.1.2.2.2, i18, mI_c (by omega), p1, hs v (by omega)]
    by_cases z : xR S 2 v = sn v
    · rw [if_pos z]; exact k44 1 (by rw [if_pos z])
    · rw [if_neg z]; exact k44 0 (by rw [if_neg z])
theorem SV.asks (h : SV X0 Y0 t N Q pb pt S M e dC) {ask : Int32} {sn : Nat → Int32} {n : Nat} (hI : IA N S) (h16 : N ≤ 16) (hQ : ∀ v, v < N → qm N S v = Q v) (ha : mI M 114 9 = ask) (hs : ∀ v, v < N → mI M 118 v = sn v) (hn : 17 ≤ n) : f_X6_asksNow n 114 M = some ((asks' 0 N N S ask sn).foldl (fun m g => bon m g) 0) :=
  an_l h hI h16 hQ ha hs N 0 n 0 (by omega) (by omega)
theorem asks_m {ask : Int32} {sn : Nat → Int32} {i d : Nat} (h : i + d ≤ 16) {v : Nat} (hv : v ∈ asks' i d N S ask sn) : v < 16 := by
  have := (List.mem_filter.mp hv).1
  have := List.mem_range'_1.mp this
  omega
theorem fb0 {l : List Nat} (h : ∀ v, v ∈ l → v < 16) : l.foldl (fun m g => bon m g) 0 = (0 : Int32) ↔ l = [] := by
  constructor
  · intro e
    cases l with
    | nil => rfl
    | cons x l =>
      have := fn_b (x :: l) 0 x (by have := h x (by simp); omega) (fun w hw => by have := h w hw; omega)
      rw [e, b_0, decide_eq_true (show x ∈ x :: l by simp)] at this
      cases this
  · rintro rfl; rfl
end
