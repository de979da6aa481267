/-! ===== the reference sends a letter, takes one, finds one ===== -/
theorem RVw.cg {M M' : Mem} {S S' : St} (h : RVw M S) (e : ∀ b, 149 ≤ b → b < 850 → mI M' 121 b = mI M 121 b) (w : xW S' = xW S) : RVw M' S' := by
  intro a ha
  rw [w]
  obtain ⟨h1, h2, h3, h4⟩ := h a ha
  refine ⟨?_, h2, fun i q hi => ?_, fun i hi hj => ?_⟩
  · rw [e _ (by omega) (by omega)]; exact h1
  · have hl := (List.getElem?_eq_some_iff.mp hi).1
    rw [e _ (by omega) (by omega), e _ (by omega) (by omega)]
    exact h3 i q hi
  · rw [e _ (by omega) (by omega), e _ (by omega) (by omega)]
    exact h4 i hi hj
theorem lastn_le {α : Type} (n : Nat) (l : List α) : (lastn n l).length ≤ n := by
  unfold lastn
  rw [List.length_drop]
  omega
theorem RVb.cg {M M' : Mem} {A B n : Nat} {xs : List Row4} (h : RVb M A B n xs) (e : mI M' 121 A = mI M 121 A) (e2 : ∀ b, B ≤ b → b < B + 4 * n → mI M' 121 b = mI M 121 b) : RVb M' A B n xs := by
  refine ⟨e.trans h.1, fun i q hi => ?_⟩
  have hl := (List.getElem?_eq_some_iff.mp hi).1
  have hn := lastn_le n xs
  rw [e2 _ (by omega) (by omega), e2 _ (by omega) (by omega), e2 _ (by omega) (by omega), e2 _ (by omega) (by omega)]
  exact h.2 i q hi
/-- sent: a letter of kind k from f to g, stamp s, at time t -/
def sn (t : Int32) (k f g : Nat) (s : Int32) (S : St) : St := uL (uR S 16 k (xR S 16 k + 1)) (16 * f + g) (xL S (16 * f + g) ++ [(nI k, s, t)])
theorem fl_sn {t : Int32} {k f g : Nat} {s : Int32} {S : St} (h : 16 * f + g < 256) : fl (sn t k f g s S) = (flr (xL S) 0 (16 * f + g) ++ ((xL S (16 * f + g)).map fun x => (16 * f + g, x))) ++ ([(16 * f + g, (nI k, s, t))] ++ flr (xL S) (16 * f + g + 1) (255 - (16 * f + g))) := by
  unfold sn
  rw [fl_uL _ h, xL_uR]
  simp [List.append_assoc]
theorem c16 (f g : Nat) : ((16 : Int32) * nI f) + nI g = nI (16 * f + g) := by rw [show (16 : Int32) = nI 16 from rfl, pk_mul, nI_add]
theorem c9859 (k : Nat) : (9859 : Int32) + nI k = nI (9859 + k) := by rw [show (9859 : Int32) = nI 9859 from rfl, nI_add]
theorem l850 : (850 : Int32) = nI 850 := rfl
set_option maxHeartbeats 1000000 in
theorem RV.send {M : Mem} {tw : Bool} {t : Int32} {S : St} {pb pt : List Row4} (h : RV M tw t S pb pt) {k f g : Nat} {s : Int32} (hf : f < 16) (hg : g < 16) (hk : k < 6) (hlen : (fl S).length < 9000) {n : Nat} (hn : 9100 ≤ n) : ∃ M', f_X10_send n 120 (nI k) (nI f) (nI g) s M = some M' ∧ RV M' tw t (sn t k f g s S) pb pt ∧ Fr PA M M' := by
  obtain ⟨hS, ht, ha, hw, hl, hb1, hb2⟩ := h
  generalize hl0 : 16 * f + g = l
  have hl1 : l < 256 := by omega
  have hsp := fl_split S hl1
  generalize hP : flr (xL S) 0 l ++ ((xL S l).map fun x => (l, x)) = pre at hsp
  generalize hQ : flr (xL S) (l + 1) (255 - l) = q at hsp
  have hpre : ∀ x, x ∈ pre → x.1 ≤ l := by
    intro x hx
    subst hP
    rcases List.mem_append.mp hx with hx | hx
    · have := flr_in hx; omega
    · obtain ⟨y, _, rfl⟩ := List.mem_map.mp hx
      exact Nat.le_refl _
  have hq : ∀ x, x ∈ q → l < x.1 ∧ x.1 < 256 := by
    intro x hx
    subst hQ
    have := flr_in hx; omega
  have hlen2 : pre.length + q.length = (fl S).length := by rw [hsp, List.length_append]
  obtain ⟨n', M1, i1, i2, i3, i4⟩ := send_l tw pre l hl1 (nI k) s hpre q.length q [] M n rfl hq (by simp; omega) hS (hsp ▸ hl.2.2) (Seg.nil _ _ _) (by omega)
  have hS1 : RS M1 := hS.e i4.1
  rw [List.append_nil] at i3
  generalize hMa : sI M1 121 (851 + pre.length) (enc (l, (nI k, s, t))) = Ma
  generalize hMb : sI Ma 123 pre.length t = Mb
  generalize hMc : sI Mb 121 850 (nI ((fl S).length + 1)) = Mc
  generalize hMd : sI Mc 121 (9859 + k) (xR S 16 k + 1) = Md
  have hSa : RS Ma := by subst hMa; exact hS1.e rfl
  have hSb : RS Mb := by subst hMb; exact hSa.e rfl
  have hSc : RS Mc := by subst hMc; exact hSb.e rfl
  have hSd : RS Md := by subst hMd; exact hSc.e rfl
  have k1 : ∀ b, b < 850 ∨ (9851 ≤ b ∧ b ≠ 9859 + k) → mI Md 121 b = mI M 121 b := by
    intro b hb
    rw [← hMd, mI_n _ _ _ _ (by omega), ← hMc, mI_n _ _ _ _ (by omega), ← hMb, mI_o _ _ _ _ _ (by decide), ← hMa, mI_n _ _ _ _ (by omega)]
    exact i4.2.2.2 b (by omega)
  have k0 : ∀ o, o ≠ 121 → o ≠ 123 → ∀ b, mI Md o b = mI M o b := by
    intro o q1 q2 b
    rw [← hMd, mI_o _ _ _ _ _ q1, ← hMc, mI_o _ _ _ _ _ q1, ← hMb, mI_o _ _ _ _ _ q2, ← hMa, mI_o _ _ _ _ _ q1]
    exact i4.2.1 o q1 q2 b
  have t3 : mI Ma 120 3 = t := by
    rw [← hMa, mI_o _ _ _ _ _ (by decide), i4.2.1 120 (by decide) (by decide)]; exact ht
  have c3 : mI Mb 121 850 = nI (fl S).length := by
    rw [← hMb, mI_o _ _ _ _ _ (by decide), ← hMa, mI_n _ _ _ _ (by omega), i4.2.2.2 850 (by omega)]
    exact hl.1
  have v16 : vk 16 k := by unfold vk; omega
  have a16 : ad 16 k = 9859 + k := rfl
  have d3 : mI Mc 121 (9859 + k) = xR S 16 k := by
    rw [← hMc, mI_n _ _ _ _ (by omega), ← hMb, mI_o _ _ _ _ _ (by decide), ← hMa, mI_n _ _ _ _ (by omega), i4.2.2.2 _ (by omega), ← a16]
    exact ha 16 k v16
  refine ⟨Md, ?_, ⟨hSd, ?_, ?_, hw.cg (fun b _ _ => k1 b (by omega)) rfl, ⟨?_, ?_, ?_⟩, hb1.cg (k1 _ (by omega)) (fun b _ _ => k1 b (by omega)), hb2.cg (k1 _ (by omega)) (fun b _ _ => k1 b (by omega))⟩, ?_⟩
  · rw [f_X10_send, c16, hl0, bnd_e, rs_f hS, rs_0 hS, bnd_e, rs_fa hS, l850, rs_c hS (by decide), bnd_e, cl_n (by decide), hl.1, ← hlen2, i1, f_X10_send_90, rs_f hS1, rs_0 hS1, bnd_e, rs_fa hS1, c851, rs_c hS1 (by omega), bnd_e, cl_n (by omega)]
    rw [show ((s <<< ((11 : Int32) &&& 31)) ||| (nI k <<< ((8 : Int32) &&& 31))) ||| nI l = enc (l, (nI k, s, t)) from rfl, hMa, rs_2 hSa, bnd_e, rs_fw hSa, rs_cw hSa (by omega), bnd_e, cl_n (by omega), t3, hMb, rs_0 hSb, bnd_e, rs_fa hSb, l850, rs_c hSb (by decide), rs_c hSb (by decide), bnd_e, cl_n (by decide), c3, nI_1, hMc, rs_0 hSc, bnd_e, rs_fa hSc, c9859, bnd_e, rs_c hSc (by omega), rs_c hSc (by omega), bnd_e, cl_n (by omega), d3, hMd]
  · rw [k0 120 (by decide) (by decide)]; exact ht
  · intro kk ii hv
    have lim := ad_lim hv
    show mI Md 121 (ad kk ii) = if kk = 16 ∧ ii = k then _ else xR S kk ii
    by_cases e : kk = 16 ∧ ii = k
    · rw [if_pos e, e.1, e.2, a16, ← hMd, mI_s]
    · rw [if_neg e, k1 _ ?_]
      · exact ha kk ii hv
      · have : ad kk ii ≠ 9859 + k := fun z => e (ad_inj hv v16 (z.trans a16.symm))
        omega
  · rw [fl_sn (by omega)]
    simp only [hl0, hP, hQ, List.length_append, List.length_singleton]
    rw [← hMd, mI_n _ _ _ _ (by omega), ← hMc, mI_s, ← hlen2]
    congr 1
    omega
  · rw [fl_sn (by omega)]
    simp only [hl0, hP, hQ, List.length_append, List.length_singleton]
    omega
  · rw [fl_sn (by omega)]
    simp only [hl0, hP, hQ]
    rw [Seg.ap, Seg.ap, Seg.one]
    refine ⟨i2.cg fun i _ hi => ⟨?_, ?_⟩, ⟨?_, fun _ => ?_⟩, ?_⟩
    · rw [← hMd, mI_n _ _ _ _ (by omega), ← hMc, mI_n _ _ _ _ (by omega), ← hMb, mI_o _ _ _ _ _ (by decide), ← hMa, mI_n _ _ _ _ (by omega)]
    · rw [← hMd, mI_o _ _ _ _ _ (by decide), ← hMc, mI_o _ _ _ _ _ (by decide), ← hMb, mI_n _ _ _ _ (by omega), ← hMa, mI_o _ _ _ _ _ (by decide)]
    · rw [Nat.zero_add, ← hMd, mI_n _ _ _ _ (by omega), ← hMc, mI_n _ _ _ _ (by omega), ← hMb, mI_o _ _ _ _ _ (by decide), ← hMa, mI_s]
    · rw [Nat.zero_add, ← hMd, mI_o _ _ _ _ _ (by decide), ← hMc, mI_o _ _ _ _ _ (by decide), ← hMb, mI_s]
    · rw [Nat.zero_add, List.length_singleton]
      refine i3.cg fun i hi1 hi => ⟨?_, ?_⟩
      · rw [← hMd, mI_n _ _ _ _ (by omega), ← hMc, mI_n _ _ _ _ (by omega), ← hMb, mI_o _ _ _ _ _ (by decide), ← hMa, mI_n _ _ _ _ (by omega)]
      · rw [← hMd, mI_o _ _ _ _ _ (by decide), ← hMc, mI_o _ _ _ _ _ (by decide), ← hMb, mI_n _ _ _ _ (by omega), ← hMa, mI_o _ _ _ _ _ (by decide)]
  · refine Fr.tr i4.toFr (Fr.tr (M' := Ma) ?_ (Fr.tr (M' := Mb) ?_ (Fr.tr (M' := Mc) ?_ ?_)))
    · rw [← hMa]; exact Fr.tsI ⟨by decide, by decide⟩
    · rw [← hMb]; exact Fr.tsI ⟨by decide, by decide⟩
    · rw [← hMc]; exact Fr.tsI ⟨by decide, by decide⟩
    · rw [← hMd]; exact Fr.tsI ⟨by decide, by decide⟩
