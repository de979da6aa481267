set_option maxHeartbeats 1000000 in
theorem take_l (tw : Bool) : ∀ (suf pre : List (Nat × Ltr)) (M : Mem) (n : Nat), RS M → mI M 121 850 = nI (pre.length + 1 + suf.length) → pre.length + suf.length < 9000 → Seg M tw 0 pre → Seg M tw (pre.length + 1) suf → suf.length + 1 ≤ n → ∃ M1, f_X10_takeLetter_2 n 120 (nI pre.length) M = some (sI (sI M1 121 850 (nI (pre.length + suf.length))) 121 (851 + (pre.length + suf.length)) 0) ∧ Seg M1 tw 0 (pre ++ suf) ∧ FrL M M1 := by
  intro suf
  induction suf with
  | nil =>
    intro pre M n hS hc hlen h1 h2 hn
    obtain ⟨n, rfl⟩ : ∃ m, n = m + 1 := ⟨n - 1, by simp at hn; omega⟩
    simp only [List.length_nil, Nat.add_zero] at hc hlen ⊢
    have hSb : RS (sI M 121 850 (nI pre.length)) := hS.e rfl
    refine ⟨M, ?_, by simpa using h1, FrL.rf M⟩
    rw [f_X10_takeLetter_2, rs_f hS, rs_0 hS, bnd_e, rs_fa hS, l850, rs_c hS (by decide), mI_c (by decide), hc, nI_1, if_pos (nI_le (Nat.le_refl _) (by omega)), bnd_e, rs_fa hS, rs_c hS (by decide), rs_c hS (by decide), mI_c (by decide), hc, nI_pred, sI_c (by decide), bnd_e, rs_0 hSb, bnd_e, rs_fa hSb, bnd_e, rs_fa hSb, rs_c hSb (by decide), mI_c (by decide), mI_s, c851, rs_c hSb (by omega), sI_c (by omega), bnd_e]
  | cons z suf ih =>
    intro pre M n hS hc hlen h1 h2 hn
    simp only [List.length_cons] at hc hlen hn ⊢
    obtain ⟨n, rfl⟩ : ∃ m, n = m + 1 := ⟨n - 1, by omega⟩
    have hg := h2 0 z rfl
    simp only [Nat.add_zero] at hg
    generalize hMa : sI M 121 (851 + pre.length) (enc z) = Ma
    generalize hMb : sI Ma 123 pre.length (mI M 123 (pre.length + 1)) = Mb
    have hSa : RS Ma := by subst hMa; exact hS.e rfl
    have hSb : RS Mb := by subst hMb; exact hSa.e rfl
    have m1 : ∀ b, b ≠ 851 + pre.length → mI Mb 121 b = mI M 121 b := by
      intro b hb
      rw [← hMb, mI_o _ _ _ _ _ (by decide), ← hMa, mI_n _ _ _ _ hb]
    have m2 : ∀ b, b ≠ pre.length → mI Mb 123 b = mI M 123 b := by
      intro b hb
      rw [← hMb, mI_n _ _ _ _ hb, ← hMa, mI_o _ _ _ _ _ (by decide)]
    have e1 : mI Ma 123 (pre.length + 1) = mI M 123 (pre.length + 1) := by rw [← hMa, mI_o _ _ _ _ _ (by decide)]
    have s1 : Seg Mb tw 0 (pre ++ [z]) := by
      rw [Seg.ap, Seg.one]
      refine ⟨h1.cg fun i _ hi => ⟨m1 _ (by omega), m2 _ (by omega)⟩, ?_, fun ht => ?_⟩
      · rw [Nat.zero_add, ← hMb, mI_o _ _ _ _ _ (by decide), ← hMa, mI_s]
      · rw [Nat.zero_add, ← hMb, mI_s]; exact hg.2 ht
    have s2 : Seg Mb tw ((pre ++ [z]).length + 1) suf := by
      have h3 : Seg M tw (pre.length + 1) ([z] ++ suf) := h2
      have h4 := (Seg.ap.mp h3).2
      rw [show (pre ++ [z]).length + 1 = pre.length + 1 + [z].length by simp]
      exact h4.cg fun i hi _ => ⟨m1 _ (by simp at hi; omega), m2 _ (by simp at hi; omega)⟩
    have el : (pre ++ [z]).length = pre.length + 1 := by simp
    obtain ⟨M1, i1, i2, i3⟩ := ih (pre ++ [z]) Mb n hSb (by rw [m1 _ (by omega), hc, el]; congr 1; omega) (by rw [el]; omega) s1 s2 (by omega)
    refine ⟨M1, ?_, by simpa using i2, FrL.tr ⟨?_, ?_, ?_, ?_⟩ i3⟩
    · rw [el] at i1
      rw [show pre.length + (suf.length + 1) = pre.length + 1 + suf.length by omega, ← i1, f_X10_takeLetter_2, rs_f hS, rs_0 hS, bnd_e, rs_fa hS, l850, rs_c hS (by decide), mI_c (by decide), hc, nI_1, if_neg (nI_ge (by omega) (by omega)), bnd_e, rs_fa hS, bnd_e, rs_fa hS, c851, nI_1, rs_c hS (by omega), rs_c hS (by omega), bnd_e, sI_c (by omega), mI_c (by omega), show 851 + pre.length + 1 = 851 + (pre.length + 1) by omega, hg.1, hMa, rs_2 hSa, bnd_e, rs_fw hSa, bnd_e, rs_fw hSa, rs_cw hSa (by omega), rs_cw hSa (by omega), bnd_e, sI_c (by omega), mI_c (by omega), e1, hMb, bnd_e]
    · rw [← hMb, ← hMa]; rfl
    · intro o q1 q2 k
      rw [← hMb, mI_o _ _ _ _ _ q2, ← hMa, mI_o _ _ _ _ _ q1]
    · intro o k; rw [← hMb, ← hMa]; rfl
    · intro b hb; exact m1 b (by omega)
theorem at_l {M : Mem} {tw : Bool} (hS : RS M) {f g : Nat} (hf : f < 16) (hg : g < 16) (all : List (Nat × Ltr)) (hc : mI M 121 850 = nI all.length) (hlen : all.length ≤ 9000) (hs : Seg M tw 0 all) (hp : ∀ x, x ∈ all → x.1 < 256) : ∀ (a pre : List (Nat × Ltr)) (n : Nat) (b : List (Nat × Ltr)), all = pre ++ a ++ b → (∀ x, x ∈ a → x.1 ≠ 16 * f + g) → a.length + 1 ≤ n → (∀ z b', b = z :: b' → z.1 = 16 * f + g) → f_X10_letterAt_2 M n 120 (nI f) (nI g) (nI pre.length) = some (if b = [] then -1 else nI (pre.length + a.length)) := by
  intro a
  induction a with
  | nil =>
    intro pre n b e h1 hn hb
    obtain ⟨n, rfl⟩ : ∃ m, n = m + 1 := ⟨n - 1, by simp at hn; omega⟩
    simp only [List.append_nil] at e
    cases b with
    | nil =>
      rw [List.append_nil] at e
      subst e
      rw [f_X10_letterAt_2, rs_f hS, rs_0 hS, bnd_e, rs_fa hS, l850, rs_c hS (by decide), cl_n (by decide), hc, if_pos (nI_le (Nat.le_refl _) (by omega)), if_pos rfl]
    | cons z b =>
      have hz := hb z b rfl
      have hl : all.length = pre.length + 1 + b.length := by rw [e]; simp; omega
      have hgz := hs pre.length z (by rw [e, List.getElem?_append_right (Nat.le_refl _)]; simp)
      rw [Nat.zero_add] at hgz
      rw [f_X10_letterAt_2, rs_f hS, rs_0 hS, bnd_e, rs_fa hS, l850, rs_c hS (by decide), cl_n (by decide), hc, if_neg (nI_ge (by omega) (by omega)), bnd_e, rs_fa hS, c851, rs_c hS (by omega), f_X10_pairOf, cl_n (by omega), hgz.1, enc_pair (by omega), obd_s, c16, hz, if_pos rfl, if_neg (by simp)]
      simp
  | cons y a ih =>
    intro pre n b e h1 hn hb
    simp only [List.length_cons] at hn
    obtain ⟨n, rfl⟩ : ∃ m, n = m + 1 := ⟨n - 1, by omega⟩
    have hy := h1 y (by simp)
    have hy2 : y.1 < 256 := hp y (by rw [e]; simp)
    have hl : all.length = pre.length + (a.length + 1) + b.length := by rw [e]; simp; omega
    have hgz := hs pre.length y (by rw [e, List.append_assoc, List.getElem?_append_right (Nat.le_refl _)]; simp)
    rw [Nat.zero_add] at hgz
    have hi := ih (pre ++ [y]) n b (by rw [e]; simp) (fun x hx => h1 x (by simp [hx])) (by omega) hb
    rw [show (pre ++ [y]).length = pre.length + 1 by simp] at hi
    rw [f_X10_letterAt_2, rs_f hS, rs_0 hS, bnd_e, rs_fa hS, l850, rs_c hS (by decide), cl_n (by decide), hc, if_neg (nI_ge (by omega) (by omega)), bnd_e, rs_fa hS, c851, rs_c hS (by omega), f_X10_pairOf, cl_n (by omega), hgz.1, enc_pair hy2, obd_s, c16, if_neg (fun q => hy ((nI_eq (by omega) (by omega)).mp q)), bnd_e, nI_1, hi]
    congr 2
    congr 1
    simp; omega
/-- the place of the first letter of a lane that has one -/
theorem RV.tat {M : Mem} {tw : Bool} {t : Int32} {S : St} {pb pt : List Row4} (h : RV M tw t S pb pt) {f g : Nat} (hf : f < 16) (hg : g < 16) {x : Ltr} {r : List Ltr} (hx : xL S (16 * f + g) = x :: r) {n : Nat} (hn : 9100 ≤ n) : f_X10_letterAt n 120 (nI f) (nI g) M = some (nI (flr (xL S) 0 (16 * f + g)).length) := by
  obtain ⟨hS, ht, ha, hw, hl, hb1, hb2⟩ := h
  have hsp := fl_split S (show 16 * f + g < 256 by omega)
  have hb : (flr (xL S) 0 (16 * f + g)).length ≤ (fl S).length := by rw [hsp, List.length_append, List.length_append]; omega
  have := hl.2.1
  have q := at_l hS hf hg (fl S) hl.1 hl.2.1 hl.2.2 (fun x hx => (fl_mem hx).1) (flr (xL S) 0 (16 * f + g)) [] n ((((xL S (16 * f + g)).map fun x => (16 * f + g, x))) ++ flr (xL S) (16 * f + g + 1) (255 - (16 * f + g))) (by rw [hsp]; simp) (fun x hx => by have := flr_in hx; omega) (by omega) (by rw [hx]; intro z b' e; simp at e; rw [← e.1])
  rw [f_X10_letterAt, show (0 : Int32) = nI ([] : List (Nat × Ltr)).length from rfl, q, if_neg (by rw [hx]; simp)]
  simp
theorem RV.tno {M : Mem} {tw : Bool} {t : Int32} {S : St} {pb pt : List Row4} (h : RV M tw t S pb pt) {f g : Nat} (hf : f < 16) (hg : g < 16) (hx : xL S (16 * f + g) = []) {n : Nat} (hn : 9100 ≤ n) : f_X10_letterAt n 120 (nI f) (nI g) M = some (-1) := by
  obtain ⟨hS, ht, ha, hw, hl, hb1, hb2⟩ := h
  have := hl.2.1
  have q := at_l hS hf hg (fl S) hl.1 hl.2.1 hl.2.2 (fun x hx => (fl_mem hx).1) (fl S) [] n [] (by simp) (fun x hm e => by have := (fl_mem hm).2; rw [e, hx] at this; simp at this) (by omega) (by simp)
  rw [f_X10_letterAt, show (0 : Int32) = nI ([] : List (Nat × Ltr)).length from rfl, q, if_pos rfl]
set_option maxHeartbeats 1000000 in
/-- the first letter of a lane is taken away -/
theorem RV.take {M : Mem} {tw : Bool} {t : Int32} {S : St} {pb pt : List Row4} (h : RV M tw t S pb pt) {l : Nat} (hl0 : l < 256) {x : Ltr} {r : List Ltr} (hx : xL S l = x :: r) {n : Nat} (hn : 9100 ≤ n) : mI M 121 (851 + (flr (xL S) 0 l).length) = enc (l, x) ∧ (flr (xL S) 0 l).length < 9000 ∧ ∃ M', f_X10_takeLetter n 120 (nI (flr (xL S) 0 l).length) M = some M' ∧ RV M' tw t (uL S l r) pb pt ∧ Fr PA M M' := by
  obtain ⟨hS, ht, ha, hw, hl, hb1, hb2⟩ := h
  have hsp := fl_split S hl0
  rw [hx] at hsp
  have hnew := fl_uL S hl0 r
  generalize flr (xL S) 0 l = pre at hsp hnew ⊢
  generalize hQ : (r.map fun x => (l, x)) ++ flr (xL S) (l + 1) (255 - l) = suf
  have hsp2 : fl S = pre ++ ([(l, x)] ++ suf) := by rw [hsp, ← hQ]; simp
  have hnew2 : fl (uL S l r) = pre ++ suf := by rw [hnew, ← hQ]; simp
  have hlen : (fl S).length = pre.length + 1 + suf.length := by rw [hsp2]; simp; omega
  have hle := hl.2.1
  have hseg := hl.2.2
  rw [hsp2, Seg.ap, Seg.ap, Seg.one, Nat.zero_add, List.length_singleton] at hseg
  obtain ⟨g1, g2, g3⟩ := hseg
  obtain ⟨M1, i1, i2, i3⟩ := take_l tw suf pre M n hS (by rw [hl.1, hlen]) (by omega) g1 g3 (by omega)
  have hS1 : RS M1 := hS.e i3.1
  refine ⟨g2.1, by omega, _, i1, ?_, ?_⟩
  · generalize hMa : sI M1 121 850 (nI (pre.length + suf.length)) = Ma
    generalize hMb : sI Ma 121 (851 + (pre.length + suf.length)) 0 = Mb
    have k1 : ∀ b, b < 850 ∨ 9851 ≤ b → mI Mb 121 b = mI M 121 b := by
      intro b hb
      rw [← hMb, mI_n _ _ _ _ (by omega), ← hMa, mI_n _ _ _ _ (by omega)]
      exact i3.2.2.2 b (by omega)
    refine ⟨?_, ?_, fun kk ii hv => ?_, hw.cg (fun b _ _ => k1 b (by omega)) rfl, ⟨?_, ?_, ?_⟩, hb1.cg (k1 _ (by omega)) (fun b _ _ => k1 b (by omega)), hb2.cg (k1 _ (by omega)) (fun b _ _ => k1 b (by omega))⟩
    · subst hMb; subst hMa; exact hS1.e rfl
    · rw [← hMb, mI_o _ _ _ _ _ (by decide), ← hMa, mI_o _ _ _ _ _ (by decide), i3.2.1 120 (by decide) (by decide)]; exact ht
    · rw [k1 _ (ad_lim hv).2.1]; exact ha kk ii hv
    · rw [hnew2, ← hMb, mI_n _ _ _ _ (by omega), ← hMa, mI_s, List.length_append]
    · rw [hnew2, List.length_append]; omega
    · rw [hnew2]
      refine i2.cg fun i _ hi => ⟨?_, ?_⟩
      · rw [List.length_append] at hi
        rw [← hMb, mI_n _ _ _ _ (by omega), ← hMa, mI_n _ _ _ _ (by omega)]
      · rw [← hMb, mI_o _ _ _ _ _ (by decide), ← hMa, mI_o _ _ _ _ _ (by decide)]
  · exact Fr.tr i3.toFr (Fr.tr (Fr.tsI ⟨by decide, by decide⟩) (Fr.tsI ⟨by decide, by decide⟩))
