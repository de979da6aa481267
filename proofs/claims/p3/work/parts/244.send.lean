/-! ===== the class: letters to all of a set; one number of a place ===== -/
theorem HV.fs {M : Mem} {h X Y N : Nat} {t : Int32} {Q : Nat → Int32} {S : St} {pb pt : List Row4} (p : HV M h X Y t N Q S pb pt) {v a k : Nat} (hv : v < 16) (hf : (a, k) ∈ ft) : mI M (h + 17 + 2 * v) a = xR S k v := (p.2.2.1.1 v hv).1 (a, k) hf
theorem HV.fld {M : Mem} {h X Y N : Nat} {t : Int32} {Q : Nat → Int32} {S : St} {pb pt : List Row4} (p : HV M h X Y t N Q S pb pt) {v a k : Nat} {x : Int32} (hv : v < 16) (hf : (a, k) ∈ ft) (h8 : k ≠ 8) : HV (sI M (h + 17 + 2 * v) a x) h X Y t N Q (uR S k v x) pb pt ∧ FrH M (sI M (h + 17 + 2 * v) a x) h := by
  have k16 : ∀ p, p ∈ ft → p.2 ≠ 16 := by decide
  refine ⟨p.at rfl (fun o n b => mI_o _ _ _ _ _ (by omega)) (p.2.2.1.fld hv hf h8) rfl ?_ rfl rfl, FrH.sI (by omega)⟩
  funext i
  rw [xR_uR, if_neg (fun z => k16 _ hf z.1.symm)]
set_option maxHeartbeats 1000000 in
theorem HV.sal {h X Y N : Nat} {t : Int32} {Q : Nat → Int32} {pb pt : List Row4} (h16 : N ≤ 16) {k f : Nat} (hk : k < 6) (hf : f < 16) (set s : Int32) : ∀ (d i n : Nat) (M : Mem) (S : St), HV M h X Y t N Q S pb pt → xR S 2 f = s → i + d = N → (fl S).length + d ≤ 9000 → d + 1 ≤ n → ∃ M', f_X2_sendToAll_3 n h (nI k) (nI f) set (nI i) M = some M' ∧ HV M' h X Y t N Q (sAl t k f set s (List.range' i d) S) pb pt ∧ FrH M M' h := by
  intro d
  induction d with
  | zero =>
    intro i n M S p hs hi hl hn
    obtain ⟨n, rfl⟩ : ∃ m, n = m + 1 := ⟨n - 1, by omega⟩
    refine ⟨M, ?_, p, FrH.rf _ _⟩
    have q := p.1
    rw [f_X2_sendToAll_3, cs_f q, cs_h0 q, bnd_e, cs_s q, p.2.2.2.2.2.1, if_pos (nI_le (by omega) (by omega))]
  | succ d ih =>
    intro i n M S p hs hi hl hn
    obtain ⟨n, rfl⟩ : ∃ m, n = m + 1 := ⟨n - 1, by omega⟩
    have q := p.1
    have el : sAl t k f set s (List.range' i (d + 1)) S = sAl t k f set s (List.range' (i + 1) d) (if bt set i then sn t k f i s S else S) := by
      unfold sAl
      rw [List.range'_succ, List.foldl_cons]
    rw [el, f_X2_sendToAll_3, cs_f q, cs_h0 q, bnd_e, cs_s q, p.2.2.2.2.2.1, if_neg (nI_ge (by omega) (by omega)), f_has9 _ (by omega), obd_s]
    by_cases c : bt set i = true
    · obtain ⟨M1, e1, p1, f1⟩ := p.put (k := k) (f := f) (g := i) (s := s) (by omega) hk hf (by omega)
      obtain ⟨M2, e2, p2, f2⟩ := ih (i + 1) n M1 _ p1 (by rw [sn_R _ _ _ _ _ _ (by decide)]; exact hs) (by omega) (by rw [fl_sn_len (by omega)]; omega) (by omega)
      refine ⟨M2, ?_, ?_, f1.tr f2⟩
      · rw [if_pos c, if_neg (by decide), cs_h1 q, bnd_e, cs_p q, cs_h2 q, bnd_e, cs_a10 q, cs_i10 q hf, cs_rpc q hf, bnd_e, cs_po q hf, p.fs hf (a := 1) (k := 2) (by decide), hs, e1, obd_s, nI_1, bnd_e, e2]
      · rw [if_pos c]; exact p2
    · obtain ⟨M2, e2, p2, f2⟩ := ih (i + 1) n M S p hs (by omega) (by omega) (by omega)
      refine ⟨M2, ?_, ?_, f2⟩
      · rw [if_neg c, if_pos rfl, nI_1, bnd_e, e2]
      · rw [if_neg c]; exact p2
theorem HV.tsA {M : Mem} {h X Y N n : Nat} {t : Int32} {Q : Nat → Int32} {S : St} {pb pt : List Row4} (p : HV M h X Y t N Q S pb pt) (h16 : N ≤ 16) {k f : Nat} (hk : k < 6) (hf : f < 16) (set : Int32) (hl : (fl S).length + N ≤ 9000) (hn : 17 ≤ n) : ∃ M', f_X2_sendToAll n h (nI k) (nI f) set M = some M' ∧ HV M' h X Y t N Q (sA t N k f set (xR S 2 f) S) pb pt ∧ FrH M M' h := by
  obtain ⟨M', e, p', f'⟩ := HV.sal (h := h) (X := X) (Y := Y) (Q := Q) (t := t) (pb := pb) (pt := pt) h16 hk hf set (xR S 2 f) N 0 n M S p rfl (by omega) hl (by omega)
  refine ⟨M', by rw [f_X2_sendToAll, show (0 : Int32) = nI 0 from rfl, e], ?_, f'⟩
  unfold sA
  rw [List.range_eq_range']
  exact p'
