/-! ===== the survey, whole: what its rows tell ===== -/
theorem fl_lv {q : Nat} (x : Int64) : ∀ (d i n : Nat) (M : Mem), i + d = 1024 → isO M 101 q → mLn M q = 1024 → (∀ w, w < i → mL M q w = x) → d + 1 ≤ n → ∃ M', f_J7_fill_d0a16_6 n q x (nI i) (nI 1024) M = some M' ∧ FLq q M M' ∧ ∀ w, w < 1024 → mL M' q w = x := by
  intro d
  induction d with
  | zero =>
    intro i n M hi a b h hn
    obtain ⟨n, rfl⟩ : ∃ m, n = m + 1 := ⟨n - 1, by omega⟩
    exact ⟨M, by rw [f_J7_fill_d0a16_6, if_pos (nI_le (by omega) (by omega))], FLq.rf q M, fun w hw => h w (by omega)⟩
  | succ d ih =>
    intro i n M hi a b h hn
    obtain ⟨n, rfl⟩ : ∃ m, n = m + 1 := ⟨n - 1, by omega⟩
    have fl := FLq.s q M i x
    obtain ⟨M', e', f', h'⟩ := ih (i + 1) n (sL M q i x) (by omega) a b (fun w hw => by
      by_cases c : w = i
      · rw [c, mL_s]
      · rw [mL_o M q i _ (fun z => c z.2)]; exact h w (by omega)) (by omega)
    exact ⟨M', by rw [f_J7_fill_d0a16_6, if_neg (nI_ge (by omega) (by decide)), chk_t a, b, chk_t (inB_n (by omega) (by decide)), bnd_e, bnd_e, nI_1, sL_c (by omega)]; exact e', fl.tr f', h'⟩
theorem bg_1v {o q N : Nat} (h16 : N ≤ 16) {M : Mem} (s : isO M 1 o ∧ mR M o 0 = q ∧ isO M 101 q ∧ mLn M q = 1024) {n : Nat} (hn : 1100 ≤ n) : ∃ M', f_X1_begin n o (nI N) M = some M' ∧ F1 M' o q N ∧ M'.1 = M.1 ∧ (∀ a, a ≠ o → ∀ b, mI M' a b = mI M a b) ∧ (∀ a, a ≠ q → ∀ b, mL M' a b = mL M a b) ∧ ∀ w, w < 1024 → mL M' q w = 0 := by
  obtain ⟨s1, s2, s3, s4⟩ := s
  have b22 : ∃ M', f_X1_begin_22 n o (nI (us6 N)) o (sI M o 1 (nI N)) = some M' ∧ FLq q (sI (sI M o 1 (nI N)) o 2 (nI (us6 N))) M' ∧ ∀ w, w < 1024 → mL M' q w = 0 := by
    obtain ⟨M', e', f', h'⟩ := fl_lv (q := q) 0 1024 0 n (sI (sI M o 1 (nI N)) o 2 (nI (us6 N))) rfl s3 s4 (fun w hw => by omega) (by omega)
    have l4 : mLn (sI (sI M o 1 (nI N)) o 2 (nI (us6 N))) q = 1024 := s4
    have r2 : mR (sI (sI M o 1 (nI N)) o 2 (nI (us6 N))) o 0 = q := s2
    refine ⟨M', ?_, f', h'⟩
    rw [f_X1_begin_22, chk_t (show isO (sI M o 1 (nI N)) 1 o from s1), bnd_e, chk_t (show isO (sI (sI M o 1 (nI N)) o 2 (nI (us6 N))) 1 o from s1), r2, bnd_e, chk_t (show isO (sI (sI M o 1 (nI N)) o 2 (nI (us6 N))) 101 q from s3), f_J7_fill_d0a16, chk_t (show isO (sI (sI M o 1 (nI N)) o 2 (nI (us6 N))) 101 q from s3), l4, bnd_e]
    rw [show f_J7_fill_d0a16_6 n q 0 0 (Int32.ofNat 1024) (sI (sI M o 1 (nI N)) o 2 (nI (us6 N))) = some M' from e', obd_s]
  obtain ⟨M', e', f', h'⟩ := b22
  have i1 : ∀ a, a ≠ o → ∀ b, mI M' a b = mI M a b := fun a n b => by rw [f'.2.1, mI_o _ _ _ _ _ n, mI_o _ _ _ _ _ n]
  refine ⟨M', ?_, ?_, f'.1, i1, fun a n b => f'.2.2 a n b, h'⟩
  · rw [f_X1_begin, chk_t s1, bnd_e]
    by_cases c : N ≤ 6
    · rw [if_pos (show nI N ≤ (6 : Int32) from nI_le (b := 6) c (by decide))]
      have : us6 N = 1 := by unfold us6; rw [if_neg (by omega)]
      rw [this] at e'
      exact e'
    · rw [if_neg (show ¬ nI N ≤ (6 : Int32) from nI_ge (a := 6) (by omega) (by omega)), us_N N (by omega) c]
      exact e'
  · have io : ∀ {c o}, isO M c o → isO M' c o := fun z => by unfold isO mN mC at *; rw [f'.1]; exact z
    exact ⟨⟨io s1, by rw [mR_e f'.1]; exact s2, io s3, by rw [mLn_e f'.1]; exact s4⟩, by rw [f'.2.1, mI_n _ _ _ _ (by decide), mI_s], by rw [f'.2.1, mI_s]⟩
theorem lvs_sub {N : Nat} {S : St} (h16 : N ≤ 16) (bi : BI N S) {X : Nat} (hX : X < 2 ^ N) : lvB N S X = true ↔ ∃ v, v < N ∧ ∀ i, (bsN S v).testBit i = true → X.testBit i = true := by
  have p := p16 h16
  rw [lvB_iff]
  constructor
  · rintro ⟨v, hv, h⟩
    have := bsN_lt h16 bi hv
    rw [bsN_e S v] at h
    exact ⟨v, hv, (sub_iff (by omega) (by omega)).mp h⟩
  · rintro ⟨v, hv, h⟩
    have := bsN_lt h16 bi hv
    refine ⟨v, hv, ?_⟩
    rw [bsN_e S v]
    exact (sub_iff (by omega) (by omega)).mpr h
theorem comp_m {N X : Nat} (h16 : N ≤ 16) (hX : X < 2 ^ N) {i : Nat} (hi : i < N) : bt (nI (2 ^ N - 1 - X)) i = bt (nI X ^^^ (-1 : Int32)) i := by
  rw [nI_comp h16 hX (show i < 32 by omega), b_not _ (show i < 32 by omega), decide_eq_true hi, Bool.true_and]
theorem and_cg {N : Nat} {x a b : Int32} (hx : ∀ i, N ≤ i → i < 32 → bt x i = false) (h : ∀ i, i < N → bt a i = bt b i) : x &&& a = x &&& b := by
  refine b_ext fun i hi => ?_
  rw [b_and, b_and]
  rcases Nat.lt_or_ge i N with c | c
  · rw [h i c]
  · rw [hx i c hi, Bool.false_and, Bool.false_and]
theorem whF_cg {N : Nat} {a b : Int32} (hN : N % 2 = 1) (h : ∀ i, i < N → bt a i = bt b i) : ∀ f v, v < N → whF N a f v = whF N b f v := by
  intro f
  induction f with
  | zero => intro v _; rfl
  | succ f ih =>
    intro v hv
    unfold whF
    by_cases c : 2 * v + 1 < N
    · simp only [c, if_true, ih (2 * v + 1) c, ih (2 * v + 2) (by omega), h v hv]
    · simp only [c, if_false, h v hv]
theorem fub_nz {N : Nat} {S : St} (nz : ∀ v, v < N → ¬ xR S 17 v = 0) (b : Int32) : ¬ fub 0 N S b = 0 ↔ ∃ v, v < N ∧ xR S 17 v &&& b = 0 := by
  constructor
  · intro c
    unfold fub at c
    split at c
    · exact absurd rfl c
    · rename_i w e
      have h1 := List.mem_range'_1.mp (List.mem_of_find?_eq_some e)
      have h2 : decide (xR S 17 w &&& b = 0) = true := List.find?_some (p := fun w => decide (xR S 17 w &&& b = 0)) e
      exact ⟨w, by omega, of_decide_eq_true h2⟩
  · rintro ⟨v, hv, hb⟩ c
    unfold fub at c
    split at c
    · rename_i e
      have := List.find?_eq_none.mp e v (List.mem_range'_1.mpr ⟨Nat.zero_le _, by omega⟩)
      exact this (decide_eq_true hb)
    · rename_i w e
      have h1 := List.mem_range'_1.mp (List.mem_of_find?_eq_some e)
      exact nz w (by omega) c
theorem en_0 {N : Nat} {S : St} (h16 : N ≤ 16) (bi : BI N S) (nz : ∀ v, v < N → ¬ xR S 17 v = 0) (t : ¬ xR S 20 1 = 1) {X : Nat} (hX : X < 2 ^ N) : enB N S X = lvB N S X := by
  apply Bool.eq_iff_iff.mpr
  unfold enB
  rw [decide_eq_true_eq, lvB_iff]
  unfold cor
  rw [if_neg t, fub_nz nz]
  have e : ∀ v, v < N → xR S 17 v &&& nI (2 ^ N - 1 - X) = xR S 17 v &&& (nI X ^^^ (-1 : Int32)) := fun v hv => and_cg (fun i a b => bi v hv i a b) (fun i hi => comp_m h16 hX hi)
  constructor
  · rintro ⟨v, hv, h⟩; exact ⟨v, hv, by rw [← e v hv]; exact h⟩
  · rintro ⟨v, hv, h⟩; exact ⟨v, hv, by rw [e v hv]; exact h⟩
theorem en_1 {N : Nat} {S : St} (h16 : N ≤ 16) (h0 : 0 < N) (hN : N % 2 = 1) (t : xR S 20 1 = 1) {X : Nat} (hX : X < 2 ^ N) : enB N S X = true ↔ ¬ wh N (nI X ^^^ (-1 : Int32)) 0 = 0 := by
  unfold enB
  rw [decide_eq_true_eq]
  unfold cor
  rw [if_pos t]
  have e : wh N (nI (2 ^ N - 1 - X)) 0 = wh N (nI X ^^^ (-1 : Int32)) 0 := whF_cg hN (fun i hi => comp_m h16 hX hi) N 0 h0
  rw [e]
/-- from the bases, and the wholes, to what the rows tell -/
theorem CT_of {M M' : Mem} {N : Nat} {S : St} {F7 F9 : Nat → Bool} (h16 : N ≤ 16) (h0 : 0 < N) (bi : BI N S) (tb : TB N S) (ht2 : xR S 20 1 = 0 ∨ xR S 20 1 = 1) (ht : xR S 20 1 = 1 → N % 2 = 1) (b7 : ∀ Y, F7 Y = true ↔ ∃ v, v < N ∧ Y = bsN S v) (b9 : (xR S 20 1 = 0 ∧ ∀ Y, F9 Y = true ↔ ∃ v, v < N ∧ Y = bsN S v) ∨ (xR S 20 1 = 1 ∧ ∃ a b, (∀ j, j < b → SN N (mI M 11 j)) ∧ (∀ β, Ex β M a b ↔ ¬ wh N β 0 = 0) ∧ ∀ Y, F9 Y = true ↔ (∃ v, v < N ∧ Y = bsN S v) ∨ ∃ i, a ≤ i ∧ i < b ∧ mI M 11 i = nI Y ∧ Y < 65536)) (g7 : ∀ X, X < 64 * us6 N → fb (mL M' 7) X = upF F7 N X) (g9 : ∀ X, X < 64 * us6 N → fb (mL M' 9) X = upF F9 N X) : CT M' N S := by
  have u2 := us_N2 h16
  have p := p16 h16
  have f7 : ∀ Y, F7 Y = true → Y < 2 ^ N := fun Y h => by
    obtain ⟨v, hv, rfl⟩ := (b7 Y).mp h
    exact bsN_lt h16 bi hv
  have f9 : ∀ Y, F9 Y = true → Y < 2 ^ N := fun Y h => by
    rcases b9 with ⟨_, b9⟩ | ⟨_, a, b, hb, _, b9⟩
    · obtain ⟨v, hv, rfl⟩ := (b9 Y).mp h
      exact bsN_lt h16 bi hv
    · rcases (b9 Y).mp h with ⟨v, hv, rfl⟩ | ⟨i, _, hi, e, hY⟩
      · exact bsN_lt h16 bi hv
      · have := bt_hi (x := mI M 11 i) (k := N) (by omega) (hb i hi)
        rw [e] at this
        have e2 : (nI Y).toBitVec.toNat = Y := by
          show (BitVec.ofNat 32 Y).toNat = Y
          rw [BitVec.toNat_ofNat]; omega
        rw [e2] at this
        exact this
  have lv : ∀ X, X < 2 ^ N → (upF F7 N X = true ↔ lvB N S X = true) := fun X hX => by
    rw [upF_N f7, lvs_sub h16 bi hX]
    constructor
    · rintro ⟨_, Y, h1, h2⟩
      obtain ⟨v, hv, rfl⟩ := (b7 Y).mp h1
      exact ⟨v, hv, h2⟩
    · rintro ⟨v, hv, h⟩
      exact ⟨hX, bsN S v, (b7 _).mpr ⟨v, hv, rfl⟩, h⟩
  have en : ∀ X, X < 2 ^ N → (upF F9 N X = true ↔ enB N S X = true) := fun X hX => by
    rcases b9 with ⟨t0, b9⟩ | ⟨t1, a, b, hb, hw, b9⟩
    · rw [en_0 h16 bi tb.1 (by rw [t0]; decide) hX, upF_N f9, lvs_sub h16 bi hX]
      constructor
      · rintro ⟨_, Y, h1, h2⟩
        obtain ⟨v, hv, rfl⟩ := (b9 Y).mp h1
        exact ⟨v, hv, h2⟩
      · rintro ⟨v, hv, h⟩
        exact ⟨hX, bsN S v, (b9 _).mpr ⟨v, hv, rfl⟩, h⟩
    · rw [en_1 h16 h0 (ht t1) t1 hX, upF_N f9]
      constructor
      · rintro ⟨_, Y, h1, h2⟩
        have y := f9 Y h1
        rcases (b9 Y).mp h1 with ⟨v, hv, rfl⟩ | ⟨i, ha, hi, e, hY⟩
        · refine tree_wh h16 (ht t1) (tb.2 t1) hv ?_
          show xR S 17 v &&& _ = 0
          rw [bsN_e S v]
          exact (sub_iff (by omega) (by omega)).mpr h2
        · exact (hw _).mp ⟨i, ha, hi, by
            show mI M 11 i &&& _ = 0
            rw [e]
            exact (sub_iff (by omega) hY).mpr h2⟩
      · intro h
        obtain ⟨i, ha, hi, hd⟩ := (hw _).mpr h
        obtain ⟨k, hk, ek⟩ := SO.k (x := mI M 11 i) (fun j a b => hb i hi j (by omega) b)
        refine ⟨hX, k, (b9 k).mpr (Or.inr ⟨i, ha, hi, ek, hk⟩), ?_⟩
        unfold Dj at hd
        rw [ek] at hd
        exact (sub_iff (by omega) hk).mp hd
  have no : ∀ (F : Nat → Bool) X, (∀ Y, F Y = true → Y < 2 ^ N) → 2 ^ N ≤ X → upF F N X = false := fun F X hF hX => by
    cases z : upF F N X
    · rfl
    · have := ((upF_N hF).mp z).1
      omega
  refine ⟨fun X hX => ⟨?_, ?_⟩, fun X h1 h2 => ⟨by rw [g7 X h2]; exact no F7 X f7 h1, by rw [g9 X h2]; exact no F9 X f9 h1⟩⟩
  · rw [g7 X (by omega)]
    exact Bool.eq_iff_iff.mpr (lv X hX)
  · rw [g9 X (by omega)]
    exact Bool.eq_iff_iff.mpr (en X hX)
/-- of the long rows, two alone have changed -/
def FL79 (M M' : Mem) : Prop := ∀ o, o ≠ 7 → o ≠ 9 → ∀ b, mL M' o b = mL M o b
theorem SB.lg {M M' : Mem} {N : Nat} {S : St} {q : Nat} (h : SB M N S) (f : FLq q M M') : SB M' N S := h.e f.1 (fun b => f.2.1 1 b) (fun b => f.2.1 2 b)
theorem F1.ag2 {M M' : Mem} {o q q' N : Nat} (h : F1 M o q N) (f : FLq q' M M') : F1 M' o q N := h.l f.lg
theorem tk79v {M : Mem} {N : Nat} {F7 F9 : Nat → Bool} (h16 : N ≤ 16) (h : SV5 M N) (g7 : ∀ X, X < 64 * us6 N → fb (mL M 7) X = F7 X) (g9 : ∀ X, X < 64 * us6 N → fb (mL M 9) X = F9 X) {n : Nat} (hn : 1100 ≤ n) : ∃ M', f_X8_take_79 n 5 M = some M' ∧ Fs M M' ∧ SV5 M' N ∧ mI M' 5 7 = 1 ∧ FL79 M M' ∧ (∀ X, X < 64 * us6 N → fb (mL M' 7) X = upF F7 N X) ∧ ∀ X, X < 64 * us6 N → fb (mL M' 9) X = upF F9 N X := by
  obtain ⟨w, f6, f8⟩ := h
  obtain ⟨M1, e1, l1, v1⟩ := f6.agv h16 g7 (n := n) hn
  have f81 := f8.ag2 l1
  have g91 : ∀ X, X < 64 * us6 N → fb (mL M1 9) X = F9 X := fun X hX => by
    rw [← g9 X hX]
    unfold fb
    rw [l1.2.2 9 (by decide)]
  obtain ⟨M2, e2, l2, v2⟩ := f81.agv h16 g91 (n := n) hn
  have W1 := w.e l1.1
  have W2 := W1.e l2.1
  have fs : Fs M2 (sI M2 5 7 1) := ⟨rfl, fun o n b => mI_o _ _ _ _ _ (by omega)⟩
  have fl : Fs M M2 := ⟨l2.1.trans l1.1, fun o _ b => (l2.2.1 o b).trans (l1.2.1 o b)⟩
  have s6 : F1 (sI M2 5 7 1) 6 7 N := by
    obtain ⟨a, b, c⟩ := (f6.ag2 l1).ag2 l2
    exact ⟨a, by rw [mI_o _ _ _ _ _ (by decide)]; exact b, by rw [mI_o _ _ _ _ _ (by decide)]; exact c⟩
  have s8 : F1 (sI M2 5 7 1) 8 9 N := by
    obtain ⟨a, b, c⟩ := f81.ag2 l2
    exact ⟨a, by rw [mI_o _ _ _ _ _ (by decide)]; exact b, by rw [mI_o _ _ _ _ _ (by decide)]; exact c⟩
  refine ⟨sI M2 5 7 1, by rw [f_X8_take_79, chk_t w.1.1, w.2.1.1, bnd_e, chk_t w.1.2.1, e1, obd_s, chk_t W1.1.1, W1.2.1.2.1, bnd_e, chk_t W1.1.2.2.2.1, e2, obd_s, chk_t W2.1.1, chk_t (Or.inr rfl), bnd_e], fl.tr fs, ⟨W2.e rfl, s6, s8⟩, mI_s _ _ _ _, fun o n7 n9 b => ?_, fun X hX => ?_, fun X hX => ?_⟩
  · show mL M2 o b = mL M o b
    rw [l2.2.2 o n9, l1.2.2 o n7]
  · show fb (mL M2 7) X = _
    rw [← v1 X hX]
    unfold fb
    rw [l2.2.2 7 (by decide)]
  · exact v2 X hX
/-- the bases of the first i nodes are in a row -/
def BsI (M : Mem) (q N : Nat) (S : St) (i : Nat) : Prop := ∀ X, X < 64 * us6 N → (fb (mL M q) X = true ↔ ∃ v, v < i ∧ X = bsN S v)
theorem tk24v {N : Nat} {S : St} (h0 : 0 < N) (h16 : N ≤ 16) (bi : BI N S) (tb : TB N S) (ht2 : xR S 20 1 = 0 ∨ xR S 20 1 = 1) (ht : xR S 20 1 = 1 → N = 3 ∨ N = 7 ∨ N = 15) : ∀ (d i n : Nat) (M : Mem), i + d = N → SB M N S → SV5 M N → BsI M 7 N S i → BsI M 9 N S i → d + 2400 ≤ n → ∃ M', f_X8_take_24 n 5 1 (nI i) M = some M' ∧ Fs M M' ∧ SV5 M' N ∧ mI M' 5 7 = 1 ∧ FL79 M M' ∧ CT M' N S := by
  have u2 := us_N2 h16
  have hodd : xR S 20 1 = 1 → N % 2 = 1 := fun z => by have := ht z; omega
  intro d
  induction d with
  | zero =>
    intro i n M hi sb h c7 c9 hn
    obtain ⟨n, rfl⟩ : ∃ m, n = m + 1 := ⟨n - 1, by omega⟩
    obtain rfl : i = N := by omega
    obtain ⟨w, f6, f8⟩ := id h
    let F7 : Nat → Bool := fun X => @decide (∃ v, v < i ∧ X = bsN S v) (Classical.propDecidable _)
    have b7 : ∀ Y, F7 Y = true ↔ ∃ v, v < i ∧ Y = bsN S v := fun Y => @decide_eq_true_iff (∃ v, v < i ∧ Y = bsN S v) (Classical.propDecidable _)
    have g7 : ∀ X, X < 64 * us6 i → fb (mL M 7) X = F7 X := fun X hX => Bool.eq_iff_iff.mpr ((c7 X hX).trans (b7 X).symm)
    rw [f_X8_take_24, sb.f, sb.n, if_pos (nI_le (by omega) (by omega)), sb.t]
    rcases ht2 with t0 | t1
    · have g9 : ∀ X, X < 64 * us6 i → fb (mL M 9) X = F7 X := fun X hX => Bool.eq_iff_iff.mpr ((c9 X hX).trans (b7 X).symm)
      obtain ⟨M', e', f', s', o', l', q7, q9⟩ := tk79v h16 h g7 g9 (n := n) (by omega)
      exact ⟨M', by rw [if_pos t0]; exact e', f', s', o', l', CT_of (M := M) h16 h0 bi tb (Or.inl t0) hodd b7 (Or.inl ⟨t0, b7⟩) q7 q9⟩
    · have hN := ht t1
      have f0 : Fx M (sI M 5 6 0) := ⟨rfl, fun o n _ b => mI_o _ _ _ _ _ n, fun b n => mI_n _ _ _ _ n⟩
      have L0 : LSD (sI M 5 6 0) i i := by
        refine ⟨?_, fun u h1 h2 => by omega⟩
        rw [Nat.sub_self]
        exact ⟨mI_s _ _ _ _, by show (0 : Nat) ≤ 305; decide, fun j hj => by exact absurd hj (Nat.not_lt_zero _)⟩
      obtain ⟨M1, n', L1, x1, l1, e1, hn'⟩ := aw9v hN h16 (hodd t1) i n (sI M 5 6 0) (Nat.le_refl _) (w.e rfl) L0 (by omega)
      have X1 := f0.tr x1
      have lm : ∀ o b, mL M1 o b = mL M o b := fun o b => by rw [l1]; rfl
      obtain ⟨a1, a2, a3⟩ := L1.2 0 (Nat.le_refl _) h0
      have le := (tt_e hN (show 0 < i by omega)).2.1.2
      rw [Nat.zero_add] at a1 a3 le
      have F81 := f8.x X1
      have W1 := w.e X1.1
      obtain ⟨M2, e2, l2, v2⟩ := aw80v h16 (ttD i (i - 0) - ttD i (i - 1)) (ttD i (i - 1)) n' M1 (ttD i (i - 0)) (by omega) W1 L1.1 F81 a2 (Nat.le_refl _) (by have := L1.1.2.1; omega)
      have s6 : F1 M1 6 7 i := by
        obtain ⟨⟨a, b, c, d⟩, e, g⟩ := f6
        have io : ∀ {c o}, isO M c o → isO M1 c o := fun z => by unfold isO mN mC at *; rw [X1.1]; exact z
        exact ⟨⟨io a, by rw [mR_e X1.1]; exact b, io c, by rw [mLn_e X1.1]; exact d⟩, by rw [X1.2.1 6 (by decide) (by decide)]; exact e, by rw [X1.2.1 6 (by decide) (by decide)]; exact g⟩
      have s2 : SV5 M2 i := ⟨W1.e l2.1, s6.ag2 l2, F81.ag2 l2⟩
      let F9 : Nat → Bool := fun X => @decide ((∃ v, v < i ∧ X = bsN S v) ∨ ∃ j, ttD i (i - 1) ≤ j ∧ j < ttD i (i - 0) ∧ mI M1 11 j = nI X ∧ X < 65536) (Classical.propDecidable _)
      have b9 : ∀ Y, F9 Y = true ↔ (∃ v, v < i ∧ Y = bsN S v) ∨ ∃ j, ttD i (i - 1) ≤ j ∧ j < ttD i (i - 0) ∧ mI M1 11 j = nI Y ∧ Y < 65536 := fun Y => @decide_eq_true_iff ((∃ v, v < i ∧ Y = bsN S v) ∨ ∃ j, ttD i (i - 1) ≤ j ∧ j < ttD i (i - 0) ∧ mI M1 11 j = nI Y ∧ Y < 65536) (Classical.propDecidable _)
      have g9 : ∀ X, X < 64 * us6 i → fb (mL M2 9) X = F9 X := fun X hX => by
        apply Bool.eq_iff_iff.mpr
        rw [v2 X, b9 X]
        have : fb (mL M1 9) X = fb (mL M 9) X := by unfold fb; rw [lm]
        rw [this, c9 X hX]
      have g7' : ∀ X, X < 64 * us6 i → fb (mL M2 7) X = F7 X := fun X hX => by
        rw [← g7 X hX]
        unfold fb
        rw [l2.2.2 7 (by decide), lm]
      obtain ⟨M', e', f', s', o', l', q7, q9⟩ := tk79v h16 s2 g7' g9 (n := n) (by omega)
      have eN : nI i - (1 : Int32) = nB i := by
        obtain ⟨m, rfl⟩ : ∃ m, i = m + 1 := ⟨i - 1, by omega⟩
        exact nI_pred m
      have eA : f_X8_addWholes n 5 (nI i) M = some M2 := by
        rw [f_X8_addWholes, chk_t w.1.1, bnd_e, eN, bnd_e]
        exact e1.trans e2
      refine ⟨M', ?_, X1.f.tr (Fs.tr ⟨l2.1, fun o _ b => l2.2.1 o b⟩ f'), s', o', fun o n7 n9 b => by rw [l' o n7 n9 b, l2.2.2 o n9 b, lm], ?_⟩
      · rw [t1, if_neg ne10, chk_t w.1.1, eA, obd_s]
        exact e'
      · exact CT_of (M := M1) h16 h0 bi tb (Or.inr t1) hodd b7 (Or.inr ⟨t1, ttD i (i - 1), ttD i (i - 0), L1.1.2.2, a3, b9⟩) q7 q9
  | succ d ih =>
    intro i n M hi sb h c7 c9 hn
    obtain ⟨n, rfl⟩ : ∃ m, n = m + 1 := ⟨n - 1, by omega⟩
    obtain ⟨w, f6, f8⟩ := id h
    have kl := bsN_lt h16 bi (show i < N by omega)
    have p := p16 h16
    obtain ⟨M1, e1, l1, x1⟩ := f6.addv (k := bsN S i) (by omega)
    have W1 := w.e l1.1
    have sb1 := sb.lg l1
    obtain ⟨M2, e2, l2, x2⟩ := (f8.ag2 l1).addv (k := bsN S i) (by omega)
    have s2 : SV5 M2 N := ⟨W1.e l2.1, (f6.ag2 l1).ag2 l2, (f8.ag2 l1).ag2 l2⟩
    have step : ∀ {q : Nat} {W W' : Nat → Int64}, (∀ X, X < 64 * us6 N → (fb W X = true ↔ ∃ v, v < i ∧ X = bsN S v)) → (∀ X, fb W' X = (fb W X || decide (X = bsN S i))) → ∀ X, X < 64 * us6 N → (fb W' X = true ↔ ∃ v, v < i + 1 ∧ X = bsN S v) := fun {q W W'} hW hW' X hX => by
      rw [hW' X, Bool.or_eq_true, hW X hX, decide_eq_true_eq]
      constructor
      · rintro (⟨v, hv, e⟩ | e)
        · exact ⟨v, by omega, e⟩
        · exact ⟨i, by omega, e⟩
      · rintro ⟨v, hv, e⟩
        by_cases z : v = i
        · rw [z] at e; exact Or.inr e
        · exact Or.inl ⟨v, by omega, e⟩
    obtain ⟨M', e', f', s', o', l', ct⟩ := ih (i + 1) n M2 (by omega) (sb1.lg l2) s2 (step (q := 0) c7 (fun X => by
      rw [← x1 X]
      unfold fb
      rw [l2.2.2 7 (by decide)])) (step (q := 0) (W := mL M1 9) (fun X hX => by
      rw [← c9 X hX]
      unfold fb
      rw [l1.2.2 9 (by decide)]) x2) (by omega)
    refine ⟨M', ?_, Fs.tr ⟨l2.1.trans l1.1, fun o _ b => (l2.2.1 o b).trans (l1.2.1 o b)⟩ f', s', o', fun o n7 n9 b => by rw [l' o n7 n9 b, l2.2.2 o n9 b, l1.2.2 o n7 b], ct⟩
    have bs : mI M 2 (nI i).toNatClampNeg = nI (bsN S i) := by rw [mI_c (by omega), sb.b (by omega), bsN_e S i]
    have bs1 : mI M1 2 (nI i).toNatClampNeg = nI (bsN S i) := by rw [l1.2.1]; exact bs
    rw [f_X8_take_24, sb.f, sb.n, if_neg (nI_ge (by omega) (by omega)), chk_t w.1.1, w.2.1.1, bnd_e, chk_t w.1.2.1, sb.r2, bnd_e, sb.a2, sb.i2 (by omega), bs, e1, obd_s, chk_t W1.1.1, W1.2.1.2.1, bnd_e, chk_t W1.1.2.2.2.1, sb1.f, sb1.r2, bnd_e, sb1.a2, sb1.i2 (by omega), bs1, e2, obd_s, bnd_e, nI_1]
    exact e'
theorem FL79.tr {M M' M'' : Mem} (h : FL79 M M') (h' : FL79 M' M'') : FL79 M M'' := fun o n7 n9 b => (h' o n7 n9 b).trans (h o n7 n9 b)
/-- a survey, taken anew -/
theorem sv1v {M : Mem} {N : Nat} {S : St} (xg : XG M) (w : W5 M) (z : mI M 5 7 = 0) (sb : SB M N S) (h0 : 0 < N) (h16 : N ≤ 16) (bi : BI N S) (tb : TB N S) (ht2 : xR S 20 1 = 0 ∨ xR S 20 1 = 1) {n : Nat} (hn : 3000 ≤ n) : ∃ M', f_X9_surveyOnce n 0 M = some M' ∧ Fs M M' ∧ SV5 M' N ∧ mI M' 5 7 = 1 ∧ FL79 M M' ∧ CT M' N S := by
  have q6 : isO M 1 6 ∧ mR M 6 0 = 7 ∧ isO M 101 7 ∧ mLn M 7 = 1024 := ⟨w.1.2.1, w.2.1.2.2.2.2.2.2.1, w.1.2.2.1, w.2.2.1⟩
  have u := us_b h16
  obtain ⟨M1, e1, f1, s1, o1, l1, z1⟩ := bg_1v (o := 6) (q := 7) h16 q6 (n := n) (by omega)
  have W1 := w.e s1
  have q81 : isO M1 1 8 ∧ mR M1 8 0 = 9 ∧ isO M1 101 9 ∧ mLn M1 9 = 1024 := ⟨W1.1.2.2.2.1, W1.2.1.2.2.2.2.2.2.2, W1.1.2.2.2.2.1, W1.2.2.2.1⟩
  have sb1 : SB M1 N S := sb.e s1 (o1 1 (by decide)) (o1 2 (by decide))
  obtain ⟨M2, e2, f2, s2, o2, l2, z2⟩ := bg_1v (o := 8) (q := 9) h16 q81 (n := n) (by omega)
  have sb2 : SB M2 N S := sb1.e s2 (o2 1 (by decide)) (o2 2 (by decide))
  have f12 : F1 M2 6 7 N := by
    obtain ⟨⟨a, b, c, d⟩, e, g⟩ := f1
    have io : ∀ {c o}, isO M1 c o → isO M2 c o := fun z => by unfold isO mN mC at *; rw [s2]; exact z
    exact ⟨⟨io a, by rw [mR_e s2]; exact b, io c, by rw [mLn_e s2]; exact d⟩, by rw [o2 6 (by decide)]; exact e, by rw [o2 6 (by decide)]; exact g⟩
  have W2 := W1.e s2
  have zz : ∀ {W : Nat → Int64}, (∀ w, w < 1024 → W w = 0) → ∀ X, X < 64 * us6 N → (fb W X = true ↔ ∃ v, v < 0 ∧ X = bsN S v) := fun {W} hW X hX => by
    have : fb W X = false := by
      unfold fb
      rw [hW _ (by omega), qb_0]
    rw [this]
    exact ⟨fun y => absurd y (by decide), fun ⟨v, hv, _⟩ => by omega⟩
  obtain ⟨M', e', f', s', o', l', ct⟩ := tk24v (S := S) h0 h16 bi tb ht2 (fun t => (tb.2 t).1) N 0 n M2 (by omega) sb2 ⟨W2, f12, f2⟩ (zz (fun w hw => by rw [l2 7 (by decide)]; exact z1 w hw)) (zz z2) (by omega)
  refine ⟨M', ?_, Fs.tr ⟨s2.trans s1, fun o n b => by rw [o2 o (by omega), o1 o (by omega)]⟩ f', s', o', fun o n7 n9 b => by rw [l' o n7 n9 b, l2 o n9 b, l1 o n7 b], ct⟩
  rw [f_X9_surveyOnce, chk_t xg.1, xg.2.2.1, bnd_e, chk_t w.1.1, if_pos z, bnd_e, chk_t w.1.1, xg.2.1, bnd_e, sb.f, f_X8_take, chk_t w.1.1, w.2.1.1, bnd_e, chk_t w.1.2.1, sb.f, sb.n, e1, obd_s, chk_t W1.1.1, W1.2.1.2.1, bnd_e, chk_t W1.1.2.2.2.1, sb1.f, sb1.n, e2, obd_s]
  rw [show f_X8_take_24 n 5 1 0 M2 = some M' from e', obd_s]
