/-! ===== the survey, whole: what its rows tell ===== -/
theorem fl_lv {q : Nat} (x : Int64) : ∀ (d i n : Nat) (M : Mem), i + d = 1024 → isO M 101 q → mLn M q = 1024 → (∀ w, w < i → mL M q w = x) → d + 1 ≤ n → ∃ M', f_J7_fill_d0a16_6 n q x (nI i) (nI 1024) M = some M' ∧ FLq q M M' ∧ ∀ w, w < 1024 → mL M' q w = x := by
  intro d
  induction d with
  | zero =>
    intro i n M hi a b h hn
    obtain ⟨n, rfl⟩ : ∃ m, n = m + 1 := ⟨n - 1, by omega⟩
    exact ⟨M, by rw [f_J7_fill_d0a16_6, if_pos (nI_le (by omega) (by omega))], FLq.rf q M, fun w hw => h w (by omega)⟩
  | succ d ih =>
    intro i n M hi a b h hn
    obtain ⟨n, rfl⟩ : ∃ m, n = m + 1 := ⟨n - 1, by omega⟩
    have fl := FLq.s q M i x
    obtain ⟨M', e', f', h'⟩ := ih (i + 1) n (sL M q i x) (by omega) a b (fun w hw => by
      by_cases c : w = i
      · rw [c, mL_s]
      · rw [mL_o M q i _ (fun z => c z.2)]; exact h w (by omega)) (by omega)
    exact ⟨M', by rw [f_J7_fill_d0a16_6, if_neg (nI_ge (by omega) (by decide)), chk_t a, b, chk_t (inB_n (by omega) (by decide)), bnd_e, bnd_e, nI_1, sL_c (by omega)]; exact e', fl.tr f', h'⟩
theorem bg_1v {o q N : Nat} (h16 : N ≤ 16) {M : Mem} (s : isO M 1 o ∧ mR M o 0 = q ∧ isO M 101 q ∧ mLn M q = 1024) {n : Nat} (hn : 1100 ≤ n) : ∃ M', f_X1_begin n o (nI N) M = some M' ∧ F1 M' o q N ∧ M'.1 = M.1 ∧ (∀ a, a ≠ o → ∀ b, mI M' a b = mI M a b) ∧ (∀ a, a ≠ q → ∀ b, mL M' a b = mL M a b) ∧ ∀ w, w < 1024 → mL M' q w = 0 := by
  obtain ⟨s1, s2, s3, s4⟩ := s
  have b22 : ∃ M', f_X1_begin_22 n o (nI (us6 N)) o (sI M o 1 (nI N)) = some M' ∧ FLq q (sI (sI M o 1 (nI N)) o 2 (nI (us6 N))) M' ∧ ∀ w, w < 1024 → mL M' q w = 0 := by
    obtain ⟨M', e', f', h'⟩ := fl_lv (q := q) 0 1024 0 n (sI (sI M o 1 (nI N)) o 2 (nI (us6 N))) rfl s3 s4 (fun w hw => by omega) (by omega)
    have l4 : mLn (sI (sI M o 1 (nI N)) o 2 (nI (us6 N))) q = 1024 := s4
    have r2 : mR (sI (sI M o 1 (nI N)) o 2 (nI (us6 N))) o 0 = q := s2
    refine ⟨M', ?_, f', h'⟩
    rw [f_X1_begin_22, chk_t (show isO (sI M o 1 (nI N)) 1 o from s1), bnd_e, chk_t (show isO (sI (sI M o 1 (nI N)) o 2 (nI (us6 N))) 1 o from s1), r2, bnd_e, chk_t (show isO (sI (sI M o 1 (nI N)) o 2 (nI (us6 N))) 101 q from s3), f_J7_fill_d0a16, chk_t (show isO (sI (sI M o 1 (nI N)) o 2 (nI (us6 N))) 101 q from s3), l4, bnd_e]
    rw [show f_J7_fill_d0a16_6 n q 0 0 (Int32.ofNat 1024) (sI (sI M o 1 (nI N)) o 2 (nI (us6 N))) = some M' from e', obd_s]
  obtain ⟨M', e', f', h'⟩ := b22
  have i1 : ∀ a, a ≠ o → ∀ b, mI M' a b = mI M a b := fun a n b => by rw [f'.2.1, mI_o _ _ _ _ _ n, mI_o _ _ _ _ _ n]
  refine ⟨M', ?_, ?_, f'.1, i1, fun a n b => f'.2.2 a n b, h'⟩
  · rw [f_X1_begin, chk_t s1, bnd_e]
    by_cases c : N ≤ 6
    · rw [if_pos (show nI N ≤ (6 : Int32) from nI_le (b := 6) c (by decide))]
      have : us6 N = 1 := by unfold us6; rw [if_neg (by omega)]
      rw [this] at e'
      exact e'
    · rw [if_neg (show ¬ nI N ≤ (6 : Int32) from nI_ge (a := 6) (by omega) (by omega)), us_N N (by omega) c]
      exact e'
  · have io : ∀ {c o}, isO M c o → isO M' c o := fun z => by unfold isO mN mC at *; rw [f'.1]; exact z
    exact ⟨⟨io s1, by rw [mR_e f'.1]; exact s2, io s3, by rw [mLn_e f'.1]; exact s4⟩, by rw [f'.2.1, mI_n _ _ _ _ (by decide), mI_s], by rw [f'.2.1, mI_s]⟩
theorem lvs_sub {N : Nat} {S : St} (h16 : N ≤ 16) (bi : BI N S) {X : Nat} (hX : X < 2 ^ N) : lvB N S X = true ↔ ∃ v, v < N ∧ ∀ i, (bsN S v).testBit i = true → X.testBit i = true := by
  have p := p16 h16
  rw [lvB_iff]
  constructor
  · rintro ⟨v, hv, h⟩
    have := bsN_lt h16 bi hv
    rw [bsN_e S v] at h
    exact ⟨v, hv, (sub_iff (by omega) (by omega)).mp h⟩
  · rintro ⟨v, hv, h⟩
    have := bsN_lt h16 bi hv
    refine ⟨v, hv, ?_⟩
    rw [bsN_e S v]
    exact (sub_iff (by omega) (by omega)).mpr h
theorem comp_m {N X : Nat} (h16 : N ≤ 16) (hX : X < 2 ^ N) {i : Nat} (hi : i < N) : bt (nI (2 ^ N - 1 - X)) i = bt (nI X ^^^ (-1 : Int32)) i := by
  rw [nI_comp h16 hX (show i < 32 by omega), b_not _ (show i < 32 by omega), decide_eq_true hi, Bool.true_and]
theorem and_cg {N : Nat} {x a b : Int32} (hx : ∀ i, N ≤ i → i < 32 → bt x i = false) (h : ∀ i, i < N → bt a i = bt b i) : x &&& a = x &&& b := by
  refine b_ext fun i hi => ?_
  rw [b_and, b_and]
  rcases Nat.lt_or_ge i N with c | c
  · rw [h i c]
  · rw [hx i c hi, Bool.false_and, Bool.false_and]
theorem whF_cg {N : Nat} {a b : Int32} (hN : N % 2 = 1) (h : ∀ i, i < N → bt a i = bt b i) : ∀ f v, v < N → whF N a f v = whF N b f v := by
  intro f
  induction f with
  | zero => intro v _; rfl
  | succ f ih =>
    intro v hv
    unfold whF
    by_cases c : 2 * v + 1 < N
    · simp only [c, if_true, ih (2 * v + 1) c, ih (2 * v + 2) (by omega), h v hv]
    · simp only [c, if_false, h v hv]
theorem fub_nz {N : Nat} {S : St} (nz : ∀ v, v < N → ¬ xR S 17 v = 0) (b : Int32) : ¬ fub 0 N S b = 0 ↔ ∃ v, v < N ∧ xR S 17 v &&& b = 0 := by
  constructor
  · intro c
    unfold fub at c
    split at c
    · exact absurd rfl c
    · rename_i w e
      have h1 := List.mem_range'_1.mp (List.mem_of_find?_eq_some e)
      have h2 : decide (xR S 17 w &&& b = 0) = true := List.find?_some (p := fun w => decide (xR S 17 w &&& b = 0)) e
      exact ⟨w, by omega, of_decide_eq_true h2⟩
  · rintro ⟨v, hv, hb⟩ c
    unfold fub at c
    split at c
    · rename_i e
      have := List.find?_eq_none.mp e v (List.mem_range'_1.mpr ⟨Nat.zero_le _, by omega⟩)
      exact this (decide_eq_true hb)
    · rename_i w e
      have h1 := List.mem_range'_1.mp (List.mem_of_find?_eq_some e)
      exact nz w (by omega) c
theorem en_0 {N : Nat} {S : St} (h16 : N ≤ 16) (bi : BI N S) (nz : ∀ v, v < N → ¬ xR S 17 v = 0) (t : ¬ xR S 20 1 = 1) {X : Nat} (hX : X < 2 ^ N) : enB N S X = lvB N S X := by
  apply Bool.eq_iff_iff.mpr
  unfold enB
  rw [decide_eq_true_eq, lvB_iff]
  unfold cor
  rw [if_neg t, fub_nz nz]
  have e : ∀ v, v < N → xR S 17 v &&& nI (2 ^ N - 1 - X) = xR S 17 v &&& (nI X ^^^ (-1 : Int32)) := fun v hv => and_cg (fun i a b => bi v hv i a b) (fun i hi => comp_m h16 hX hi)
  constructor
  · rintro ⟨v, hv, h⟩; exact ⟨v, hv, by rw [← e v hv]; exact h⟩
  · rintro ⟨v, hv, h⟩; exact ⟨v, hv, by rw [e v hv]; exact h⟩
theorem en_1 {N : Nat} {S : St} (h16 : N ≤ 16) (h0 : 0 < N) (hN : N % 2 = 1) (t : xR S 20 1 = 1) {X : Nat} (hX : X < 2 ^ N) : enB N S X = true ↔ ¬ wh N (nI X ^^^ (-1 : Int32)) 0 = 0 := by
  unfold enB
  rw [decide_eq_true_eq]
  unfold cor
  rw [if_pos t]
  have e : wh N (nI (2 ^ N - 1 - X)) 0 = wh N (nI X ^^^ (-1 : Int32)) 0 := whF_cg hN (fun i hi => comp_m h16 hX hi) N 0 h0
  rw [e]
/-- from the bases, and the wholes, to what the rows tell -/
theorem CT_of {M M' : Mem} {N : Nat} {S : St} {F7 F9 : Nat → Bool} (h16 : N ≤ 16) (h0 : 0 < N) (bi : BI N S) (tb : TB N S) (ht2 : xR S 20 1 = 0 ∨ xR S 20 1 = 1) (ht : xR S 20 1 = 1 → N % 2 = 1) (b7 : ∀ Y, F7 Y = true ↔ ∃ v, v < N ∧ Y = bsN S v) (b9 : (xR S 20 1 = 0 ∧ ∀ Y, F9 Y = true ↔ ∃ v, v < N ∧ Y = bsN S v) ∨ (xR S 20 1 = 1 ∧ ∃ a b, (∀ j, j < b → SN N (mI M 11 j)) ∧ (∀ β, Ex β M a b ↔ ¬ wh N β 0 = 0) ∧ ∀ Y, F9 Y = true ↔ (∃ v, v < N ∧ Y = bsN S v) ∨ ∃ i, a ≤ i ∧ i < b ∧ mI M 11 i = nI Y ∧ Y < 65536)) (g7 : ∀ X, X < 64 * us6 N → fb (mL M' 7) X = upF F7 N X) (g9 : ∀ X, X < 64 * us6 N → fb (mL M' 9) X = upF F9 N X) : CT M' N S := by
  have u2 := us_N2 h16
  have p := p16 h16
  have f7 : ∀ Y, F7 Y = true → Y < 2 ^ N := fun Y h => by
    obtain ⟨v, hv, rfl⟩ := (b7 Y).mp h
    exact bsN_lt h16 bi hv
  have f9 : ∀ Y, F9 Y = true → Y < 2 ^ N := fun Y h => by
    rcases b9 with ⟨_, b9⟩ | ⟨_, a, b, hb, _, b9⟩
    · obtain ⟨v, hv, rfl⟩ := (b9 Y).mp h
      exact bsN_lt h16 bi hv
    · rcases (b9 Y).mp h with ⟨v, hv, rfl⟩ | ⟨i, _, hi, e, hY⟩
      · exact bsN_lt h16 bi hv
      · have := bt_hi (x := mI M 11 i) (k := N) (by omega) (hb i hi)
        rw [e] at this
        have e2 : (nI Y).toBitVec.toNat = Y := by
          show (BitVec.ofNat 32 Y).toNat = Y
          rw [BitVec.toNat_ofNat]; omega
        rw [e2] at this
        exact this
  have lv : ∀ X, X < 2 ^ N → (upF F7 N X = true ↔ lvB N S X = true) := fun X hX => by
    rw [upF_N f7, lvs_sub h16 bi hX]
    constructor
    · rintro ⟨_, Y, h1, h2⟩
      obtain ⟨v, hv, rfl⟩ := (b7 Y).mp h1
      exact ⟨v, hv, h2⟩
    · rintro ⟨v, hv, h⟩
      exact ⟨hX, bsN S v, (b7 _).mpr ⟨v, hv, rfl⟩, h⟩
  have en : ∀ X, X < 2 ^ N → (upF F9 N X = true ↔ enB N S X = true) := fun X hX => by
    rcases b9 with ⟨t0, b9⟩ | ⟨t1, a, b, hb, hw, b9⟩
    · rw [en_0 h16 bi tb.1 (by rw [t0]; decide) hX, upF_N f9, lvs_sub h16 bi hX]
      constructor
      · rintro ⟨_, Y, h1, h2⟩
        obtain ⟨v, hv, rfl⟩ := (b9 Y).mp h1
        exact ⟨v, hv, h2⟩
      · rintro ⟨v, hv, h⟩
        exact ⟨hX, bsN S v, (b9 _).mpr ⟨v, hv, rfl⟩, h⟩
    · rw [en_1 h16 h0 (ht t1) t1 hX, upF_N f9]
      constructor
      · rintro ⟨_, Y, h1, h2⟩
        have y := f9 Y h1
        rcases (b9 Y).mp h1 with ⟨v, hv, rfl⟩ | ⟨i, ha, hi, e, hY⟩
        · refine tree_wh h16 (ht t1) (tb.2 t1) hv ?_
          show xR S 17 v &&& _ = 0
          rw [bsN_e S v]
          exact (sub_iff (by omega) (by omega)).mpr h2
        · exact (hw _).mp ⟨i, ha, hi, by
            show mI M 11 i &&& _ = 0
            rw [e]
            exact (sub_iff (by omega) hY).mpr h2⟩
      · intro h
        obtain ⟨i, ha, hi, hd⟩ := (hw _).mpr h
        obtain ⟨k, hk, ek⟩ := SO.k (x := mI M 11 i) (fun j a b => hb i hi j (by omega) b)
        refine ⟨hX, k, (b9 k).mpr (Or.inr ⟨i, ha, hi, ek, hk⟩), ?_⟩
        unfold Dj at hd
        rw [ek] at hd
        exact (sub_iff (by omega) hk).mp hd
  have no : ∀ (F : Nat → Bool) X, (∀ Y, F Y = true → Y < 2 ^ N) → 2 ^ N ≤ X → upF F N X = false := fun F X hF hX => by
    cases z : upF F N X
    · rfl
    · have := ((upF_N hF).mp z).1
      omega
  refine ⟨fun X hX => ⟨?_, ?_⟩, fun X h1 h2 => ⟨by rw [g7 X h2]; exact no F7 X f7 h1, by rw [g9 X h2]; exact no F9 X f9 h1⟩⟩
  · rw [g7 X (by omega)]
    exact Bool.eq_iff_iff.mpr (lv X hX)
  · rw [g9 X (by omega)]
    exact Bool.eq_iff_iff.mpr (en X hX)
/-- of the long rows, two alone have changed -/
def FL79 (M M' : Mem) : Prop := ∀ o, o ≠ 7 → o ≠ 9 → ∀ b, mL M' o b = mL M o b
theorem SB.lg {M M' : Mem} {N : Nat} {S : St} {q : Nat} (h : SB M N S) (f : FLq q M M') : SB M' N S := h.e f.1 (fun b => f.2.1 1 b) (fun b => f.2.1 2 b)
theorem F1.ag2 {M M' : Mem} {o q q' N : Nat} (h : F1 M o q N) (f : FLq q' M M') : F1 M' o q N := h.l f.lg
theorem tk79v {M : Mem} {N : Nat} {F7 F9 : Nat → Bool} (h16 : N ≤ 16) (h : SV5 M N) (g7 : ∀ X, X < 64 * us6 N → fb (mL M 7) X = F7 X) (g9 : ∀ X, X < 64 * us6 N → fb (mL M 9) X = F9 X) {n : Nat} (hn : 1100 ≤ n) : ∃ M', f_X8_take_79 n 5 M = some M' ∧ Fs M M' ∧ SV5 M' N ∧ mI M' 5 7 = 1 ∧ FL79 M M' ∧ (∀ X, X < 64 * us6 N → fb (mL M' 7) X = upF F7 N X) ∧ ∀ X, X < 64 * us6 N → fb (mL M' 9) X = upF F9 N X := by
  obtain ⟨w, f6, f8⟩ := h
  obtain ⟨M1, e1, l1, v1⟩ := f6.agv h16 g7 (n := n) hn
  have f81 := f8.ag2 l1
  have g91 : ∀ X, X < 64 * us6 N → fb (mL M1 9) X = F9 X := fun X hX => by
    rw [← g9 X hX]
    unfold fb
    rw [l1.2.2 9 (by decide)]
  obtain ⟨M2, e2, l2, v2⟩ := f81.agv h16 g91 (n := n) hn
  have W1 := w.e l1.1
  have W2 := W1.e l2.1
  have fs : Fs M2 (sI M2 5 7 1) := ⟨rfl, fun o n b => mI_o _ _ _ _ _ (by omega)⟩
  have fl : Fs M M2 := ⟨l2.1.trans l1.1, fun o _ b => (l2.2.1 o b).trans (l1.2.1 o b)⟩
  have s6 : F1 (sI M2 5 7 1) 6 7 N := by
    obtain ⟨a, b, c⟩ := (f6.ag2 l1).ag2 l2
    exact ⟨a, by rw [mI_o _ _ _ _ _ (by decide)]; exact b, by rw [mI_o _ _ _ _ _ (by decide)]; exact c⟩
  have s8 : F1 (sI M2 5 7 1) 8 9 N := by
    obtain ⟨a, b, c⟩ := f81.ag2 l2
    exact ⟨a, by rw [mI_o _ _ _ _ _ (by decide)]; exact b, by rw [mI_o _ _ _ _ _ (by decide)]; exact c⟩
  refine ⟨sI M2 5 7 1, by rw [f_X8_take_79, chk_t w.1.1, w.2.1.1, bnd_e, chk_t w.1.2.1, e1, obd_s, chk_t W1.1.1, W1.2.1.2.1, bnd_e, chk_t W1.1.2.2.2.1, e2, obd_s, chk_t W2.1.1, chk_t (Or.inr rfl), bnd_e], fl.tr fs, ⟨W2.e rfl, s6, s8⟩, mI_s _ _ _ _, fun o n7 n9 b => ?_, fun X hX => ?_, fun X hX => ?_⟩
  · show mL M2 o b = mL M o b
    rw [l2.2.2 o n9, l1.2.2 o n7]
  · show fb (mL M2 7) X = _
    rw [← v1 X hX]
    unfold fb
    rw [l2.2.2 7 (by decide)]
  · exact v2 X hX
/-- the bases of the first i nodes are in a row -/
def BsI (M : Mem) (q N : Nat) (S : St) (i : Nat) : Prop := ∀ X, X < 64 * us6 N → (fb (mL M q) X = true ↔ ∃ v, v < i ∧ X = bsN S v)
theorem tk24v {N : Nat} {S : St} (h0 : 0 < N) (h16 : N ≤ 16) (bi : BI N S) (tb : TB N S) (ht2 : xR S 20 1 = 0 ∨ xR S 20 1 = 1) (ht : xR S 20 1 = 1 → N = 3 ∨ N = 7 ∨ N = 15) : ∀ (d i n : Nat) (M : Mem), i + d = N → SB M N S → SV5 M N → BsI M 7 N S i → BsI M 9 N S i → d + 2400 ≤ n → ∃ M', f_X8_take_24 n 5 1 (nI i) M = some M' ∧ Fs M M' ∧ SV5 M' N ∧ mI M' 5 7 = 1 ∧ FL79 M M' ∧ CT M' N S := by
  have u2 := us_N2 h16
  have hodd : xR S 20 1 = 1 → N % 2 = 1 := fun z => by have := ht z; omega
  intro d
  induction d with
  | zero =>
    intro i n M hi sb h c7 c9 hn
    obtain ⟨n, rfl⟩ : ∃ m, n = m + 1 := ⟨n - 1, by omega⟩
    obtain rfl : i = N := by omega
    obtain ⟨w, f6, f8⟩ := id h
    let F7 : Nat → Bool := fun X => @decide (∃ v, v < i ∧ X = bsN S v) (Classical.propDecidable _)
    have b7 : ∀ Y, F7 Y = true ↔ ∃ v, v < i ∧ Y = bsN S v := fun Y => @decide_eq_true_iff (∃ v, v < i ∧ Y = bsN S v) (Classical.propDecidable _)
    have g7 : ∀ X, X < 64 * us6 i → fb (mL M 7) X = F7 X := fun X hX => Bool.eq_iff_iff.mpr ((c7 X hX).trans (b7 X).symm)
    rw [f_X8_take_24, sb.f, sb.n, if_pos (nI_le (by omega) (by omega)), sb.t]
    rcases ht2 with t0 | t1
    · have g9 : ∀ X, X < 64 * us6 i → fb (mL M 9) X = F7 X := fun X hX => Bool.eq_iff_iff.mpr ((c9 X hX).trans (b7 X).symm)
      obtain ⟨M', e', f', s', o', l', q7, q9⟩ := tk79v h16 h g7 g9 (n := n) (by omega)
      exact ⟨M', by rw [if_pos t0]; exact e', f', s', o', l', CT_of (M := M) h16 h0 bi tb (Or.inl t0) hodd b7 (Or.inl ⟨t0, b7⟩) q7 q9⟩
    · have hN := ht t1
      have f0 : Fx M (sI M 5 6 0) := ⟨rfl, fun o n _ b => mI_o _ _ _ _ _ n, fun b n => mI_n _ _ _ _ n⟩
      have L0 : LSD (sI M 5 6 0) i i := by
        refine ⟨?_, fun u h1 h2 => by omega⟩
        rw [Nat.sub_self]
        exact ⟨mI_s _ _ _ _, by show (0 : Nat) ≤ 305; decide, fun j hj => by exact absurd hj (Nat.not_lt_zero _)⟩
      obtain ⟨M1, n', L1, x1, l1, e1, hn'⟩ := aw9v hN h16 (hodd t1) i n (sI M 5 6 0) (Nat.le_refl _) (w.e rfl) L0 (by omega)
      have X1 := f0.tr x1
      have lm : ∀ o b, mL M1 o b = mL M o b := fun o b => by rw [l1]; rfl
      obtain ⟨a1, a2, a3⟩ := L1.2 0 (Nat.le_refl _) h0
      have le := (tt_e hN (show 0 < i by omega)).2.1.2
      rw [Nat.zero_add] at a1 a3 le
      have F81 := f8.x X1
      have W1 := w.e X1.1
      obtain ⟨M2, e2, l2, v2⟩ := aw80v h16 (ttD i (i - 0) - ttD i (i - 1)) (ttD i (i - 1)) n' M1 (ttD i (i - 0)) (by omega) W1 L1.1 F81 a2 (Nat.le_refl _) (by have := L1.1.2.1; omega)
      have s6 : F1 M1 6 7 i := by
        obtain ⟨⟨a, b, c, d⟩, e, g⟩ := f6
        have io : ∀ {c o}, isO M c o → isO M1 c o := fun z => by unfold isO mN mC at *; rw [X1.1]; exact z
        exact ⟨⟨io a, by rw [mR_e X1.1]; exact b, io c, by rw [mLn_e X1.1]; exact d⟩, by rw [X1.2.1 6 (by decide) (by decide)]; exact e, by rw [X1.2.1 6 (by decide) (by decide)]; exact g⟩
      have s2 : SV5 M2 i := ⟨W1.e l2.1, s6.ag2 l2, F81.ag2 l2⟩
      let F9 : Nat → Bool := fun X => @decide ((∃ v, v < i ∧ X = bsN S v) ∨ ∃ j, ttD i (i - 1) ≤ j ∧ j < ttD i (i - 0) ∧ mI M1 11 j = nI X ∧ X < 65536) (Classical.propDecidable _)
      have b9 : ∀ Y, F9 Y = true ↔ (∃ v, v < i ∧ Y = bsN S v) ∨ ∃ j, ttD i (i - 1) ≤ j ∧ j < ttD i (i - 0) ∧ mI M1 11 j = nI Y ∧ Y < 65536 := fun Y => @decide_eq_true_iff ((∃ v, v < i ∧ Y = bsN S v) ∨ ∃ j, ttD i (i - 1) ≤ j ∧ j < ttD i (i - 0) ∧ mI M1 11 j = nI Y ∧ Y < 65536) (Classical.propDecidable _)
      have g9 : ∀ X, X < 64 * us6 i → fb (mL M2 9) X = F9 X := fun X hX => by
        apply Bool.eq_iff_iff.mpr
        rw [v2 X, b9 X]
        have : fb (mL M1 9) X = fb (mL M 9) X := by unfold fb; rw [lm]
        rw [this, c9 X hX]
      have g7' : ∀ X, X < 64 * us6 i → fb (mL M2 7) X = F7 X := fun X hX => by
        rw [← g7 X hX]
        unfold fb
        rw [l2.2.2 7 (by decide), lm]
      obtain ⟨M', e', f', s', o', l', q7, q9⟩ := tk79v h16 s2 g7' g9 (n := n) (by omega)
      have eN : nI i - (1 : Int32) = nB i := by
        obtain ⟨m, rfl⟩ : ∃ m, i = m + 1 := ⟨i - 1, by omega⟩
        exact nI_pred m
      have eA : f_X8_addWholes n 5 (nI i) M = some M2 := by
        rw [f_X8_addWholes, chk_t w.1.1, bnd_e, eN, bnd_e]
        exact e1.trans e2
      refine ⟨M', ?_, X1.f.tr (Fs.tr ⟨l2.1, fun o _ b => l2.2.1 o b⟩ f'), s', o', fun o n7 n9 b => by rw [l' o n7 n9 b, l2.2.2 o n9 b, lm], ?_⟩
      · rw [t1, if_neg ne10, chk_t w.1.1, eA, obd_s]
        exact e'
      · exact CT_of (M := M1) h16 h0 bi tb (Or.inr t1) hodd b7 (Or.inr ⟨t1, ttD i (i - 1), ttD i (i - 0), L1.1.2.2, a3, b9⟩) q7 q9
  | succ d ih =>
    intro i n M hi sb h c7 c9 hn
    obtain ⟨n, rfl⟩ : ∃ m, n = m + 1 := ⟨n - 1, by omega⟩
    obtain ⟨w, f6, f8⟩ := id h
    have kl := bsN_lt h16 bi (show i < N by omega)
    have p := p16 h16
    obtain ⟨M1, e1, l1, x1⟩ := f6.addv (k := bsN S i) (by omega)
    have W1 := w.e l1.1
    have sb1 := sb.lg l1
    obtain ⟨M2, e2, l2, x2⟩ := (f8.ag2 l1).addv (k := bsN S i) (by omega)
    have s2 : SV5 M2 N := ⟨W1.e l2.1, (f6.ag2 l1).ag2 l2, (f8.ag2 l1).ag2 l2⟩
    have step : ∀ {q : Nat} {W W' : Nat → Int64}, (∀ X, X < 64 * us6 N → (fb W X = true ↔ ∃ v, v < i ∧ X = bsN S v)) → (∀ X, fb W' X = (fb W X || decide (X = bsN S i))) → ∀ X, X < 64 * us6 N → (fb W' X = true ↔ ∃ v, v < i + 1 ∧ X = bsN S v) := fun {q W W'} hW hW' X hX => by
      rw [hW' X, Bool.or_eq_true, hW X hX, decide_eq_true_eq]
      constructor
      · rintro (⟨v, hv, e⟩ | e)
        · exact ⟨v, by omega, e⟩
        · exact ⟨i, by omega, e⟩
      · rintro ⟨v, hv, e⟩
        by_cases z : v = i
        · rw [z] at e; exact Or.inr e
        · exact Or.inl ⟨v, by omega, e⟩
    obtain ⟨M', e', f', s', o', l', ct⟩ := ih (i + 1) n M2 (by omega) (sb1.lg l2) s2 (step (q := 0) c7 (fun X => by
      rw [← x1 X]
      unfold fb
      rw [l2.2.2 7 (by decide)])) (step (q := 0) (W := mL M1 9) (fun X hX => by
      rw [← c9 X hX]
      unfold fb
      rw [l1.2.2 9 (by decide)]) x2) (by omega)
    refine ⟨M', ?_, Fs.tr ⟨l2.1.trans l1.1, fun o _ b => (l2.2.1 o b).trans (l1.2.1 o b)⟩ f', s', o', fun o n7 n9 b => by rw [l' o n7 n9 b, l2.2.2 o n9 b, l1.2.2 o n7 b], ct⟩
    have bs : mI M 2 (nI i).toNatClampNeg = nI (bsN S i) := by rw [mI_c (by omega), sb.b (by omega), bsN_e S i]
    have bs1 : mI M1 2 (nI i).toNatClampNeg = nI (bsN S i) := by rw [l1.2.1]; exact bs
    rw [f_X8_take_24, sb.f, sb.n, if_neg (nI_ge (by omega) (by omega)), chk_t w.1.1, w.2.1.1, bnd_e, chk_t w.1.2.1, sb.r2, bnd_e, sb.a2, sb.i2 (by omega), bs, e1, obd_s, chk_t W1.1.1, W1.2.1.2.1, bnd_e, chk_t W1.1.2.2.2.1, sb1.f, sb1.r2, bnd_e, sb1.a2, sb1.i2 (by omega), bs1, e2, obd_s, bnd_e, nI_1]
    exact e'
theorem FL79.tr {M M' M'' : Mem} (h : FL79 M M') (h' : FL79 M' M'') : FL79 M M'' := fun o n7 n9 b => (h' o n7 n9 b).trans (h o n7 n9 b)
/-- a survey, taken anew -/
theorem sv1v {M : Mem} {N : Nat} {S : St} (xg : XG M) (w : W5 M) (z : mI M 5 7 = 0) (sb : SB M N S) (h0 : 0 < N) (h16 : N ≤ 16) (bi : BI N S) (tb : TB N S) (ht2 : xR S 20 1 = 0 ∨ xR S 20 1 = 1) {n : Nat} (hn : 3000 ≤ n) : ∃ M', f_X9_surveyOnce n 0 M = some M' ∧ Fs M M' ∧ SV5 M' N ∧ mI M' 5 7 = 1 ∧ FL79 M M' ∧ CT M' N S := by
  have q6 : isO M 1 6 ∧ mR M 6 0 = 7 ∧ isO M 101 7 ∧ mLn M 7 = 1024 := ⟨w.1.2.1, w.2.1.2.2.2.2.2.2.1, w.1.2.2.1, w.2.2.1⟩
  have u := us_b h16
  obtain ⟨M1, e1, f1, s1, o1, l1, z1⟩ := bg_1v (o := 6) (q := 7) h16 q6 (n := n) (by omega)
  have W1 := w.e s1
  have q81 : isO M1 1 8 ∧ mR M1 8 0 = 9 ∧ isO M1 101 9 ∧ mLn M1 9 = 1024 := ⟨W1.1.2.2.2.1, W1.2.1.2.2.2.2.2.2.2, W1.1.2.2.2.2.1, W1.2.2.2.1⟩
  have sb1 : SB M1 N S := sb.e s1 (o1 1 (by decide)) (o1 2 (by decide))
  obtain ⟨M2, e2, f2, s2, o2, l2, z2⟩ := bg_1v (o := 8) (q := 9) h16 q81 (n := n) (by omega)
  have sb2 : SB M2 N S := sb1.e s2 (o2 1 (by decide)) (o2 2 (by decide))
  have f12 : F1 M2 6 7 N := by
    obtain ⟨⟨a, b, c, d⟩, e, g⟩ := f1
    have io : ∀ {c o}, isO M1 c o → isO M2 c o := fun z => by unfold isO mN mC at *; rw [s2]; exact z
    exact ⟨⟨io a, by rw [mR_e s2]; exact b, io c, by rw [mLn_e s2]; exact d⟩, by rw [o2 6 (by decide)]; exact e, by rw [o2 6 (by decide)]; exact g⟩
  have W2 := W1.e s2
  have zz : ∀ {W : Nat → Int64}, (∀ w, w < 1024 → W w = 0) → ∀ X, X < 64 * us6 N → (fb W X = true ↔ ∃ v, v < 0 ∧ X = bsN S v) := fun {W} hW X hX => by
    have : fb W X = false := by
      unfold fb
      rw [hW _ (by omega), qb_0]
    rw [this]
    exact ⟨fun y => absurd y (by decide), fun ⟨v, hv, _⟩ => by omega⟩
  obtain ⟨M', e', f', s', o', l', ct⟩ := tk24v (S := S) h0 h16 bi tb ht2 (fun t => (tb.2 t).1) N 0 n M2 (by omega) sb2 ⟨W2, f12, f2⟩ (zz (fun w hw => by rw [l2 7 (by decide)]; exact z1 w hw)) (zz z2) (by omega)
  refine ⟨M', ?_, Fs.tr ⟨s2.trans s1, fun o n b => by rw [o2 o (by omega), o1 o (by omega)]⟩ f', s', o', fun o n7 n9 b => by rw [l' o n7 n9 b, l2 o n9 b, l1 o n7 b], ct⟩
  rw [f_X9_surveyOnce, chk_t xg.1, xg.2.2.1, bnd_e, chk_t w.1.1, if_pos z, bnd_e, chk_t w.1.1, xg.2.1, bnd_e, sb.f, f_X8_take, chk_t w.1.1, w.2.1.1, bnd_e, chk_t w.1.2.1, sb.f, sb.n, e1, obd_s, chk_t W1.1.1, W1.2.1.2.1, bnd_e, chk_t W1.1.2.2.2.1, sb1.f, sb1.n, e2, obd_s]
  rw [show f_X8_take_24 n 5 1 0 M2 = some M' from e', obd_s]
/-! ===== weakest, chance, chanceOf, pivotal, better: both answer alike ===== -/
theorem CW.sv {M M' : Mem} {N : Nat} {Q : Nat → Int32} {S : St} (h : CW M N Q S) (f : Fs M M') (v : SV5 M' N) (h1 : mI M' 5 7 = 1) (ct : CT M' N S) : CW M' N Q S := by
  obtain ⟨X, Y, L, p, sb, xg, xc, xv, xs, g, hL⟩ := h
  obtain ⟨e, hI⟩ := f
  have s1 : Shp1 M M' := Shp1.e e
  exact ⟨X, Y, L, p.kp6 e (fun o ho b => hI o (by omega) b), sb.e e (hI 1 (by decide)) (hI 2 (by decide)), xg.s s1, xc.s s1 (hI 113 (by decide)) (fun _ _ => rfl), ⟨⟨v.1.1, v.1.2.1, v.1.2.2, Or.inr ⟨h1, v.2.1.2.1, v.2.1.2.2, v.2.2.2.1, v.2.2.2.2⟩⟩, fun _ => ct⟩, xs.e e (fun o ho b => hI o (by omega) b), g.e e, hL⟩
theorem FrLg.f {M M' : Mem} (h : FrLg M M') : Fs M M' := ⟨h.1, fun o _ b => h.2 o b⟩
/-- the class has surveyed -/
theorem WJ.sv {M : Mem} {N A i n : Nat} {Q : Nat → Int32} {S : St} (w : WJ M N A i Q S) (hn : 4000 ≤ n) : ∃ M1, f_X9_surveyOnce n 0 M = some M1 ∧ Fs M M1 ∧ SV5 M1 N ∧ mI M1 5 7 = 1 ∧ CT M1 N S := by
  obtain ⟨X, Y, L, p, sb, xg, xc, ⟨⟨a, b, c, d⟩, xt⟩, xr⟩ := id w.1
  have sw := w.2.2.2.1
  have h2 := sw.n2
  have h16 := sw.n16
  have w5 : W5 M := ⟨a, b, c⟩
  by_cases z : mI M 5 7 = 0
  · obtain ⟨M', e, f, s, o, _, ct⟩ := sv1v xg w5 z sb (by omega) h16 sw.bi sw.tb sw.t2 (n := n) (by omega)
    exact ⟨M', e, f, s, o, ct⟩
  · obtain ⟨d1, d2, d3, d4, d5⟩ := d.resolve_left z
    exact ⟨M, by rw [f_X9_surveyOnce, chk_t xg.1, xg.2.2.1, bnd_e, chk_t w5.1.1, if_neg z], Fs.rf M, ⟨w5, ⟨⟨w5.1.2.1, w5.2.1.2.2.2.2.2.2.1, w5.1.2.2.1, w5.2.2.1⟩, d2, d3⟩, ⟨⟨w5.1.2.2.2.1, w5.2.1.2.2.2.2.2.2.2, w5.1.2.2.2.2.1, w5.2.2.2.1⟩, d4, d5⟩⟩, d1, xt d1⟩
theorem WJ.sv2 {M M1 : Mem} {N A i : Nat} {Q : Nat → Int32} {S : St} (w : WJ M N A i Q S) (f : Fs M M1) (v : SV5 M1 N) (h1 : mI M1 5 7 = 1) (ct : CT M1 N S) : CW M1 N Q S ∧ XG M1 ∧ SB M1 N S ∧ RV M1 false 0 S [] [] ∧ mI M1 120 7 = 0 ∧ isO M1 10 120 := by
  have cw := w.1.sv f v h1 ct
  obtain ⟨X, Y, L, p, sb, xg, _⟩ := id cw
  have r : RV M1 false 0 S [] [] := w.2.1.mr (by unfold mN; rw [f.1]; exact Nat.le_refl _) (fun o a b => ⟨by rw [f.1], fun b => mR_e f.1 o b, f.2 o (by omega)⟩)
  exact ⟨cw, xg, sb, r, by rw [f.2 120 (by decide)]; exact w.2.2.1, r.1.io (by decide) (by decide) (by decide)⟩
theorem WJ.p2 {M M1 M2 : Mem} {N A i : Nat} {Q : Nat → Int32} {S : St} (w : WJ M N A i Q S) (cw : CW M1 N Q S) (z1 : mI M1 120 7 = 0) (r2 : RV M2 false 0 S [] []) (f : Fr P2 M1 M2) : WI (i + 1) M2 :=
  ⟨N, A, Q, S, cw.ref f.1 (fun o ho b => f.2.1 o (fun z => ho (by unfold P2 at z; omega)) b) (fun _ o _ b => f.2.2 o b), r2, by rw [f.2.1 120 (by unfold P2; decide)]; exact z1, w.2.2.2.1.mo, w.2.2.2.2⟩
theorem isI_o {a : Int32} {K : Nat} (hK : K < 999) (h : Out (K + 1) a) {M : Mem} : f_X10_isIn a (0 : Int32) (nI K) M = some 0 := by
  rw [f_X10_isIn]
  by_cases q : a < 0
  · rw [if_pos q]
  · rw [if_neg q, if_pos (gt3 (N := K) (by omega) (h.resolve_left q))]
theorem en_st {N : Nat} {S : St} {X : Nat} (hX : X < 2 ^ N) : enB N S (2 ^ N - 1 - X) = false ↔ stb N S X := by
  unfold enB stb
  rw [decide_eq_false_iff_not, Decidable.not_not, show 2 ^ N - 1 - (2 ^ N - 1 - X) = X by omega]
/-- all broken: no quorum -/
theorem stb_all {N A i : Nat} {S : St} (sw : SW N A i S) : stb N S (2 ^ N - 1) := by
  have h16 := sw.n16
  have h2 := sw.n2
  have al : ∀ j, j < N → bt (nI (2 ^ N - 1)) j = true := fun j hj => by
    have := nI_comp h16 (b := 0) (Nat.two_pow_pos N) (show j < 32 by omega)
    rw [Nat.sub_zero, show nI 0 = (0 : Int32) from rfl, b_0, decide_eq_true hj] at this
    exact this
  unfold stb cor
  by_cases t : xR S 20 1 = 1
  · rw [if_pos t]
    have hN := sw.t t
    have main : ∀ r u, N ≤ u + r → u < N → wh N (nI (2 ^ N - 1)) u = 0 := by
      intro r
      induction r with
      | zero => intro u h1 h2; omega
      | succ r ih =>
        intro u h1 h2
        apply Decidable.byContradiction
        intro c
        have := (wh_nz h2 h16 hN).mp c
        have au := al u h2
        by_cases l : N ≤ 2 * u + 2
        · rw [if_pos l, au] at this; cases this
        · rw [if_neg l, au] at this
          rcases this with ⟨z, _⟩ | ⟨z, _⟩ | ⟨z, _⟩
          · cases z
          · exact z (ih _ (by omega) (by omega))
          · cases z
    exact main N 0 (by omega) (by omega)
  · rw [if_neg t]
    apply Decidable.byContradiction
    intro c
    obtain ⟨v, hv, e⟩ := (fub_nz sw.tb.1 _).mp c
    apply sw.tb.1 v hv
    refine b_ext fun j hj => ?_
    rw [b_0]
    rcases Nat.lt_or_ge j N with q | q
    · have := b_and (xR S 17 v) (nI (2 ^ N - 1)) j
      rw [e, b_0, al j q, Bool.and_true] at this
      exact this.symm
    · exact sw.bi v hv j q hj
theorem isMin_e {M1 : Mem} {N : Nat} {S : St} (ct : CT M1 N S) {m m' : Nat} (h : isMin (mL M1 9) N m) (h' : isMinT N S m') : m = m' := by
  have st : ∀ X, sto (mL M1 9) N X ↔ X < 2 ^ N ∧ stb N S X := fun X => by
    unfold sto
    constructor
    · rintro ⟨a, b⟩
      rw [(ct.1 (2 ^ N - 1 - X) (by omega)).2, en_st a] at b
      exact ⟨a, b⟩
    · rintro ⟨a, b⟩
      refine ⟨a, ?_⟩
      rw [(ct.1 (2 ^ N - 1 - X) (by omega)).2, en_st a]
      exact b
  obtain ⟨a1, a2⟩ := (st m).mp h.1
  have k1 := h.2 m' ((st m').mpr h'.1)
  have k2 := h'.2 m a1 a2
  omega
theorem eq13 {M : Mem} {i n : Nat} (h : WI i M) (a : Int32) (hn : 100000 ≤ n) : Okk i (f_X9_weakest n 0 a M) (fun M1 => f_X10_weakest n 120 a M1) := by
  obtain ⟨N, A, Q, S, w⟩ := h
  have sw := w.2.2.2.1
  have h16 := sw.n16
  obtain ⟨X, Y, L, p, sb, xg, xr⟩ := id w.1
  rcases out_in (N := 2) (by decide) a with ha | ⟨u, hu, rfl⟩
  · refine Okk.same w (r := -1) ?_ ?_
    · rw [f_X9_weakest]
      by_cases q : a < 0
      · rw [if_pos q]
      · rw [if_neg q, if_neg (show ¬ a ≤ (1 : Int32) from Int32.not_le.mpr (gt3 (N := 1) (by decide) (ha.resolve_left q)))]
    · show f_X10_weakest n 120 a M = _
      rw [f_X10_weakest, show f_X10_isIn a (0 : Int32) (1 : Int32) M = some 0 from isI_o (K := 1) (by decide) ha, obd_s, if_pos rfl]
  · obtain ⟨M1, e1, f1, v1, o1, ct⟩ := w.sv (n := n) (by omega)
    obtain ⟨cw, xg1, sb1, r1, z1, io⟩ := w.sv2 f1 v1 o1 ct
    have p2 := p16 h16
    have sa := stb_all sw
    have ex : ∃ X, sto (mL M1 9) N X := ⟨2 ^ N - 1, by omega, by
      rw [(ct.1 _ (by omega)).2, en_st (show 2 ^ N - 1 < 2 ^ N by omega)]
      exact sa⟩
    obtain ⟨m, em, hm⟩ := v1.2.2.lsm h16 ex (n := n) (by omega)
    obtain ⟨m', M2, hm', e2, r2, f2⟩ := rwk_v (fun b => cor_q sw b) sw.n h16 sw.t (nI u) (2 ^ N) (2 ^ N - 1) n M1 r1 (by omega) (by omega) sa (fun X h1 h2 => by omega) (by omega) (by omega)
    obtain rfl := isMin_e ct hm hm'
    have m16 := hm.1.1
    refine ⟨if nI u = 0 then nI (pcN m) else nI m, M1, M2, ?_, io, ?_, w.p2 cw z1 r2 f2⟩
    · rw [f_X9_weakest, if_neg (show ¬ nI u < 0 from nI_nlt (b := 0) (Nat.zero_le _) (by omega)), if_pos (show nI u ≤ (1 : Int32) from nI_le (b := 1) (by omega) (by decide)), chk_t xg.1, e1, obd_s, chk_t xg1.1, xg1.2.2.1, bnd_e, chk_t v1.1.1.1, v1.1.2.1.2.1, bnd_e, chk_t v1.1.1.2.2.2.1, em, obd_s]
      have bc : f_J6_bitCount_0f7a4 (nI m) M1 = some (nI (pcN m)) := by
        rw [f_bcx (bt_hk (j := 16) (by omega)) M1, pc_N]
      by_cases z : nI u = 0
      · rw [if_pos z, if_pos z, bc, obd_s]
      · rw [if_neg z, if_neg z]
    · show f_X10_weakest n 120 (nI u) M1 = _
      have i1 : f_X10_isIn (nI u) (0 : Int32) (1 : Int32) M1 = some 1 := f_isI (b := 1) M1 (show u ≤ 1 by omega) (by decide)
      have e2' : f_X10_weakest_21 n 120 (nI u) (nI (2 ^ N - 1)) (nI (2 ^ N - 1)) M1 = some (if nI u = 0 then nI (pcN m) else nI m, M2) := by
        have : nI (2 ^ N) - (1 : Int32) = nI (2 ^ N - 1) := nI_m1' p2.1
        rw [this] at e2
        exact e2
      rw [f_X10_weakest, i1, obd_s, if_neg ne10, rs_f r1.1, r1.al sw.n h16, obd_s, obd_s]
      exact e2'
/-! chances -/
theorem p8_v (M : Mem) (a : Int32) (K : Nat) (hK : K < 1000) : ∀ (d i n : Nat) (c : Int64), i + d = K → d + 1 ≤ n → f_X8_power_5 M n a (nI K) c (nI i) = some (pwv a.toInt64 d c) := by
  intro d
  induction d with
  | zero =>
    intro i n c hi hn
    obtain ⟨n, rfl⟩ : ∃ m, n = m + 1 := ⟨n - 1, by omega⟩
    rw [f_X8_power_5, if_pos (nI_le (by omega) (by omega))]
    rfl
  | succ d ih =>
    intro i n c hi hn
    obtain ⟨n, rfl⟩ : ∃ m, n = m + 1 := ⟨n - 1, by omega⟩
    rw [f_X8_power_5, if_neg (nI_ge (by omega) (by omega)), bnd_e, bnd_e, nI_1]
    exact ih (i + 1) n _ (by omega) (by omega)
theorem p8v (M : Mem) (a : Int32) {k n : Nat} (hk : k ≤ 16) (hn : 20 ≤ n) : f_X8_power n a (nI k) M = some (pwv a.toInt64 k 1) :=
  p8_v M a k (by omega) k 0 n 1 (by omega) (by omega)
theorem pw10_k : ∀ k, k < 11 → (if pwv (10 : Int32).toInt64 k 1 < (1 : Int64) then (1 : Int64) else pwv (10 : Int32).toInt64 k 1) = pwv 10 k 1 ∧ pwv (10 : Int32).toInt64 k 1 = pwv 10 k 1 := by decide +kernel
/-- what a set weighs by its size -/
def wgt (u N k : Nat) : Int64 := pwv ((10 : Int32) - nI u).toInt64 k 1 * pwv (nI u).toInt64 (N - k) 1
theorem m8_v {N u : Nat} (h16 : N ≤ 16) {a : Int32} {h F : Nat → Bool} (ha : hvp a h) : ∀ (d i n : Nat) (M : Mem), i + d = N + 1 → W5 M → F1 M 8 9 N → (∀ X, X < 2 ^ N → fb (mL M 9) X = F X) → (∀ X, 2 ^ N ≤ X → X < 64 * us6 N → fb (mL M 9) X = false) → (∀ k, k < i → mL M 10 k = wgt u N k) → d + 1200 ≤ n → ∃ M', f_X8_millionths_3 n 5 a (nI u) (nI N) (nI i) M = some (mll N (smL (fun X => if (F X && h X) = true then wgt u N (pcN X) else 0) (2 ^ N)), M') ∧ FLq 10 M M' := by
  have us := us_b h16
  intro d
  induction d with
  | zero =>
    intro i n M hi w f hF h0 hw hn
    obtain ⟨n, rfl⟩ : ∃ m, n = m + 1 := ⟨n - 1, by omega⟩
    obtain ⟨⟨w1, w2, w3, w4, w5, w6, w7, w8, w9⟩, ⟨y1, y2, y3, y4, y5, y6, y7, y8⟩, ⟨z1, z2, z3, z4, z5, z6⟩⟩ := w
    have ex := f.wg_s h16 hF h0 ha w6 z3 (n := n) (by omega)
    have es : smL (fun X => if (F X && h X) = true then mL M 10 (pcN X) else 0) (2 ^ N) = smL (fun X => if (F X && h X) = true then wgt u N (pcN X) else 0) (2 ^ N) := smL_c _ (fun X hX => by
      rw [hw (pcN X) (by have := pcN_le h16 hX; omega)])
    rw [es] at ex
    generalize smL (fun X => if (F X && h X) = true then wgt u N (pcN X) else 0) (2 ^ N) = x at ex ⊢
    refine ⟨M, ?_, FLq.rf 10 M⟩
    unfold mll
    rw [f_X8_millionths_3, if_pos (nI_lt (by omega) (by omega)), chk_t w1, y2, bnd_e, chk_t w4, y3, bnd_e, chk_t w6, ex, obd_s]
    by_cases c : 6 ≤ N
    · obtain ⟨k1, k2⟩ := pw10_k (N - 6) (by omega)
      rw [if_pos (show (6 : Int32) ≤ nI N from nI_le (a := 6) c (by omega)), show nI N - (6 : Int32) = nI (N - 6) by rw [show (6 : Int32) = nI 6 from rfl, nI_sb c], p8v M (10 : Int32) (k := N - 6) (n := n) (by omega) (by omega), obd_s, k1, chk_t (pw10 (N - 6) (by omega)), if_neg (show ¬ N < 6 by omega)]
    · obtain ⟨k1, k2⟩ := pw10_k (6 - N) (by omega)
      rw [if_neg (show ¬ (6 : Int32) ≤ nI N from nI_ge (b := 6) (by omega) (by decide)), show (6 : Int32) - nI N = nI (6 - N) by rw [show (6 : Int32) = nI 6 from rfl, nI_sb (by omega)], p8v M (10 : Int32) (k := 6 - N) (n := n) (by omega) (by omega), obd_s, k2, if_pos (show N < 6 by omega)]
  | succ d ih =>
    intro i n M hi w f hF h0 hw hn
    obtain ⟨n, rfl⟩ : ∃ m, n = m + 1 := ⟨n - 1, by omega⟩
    obtain ⟨⟨w1, w2, w3, w4, w5, w6, w7, w8, w9⟩, ⟨y1, y2, y3, y4, y5, y6, y7, y8⟩, ⟨z1, z2, z3, z4, z5, z6⟩⟩ := id w
    have fl := FLq.s 10 M i (wgt u N i)
    have l9 : mL (sL M 10 i (wgt u N i)) 9 = mL M 9 := by
      funext b
      exact mL_o M 10 i _ (by omega)
    obtain ⟨M', e', f'⟩ := ih (i + 1) n (sL M 10 i (wgt u N i)) (by omega) (w.e rfl) (f.l fl.lg) (fun X hX => by rw [l9]; exact hF X hX) (fun X a b => by rw [l9]; exact h0 X a b) (fun k hk => by
      by_cases c : k = i
      · rw [c, mL_s]
      · rw [mL_o M 10 i _ (fun z => c z.2)]; exact hw k (by omega)) (by omega)
    refine ⟨M', ?_, fl.tr f'⟩
    rw [f_X8_millionths_3, if_neg (nI_nl (by omega) (by omega)), chk_t w1, y3, bnd_e, chk_t w6, p8v M ((10 : Int32) - nI u) (k := i) (n := n) (by omega) (by omega), obd_s, nI_sb (by omega), p8v M (nI u) (k := N - i) (n := n) (by omega) (by omega), obd_s, z3, chk_t (inB_n (by omega) (by decide)), bnd_e, bnd_e, nI_1, sL_c (by omega)]
    exact e'
theorem tn_k : ∀ u, u < 11 → ((10 : Int32) - nI u).toInt64 = (10 : Int64) - (nI u).toInt64 := by decide +kernel
theorem ch_e {N u : Nat} {S : St} {h : Nat → Bool} {h' : Nat → Bool} (h16 : N ≤ 16) (hu : u < 11) (hh : ∀ X, X < 2 ^ N → h X = !h' (2 ^ N - 1 - X)) : smL (fun X => if (enB N S X && h X) = true then wgt u N (pcN X) else 0) (2 ^ N) = smL (fun t => if h' t = true then 0 else if cor N S (nI t) = 0 then 0 else od N u t) (2 ^ N) := by
  rw [smL_rev (fun t => if h' t = true then 0 else if cor N S (nI t) = 0 then 0 else od N u t)]
  refine smL_c _ (fun X hX => ?_)
  have pc := pc_comp N h16 X hX
  have eo : od N u (2 ^ N - 1 - X) = wgt u N (pcN X) := by
    unfold od wgt
    rw [show pcN (2 ^ N - 1 - X) = N - pcN X by omega, show N - (N - pcN X) = pcN X by omega, tn_k u hu, Int64.mul_comm]
  show _ = if h' (2 ^ N - 1 - X) = true then 0 else if cor N S (nI (2 ^ N - 1 - X)) = 0 then 0 else od N u (2 ^ N - 1 - X)
  rw [eo, hh X hX]
  unfold enB
  by_cases a : h' (2 ^ N - 1 - X) = true
  · rw [if_pos a, a]
    simp
  · have a' : h' (2 ^ N - 1 - X) = false := by cases z : h' (2 ^ N - 1 - X) <;> first | rfl | exact absurd z a
    rw [if_neg a, a']
    by_cases b : cor N S (nI (2 ^ N - 1 - X)) = 0
    · rw [if_pos b]
      simp [b]
    · rw [if_neg b]
      simp [b]
theorem eq15 {M : Mem} {i n : Nat} (h : WI i M) (a : Int32) (hn : 100000 ≤ n) : Okk i (f_X9_chance n 0 a M) (fun M1 => f_X10_chance n 120 a M1) := by
  obtain ⟨N, A, Q, S, w⟩ := h
  have sw := w.2.2.2.1
  have h16 := sw.n16
  obtain ⟨X, Y, L, p, sb, xg, xr⟩ := id w.1
  rcases out_in (N := 11) (by decide) a with ha | ⟨u, hu, rfl⟩
  · refine Okk.same w (r := -1) ?_ ?_
    · rw [f_X9_chance]
      by_cases q : a < 0
      · rw [if_pos q]
      · rw [if_neg q, if_neg (show ¬ a ≤ (10 : Int32) from Int32.not_le.mpr (gt3 (N := 10) (by decide) (ha.resolve_left q)))]
    · show f_X10_chance n 120 a M = _
      rw [f_X10_chance, show f_X10_isIn a (0 : Int32) (10 : Int32) M = some 0 from isI_o (K := 10) (by decide) ha, obd_s, if_pos rfl]
  · obtain ⟨M1, e1, f1, v1, o1, ct⟩ := w.sv (n := n) (by omega)
    obtain ⟨_, xg1, sb1, _⟩ := w.sv2 f1 v1 o1 ct
    obtain ⟨M2, e2, l2⟩ := m8_v (u := u) h16 (a := -1) (h := fun _ => true) (F := enB N S) (Or.inl ⟨rfl, fun _ => rfl⟩) (N + 1) 0 n M1 (by omega) v1.1 v1.2.2 (fun X hX => (ct.1 X hX).2) (fun X a b => (ct.2 X a b).2) (fun k hk => by omega) (by omega)
    have ct2 : CT M2 N S := ct.cg (fun b => l2.2.2 7 (by decide) b) (fun b => l2.2.2 9 (by decide) b) (fun _ => rfl) rfl
    obtain ⟨cw, xg2, sb2, r2, z2, io⟩ := w.sv2 (f1.tr l2.lg.f) (v1.l l2.lg) (by rw [l2.2.1]; exact o1) ct2
    obtain ⟨M3, e3, r3, f3⟩ := rch_v (fun b => cor_q sw b) sw.n h16 sw.t u (2 ^ N) 0 n 0 M2 r2 (by omega) (by have := p16 h16; omega)
    have ee := ch_e (S := S) (h := fun _ => true) (h' := fun _ => false) h16 hu (fun _ _ => rfl)
    refine ⟨mll N (smL (fun X => if (enB N S X && true) = true then wgt u N (pcN X) else 0) (2 ^ N)), M2, M3, ?_, io, ?_, w.p2 cw z2 r3 f3⟩
    · rw [f_X9_chance, if_neg (show ¬ nI u < 0 from nI_nlt (b := 0) (Nat.zero_le _) (by omega)), if_pos (show nI u ≤ (10 : Int32) from nI_le (b := 10) (by omega) (by decide)), chk_t xg.1, e1, obd_s, chk_t xg1.1, xg1.2.2.1, bnd_e, chk_t v1.1.1.1, xg1.2.1, bnd_e, sb1.f, sb1.n, f_X8_millionths, show f_X8_millionths_3 n 5 (-1) (nI u) (nI N) 0 M1 = _ from e2, obd2_s]
    · show f_X10_chance n 120 (nI u) M2 = _
      rw [f_X10_chance, show (10 : Int32) = nI 10 from rfl, f_isI M2 (show u ≤ 10 by omega) (by decide), obd_s, if_neg ne10]
      refine Eq.trans e3 ?_
      rw [ee, Int64.zero_add]
      congr 3
      exact smL_c _ (fun t _ => by rw [Nat.zero_add]; simp)
theorem eq16 {M : Mem} {i n : Nat} (h : WI i M) (a b : Int32) (hn : 100000 ≤ n) : Okk i (f_X9_chanceOf n 0 a b M) (fun M1 => f_X10_chanceOf n 120 a b M1) := by
  obtain ⟨N, A, Q, S, w⟩ := h
  have sw := w.2.2.2.1
  have h16 := sw.n16
  have h2 := sw.n2
  obtain ⟨X, Y, L, p, sb, xg, xr⟩ := id w.1
  have r := w.2.1
  rcases out_in (N := N) (by omega) a with ha | ⟨v, hv, rfl⟩
  · refine Okk.same w (r := -1) ?_ ?_
    · rw [f_X9_chanceOf, chk_t xg.1, xg.2.1, bnd_e, sb.f, ndc0 sb ha, obd_s, if_pos rfl]
    · show f_X10_chanceOf n 120 a b M = _
      rw [f_X10_chanceOf, rs_f r.1, ndr0 r sw.n (by omega) h16 ha, obd_s, if_pos rfl]
  · rcases out_in (N := 11) (by decide) b with hb | ⟨u, hu, rfl⟩
    · refine Okk.same w (r := -1) ?_ ?_
      · rw [f_X9_chanceOf, chk_t xg.1, xg.2.1, bnd_e, sb.f, ndc sb hv h16, obd_s, if_neg ne10]
        by_cases q : b < 0
        · rw [if_pos q]
        · rw [if_neg q, if_neg (show ¬ b ≤ (10 : Int32) from Int32.not_le.mpr (gt3 (N := 10) (by decide) (hb.resolve_left q)))]
      · show f_X10_chanceOf n 120 (nI v) b M = _
        rw [f_X10_chanceOf, rs_f r.1, ndr r sw.n hv h16, obd_s, if_neg ne10, show f_X10_isIn b (0 : Int32) (10 : Int32) M = some 0 from isI_o (K := 10) (by decide) hb, obd_s, if_pos rfl]
    · obtain ⟨M1, e1, f1, v1, o1, ct⟩ := w.sv (n := n) (by omega)
      obtain ⟨_, xg1, sb1, _⟩ := w.sv2 f1 v1 o1 ct
      obtain ⟨M2, e2, l2⟩ := m8_v (u := u) h16 (a := nI v) (h := fun X => X.testBit v) (F := enB N S) (Or.inr ⟨v, by omega, rfl, fun _ => rfl⟩) (N + 1) 0 n M1 (by omega) v1.1 v1.2.2 (fun X hX => (ct.1 X hX).2) (fun X a b => (ct.2 X a b).2) (fun k hk => by omega) (by omega)
      have ct2 : CT M2 N S := ct.cg (fun b => l2.2.2 7 (by decide) b) (fun b => l2.2.2 9 (by decide) b) (fun _ => rfl) rfl
      obtain ⟨cw, xg2, sb2, r2, z2, io⟩ := w.sv2 (f1.tr l2.lg.f) (v1.l l2.lg) (by rw [l2.2.1]; exact o1) ct2
      have qc : ∀ b, qby N S v b = 0 ↔ cor N S b = 0 := fun b => by
        constructor
        · intro z
          unfold qby at z
          by_cases c : xR S 17 v &&& b = 0
          · rw [if_pos c] at z; exact absurd z (sw.tb.1 v hv)
          · rw [if_neg c] at z; exact z
        · intro z; exact (cor_q sw b).mp z v hv
      obtain ⟨M3, e3, r3, f3⟩ := rco_v sw.n h16 sw.t (v := v) (by omega) qc u (2 ^ N) 0 n 0 M2 r2 (by omega) (by have := p16 h16; omega)
      have ee := ch_e (S := S) (h := fun X => X.testBit v) (h' := fun X => X.testBit v) h16 hu (fun X hX => by
        show X.testBit v = !(2 ^ N - 1 - X).testBit v
        rw [show 2 ^ N - 1 - X = 2 ^ N - (X + 1) by omega, Nat.testBit_two_pow_sub_succ hX, decide_eq_true hv, Bool.true_and, Bool.not_not])
      refine ⟨mll N (smL (fun X => if (enB N S X && X.testBit v) = true then wgt u N (pcN X) else 0) (2 ^ N)), M2, M3, ?_, io, ?_, w.p2 cw z2 r3 f3⟩
      · rw [f_X9_chanceOf, chk_t xg.1, xg.2.1, bnd_e, sb.f, ndc sb hv h16, obd_s, if_neg ne10, if_neg (show ¬ nI u < 0 from nI_nlt (b := 0) (Nat.zero_le _) (by omega)), if_pos (show nI u ≤ (10 : Int32) from nI_le (b := 10) (by omega) (by decide)), e1, obd_s, chk_t xg1.1, xg1.2.2.1, bnd_e, chk_t v1.1.1.1, xg1.2.1, bnd_e, sb1.f, sb1.n, f_X8_millionths, show f_X8_millionths_3 n 5 (nI v) (nI u) (nI N) 0 M1 = _ from e2, obd2_s]
      · show f_X10_chanceOf n 120 (nI v) (nI u) M2 = _
        rw [f_X10_chanceOf, rs_f r2.1, ndr r2 sw.n hv h16, obd_s, if_neg ne10, show (10 : Int32) = nI 10 from rfl, f_isI M2 (show u ≤ 10 by omega) (by decide), obd_s, if_neg ne10]
        refine Eq.trans e3 ?_
        rw [ee, Int64.zero_add]
        congr 3
        exact smL_c _ (fun t _ => by rw [Nat.zero_add])
/-! pivotal -/
theorem smN_ad2 (f g : Nat → Nat) : ∀ n, smN f n + smN g n = smN (fun i => f i + g i) n := by
  intro n
  induction n with
  | zero => rfl
  | succ n ih =>
    show smN f n + f n + (smN g n + g n) = smN (fun i => f i + g i) n + (f n + g n)
    rw [← ih]; omega
theorem smN_xor (v : Nat) : ∀ (N : Nat) (f : Nat → Nat), v < N → smN (fun X => f (X ^^^ 2 ^ v)) (2 ^ N) = smN f (2 ^ N) := by
  intro N
  induction N with
  | zero => intro f h; omega
  | succ N ih =>
    intro f h
    rw [show 2 ^ (N + 1) = 2 ^ N + 2 ^ N by rw [Nat.pow_succ]; omega, smN_ap, smN_ap f]
    have hi : ∀ X, X < 2 ^ N → 2 ^ N + X = X ^^^ 2 ^ N := fun X hX => by
      apply Nat.eq_of_testBit_eq
      intro i
      have e := Nat.testBit_two_pow_mul_add (i := N) 1 hX i
      rw [Nat.mul_one] at e
      rw [e, Nat.testBit_xor, Nat.testBit_two_pow]
      by_cases c : i < N
      · rw [if_pos c, decide_eq_false (show ¬ N = i by omega), Bool.xor_false]
      · rw [if_neg c, tb_hi hX (show N ≤ i by omega), Bool.false_xor]
        by_cases d : N = i
        · rw [decide_eq_true d, ← d, Nat.sub_self]; rfl
        · rw [decide_eq_false d]
          have : (1 : Nat).testBit (i - N) = false := Nat.testBit_lt_two_pow (Nat.one_lt_two_pow (by omega))
          exact this
    by_cases c : v = N
    · have e1 : smN (fun X => f (X ^^^ 2 ^ v)) (2 ^ N) = smN (fun i => f (2 ^ N + i)) (2 ^ N) := smN_c _ (fun X hX => by rw [c, hi X hX])
      have e2 : smN (fun i => f ((2 ^ N + i) ^^^ 2 ^ v)) (2 ^ N) = smN f (2 ^ N) := smN_c _ (fun X hX => by rw [c, hi X hX, Nat.xor_assoc, Nat.xor_self, Nat.xor_zero])
      rw [e1]
      refine Eq.trans (congrArg (fun z => smN (fun i => f (2 ^ N + i)) (2 ^ N) + z) e2) ?_
      exact Nat.add_comm _ _
    · have e1 := ih f (by omega)
      have e2 : smN (fun i => f ((2 ^ N + i) ^^^ 2 ^ v)) (2 ^ N) = smN (fun i => f (2 ^ N + i)) (2 ^ N) := by
        rw [← ih (fun i => f (2 ^ N + i)) (by omega)]
        refine smN_c _ (fun X hX => ?_)
        have hx : X ^^^ 2 ^ v < 2 ^ N := Nat.xor_lt_two_pow hX (Nat.pow_lt_pow_right (by decide) (by omega))
        show f ((2 ^ N + X) ^^^ 2 ^ v) = f (2 ^ N + (X ^^^ 2 ^ v))
        rw [hi X hX, hi _ hx, Nat.xor_assoc, Nat.xor_comm (2 ^ N), ← Nat.xor_assoc]
      rw [e1]
      exact congrArg (fun z => smN f (2 ^ N) + z) e2
theorem lv_up {N v : Nat} {S : St} (h16 : N ≤ 16) (bi : BI N S) (hv : v < N) {X : Nat} (hX : X < 2 ^ N) (h : lvB N S X = true) : lvB N S (X ||| 2 ^ v) = true := by
  have hx : X ||| 2 ^ v < 2 ^ N := Nat.or_lt_two_pow hX (Nat.pow_lt_pow_right (by decide) hv)
  obtain ⟨u, hu, e⟩ := (lvs_sub h16 bi hX).mp h
  exact (lvs_sub h16 bi hx).mpr ⟨u, hu, fun i hi => by rw [Nat.testBit_or, e i hi]; rfl⟩
/-- who matters how much, counted -/
theorem pv_cnt {N v : Nat} {S : St} (h16 : N ≤ 16) (bi : BI N S) (hv : v < N) : smN (fun X => if pvt N S v X = true then 1 else 0) (2 ^ N) + cfm (lvB N S) (2 ^ N) = 2 * cfm (fun X => lvB N S X && X.testBit v) (2 ^ N) := by
  have ox : ∀ X : Nat, X.testBit v = false → X ||| 2 ^ v = X ^^^ 2 ^ v := fun X h => by
    apply Nat.eq_of_testBit_eq
    intro i
    rw [Nat.testBit_or, Nat.testBit_xor, Nat.testBit_two_pow]
    by_cases c : v = i
    · rw [decide_eq_true c, ← c, h]; rfl
    · rw [decide_eq_false c, Bool.or_false, Bool.xor_false]
  have xb : ∀ X : Nat, (X ^^^ 2 ^ v).testBit v = !X.testBit v := fun X => by
    rw [Nat.testBit_xor, Nat.testBit_two_pow, decide_eq_true (Eq.refl v)]
    cases X.testBit v <;> rfl
  -- of the sets without v: not live, live with v; live
  have e1 : ∀ X, X < 2 ^ N → (if pvt N S v X = true then 1 else 0) + (if (lvB N S X && !X.testBit v) = true then 1 else 0) = (if (lvB N S (X ^^^ 2 ^ v) && (X ^^^ 2 ^ v).testBit v) = true then 1 else 0 : Nat) := fun X hX => by
    rw [xb]
    unfold pvt
    cases t : X.testBit v
    · rw [ox X t]
      have up := lv_up h16 bi hv hX
      rw [ox X t] at up
      cases a : lvB N S X
      · cases b : lvB N S (X ^^^ 2 ^ v) <;> rfl
      · rw [up a]; rfl
    · cases a : lvB N S X <;> cases b : lvB N S (X ^^^ 2 ^ v) <;> rfl
  have s1 : smN (fun X => if pvt N S v X = true then 1 else 0) (2 ^ N) + smN (fun X => if (lvB N S X && !X.testBit v) = true then 1 else 0) (2 ^ N) = cfm (fun X => lvB N S X && X.testBit v) (2 ^ N) := by
    rw [smN_ad2, smN_c _ e1]
    exact smN_xor v N (fun X => if (lvB N S X && X.testBit v) = true then 1 else 0) hv
  have s2 : cfm (lvB N S) (2 ^ N) = smN (fun X => if (lvB N S X && !X.testBit v) = true then 1 else 0) (2 ^ N) + cfm (fun X => lvB N S X && X.testBit v) (2 ^ N) := by
    unfold cfm
    rw [smN_ad2]
    refine smN_c _ (fun X _ => ?_)
    show (if lvB N S X = true then 1 else 0) = (if (lvB N S X && !X.testBit v) = true then 1 else 0) + (if (lvB N S X && X.testBit v) = true then 1 else 0)
    cases lvB N S X <;> cases X.testBit v <;> rfl
  omega
theorem eq18 {M : Mem} {i n : Nat} (h : WI i M) (a : Int32) (hn : 100000 ≤ n) : ∃ x M1, f_X9_pivotal n 0 a M = some (x, M1) ∧ isO M1 10 120 ∧ f_X10_pivotal n 120 a M1 = some x ∧ WI (i + 1) M1 := by
  obtain ⟨N, A, Q, S, w⟩ := h
  have sw := w.2.2.2.1
  have h16 := sw.n16
  have h2 := sw.n2
  obtain ⟨X, Y, L, p, sb, xg, xr⟩ := id w.1
  have r := w.2.1
  rcases out_in (N := N) (by omega) a with ha | ⟨v, hv, rfl⟩
  · exact ⟨-1, M, by rw [f_X9_pivotal, chk_t xg.1, xg.2.1, bnd_e, sb.f, ndc0 sb ha, obd_s, if_pos rfl], r.1.io (by decide) (by decide) (by decide), by rw [f_X10_pivotal, rs_f r.1, ndr0 r sw.n (by omega) h16 ha, obd_s, if_pos rfl], w.mo⟩
  · obtain ⟨M1, e1, f1, v1, o1, ct⟩ := w.sv (n := n) (by omega)
    obtain ⟨cw, xg1, sb1, r1, z1, io⟩ := w.sv2 f1 v1 o1 ct
    obtain ⟨x, ex, hx⟩ := v1.2.1.tb_s h16 (F := lvB N S) (fun X hX => (ct.1 X hX).1) (fun X a b => (ct.2 X a b).1) (v := v) (by omega) (n := n) (by omega)
    have ey := rpv_v r1 sw.n h16 (v := v) (by omega) (2 ^ N) 0 n 0 (by omega) (by have := p16 h16; omega)
    have pc := pv_cnt (S := S) h16 sw.bi hv
    have es : smN (fun t => if pvt N S v (0 + t) = true then 1 else 0) (2 ^ N) = smN (fun X => if pvt N S v X = true then 1 else 0) (2 ^ N) := smN_c _ (fun t _ => by rw [Nat.zero_add])
    rw [es, Nat.zero_add] at ey
    have xe : x = nI (smN (fun X => if pvt N S v X = true then 1 else 0) (2 ^ N)) := by
      have e3 : x + nI (cfm (lvB N S) (2 ^ N)) = nI (smN (fun X => if pvt N S v X = true then 1 else 0) (2 ^ N)) + nI (cfm (lvB N S) (2 ^ N)) := by
        rw [hx, nI_add, pc]
      have e4 := congrArg (fun z : Int32 => z - nI (cfm (lvB N S) (2 ^ N))) e3
      simp only [Int32.add_sub_cancel] at e4
      exact e4
    refine ⟨x, M1, ?_, io, ?_, N, A, Q, S, cw, r1, z1, sw.mo, w.2.2.2.2⟩
    · rw [f_X9_pivotal, chk_t xg.1, xg.2.1, bnd_e, sb.f, ndc sb hv h16, obd_s, if_neg ne10, e1, obd_s, chk_t xg1.1, xg1.2.2.1, bnd_e, chk_t v1.1.1.1, v1.1.2.1.1, bnd_e, chk_t v1.1.1.2.1, ex, obd_s]
    · rw [f_X10_pivotal, rs_f r1.1, ndr r1 sw.n hv h16, obd_s, if_neg ne10, xe]
      exact ey
/-! better -/
theorem gd_btr {M1 : Mem} {N : Nat} {S : St} (h16 : N ≤ 16) (bi : BI N S) (ct : CT M1 N S) {X : Nat} (hX : X < 2 ^ N) : gd (mL M1 7) N X ↔ btr N S X := by
  have c1 := (ct.1 X hX).1
  have c2 := (ct.1 (2 ^ N - 1 - X) (by omega)).1
  have ec : ∀ v, v < N → xR S 17 v &&& (nI (2 ^ N - 1 - X) ^^^ (-1 : Int32)) = xR S 17 v &&& nI X := fun v hv => and_cg (fun i a b => bi v hv i a b) (fun i hi => by
    rw [b_not _ (show i < 32 by omega), nI_comp h16 hX (show i < 32 by omega), decide_eq_true hi, Bool.true_and, Bool.not_not])
  unfold gd btr
  rw [c1, c2]
  constructor
  · rintro ⟨a, b⟩ v hv
    refine ⟨fun z => ?_, fun z => ?_⟩
    · have := lvB_iff (S := S) (X := 2 ^ N - 1 - X) |>.mpr ⟨v, hv, by rw [ec v hv]; exact z⟩
      rw [b] at this; cases this
    · have := lvB_iff (S := S) (X := X) |>.mpr ⟨v, hv, z⟩
      rw [a] at this; cases this
  · intro h
    refine ⟨?_, ?_⟩
    · cases z : lvB N S X
      · rfl
      · obtain ⟨v, hv, e⟩ := lvB_iff.mp z
        exact absurd e (h v hv).2
    · cases z : lvB N S (2 ^ N - 1 - X)
      · rfl
      · obtain ⟨v, hv, e⟩ := lvB_iff.mp z
        rw [ec v hv] at e
        exact absurd e (h v hv).1
theorem eq20 {M : Mem} {i n : Nat} (h : WI i M) (hn : 100000 ≤ n) : ∃ x M1, f_X9_better n 0 M = some (x, M1) ∧ isO M1 10 120 ∧ f_X10_better n 120 M1 = some x ∧ WI (i + 1) M1 := by
  obtain ⟨N, A, Q, S, w⟩ := h
  have sw := w.2.2.2.1
  have h16 := sw.n16
  have h2 := sw.n2
  obtain ⟨X, Y, L, p, sb, xg, xr⟩ := id w.1
  obtain ⟨M1, e1, f1, v1, o1, ct⟩ := w.sv (n := n) (by omega)
  obtain ⟨cw, xg1, sb1, r1, z1, io⟩ := w.sv2 f1 v1 o1 ct
  have u1 := us_b h16
  have p2 := p16 h16
  have g := fun {X : Nat} (hX : X < 2 ^ N) => gd_btr (S := S) h16 sw.bi ct hX
  have b0 : ¬ btr N S 0 := fun z => (z 0 (by omega)).1 (by rw [show nI 0 = (0 : Int32) from rfl, Int32.and_zero])
  obtain ⟨x, ex, hx⟩ := v1.2.1.lbv h16 (us6 N) 0 n (by omega) (by omega)
  have ex' : f_X1_leastBetter n 6 M1 = some x := ex
  have ey : f_X10_better n 120 M1 = some x := by
    have ey := rbt_v r1 sw.n h16 (2 ^ N - 1) 1 n (by omega) (by omega)
    rcases hx with ⟨X1, a1, a2, a3, a4, a5⟩ | ⟨a1, a2⟩
    · rcases ey with ⟨X2, c1, c2, c3, c4, c5⟩ | ⟨c1, c2⟩
      · have : X1 = X2 := by
          rcases Nat.lt_trichotomy X1 X2 with q | q | q
          · have h1 : 1 ≤ X1 := by
              rcases Nat.eq_zero_or_pos X1 with z | z
              · rw [z] at a3; exact absurd ((g (Nat.two_pow_pos N)).mp a3) b0
              · exact z
            exact absurd ((g a2).mp a3) (c4 X1 h1 q)
          · exact q
          · exact absurd ((g c2).mpr c3) (a5 X2 (by omega) q)
        rw [a4, this]; exact c5
      · have h1 : 1 ≤ X1 := by
          rcases Nat.eq_zero_or_pos X1 with z | z
          · rw [z] at a3; exact absurd ((g (Nat.two_pow_pos N)).mp a3) b0
          · exact z
        exact absurd ((g a2).mp a3) (c1 X1 h1 a2)
    · rcases ey with ⟨X2, c1, c2, c3, c4, c5⟩ | ⟨c1, c2⟩
      · exact absurd ((g c2).mpr c3) (a2 X2 (by omega) c2)
      · rw [a1]; exact c2
  refine ⟨x, M1, ?_, io, ey, N, A, Q, S, cw, r1, z1, sw.mo, w.2.2.2.2⟩
  rw [f_X9_better, chk_t xg.1, e1, obd_s, chk_t xg1.1, xg1.2.2.1, bnd_e, chk_t v1.1.1.1, v1.1.2.1.1, bnd_e, chk_t v1.1.1.2.1, ex', obd_s]
theorem op13 {M : Mem} {i n : Nat} (h : WI i M) (a : Int32) (hn : 100000 ≤ n) : Oks i (f_X9_weakest n 0 a M) (fun M1 => f_X10_weakest n 120 a M1) := (eq13 h a hn).ks
theorem op15 {M : Mem} {i n : Nat} (h : WI i M) (a : Int32) (hn : 100000 ≤ n) : Oks i (f_X9_chance n 0 a M) (fun M1 => f_X10_chance n 120 a M1) := (eq15 h a hn).ks
theorem op16 {M : Mem} {i n : Nat} (h : WI i M) (a b : Int32) (hn : 100000 ≤ n) : Oks i (f_X9_chanceOf n 0 a b M) (fun M1 => f_X10_chanceOf n 120 a b M1) := (eq16 h a b hn).ks
theorem op18 {M : Mem} {i n : Nat} (h : WI i M) (a : Int32) (hn : 100000 ≤ n) : ∃ x x' M1, f_X9_pivotal n 0 a M = some (x, M1) ∧ isO M1 10 120 ∧ f_X10_pivotal n 120 a M1 = some x' ∧ WI (i + 1) M1 := by
  obtain ⟨x, M1, a, b, c, d⟩ := eq18 h a hn
  exact ⟨x, x, M1, a, b, c, d⟩
theorem op20 {M : Mem} {i n : Nat} (h : WI i M) (hn : 100000 ≤ n) : ∃ x x' M1, f_X9_better n 0 M = some (x, M1) ∧ isO M1 10 120 ∧ f_X10_better n 120 M1 = some x' ∧ WI (i + 1) M1 := by
  obtain ⟨x, M1, a, b, c, d⟩ := eq20 h hn
  exact ⟨x, x, M1, a, b, c, d⟩
/-! ===== rows for floats ===== -/
abbrev nq32 (r : UInt32) : Prop := r &&& 0x7fffffff ≤ 0x7f800000
abbrev nq64 (r : UInt64) : Prop := r &&& 0x7fffffffffffffff ≤ 0x7ff0000000000000
section
variable {p : Program} {l : Launch} {e : Env} {R : Room} {s : State} {m : MethodId} {args : Array Value} {below : List Frame} {meth : Method} {c : Code} {H : Heap} {locs : List Loc} {cells slots : Nat} {Q : State → Prop} {cc : ByteArray} {pc : Nat} {ls : Array Slot} {rest : List Value}
theorem lv_ldcwF (hexec : p.tables.exec = Jvm.exec) (hb : c.code = cc) {own : String} {index : Nat} {v : UInt32} (hown : s.vm.findClass own = some m.cls) (hconst : (Jvm.Cond.constantFloat own index v).before args s = true) (hdg : decode cc pc = .ok (.ldc_w index, 3)) (k : W p l e R s m args below meth c H locs cells slots Q (F0 m (pc + 3) ls (.float v :: rest))) : W p l e R s m args below meth c H locs cells slots Q (F0 m pc ls rest) := by
  intro T hT X
  obtain ⟨t, a, b⟩ := k T hT X
  refine ⟨t, ?_, b⟩
  obtain ⟨k, cf, hk, hcf, hcp⟩ := Cond.constantFloat_spec hown hconst
  obtain ⟨k', hk', he⟩ := X.warmed.alike.2.2 _ _ hk
  have hdg2 : decode c.code (F0 m pc ls rest).pc = .ok (.ldc_w index, 3) := by rw [hb]; exact hdg
  have hk2 : T.vm.classes[(F0 m pc ls rest).method.cls]? = some k' := hk'
  jvm_step X.here [hexec, hdg2, Op.ldc_w.wp_float (s := T) (f := F0 m pc ls rest) X.here.top hk2 (by rw [he]; exact hcf) hcp]
  exact a
end
section
variable {p : Program} {l : Launch} {e : Env} {R : Room} {s : State} {m : MethodId} {args : Array Value} {below : List Frame} {meth : Method} {c : Code} {Q : State → Prop}
variable {G : Gam} {M0 M : Mem} {cc : ByteArray} {own : String} {nL fr lo pc : Nat} {vs : List (Nat × Value)} {st : List Value}
theorem s_fconst1 (X : Cx p R s m args c G M0 cc own nL fr lo)  (hd : decode cc pc = .ok (.fconst 1, 1)) (k : Sg p l e R s m args below meth c Q G M0 nL (pc + 1) vs (.float FP.fconst1 :: st) M) : Sg p l e R s m args below meth c Q G M0 nL pc vs st M :=
  fun hk H locs ls hl hP hS => lv_fconst1 X.1 X.2.1 hd (k hk H locs ls hl hP hS)
theorem s_fconst2 (X : Cx p R s m args c G M0 cc own nL fr lo)  (hd : decode cc pc = .ok (.fconst 2, 1)) (k : Sg p l e R s m args below meth c Q G M0 nL (pc + 1) vs (.float FP.fconst2 :: st) M) : Sg p l e R s m args below meth c Q G M0 nL pc vs st M :=
  fun hk H locs ls hl hP hS => lv_fconst2 X.1 X.2.1 hd (k hk H locs ls hl hP hS)
theorem s_dconst0 (X : Cx p R s m args c G M0 cc own nL fr lo)  (hd : decode cc pc = .ok (.dconst 0, 1)) (k : Sg p l e R s m args below meth c Q G M0 nL (pc + 1) vs (.double FP.dconst0 :: st) M) : Sg p l e R s m args below meth c Q G M0 nL pc vs st M :=
  fun hk H locs ls hl hP hS => lv_dconst0 X.1 X.2.1 hd (k hk H locs ls hl hP hS)
theorem s_dconst1 (X : Cx p R s m args c G M0 cc own nL fr lo)  (hd : decode cc pc = .ok (.dconst 1, 1)) (k : Sg p l e R s m args below meth c Q G M0 nL (pc + 1) vs (.double FP.dconst1 :: st) M) : Sg p l e R s m args below meth c Q G M0 nL pc vs st M :=
  fun hk H locs ls hl hP hS => lv_dconst1 X.1 X.2.1 hd (k hk H locs ls hl hP hS)
theorem s_ldcwF (X : Cx p R s m args c G M0 cc own nL fr lo) {ix : Nat} {v : UInt32} (hd : decode cc pc = .ok (.ldc_w ix, 3)) (hw : Jvm.Cond.constantFloat own ix v ∈ lw_g) (k : Sg p l e R s m args below meth c Q G M0 nL (pc + 3) vs (.float v :: st) M) : Sg p l e R s m args below meth c Q G M0 nL pc vs st M :=
  fun hk H locs ls hl hP hS => lv_ldcwF X.1 X.2.1 X.2.2.1 (X.2.2.2.1 _ hw) hd (k hk H locs ls hl hP hS)
theorem s_ldc2D (X : Cx p R s m args c G M0 cc own nL fr lo) {ix : Nat} {v : UInt64} (hd : decode cc pc = .ok (.ldc2_w ix, 3)) (hw : Jvm.Cond.constantDouble own ix v ∈ lw_g) (k : Sg p l e R s m args below meth c Q G M0 nL (pc + 3) vs (.double v :: st) M) : Sg p l e R s m args below meth c Q G M0 nL pc vs st M :=
  fun hk H locs ls hl hP hS => lv_ldc2d X.1 X.2.1 X.2.2.1 (X.2.2.2.1 _ hw) hd (k hk H locs ls hl hP hS)
theorem s_fload_n (X : Cx p R s m args c G M0 cc own nL fr lo) {kk : Fin 4} {i : Nat} {x : UInt32} (j : Nat) (hd : decode cc pc = .ok (.fload_n kk, 1)) (hi : (kk : Nat) = i) (hj : vs[j]? = some (i, .float x)) (k : Sg p l e R s m args below meth c Q G M0 nL (pc + 1) vs (.float x :: st) M) : Sg p l e R s m args below meth c Q G M0 nL pc vs st M :=
  fun hk H locs ls hl hP hS => lv_fload_n X.1 X.2.1 hd hi (lv_at hl j hj) (k hk H locs ls hl hP hS)
theorem s_fload (X : Cx p R s m args c G M0 cc own nL fr lo) {i : Nat} {x : UInt32} (j : Nat) (hd : decode cc pc = .ok (.fload i, 2)) (hj : vs[j]? = some (i, .float x)) (k : Sg p l e R s m args below meth c Q G M0 nL (pc + 2) vs (.float x :: st) M) : Sg p l e R s m args below meth c Q G M0 nL pc vs st M :=
  fun hk H locs ls hl hP hS => lv_fload X.1 X.2.1 hd (lv_at hl j hj) (k hk H locs ls hl hP hS)
theorem s_dload_n (X : Cx p R s m args c G M0 cc own nL fr lo) {kk : Fin 4} {i : Nat} {x : UInt64} (j : Nat) (hd : decode cc pc = .ok (.dload_n kk, 1)) (hi : (kk : Nat) = i) (hj : vs[j]? = some (i, .double x)) (k : Sg p l e R s m args below meth c Q G M0 nL (pc + 1) vs (.double x :: st) M) : Sg p l e R s m args below meth c Q G M0 nL pc vs st M :=
  fun hk H locs ls hl hP hS => lv_dload_n X.1 X.2.1 hd hi (lv_at hl j hj) (k hk H locs ls hl hP hS)
theorem s_dload (X : Cx p R s m args c G M0 cc own nL fr lo) {i : Nat} {x : UInt64} (j : Nat) (hd : decode cc pc = .ok (.dload i, 2)) (hj : vs[j]? = some (i, .double x)) (k : Sg p l e R s m args below meth c Q G M0 nL (pc + 2) vs (.double x :: st) M) : Sg p l e R s m args below meth c Q G M0 nL pc vs st M :=
  fun hk H locs ls hl hP hS => lv_dload X.1 X.2.1 hd (lv_at hl j hj) (k hk H locs ls hl hP hS)
theorem s_fstore_n (X : Cx p R s m args c G M0 cc own nL fr lo) {kk : Fin 4} {i : Nat} {x : UInt32} {vs' : List (Nat × Value)} (hd : decode cc pc = .ok (.fstore_n kk, 1)) (hi : (kk : Nat) = i) (hn : i < nL) (ks : List Nat) (hq : lv_pick ((i, Value.float x) :: vs.filter (fun q => !(q.1 == i) && !(q.1 + 1 == i && q.2.category == 2))) ks = vs') (k : Sg p l e R s m args below meth c Q G M0 nL (pc + 1) vs' st M) : Sg p l e R s m args below meth c Q G M0 nL pc vs (Value.float x :: st) M :=
  fun hk H locs ls hl hP hS => lv_fstore_n X.1 X.2.1 hd hi hl hn rfl fun ls' hl' => k hk H locs ls' (lv_sub hl' ks hq) hP hS
theorem s_fstore (X : Cx p R s m args c G M0 cc own nL fr lo) {i : Nat} {x : UInt32} {vs' : List (Nat × Value)} (hd : decode cc pc = .ok (.fstore i, 2)) (hn : i < nL) (ks : List Nat) (hq : lv_pick ((i, Value.float x) :: vs.filter (fun q => !(q.1 == i) && !(q.1 + 1 == i && q.2.category == 2))) ks = vs') (k : Sg p l e R s m args below meth c Q G M0 nL (pc + 2) vs' st M) : Sg p l e R s m args below meth c Q G M0 nL pc vs (Value.float x :: st) M :=
  fun hk H locs ls hl hP hS => lv_fstore X.1 X.2.1 hd hl hn rfl fun ls' hl' => k hk H locs ls' (lv_sub hl' ks hq) hP hS
theorem s_dstore_n (X : Cx p R s m args c G M0 cc own nL fr lo) {kk : Fin 4} {i : Nat} {x : UInt64} {vs' : List (Nat × Value)} (hd : decode cc pc = .ok (.dstore_n kk, 1)) (hi : (kk : Nat) = i) (hn : i + 1 < nL) (ks : List Nat) (hq : lv_pick ((i, Value.double x) :: vs.filter (fun q => !(q.1 == i) && (!(q.1 == i + 1) && !(q.1 + 1 == i && q.2.category == 2)))) ks = vs') (k : Sg p l e R s m args below meth c Q G M0 nL (pc + 1) vs' st M) : Sg p l e R s m args below meth c Q G M0 nL pc vs (Value.double x :: st) M :=
  fun hk H locs ls hl hP hS => lv_dstore_n X.1 X.2.1 hd hi hl hn rfl fun ls' hl' => k hk H locs ls' (lv_sub hl' ks hq) hP hS
theorem s_dstore (X : Cx p R s m args c G M0 cc own nL fr lo) {i : Nat} {x : UInt64} {vs' : List (Nat × Value)} (hd : decode cc pc = .ok (.dstore i, 2)) (hn : i + 1 < nL) (ks : List Nat) (hq : lv_pick ((i, Value.double x) :: vs.filter (fun q => !(q.1 == i) && (!(q.1 == i + 1) && !(q.1 + 1 == i && q.2.category == 2)))) ks = vs') (k : Sg p l e R s m args below meth c Q G M0 nL (pc + 2) vs' st M) : Sg p l e R s m args below meth c Q G M0 nL pc vs (Value.double x :: st) M :=
  fun hk H locs ls hl hP hS => lv_dstore X.1 X.2.1 hd hl hn rfl fun ls' hl' => k hk H locs ls' (lv_sub hl' ks hq) hP hS
theorem s_fcmp (X : Cx p R s m args c G M0 cc own nL fr lo) {x y : UInt32} {op : CmpOp} (hd : decode cc pc = .ok (.fcmp op, 1)) (k : Sg p l e R s m args below meth c Q G M0 nL (pc + 1) vs (.int (Op.cmpValue (FP.fcmp x y) op) :: st) M) : Sg p l e R s m args below meth c Q G M0 nL pc vs (.float y :: .float x :: st) M :=
  fun hk H locs ls hl hP hS => lv_fcmp X.1 X.2.1 hd (k hk H locs ls hl hP hS)
theorem s_fdiv (X : Cx p R s m args c G M0 cc own nL fr lo) {x y : UInt32} (hd : decode cc pc = .ok (.fdiv, 1)) (hne : vf_n32 (FP.fdiv x y)) (k : Sg p l e R s m args below meth c Q G M0 nL (pc + 1) vs (.float (FP.fdiv x y) :: st) M) : Sg p l e R s m args below meth c Q G M0 nL pc vs (.float y :: .float x :: st) M :=
  fun hk H locs ls hl hP hS => lv_fdiv X.1 X.2.1 hd hne (k hk H locs ls hl hP hS)
theorem s_fmul (X : Cx p R s m args c G M0 cc own nL fr lo) {x y : UInt32} (hd : decode cc pc = .ok (.fmul, 1)) (hne : vf_n32 (FP.fmul x y)) (k : Sg p l e R s m args below meth c Q G M0 nL (pc + 1) vs (.float (FP.fmul x y) :: st) M) : Sg p l e R s m args below meth c Q G M0 nL pc vs (.float y :: .float x :: st) M :=
  fun hk H locs ls hl hP hS => lv_fmul X.1 X.2.1 hd hne (k hk H locs ls hl hP hS)
theorem s_fsub (X : Cx p R s m args c G M0 cc own nL fr lo) {x y : UInt32} (hd : decode cc pc = .ok (.fsub, 1)) (hne : vf_n32 (FP.fsub x y)) (k : Sg p l e R s m args below meth c Q G M0 nL (pc + 1) vs (.float (FP.fsub x y) :: st) M) : Sg p l e R s m args below meth c Q G M0 nL pc vs (.float y :: .float x :: st) M :=
  fun hk H locs ls hl hP hS => lv_fsub X.1 X.2.1 hd hne (k hk H locs ls hl hP hS)
theorem s_nmF {x t : UInt32} (h : x = t) (k : Sg p l e R s m args below meth c Q G M0 nL pc vs (.float x :: st) M) : Sg p l e R s m args below meth c Q G M0 nL pc vs (.float t :: st) M := h ▸ k
theorem s_dcmp (X : Cx p R s m args c G M0 cc own nL fr lo) {x y : UInt64} {op : CmpOp} (hd : decode cc pc = .ok (.dcmp op, 1)) (k : Sg p l e R s m args below meth c Q G M0 nL (pc + 1) vs (.int (Op.cmpValue (FP.dcmp x y) op) :: st) M) : Sg p l e R s m args below meth c Q G M0 nL pc vs (.double y :: .double x :: st) M :=
  fun hk H locs ls hl hP hS => lv_dcmp X.1 X.2.1 hd (k hk H locs ls hl hP hS)
theorem s_ddiv (X : Cx p R s m args c G M0 cc own nL fr lo) {x y : UInt64} (hd : decode cc pc = .ok (.ddiv, 1)) (hne : vf_n64 (FP.ddiv x y)) (k : Sg p l e R s m args below meth c Q G M0 nL (pc + 1) vs (.double (FP.ddiv x y) :: st) M) : Sg p l e R s m args below meth c Q G M0 nL pc vs (.double y :: .double x :: st) M :=
  fun hk H locs ls hl hP hS => lv_ddiv X.1 X.2.1 hd hne (k hk H locs ls hl hP hS)
theorem s_dmul (X : Cx p R s m args c G M0 cc own nL fr lo) {x y : UInt64} (hd : decode cc pc = .ok (.dmul, 1)) (hne : vf_n64 (FP.dmul x y)) (k : Sg p l e R s m args below meth c Q G M0 nL (pc + 1) vs (.double (FP.dmul x y) :: st) M) : Sg p l e R s m args below meth c Q G M0 nL pc vs (.double y :: .double x :: st) M :=
  fun hk H locs ls hl hP hS => lv_dmul X.1 X.2.1 hd hne (k hk H locs ls hl hP hS)
theorem s_dsub (X : Cx p R s m args c G M0 cc own nL fr lo) {x y : UInt64} (hd : decode cc pc = .ok (.dsub, 1)) (hne : vf_n64 (FP.dsub x y)) (k : Sg p l e R s m args below meth c Q G M0 nL (pc + 1) vs (.double (FP.dsub x y) :: st) M) : Sg p l e R s m args below meth c Q G M0 nL pc vs (.double y :: .double x :: st) M :=
  fun hk H locs ls hl hP hS => lv_dsub X.1 X.2.1 hd hne (k hk H locs ls hl hP hS)
theorem s_nmD {x t : UInt64} (h : x = t) (k : Sg p l e R s m args below meth c Q G M0 nL pc vs (.double x :: st) M) : Sg p l e R s m args below meth c Q G M0 nL pc vs (.double t :: st) M := h ▸ k
theorem s_i2f (X : Cx p R s m args c G M0 cc own nL fr lo) {x : Int32} (hd : decode cc pc = .ok (.i2f, 1)) (k : Sg p l e R s m args below meth c Q G M0 nL (pc + 1) vs (.float (FP.i2f x) :: st) M) : Sg p l e R s m args below meth c Q G M0 nL pc vs (.int x :: st) M :=
  fun hk H locs ls hl hP hS => lv_i2f X.1 X.2.1 hd (k hk H locs ls hl hP hS)
theorem s_i2d (X : Cx p R s m args c G M0 cc own nL fr lo) {x : Int32} (hd : decode cc pc = .ok (.i2d, 1)) (k : Sg p l e R s m args below meth c Q G M0 nL (pc + 1) vs (.double (FP.i2d x) :: st) M) : Sg p l e R s m args below meth c Q G M0 nL pc vs (.int x :: st) M :=
  fun hk H locs ls hl hP hS => lv_i2d X.1 X.2.1 hd (k hk H locs ls hl hP hS)
theorem s_l2d (X : Cx p R s m args c G M0 cc own nL fr lo) {x : Int64} (hd : decode cc pc = .ok (.l2d, 1)) (k : Sg p l e R s m args below meth c Q G M0 nL (pc + 1) vs (.double (FP.l2d x) :: st) M) : Sg p l e R s m args below meth c Q G M0 nL pc vs (.long x :: st) M :=
  fun hk H locs ls hl hP hS => lv_l2d X.1 X.2.1 hd (k hk H locs ls hl hP hS)
theorem s_f2i (X : Cx p R s m args c G M0 cc own nL fr lo) {x : UInt32} (hd : decode cc pc = .ok (.f2i, 1)) (k : Sg p l e R s m args below meth c Q G M0 nL (pc + 1) vs (.int (FP.f2i x) :: st) M) : Sg p l e R s m args below meth c Q G M0 nL pc vs (.float x :: st) M :=
  fun hk H locs ls hl hP hS => lv_f2i X.1 X.2.1 hd (k hk H locs ls hl hP hS)
theorem s_d2l (X : Cx p R s m args c G M0 cc own nL fr lo) {x : UInt64} (hd : decode cc pc = .ok (.d2l, 1)) (k : Sg p l e R s m args below meth c Q G M0 nL (pc + 1) vs (.long (FP.d2l x) :: st) M) : Sg p l e R s m args below meth c Q G M0 nL pc vs (.double x :: st) M :=
  fun hk H locs ls hl hP hS => lv_d2l X.1 X.2.1 hd (k hk H locs ls hl hP hS)
theorem s_d2i (X : Cx p R s m args c G M0 cc own nL fr lo) {x : UInt64} (hd : decode cc pc = .ok (.d2i, 1)) (k : Sg p l e R s m args below meth c Q G M0 nL (pc + 1) vs (.int (FP.d2i x) :: st) M) : Sg p l e R s m args below meth c Q G M0 nL pc vs (.double x :: st) M :=
  fun hk H locs ls hl hP hS => lv_d2i X.1 X.2.1 hd (k hk H locs ls hl hP hS)
theorem s_rawF (X : Cx p R s m args c G M0 cc own nL fr lo) {ix : Nat} {b : UInt32} (hlk : Cond.methodLink own ix ⟨"java/lang/Float", "floatToRawIntBits", "(F)I"⟩ ∈ lw_g) (hnat : Cond.native ⟨"java/lang/Float", "floatToRawIntBits", "(F)I"⟩ ∈ lw_g) (hstat : Cond.static ⟨"java/lang/Float", "floatToRawIntBits", "(F)I"⟩ ∈ lw_g) (hini : Cond.initialized "java/lang/Float" ∈ lw_g) (hR : 1 ≤ fr ∧ (st.map fun v => v.category).sum + 16 ≤ lo) (hd : decode cc pc = .ok (.invokestatic ix, 3)) (k : Sg p l e R s m args below meth c Q G M0 nL (pc + 3) vs (.int b.toInt32 :: st) M) : Sg p l e R s m args below meth c Q G M0 nL pc vs (.float b :: st) M := by
  intro hk H locs ls hl hP hS
  have r1 := X.2.2.2.2.2.1.2.2.1
  have r2 := X.2.2.2.2.2.1.2.2.2
  exact vn_f2i X.1 X.2.1 (X.2.2.2.2.2.2.2.1.trans hl.1.symm) X.2.2.1 (X.2.2.2.1 _ hlk) (X.2.2.2.1 _ hnat) (X.2.2.2.1 _ hstat) (X.2.2.2.1 _ hini) (Nat.le_trans hR.1 r1) (by have := hR.2; omega) hd (k hk H locs ls hl hP hS)
theorem s_rawD (X : Cx p R s m args c G M0 cc own nL fr lo) {ix : Nat} {b : UInt64} (hlk : Cond.methodLink own ix ⟨"java/lang/Double", "doubleToRawLongBits", "(D)J"⟩ ∈ lw_g) (hnat : Cond.native ⟨"java/lang/Double", "doubleToRawLongBits", "(D)J"⟩ ∈ lw_g) (hstat : Cond.static ⟨"java/lang/Double", "doubleToRawLongBits", "(D)J"⟩ ∈ lw_g) (hini : Cond.initialized "java/lang/Double" ∈ lw_g) (hR : 1 ≤ fr ∧ (st.map fun v => v.category).sum + 16 ≤ lo) (hd : decode cc pc = .ok (.invokestatic ix, 3)) (k : Sg p l e R s m args below meth c Q G M0 nL (pc + 3) vs (.long b.toInt64 :: st) M) : Sg p l e R s m args below meth c Q G M0 nL pc vs (.double b :: st) M := by
  intro hk H locs ls hl hP hS
  have r1 := X.2.2.2.2.2.1.2.2.1
  have r2 := X.2.2.2.2.2.1.2.2.2
  exact vn_d2l X.1 X.2.1 (X.2.2.2.2.2.2.2.1.trans hl.1.symm) X.2.2.1 (X.2.2.2.1 _ hlk) (X.2.2.2.1 _ hnat) (X.2.2.2.1 _ hstat) (X.2.2.2.1 _ hini) (Nat.le_trans hR.1 r1) (by have := hR.2; omega) hd (k hk H locs ls hl hP hS)
end
theorem Met.ofF {l : Launch} {y : MethodName} {ws ws' : List Cond} {rm : Room} {Pc : Array Value → State → Prop} {Qc : Array Value → State → Outcome → State → Prop} {mc ms : Nat} {free : Addr → Prop} {cc : ByteArray} {maxL : Nat} {ret : Option FieldType}
    (hy : plainFor y = true) (hw : ws = Cond.code y cc maxL ret :: ws')
    (body : ∀ p e s m args below meth c s₁, BodyLoose p l y (headSpec ws rm) cc maxL ret e s m args below meth c s₁ → c.maxLocals = maxL → Pc args s →
      W p l e (headSpec ws rm).room s m args below meth c s.heap [] 0 0 (MQ below Qc args s mc ms free) (entryFrame m args maxL)) : Met l y ws rm Pc Qc mc ms free := by
  refine MetFree.of_bodySF (code := cc) (maxLocals := maxL) (ret := ret) hy ?_ ?_
  · intro args s m h hn
    obtain ⟨meth, c, h1, h2, h3, h4, h5, h6, -, -⟩ := Cond.code_spec hn (atoms_spec (ws := ws) h _ (by rw [hw]; exact List.mem_cons_self))
    exact ⟨meth, c, h1, h2, h3, h4, h5, h6⟩
  · intro p e s m args below meth c s₁ B hml hP _
    have hh0 : s₁.heap = s.heap := by rw [B.state]; rfl
    obtain ⟨t, a1, o, b1, b2, b3⟩ := body p e s m args below meth c s₁ B hml hP s₁ hh0 (Stand.of_body B)
    exact ⟨t, o, a1, b1, b2, ⟨b3.1, b3.2⟩⟩
theorem Kt.ofF {y : MethodName} {bytes : ByteArray} {maxL : Nat} {ret : Option FieldType} {fr lo : Nat} {G : Gam} {av : List Value} {M M1 : Mem} {r : Option Value} (hy : plainFor y = true) (hlen : (lg_sl av).length ≤ maxL)
    (body : ∀ (p : Program) (l : Launch) (e : Env) (R : Room) (s : State) (m : MethodId) (args : Array Value) (below : List Frame) (meth : Method) (c : Code), Cx p R s m args c G M bytes y.cls maxL fr lo → meth.sig.returnType = ret → meth.locks = false → meth.name = y.name → Sg p l e R s m args below meth c (Qm below G args s r M M1) G M maxL 0 (lv_args 0 av) [] M) : Kt y bytes maxL ret fr lo G av M M1 r := by
  intro l
  refine Met.ofF (cc := bytes) (maxL := maxL) (ret := ret) hy rfl ?_
  intro p e s m args below meth c s₁ B hml hv
  obtain ⟨rfl, hz, c1, c2, hP, hK, hSt⟩ := hv
  have hts := atoms_spec (ws := Cond.code y bytes maxL ret :: lw_g) B.pre
  have hX : Cx p (headSpec (Cond.code y bytes maxL ret :: lw_g) (rmx fr lo M)).room s m av.toArray c G M bytes y.cls maxL fr lo :=
    ⟨B.exec, B.bytes, findClass_of_methodNamed B.named, fun w hw => hts w (List.mem_cons_of_mem _ hw), hK, ⟨rfl, rfl, Nat.le_refl _, Nat.le_refl _⟩, hSt, hml, hz⟩
  have hb := body p l e _ s m av.toArray below meth c hX B.returns B.notSynchronized (name_of_methodNamed B.named B.method).1
  have hl := lv_entry av (n := maxL) hlen
  rw [lg_entry_eq]
  have h2 := hb ⟨Nat.le_refl _, Nat.le_refl _, c1, c2⟩ s.heap [] _ hl hP va_S.rf
  rw [Nat.sub_self, Nat.sub_self] at h2
  exact h2
