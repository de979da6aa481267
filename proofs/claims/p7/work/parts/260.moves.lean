/-! ===== the class: the moves, in their order ===== -/
def ms (x : Int32) : List Nat := (List.range 16).filter fun i => bt x i
theorem pc_ms {x : Int32} (h : ∀ i, 16 ≤ i → i < 32 → bt x i = false) : pc x = (ms x).length := by
  unfold pc ms
  have e : List.range 32 = List.range 16 ++ List.range' 16 16 := by decide
  rw [e, List.filter_append, List.length_append]
  have z : (List.range' 16 16).filter (fun i => bt x i) = [] := by
    rw [List.filter_eq_nil_iff]
    intro i hi
    have := List.mem_range'_1.mp hi
    rw [h i this.1 (by omega)]
    decide
  rw [z]
  rfl
theorem mem_l (x : Int32) (M : Mem) : ∀ (d j i n v : Nat), j + d = 16 → d + 1 ≤ n → i < 16 → ((List.range' j d).filter fun i => bt x i)[i]? = some v → f_X9_memberAt_4 M n x (nI i) (nI j) = some (nI v) := by
  intro d
  induction d with
  | zero => intro j i n v _ _ _ h; simp at h
  | succ d ih =>
    intro j i n v hj hn hi h
    obtain ⟨n, rfl⟩ : ∃ m, n = m + 1 := ⟨n - 1, by omega⟩
    rw [List.range'_succ, List.filter_cons] at h
    rw [f_X9_memberAt_4, if_neg (show ¬ (16 : Int32) ≤ nI j from nI_ge (a := j) (b := 16) (by omega) (by decide)), f_has9 _ (by omega), obd_s]
    by_cases c : bt x j = true
    · rw [if_pos c] at h
      rw [if_pos c, if_neg ne10]
      cases i with
      | zero =>
        rw [if_pos (by rfl)]
        have : j = v := by simpa using h
        rw [this]
      | succ i =>
        rw [if_neg (nI_ne0 (by omega) (by omega)), show nI (i + 1) + (-1 : Int32) = nI i by rw [← nI_pred i, Int32.sub_eq_add_neg], bnd_e, nI_1, bnd_e]
        exact ih (j + 1) i n v (by omega) (by omega) (by omega) (by simpa using h)
    · rw [if_neg c] at h
      rw [if_neg c, if_pos rfl, nI_1, bnd_e]
      exact ih (j + 1) i n v (by omega) (by omega) hi h
theorem f_member {x : Int32} {i v n : Nat} (M : Mem) (hn : 17 ≤ n) (h : (ms x)[i]? = some v) : f_X9_memberAt n x (nI i) M = some (nI v) := by
  have hl : (ms x).length ≤ 16 := by
    have := List.length_filter_le (fun i => bt x i) (List.range 16)
    rw [List.length_range] at this
    exact this
  have hi : i < 16 := by
    rcases Nat.lt_or_ge i (ms x).length with q | q
    · omega
    · rw [List.getElem?_eq_none q] at h; exact absurd h (by simp)
  unfold ms at h
  rw [List.range_eq_range'] at h
  exact mem_l x M 16 0 i n v rfl (by omega) hi h
theorem HV.busy {M : Mem} {h X Y N : Nat} {t : Int32} {Q : Nat → Int32} {S : St} {pb pt : List Row4} (p : HV M h X Y t N Q S pb pt) {f g : Nat} (hf : f < 16) (hg : g < 32) : bt (mI M (h + 5) f) g = decide (g < 16 ∧ xL S (16 * f + g) ≠ []) := by
  obtain ⟨d5, d6, d7, len, K, fr, us, ow, w, hK⟩ := p.2.1
  rw [w.2.2.2.2.2.2.1 f hf g hg]
  by_cases c : g < 16
  · have := hK (16 * f + g) (by omega)
    have e : (K (16 * f + g) ≠ []) ↔ xL S (16 * f + g) ≠ [] := by
      rw [← this]
      constructor
      · intro z y
        exact z (List.map_eq_nil_iff.mp y)
      · intro z y
        rw [y] at z
        exact z rfl
    by_cases d : xL S (16 * f + g) = []
    · simp [c, d, e]
    · simp [c, d, e]
  · simp [c]
/-- whither letters of f's are under way -/
def lnf (S : St) (f : Nat) : List Nat := (List.range 16).filter fun g => !(xL S (16 * f + g)).isEmpty
def lnr (S : St) (f d : Nat) : List Nat := (List.range' f d).flatMap fun f => (lnf S f).map fun g => 16 * f + g
theorem ms_busy {M : Mem} {h X Y N : Nat} {t : Int32} {Q : Nat → Int32} {S : St} {pb pt : List Row4} (p : HV M h X Y t N Q S pb pt) {f : Nat} (hf : f < 16) : ms (mI M (h + 5) f) = lnf S f := by
  unfold ms lnf
  apply List.filter_congr
  intro g hg
  have := List.mem_range.mp hg
  rw [p.busy hf (by omega)]
  cases xL S (16 * f + g) with
  | nil => simp
  | cons a b => simp [this]
theorem lanes_e (S : St) : lanes S = lnr S 0 16 := by
  have e : List.range 256 = (List.range' 0 16).flatMap fun f => (List.range 16).map fun g => 16 * f + g := by decide +kernel
  unfold lanes lnr lnf
  rw [e, List.filter_flatMap]
  congr 1
  funext f
  rw [List.filter_map]
  rfl
theorem lnr_s (S : St) (f d : Nat) : lnr S f (d + 1) = (lnf S f).map (fun g => 16 * f + g) ++ lnr S (f + 1) d := by
  unfold lnr
  rw [List.range'_succ, List.flatMap_cons]
theorem lnr_z (S : St) : ∀ (d f : Nat), (∀ i, f ≤ i → i < f + d → ∀ g, g < 16 → xL S (16 * i + g) = []) → lnr S f d = [] := by
  intro d
  induction d with
  | zero => intro f _; rfl
  | succ d ih =>
    intro f h
    rw [lnr_s, ih (f + 1) (fun i a b => h i (by omega) (by omega))]
    have : lnf S f = [] := by
      unfold lnf
      rw [List.filter_eq_nil_iff]
      intro g hg
      rw [h f (Nat.le_refl _) (by omega) g (List.mem_range.mp hg)]
      simp
    rw [this]
    rfl
theorem lnr_ap (S : St) : ∀ (d f e : Nat), lnr S f (d + e) = lnr S f d ++ lnr S (f + d) e := by
  intro d
  induction d with
  | zero => intro f e; rw [Nat.zero_add]; rfl
  | succ d ih =>
    intro f e
    rw [show d + 1 + e = (d + e) + 1 by omega, lnr_s, ih, lnr_s, List.append_assoc, show f + 1 + d = f + (d + 1) by omega]
theorem lanes_N {N A : Nat} {S : St} (hI : Inv N A S) (h16 : N ≤ 16) : lanes S = lnr S 0 N := by
  have e := lnr_ap S N 0 (16 - N)
  rw [show N + (16 - N) = 16 by omega] at e
  rw [lanes_e, e, lnr_z S (16 - N) (0 + N) (fun i a b g hg => ?_), List.append_nil]
  exact (hI.2.2.2.2.1 (16 * i + g) (by omega)).2 (by omega)
theorem ms_in {M : Mem} {h X Y N A : Nat} {t : Int32} {Q : Nat → Int32} {S : St} {pb pt : List Row4} (p : HV M h X Y t N Q S pb pt) (hI : Inv N A S) (h16 : N ≤ 16) : ms (mI M h 7) = inss N S := by
  have b7 := p.2.2.1.2.1
  have e : List.range 16 = List.range N ++ List.range' N (16 - N) := by
    have := List.range'_append_1 (s := 0) (m := N) (n := 16 - N)
    rw [Nat.zero_add] at this
    rw [List.range_eq_range', List.range_eq_range', this, show N + (16 - N) = 16 by omega]
  unfold ms inss
  rw [e, List.filter_append]
  have z : (List.range' N (16 - N)).filter (fun i => bt (mI M h 7) i) = [] := by
    rw [List.filter_eq_nil_iff]
    intro i hi
    have := List.mem_range'_1.mp hi
    rw [b7 i (by omega), (hI.1 i (by omega)).2.1 this.1]
    simp
  rw [z, List.append_nil]
  apply List.filter_congr
  intro g hg
  have := List.mem_range.mp hg
  rw [b7 g (by omega)]
  simp [show g < 16 by omega]
theorem cn_l {M : Mem} {h X Y N A : Nat} {t : Int32} {Q : Nat → Int32} {S : St} {pb pt : List Row4} (p : HV M h X Y t N Q S pb pt) (h16 : N ≤ 16) : ∀ (d f n c : Nat), f + d = N → d + 1 ≤ n → f_X2_countMoves_10 M n h (nI c) (nI f) = some (nI (c + (lnr S f d).length)) := by
  intro d
  induction d with
  | zero =>
    intro f n c hf hn
    obtain ⟨n, rfl⟩ : ∃ m, n = m + 1 := ⟨n - 1, by omega⟩
    have q := p.1
    rw [f_X2_countMoves_10, cs_f q, cs_h0 q, bnd_e, cs_s q, p.2.2.2.2.2.1, if_pos (nI_le (by omega) (by omega))]
    rfl
  | succ d ih =>
    intro f n c hf hn
    obtain ⟨n, rfl⟩ : ∃ m, n = m + 1 := ⟨n - 1, by omega⟩
    have q := p.1
    have hb : ∀ i, 16 ≤ i → i < 32 → bt (mI M (h + 5) f) i = false := fun i a b => by
      rw [p.busy (by omega) b]; simp; omega
    rw [f_X2_countMoves_10, cs_f q, cs_h0 q, bnd_e, cs_s q, p.2.2.2.2.2.1, if_neg (nI_ge (by omega) (by omega)), cs_h1 q, bnd_e, cs_p q, cs_r5 q, bnd_e, cs_a5 q, cs_i5 q (by omega), cl_n (by omega), f_bcx hb, obd_s, nI_add, bnd_e, nI_1, bnd_e, ih _ _ _ (by omega) (by omega), pc_ms hb, ms_busy p (by omega), lnr_s, List.length_append, List.length_map, Nat.add_assoc]
theorem HV.cm {M : Mem} {h X Y N A n : Nat} {t : Int32} {Q : Nat → Int32} {S : St} {pb pt : List Row4} (p : HV M h X Y t N Q S pb pt) (hI : Inv N A S) (h16 : N ≤ 16) (hn : 17 ≤ n) : f_X2_countMoves n h M = some (nI (mv0 N S).length) := by
  have b7 := p.2.2.1.2.1
  have hb : ∀ i, 16 ≤ i → i < 32 → bt (mI M h 7) i = false := fun i a b => by
    rw [b7 i b]; simp; omega
  rw [f_X2_countMoves, cs_f p.1, f_bcx hb, obd_s, pc_ms hb, ms_in p hI h16]
  have := cn_l (A := A) p h16 N 0 n (inss N S).length (by omega) (by omega)
  rw [show nI 0 = (0 : Int32) from rfl] at this
  rw [this]
  unfold mv0
  rw [List.length_append, List.length_map, lanes_N hI h16, Nat.add_comm]
set_option maxHeartbeats 1000000 in
theorem mk_l {M : Mem} {h X Y N A : Nat} {t : Int32} {Q : Nat → Int32} {S : St} {pb pt : List Row4} (p : HV M h X Y t N Q S pb pt) (hI : Inv N A S) (hA : A < 1048576) (h2 : 2 ≤ N) (h16 : N ≤ 16) (hl : (fl S).length + N ≤ 9000) {c : Nat} : ∀ (d f n k : Nat), f + d = N → d + 18 ≤ n → k < 1000 → (lnr S f d ++ (inss N S).map (fun v => 256 + v))[k]? = some c → ∃ M', f_X2_makeMove_4 n h (nI k) (nI f) M = some M' ∧ HV M' h X Y t N Q (dm t N c S) pb pt ∧ FrH M M' h := by
  intro d
  induction d with
  | zero =>
    intro f n k hf hn hk hc
    obtain ⟨n, rfl⟩ : ∃ m, n = m + 1 := ⟨n - 1, by omega⟩
    have q := p.1
    have b7 := p.2.2.1.2.1
    have hb : ∀ i, 16 ≤ i → i < 32 → bt (mI M h 7) i = false := fun i a b => by
      rw [b7 i b]; simp; omega
    have hc2 : ((inss N S).map (fun v => 256 + v))[k]? = some c := hc
    rw [List.getElem?_map] at hc2
    cases hv : (inss N S)[k]? with
    | none => rw [hv] at hc2; exact absurd hc2 (by simp)
    | some v =>
      rw [hv] at hc2
      have ev : 256 + v = c := by simpa using hc2
      have hin := inss_in (List.mem_of_getElem? hv)
      have kl : k < (inss N S).length := by
        rcases Nat.lt_or_ge k (inss N S).length with z | z
        · exact z
        · rw [List.getElem?_eq_none z] at hv; exact absurd hv (by simp)
      have l16 : (inss N S).length ≤ 16 := by
        have := List.length_filter_le (fun v => decide (xR S 0 v = 2)) (List.range N)
        rw [List.length_range] at this
        unfold inss; omega
      obtain ⟨M', e', p', f'⟩ := p.tlv (n := n) h16 (v := v) (by omega) hl (by omega)
      refine ⟨M', ?_, ?_, f'⟩
      · rw [f_X2_makeMove_4, cs_f q, cs_h0 q, bnd_e, cs_s q, p.2.2.2.2.2.1, if_pos (nI_le (by omega) (by omega)), f_bcx hb, obd_s, pc_ms hb, ms_in p hI h16, if_neg (nI_ge (by omega) (by omega)), f_member M (by omega) (by rw [ms_in p hI h16]; exact hv), obd_s, e', obd_s]
      · unfold dm
        rw [if_neg (by omega), if_pos (by omega), ← ev, show 256 + v - 256 = v by omega]
        exact p'
  | succ d ih =>
    intro f n k hf hn hk hc
    obtain ⟨n, rfl⟩ : ∃ m, n = m + 1 := ⟨n - 1, by omega⟩
    have q := p.1
    have hb : ∀ i, 16 ≤ i → i < 32 → bt (mI M (h + 5) f) i = false := fun i a b => by
      rw [p.busy (by omega) b]; simp; omega
    rw [lnr_s, List.append_assoc] at hc
    have l16 : (lnf S f).length ≤ 16 := by
      have := List.length_filter_le (fun g => !(xL S (16 * f + g)).isEmpty) (List.range 16)
      rw [List.length_range] at this
      unfold lnf; omega
    by_cases c2 : (lnf S f).length ≤ k
    · rw [List.getElem?_append_right (by rw [List.length_map]; exact c2), List.length_map] at hc
      obtain ⟨M', e', r⟩ := ih (f + 1) n (k - (lnf S f).length) (by omega) (by omega) (by omega) hc
      exact ⟨M', by rw [f_X2_makeMove_4, cs_f q, cs_h0 q, bnd_e, cs_s q, p.2.2.2.2.2.1, if_neg (nI_ge (by omega) (by omega)), cs_h1 q, bnd_e, cs_p q, cs_r5 q, bnd_e, cs_a5 q, cs_i5 q (by omega), mI_c (by omega), f_bcx hb, obd_s, pc_ms hb, ms_busy p (by omega), if_pos (nI_le c2 (by omega)), nI_sb c2, bnd_e, nI_1, bnd_e, e'], r⟩
    · rw [List.getElem?_append_left (by rw [List.length_map]; omega), List.getElem?_map] at hc
      cases hg : (lnf S f)[k]? with
      | none => rw [hg] at hc; exact absurd hc (by simp)
      | some g =>
        rw [hg] at hc
        have ec : 16 * f + g = c := by simpa using hc
        have mg := List.mem_of_getElem? hg
        unfold lnf at mg
        obtain ⟨mg1, mg2⟩ := List.mem_filter.mp mg
        have g16 := List.mem_range.mp mg1
        obtain ⟨x, r, hx⟩ : ∃ x r, xL S (16 * f + g) = x :: r := by
          cases z : xL S (16 * f + g) with
          | nil => rw [z] at mg2; simp at mg2
          | cons x r => exact ⟨x, r, rfl⟩
        have gN : g < N := by
          rcases Nat.lt_or_ge g N with z | z
          · exact z
          · have := (hI.2.2.2.2.1 (16 * f + g) (by omega)).2 (by omega)
            rw [this] at hx
            exact absurd hx (by simp)
        obtain ⟨M', e', p', f'⟩ := p.tbr hI hA h2 h16 (f := f) (g := g) (by omega) gN hx hl (n := n) (by omega)
        refine ⟨M', ?_, ?_, f'⟩
        · rw [f_X2_makeMove_4, cs_f q, cs_h0 q, bnd_e, cs_s q, p.2.2.2.2.2.1, if_neg (nI_ge (by omega) (by omega)), cs_h1 q, bnd_e, cs_p q, cs_r5 q, bnd_e, cs_a5 q, cs_i5 q (by omega), mI_c (by omega), f_bcx hb, obd_s, pc_ms hb, ms_busy p (by omega), if_neg (nI_ge (by omega) (by omega)), bnd_e, cs_p q, cs_r5 q, bnd_e, cs_a5 q, cs_i5 q (by omega), mI_c (by omega), f_member M (by omega) (by rw [ms_busy p (by omega)]; exact hg), obd_s, e', obd2_s]
        · unfold dm
          rw [if_pos (by omega), ← ec, show (16 * f + g) / 16 = f by omega, show (16 * f + g) % 16 = g by omega]
          exact p'
theorem HV.mk {M : Mem} {h X Y N A n k c : Nat} {t : Int32} {Q : Nat → Int32} {S : St} {pb pt : List Row4} (p : HV M h X Y t N Q S pb pt) (hI : Inv N A S) (hA : A < 1048576) (h2 : 2 ≤ N) (h16 : N ≤ 16) (hl : (fl S).length + N ≤ 9000) (hn : 40 ≤ n) (hc : (mv0 N S)[k]? = some c) (hk : k < 1000) : ∃ M', f_X2_makeMove n h (nI k) M = some M' ∧ HV M' h X Y t N Q (dm t N c S) pb pt ∧ FrH M M' h := by
  unfold mv0 at hc
  rw [lanes_N hI h16] at hc
  exact mk_l p hI hA h2 h16 hl N 0 n k (by omega) (by omega) hk hc
