/-! ===== a node breaks: who goes on, by what is held ===== -/
theorem gF_IX {N A a : Nat} {S : St} (hI : Inv N A S) (h16 : N ≤ 16) (ha : a < N) (h8 : xR S 8 a = -1) (hX : IX N S) (t : Int32) : Inv N A (gF t a S) ∧ IX N (gF t a S) := by
  have hF := hI.2.2.2.2.2.1 a (by omega)
  have h910 : xR S 9 a = 0 ∧ xR S 10 a = 0 := by
    rcases hF.2.2 with z | ⟨g, z1, z2, _⟩
    · exact z.2
    · rw [h8] at z2; exact absurd z2 (m1_ne (by omega))
  obtain ⟨hQ, hV, hK⟩ := hX
  refine ⟨?_, hQ.at (gF_IQ hF.1.1) (fun b hb => gF_Wo hb) (fun k b hb hk => gF_R (Or.inl hb) (by omega)), hV.cg (fun k v hk => gF_R (by omega) (by omega)), hK.st h16 (fun i => gF_R (by omega) (by decide)) (fun i _ _ z => by rw [gF_R (by omega) (by decide)]; exact z) (fun u i _ _ _ z => by rw [gF_R (by omega) (by decide)]; exact z) ?_⟩
  · rw [gF_e, nob_id h8 h910.1 h910.2]
    exact hI.tgF' h16 ha h8 t
  · cases hw : xW S a with
    | nil =>
      have : xL (gF t a S) = xL S := by unfold gF; rw [hw]; rfl
      exact LK.eq this
    | cons w r =>
      refine LK.tgF (by omega) (fun y hy => ⟨by have := (hF.1.2.2 y hy).1; omega, (hK.wtr hI h16 ha hy).1⟩) (hK.wtr hI h16 ha (w := w) (by rw [hw]; simp)).2
theorem IZ.cg {N : Nat} {S S' : St} (h : IZ N S) (e : ∀ k v, v < 16 → k = 0 ∨ k = 3 ∨ k = 5 ∨ k = 7 → xR S' k v = xR S k v) (e8 : ∀ v, N ≤ v → v < 16 → xR S' 8 v = xR S 8 v) : IZ N S' := by
  obtain ⟨z1, z2, z3⟩ := h
  refine ⟨fun v hv i hi hb => ?_, fun v hv q => ?_, fun v a b => ?_⟩
  · rw [e 0 v hv (by omega)]; rw [e 5 v hv (by omega)] at hb; exact z1 v hv i hi hb
  · rw [e 3 v hv (by omega)]; rw [e 0 v hv (by omega)] at q; exact z2 v hv q
  · rw [e 7 v b (by omega), e8 v a b]; exact z3 v a b
def Fi (i : Nat) : Nat → Bool := fun a => decide (i ≤ a)
theorem Fi_s (i : Nat) : Fm (Fi i) i = Fi (i + 1) := by
  funext a
  unfold Fm Fi
  by_cases c : a = i
  · subst c; simp
  · by_cases d : i ≤ a
    · have : i + 1 ≤ a := by omega
      simp [c, d, this]
    · have : ¬ i + 1 ≤ a := by omega
      simp [d, this]
theorem gfold {t : Int32} {N A x : Nat} (h16 : N ≤ 16) (hx : x < N) {P : Nat → Nat} : ∀ (d i : Nat) (T : St), i + d = N → Fg N A x i T → Inv N A (eF x (Fi i) T) → IX N (eF x (Fi i) T) → IZ N (eF x (Fi i) T) → (∀ b, b < 16 → Ph b (eF x (Fi i) T) ≤ P b + if b < i then 1 else 0) → Inv N A (eF x (Fi N) (fgl t x (List.range' i d) T)) ∧ IX N (eF x (Fi N) (fgl t x (List.range' i d) T)) ∧ IZ N (eF x (Fi N) (fgl t x (List.range' i d) T)) ∧ ∀ b, b < 16 → Ph b (eF x (Fi N) (fgl t x (List.range' i d) T)) ≤ P b + 1 := by
  intro d
  induction d with
  | zero =>
    intro i T hi hF hI hX hZ hP
    have : i = N := by omega
    subst this
    exact ⟨hI, hX, hZ, fun b hb => Nat.le_trans (hP b hb) (by split <;> omega)⟩
  | succ d ih =>
    intro i T hi hF hI hX hZ hP
    unfold fgl
    rw [List.range'_succ, List.foldl_cons]
    obtain ⟨g1, g2, g3⟩ := hF i (Nat.le_refl _) (by omega)
    have st := eF_step (t := t) (x := x) (a := i) (F := Fi i) (S := T) (by unfold Fi; simp) g2
    rw [Fi_s] at st
    have same : (if i = x then T else fgt t i x T) = fgt t i x T := by
      by_cases c : i = x
      · rw [if_pos c]
        subst c
        rw [fgt_id (g3 rfl).1 (by omega) (g3 rfl).2]
      · rw [if_neg c]
    rw [same]
    have go := ih (i + 1) (fgt t i x T) (by omega) hF.s
    unfold fgl at go
    by_cases c : xR T 8 i = nI x
    · rw [if_pos c] at st
      rw [st] at go
      have h8 : xR (eF x (Fi i) T) 8 i = -1 := by
        rw [eF_R, if_neg (by omega), if_neg (by omega), if_pos ⟨by omega, by unfold Fi; simp, c⟩, if_pos rfl]
      obtain ⟨a1, a2⟩ := gF_IX hI h16 (a := i) (by omega) h8 hX t
      refine go a1 a2 (hZ.cg (fun k v _ hk => gF_R (by omega) (by omega)) (fun v a _ => gF_R (Or.inl (by omega)) (by decide))) (fun b hb => ?_)
      have p1 := gF_Ph (t := t) (a := i) (b := b) (S := eF x (Fi i) T) (by omega) (fun w hw => by have := ((hI.2.2.2.2.2.1 i (by omega)).1.2.2 w hw).1; omega)
      have p2 := hP b hb
      have p3 : (if b < i then 1 else 0 : Nat) + (if b = i then 1 else 0) ≤ if b < i + 1 then 1 else 0 := by
        by_cases e : b < i
        · rw [if_pos e, if_neg (by omega), if_pos (by omega)]; exact Nat.le_refl _
        · rw [if_neg e]
          by_cases e2 : b = i
          · rw [if_pos e2, if_pos (by omega)]; exact Nat.le_refl _
          · rw [if_neg e2]; exact Nat.zero_le _
      omega
    · rw [if_neg c] at st
      rw [st] at go
      refine go hI hX hZ (fun b hb => ?_)
      have p2 := hP b hb
      have p3 : (if b < i then 1 else 0 : Nat) ≤ if b < i + 1 then 1 else 0 := ite_le (fun z => by omega)
      omega
/-- who goes on without x, x erased of its set before -/
def hdw (t : Int32) (N w : Nat) (U : St) : St := if xR U 0 w = 2 then U else if mayA N w (lv t N w U) then ak t N w (lv t N w U) else lv t N w U
theorem sAl_c {t : Int32} {k f : Nat} {set s : Int32} : ∀ (ws : List Nat) (S S' : St), xR S 16 = xR S' 16 → xL S = xL S' → xR (sAl t k f set s ws S) 16 = xR (sAl t k f set s ws S') 16 ∧ xL (sAl t k f set s ws S) = xL (sAl t k f set s ws S') ∧ xE (sAl t k f set s ws S) = xE S ∧ xT (sAl t k f set s ws S) = xT S := by
  intro ws
  induction ws with
  | nil => intro S S' h1 h2; exact ⟨h1, h2, rfl, rfl⟩
  | cons w ws ih =>
    intro S S' h1 h2
    unfold sAl
    rw [List.foldl_cons, List.foldl_cons]
    by_cases c : bt set w = true
    · rw [if_pos c, if_pos c]
      have e1 : xR (sn t k f w s S) 16 = xR (sn t k f w s S') 16 := by
        funext i
        rw [sn_Rg, sn_Rg, h1]
      have e2 : xL (sn t k f w s S) = xL (sn t k f w s S') := by
        funext l
        rw [sn_L, sn_L, h2]
      have := ih (sn t k f w s S) (sn t k f w s S') e1 e2
      unfold sAl at this
      exact ⟨this.1, this.2.1, this.2.2.1, this.2.2.2⟩
    · rw [if_neg c, if_neg c]
      have := ih S S' h1 h2
      unfold sAl at this
      exact this
theorem sA_c {t : Int32} {N k f : Nat} {set s : Int32} {S S' : St} (h1 : xR S 16 = xR S' 16) (h2 : xL S = xL S') : xR (sA t N k f set s S) 16 = xR (sA t N k f set s S') 16 ∧ xL (sA t N k f set s S) = xL (sA t N k f set s S') ∧ xE (sA t N k f set s S) = xE S ∧ xT (sA t N k f set s S) = xT S := sAl_c _ S S' h1 h2
def Fn : Nat → Bool := fun _ => false
theorem eN_R (x : Nat) (S : St) (k i : Nat) : xR (eF x Fn S) k i = if k = 3 then bof (xR S 3 i) x else if (k = 4 ∨ k = 5) ∧ xR S 0 i = 1 then bof (xR S k i) x else xR S k i := by
  rw [eF_R, if_neg (show ¬ ((8 ≤ k ∧ k ≤ 10) ∧ Fn i = true ∧ xR S 8 i = nI x) from fun z => absurd z.2.1 (by unfold Fn; decide))]
theorem eN_W (x : Nat) (S : St) : xW (eF x Fn S) = xW S := by
  funext i
  rw [eF_W]; rfl
theorem eN_Rk {x : Nat} {S : St} {k i : Nat} (h : k ≠ 3 ∧ k ≠ 4 ∧ k ≠ 5) : xR (eF x Fn S) k i = xR S k i := by
  rw [eN_R, if_neg (by omega), if_neg (by omega)]
theorem eN_Q (x : Nat) (S : St) : Qk S (eF x Fn S) := fun k hk i => eN_Rk (by omega)
theorem bof_bof (y : Int32) {x : Nat} (hx : x < 32) : bof (bof y x) x = bof y x := by
  apply b_ext
  intro i hi
  rw [bt_off _ hx hi, bt_off _ hx hi]
  cases bt y i <;> simp
theorem bof_id {y : Int32} {x : Nat} (hx : x < 32) (h : bt y x = false) : bof y x = y := by
  apply b_ext
  intro i hi
  rw [bt_off _ hx hi]
  by_cases c : i = x
  · subst c; rw [h]; rfl
  · rw [decide_eq_false c]; simp
theorem lv_T {t : Int32} {N v : Nat} {S : St} : xE (lv t N v S) = xE S ∧ xT (lv t N v S) = xT S := by
  unfold lv
  obtain ⟨_, _, a, b⟩ := sA_c (t := t) (N := N) (k := 5) (f := v) (set := xR S 3 v) (s := xR S 2 v) (S := rst v S) (S' := rst v S) rfl rfl
  exact ⟨a, b⟩
set_option maxHeartbeats 1000000 in
theorem eN_gdw {t : Int32} {N x w : Nat} {T : St} (h16 : N ≤ 16) (hx : x < N) (hw : w < N) (hset : bof (xR T 3 w) x &&& (bkm N T ^^^ (-1 : Int32)) = bof (xR T 3 w) x) (hq : bt (qm N T w) x = false) : eF x Fn (gdw t N x w T) = hdw t N w (eF x Fn T) := by
  have x32 : x < 32 := by omega
  have u0 : xR (eF x Fn T) 0 w = xR T 0 w := eN_Rk (by decide)
  unfold hdw
  rw [u0]
  rcases gdw_3 t N x w T with ⟨c, e⟩ | ⟨c, S1, e1, h2⟩
  · rw [if_pos c, e]
    refine St.ext (fun k i => ?_) (by rw [eN_W, eN_W]; rfl) rfl rfl rfl
    rw [eN_R, eN_R, xR_uR, xR_uR, xR_uR, if_neg (show ¬ (0 = 3 ∧ i = w) by omega)]
    by_cases k3 : k = 3
    · rw [if_pos k3, if_pos k3]
      by_cases iw : i = w
      · rw [if_pos ⟨rfl, iw⟩, bof_bof _ x32, iw]
      · rw [if_neg (fun z => iw z.2)]
    · rw [if_neg k3, if_neg k3, if_neg (show ¬ (k = 3 ∧ i = w) from fun z => k3 z.1)]
  · rw [if_neg c]
    rw [hset] at e1
    have s16 : xR (rst w (eF x Fn T)) 16 = xR T 16 := by funext i; rw [rst_R, if_neg (by omega), eN_Rk (by decide)]
    have cc := sA_c (t := t) (N := N) (k := 5) (f := w) (set := bof (xR T 3 w) x) (s := xR T 2 w) (S := T) (S' := rst w (eF x Fn T)) s16.symm rfl
    have lve : lv t N w (eF x Fn T) = sA t N 5 w (bof (xR T 3 w) x) (xR T 2 w) (rst w (eF x Fn T)) := by
      unfold lv
      rw [eN_R, if_pos rfl, eN_Rk (by decide)]
    have r1 : ∀ k i, k ≠ 16 → xR S1 k i = if i = w ∧ (k = 0 ∨ (3 ≤ k ∧ k ≤ 6)) then 0 else xR T k i := fun k i hk => by
      rw [e1, rst_R, sA_R hk]
    have key : eF x Fn S1 = lv t N w (eF x Fn T) := by
      refine St.ext (fun k i => ?_) ?_ ?_ ?_ ?_
      · by_cases k16 : k = 16
        · subst k16
          rw [eN_Rk (by decide), e1, lve, rst_R, if_neg (by omega)]
          exact congrFun cc.1 i
        · rw [lv_R k16, eN_R, r1 3 i (by decide), r1 0 i (by decide), r1 k i k16, eN_R]
          by_cases iw : i = w
          · subst iw
            by_cases k3 : k = 3
            · rw [if_pos k3, if_pos ⟨rfl, by omega⟩, if_pos ⟨rfl, by omega⟩, bof_z]
            · rw [if_neg k3, if_pos (show i = i ∧ (0 = 0 ∨ 3 ≤ 0 ∧ 0 ≤ 6) from ⟨rfl, Or.inl rfl⟩), if_neg (show ¬ ((k = 4 ∨ k = 5) ∧ (0 : Int32) = 1) from fun z => ne01 z.2)]
              by_cases d : k = 0 ∨ (3 ≤ k ∧ k ≤ 6)
              · rw [if_pos ⟨rfl, d⟩, if_pos ⟨rfl, d⟩]
              · rw [if_neg (fun z => d z.2), if_neg (fun z => d z.2), if_neg k3, if_neg (by omega)]
          · have nw : ∀ q : Prop, ¬ (i = w ∧ q) := fun q z => iw z.1
            rw [if_neg (nw _), if_neg (nw _), if_neg (nw _), if_neg (nw _)]
      · rw [eN_W, lv_W, eN_W, e1]
        show xW (sA _ _ _ _ _ _ _) = _
        rw [sA_W]
      · rw [eF_L, e1, lve]
        exact cc.2.1
      · rw [lv_T.1, e1]
        exact cc.2.2.1
      · rw [lv_T.2, e1]
        exact cc.2.2.2
    have q1 : ∀ U : St, Qk T U → qm N U w = qm N T w := fun U h => h.m N w
    have kT1 : Qk T S1 := fun k hk i => by rw [r1 k i (by omega), if_neg (by omega)]
    have may : mayA N w (eF x Fn S1) = mayA N w S1 := by
      unfold mayA
      rw [eN_Rk (by decide), eN_Rk (by decide), (eN_Q x S1).m]
    rw [← key, may]
    rcases h2 with ⟨d, e⟩ | ⟨d, e⟩
    · rw [if_pos d, e]
      have hq1 : bt (qm N S1 w) x = false := by rw [q1 S1 kT1]; exact hq
      have s0 : xR (eF x Fn S1) 1 w = xR S1 1 w := eN_Rk (by decide)
      have qe : qm N (eF x Fn S1) w = qm N S1 w := (eN_Q x S1).m N w
      have cd : ∀ (A B : St), xR A 16 = xR B 16 → xL A = xL B → xR (sA t N 0 w (qm N S1 w) (xR S1 1 w + 1) A) 16 = xR (sA t N 0 w (qm N S1 w) (xR S1 1 w + 1) B) 16 ∧ xL (sA t N 0 w (qm N S1 w) (xR S1 1 w + 1) A) = xL (sA t N 0 w (qm N S1 w) (xR S1 1 w + 1) B) ∧ xE (sA t N 0 w (qm N S1 w) (xR S1 1 w + 1) A) = xE A ∧ xT (sA t N 0 w (qm N S1 w) (xR S1 1 w + 1) A) = xT A := fun A B h1 h2 => sA_c h1 h2
      refine St.ext (fun k i => ?_) ?_ ?_ ?_ ?_
      · by_cases k16 : k = 16
        · subst k16
          rw [eN_Rk (by decide)]
          unfold ak
          simp only []
          rw [s0, qe]
          refine congrFun (cd _ _ ?_ ?_).1 i
          · funext j
            simp only [xR_uR]
            simp [eN_Rk]
          · rfl
        · rw [eN_R, ak_R (k := 3) (by decide), ak_R (k := 0) (by decide), ak_R k16, ak_R k16, s0, qe, eN_Rk (k := 15) (by decide)]
          by_cases iw : i = w
          · subst iw
            rw [if_pos rfl, if_pos rfl, if_pos rfl, if_pos rfl]
            by_cases k3 : k = 3
            · subst k3
              rw [if_pos rfl, if_neg (by decide), if_neg (by decide), if_neg (by decide), if_pos rfl, if_neg (by decide), if_neg (by decide), if_neg (by decide), if_pos rfl]
              exact bof_id x32 hq1
            · rw [if_neg k3, if_pos rfl]
              by_cases k4 : k = 4 ∨ k = 5
              · rw [if_pos ⟨k4, rfl⟩]
                rcases k4 with rfl | rfl
                · simp [bof_z]
                · simp [bof_z]
              · rw [if_neg (fun z => k4 z.1), eN_Rk (by omega), if_pos rfl]
          · rw [if_neg iw, if_neg iw, if_neg iw, if_neg iw, eN_R]
      · rw [eN_W, ak_W, ak_W, eN_W]
      · rw [eF_L]
        unfold ak
        simp only []
        rw [s0, qe]
        refine (cd _ _ ?_ ?_).2.1
        · funext j
          simp only [xR_uR]
          simp [eN_Rk]
        · rfl
      · show xE (ak t N w S1) = xE (ak t N w (eF x Fn S1))
        unfold ak
        simp only []
        rw [s0, qe, (cd _ _ rfl rfl).2.2.1, (cd _ _ rfl rfl).2.2.1]
        rfl
      · show xT (ak t N w S1) = xT (ak t N w (eF x Fn S1))
        unfold ak
        simp only []
        rw [s0, qe, (cd _ _ rfl rfl).2.2.2, (cd _ _ rfl rfl).2.2.2]
        rfl
    · rw [if_neg d, e]
/-! ===== a node breaks: all that is held after it ===== -/
theorem IZ.tlv {N v : Nat} {S : St} (h : IZ N S) (t : Int32) : IZ N (lv t N v S) := by
  obtain ⟨z1, z2, z3⟩ := h
  refine ⟨fun u hu i hi hb => ?_, fun u hu q => ?_, fun u a b => ?_⟩
  · rw [lv_R (by decide)] at hb ⊢
    by_cases c : u = v
    · rw [if_pos ⟨c, by omega⟩, b_0] at hb; cases hb
    · rw [if_neg (fun z => c z.1)] at hb ⊢; exact z1 u hu i hi hb
  · rw [lv_R (by decide)] at q ⊢
    by_cases c : u = v
    · rw [if_pos ⟨c, by omega⟩]
    · rw [if_neg (fun z => c z.1)] at q ⊢; exact z2 u hu q
  · rw [lv_R (by decide), if_neg (by omega), lv_R (by decide), if_neg (by omega)]; exact z3 u a b
theorem IZ.tak {N v : Nat} {S : St} (h : IZ N S) (t : Int32) : IZ N (ak t N v S) := by
  obtain ⟨z1, z2, z3⟩ := h
  have e0 : xR (ak t N v S) 0 v = 1 := by rw [ak_R (by decide), if_pos rfl]; rfl
  have e5 : xR (ak t N v S) 5 v = 0 := by rw [ak_R (by decide), if_pos rfl]; rfl
  refine ⟨fun u hu i hi hb => ?_, fun u hu q => ?_, fun u a b => ?_⟩
  · by_cases c : u = v
    · rw [c, e5, b_0] at hb; cases hb
    · rw [ak_Ro (by decide) c] at hb ⊢; exact z1 u hu i hi hb
  · by_cases c : u = v
    · rw [c, e0] at q; exact absurd q (by decide)
    · rw [ak_Ro (by decide) c] at q ⊢; exact z2 u hu q
  · rw [ak_Rk (by omega), ak_Rk (by omega)]; exact z3 u a b
theorem hdw_all {t : Int32} {N A w : Nat} {U : St} (h16 : N ≤ 16) (hI : Inv N A U) (hX : IX N U) (hZ : IZ N U) (hA : A + 1 < 1048576) (hQ : ∀ v, v < N → ∀ i, N ≤ i → i < 32 → bt (qm N U v) i = false) (hU : QU N U) (hw : w < N) (h0 : xR U 0 w ≠ 0) : Inv N (A + 1) (hdw t N w U) ∧ IX N (hdw t N w U) ∧ IZ N (hdw t N w U) ∧ ∀ a, a < 16 → Ph a (hdw t N w U) ≤ Ph a U + 2 := by
  unfold hdw
  by_cases c : xR U 0 w = 2
  · rw [if_pos c]
    exact ⟨hI.mo (by omega), hX, hZ, fun a _ => by omega⟩
  · rw [if_neg c]
    have i1 := hI.tlv h16 hw h0 t
    obtain ⟨x1, p1⟩ := lv_X hI h16 hX hw h0 t
    rw [if_neg c] at p1
    have z1 := hZ.tlv (v := w) t
    have kq : Qk U (lv t N w U) := fun k hk i => by rw [lv_R (by omega), if_neg (by omega)]
    by_cases d : mayA N w (lv t N w U) = true
    · rw [if_pos d]
      unfold mayA at d
      have d0 : xR (lv t N w U) 0 w = 0 := of_decide_eq_true (Bool.and_eq_true _ _ |>.mp d).1
      have d7 : xR (lv t N w U) 7 w = 0 := of_decide_eq_true (Bool.and_eq_true _ _ |>.mp (Bool.and_eq_true _ _ |>.mp d).2).1
      have i2 := i1.tak h16 hw d0 hA (fun i a b => by rw [kq.m]; exact hQ w hw i a b) t
      obtain ⟨x2, p2⟩ := ak_X h16 x1 hw (fun q => by rw [d7] at q; exact absurd q (by decide)) (hU.k kq w hw) t
      refine ⟨i2, x2, z1.tak t, fun a ha => ?_⟩
      have := p1 a ha
      have := p2 a ha
      have : (if a < N ∧ bt (qm N (lv t N w U) w) a = true then 1 else 0 : Nat) ≤ 1 := by split <;> omega
      omega
    · rw [if_neg d]
      exact ⟨i1.mo (by omega), x1, z1, fun a ha => by have := p1 a ha; omega⟩
/-- in the midst of the going on -/
def Kx (N x B : Nat) (P : Nat → Nat) (T : St) : Prop := Inv N B (eF x Fn T) ∧ IX N (eF x Fn T) ∧ IZ N (eF x Fn T) ∧ BI N T ∧ (xR T 20 1 = 1 → N % 2 = 1) ∧ (∀ v, v < 16 → xR T 7 v = 0 ∨ xR T 7 v = 1) ∧ xR T 7 x = 1 ∧ (∀ v, v < 16 → xR T 0 v = 0 → xR T 3 v = 0) ∧ (∀ a, a < 16 → Ph a (eF x Fn T) ≤ P a) ∧ ∀ v, v < 16 → bt (xR T 3 v) x = false → xR T 0 v = 1 → bt (xR T 4 v) x = false ∧ bt (xR T 5 v) x = false
theorem gdw_w {t : Int32} {N x w : Nat} {T : St} (h16 : N ≤ 16) (hx : x < N) (hq : bt (qm N T w) x = false) : bt (xR (gdw t N x w T) 3 w) x = false ∧ (xR (gdw t N x w T) 0 w = 1 → bt (xR (gdw t N x w T) 4 w) x = false ∧ bt (xR (gdw t N x w T) 5 w) x = false) ∧ (xR (gdw t N x w T) 0 w = 0 → xR (gdw t N x w T) 3 w = 0) := by
  rcases gdw_3 t N x w T with ⟨c, e⟩ | ⟨c, S1, e1, ⟨d, e⟩ | ⟨d, e⟩⟩
  · have r0 : xR (uR T 3 w (bof (xR T 3 w) x)) 0 w = 2 := by rw [xR_uR, if_neg (by omega)]; exact c
    rw [e, r0]
    refine ⟨?_, fun z => absurd z (by decide), fun z => absurd z (by decide)⟩
    rw [xR_uR, if_pos ⟨rfl, rfl⟩, bt_off _ (by omega) (by omega), decide_eq_true rfl]; simp
  · have kT1 : Qk T S1 := fun k hk i => by rw [e1, rst_R, if_neg (by omega), sA_R (by omega)]
    have r0 : xR (ak t N w S1) 0 w = 1 := by rw [ak_R (by decide), if_pos rfl]; rfl
    have r3 : xR (ak t N w S1) 3 w = qm N S1 w := by rw [ak_R (by decide), if_pos rfl]; rfl
    have r4 : xR (ak t N w S1) 4 w = 0 := by rw [ak_R (by decide), if_pos rfl]; rfl
    have r5 : xR (ak t N w S1) 5 w = 0 := by rw [ak_R (by decide), if_pos rfl]; rfl
    rw [e, r0, r3, r4, r5, b_0]
    refine ⟨?_, fun _ => ⟨rfl, rfl⟩, fun z => absurd z (by decide)⟩
    rw [kT1.m]; exact hq
  · have r0 : xR S1 0 w = 0 := by rw [e1, rst_R, if_pos ⟨rfl, by omega⟩]
    have r3 : xR S1 3 w = 0 := by rw [e1, rst_R, if_pos ⟨rfl, by omega⟩]
    rw [e, r0, r3, b_0]
    exact ⟨rfl, fun z => absurd z (by decide), fun _ => rfl⟩
theorem Kx.s {t : Int32} {N x w B : Nat} {P : Nat → Nat} {T : St} (h : Kx N x B P T) (h16 : N ≤ 16) (hx : x < N) (hw : w < N) (hB : B + 1 < 1048576) (hb : bt (xR T 3 w) x = true) : Kx N x (B + 1) (fun a => P a + 2) (gdw t N x w T) := by
  obtain ⟨hI, hX, hZ, hBI, ht, h7, h7x, hz0, hP, hV⟩ := h
  have qub : ∀ {v}, v < N → ∀ i, i < N → bt (qm N T v) i = true → Ub T i := fun hv => qm_ub hBI h16 ht h7 hv
  have hq : bt (qm N T w) x = false := by
    cases z : bt (qm N T w) x with
    | false => rfl
    | true => exact absurd h7x (qub hw x hx z)
  have hset : bof (xR T 3 w) x &&& (bkm N T ^^^ (-1 : Int32)) = bof (xR T 3 w) x := by
    apply b_ext
    intro i hi
    rw [bt_minus _ _ hi, bkm_b h16 h7 hi]
    cases z : bt (bof (xR T 3 w) x) i with
    | false => rfl
    | true =>
      have e3 : xR (eF x Fn T) 3 w = bof (xR T 3 w) x := by rw [eN_R, if_pos rfl]
      have iN : i < N := by
        apply Decidable.byContradiction
        intro c
        have := hI.2.1 w (by omega) i (by omega) hi
        rw [e3, z] at this; cases this
      have ub := hX.2.2.use hw iN (by rw [e3]; exact z)
      unfold Ub at ub
      rw [eN_Rk (by decide)] at ub
      rw [decide_eq_false (fun q => ub q.2)]; rfl
  have h0 : xR T 0 w ≠ 0 := fun z => by
    rw [hz0 w (by omega) z, b_0] at hb; cases hb
  have eg := eN_gdw (t := t) h16 hx hw hset hq
  have kq := eN_Q x T
  have hQ1 : ∀ v, v < N → ∀ i, N ≤ i → i < 32 → bt (qm N (eF x Fn T) v) i = false := fun v hv i a b => by rw [kq.m]; exact qm_hi hBI h16 ht v hv i a b
  have hU1 : QU N (eF x Fn T) := QU.k (fun v hv i hi z => qub hv i hi z) kq
  obtain ⟨a1, a2, a3, a4⟩ := hdw_all (t := t) h16 hI hX hZ hB hQ1 hU1 hw (by rw [eN_Rk (by decide)]; exact h0)
  rw [← eg] at a1 a2 a3 a4
  obtain ⟨w1, w2, w3⟩ := gdw_w (t := t) (w := w) h16 hx hq
  have rk : ∀ k i, k = 7 ∨ k = 17 ∨ k = 20 → xR (gdw t N x w T) k i = xR T k i := fun k i hk => gdw_Rk (by omega)
  refine ⟨a1, a2, a3, ?_, by rw [rk 20 1 (by omega)]; exact ht, fun v hv => by rw [rk 7 v (by omega)]; exact h7 v hv, by rw [rk 7 x (by omega)]; exact h7x, fun v hv z => ?_, fun a ha => by have := a4 a ha; have := hP a ha; show Ph a (eF x Fn (gdw t N x w T)) ≤ P a + 2; omega, fun v hv z1 z2 => ?_⟩
  · intro v hv i a b
    rw [rk 17 v (by omega)]; exact hBI v hv i a b
  · by_cases c : v = w
    · subst c; exact w3 z
    · rw [gdw_Ro (by decide) c] at z ⊢; exact hz0 v hv z
  · by_cases c : v = w
    · subst c; exact w2 z2
    · rw [gdw_Ro (by decide) c] at z1 z2 ⊢
      rw [gdw_Ro (by decide) c]
      exact hV v hv z1 z2
theorem hfold {t : Int32} {N x : Nat} (h16 : N ≤ 16) (hx : x < N) {P : Nat → Nat} : ∀ (d i B : Nat) (T : St), i + d = N → B + d < 1048576 → Kx N x B (fun a => P a + 2 * i) T → xR T 3 x = 0 → (∀ v, v < i → bt (xR T 3 v) x = false) → Kx N x (B + d) (fun a => P a + 2 * N) (gdl t N x (List.range' i d) T) ∧ xR (gdl t N x (List.range' i d) T) 3 x = 0 ∧ ∀ v, v < N → bt (xR (gdl t N x (List.range' i d) T) 3 v) x = false := by
  intro d
  induction d with
  | zero =>
    intro i B T hi hB hK h3 hv
    have : i = N := by omega
    subst this
    exact ⟨hK, h3, hv⟩
  | succ d ih =>
    intro i B T hi hB hK h3 hv
    unfold gdl
    rw [List.range'_succ, List.foldl_cons]
    have mo : ∀ {B' T'}, B' ≤ B + 1 → Kx N x B' (fun a => P a + 2 * i) T' → Kx N x (B + 1) (fun a => P a + 2 * (i + 1)) T' := fun hb h => by
      obtain ⟨b1, b2, b3, b4, b5, b6, b7, b8, b9, b10⟩ := h
      exact ⟨b1.mo hb, b2, b3, b4, b5, b6, b7, b8, fun a ha => Nat.le_trans (b9 a ha) (show P a + 2 * i ≤ P a + 2 * (i + 1) by omega), b10⟩
    have go := fun T' (k : Kx N x (B + 1) (fun a => P a + 2 * (i + 1)) T') (h3' : xR T' 3 x = 0) (hv' : ∀ v, v < i + 1 → bt (xR T' 3 v) x = false) => ih (i + 1) (B + 1) T' (by omega) (by omega) k h3' hv'
    unfold gdl at go
    rw [show B + (d + 1) = B + 1 + d by omega]
    by_cases c : i = x
    · rw [if_pos c]
      exact go T (mo (Nat.le_succ B) hK) h3 (fun v hv' => by
        by_cases e : v = i
        · rw [e, c, h3]; exact b_0 _
        · exact hv v (by omega))
    · rw [if_neg c]
      by_cases b : bt (xR T 3 i) x = true
      · rw [if_pos b]
        have k := hK.s (t := t) (w := i) h16 hx (by omega) (by omega) b
        have qub : ∀ {v}, v < N → ∀ i, i < N → bt (qm N T v) i = true → Ub T i := fun hv => qm_ub hK.2.2.2.1 h16 hK.2.2.2.2.1 hK.2.2.2.2.2.1 hv
        have hq : bt (qm N T i) x = false := by
          cases z : bt (qm N T i) x with
          | false => rfl
          | true => exact absurd hK.2.2.2.2.2.2.1 (qub (show i < N by omega) x hx z)
        refine go _ ?_ (by rw [gdw_Ro (by decide) (fun z => c z.symm)]; exact h3) (fun v hv' => ?_)
        · obtain ⟨b1, b2, b3, b4, b5, b6, b7, b8, b9, b10⟩ := k
          exact ⟨b1, b2, b3, b4, b5, b6, b7, b8, fun a ha => Nat.le_trans (b9 a ha) (show P a + 2 * i + 2 ≤ P a + 2 * (i + 1) by omega), b10⟩
        · by_cases e : v = i
          · rw [e]; exact (gdw_w (t := t) (w := i) h16 hx hq).1
          · rw [gdw_Ro (by decide) e]; exact hv v (by omega)
      · rw [if_neg b]
        exact go T (mo (Nat.le_succ B) hK) h3 (fun v hv' => by
          by_cases e : v = i
          · rw [e]; cases z : bt (xR T 3 i) x with
            | false => rfl
            | true => exact absurd z b
          · exact hv v (by omega))
theorem opn_16 {S S' : St} {v a : Nat} (h0 : xR S' 0 v = xR S 0 v) (h2 : xR S' 2 v = xR S 2 v) (h3 : xR S' 3 v = xR S 3 v) : opn S' v a = opn S v a := by
  unfold opn; rw [h0, h2, h3]
theorem Inv.c16 {N A : Nat} {S S' : St} (h : Inv N A S) (h16 : N ≤ 16) (hR : ∀ k i, k < 11 → i < 16 → xR S' k i = xR S k i) (hW : ∀ a, a < 16 → xW S' a = xW S a) (hL : xL S' = xL S) : Inv N A S' := by
  obtain ⟨ja, jb, jc, jd, je, jf, jg, jh⟩ := h
  have en : ∀ v a, v < 16 → a < 16 → oe S' 99 99 none v a = oe S 99 99 none v a := fun v a hv ha => by
    rw [oe_99 hv, oe_99 hv]
    unfold eng
    rw [hR 8 a (by omega) ha, hR 9 a (by omega) ha, hW a ha]
  have op : ∀ v a, v < 16 → opn S' v a = opn S v a := fun v a hv => opn_16 (hR 0 v (by omega) hv) (hR 2 v (by omega) hv) (hR 3 v (by omega) hv)
  have zk : ∀ {v a s}, v < 16 → Zok S v a s → Zok S' v a s := fun hv z => z.ex (hR 2 _ (by omega) hv) (hR 0 _ (by omega) hv) (hR 3 _ (by omega) hv)
  refine ⟨?_, ?_, ?_, ?_, ?_, ?_, ?_, ?_⟩
  · intro v hv
    rw [hR 0 v (by omega) hv, hR 7 v (by omega) hv, hR 10 v (by omega) hv]; exact ja v hv
  · intro v hv
    rw [hR 3 v (by omega) hv]; exact jb v hv
  · intro v hv
    rw [hR 0 v (by omega) hv, hR 3 v (by omega) hv, hR 4 v (by omega) hv, hR 5 v (by omega) hv]; exact jc v hv
  · intro v hv
    rw [hR 1 v (by omega) hv, hR 2 v (by omega) hv]; exact jd v hv
  · unfold IE; rw [hL]; exact je
  · intro a ha
    rw [hR 8 a (by omega) ha, hR 9 a (by omega) ha, hR 10 a (by omega) ha, hW a ha]; exact jf a ha
  · intro v hv a ha
    rw [en v a (by omega) (by omega), op v a (by omega), hL]; exact jg v hv a ha
  · intro v hv a ha
    rw [en v a (by omega) (by omega), hL]
    obtain ⟨j1, j2, j3⟩ := jh v hv a ha
    exact ⟨fun s z => zk (by omega) (j1 s z), fun y q1 q2 => zk (by omega) (j2 y q1 q2), fun y q1 q2 => zk (by omega) (j3 y q1 q2)⟩
set_option maxHeartbeats 1000000 in
theorem bd_all {t : Int32} {N A x : Nat} {S : St} (hI : Inv N A S) (hX : IX N S) (hZ : IZ N S) (hB : BI N S) (h16 : N ≤ 16) (ht : xR S 20 1 = 1 → N % 2 = 1) (hx : x < N) (h0 : xR S 0 x = 0) (hA : A + N < 1048576) : Inv N (A + N) (bd t N x S) ∧ IX N (bd t N x S) ∧ IZ N (bd t N x S) ∧ (∀ a, a < 16 → Ph a (bd t N x S) ≤ Ph a S + (2 * N + 1)) ∧ ∀ k i, 10 < k → k ≠ 13 → k ≠ 14 → k ≠ 16 → xR (bd t N x S) k i = xR S k i := by
  have x6 : x < 16 := by omega
  have g := gfold (t := t) (A := A) h16 hx (P := fun b => Ph b S) N 0 (b0 x S) (by omega) (b0_Fg hI h16 hx) (show Inv N A (e0 x S) from e0_Inv hI h16 hx h0) (show IX N (e0 x S) from e0_IX hI hX h16 hx h0) (show IZ N (e0 x S) from e0_IZ hZ hx h16) (fun b hb => Nat.le_trans (show Ph b (e0 x S) ≤ Ph b S from e0_Ph x6 hb) (Nat.le_add_right _ _))
  generalize hT : fgl t x (List.range' 0 N) (b0 x S) = T at g
  have rT : ∀ k i, k < 8 ∨ (10 < k ∧ k ≠ 16) → xR T k i = xR (b0 x S) k i := fun k i hk => by rw [← hT]; exact fgl_R hk _ _
  have rS : ∀ k i, k < 7 ∨ (10 < k ∧ k ≠ 16) → xR T k i = xR S k i := fun k i hk => by
    rw [rT k i (by omega), b0_R, if_neg (by omega), if_neg (by omega), if_neg (by omega)]
  have r7 : ∀ i, xR T 7 i = if i = x then 1 else xR S 7 i := fun i => by
    rw [rT 7 i (by omega), b0_R]
    by_cases c : i = x
    · rw [if_pos ⟨c, rfl⟩, if_pos c]
    · rw [if_neg (fun z => c z.1), if_neg (by omega), if_neg (by omega), if_neg c]
  have Wz : ∀ a, N ≤ a → a < 16 → xW T a = [] := fun a h1 h2 => by
    have : ∀ (ws : List Nat) (U : St), (∀ w, w ∈ ws → w < N) → xW (fgl t x ws U) a = xW U a := by
      intro ws
      induction ws with
      | nil => intro U _; rfl
      | cons w ws ih =>
        intro U hw
        unfold fgl
        rw [List.foldl_cons]
        have q := ih (if w = x then U else fgt t w x U) (fun y hy => hw y (by simp [hy]))
        unfold fgl at q
        rw [q]
        split
        · rfl
        · exact fgt_Wo (by have := hw w (by simp); omega)
    rw [← hT, this _ _ (fun w hw => by rw [List.mem_range'_1] at hw; omega), b0_W, if_neg (by omega)]
    exact (hI.2.2.2.2.2.1 a h2).2.1 h1
  have se : SE (eF x (Fi N) T) (eF x Fn T) := by
    refine ⟨fun k i hk hi => ?_, fun a ha => ?_, fun l hl => rfl⟩
    · rw [eN_R, eF_R]
      by_cases k3 : k = 3
      · rw [if_pos k3, if_pos k3]
      · rw [if_neg k3, if_neg k3]
        by_cases k4 : (k = 4 ∨ k = 5) ∧ xR T 0 i = 1
        · rw [if_pos k4, if_pos k4]
        · rw [if_neg k4, if_neg k4]
          by_cases z : (8 ≤ k ∧ k ≤ 10) ∧ Fi N i = true ∧ xR T 8 i = nI x
          · exfalso
            have iN : N ≤ i := of_decide_eq_true z.2.1
            have e8 : xR T 8 i = -1 := by
              have : ∀ (ws : List Nat) (U : St), (∀ w, w ∈ ws → w < N) → xR (fgl t x ws U) 8 i = xR U 8 i := by
                intro ws
                induction ws with
                | nil => intro U _; rfl
                | cons w ws ih =>
                  intro U hw
                  unfold fgl
                  rw [List.foldl_cons]
                  have q := ih (if w = x then U else fgt t w x U) (fun y hy => hw y (by simp [hy]))
                  unfold fgl at q
                  rw [q]
                  split
                  · rfl
                  · exact fgt_R (Or.inl (by have := hw w (by simp); omega)) (by decide)
              rw [← hT, this _ _ (fun w hw => by rw [List.mem_range'_1] at hw; omega), b0_R, if_neg (by omega), if_neg (by omega), if_neg (by omega)]
              exact (hZ.2.2 i iN hi).2
            rw [e8] at z
            exact m1_ne x6 z.2.2
          · rw [if_neg z]
    · rw [eN_W, eF_W]
      by_cases c : N ≤ a
      · rw [Wz a c ha]; unfold Fi; rw [decide_eq_true c]; rfl
      · unfold Fi; rw [decide_eq_false c]; rfl
  have K0 : Kx N x A (fun a => (Ph a S + 1) + 2 * 0) T := by
    refine ⟨g.1.c16 h16 (fun k i hk hi => (se.1 k i (Or.inl hk) hi).symm) (fun a ha => (se.2.1 a ha).symm) rfl, se.tix h16 g.2.1, g.2.2.1.cg (fun k v hv hk => (se.1 k v (by omega) hv).symm) (fun v _ hv => (se.1 8 v (by omega) hv).symm), ?_, ?_, fun v hv => ?_, by rw [r7, if_pos rfl], fun v hv z => ?_, fun a ha => ?_, fun v hv z1 z2 => ?_⟩
    · intro v hv i a b
      rw [rS 17 v (by omega)]; exact hB v hv i a b
    · rw [rS 20 1 (by omega)]; exact ht
    · rw [r7]; split
      · exact Or.inr rfl
      · exact (hI.1 v hv).2.2.1
    · rw [rS 0 v (by omega)] at z
      rw [rS 3 v (by omega)]; exact hZ.2.1 v hv z
    · rw [← se.tPh a]; exact g.2.2.2 a ha
    · rw [rS 3 v (by omega)] at z1
      rw [rS 0 v (by omega)] at z2
      rw [rS 4 v (by omega), rS 5 v (by omega)]
      have ic := hI.2.2.1 v hv z2 x (by omega)
      constructor
      · cases z : bt (xR S 4 v) x with
        | false => rfl
        | true => rw [ic.1 z] at z1; cases z1
      · cases z : bt (xR S 5 v) x with
        | false => rfl
        | true => rw [ic.2 z] at z1; cases z1
  obtain ⟨k', f3, fv⟩ := hfold (t := t) h16 hx (P := fun a => Ph a S + 1) N 0 A T (by omega) hA K0 (by rw [rS 3 x (by omega)]; exact hZ.2.1 x x6 h0) (fun v hv => by omega)
  have eb : bd t N x S = gdl t N x (List.range' 0 N) T := by
    unfold bd
    rw [List.range_eq_range', hT]
  rw [eb]
  have gk : ∀ k i, 10 < k → k ≠ 13 → k ≠ 14 → k ≠ 16 → ∀ (ws : List Nat) (U : St), xR (gdl t N x ws U) k i = xR U k i := by
    intro k i h1 h2 h3 h4 ws
    induction ws with
    | nil => intro U; rfl
    | cons w ws ih =>
      intro U
      unfold gdl
      rw [List.foldl_cons]
      have q := ih (if w = x then U else if bt (xR U 3 w) x then gdw t N x w U else U)
      unfold gdl at q
      rw [q]
      split
      · rfl
      · split
        · exact gdw_Rk (by omega)
        · rfl
  have gl := fun k i h1 h2 h3 h4 => gk k i h1 h2 h3 h4 (List.range' 0 N) T
  generalize hF : gdl t N x (List.range' 0 N) T = F at k' f3 fv gl
  obtain ⟨b1, b2, b3, b4, b5, b6, b7, b8, b9, b10⟩ := k'
  have nx : ∀ v, v < 16 → bt (xR F 3 v) x = false := fun v hv => by
    by_cases c : v < N
    · exact fv v c
    · have := (b1.1 v hv).2.1 (by omega)
      rw [eN_Rk (by decide)] at this
      rw [b8 v hv this, b_0]
  have se2 : SE (eF x Fn F) F := by
    refine ⟨fun k i hk hi => ?_, fun a _ => by rw [eN_W], fun l _ => rfl⟩
    rw [eN_R]
    by_cases k3 : k = 3
    · rw [if_pos k3, k3, bof_id (by omega) (nx i hi)]
    · rw [if_neg k3]
      by_cases k4 : (k = 4 ∨ k = 5) ∧ xR F 0 i = 1
      · rw [if_pos k4]
        have := b10 i hi (nx i hi) k4.2
        rcases k4.1 with e | e
        · rw [e, bof_id (by omega) this.1]
        · rw [e, bof_id (by omega) this.2]
      · rw [if_neg k4]
  refine ⟨b1.c16 h16 (fun k i hk hi => (se2.1 k i (Or.inl hk) hi).symm) (fun a ha => (se2.2.1 a ha).symm) rfl, se2.tix h16 b2, b3.cg (fun k v hv hk => (se2.1 k v (by omega) hv).symm) (fun v _ hv => (se2.1 8 v (by omega) hv).symm), fun a ha => ?_, fun k i h1 h2 h3 h4 => ?_⟩
  · have b9' : Ph a (eF x Fn F) ≤ Ph a S + 1 + 2 * N := b9 a ha
    rw [se2.tPh a] at b9'
    omega
  · rw [gl k i h1 h2 h3 h4, rS k i (by omega)]
/-! ===== a node mended ===== -/
theorem md_all {N A x : Nat} {S : St} (hI : Inv N A S) (hX : IX N S) (hZ : IZ N S) (hx : x < N) : Inv N A (uR S 7 x 0) ∧ IX N (uR S 7 x 0) ∧ IZ N (uR S 7 x 0) ∧ ∀ a, Ph a (uR S 7 x 0) = Ph a S := by
  obtain ⟨ja, jb, jc, jd, je, jf, jg, jh⟩ := hI
  obtain ⟨hQ, hV, hK⟩ := hX
  have r7 : ∀ v, xR (uR S 7 x 0) 7 v = if v = x then 0 else xR S 7 v := fun v => by
    rw [xR_uR]
    by_cases c : v = x
    · rw [if_pos ⟨rfl, c⟩, if_pos c]
    · rw [if_neg (fun z => c z.2), if_neg c]
  have rk : ∀ k v, k ≠ 7 → xR (uR S 7 x 0) k v = xR S k v := fun k v n => by rw [xR_uR, if_neg (fun z => n z.1)]
  have zk : ∀ {v a s}, Zok S v a s → Zok (uR S 7 x 0) v a s := fun z => z.ex (rk 2 _ (by decide)) (rk 0 _ (by decide)) (rk 3 _ (by decide))
  have op : ∀ v a, opn (uR S 7 x 0) v a = opn S v a := fun v a => opn_16 (rk 0 v (by decide)) (rk 2 v (by decide)) (rk 3 v (by decide))
  have en : ∀ v a, oe (uR S 7 x 0) 99 99 none v a = oe S 99 99 none v a := fun v a => by
    unfold oe eng
    rw [rk 8 a (by decide), rk 9 a (by decide)]; rfl
  refine ⟨⟨?_, ?_, ?_, ?_, je, ?_, ?_, ?_⟩, ⟨?_, ?_, ?_⟩, ⟨?_, ?_, ?_⟩, fun a => Ph_uR (by decide)⟩
  · intro v hv
    obtain ⟨x1, x2, x3, x4⟩ := ja v hv
    rw [rk 0 v (by decide), rk 10 v (by decide), r7]
    refine ⟨x1, x2, ?_, x4⟩
    split
    · exact Or.inl rfl
    · exact x3
  · intro v hv; rw [rk 3 v (by decide)]; exact jb v hv
  · intro v hv; rw [rk 0 v (by decide), rk 3 v (by decide), rk 4 v (by decide), rk 5 v (by decide)]; exact jc v hv
  · intro v hv; rw [rk 1 v (by decide), rk 2 v (by decide)]; exact jd v hv
  · intro a ha; rw [rk 8 a (by decide), rk 9 a (by decide), rk 10 a (by decide)]; exact jf a ha
  · intro v hv a ha; rw [en, op]; exact jg v hv a ha
  · intro v hv a ha
    obtain ⟨j1, j2, j3⟩ := jh v hv a ha
    rw [en]
    exact ⟨fun s z => zk (j1 s z), fun y q1 q2 => zk (j2 y q1 q2), fun y q1 q2 => zk (j3 y q1 q2)⟩
  · exact hQ.cg rfl (fun k b hk => rk k b (by omega))
  · exact hV.cg (fun k v hk => rk k v (by omega))
  · intro y hy q
    rw [r7] at q
    by_cases c : y = x
    · rw [if_pos c] at q; exact absurd q (by decide)
    · rw [if_neg c] at q
      obtain ⟨a1, a2, a3⟩ := hK y hy q
      exact ⟨by rw [rk 0 y (by decide)]; exact a1, fun u hu => by rw [rk 3 u (by decide)]; exact a2 u hu, a3⟩
  · intro v hv i hi hb
    rw [rk 5 v (by decide)] at hb
    rw [rk 0 v (by decide)]; exact hZ.1 v hv i hi hb
  · intro v hv q
    rw [rk 0 v (by decide)] at q
    rw [rk 3 v (by decide)]; exact hZ.2.1 v hv q
  · intro v a b
    rw [r7, if_neg (by omega), rk 8 v (by decide)]; exact hZ.2.2 v a b
theorem HV.mdN {M : Mem} {h X Y N n : Nat} {t : Int32} {Q : Nat → Int32} {S : St} {pb pt : List Row4} (p : HV M h X Y t N Q S pb pt) (s : SB M N S) (h16 : N ≤ 16) (ht : xR S 20 1 = 1 → N % 2 = 1) (ht2 : xR S 20 1 = 0 ∨ xR S 20 1 = 1) (h7 : ∀ v, v < 16 → xR S 7 v = 0 ∨ xR S 7 v = 1) (hz : ∀ v, N ≤ v → v < 16 → xR S 7 v = 0) {x : Nat} (hx : x < N) (hn : 100 ≤ n) : ∃ M', f_X2_mendNode n h (nI x) M = some M' ∧ HV M' h X Y t N (fun v => qm N (uR S 7 x 0) v) (uR S 7 x 0) pb pt ∧ FrW4 M M' h := by
  have q := p.1
  have x6 : x < 16 := by omega
  obtain ⟨p1, f1⟩ := p.st7 (x := x) (y := bof (mI M h 9) x) (z := 0) x6 (fun u hu => by
    rw [bt_off _ (by omega) hu, p.2.2.1.2.2.2.1 u hu]
    by_cases c : u = x
    · rw [if_pos c, decide_eq_true c, decide_eq_false (show ¬ (u < 16 ∧ (0 : Int32) = 1) from fun z => ne01 z.2)]; simp
    · rw [if_neg c, decide_eq_false c]; simp)
  have hh := q.2.2.2.2.2.1
  have r20 : xR (uR S 7 x 0) 20 1 = xR S 20 1 := by rw [xR_uR, if_neg (by omega)]
  have s1 : SB (sI M h 9 (bof (mI M h 9) x)) N (uR S 7 x 0) :=
    s.cg (Nat.le_refl _) (fun _ _ => rfl) (fun _ => rfl) (fun b => mI_o _ _ _ _ _ (by omega)) (fun b => mI_o _ _ _ _ _ (by omega)) r20 (fun v => by rw [xR_uR, if_neg (by omega)])
  obtain ⟨M2, e2, p2, f2⟩ := p1.renew (n := n) s1 h16 (by omega) (by rw [r20]; exact ht) (by rw [r20]; exact ht2) (fun v hv => by
    rw [xR_uR]; split
    · exact Or.inl rfl
    · exact h7 v hv) (fun v a b => by rw [xR_uR, if_neg (by omega)]; exact hz v a b) (by omega)
  refine ⟨M2, ?_, p2, f1.w4.tr f2.w4⟩
  rw [f_X2_mendNode, cs_f q, show (mI M h 9 &&& (((1 : Int32) <<< (nI x &&& 31)) ^^^ (-1 : Int32))) = bof (mI M h 9) x from rfl, bnd_e, e2, obd_s]
/-! ===== what the survey's rows tell ===== -/
def qb (x : Int64) (i : Nat) : Bool := x.toBitVec.getLsbD i
/-- is X one of the sets that the row of words tells -/
def fb (W : Nat → Int64) (X : Nat) : Bool := qb (W (X / 64)) (X % 64)
/-- X holds a base -/
def lvB (N : Nat) (S : St) (X : Nat) : Bool := (List.range' 0 N).any fun v => decide (xR S 17 v &&& (nI X ^^^ (-1 : Int32)) = 0)
/-- what there is of a quorum by the broken ones b -/
def cor (N : Nat) (S : St) (b : Int32) : Int32 := if xR S 20 1 = 1 then wh N b 0 else fub 0 N S b
/-- the rest lets a quorum be -/
def enB (N : Nat) (S : St) (X : Nat) : Bool := decide (¬ cor N S (nI (2 ^ N - 1 - X)) = 0)
def us6 (N : Nat) : Nat := if 6 < N then 2 ^ (N - 6) else 1
/-- what the survey's rows tell -/
def CT (M : Mem) (N : Nat) (S : St) : Prop := (∀ X, X < 2 ^ N → fb (mL M 7) X = lvB N S X ∧ fb (mL M 9) X = enB N S X) ∧ ∀ X, 2 ^ N ≤ X → X < 64 * us6 N → fb (mL M 7) X = false ∧ fb (mL M 9) X = false
theorem CT.cg {M M' : Mem} {N : Nat} {S S' : St} (h : CT M N S) (h7 : ∀ b, mL M' 7 b = mL M 7 b) (h9 : ∀ b, mL M' 9 b = mL M 9 b) (hR : ∀ v, xR S' 17 v = xR S 17 v) (ht : xR S' 20 1 = xR S 20 1) : CT M' N S' := by
  have e7 : ∀ X, fb (mL M' 7) X = fb (mL M 7) X := fun X => by unfold fb; rw [h7]
  have e9 : ∀ X, fb (mL M' 9) X = fb (mL M 9) X := fun X => by unfold fb; rw [h9]
  have el : ∀ X, lvB N S' X = lvB N S X := fun X => by
    unfold lvB
    congr 1
    funext v
    rw [hR]
  have ef : ∀ b, fub 0 N S' b = fub 0 N S b := fun b => by
    have e : (fun w => decide (xR S' 17 w &&& b = 0)) = fun w => decide (xR S 17 w &&& b = 0) := by
      funext w
      rw [hR]
    unfold fub
    rw [e]
    split
    · rfl
    · exact hR _
  have ee : ∀ X, enB N S' X = enB N S X := fun X => by
    unfold enB cor
    rw [ht, ef]
  exact ⟨fun X hX => ⟨by rw [e7, el]; exact (h.1 X hX).1, by rw [e9, ee]; exact (h.1 X hX).2⟩, fun X a b => ⟨by rw [e7]; exact (h.2 X a b).1, by rw [e9]; exact (h.2 X a b).2⟩⟩
/-! ===== the class's objects, all of them ===== -/
/-- the gate's own references -/
def XG (M : Mem) : Prop := isO M 9 0 ∧ mR M 0 0 = 1 ∧ mR M 0 1 = 5 ∧ mR M 0 2 = 14 ∧ mR M 0 3 = 63 ∧ mR M 0 4 = 112 ∧ mR M 0 5 = 114
/-- the clock's ways -/
def XC (M : Mem) (S : St) : Prop := isO M 0 112 ∧ mR M 112 0 = 113 ∧ isO M 100 113 ∧ mLn M 113 = 256 ∧ ∀ l, l < 256 → mI M 113 l = xR S 19 l ∧ ∃ d, 1 ≤ d ∧ d ≤ 9 ∧ xR S 19 l = nI d
/-- the survey's rows -/
def XV0 (M : Mem) (N : Nat) : Prop := (isO M 8 5 ∧ isO M 1 6 ∧ isO M 101 7 ∧ isO M 1 8 ∧ isO M 101 9 ∧ isO M 101 10 ∧ isO M 100 11 ∧ isO M 100 12 ∧ isO M 100 13) ∧ (mR M 5 0 = 6 ∧ mR M 5 1 = 8 ∧ mR M 5 2 = 10 ∧ mR M 5 3 = 11 ∧ mR M 5 4 = 12 ∧ mR M 5 5 = 13 ∧ mR M 6 0 = 7 ∧ mR M 8 0 = 9) ∧ (mLn M 7 = 1024 ∧ mLn M 9 = 1024 ∧ mLn M 10 = 17 ∧ mLn M 11 = 305 ∧ mLn M 12 = 16 ∧ mLn M 13 = 16) ∧ (mI M 5 7 = 0 ∨ (mI M 5 7 = 1 ∧ mI M 6 1 = nI N ∧ mI M 6 2 = nI (us6 N) ∧ mI M 8 1 = nI N ∧ mI M 8 2 = nI (us6 N)))
def XV (M : Mem) (N : Nat) (S : St) : Prop := XV0 M N ∧ (mI M 5 7 = 1 → CT M N S)
/-- the rooms: objects and slots, by the rows that grow -/
def GR (M : Mem) (L : Nat) : Prop := mN M * 64 ≤ 8384 + 3 * mLn M (mR M 15 5) + 3 * mLn M (mR M 64 5) + L / 16 ∧ mU M ≤ 900000 + 6 * mLn M (mR M 15 5) + 6 * mLn M (mR M 64 5) + 2 * L ∧ (∃ z, mLn M (mR M 15 5) = 64 * 2 ^ z) ∧ (∃ z, mLn M (mR M 64 5) = 64 * 2 ^ z) ∧ mLn M (mR M 15 5) ≤ 18000 ∧ mLn M (mR M 64 5) ≤ 18000
theorem GR.r14 {M : Mem} {L : Nat} (g : GR M L) (hL : L ≤ 1520000) : Rm M 14 (8384 + 3 * mLn M (mR M 64 5) + L / 16) (900000 + 6 * mLn M (mR M 64 5) + 2 * L) := by
  obtain ⟨a, b, c, d, e, f⟩ := g
  exact ⟨by show mN M * 64 ≤ _ + 3 * mLn M (mR M 15 5); omega, by show mU M ≤ _ + 6 * mLn M (mR M 15 5); omega, by omega, by omega, c⟩
theorem GR.r63 {M : Mem} {L : Nat} (g : GR M L) (hL : L ≤ 1520000) : Rm M 63 (8384 + 3 * mLn M (mR M 15 5) + L / 16) (900000 + 6 * mLn M (mR M 15 5) + 2 * L) := by
  obtain ⟨a, b, c, d, e, f⟩ := g
  exact ⟨by show mN M * 64 ≤ _ + 3 * mLn M (mR M 64 5); omega, by show mU M ≤ _ + 6 * mLn M (mR M 64 5); omega, by omega, by omega, d⟩
theorem HV.rm {M : Mem} {h X Y X' Y' N : Nat} {t : Int32} {Q : Nat → Int32} {S : St} {pb pt : List Row4} (p : HV M h X Y t N Q S pb pt) (r : Rm M h X' Y') : HV M h X' Y' t N Q S pb pt :=
  ⟨p.1, p.2.1, p.2.2.1, r, p.2.2.2.2⟩
/-- the trial and the search, between calls -/
def XS (M : Mem) (L : Nat) : Prop := ∃ e dC e5 e6 e7 len pb pt, SX M ∧ CL M dC L e ∧ CS M 63 ∧ (DS M 63 e5 e6 e7 len ∧ 64 ≤ len ∧ len ≤ 18000) ∧ (LG M 74 30 pb ∧ LG M 76 40 pt) ∧ mI M 115 0 = 0 ∧ ∀ j, 5 ≤ j → j ≤ 7 → dC ≠ mR M 15 j ∧ ∀ i, 5 ≤ i → i ≤ 7 → mR M 64 i ≠ mR M 15 j
def CW (M : Mem) (N : Nat) (Q : Nat → Int32) (S : St) : Prop := ∃ X Y L, HV M 14 X Y 0 N Q S [] [] ∧ SB M N S ∧ XG M ∧ XC M S ∧ XV M N S ∧ XS M L ∧ GR M L ∧ L ≤ 1520000
/-- shapes and references stay, but of the letters' rows and the cells -/
def Shp1 (M M' : Mem) : Prop := mN M ≤ mN M' ∧ (∀ i, i < mN M → M'.1.2.1 i = M.1.2.1 i) ∧ ∀ a b, a < mN M → ¬ ((a = 15 ∨ a = 64 ∨ a = 114) ∧ 5 ≤ b ∧ b ≤ 7) → mR M' a b = mR M a b
theorem Shp1.io {M M' : Mem} (s : Shp1 M M') {c o : Nat} (h : isO M c o) : isO M' c o := ⟨by have := s.1; have := h.1; omega, by rw [mC, s.2.1 o h.1]; exact h.2⟩
theorem Shp1.ln {M M' : Mem} (s : Shp1 M M') {o : Nat} (h : o < mN M) : mLn M' o = mLn M o := by rw [mLn, s.2.1 o h]; rfl
theorem XG.s {M M' : Mem} (h : XG M) (s : Shp1 M M') : XG M' := by
  obtain ⟨a, b, c, d, e, f, g⟩ := h
  have := a.1
  have r : ∀ k, mR M' 0 k = mR M 0 k := fun k => s.2.2 0 k (by omega) (by omega)
  exact ⟨s.io a, by rw [r]; exact b, by rw [r]; exact c, by rw [r]; exact d, by rw [r]; exact e, by rw [r]; exact f, by rw [r]; exact g⟩
theorem XC.s {M M' : Mem} {S S' : St} (h : XC M S) (s : Shp1 M M') (hi : ∀ b, mI M' 113 b = mI M 113 b) (h19 : ∀ l, l < 256 → xR S' 19 l = xR S 19 l) : XC M' S' := by
  obtain ⟨a, b, c, d, e⟩ := h
  have := a.1
  have := c.1
  exact ⟨s.io a, by rw [s.2.2 112 0 (by omega) (by omega)]; exact b, s.io c, by rw [s.ln (by omega)]; exact d, fun l hl => ⟨by rw [hi, h19 l hl]; exact (e l hl).1, by rw [h19 l hl]; exact (e l hl).2⟩⟩
theorem XV0.s {M M' : Mem} {N : Nat} (h : XV0 M N) (s : Shp1 M M') (h5 : ∀ b, mI M' 5 b = mI M 5 b) (h6 : ∀ b, mI M' 6 b = mI M 6 b) (h8 : ∀ b, mI M' 8 b = mI M 8 b) : XV0 M' N := by
  obtain ⟨⟨a1, a2, a3, a4, a5, a6, a7, a8, a9⟩, ⟨b1, b2, b3, b4, b5, b6, b7, b8⟩, ⟨c1, c2, c3, c4, c5, c6⟩, d⟩ := h
  have := a9.1
  have r : ∀ o k, o < 14 → mR M' o k = mR M o k := fun o k ho => s.2.2 o k (by omega) (by omega)
  have l : ∀ o, o < 14 → mLn M' o = mLn M o := fun o ho => s.ln (by omega)
  refine ⟨⟨s.io a1, s.io a2, s.io a3, s.io a4, s.io a5, s.io a6, s.io a7, s.io a8, s.io a9⟩, ⟨?_, ?_, ?_, ?_, ?_, ?_, ?_, ?_⟩, ⟨?_, ?_, ?_, ?_, ?_, ?_⟩, by rw [h5, h6, h6, h8, h8]; exact d⟩
  · rw [r _ _ (by decide)]; exact b1
  · rw [r _ _ (by decide)]; exact b2
  · rw [r _ _ (by decide)]; exact b3
  · rw [r _ _ (by decide)]; exact b4
  · rw [r _ _ (by decide)]; exact b5
  · rw [r _ _ (by decide)]; exact b6
  · rw [r _ _ (by decide)]; exact b7
  · rw [r _ _ (by decide)]; exact b8
  · rw [l _ (by decide)]; exact c1
  · rw [l _ (by decide)]; exact c2
  · rw [l _ (by decide)]; exact c3
  · rw [l _ (by decide)]; exact c4
  · rw [l _ (by decide)]; exact c5
  · rw [l _ (by decide)]; exact c6
theorem XV.s {M M' : Mem} {N : Nat} {S S' : St} (h : XV M N S) (s : Shp1 M M') (h5 : ∀ b, mI M' 5 b = mI M 5 b) (h6 : ∀ b, mI M' 6 b = mI M 6 b) (h8 : ∀ b, mI M' 8 b = mI M 8 b) (hl : mI M 5 7 = 1 → ∀ o, o = 7 ∨ o = 9 → ∀ b, mL M' o b = mL M o b) (hR : ∀ v, xR S' 17 v = xR S 17 v) (ht : xR S' 20 1 = xR S 20 1) : XV M' N S' :=
  ⟨h.1.s s h5 h6 h8, fun z => by
    rw [h5] at z
    exact (h.2 z).cg (hl z 7 (Or.inl rfl)) (hl z 9 (Or.inr rfl)) hR ht⟩
theorem FrW4.s1 {M M' : Mem} (f : FrW4 M M' 14) : Shp1 M M' := ⟨f.1, f.2.1, fun a b ha n => f.2.2.1 a b ha (by omega)⟩
/-- where the hall's letters lie -/
theorem HV.d57 {M : Mem} {h X Y N : Nat} {t : Int32} {Q : Nat → Int32} {S : St} {pb pt : List Row4} (p : HV M h X Y t N Q S pb pt) : ∀ i, 5 ≤ i → i ≤ 7 → (mR M (h + 1) i = h + 2 + i ∨ 131 ≤ mR M (h + 1) i) ∧ mR M (h + 1) i < mN M ∧ 64 ≤ mLn M (mR M (h + 1) 5) ∧ mLn M (mR M (h + 1) 5) ≤ 18000 := by
  obtain ⟨d5, d6, d7, len, K, fr, us, ow, w, _⟩ := p.2.1
  obtain ⟨⟨z5, z6, z7⟩, ⟨k5, k6, k7⟩, ⟨l5, _, _⟩, y5, y6, y7, _⟩ := w.1
  have u := w.2.2.2.2.2.2.2.2.2.1
  intro i a b
  refine ⟨?_, ?_, by rw [z5, l5]; exact u.2.2.2.2, by rw [z5, l5]; exact u.2.2.2.1⟩
  · rcases (show i = 5 ∨ i = 6 ∨ i = 7 by omega) with rfl | rfl | rfl
    · rw [z5]; omega
    · rw [z6]; omega
    · rw [z7]; omega
  · rcases (show i = 5 ∨ i = 6 ∨ i = 7 by omega) with rfl | rfl | rfl
    · rw [z5]; exact k5.1
    · rw [z6]; exact k6.1
    · rw [z7]; exact k7.1
/-- a step of the hall's own: the rest of the class stands -/
theorem CW.hall {M M' : Mem} {N : Nat} {Q Q' : Nat → Int32} {S S' : St} (h : CW M N Q S) (f : FrW4 M M' 14) (p' : ∀ X Y, HV M 14 X Y 0 N Q S [] [] → HV M' 14 X Y 0 N Q' S' [] []) (h20 : xR S' 20 1 = xR S 20 1) (h17 : ∀ v, xR S' 17 v = xR S 17 v) (h19 : ∀ l, l < 256 → xR S' 19 l = xR S 19 l) : CW M' N Q' S' := by
  obtain ⟨X, Y, L, p, sb, xg, xc, xv, xs, g, hL⟩ := h
  obtain ⟨e, dC, e5, e6, e7, len, pb, pt, sx, cl, q, ⟨ds, d64, d18⟩, ⟨lb, lt⟩, z0, dj⟩ := xs
  have hN := q.2.2.2.2.2.2
  have s1 := f.s1
  have d14 := p.d57
  have r15 : ∀ i, 5 ≤ i → i ≤ 7 → mR M 15 i = 14 + 2 + i ∨ 131 ≤ mR M 15 i := fun i a b => (d14 i a b).1
  have lo : ∀ o, o < 131 → o ≠ 4 → ¬ (14 ≤ o ∧ o < 63) → ∀ b, mI M' o b = mI M o b := fun o h1 h2 h3 b => f.2.2.2.1 o (by omega) h2 (by omega) (by have := r15 5 (by decide) (by decide); show o ≠ mR M 15 5; omega) (by have := r15 6 (by decide) (by decide); show o ≠ mR M 15 6; omega) (by have := r15 7 (by decide) (by decide); show o ≠ mR M 15 7; omega) b
  have p0 := p.rm (g.r14 hL)
  have q' := p' _ _ p0
  have rm' := q'.2.2.2.1
  have d14' := q'.d57
  have R64 : ∀ b, mR M' 64 b = mR M 64 b := fun b => f.2.2.1 64 b (by omega) (by omega)
  have L64 : mLn M' (mR M' 64 5) = mLn M (mR M 64 5) := by
    rw [R64]
    refine s1.ln ?_
    rw [show mR M 64 5 = e5 from ds.1.1]; exact ds.2.1.1.1
  have R114 : ∀ b, mR M' 114 b = mR M 114 b := fun b => f.2.2.1 114 b (by omega) (by omega)
  refine ⟨_, _, L, q', sb.cg f.1 (fun o ho => f.2.1 o (by omega)) (fun b => f.2.2.1 1 b (by omega) (by omega)) (fun b => lo 1 (by omega) (by omega) (by omega) b) (fun b => lo 2 (by omega) (by omega) (by omega) b) h20 h17, xg.s s1, xc.s s1 (fun b => lo 113 (by omega) (by omega) (by omega) b) h19, xv.s s1 (fun b => lo 5 (by omega) (by omega) (by omega) b) (fun b => lo 6 (by omega) (by omega) (by omega) b) (fun b => lo 8 (by omega) (by omega) (by omega) b) (fun _ o ho b => f.2.2.2.2.1 o (by omega) (by omega) b) h17 h20, ?_, ?_, hL⟩
  · obtain ⟨x1, ⟨x2, x3, x4, x5, x6⟩, ⟨x7, x8, x9, x10⟩, ⟨x11, x12, x13, x14⟩, x15⟩ := sx
    obtain ⟨c1, c2, c3, c4, c5, c6, c7, c8, c9, c10, c11⟩ := cl
    have dl := c2.1
    refine ⟨e, dC, e5, e6, e7, len, pb, pt, ⟨s1.io x1, ⟨by rw [R114]; exact x2, by rw [R114]; exact x3, by rw [R114]; exact x4, by rw [R114]; exact x5, by rw [R114]; exact x6⟩, ⟨s1.io x7, s1.io x8, s1.io x9, s1.io x10⟩, ⟨by rw [s1.ln (by omega)]; exact x11, by rw [s1.ln (by omega)]; exact x12, by rw [s1.ln (by omega)]; exact x13, by rw [s1.ln (by omega)]; exact x14⟩, by have := f.1; omega⟩, ⟨by rw [R114]; exact c1, s1.io c2, by rw [s1.ln dl]; exact c3, c4, by rw [lo 114 (by omega) (by omega) (by omega)]; exact c5, c6, c7, c8, by rw [R64]; exact c9, by rw [R64]; exact c10, by rw [R64]; exact c11⟩, ?_, ⟨⟨⟨by rw [R64]; exact ds.1.1, by rw [R64]; exact ds.1.2.1, by rw [R64]; exact ds.1.2.2⟩, ⟨s1.io ds.2.1.1, s1.io ds.2.1.2.1, s1.io ds.2.1.2.2⟩, ⟨by rw [s1.ln ds.2.1.1.1]; exact ds.2.2.1.1, by rw [s1.ln ds.2.1.2.1.1]; exact ds.2.2.1.2.1, by rw [s1.ln ds.2.1.2.2.1]; exact ds.2.2.1.2.2⟩, ds.2.2.2⟩, d64, d18⟩, ⟨lb.cg (fun b => lo 74 (by omega) (by omega) (by omega) b) (fun b => lo 75 (by omega) (by omega) (by omega) b), lt.cg (fun b => lo 76 (by omega) (by omega) (by omega) b) (fun b => lo 77 (by omega) (by omega) (by omega) b)⟩, by rw [lo 115 (by omega) (by omega) (by omega)]; exact z0, fun j a b => ?_⟩
    · obtain ⟨k1, k2, k3, k4, k5, k6, k7⟩ := q
      refine ⟨fun i hi hn => by rw [f.2.1 _ (by omega)]; exact k1 i hi hn, fun z hz => ?_, by rw [f.2.2.1 63 0 (by omega) (by omega)]; exact k3, s1.io k4, k5, k6, by have := f.1; omega⟩
      have hb : z.1 < 49 := by
        have : ∀ z, z ∈ tH → z.1 < 49 := by decide
        exact this z hz
      rw [f.2.2.1 _ _ (by omega) (by omega)]; exact k2 z hz
    · have dd := dj j a b
      have e15 : mR M' 15 j = mR M 15 j ∨ mN M ≤ mR M' 15 j := f.2.2.2.2.2 j a b
      refine ⟨?_, fun i c d => ?_⟩
      · rcases e15 with z | z
        · rw [z]; exact dd.1
        · omega
      · rw [R64]
        rcases e15 with z | z
        · rw [z]; exact dd.2 i c d
        · have : mR M 64 i < mN M := by
            rcases (show i = 5 ∨ i = 6 ∨ i = 7 by omega) with rfl | rfl | rfl
            · rw [show mR M 64 5 = e5 from ds.1.1]; exact ds.2.1.1.1
            · rw [show mR M 64 6 = e6 from ds.1.2.1]; exact ds.2.1.2.1.1
            · rw [show mR M 64 7 = e7 from ds.1.2.2]; exact ds.2.1.2.2.1
          omega
  · obtain ⟨ga, gb, gc, gd, ge, gf⟩ := g
    have r1 := rm'.1
    have r2 := rm'.2.1
    refine ⟨?_, ?_, rm'.2.2.2.2, by rw [L64]; exact gd, (d14' 5 (by decide) (by decide)).2.2.2, by rw [L64]; exact gf⟩
    · rw [L64]
      have : mN M' * 64 ≤ 8384 + 3 * mLn M (mR M 64 5) + L / 16 + 3 * mLn M' (mR M' 15 5) := r1
      omega
    · rw [L64]
      have : mU M' ≤ 900000 + 6 * mLn M (mR M 64 5) + 2 * L + 6 * mLn M' (mR M' 15 5) := r2
      omega
/-! ===== the class while the reference steps, the reference while the class steps ===== -/
theorem HV.ref {M M' : Mem} {h X Y N : Nat} {t : Int32} {Q : Nat → Int32} {S : St} {pb pt : List Row4} (p : HV M h X Y t N Q S pb pt) (e : M'.1 = M.1) (hI : ∀ o, ¬ (120 ≤ o ∧ o ≤ 130) → ∀ b, mI M' o b = mI M o b) (hh : h + 49 ≤ 120) : HV M' h X Y t N Q S pb pt := by
  obtain ⟨q, pv, hp, rm, ⟨lb, lt⟩, hN, hQ⟩ := p
  have hq := q.2.2.2.2
  have lo : ∀ o, o < h + 49 → ∀ b, mI M' o b = mI M o b := fun o a b => hI o (by omega) b
  refine ⟨q.e e, ?_, hp.cg (fun o ho b => lo o (by omega) b) (fun _ _ _ => rfl) rfl, ?_, ⟨lb.cg (fun b => lo _ (by omega) b) (fun b => lo _ (by omega) b), lt.cg (fun b => lo _ (by omega) b) (fun b => lo _ (by omega) b)⟩, by rw [lo 1 (by omega)]; exact hN, fun v hv => by rw [lo _ (by omega)]; exact hQ v hv⟩
  · obtain ⟨d5, d6, d7, len, K, fr, us, ow, w, hK⟩ := pv
    obtain ⟨_, _, _, y5, y6, y7, _⟩ := id w.1
    exact ⟨d5, d6, d7, len, K, fr, us, ow, w.cg (w.1.e e) (Nat.le_refl _) w.2.2.2.2.2.2.2.2.2.1.2.2.2.1 (fun i a c b => lo _ (by omega) b) (fun b _ => hI _ (by omega) b) (fun b _ => hI _ (by omega) b) (fun b _ => hI _ (by omega) b), hK⟩
  · unfold Rm mN mU mLn mR at rm ⊢
    rw [e]; exact rm
theorem CW.ref {M M' : Mem} {N : Nat} {Q : Nat → Int32} {S : St} (h : CW M N Q S) (e : M'.1 = M.1) (hI : ∀ o, ¬ (120 ≤ o ∧ o ≤ 130) → ∀ b, mI M' o b = mI M o b) (hlg : mI M 5 7 = 1 → ∀ o, o = 7 ∨ o = 9 → ∀ b, mL M' o b = mL M o b) : CW M' N Q S := by
  obtain ⟨X, Y, L, p, sb, xg, xc, xv, xs, g, hL⟩ := h
  obtain ⟨e', dC, e5, e6, e7, len, pb, pt, sx, cl, q, ⟨ds, d64, d18⟩, ⟨lb, lt⟩, z0, dj⟩ := xs
  have s1 : Shp1 M M' := ⟨by unfold mN; rw [e]; exact Nat.le_refl _, fun i _ => by rw [e], fun a b _ _ => by unfold mR; rw [e]⟩
  have hR : ∀ a b, mR M' a b = mR M a b := fun a b => by unfold mR; rw [e]
  have hl : ∀ o, mLn M' o = mLn M o := fun o => by unfold mLn; rw [e]
  have lo : ∀ o, o < 120 → ∀ b, mI M' o b = mI M o b := fun o a b => hI o (by omega) b
  refine ⟨X, Y, L, p.ref e hI (by decide), sb.e e (lo 1 (by omega)) (lo 2 (by omega)), xg.s s1, xc.s s1 (lo 113 (by omega)) (fun _ _ => rfl), xv.s s1 (lo 5 (by omega)) (lo 6 (by omega)) (lo 8 (by omega)) hlg (fun _ => rfl) rfl, ?_, ?_, hL⟩
  · refine ⟨e', dC, e5, e6, e7, len, pb, pt, sx.e e, ?_, q.e e, ⟨ds.e e, d64, d18⟩, ⟨lb.cg (lo 74 (by omega)) (lo 75 (by omega)), lt.cg (lo 76 (by omega)) (lo 77 (by omega))⟩, by rw [lo 115 (by omega)]; exact z0, fun j a b => by rw [hR]; refine ⟨(dj j a b).1, fun i c d => by rw [hR]; exact (dj j a b).2 i c d⟩⟩
    exact cl.e e (lo 114 (by omega) 6)
  · obtain ⟨ga, gb, gc, gd, ge, gf⟩ := g
    have n : mN M' = mN M := by unfold mN; rw [e]
    have u : mU M' = mU M := by unfold mU; rw [e]
    refine ⟨?_, ?_, ?_, ?_, ?_, ?_⟩
    · rw [hR, hR, hl, hl, n]; exact ga
    · rw [hR, hR, hl, hl, u]; exact gb
    · rw [hR, hl]; exact gc
    · rw [hR, hl]; exact gd
    · rw [hR, hl]; exact ge
    · rw [hR, hl]; exact gf
theorem RV.w4 {M M' : Mem} {X Y N : Nat} {Q : Nat → Int32} {S S0 : St} {tw : Bool} {t : Int32} {pb pt : List Row4} (r : RV M tw t S pb pt) (p : HV M 14 X Y 0 N Q S0 [] []) (f : FrW4 M M' 14) : RV M' tw t S pb pt ∧ (∀ b, mI M' 120 b = mI M 120 b) ∧ isO M' 10 120 := by
  have d := p.d57
  have hN := p.1.2.2.2.2.2.2
  have c5 := (d 5 (by decide) (by decide)).1
  have c6 := (d 6 (by decide) (by decide)).1
  have c7 := (d 7 (by decide) (by decide)).1
  have lo : ∀ o, 120 ≤ o → o < 131 → ∀ b, mI M' o b = mI M o b := fun o h1 h2 b => f.2.2.2.1 o (by omega) (by omega) (by omega) (by omega) (by omega) (by omega) b
  refine ⟨r.mr f.1 (fun o h1 h2 => ⟨f.2.1 o (by omega), fun b => f.2.2.1 o b (by omega) (by omega), lo o h1 h2⟩), lo 120 (by omega) (by omega), ?_⟩
  have := r.1.io (i := 120) (c := 10) (by decide) (by decide) (by decide)
  exact ⟨by have h1 := f.1; have h2 := this.1; omega, by rw [mC, f.2.1 120 this.1]; exact this.2⟩
/-! ===== how many letters between the calls ===== -/
theorem sum_0 {a : Nat} : ∀ l : List (Nat × Ltr), (∀ q, q ∈ l → lwa a q = 0) → (l.map (lwa a)).sum = 0 := by
  intro l
  induction l with
  | nil => intro _; rfl
  | cons q l ih =>
    intro h
    rw [List.map_cons, List.sum_cons, h q (by simp), ih (fun y hy => h y (by simp [hy]))]
theorem Ph_0 {N A a : Nat} {S : St} (hI : Inv N A S) (hX : IX N S) (hZ : IZ N S) (h16 : N ≤ 16) (ha : a < 16) (h : N ≤ a ∨ xR S 7 a = 1) : Ph a S = 0 := by
  obtain ⟨_, _, hK⟩ := hX
  have nu : ∀ v, v < 16 → bt (xR S 3 v) a = false := fun v hv => by
    by_cases c : N ≤ a
    · exact hI.2.1 v hv a c (by omega)
    · by_cases d : v < N
      · exact (hK a (by omega) (h.resolve_left c)).2.1 v d
      · rw [hZ.2.1 v hv ((hI.1 v hv).2.1 (by omega)), b_0]
  have hB : phB a S = 0 := by
    unfold phB
    have : smN (phv S a) 16 = smN (fun _ => 0) 16 := smN_c 16 (fun v hv => by
      unfold phv
      have n5 : ¬ bt (xR S 5 v) a = true := fun z => by
        have := (hI.2.2.1 v hv (hZ.1 v hv a (by omega) z) a (by omega)).2 z
        rw [nu v hv] at this; cases this
      rw [nu v hv, if_neg (fun z => by cases z.2), if_neg n5])
    rw [this, smN_k]
  have hL : phL a S = 0 := by
    unfold phL
    apply sum_0
    intro q hq
    obtain ⟨q1, q2⟩ := fl_mem hq
    have ne : xL S q.1 ≠ [] := fun z => by rw [z] at q2; cases q2
    have qN : q.1 / 16 < N ∧ q.1 % 16 < N := by
      apply Decidable.byContradiction
      intro c
      exact ne ((hI.2.2.2.2.1 q.1 q1).2 c)
    have hl := hK.lane hI qN.1 qN.2 h16 (by rw [show 16 * (q.1 / 16) + q.1 % 16 = q.1 by omega]; exact ne)
    have un : ∀ x, Ub S x → x < N → x ≠ a := fun x u xN e => by
      subst e
      rcases h with h | h
      · omega
      · exact u h
    unfold lwa larb
    split
    · rw [if_neg (un _ hl.2 qN.2)]
    · rw [if_neg (un _ hl.1 qN.1)]
  unfold Ph
  omega
def nbr (N : Nat) (S : St) : Nat := smN (fun a => if xR S 7 a = 1 then 1 else 0) N
theorem smN_nu {N : Nat} {S : St} (C : Nat) (h16 : N ≤ 16) : smN (fun a => if a < N ∧ ¬ xR S 7 a = 1 then C else 0) 16 + C * nbr N S = C * N := by
  have h1 : ∀ n, n ≤ N → smN (fun a => if a < N ∧ ¬ xR S 7 a = 1 then C else 0) n + C * smN (fun a => if xR S 7 a = 1 then 1 else 0) n = C * n := by
    intro n
    induction n with
    | zero => intro _; rfl
    | succ n ih =>
      intro hn
      have := ih (by omega)
      show smN _ n + (if n < N ∧ ¬ xR S 7 n = 1 then C else 0) + C * (smN _ n + (if xR S 7 n = 1 then 1 else 0)) = C * (n + 1)
      by_cases c : xR S 7 n = 1
      · rw [if_neg (fun z => z.2 c), if_pos c, Nat.mul_succ, Nat.mul_succ]; omega
      · rw [if_pos ⟨by omega, c⟩, if_neg c, Nat.add_zero, Nat.mul_succ]; omega
  have h2 : ∀ d, N + d ≤ 16 → smN (fun a => if a < N ∧ ¬ xR S 7 a = 1 then C else 0) (N + d) = smN (fun a => if a < N ∧ ¬ xR S 7 a = 1 then C else 0) N := by
    intro d
    induction d with
    | zero => intro _; rfl
    | succ d ih =>
      intro hd
      show smN _ (N + d) + (if N + d < N ∧ ¬ xR S 7 (N + d) = 1 then C else 0) = _
      rw [ih (by omega), if_neg (by omega), Nat.add_zero]
  have := h2 (16 - N) (by omega)
  rw [show N + (16 - N) = 16 by omega] at this
  rw [this]
  exact h1 N (Nat.le_refl _)
theorem nbr_le (N : Nat) (S : St) : nbr N S ≤ N := by
  unfold nbr
  have := smN_le (f := fun a => if xR S 7 a = 1 then 1 else 0) (g := fun _ => 1) N (fun i _ => by split <;> omega)
  rw [smN_k] at this
  omega
theorem num_b : ∀ N, N < 17 → ∀ b, b < 17 → b ≤ N → (511 + 2 * N * b) * N ≤ (511 + 2 * N * b) * b + 8176 := by decide +kernel
/-- letters, and what they may become, between the calls -/
def PB (N i : Nat) (S : St) : Prop := ∀ a, a < N → Ph a S ≤ i + 2 * N * nbr N S
theorem PhS_b {N A i : Nat} {S : St} (hI : Inv N A S) (hX : IX N S) (hZ : IZ N S) (h16 : N ≤ 16) (hi : i ≤ 511) (hP : PB N i S) : PhS S ≤ 8176 := by
  have h1 : PhS S ≤ smN (fun a => if a < N ∧ ¬ xR S 7 a = 1 then 511 + 2 * N * nbr N S else 0) 16 := by
    unfold PhS
    refine smN_le 16 (fun a ha => ?_)
    by_cases c : a < N ∧ ¬ xR S 7 a = 1
    · rw [if_pos c]
      have := hP a c.1
      omega
    · rw [if_neg c, Ph_0 hI hX hZ h16 ha (by
        by_cases d : a < N
        · right
          apply Decidable.byContradiction
          intro e
          exact c ⟨d, e⟩
        · left; omega)]
      exact Nat.le_refl _
  have h2 := smN_nu (S := S) (511 + 2 * N * nbr N S) h16
  have h3 := num_b N (by omega) (nbr N S) (by have := nbr_le N S; omega) (nbr_le N S)
  omega
/-! ===== between the calls ===== -/
/-- of a tree's sets: each holds the first node, and with a node that isn't a leaf one below it -/
def TT (N : Nat) (B : Nat → Int32) : Prop := (N = 3 ∨ N = 7 ∨ N = 15) ∧ ∀ v, v < N → bt (B v) 0 = true ∧ ∀ u, 2 * u + 2 < N → bt (B v) u = true → bt (B v) (2 * u + 1) = true ∨ bt (B v) (2 * u + 2) = true
def TBs (N : Nat) (B : Nat → Int32) (tr : Int32) : Prop := (∀ v, v < N → ¬ B v = 0) ∧ (tr = 1 → TT N B)
/-- what holds of the sets -/
def TB (N : Nat) (S : St) : Prop := TBs N (fun v => xR S 17 v) (xR S 20 1)
theorem TBs.cg {N : Nat} {B B' : Nat → Int32} {tr : Int32} (h : TBs N B tr) (e : ∀ v, v < N → B' v = B v) : TBs N B' tr :=
  ⟨fun v hv => by rw [e v hv]; exact h.1 v hv, fun z => ⟨(h.2 z).1, fun v hv => by rw [e v hv]; exact (h.2 z).2 v hv⟩⟩
theorem TB.cg {N : Nat} {S S' : St} (h : TB N S) (hR : ∀ k j, k = 17 ∨ k = 20 → xR S' k j = xR S k j) : TB N S' := by
  unfold TB
  rw [hR 20 1 (by omega)]
  exact TBs.cg h (fun v _ => hR 17 v (by omega))
/-- the model between the calls -/
def SW (N A i : Nat) (S : St) : Prop := (2 ≤ N ∧ N ≤ 16) ∧ xR S 20 0 = nI N ∧ (xR S 20 1 = 0 ∨ xR S 20 1 = 1) ∧ (xR S 20 1 = 1 → N % 2 = 1) ∧ BI N S ∧ Inv N A S ∧ IX N S ∧ IZ N S ∧ A ≤ 20 * i ∧ PB N i S ∧ TB N S
/-- class and reference between the calls, i calls done -/
def WJ (M : Mem) (N A i : Nat) (Q : Nat → Int32) (S : St) : Prop := CW M N Q S ∧ RV M false 0 S [] [] ∧ mI M 120 7 = 0 ∧ SW N A i S ∧ ∀ v, v < N → qm N S v = Q v
def WI (i : Nat) (M : Mem) : Prop := ∃ N A Q S, WJ M N A i Q S
section
variable {N A i : Nat} {S : St}
theorem SW.n2 (h : SW N A i S) : 2 ≤ N := h.1.1
theorem SW.n16 (h : SW N A i S) : N ≤ 16 := h.1.2
theorem SW.n (h : SW N A i S) : xR S 20 0 = nI N := h.2.1
theorem SW.t2 (h : SW N A i S) : xR S 20 1 = 0 ∨ xR S 20 1 = 1 := h.2.2.1
theorem SW.t (h : SW N A i S) : xR S 20 1 = 1 → N % 2 = 1 := h.2.2.2.1
theorem SW.bi (h : SW N A i S) : BI N S := h.2.2.2.2.1
theorem SW.inv (h : SW N A i S) : Inv N A S := h.2.2.2.2.2.1
theorem SW.ix (h : SW N A i S) : IX N S := h.2.2.2.2.2.2.1
theorem SW.iz (h : SW N A i S) : IZ N S := h.2.2.2.2.2.2.2.1
theorem SW.a (h : SW N A i S) : A ≤ 20 * i := h.2.2.2.2.2.2.2.2.1
theorem SW.pb (h : SW N A i S) : PB N i S := h.2.2.2.2.2.2.2.2.2.1
theorem SW.tb (h : SW N A i S) : TB N S := h.2.2.2.2.2.2.2.2.2.2
theorem SW.ps (h : SW N A i S) (hi : i ≤ 511) : PhS S ≤ 8176 := PhS_b h.inv h.ix h.iz h.n16 hi h.pb
theorem SW.tfl (h : SW N A i S) (hi : i ≤ 511) : (fl S).length ≤ 8176 := Nat.le_trans (fl_PhS S) (h.ps hi)
theorem SW.h7 (h : SW N A i S) : ∀ v, v < 16 → xR S 7 v = 0 ∨ xR S 7 v = 1 := fun v hv => (h.inv.1 v hv).2.2.1
theorem SW.hq (h : SW N A i S) : ∀ v, v < N → ∀ j, N ≤ j → j < 32 → bt (qm N S v) j = false := qm_hi h.bi h.n16 h.t
theorem SW.qu (h : SW N A i S) : QU N S := fun _ hv => qm_ub h.bi h.n16 h.t h.h7 hv
theorem SW.wt (h : SW N A i S) : ∀ v, v < 16 → ∀ w, w ∈ xW S v → w.1 < 16 := fun v hv w hw => by
  have := ((h.inv.2.2.2.2.2.1 v hv).1.2.2 w hw).1
  have := h.n16
  omega
theorem SW.mo (h : SW N A i S) : SW N A (i + 1) S := by
  obtain ⟨a, b, c, d, e, f, g, k, l, m, tb⟩ := h
  exact ⟨a, b, c, d, e, f, g, k, by omega, fun a ha => by have := m a ha; omega, tb⟩
end
theorem WJ.mo {M : Mem} {N A i : Nat} {Q : Nat → Int32} {S : St} (h : WJ M N A i Q S) : WI (i + 1) M := ⟨N, A, Q, S, h.1, h.2.1, h.2.2.1, h.2.2.2.1.mo, h.2.2.2.2⟩
/-- the class has stepped, in the hall -/
theorem WJ.cls {M M1 : Mem} {N A i : Nat} {Q Q' : Nat → Int32} {S S' : St} (h : WJ M N A i Q S) (f : FrW4 M M1 14) (p' : ∀ X Y, HV M 14 X Y 0 N Q S [] [] → HV M1 14 X Y 0 N Q' S' [] []) (hR : ∀ k j, k = 17 ∨ k = 19 ∨ k = 20 → xR S' k j = xR S k j) : CW M1 N Q' S' ∧ RV M1 false 0 S [] [] ∧ (∀ b, mI M1 120 b = mI M 120 b) ∧ isO M1 10 120 := by
  obtain ⟨X, Y, L, p, _⟩ := id h.1
  obtain ⟨r1, r2, r3⟩ := h.2.1.w4 p f
  exact ⟨h.1.hall f p' (hR 20 1 (by omega)) (fun v => hR 17 v (by omega)) (fun l _ => hR 19 l (by omega)), r1, r2, r3⟩
/-- what the two of them answer, and how they then stand -/
def Okk (i : Nat) (x : Option (Int32 × Mem)) (y : Mem → Option (Int32 × Mem)) : Prop := ∃ r M1 M2, x = some (r, M1) ∧ isO M1 10 120 ∧ y M1 = some (r, M2) ∧ WI (i + 1) M2
theorem Okk.same {M : Mem} {N A i : Nat} {Q : Nat → Int32} {S : St} {x : Option (Int32 × Mem)} {y : Mem → Option (Int32 × Mem)} (h : WJ M N A i Q S) {r : Int32} (hx : x = some (r, M)) (hy : y M = some (r, M)) : Okk i x y :=
  ⟨r, M, M, hx, h.2.1.1.io (by decide) (by decide) (by decide), hy, h.mo⟩
theorem WJ.g {M : Mem} {N A i : Nat} {Q : Nat → Int32} {S : St} (h : WJ M N A i Q S) {α : Type} (x : Option α) : chk (isO M 9 0) x = x ∧ mR M 0 0 = 1 ∧ mR M 0 2 = 14 ∧ mR M 0 3 = 63 ∧ chk (isO M 7 1) x = x ∧ chk (isO M 2 14) x = x := by
  obtain ⟨X, Y, L, p, sb, xg, _⟩ := id h.1
  exact ⟨chk_t xg.1, xg.2.1, xg.2.2.2.1, xg.2.2.2.2.1, sb.f x, cs_f p.1 x⟩
theorem ndc {M : Mem} {N : Nat} {S : St} (sb : SB M N S) {k : Nat} (hk : k < N) (h16 : N ≤ 16) : f_X7_isNode 1 (nI k) M = some 1 := by
  rw [f_X7_isNode, if_neg (show ¬ nI k < (0 : Int32) from nI_nlt (b := 0) (Nat.zero_le _) (by omega)), sb.f, sb.n, if_neg (nI_ge (by omega) (by omega))]
theorem ndc0 {M : Mem} {N : Nat} {S : St} (sb : SB M N S) {a : Int32} (ha : Out N a) : f_X7_isNode 1 a M = some 0 := by
  rw [f_X7_isNode]
  rcases ha with h | h
  · rw [if_pos h]
  · by_cases c : a < 0
    · rw [if_pos c]
    · rw [if_neg c, sb.f, sb.n, if_pos h]
theorem ndr {M : Mem} {N : Nat} {S : St} {tw : Bool} {t : Int32} {pb pt : List Row4} (r : RV M tw t S pb pt) (hN : xR S 20 0 = nI N) {k : Nat} (hk : k < N) (h16 : N ≤ 16) : f_X10_isNode 120 (nI k) M = some 1 := by
  obtain ⟨m, rfl⟩ : ∃ m, N = m + 1 := ⟨N - 1, by omega⟩
  rw [f_X10_isNode, rs_f r.1, rs_0 r.1, bnd_e, rs_fa r.1, rs_c0 r.1, cl0, r.N hN, nI_pred, f_isI M (show k ≤ m by omega) (by omega), obd_s, chk_t (Or.inr rfl)]
theorem ndr0 {M : Mem} {N : Nat} {S : St} {tw : Bool} {t : Int32} {pb pt : List Row4} (r : RV M tw t S pb pt) (hN : xR S 20 0 = nI N) (h0 : 0 < N) (h16 : N ≤ 16) {a : Int32} (ha : Out N a) : f_X10_isNode 120 a M = some 0 := by
  obtain ⟨m, rfl⟩ : ∃ m, N = m + 1 := ⟨N - 1, by omega⟩
  rw [f_X10_isNode, rs_f r.1, rs_0 r.1, bnd_e, rs_fa r.1, rs_c0 r.1, cl0, r.N hN, nI_pred, out_is ha (lt_of (by
    have := nI_lt (a := m) (b := m + 1) (by omega) (by omega)
    rwa [Int32.lt_iff_toInt_lt] at this)), obd_s, chk_t (Or.inl rfl)]
/-- ask -/
theorem op21 {M : Mem} {i n : Nat} (h : WI i M) (hi : i ≤ 511) (a : Int32) (hn : 100000 ≤ n) : Okk i (f_X9_ask n 0 a M) (fun M1 => f_X10_ask n 120 a M1) := by
  obtain ⟨N, A, Q, S, w⟩ := h
  obtain ⟨X, Y, L, p, sb, xg, xr⟩ := id w.1
  obtain ⟨_, r, z7, sw, hQ⟩ := id w
  have h16 := sw.n16
  have h2 := sw.n2
  have fl0 := sw.tfl hi
  have q := p.1
  rcases out_in (N := N) (by omega) a with ha | ⟨k, hk, rfl⟩
  · refine Okk.same w (r := -1) ?_ ?_
    · rw [f_X9_ask, chk_t xg.1, xg.2.1, bnd_e, sb.f, ndc0 sb ha, obd_s, if_pos rfl]
    · show f_X10_ask n 120 a M = _
      rw [f_X10_ask, rs_f r.1, ndr0 r sw.n (by omega) h16 ha, obd_s, if_pos rfl]
  · have may := p.may sw.inv.1 h16 hk (hQ k hk)
    by_cases c : mayA N k S = true
    · obtain ⟨M1, e1, p1, f1⟩ := p.tak (n := n) h16 hk (by
        unfold mayA at c
        rw [of_decide_eq_true (Bool.and_eq_true _ _ |>.mp c).1]; decide) (hQ k hk) (by omega) (by omega)
      have pp : ∀ X Y, HV M 14 X Y 0 N Q S [] [] → HV M1 14 X Y 0 N Q (ak 0 N k S) [] [] := fun X Y p' => by
        obtain ⟨M1', e1', p1', _⟩ := p'.tak (n := n) h16 hk (by
          unfold mayA at c
          rw [of_decide_eq_true (Bool.and_eq_true _ _ |>.mp c).1]; decide) (hQ k hk) (by omega) (by omega)
        rw [e1] at e1'
        cases e1'
        exact p1'
      obtain ⟨cw, r1, s120, io⟩ := w.cls f1.w4 pp (fun kk j hk => ak_Rk (by omega))
      obtain ⟨M2, e2, r2, f2⟩ := r1.can (n := n) sw.n h16 sw.t (v := k) (by omega) (by omega)
      obtain ⟨M3, e3, r3, f3⟩ := r2.tak (n := n) sw.n h16 sw.t (v := k) (by omega) (by omega) (by omega)
      have F : Fr PA M1 M3 := Fr.tr (f2.mo P2_A) f3
      have s2 : xR (ak 0 N k S) 2 k = xR S 1 k + 1 := by rw [ak_R (by decide), if_pos rfl]; rfl
      have cm := c
      unfold mayA at c
      have c0 : xR S 0 k = 0 := of_decide_eq_true (Bool.and_eq_true _ _ |>.mp c).1
      have c7 : xR S 7 k = 0 := of_decide_eq_true (Bool.and_eq_true _ _ |>.mp (Bool.and_eq_true _ _ |>.mp c).2).1
      have iv := sw.inv.tak h16 hk c0 (by have := sw.a; omega) (fun j a b => sw.hq k hk j a b) 0
      obtain ⟨x1, x2⟩ := ak_X h16 sw.ix hk (fun z => by rw [c7] at z; exact absurd z (by decide)) (sw.qu k hk) 0
      refine ⟨xR S 1 k + 1, M1, M3, ?_, io, ?_, N, A + 1, Q, ak 0 N k S, ?_, r3, ?_, ⟨sw.1, by rw [ak_Rk (by omega)]; exact sw.n, by rw [ak_Rk (by omega)]; exact sw.t2, by rw [ak_Rk (by omega)]; exact sw.t, ?_, iv, x1, sw.iz.tak 0, by have := sw.a; omega, fun b hb => ?_, sw.tb.cg (fun kk j hk => ak_Rk (by omega))⟩, fun v hv => by rw [(Qk.ak 0 N k S).m]; exact hQ v hv⟩
      · have d1 := p1.1
        have k6 : k < 16 := by omega
        have xg1 := xg.s f1.w4.s1
        rw [f_X9_ask, chk_t xg.1, xg.2.1, bnd_e, sb.f, ndc sb hk h16, obd_s, if_neg ne10, xg.2.2.2.1, bnd_e, cs_f q, may, obd_s, if_pos cm, if_neg ne10, bnd_e, cs_f q, e1, obd_s, chk_t xg1.1, xg1.2.2.2.1, bnd_e, cs_f d1, cs_h2 d1, bnd_e, cs_a10 d1, cs_i10 d1 k6, cs_rpc d1 k6, bnd_e, cs_po d1 k6, p1.fs k6 (a := 1) (k := 2) (by decide), s2]
      · show f_X10_ask n 120 (nI k) M1 = _
        rw [f_X10_ask, rs_f r1.1, ndr r1 sw.n hk h16, obd_s, if_neg ne10, e2, obd2_s, if_pos (show mayA N k S = true from c), if_neg ne10, rs_f r2.1, e3, obd_s, rs_f r3.1, r3.get2 (by omega), obd_s, s2]
      · exact cw.ref F.1 (fun o ho b => F.2.1 o (fun z => ho ⟨by have := z.1; omega, by have := z.2; omega⟩) b) (fun _ o _ b => F.2.2 o b)
      · rw [F.2.1 120 (fun z => by have := z.1; omega), s120]; exact z7
      · intro v hv j a b
        rw [ak_Rk (by omega)]; exact sw.bi v hv j a b
      · have nb : nbr N (ak 0 N k S) = nbr N S := smN_c N (fun v _ => by rw [ak_Rk (by omega)])
        rw [nb]
        have := x2 b (by omega)
        have := sw.pb b hb
        have : (if b < N ∧ bt (qm N S k) b = true then 1 else 0 : Nat) ≤ 1 := by split <;> omega
        omega
    · obtain ⟨M2, e2, r2, f2⟩ := r.can (n := n) sw.n h16 sw.t (v := k) (by omega) (by omega)
      refine ⟨-1, M, M2, ?_, r.1.io (by decide) (by decide) (by decide), ?_, N, A, Q, S, ?_, r2, ?_, sw.mo, hQ⟩
      · rw [f_X9_ask, chk_t xg.1, xg.2.1, bnd_e, sb.f, ndc sb hk h16, obd_s, if_neg ne10, xg.2.2.2.1, bnd_e, cs_f q, may, obd_s, if_neg c, if_pos rfl]
      · show f_X10_ask n 120 (nI k) M = _
        rw [f_X10_ask, rs_f r.1, ndr r sw.n hk h16, obd_s, if_neg ne10, e2, obd2_s, if_neg c, if_pos rfl]
      · exact w.1.ref f2.1 (fun o ho b => f2.2.1 o (fun z => ho (by unfold P2 at z; omega)) b) (fun _ o _ b => f2.2.2 o b)
      · rw [f2.2.1 120 (by unfold P2; decide)]; exact z7
/-! ===== leave, withdraw, bring, goOn ===== -/
theorem SW.st {N A A' i : Nat} {S S' : St} (h : SW N A i S) (hR : ∀ k j, k = 17 ∨ k = 20 → xR S' k j = xR S k j) (iv : Inv N A' S') (ix : IX N S') (iz : IZ N S') (ha : A' ≤ 20 * (i + 1)) (pb : PB N (i + 1) S') : SW N A' (i + 1) S' :=
  ⟨h.1, by rw [hR 20 0 (by omega)]; exact h.n, by rw [hR 20 1 (by omega)]; exact h.t2, by rw [hR 20 1 (by omega)]; exact h.t, fun v hv j a b => by rw [hR 17 v (by omega)]; exact h.bi v hv j a b, iv, ix, iz, ha, pb, h.tb.cg hR⟩
theorem PB.st {N i : Nat} {S S' : St} (h : PB N i S) (h16 : N ≤ 16) (h7 : ∀ v, xR S' 7 v = xR S 7 v) (hp : ∀ a, a < 16 → Ph a S' ≤ Ph a S + 1) : PB N (i + 1) S' := fun a ha => by
  have nb : nbr N S' = nbr N S := smN_c N (fun v _ => by rw [h7])
  rw [nb]
  have := hp a (by omega)
  have := h a ha
  omega
theorem WJ.fin {M1 M2 : Mem} {N A' i : Nat} {Q' : Nat → Int32} {S' : St} (cw : CW M1 N Q' S') (r : RV M2 false 0 S' [] []) (e : M2.1 = M1.1) (hI : ∀ o, ¬ (120 ≤ o ∧ o ≤ 130) → ∀ b, mI M2 o b = mI M1 o b) (hl : ∀ o, o = 7 ∨ o = 9 → ∀ b, mL M2 o b = mL M1 o b) (z7 : mI M2 120 7 = 0) (sw : SW N A' (i + 1) S') (hQ : ∀ v, v < N → qm N S' v = Q' v) : WI (i + 1) M2 :=
  ⟨N, A', Q', S', cw.ref e hI (fun _ => hl), r, z7, sw, hQ⟩
theorem PA_n {o : Nat} (h : ¬ (120 ≤ o ∧ o ≤ 130)) : ¬ PA o := fun z => h ⟨by have := z.1; omega, by have := z.2; omega⟩
theorem PA_120 : ¬ PA 120 := fun z => by have := z.1; omega
theorem has_st {M : Mem} {h X Y N : Nat} {t : Int32} {Q : Nat → Int32} {S : St} {pb pt : List Row4} (p : HV M h X Y t N Q S pb pt) {k : Nat} (hk : k < 16) : f_X9_has (mI M h 7) (nI k) M = some (if xR S 0 k = 2 then 1 else 0) ∧ f_X9_has (mI M h 8) (nI k) M = some (if xR S 0 k = 1 then 1 else 0) ∧ f_X9_has (mI M h 9) (nI k) M = some (if xR S 7 k = 1 then 1 else 0) := by
  obtain ⟨_, g7, g8, g9, _⟩ := p.2.2.1
  refine ⟨?_, ?_, ?_⟩
  · rw [f_has9 _ (by omega), g7 k (by omega)]
    by_cases c : xR S 0 k = 2
    · rw [if_pos c, if_pos (decide_eq_true (show k < 16 ∧ xR S 0 k = 2 from ⟨hk, c⟩))]
    · rw [if_neg c, if_neg (fun z => c (of_decide_eq_true z).2)]
  · rw [f_has9 _ (by omega), g8 k (by omega)]
    by_cases c : xR S 0 k = 1
    · rw [if_pos c, if_pos (decide_eq_true (show k < 16 ∧ xR S 0 k = 1 from ⟨hk, c⟩))]
    · rw [if_neg c, if_neg (fun z => c (of_decide_eq_true z).2)]
  · rw [f_has9 _ (by omega), g9 k (by omega)]
    by_cases c : xR S 7 k = 1
    · rw [if_pos c, if_pos (decide_eq_true (show k < 16 ∧ xR S 7 k = 1 from ⟨hk, c⟩))]
    · rw [if_neg c, if_neg (fun z => c (of_decide_eq_true z).2)]
/-- one leaves, or withdraws: class and reference -/
theorem lvw {M : Mem} {N A i k n : Nat} {Q : Nat → Int32} {S : St} (w : WJ M N A i Q S) (hi : i ≤ 511) (hk : k < N) (h0 : xR S 0 k ≠ 0) (hn : 100000 ≤ n) : ∃ M1 M2, f_X2_finish n 14 (nI k) M = some M1 ∧ isO M1 10 120 ∧ RV M1 false 0 S [] [] ∧ f_X10_leaveNow n 120 (nI k) M1 = some M2 ∧ WI (i + 1) M2 := by
  obtain ⟨X, Y, L, p, sb, xg, xr⟩ := id w.1
  obtain ⟨_, r, z7, sw, hQ⟩ := id w
  have h16 := sw.n16
  have h2 := sw.n2
  have fl0 := sw.tfl hi
  obtain ⟨M1, e1, p1, f1⟩ := p.tlv (n := n) h16 (v := k) (by omega) (by omega) (by omega)
  have pp : ∀ X Y, HV M 14 X Y 0 N Q S [] [] → HV M1 14 X Y 0 N Q (lv 0 N k S) [] [] := fun X Y p' => by
    obtain ⟨M1', e1', p1', _⟩ := p'.tlv (n := n) h16 (v := k) (by omega) (by omega) (by omega)
    rw [e1] at e1'
    cases e1'
    exact p1'
  have lk : ∀ kk j, 7 ≤ kk → kk ≠ 16 → xR (lv 0 N k S) kk j = xR S kk j := fun kk j a b => by rw [lv_R b, if_neg (by omega)]
  obtain ⟨cw, r1, s120, io⟩ := w.cls f1.w4 pp (fun kk j hk => lk kk j (by omega) (by omega))
  obtain ⟨M2, e2, r2, f2⟩ := r1.tlv (n := n) sw.n h16 (v := k) (by omega) (by omega) (by omega)
  obtain ⟨x1, x2⟩ := lv_X sw.inv h16 sw.ix hk h0 0
  refine ⟨M1, M2, e1, io, r1, e2, WJ.fin cw r2 f2.1 (fun o ho b => f2.2.1 o (PA_n ho) b) (fun o _ b => f2.2.2 o b) (by rw [f2.2.1 120 PA_120, s120]; exact z7) (sw.st (fun kk j hk => lk kk j (by omega) (by omega)) (sw.inv.tlv h16 hk h0 0) x1 (sw.iz.tlv 0) (by have := sw.a; omega) (sw.pb.st h16 (fun v => lk 7 v (by decide) (by decide)) (fun a ha => by have := x2 a ha; split at this <;> omega))) (fun v hv => ?_)⟩
  have kq : Qk S (lv 0 N k S) := fun kk hk j => lk kk j (by omega) (by omega)
  rw [kq.m]; exact hQ v hv
theorem op22 {M : Mem} {i n : Nat} (h : WI i M) (hi : i ≤ 511) (a : Int32) (hn : 100000 ≤ n) : Okk i (f_X9_leave n 0 a M) (fun M1 => f_X10_leave n 120 a M1) := by
  obtain ⟨N, A, Q, S, w⟩ := h
  obtain ⟨X, Y, L, p, sb, xg, xr⟩ := id w.1
  obtain ⟨_, r, z7, sw, hQ⟩ := id w
  have h16 := sw.n16
  have h2 := sw.n2
  rcases out_in (N := N) (by omega) a with ha | ⟨k, hk, rfl⟩
  · refine Okk.same w (r := 0) ?_ ?_
    · rw [f_X9_leave, chk_t xg.1, xg.2.1, bnd_e, sb.f, ndc0 sb ha, obd_s, if_pos rfl]
    · show f_X10_leave n 120 a M = _
      rw [f_X10_leave, rs_f r.1, ndr0 r sw.n (by omega) h16 ha, obd_s, if_pos rfl]
  · have hs := (has_st p (k := k) (by omega)).1
    by_cases c : xR S 0 k = 2
    · obtain ⟨M1, M2, e1, io, r1, e2, wi⟩ := lvw w hi hk (by rw [c]; decide) hn
      refine ⟨1, M1, M2, ?_, io, ?_, wi⟩
      · rw [f_X9_leave, chk_t xg.1, xg.2.1, bnd_e, sb.f, ndc sb hk h16, obd_s, if_neg ne10, xg.2.2.2.1, bnd_e, cs_f p.1, hs, obd_s, if_pos c, if_neg ne10, bnd_e, cs_f p.1, e1, obd_s]
      · show f_X10_leave n 120 (nI k) M1 = _
        rw [f_X10_leave, rs_f r1.1, ndr r1 sw.n hk h16, obd_s, if_neg ne10, r1.get0 (by omega), obd_s, if_pos c, e2, obd_s]
    · refine Okk.same w (r := 0) ?_ ?_
      · rw [f_X9_leave, chk_t xg.1, xg.2.1, bnd_e, sb.f, ndc sb hk h16, obd_s, if_neg ne10, xg.2.2.2.1, bnd_e, cs_f p.1, hs, obd_s, if_neg c, if_pos rfl]
      · show f_X10_leave n 120 (nI k) M = _
        rw [f_X10_leave, rs_f r.1, ndr r sw.n hk h16, obd_s, if_neg ne10, r.get0 (by omega), obd_s, if_neg c]
theorem op24 {M : Mem} {i n : Nat} (h : WI i M) (hi : i ≤ 511) (a : Int32) (hn : 100000 ≤ n) : Okk i (f_X9_withdraw n 0 a M) (fun M1 => f_X10_withdraw n 120 a M1) := by
  obtain ⟨N, A, Q, S, w⟩ := h
  obtain ⟨X, Y, L, p, sb, xg, xr⟩ := id w.1
  obtain ⟨_, r, z7, sw, hQ⟩ := id w
  have h16 := sw.n16
  have h2 := sw.n2
  rcases out_in (N := N) (by omega) a with ha | ⟨k, hk, rfl⟩
  · refine Okk.same w (r := 0) ?_ ?_
    · rw [f_X9_withdraw, chk_t xg.1, xg.2.1, bnd_e, sb.f, ndc0 sb ha, obd_s, if_pos rfl]
    · show f_X10_withdraw n 120 a M = _
      rw [f_X10_withdraw, rs_f r.1, ndr0 r sw.n (by omega) h16 ha, obd_s, if_pos rfl]
  · have hs := (has_st p (k := k) (by omega)).2.1
    by_cases c : xR S 0 k = 1
    · obtain ⟨M1, M2, e1, io, r1, e2, wi⟩ := lvw w hi hk (by rw [c]; decide) hn
      refine ⟨1, M1, M2, ?_, io, ?_, wi⟩
      · rw [f_X9_withdraw, chk_t xg.1, xg.2.1, bnd_e, sb.f, ndc sb hk h16, obd_s, if_neg ne10, xg.2.2.2.1, bnd_e, cs_f p.1, hs, obd_s, if_pos c, if_neg ne10, bnd_e, cs_f p.1, e1, obd_s]
      · show f_X10_withdraw n 120 (nI k) M1 = _
        rw [f_X10_withdraw, rs_f r1.1, ndr r1 sw.n hk h16, obd_s, if_neg ne10, r1.get0 (by omega), obd_s, if_pos c, e2, obd_s]
    · refine Okk.same w (r := 0) ?_ ?_
      · rw [f_X9_withdraw, chk_t xg.1, xg.2.1, bnd_e, sb.f, ndc sb hk h16, obd_s, if_neg ne10, xg.2.2.2.1, bnd_e, cs_f p.1, hs, obd_s, if_neg c, if_pos rfl]
      · show f_X10_withdraw n 120 (nI k) M = _
        rw [f_X10_withdraw, rs_f r.1, ndr r sw.n hk h16, obd_s, if_neg ne10, r.get0 (by omega), obd_s, if_neg c]
/-! ===== bring, breakDown, mend ===== -/
theorem gr_50 {t : Int32} {N v a : Nat} {S : St} (h1 : xR S 0 v = 1) : (xR (gr t N v a S) 5 v = 0 ∨ xR (gr t N v a S) 0 v = 1) ∧ xR (gr t N v a S) 0 v ≠ 0 := by
  unfold gr
  simp only []
  split
  · refine ⟨Or.inl ?_, ?_⟩
    · rw [en_R (by decide), if_neg (by omega), if_pos ⟨rfl, rfl⟩]
    · rw [en_R (by decide), if_pos ⟨rfl, rfl⟩]; decide
  · have e : xR (uR (uR (uR S 4 v (bon (xR S 4 v) a)) 5 v (bof (xR S 5 v) a)) 6 v (bof (xR S 6 v) a)) 0 v = 1 := by
      rw [xR_uR, if_neg (by omega), xR_uR, if_neg (by omega), xR_uR, if_neg (by omega)]; exact h1
    rw [e]
    exact ⟨Or.inr rfl, by decide⟩
/-- one that asks steps: IZ stays -/
theorem IZ.asr {N v : Nat} {S S' : St} (h : IZ N S) (h1 : xR S 0 v = 1) (hu : ∀ k u, u ≠ v → k = 0 ∨ k = 3 ∨ k = 5 → xR S' k u = xR S k u) (h7 : ∀ u, xR S' 7 u = xR S 7 u) (h8 : ∀ u, xR S' 8 u = xR S 8 u) (h5 : xR S' 5 v = 0 ∨ xR S' 0 v = 1) (h0 : xR S' 0 v ≠ 0) : IZ N S' := by
  obtain ⟨z1, z2, z3⟩ := h
  refine ⟨fun u hu' i hi hb => ?_, fun u hu' q => ?_, fun u a b => ?_⟩
  · by_cases c : u = v
    · subst c
      rcases h5 with h5 | h5
      · rw [h5, b_0] at hb; cases hb
      · exact h5
    · rw [hu 5 u c (by omega)] at hb
      rw [hu 0 u c (by omega)]; exact z1 u hu' i hi hb
  · by_cases c : u = v
    · subst c; exact absurd q h0
    · rw [hu 0 u c (by omega)] at q
      rw [hu 3 u c (by omega)]; exact z2 u hu' q
  · rw [h7, h8]; exact z3 u a b
theorem IZ.tbr {N A : Nat} {S : St} (hZ : IZ N S) (h : Inv N A S) (h16 : N ≤ 16) {f g : Nat} (hf : f < N) (hg : g < N) (t : Int32) : IZ N (br t N f g S) := by
  unfold br
  cases hx : xL S (16 * f + g) with
  | nil => exact hZ
  | cons x r =>
    simp only []
    unfold rd
    simp only []
    generalize hS3 : (if x.2.1 ≤ xR (wt N x.1.toNatClampNeg f g x.2.1 (uL S (16 * f + g) r)) 1 g then wt N x.1.toNatClampNeg f g x.2.1 (uL S (16 * f + g) r) else uR (wt N x.1.toNatClampNeg f g x.2.1 (uL S (16 * f + g) r)) 1 g x.2.1) = S3
    have rS : ∀ k, k < 11 → k ≠ 1 → ∀ i, xR S3 k i = xR S k i := fun k hk h1 i => by
      rw [← hS3, clk_R h1, wt_R (by omega) (by omega) (by omega)]; rfl
    have z : IZ N S3 := hZ.cg (fun k v _ hk => rS k (by omega) (by omega) v) (fun v _ _ => rS 8 (by omega) (by omega) v)
    split
    · exact z.cg (fun k v _ hk => rq_R (by omega) (by omega)) (fun v a _ => rq_R (Or.inl (by omega)) (by decide))
    · split
      · exact z.cg (fun k v _ hk => yl_R (by omega) (by omega)) (fun v a _ => yl_R (Or.inl (by omega)) (by decide))
      · split
        · exact z.cg (fun k v _ hk => rl_R (by omega) (by omega)) (fun v a _ => rl_R (Or.inl (by omega)) (by decide))
        · split
          · rename_i c
            split
            · obtain ⟨g5, g0⟩ := gr_50 (t := t) (N := N) (v := g) (a := f) c.1
              exact z.asr c.1 (fun k u hu hk => gr_R (by omega) (Or.inl hu)) (fun u => gr_R (by decide) (by omega)) (fun u => gr_R (by decide) (by omega)) g5 g0
            · split
              · exact z.asr c.1 (fun k u hu hk => fd_R (by omega) (Or.inl hu)) (fun u => fd_R (by decide) (by omega)) (fun u => fd_R (by decide) (by omega)) (Or.inl fd_5) (by rw [fd_R (by decide) (by omega), c.1]; decide)
              · exact z.asr c.1 (fun k u hu hk => iq_R (by omega) (Or.inl hu)) (fun u => iq_R (by decide) (by omega)) (fun u => iq_R (by decide) (by omega)) (Or.inr (by rw [iq_R (by decide) (by omega)]; exact c.1)) (by rw [iq_R (by decide) (by omega), c.1]; decide)
          · exact z
theorem br_19 {t : Int32} {N f g : Nat} {S : St} {k i : Nat} (hk : 17 ≤ k ∧ k ≤ 20 ∧ k ≠ 18) : xR (br t N f g S) k i = xR S k i := by
  unfold br
  cases hx : xL S (16 * f + g) with
  | nil => rfl
  | cons x r =>
    simp only []
    unfold rd
    simp only []
    generalize hS3 : (if x.2.1 ≤ xR (wt N x.1.toNatClampNeg f g x.2.1 (uL S (16 * f + g) r)) 1 g then wt N x.1.toNatClampNeg f g x.2.1 (uL S (16 * f + g) r) else uR (wt N x.1.toNatClampNeg f g x.2.1 (uL S (16 * f + g) r)) 1 g x.2.1) = S3
    have rS : xR S3 k i = xR S k i := by
      rw [← hS3, clk_R (by omega), wt_R (by omega) (by omega) (by omega)]; rfl
    split
    · rw [rq_R (by omega) (by omega)]; exact rS
    · split
      · rw [yl_R (by omega) (by omega)]; exact rS
      · split
        · rw [rl_R (by omega) (by omega)]; exact rS
        · split
          · split
            · unfold gr
              simp only []
              split
              · rw [en_12 (by omega), if_neg (by omega), if_neg (by omega), if_neg (by omega), xR_uR, if_neg (by omega), xR_uR, if_neg (by omega), xR_uR, if_neg (by omega)]; exact rS
              · rw [xR_uR, if_neg (by omega), xR_uR, if_neg (by omega), xR_uR, if_neg (by omega)]; exact rS
            · split
              · rw [fd_R (by omega) (by omega)]; exact rS
              · rw [iq_R (by omega) (by omega)]; exact rS
          · exact rS
theorem op23 {M : Mem} {i n : Nat} (h : WI i M) (hi : i ≤ 511) (a b : Int32) (hn : 100000 ≤ n) : Okk i (f_X9_bring n 0 a b M) (fun M1 => f_X10_bring n 120 a b M1) := by
  obtain ⟨N, A, Q, S, w⟩ := h
  obtain ⟨X, Y, L, p, sb, xg, xr⟩ := id w.1
  obtain ⟨_, r, z7, sw, hQ⟩ := id w
  have h16 := sw.n16
  have h2 := sw.n2
  have fl0 := sw.tfl hi
  have c35 : f_X2_bringFirst_35 n 14 a b (-1) M = some (-1, M) := by rw [f_X2_bringFirst_35, if_pos rfl]
  have r26 : f_X10_bring_26 n 120 (-1) M = some (-1, M) := by rw [f_X10_bring_26, if_pos rfl]
  have hp := p.1
  rcases out_in (N := N) (by omega) a with ha | ⟨f, hf, rfl⟩
  · refine Okk.same w (r := -1) ?_ ?_
    · rw [f_X9_bring, chk_t xg.1, xg.2.2.2.1, bnd_e, cs_f hp, f_X2_bringFirst, cs_f hp, cs_h0 hp, bnd_e, sb.f, ndc0 sb ha, obd_s, if_pos rfl, c35, obd2_s]
    · show f_X10_bring n 120 a b M = _
      rw [f_X10_bring, rs_f r.1, ndr0 r sw.n (by omega) h16 ha, obd_s, if_pos rfl, r26]
  · rcases out_in (N := N) (by omega) b with hb | ⟨g, hg, rfl⟩
    · refine Okk.same w (r := -1) ?_ ?_
      · rw [f_X9_bring, chk_t xg.1, xg.2.2.2.1, bnd_e, cs_f hp, f_X2_bringFirst, cs_f hp, cs_h0 hp, bnd_e, sb.f, ndc sb hf h16, obd_s, if_neg ne10, bnd_e, sb.f, ndc0 sb hb, obd_s, if_pos rfl, c35, obd2_s]
      · show f_X10_bring n 120 (nI f) b M = _
        rw [f_X10_bring, rs_f r.1, ndr r sw.n hf h16, obd_s, if_neg ne10, ndr0 r sw.n (by omega) h16 hb, obd_s, if_pos rfl, r26]
    · cases hx : xL S (16 * f + g) with
      | nil =>
        refine Okk.same w (r := -1) ?_ ?_
        · rw [f_X9_bring, chk_t xg.1, xg.2.2.2.1, bnd_e, cs_f hp, f_X2_bringFirst, cs_f hp, cs_h0 hp, bnd_e, sb.f, ndc sb hf h16, obd_s, if_neg ne10, bnd_e, sb.f, ndc sb hg h16, obd_s, if_neg ne10, cs_h1 hp, bnd_e, cs_p hp, PV.tno hp p.2.1 (by omega) (by omega) hx, obd2_s, c35, obd2_s]
        · show f_X10_bring n 120 (nI f) (nI g) M = _
          rw [f_X10_bring, rs_f r.1, ndr r sw.n hf h16, obd_s, if_neg ne10, ndr r sw.n hg h16, obd_s, if_neg ne10, r.tno (by omega) (by omega) hx (by omega), obd_s, r26]
      | cons x rr =>
        have hI := sw.inv
        have hA := sw.a
        obtain ⟨M1, e1, p1, f1⟩ := p.tbr (n := n) hI (by omega) h2 h16 hf hg hx (by omega) (by omega)
        have pp : ∀ X Y, HV M 14 X Y 0 N Q S [] [] → HV M1 14 X Y 0 N Q (br 0 N f g S) [] [] := fun X Y p' => by
          obtain ⟨M1', e1', p1', _⟩ := p'.tbr (n := n) hI (by omega) h2 h16 hf hg hx (by omega) (by omega)
          rw [e1] at e1'
          cases e1'
          exact p1'
        have kq : Qk S (br 0 N f g S) := fun k z j => (Kq.tbr S 0 N f g).1 k j z
        obtain ⟨cw, r1, s120, io⟩ := w.cls f1.w4 pp (fun kk j hk => br_19 (by omega))
        have Lk := Lok_of hI (by omega) (show 16 * f + g < 256 by omega) (x := x) (by rw [hx]; simp)
        have hH : Hok S f g x.2.1 := Hok_of (N := N) (A := A) (v0 := 99) (a0 := 99) (e0 := none) hI h16 hg x.2.1
        obtain ⟨M2, e2, r2, f2⟩ := r1.tbr (n := n) sw.n h2 h16 (f := f) (g := g) (by omega) (by omega) hx Lk hH (by omega) (by omega)
        obtain ⟨x1, x2⟩ := br_X hI h16 (by omega) sw.ix hf hg 0
        have tat := r1.tat (n := n) (f := f) (g := g) (by omega) (by omega) hx (by omega)
        have lt := (r1.take (l := 16 * f + g) (by omega) hx (n := n) (by omega)).2.1
        refine ⟨x.1, M1, M2, ?_, io, ?_, WJ.fin cw r2 f2.1 (fun o ho b => f2.2.1 o (PA_n ho) b) (fun o _ b => f2.2.2 o b) (by rw [f2.2.1 120 PA_120, s120]; exact z7) (sw.st (fun kk j hk => br_19 (by omega)) (hI.tbr h16 (by omega) hf hg 0) x1 (sw.iz.tbr hI h16 hf hg 0) (by omega) (sw.pb.st h16 (fun v => kq 7 (by omega) v) (fun a ha => by have := x2 a ha; omega))) (fun v hv => by rw [kq.m]; exact hQ v hv)⟩
        · rw [f_X9_bring, chk_t xg.1, xg.2.2.2.1, bnd_e, cs_f hp, e1, obd2_s]
        · show f_X10_bring n 120 (nI f) (nI g) M1 = _
          rw [f_X10_bring, rs_f r1.1, ndr r1 sw.n hf h16, obd_s, if_neg ne10, ndr r1 sw.n hg h16, obd_s, if_neg ne10, tat, obd_s, f_X10_bring_26, if_neg (by
            intro z
            have := nI_pos (n := (flr (xL S) 0 (16 * f + g)).length) (by omega)
            rw [z] at this
            exact this (by decide)), rs_f r1.1, e2, obd2_s]
theorem op25 {M : Mem} {i n : Nat} (h : WI i M) (hi : i ≤ 511) (a : Int32) (hn : 100000 ≤ n) : Okk i (f_X9_breakDown n 0 a M) (fun M1 => f_X10_breakDown n 120 a M1) := by
  obtain ⟨N, A, Q, S, w⟩ := h
  obtain ⟨X, Y, L, p, sb, xg, xr⟩ := id w.1
  obtain ⟨_, r, z7, sw, hQ⟩ := id w
  have h16 := sw.n16
  have h2 := sw.n2
  have fl0 := sw.tfl hi
  have hp := p.1
  have hA := sw.a
  rcases out_in (N := N) (by omega) a with ha | ⟨x, hx, rfl⟩
  · refine Okk.same w (r := 0) ?_ ?_
    · rw [f_X9_breakDown, chk_t xg.1, xg.2.1, bnd_e, sb.f, ndc0 sb ha, obd_s, if_pos rfl]
    · show f_X10_breakDown n 120 a M = _
      rw [f_X10_breakDown, rs_f r.1, ndr0 r sw.n (by omega) h16 ha, obd_s, if_pos rfl]
  · obtain ⟨s7, s8, s9⟩ := has_st p (k := x) (by omega)
    have hw : f_X2_howIs 14 (nI x) M = some (if xR S 0 x = 2 then 2 else if xR S 0 x = 1 then 1 else 0) := by
      rw [f_X2_howIs, cs_f hp, s7, obd_s]
      by_cases c : xR S 0 x = 2
      · rw [if_pos c, if_neg ne10, if_pos c]
      · rw [if_neg c, if_pos rfl, s8, obd_s, if_neg c]
        by_cases d : xR S 0 x = 1
        · rw [if_pos d, if_neg ne10]
        · rw [if_neg d, if_pos rfl]
    by_cases c0 : xR S 0 x = 0
    · have hw0 : f_X2_howIs 14 (nI x) M = some 0 := by
        rw [hw, c0, if_neg (by decide), if_neg (by decide)]
      by_cases c7 : xR S 7 x = 1
      · refine Okk.same w (r := 0) ?_ ?_
        · rw [f_X9_breakDown, chk_t xg.1, xg.2.1, bnd_e, sb.f, ndc sb hx h16, obd_s, if_neg ne10, xg.2.2.2.1, bnd_e, cs_f hp, hw0, obd_s, if_pos rfl, bnd_e, cs_f hp, s9, obd_s, if_pos c7, if_neg ne10]
        · show f_X10_breakDown n 120 (nI x) M = _
          rw [f_X10_breakDown, rs_f r.1, ndr r sw.n hx h16, obd_s, if_neg ne10, r.get0 (by omega), obd_s, if_pos c0, r.get7 (by omega), obd_s, if_pos c7]
      · have n7 : xR S 7 x = 0 := (sw.h7 x (by omega)).resolve_right c7
        have nn : N * N ≤ 256 := Nat.mul_le_mul h16 h16
        have nn2 : 2 * N * N = 2 * (N * N) := Nat.mul_assoc 2 N N
        have h3 := sw.iz.2.1 x (by omega) c0
        obtain ⟨M1, e1, p1, f1⟩ := p.brkN (n := n) sb sw.inv h16 sw.t sw.t2 (fun v a b => (sw.iz.2.2 v a b).1) hx h3 (by omega) (by omega)
        have pp : ∀ X Y, HV M 14 X Y 0 N Q S [] [] → HV M1 14 X Y 0 N (fun v => qm N (uR S 7 x 1) v) (bd 0 N x S) [] [] := fun X Y p' => by
          obtain ⟨M1', e1', p1', _⟩ := p'.brkN (n := n) sb sw.inv h16 sw.t sw.t2 (fun v a b => (sw.iz.2.2 v a b).1) hx h3 (by omega) (by omega)
          rw [e1] at e1'
          cases e1'
          exact p1'
        obtain ⟨b1, b2, b3, b4, b5⟩ := bd_all (t := 0) sw.inv sw.ix sw.iz sw.bi h16 sw.t hx c0 (by omega)
        obtain ⟨cw, r1, s120, io⟩ := w.cls f1 pp (fun kk j hk => b5 kk j (by omega) (by omega) (by omega) (by omega))
        obtain ⟨M2, e2, r2, f2⟩ := r1.tbd (n := n) sw.inv sw.n h16 sw.t hx c0 n7 (by omega) (ndr r1 sw.n hx h16) (by omega)
        have b7 : ∀ v, xR (bd 0 N x S) 7 v = if v = x then 1 else xR S 7 v := fun v => by
          have gk : ∀ (ws : List Nat) (U : St), xR (gdl 0 N x ws U) 7 v = xR U 7 v := by
            intro ws
            induction ws with
            | nil => intro U; rfl
            | cons y ws ih =>
              intro U
              unfold gdl
              rw [List.foldl_cons]
              have q := ih (if y = x then U else if bt (xR U 3 y) x then gdw 0 N x y U else U)
              unfold gdl at q
              rw [q]
              split
              · rfl
              · split
                · exact gdw_Rk (by omega)
                · rfl
          unfold bd
          rw [gk, fgl_R (by omega), b0_R]
          by_cases c : v = x
          · rw [if_pos ⟨c, rfl⟩, if_pos c]
          · rw [if_neg (fun z => c z.1), if_neg (by omega), if_neg (by omega), if_neg c]
        have nb : nbr N (bd 0 N x S) = nbr N S + 1 := by
          have := smN_at (f := fun a => if xR (bd 0 N x S) 7 a = 1 then 1 else 0) (g := fun a => if xR S 7 a = 1 then 1 else 0) (v := x) N hx (fun u hu hn => by rw [b7 u, if_neg hn])
          rw [show (if xR S 7 x = 1 then 1 else 0 : Nat) = 0 from if_neg c7, b7 x, if_pos rfl, if_pos rfl] at this
          exact this
        have kq : Qk (uR S 7 x 1) (bd 0 N x S) := fun k hk j => by
          rcases hk with rfl | rfl | rfl
          · rw [b7 j, xR_uR]
            by_cases c : j = x
            · rw [if_pos c, if_pos ⟨rfl, c⟩]
            · rw [if_neg c, if_neg (fun z => c z.2)]
          · rw [b5 17 j (by omega) (by omega) (by omega) (by omega), xR_uR, if_neg (by omega)]
          · rw [b5 20 j (by omega) (by omega) (by omega) (by omega), xR_uR, if_neg (by omega)]
        refine ⟨1, M1, M2, ?_, io, e2, WJ.fin cw r2 f2.1 (fun o ho b => f2.2.1 o (PA_n ho) b) (fun o _ b => f2.2.2 o b) (by rw [f2.2.1 120 PA_120, s120]; exact z7) (sw.st (fun kk j hk => b5 kk j (by omega) (by omega) (by omega) (by omega)) b1 b2 b3 (by omega) (fun y hy => ?_)) (fun v hv => kq.m N v)⟩
        · rw [f_X9_breakDown, chk_t xg.1, xg.2.1, bnd_e, sb.f, ndc sb hx h16, obd_s, if_neg ne10, xg.2.2.2.1, bnd_e, cs_f hp, hw0, obd_s, if_pos rfl, bnd_e, cs_f hp, s9, obd_s, if_neg c7, if_pos rfl, bnd_e, cs_f hp, e1, obd_s]
        · rw [nb]
          have := b4 y (by omega)
          have := sw.pb y hy
          rw [Nat.mul_add]
          omega
    · refine Okk.same w (r := 0) ?_ ?_
      · have hw1 : ∃ y, f_X2_howIs 14 (nI x) M = some y ∧ ¬ y = 0 := by
          rw [hw]
          by_cases d : xR S 0 x = 2
          · exact ⟨2, by rw [if_pos d], by decide⟩
          · by_cases d1 : xR S 0 x = 1
            · exact ⟨1, by rw [if_neg d, if_pos d1], by decide⟩
            · rcases (sw.inv.1 x (by omega)).1 with z | z | z
              · exact absurd z c0
              · exact absurd z d1
              · exact absurd z d
        obtain ⟨y, hy, ny⟩ := hw1
        rw [f_X9_breakDown, chk_t xg.1, xg.2.1, bnd_e, sb.f, ndc sb hx h16, obd_s, if_neg ne10, xg.2.2.2.1, bnd_e, cs_f hp, hy, obd_s, if_neg ny]
      · show f_X10_breakDown n 120 (nI x) M = _
        rw [f_X10_breakDown, rs_f r.1, ndr r sw.n hx h16, obd_s, if_neg ne10, r.get0 (by omega), obd_s, if_neg c0]
