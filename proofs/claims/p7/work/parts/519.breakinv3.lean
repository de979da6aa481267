/-! ===== a node breaks: who goes on, by what is held ===== -/
theorem gF_IX {N A a : Nat} {S : St} (hI : Inv N A S) (h16 : N ≤ 16) (ha : a < N) (h8 : xR S 8 a = -1) (hX : IX N S) (t : Int32) : Inv N A (gF t a S) ∧ IX N (gF t a S) := by
  have hF := hI.2.2.2.2.2.1 a (by omega)
  have h910 : xR S 9 a = 0 ∧ xR S 10 a = 0 := by
    rcases hF.2.2 with z | ⟨g, z1, z2, _⟩
    · exact z.2
    · rw [h8] at z2; exact absurd z2 (m1_ne (by omega))
  obtain ⟨hQ, hV, hK⟩ := hX
  refine ⟨?_, hQ.at (gF_IQ hF.1.1) (fun b hb => gF_Wo hb) (fun k b hb hk => gF_R (Or.inl hb) (by omega)), hV.cg (fun k v hk => gF_R (by omega) (by omega)), hK.st h16 (fun i => gF_R (by omega) (by decide)) (fun i _ _ z => by rw [gF_R (by omega) (by decide)]; exact z) (fun u i _ _ _ z => by rw [gF_R (by omega) (by decide)]; exact z) ?_⟩
  · rw [gF_e, nob_id h8 h910.1 h910.2]
    exact hI.tgF' h16 ha h8 t
  · cases hw : xW S a with
    | nil =>
      have : xL (gF t a S) = xL S := by unfold gF; rw [hw]; rfl
      exact LK.eq this
    | cons w r =>
      refine LK.tgF (by omega) (fun y hy => ⟨by have := (hF.1.2.2 y hy).1; omega, (hK.wtr hI h16 ha hy).1⟩) (hK.wtr hI h16 ha (w := w) (by rw [hw]; simp)).2
theorem IZ.cg {N : Nat} {S S' : St} (h : IZ N S) (e : ∀ k v, v < 16 → k = 0 ∨ k = 3 ∨ k = 5 ∨ k = 7 → xR S' k v = xR S k v) (e8 : ∀ v, N ≤ v → v < 16 → xR S' 8 v = xR S 8 v) : IZ N S' := by
  obtain ⟨z1, z2, z3⟩ := h
  refine ⟨fun v hv i hi hb => ?_, fun v hv q => ?_, fun v a b => ?_⟩
  · rw [e 0 v hv (by omega)]; rw [e 5 v hv (by omega)] at hb; exact z1 v hv i hi hb
  · rw [e 3 v hv (by omega)]; rw [e 0 v hv (by omega)] at q; exact z2 v hv q
  · rw [e 7 v b (by omega), e8 v a b]; exact z3 v a b
def Fi (i : Nat) : Nat → Bool := fun a => decide (i ≤ a)
theorem Fi_s (i : Nat) : Fm (Fi i) i = Fi (i + 1) := by
  funext a
  unfold Fm Fi
  by_cases c : a = i
  · subst c; simp
  · by_cases d : i ≤ a
    · have : i + 1 ≤ a := by omega
      simp [c, d, this]
    · have : ¬ i + 1 ≤ a := by omega
      simp [d, this]
theorem gfold {t : Int32} {N A x : Nat} (h16 : N ≤ 16) (hx : x < N) {P : Nat → Nat} : ∀ (d i : Nat) (T : St), i + d = N → Fg N A x i T → Inv N A (eF x (Fi i) T) → IX N (eF x (Fi i) T) → IZ N (eF x (Fi i) T) → (∀ b, b < 16 → Ph b (eF x (Fi i) T) ≤ P b + if b < i then 1 else 0) → Inv N A (eF x (Fi N) (fgl t x (List.range' i d) T)) ∧ IX N (eF x (Fi N) (fgl t x (List.range' i d) T)) ∧ IZ N (eF x (Fi N) (fgl t x (List.range' i d) T)) ∧ ∀ b, b < 16 → Ph b (eF x (Fi N) (fgl t x (List.range' i d) T)) ≤ P b + 1 := by
  intro d
  induction d with
  | zero =>
    intro i T hi hF hI hX hZ hP
    have : i = N := by omega
    subst this
    exact ⟨hI, hX, hZ, fun b hb => Nat.le_trans (hP b hb) (by split <;> omega)⟩
  | succ d ih =>
    intro i T hi hF hI hX hZ hP
    unfold fgl
    rw [List.range'_succ, List.foldl_cons]
    obtain ⟨g1, g2, g3⟩ := hF i (Nat.le_refl _) (by omega)
    have st := eF_step (t := t) (x := x) (a := i) (F := Fi i) (S := T) (by unfold Fi; simp) g2
    rw [Fi_s] at st
    have same : (if i = x then T else fgt t i x T) = fgt t i x T := by
      by_cases c : i = x
      · rw [if_pos c]
        subst c
        rw [fgt_id (g3 rfl).1 (by omega) (g3 rfl).2]
      · rw [if_neg c]
    rw [same]
    have go := ih (i + 1) (fgt t i x T) (by omega) hF.s
    unfold fgl at go
    by_cases c : xR T 8 i = nI x
    · rw [if_pos c] at st
      rw [st] at go
      have h8 : xR (eF x (Fi i) T) 8 i = -1 := by
        rw [eF_R, if_neg (by omega), if_neg (by omega), if_pos ⟨by omega, by unfold Fi; simp, c⟩, if_pos rfl]
      obtain ⟨a1, a2⟩ := gF_IX hI h16 (a := i) (by omega) h8 hX t
      refine go a1 a2 (hZ.cg (fun k v _ hk => gF_R (by omega) (by omega)) (fun v a _ => gF_R (Or.inl (by omega)) (by decide))) (fun b hb => ?_)
      have p1 := gF_Ph (t := t) (a := i) (b := b) (S := eF x (Fi i) T) (by omega) (fun w hw => by have := ((hI.2.2.2.2.2.1 i (by omega)).1.2.2 w hw).1; omega)
      have p2 := hP b hb
      have p3 : (if b < i then 1 else 0 : Nat) + (if b = i then 1 else 0) ≤ if b < i + 1 then 1 else 0 := by
        by_cases e : b < i
        · rw [if_pos e, if_neg (by omega), if_pos (by omega)]; exact Nat.le_refl _
        · rw [if_neg e]
          by_cases e2 : b = i
          · rw [if_pos e2, if_pos (by omega)]; exact Nat.le_refl _
          · rw [if_neg e2]; exact Nat.zero_le _
      omega
    · rw [if_neg c] at st
      rw [st] at go
      refine go hI hX hZ (fun b hb => ?_)
      have p2 := hP b hb
      have p3 : (if b < i then 1 else 0 : Nat) ≤ if b < i + 1 then 1 else 0 := ite_le (fun z => by omega)
      omega
/-- who goes on without x, x erased of its set before -/
def hdw (t : Int32) (N w : Nat) (U : St) : St := if xR U 0 w = 2 then U else if mayA N w (lv t N w U) then ak t N w (lv t N w U) else lv t N w U
theorem sAl_c {t : Int32} {k f : Nat} {set s : Int32} : ∀ (ws : List Nat) (S S' : St), xR S 16 = xR S' 16 → xL S = xL S' → xR (sAl t k f set s ws S) 16 = xR (sAl t k f set s ws S') 16 ∧ xL (sAl t k f set s ws S) = xL (sAl t k f set s ws S') ∧ xE (sAl t k f set s ws S) = xE S ∧ xT (sAl t k f set s ws S) = xT S := by
  intro ws
  induction ws with
  | nil => intro S S' h1 h2; exact ⟨h1, h2, rfl, rfl⟩
  | cons w ws ih =>
    intro S S' h1 h2
    unfold sAl
    rw [List.foldl_cons, List.foldl_cons]
    by_cases c : bt set w = true
    · rw [if_pos c, if_pos c]
      have e1 : xR (sn t k f w s S) 16 = xR (sn t k f w s S') 16 := by
        funext i
        rw [sn_Rg, sn_Rg, h1]
      have e2 : xL (sn t k f w s S) = xL (sn t k f w s S') := by
        funext l
        rw [sn_L, sn_L, h2]
      have := ih (sn t k f w s S) (sn t k f w s S') e1 e2
      unfold sAl at this
      exact ⟨this.1, this.2.1, this.2.2.1, this.2.2.2⟩
    · rw [if_neg c, if_neg c]
      have := ih S S' h1 h2
      unfold sAl at this
      exact this
theorem sA_c {t : Int32} {N k f : Nat} {set s : Int32} {S S' : St} (h1 : xR S 16 = xR S' 16) (h2 : xL S = xL S') : xR (sA t N k f set s S) 16 = xR (sA t N k f set s S') 16 ∧ xL (sA t N k f set s S) = xL (sA t N k f set s S') ∧ xE (sA t N k f set s S) = xE S ∧ xT (sA t N k f set s S) = xT S := sAl_c _ S S' h1 h2
def Fn : Nat → Bool := fun _ => false
theorem eN_R (x : Nat) (S : St) (k i : Nat) : xR (eF x Fn S) k i = if k = 3 then bof (xR S 3 i) x else if (k = 4 ∨ k = 5) ∧ xR S 0 i = 1 then bof (xR S k i) x else xR S k i := by
  rw [eF_R, if_neg (show ¬ ((8 ≤ k ∧ k ≤ 10) ∧ Fn i = true ∧ xR S 8 i = nI x) from fun z => absurd z.2.1 (by unfold Fn; decide))]
theorem eN_W (x : Nat) (S : St) : xW (eF x Fn S) = xW S := by
  funext i
  rw [eF_W]; rfl
theorem eN_Rk {x : Nat} {S : St} {k i : Nat} (h : k ≠ 3 ∧ k ≠ 4 ∧ k ≠ 5) : xR (eF x Fn S) k i = xR S k i := by
  rw [eN_R, if_neg (by omega), if_neg (by omega)]
theorem eN_Q (x : Nat) (S : St) : Qk S (eF x Fn S) := fun k hk i => eN_Rk (by omega)
theorem bof_bof (y : Int32) {x : Nat} (hx : x < 32) : bof (bof y x) x = bof y x := by
  apply b_ext
  intro i hi
  rw [bt_off _ hx hi, bt_off _ hx hi]
  cases bt y i <;> simp
theorem bof_id {y : Int32} {x : Nat} (hx : x < 32) (h : bt y x = false) : bof y x = y := by
  apply b_ext
  intro i hi
  rw [bt_off _ hx hi]
  by_cases c : i = x
  · subst c; rw [h]; rfl
  · rw [decide_eq_false c]; simp
theorem lv_T {t : Int32} {N v : Nat} {S : St} : xE (lv t N v S) = xE S ∧ xT (lv t N v S) = xT S := by
  unfold lv
  obtain ⟨_, _, a, b⟩ := sA_c (t := t) (N := N) (k := 5) (f := v) (set := xR S 3 v) (s := xR S 2 v) (S := rst v S) (S' := rst v S) rfl rfl
  exact ⟨a, b⟩
set_option maxHeartbeats 1000000 in
theorem eN_gdw {t : Int32} {N x w : Nat} {T : St} (h16 : N ≤ 16) (hx : x < N) (hw : w < N) (hset : bof (xR T 3 w) x &&& (bkm N T ^^^ (-1 : Int32)) = bof (xR T 3 w) x) (hq : bt (qm N T w) x = false) : eF x Fn (gdw t N x w T) = hdw t N w (eF x Fn T) := by
  have x32 : x < 32 := by omega
  have u0 : xR (eF x Fn T) 0 w = xR T 0 w := eN_Rk (by decide)
  unfold hdw
  rw [u0]
  rcases gdw_3 t N x w T with ⟨c, e⟩ | ⟨c, S1, e1, h2⟩
  · rw [if_pos c, e]
    refine St.ext (fun k i => ?_) (by rw [eN_W, eN_W]; rfl) rfl rfl rfl
    rw [eN_R, eN_R, xR_uR, xR_uR, xR_uR, if_neg (show ¬ (0 = 3 ∧ i = w) by omega)]
    by_cases k3 : k = 3
    · rw [if_pos k3, if_pos k3]
      by_cases iw : i = w
      · rw [if_pos ⟨rfl, iw⟩, bof_bof _ x32, iw]
      · rw [if_neg (fun z => iw z.2)]
    · rw [if_neg k3, if_neg k3, if_neg (show ¬ (k = 3 ∧ i = w) from fun z => k3 z.1)]
  · rw [if_neg c]
    rw [hset] at e1
    have s16 : xR (rst w (eF x Fn T)) 16 = xR T 16 := by funext i; rw [rst_R, if_neg (by omega), eN_Rk (by decide)]
    have cc := sA_c (t := t) (N := N) (k := 5) (f := w) (set := bof (xR T 3 w) x) (s := xR T 2 w) (S := T) (S' := rst w (eF x Fn T)) s16.symm rfl
    have lve : lv t N w (eF x Fn T) = sA t N 5 w (bof (xR T 3 w) x) (xR T 2 w) (rst w (eF x Fn T)) := by
      unfold lv
      rw [eN_R, if_pos rfl, eN_Rk (by decide)]
    have r1 : ∀ k i, k ≠ 16 → xR S1 k i = if i = w ∧ (k = 0 ∨ (3 ≤ k ∧ k ≤ 6)) then 0 else xR T k i := fun k i hk => by
      rw [e1, rst_R, sA_R hk]
    have key : eF x Fn S1 = lv t N w (eF x Fn T) := by
      refine St.ext (fun k i => ?_) ?_ ?_ ?_ ?_
      · by_cases k16 : k = 16
        · subst k16
          rw [eN_Rk (by decide), e1, lve, rst_R, if_neg (by omega)]
          exact congrFun cc.1 i
        · rw [lv_R k16, eN_R, r1 3 i (by decide), r1 0 i (by decide), r1 k i k16, eN_R]
          by_cases iw : i = w
          · subst iw
            by_cases k3 : k = 3
            · rw [if_pos k3, if_pos ⟨rfl, by omega⟩, if_pos ⟨rfl, by omega⟩, bof_z]
            · rw [if_neg k3, if_pos (show i = i ∧ (0 = 0 ∨ 3 ≤ 0 ∧ 0 ≤ 6) from ⟨rfl, Or.inl rfl⟩), if_neg (show ¬ ((k = 4 ∨ k = 5) ∧ (0 : Int32) = 1) from fun z => ne01 z.2)]
              by_cases d : k = 0 ∨ (3 ≤ k ∧ k ≤ 6)
              · rw [if_pos ⟨rfl, d⟩, if_pos ⟨rfl, d⟩]
              · rw [if_neg (fun z => d z.2), if_neg (fun z => d z.2), if_neg k3, if_neg (by omega)]
          · have nw : ∀ q : Prop, ¬ (i = w ∧ q) := fun q z => iw z.1
            rw [if_neg (nw _), if_neg (nw _), if_neg (nw _), if_neg (nw _)]
      · rw [eN_W, lv_W, eN_W, e1]
        show xW (sA _ _ _ _ _ _ _) = _
        rw [sA_W]
      · rw [eF_L, e1, lve]
        exact cc.2.1
      · rw [lv_T.1, e1]
        exact cc.2.2.1
      · rw [lv_T.2, e1]
        exact cc.2.2.2
    have q1 : ∀ U : St, Qk T U → qm N U w = qm N T w := fun U h => h.m N w
    have kT1 : Qk T S1 := fun k hk i => by rw [r1 k i (by omega), if_neg (by omega)]
    have may : mayA N w (eF x Fn S1) = mayA N w S1 := by
      unfold mayA
      rw [eN_Rk (by decide), eN_Rk (by decide), (eN_Q x S1).m]
    rw [← key, may]
    rcases h2 with ⟨d, e⟩ | ⟨d, e⟩
    · rw [if_pos d, e]
      have hq1 : bt (qm N S1 w) x = false := by rw [q1 S1 kT1]; exact hq
      have s0 : xR (eF x Fn S1) 1 w = xR S1 1 w := eN_Rk (by decide)
      have qe : qm N (eF x Fn S1) w = qm N S1 w := (eN_Q x S1).m N w
      have cd : ∀ (A B : St), xR A 16 = xR B 16 → xL A = xL B → xR (sA t N 0 w (qm N S1 w) (xR S1 1 w + 1) A) 16 = xR (sA t N 0 w (qm N S1 w) (xR S1 1 w + 1) B) 16 ∧ xL (sA t N 0 w (qm N S1 w) (xR S1 1 w + 1) A) = xL (sA t N 0 w (qm N S1 w) (xR S1 1 w + 1) B) ∧ xE (sA t N 0 w (qm N S1 w) (xR S1 1 w + 1) A) = xE A ∧ xT (sA t N 0 w (qm N S1 w) (xR S1 1 w + 1) A) = xT A := fun A B h1 h2 => sA_c h1 h2
      refine St.ext (fun k i => ?_) ?_ ?_ ?_ ?_
      · by_cases k16 : k = 16
        · subst k16
          rw [eN_Rk (by decide)]
          unfold ak
          simp only []
          rw [s0, qe]
          refine congrFun (cd _ _ ?_ ?_).1 i
          · funext j
            simp only [xR_uR]
            simp [eN_Rk]
          · rfl
        · rw [eN_R, ak_R (k := 3) (by decide), ak_R (k := 0) (by decide), ak_R k16, ak_R k16, s0, qe, eN_Rk (k := 15) (by decide)]
          by_cases iw : i = w
          · subst iw
            rw [if_pos rfl, if_pos rfl, if_pos rfl, if_pos rfl]
            by_cases k3 : k = 3
            · subst k3
              rw [if_pos rfl, if_neg (by decide), if_neg (by decide), if_neg (by decide), if_pos rfl, if_neg (by decide), if_neg (by decide), if_neg (by decide), if_pos rfl]
              exact bof_id x32 hq1
            · rw [if_neg k3, if_pos rfl]
              by_cases k4 : k = 4 ∨ k = 5
              · rw [if_pos ⟨k4, rfl⟩]
                rcases k4 with rfl | rfl
                · simp [bof_z]
                · simp [bof_z]
              · rw [if_neg (fun z => k4 z.1), eN_Rk (by omega), if_pos rfl]
          · rw [if_neg iw, if_neg iw, if_neg iw, if_neg iw, eN_R]
      · rw [eN_W, ak_W, ak_W, eN_W]
      · rw [eF_L]
        unfold ak
        simp only []
        rw [s0, qe]
        refine (cd _ _ ?_ ?_).2.1
        · funext j
          simp only [xR_uR]
          simp [eN_Rk]
        · rfl
      · show xE (ak t N w S1) = xE (ak t N w (eF x Fn S1))
        unfold ak
        simp only []
        rw [s0, qe, (cd _ _ rfl rfl).2.2.1, (cd _ _ rfl rfl).2.2.1]
        rfl
      · show xT (ak t N w S1) = xT (ak t N w (eF x Fn S1))
        unfold ak
        simp only []
        rw [s0, qe, (cd _ _ rfl rfl).2.2.2, (cd _ _ rfl rfl).2.2.2]
        rfl
    · rw [if_neg d, e]
