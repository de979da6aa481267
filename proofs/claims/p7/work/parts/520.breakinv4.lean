/-! ===== a node breaks: all that is held after it ===== -/
theorem IZ.tlv {N v : Nat} {S : St} (h : IZ N S) (t : Int32) : IZ N (lv t N v S) := by
  obtain ⟨z1, z2, z3⟩ := h
  refine ⟨fun u hu i hi hb => ?_, fun u hu q => ?_, fun u a b => ?_⟩
  · rw [lv_R (by decide)] at hb ⊢
    by_cases c : u = v
    · rw [if_pos ⟨c, by omega⟩, b_0] at hb; cases hb
    · rw [if_neg (fun z => c z.1)] at hb ⊢; exact z1 u hu i hi hb
  · rw [lv_R (by decide)] at q ⊢
    by_cases c : u = v
    · rw [if_pos ⟨c, by omega⟩]
    · rw [if_neg (fun z => c z.1)] at q ⊢; exact z2 u hu q
  · rw [lv_R (by decide), if_neg (by omega), lv_R (by decide), if_neg (by omega)]; exact z3 u a b
theorem IZ.tak {N v : Nat} {S : St} (h : IZ N S) (t : Int32) : IZ N (ak t N v S) := by
  obtain ⟨z1, z2, z3⟩ := h
  have e0 : xR (ak t N v S) 0 v = 1 := by rw [ak_R (by decide), if_pos rfl]; rfl
  have e5 : xR (ak t N v S) 5 v = 0 := by rw [ak_R (by decide), if_pos rfl]; rfl
  refine ⟨fun u hu i hi hb => ?_, fun u hu q => ?_, fun u a b => ?_⟩
  · by_cases c : u = v
    · rw [c, e5, b_0] at hb; cases hb
    · rw [ak_Ro (by decide) c] at hb ⊢; exact z1 u hu i hi hb
  · by_cases c : u = v
    · rw [c, e0] at q; exact absurd q (by decide)
    · rw [ak_Ro (by decide) c] at q ⊢; exact z2 u hu q
  · rw [ak_Rk (by omega), ak_Rk (by omega)]; exact z3 u a b
theorem hdw_all {t : Int32} {N A w : Nat} {U : St} (h16 : N ≤ 16) (hI : Inv N A U) (hX : IX N U) (hZ : IZ N U) (hA : A + 1 < 1048576) (hQ : ∀ v, v < N → ∀ i, N ≤ i → i < 32 → bt (qm N U v) i = false) (hU : QU N U) (hw : w < N) (h0 : xR U 0 w ≠ 0) : Inv N (A + 1) (hdw t N w U) ∧ IX N (hdw t N w U) ∧ IZ N (hdw t N w U) ∧ ∀ a, a < 16 → Ph a (hdw t N w U) ≤ Ph a U + 2 := by
  unfold hdw
  by_cases c : xR U 0 w = 2
  · rw [if_pos c]
    exact ⟨hI.mo (by omega), hX, hZ, fun a _ => by omega⟩
  · rw [if_neg c]
    have i1 := hI.tlv h16 hw h0 t
    obtain ⟨x1, p1⟩ := lv_X hI h16 hX hw h0 t
    rw [if_neg c] at p1
    have z1 := hZ.tlv (v := w) t
    have kq : Qk U (lv t N w U) := fun k hk i => by rw [lv_R (by omega), if_neg (by omega)]
    by_cases d : mayA N w (lv t N w U) = true
    · rw [if_pos d]
      unfold mayA at d
      have d0 : xR (lv t N w U) 0 w = 0 := of_decide_eq_true (Bool.and_eq_true _ _ |>.mp d).1
      have d7 : xR (lv t N w U) 7 w = 0 := of_decide_eq_true (Bool.and_eq_true _ _ |>.mp (Bool.and_eq_true _ _ |>.mp d).2).1
      have i2 := i1.tak h16 hw d0 hA (fun i a b => by rw [kq.m]; exact hQ w hw i a b) t
      obtain ⟨x2, p2⟩ := ak_X h16 x1 hw (fun q => by rw [d7] at q; exact absurd q (by decide)) (hU.k kq w hw) t
      refine ⟨i2, x2, z1.tak t, fun a ha => ?_⟩
      have := p1 a ha
      have := p2 a ha
      have : (if a < N ∧ bt (qm N (lv t N w U) w) a = true then 1 else 0 : Nat) ≤ 1 := by split <;> omega
      omega
    · rw [if_neg d]
      exact ⟨i1.mo (by omega), x1, z1, fun a ha => by have := p1 a ha; omega⟩
/-- in the midst of the going on -/
def Kx (N x B : Nat) (P : Nat → Nat) (T : St) : Prop := Inv N B (eF x Fn T) ∧ IX N (eF x Fn T) ∧ IZ N (eF x Fn T) ∧ BI N T ∧ (xR T 20 1 = 1 → N % 2 = 1) ∧ (∀ v, v < 16 → xR T 7 v = 0 ∨ xR T 7 v = 1) ∧ xR T 7 x = 1 ∧ (∀ v, v < 16 → xR T 0 v = 0 → xR T 3 v = 0) ∧ (∀ a, a < 16 → Ph a (eF x Fn T) ≤ P a) ∧ ∀ v, v < 16 → bt (xR T 3 v) x = false → xR T 0 v = 1 → bt (xR T 4 v) x = false ∧ bt (xR T 5 v) x = false
theorem gdw_w {t : Int32} {N x w : Nat} {T : St} (h16 : N ≤ 16) (hx : x < N) (hq : bt (qm N T w) x = false) : bt (xR (gdw t N x w T) 3 w) x = false ∧ (xR (gdw t N x w T) 0 w = 1 → bt (xR (gdw t N x w T) 4 w) x = false ∧ bt (xR (gdw t N x w T) 5 w) x = false) ∧ (xR (gdw t N x w T) 0 w = 0 → xR (gdw t N x w T) 3 w = 0) := by
  rcases gdw_3 t N x w T with ⟨c, e⟩ | ⟨c, S1, e1, ⟨d, e⟩ | ⟨d, e⟩⟩
  · have r0 : xR (uR T 3 w (bof (xR T 3 w) x)) 0 w = 2 := by rw [xR_uR, if_neg (by omega)]; exact c
    rw [e, r0]
    refine ⟨?_, fun z => absurd z (by decide), fun z => absurd z (by decide)⟩
    rw [xR_uR, if_pos ⟨rfl, rfl⟩, bt_off _ (by omega) (by omega), decide_eq_true rfl]; simp
  · have kT1 : Qk T S1 := fun k hk i => by rw [e1, rst_R, if_neg (by omega), sA_R (by omega)]
    have r0 : xR (ak t N w S1) 0 w = 1 := by rw [ak_R (by decide), if_pos rfl]; rfl
    have r3 : xR (ak t N w S1) 3 w = qm N S1 w := by rw [ak_R (by decide), if_pos rfl]; rfl
    have r4 : xR (ak t N w S1) 4 w = 0 := by rw [ak_R (by decide), if_pos rfl]; rfl
    have r5 : xR (ak t N w S1) 5 w = 0 := by rw [ak_R (by decide), if_pos rfl]; rfl
    rw [e, r0, r3, r4, r5, b_0]
    refine ⟨?_, fun _ => ⟨rfl, rfl⟩, fun z => absurd z (by decide)⟩
    rw [kT1.m]; exact hq
  · have r0 : xR S1 0 w = 0 := by rw [e1, rst_R, if_pos ⟨rfl, by omega⟩]
    have r3 : xR S1 3 w = 0 := by rw [e1, rst_R, if_pos ⟨rfl, by omega⟩]
    rw [e, r0, r3, b_0]
    exact ⟨rfl, fun z => absurd z (by decide), fun _ => rfl⟩
theorem Kx.s {t : Int32} {N x w B : Nat} {P : Nat → Nat} {T : St} (h : Kx N x B P T) (h16 : N ≤ 16) (hx : x < N) (hw : w < N) (hB : B + 1 < 1048576) (hb : bt (xR T 3 w) x = true) : Kx N x (B + 1) (fun a => P a + 2) (gdw t N x w T) := by
  obtain ⟨hI, hX, hZ, hBI, ht, h7, h7x, hz0, hP, hV⟩ := h
  have qub : ∀ {v}, v < N → ∀ i, i < N → bt (qm N T v) i = true → Ub T i := fun hv => qm_ub hBI h16 ht h7 hv
  have hq : bt (qm N T w) x = false := by
    cases z : bt (qm N T w) x with
    | false => rfl
    | true => exact absurd h7x (qub hw x hx z)
  have hset : bof (xR T 3 w) x &&& (bkm N T ^^^ (-1 : Int32)) = bof (xR T 3 w) x := by
    apply b_ext
    intro i hi
    rw [bt_minus _ _ hi, bkm_b h16 h7 hi]
    cases z : bt (bof (xR T 3 w) x) i with
    | false => rfl
    | true =>
      have e3 : xR (eF x Fn T) 3 w = bof (xR T 3 w) x := by rw [eN_R, if_pos rfl]
      have iN : i < N := by
        apply Decidable.byContradiction
        intro c
        have := hI.2.1 w (by omega) i (by omega) hi
        rw [e3, z] at this; cases this
      have ub := hX.2.2.use hw iN (by rw [e3]; exact z)
      unfold Ub at ub
      rw [eN_Rk (by decide)] at ub
      rw [decide_eq_false (fun q => ub q.2)]; rfl
  have h0 : xR T 0 w ≠ 0 := fun z => by
    rw [hz0 w (by omega) z, b_0] at hb; cases hb
  have eg := eN_gdw (t := t) h16 hx hw hset hq
  have kq := eN_Q x T
  have hQ1 : ∀ v, v < N → ∀ i, N ≤ i → i < 32 → bt (qm N (eF x Fn T) v) i = false := fun v hv i a b => by rw [kq.m]; exact qm_hi hBI h16 ht v hv i a b
  have hU1 : QU N (eF x Fn T) := QU.k (fun v hv i hi z => qub hv i hi z) kq
  obtain ⟨a1, a2, a3, a4⟩ := hdw_all (t := t) h16 hI hX hZ hB hQ1 hU1 hw (by rw [eN_Rk (by decide)]; exact h0)
  rw [← eg] at a1 a2 a3 a4
  obtain ⟨w1, w2, w3⟩ := gdw_w (t := t) (w := w) h16 hx hq
  have rk : ∀ k i, k = 7 ∨ k = 17 ∨ k = 20 → xR (gdw t N x w T) k i = xR T k i := fun k i hk => gdw_Rk (by omega)
  refine ⟨a1, a2, a3, ?_, by rw [rk 20 1 (by omega)]; exact ht, fun v hv => by rw [rk 7 v (by omega)]; exact h7 v hv, by rw [rk 7 x (by omega)]; exact h7x, fun v hv z => ?_, fun a ha => by have := a4 a ha; have := hP a ha; show Ph a (eF x Fn (gdw t N x w T)) ≤ P a + 2; omega, fun v hv z1 z2 => ?_⟩
  · intro v hv i a b
    rw [rk 17 v (by omega)]; exact hBI v hv i a b
  · by_cases c : v = w
    · subst c; exact w3 z
    · rw [gdw_Ro (by decide) c] at z ⊢; exact hz0 v hv z
  · by_cases c : v = w
    · subst c; exact w2 z2
    · rw [gdw_Ro (by decide) c] at z1 z2 ⊢
      rw [gdw_Ro (by decide) c]
      exact hV v hv z1 z2
theorem hfold {t : Int32} {N x : Nat} (h16 : N ≤ 16) (hx : x < N) {P : Nat → Nat} : ∀ (d i B : Nat) (T : St), i + d = N → B + d < 1048576 → Kx N x B (fun a => P a + 2 * i) T → xR T 3 x = 0 → (∀ v, v < i → bt (xR T 3 v) x = false) → Kx N x (B + d) (fun a => P a + 2 * N) (gdl t N x (List.range' i d) T) ∧ xR (gdl t N x (List.range' i d) T) 3 x = 0 ∧ ∀ v, v < N → bt (xR (gdl t N x (List.range' i d) T) 3 v) x = false := by
  intro d
  induction d with
  | zero =>
    intro i B T hi hB hK h3 hv
    have : i = N := by omega
    subst this
    exact ⟨hK, h3, hv⟩
  | succ d ih =>
    intro i B T hi hB hK h3 hv
    unfold gdl
    rw [List.range'_succ, List.foldl_cons]
    have mo : ∀ {B' T'}, B' ≤ B + 1 → Kx N x B' (fun a => P a + 2 * i) T' → Kx N x (B + 1) (fun a => P a + 2 * (i + 1)) T' := fun hb h => by
      obtain ⟨b1, b2, b3, b4, b5, b6, b7, b8, b9, b10⟩ := h
      exact ⟨b1.mo hb, b2, b3, b4, b5, b6, b7, b8, fun a ha => Nat.le_trans (b9 a ha) (show P a + 2 * i ≤ P a + 2 * (i + 1) by omega), b10⟩
    have go := fun T' (k : Kx N x (B + 1) (fun a => P a + 2 * (i + 1)) T') (h3' : xR T' 3 x = 0) (hv' : ∀ v, v < i + 1 → bt (xR T' 3 v) x = false) => ih (i + 1) (B + 1) T' (by omega) (by omega) k h3' hv'
    unfold gdl at go
    rw [show B + (d + 1) = B + 1 + d by omega]
    by_cases c : i = x
    · rw [if_pos c]
      exact go T (mo (Nat.le_succ B) hK) h3 (fun v hv' => by
        by_cases e : v = i
        · rw [e, c, h3]; exact b_0 _
        · exact hv v (by omega))
    · rw [if_neg c]
      by_cases b : bt (xR T 3 i) x = true
      · rw [if_pos b]
        have k := hK.s (t := t) (w := i) h16 hx (by omega) (by omega) b
        have qub : ∀ {v}, v < N → ∀ i, i < N → bt (qm N T v) i = true → Ub T i := fun hv => qm_ub hK.2.2.2.1 h16 hK.2.2.2.2.1 hK.2.2.2.2.2.1 hv
        have hq : bt (qm N T i) x = false := by
          cases z : bt (qm N T i) x with
          | false => rfl
          | true => exact absurd hK.2.2.2.2.2.2.1 (qub (show i < N by omega) x hx z)
        refine go _ ?_ (by rw [gdw_Ro (by decide) (fun z => c z.symm)]; exact h3) (fun v hv' => ?_)
        · obtain ⟨b1, b2, b3, b4, b5, b6, b7, b8, b9, b10⟩ := k
          exact ⟨b1, b2, b3, b4, b5, b6, b7, b8, fun a ha => Nat.le_trans (b9 a ha) (show P a + 2 * i + 2 ≤ P a + 2 * (i + 1) by omega), b10⟩
        · by_cases e : v = i
          · rw [e]; exact (gdw_w (t := t) (w := i) h16 hx hq).1
          · rw [gdw_Ro (by decide) e]; exact hv v (by omega)
      · rw [if_neg b]
        exact go T (mo (Nat.le_succ B) hK) h3 (fun v hv' => by
          by_cases e : v = i
          · rw [e]; cases z : bt (xR T 3 i) x with
            | false => rfl
            | true => exact absurd z b
          · exact hv v (by omega))
theorem opn_16 {S S' : St} {v a : Nat} (h0 : xR S' 0 v = xR S 0 v) (h2 : xR S' 2 v = xR S 2 v) (h3 : xR S' 3 v = xR S 3 v) : opn S' v a = opn S v a := by
  unfold opn; rw [h0, h2, h3]
theorem Inv.c16 {N A : Nat} {S S' : St} (h : Inv N A S) (h16 : N ≤ 16) (hR : ∀ k i, k < 11 → i < 16 → xR S' k i = xR S k i) (hW : ∀ a, a < 16 → xW S' a = xW S a) (hL : xL S' = xL S) : Inv N A S' := by
  obtain ⟨ja, jb, jc, jd, je, jf, jg, jh⟩ := h
  have en : ∀ v a, v < 16 → a < 16 → oe S' 99 99 none v a = oe S 99 99 none v a := fun v a hv ha => by
    rw [oe_99 hv, oe_99 hv]
    unfold eng
    rw [hR 8 a (by omega) ha, hR 9 a (by omega) ha, hW a ha]
  have op : ∀ v a, v < 16 → opn S' v a = opn S v a := fun v a hv => opn_16 (hR 0 v (by omega) hv) (hR 2 v (by omega) hv) (hR 3 v (by omega) hv)
  have zk : ∀ {v a s}, v < 16 → Zok S v a s → Zok S' v a s := fun hv z => z.ex (hR 2 _ (by omega) hv) (hR 0 _ (by omega) hv) (hR 3 _ (by omega) hv)
  refine ⟨?_, ?_, ?_, ?_, ?_, ?_, ?_, ?_⟩
  · intro v hv
    rw [hR 0 v (by omega) hv, hR 7 v (by omega) hv, hR 10 v (by omega) hv]; exact ja v hv
  · intro v hv
    rw [hR 3 v (by omega) hv]; exact jb v hv
  · intro v hv
    rw [hR 0 v (by omega) hv, hR 3 v (by omega) hv, hR 4 v (by omega) hv, hR 5 v (by omega) hv]; exact jc v hv
  · intro v hv
    rw [hR 1 v (by omega) hv, hR 2 v (by omega) hv]; exact jd v hv
  · unfold IE; rw [hL]; exact je
  · intro a ha
    rw [hR 8 a (by omega) ha, hR 9 a (by omega) ha, hR 10 a (by omega) ha, hW a ha]; exact jf a ha
  · intro v hv a ha
    rw [en v a (by omega) (by omega), op v a (by omega), hL]; exact jg v hv a ha
  · intro v hv a ha
    rw [en v a (by omega) (by omega), hL]
    obtain ⟨j1, j2, j3⟩ := jh v hv a ha
    exact ⟨fun s z => zk (by omega) (j1 s z), fun y q1 q2 => zk (by omega) (j2 y q1 q2), fun y q1 q2 => zk (by omega) (j3 y q1 q2)⟩
set_option maxHeartbeats 1000000 in
theorem bd_all {t : Int32} {N A x : Nat} {S : St} (hI : Inv N A S) (hX : IX N S) (hZ : IZ N S) (hB : BI N S) (h16 : N ≤ 16) (ht : xR S 20 1 = 1 → N % 2 = 1) (hx : x < N) (h0 : xR S 0 x = 0) (hA : A + N < 1048576) : Inv N (A + N) (bd t N x S) ∧ IX N (bd t N x S) ∧ IZ N (bd t N x S) ∧ (∀ a, a < 16 → Ph a (bd t N x S) ≤ Ph a S + (2 * N + 1)) ∧ ∀ k i, 10 < k → k ≠ 13 → k ≠ 14 → k ≠ 16 → xR (bd t N x S) k i = xR S k i := by
  have x6 : x < 16 := by omega
  have g := gfold (t := t) (A := A) h16 hx (P := fun b => Ph b S) N 0 (b0 x S) (by omega) (b0_Fg hI h16 hx) (show Inv N A (e0 x S) from e0_Inv hI h16 hx h0) (show IX N (e0 x S) from e0_IX hI hX h16 hx h0) (show IZ N (e0 x S) from e0_IZ hZ hx h16) (fun b hb => Nat.le_trans (show Ph b (e0 x S) ≤ Ph b S from e0_Ph x6 hb) (Nat.le_add_right _ _))
  generalize hT : fgl t x (List.range' 0 N) (b0 x S) = T at g
  have rT : ∀ k i, k < 8 ∨ (10 < k ∧ k ≠ 16) → xR T k i = xR (b0 x S) k i := fun k i hk => by rw [← hT]; exact fgl_R hk _ _
  have rS : ∀ k i, k < 7 ∨ (10 < k ∧ k ≠ 16) → xR T k i = xR S k i := fun k i hk => by
    rw [rT k i (by omega), b0_R, if_neg (by omega), if_neg (by omega), if_neg (by omega)]
  have r7 : ∀ i, xR T 7 i = if i = x then 1 else xR S 7 i := fun i => by
    rw [rT 7 i (by omega), b0_R]
    by_cases c : i = x
    · rw [if_pos ⟨c, rfl⟩, if_pos c]
    · rw [if_neg (fun z => c z.1), if_neg (by omega), if_neg (by omega), if_neg c]
  have Wz : ∀ a, N ≤ a → a < 16 → xW T a = [] := fun a h1 h2 => by
    have : ∀ (ws : List Nat) (U : St), (∀ w, w ∈ ws → w < N) → xW (fgl t x ws U) a = xW U a := by
      intro ws
      induction ws with
      | nil => intro U _; rfl
      | cons w ws ih =>
        intro U hw
        unfold fgl
        rw [List.foldl_cons]
        have q := ih (if w = x then U else fgt t w x U) (fun y hy => hw y (by simp [hy]))
        unfold fgl at q
        rw [q]
        split
        · rfl
        · exact fgt_Wo (by have := hw w (by simp); omega)
    rw [← hT, this _ _ (fun w hw => by rw [List.mem_range'_1] at hw; omega), b0_W, if_neg (by omega)]
    exact (hI.2.2.2.2.2.1 a h2).2.1 h1
  have se : SE (eF x (Fi N) T) (eF x Fn T) := by
    refine ⟨fun k i hk hi => ?_, fun a ha => ?_, fun l hl => rfl⟩
    · rw [eN_R, eF_R]
      by_cases k3 : k = 3
      · rw [if_pos k3, if_pos k3]
      · rw [if_neg k3, if_neg k3]
        by_cases k4 : (k = 4 ∨ k = 5) ∧ xR T 0 i = 1
        · rw [if_pos k4, if_pos k4]
        · rw [if_neg k4, if_neg k4]
          by_cases z : (8 ≤ k ∧ k ≤ 10) ∧ Fi N i = true ∧ xR T 8 i = nI x
          · exfalso
            have iN : N ≤ i := of_decide_eq_true z.2.1
            have e8 : xR T 8 i = -1 := by
              have : ∀ (ws : List Nat) (U : St), (∀ w, w ∈ ws → w < N) → xR (fgl t x ws U) 8 i = xR U 8 i := by
                intro ws
                induction ws with
                | nil => intro U _; rfl
                | cons w ws ih =>
                  intro U hw
                  unfold fgl
                  rw [List.foldl_cons]
                  have q := ih (if w = x then U else fgt t w x U) (fun y hy => hw y (by simp [hy]))
                  unfold fgl at q
                  rw [q]
                  split
                  · rfl
                  · exact fgt_R (Or.inl (by have := hw w (by simp); omega)) (by decide)
              rw [← hT, this _ _ (fun w hw => by rw [List.mem_range'_1] at hw; omega), b0_R, if_neg (by omega), if_neg (by omega), if_neg (by omega)]
              exact (hZ.2.2 i iN hi).2
            rw [e8] at z
            exact m1_ne x6 z.2.2
          · rw [if_neg z]
    · rw [eN_W, eF_W]
      by_cases c : N ≤ a
      · rw [Wz a c ha]; unfold Fi; rw [decide_eq_true c]; rfl
      · unfold Fi; rw [decide_eq_false c]; rfl
  have K0 : Kx N x A (fun a => (Ph a S + 1) + 2 * 0) T := by
    refine ⟨g.1.c16 h16 (fun k i hk hi => (se.1 k i (Or.inl hk) hi).symm) (fun a ha => (se.2.1 a ha).symm) rfl, se.tix h16 g.2.1, g.2.2.1.cg (fun k v hv hk => (se.1 k v (by omega) hv).symm) (fun v _ hv => (se.1 8 v (by omega) hv).symm), ?_, ?_, fun v hv => ?_, by rw [r7, if_pos rfl], fun v hv z => ?_, fun a ha => ?_, fun v hv z1 z2 => ?_⟩
    · intro v hv i a b
      rw [rS 17 v (by omega)]; exact hB v hv i a b
    · rw [rS 20 1 (by omega)]; exact ht
    · rw [r7]; split
      · exact Or.inr rfl
      · exact (hI.1 v hv).2.2.1
    · rw [rS 0 v (by omega)] at z
      rw [rS 3 v (by omega)]; exact hZ.2.1 v hv z
    · rw [← se.tPh a]; exact g.2.2.2 a ha
    · rw [rS 3 v (by omega)] at z1
      rw [rS 0 v (by omega)] at z2
      rw [rS 4 v (by omega), rS 5 v (by omega)]
      have ic := hI.2.2.1 v hv z2 x (by omega)
      constructor
      · cases z : bt (xR S 4 v) x with
        | false => rfl
        | true => rw [ic.1 z] at z1; cases z1
      · cases z : bt (xR S 5 v) x with
        | false => rfl
        | true => rw [ic.2 z] at z1; cases z1
  obtain ⟨k', f3, fv⟩ := hfold (t := t) h16 hx (P := fun a => Ph a S + 1) N 0 A T (by omega) hA K0 (by rw [rS 3 x (by omega)]; exact hZ.2.1 x x6 h0) (fun v hv => by omega)
  have eb : bd t N x S = gdl t N x (List.range' 0 N) T := by
    unfold bd
    rw [List.range_eq_range', hT]
  rw [eb]
  have gk : ∀ k i, 10 < k → k ≠ 13 → k ≠ 14 → k ≠ 16 → ∀ (ws : List Nat) (U : St), xR (gdl t N x ws U) k i = xR U k i := by
    intro k i h1 h2 h3 h4 ws
    induction ws with
    | nil => intro U; rfl
    | cons w ws ih =>
      intro U
      unfold gdl
      rw [List.foldl_cons]
      have q := ih (if w = x then U else if bt (xR U 3 w) x then gdw t N x w U else U)
      unfold gdl at q
      rw [q]
      split
      · rfl
      · split
        · exact gdw_Rk (by omega)
        · rfl
  have gl := fun k i h1 h2 h3 h4 => gk k i h1 h2 h3 h4 (List.range' 0 N) T
  generalize hF : gdl t N x (List.range' 0 N) T = F at k' f3 fv gl
  obtain ⟨b1, b2, b3, b4, b5, b6, b7, b8, b9, b10⟩ := k'
  have nx : ∀ v, v < 16 → bt (xR F 3 v) x = false := fun v hv => by
    by_cases c : v < N
    · exact fv v c
    · have := (b1.1 v hv).2.1 (by omega)
      rw [eN_Rk (by decide)] at this
      rw [b8 v hv this, b_0]
  have se2 : SE (eF x Fn F) F := by
    refine ⟨fun k i hk hi => ?_, fun a _ => by rw [eN_W], fun l _ => rfl⟩
    rw [eN_R]
    by_cases k3 : k = 3
    · rw [if_pos k3, k3, bof_id (by omega) (nx i hi)]
    · rw [if_neg k3]
      by_cases k4 : (k = 4 ∨ k = 5) ∧ xR F 0 i = 1
      · rw [if_pos k4]
        have := b10 i hi (nx i hi) k4.2
        rcases k4.1 with e | e
        · rw [e, bof_id (by omega) this.1]
        · rw [e, bof_id (by omega) this.2]
      · rw [if_neg k4]
  refine ⟨b1.c16 h16 (fun k i hk hi => (se2.1 k i (Or.inl hk) hi).symm) (fun a ha => (se2.2.1 a ha).symm) rfl, se2.tix h16 b2, b3.cg (fun k v hv hk => (se2.1 k v (by omega) hv).symm) (fun v _ hv => (se2.1 8 v (by omega) hv).symm), fun a ha => ?_, fun k i h1 h2 h3 h4 => ?_⟩
  · have b9' : Ph a (eF x Fn F) ≤ Ph a S + 1 + 2 * N := b9 a ha
    rw [se2.tPh a] at b9'
    omega
  · rw [gl k i h1 h2 h3 h4, rS k i (by omega)]
