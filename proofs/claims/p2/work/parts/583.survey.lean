/-! ===== the survey, the class, whole ===== -/
def Fx (M M' : Mem) : Prop := M'.1 = M.1 ∧ (∀ o, o ≠ 5 → ¬ (11 ≤ o ∧ o ≤ 13) → ∀ b, mI M' o b = mI M o b) ∧ ∀ b, b ≠ 6 → mI M' 5 b = mI M 5 b
theorem Fx.rf (M : Mem) : Fx M M := ⟨rfl, fun _ _ _ _ => rfl, fun _ _ => rfl⟩
theorem Fx.tr {M M' M'' : Mem} (h : Fx M M') (h' : Fx M' M'') : Fx M M'' := ⟨h'.1.trans h.1, fun o n n' b => (h'.2.1 o n n' b).trans (h.2.1 o n n' b), fun b n => (h'.2.2 b n).trans (h.2.2 b n)⟩
theorem Fw.x {M M' : Mem} (h : Fw M M') : Fx M M' := ⟨h.1, fun o n n' b => h.2.1 o n (by omega) b, h.2.2⟩
theorem FrLg.x {M M' : Mem} (h : FrLg M M') : Fx M M' := ⟨h.1, fun o _ _ b => h.2 o b, fun b _ => h.2 5 b⟩
theorem Fx.s {M : Mem} {o k : Nat} {x : Int32} (h : 11 ≤ o ∧ o ≤ 13) : Fx M (sI M o k x) := ⟨rfl, fun a n n' b => mI_o _ _ _ _ _ (by omega), fun b n => mI_o _ _ _ _ _ (by omega)⟩
theorem F1.x {M M' : Mem} {N : Nat} (h : F1 M 8 9 N) (f : Fx M M') : F1 M' 8 9 N := by
  obtain ⟨⟨a, b, c, d⟩, e, g⟩ := h
  have io : ∀ {c o}, isO M c o → isO M' c o := fun z => by unfold isO mN mC at *; rw [f.1]; exact z
  exact ⟨⟨io a, by rw [mR_e f.1]; exact b, io c, by rw [mLn_e f.1]; exact d⟩, by rw [f.2.1 8 (by decide) (by decide)]; exact e, by rw [f.2.1 8 (by decide) (by decide)]; exact g⟩
theorem aw80 {N b : Nat} : ∀ (d j n : Nat) (M : Mem) (c : Nat), j + d = b → W5 M → TW M c → F1 M 8 9 N → mI M 13 0 = nI b → b ≤ c → d + 1 ≤ n → ∃ M', f_X8_addWholes_80 n 5 (nI j) M = some M' ∧ FrLg M M' := by
  intro d
  induction d with
  | zero =>
    intro j n M c hj w h f hb hc hn
    obtain ⟨n, rfl⟩ : ∃ m, n = m + 1 := ⟨n - 1, by omega⟩
    have h305 := h.2.1
    obtain ⟨⟨w1, w2, w3, w4, w5, w6, w7, w8, w9⟩, ⟨y1, y2, y3, y4, y5, y6, y7, y8⟩, ⟨z1, z2, z3, z4, z5, z6⟩⟩ := w
    exact ⟨M, by rw [f_X8_addWholes_80, chk_t w1, y6, bnd_e, chk_t w9, z6, chk_t (show inB (0 : Int32) 16 by decide), show mI M 13 ((0 : Int32)).toNatClampNeg = nI b from hb, if_pos (nI_le (by omega) (by omega))], FrLg.rf M⟩
  | succ d ih =>
    intro j n M c hj w h f hb hc hn
    obtain ⟨n, rfl⟩ : ∃ m, n = m + 1 := ⟨n - 1, by omega⟩
    have h305 := h.2.1
    obtain ⟨⟨w1, w2, w3, w4, w5, w6, w7, w8, w9⟩, ⟨y1, y2, y3, y4, y5, y6, y7, y8⟩, ⟨z1, z2, z3, z4, z5, z6⟩⟩ := id w
    obtain ⟨M1, e1, f1⟩ := f.add (h.2.2 j (by omega))
    have t1 : TW M1 c := ⟨by rw [f1.2]; exact h.1, h.2.1, fun j hj => by rw [f1.2]; exact h.2.2 j hj⟩
    obtain ⟨M', e', f'⟩ := ih (j + 1) n M1 c (by omega) (w.e f1.1) t1 (f.l f1) (by rw [f1.2]; exact hb) hc (by omega)
    exact ⟨M', by rw [f_X8_addWholes_80, chk_t w1, y6, bnd_e, chk_t w9, z6, chk_t (show inB (0 : Int32) 16 by decide), show mI M 13 ((0 : Int32)).toNatClampNeg = nI b from hb, if_neg (nI_ge (by omega) (by omega)), y2, bnd_e, chk_t w4, y4, bnd_e, chk_t w7, z4, chk_t (inB_n (by omega) (by decide)), mI_c (by omega), e1, obd_s, bnd_e, nI_1]; exact e', f1.tr f'⟩
/-- the number before v -/
def nB : Nat → Int32
  | 0 => -1
  | k + 1 => nI k
theorem nB_s (k : Nat) : nI k + (-1 : Int32) = nB k := by
  cases k with
  | zero => decide
  | succ k => exact nI_d1 k
theorem aw9 {N : Nat} (h1 : 1 ≤ N) (h16 : N ≤ 16) : ∀ (k n : Nat) (M : Mem) (c : Nat), k ≤ N → W5 M → TW M c → F1 M 8 9 N → (∀ u, k ≤ u → u < N → ∃ a b, a ≤ b ∧ b ≤ c ∧ mI M 12 u = nI a ∧ mI M 13 u = nI b) → k + 1000 ≤ n → ∃ M', f_X8_addWholes_9 n 5 (nI N) (nB k) M = some M' ∧ Fx M M' := by
  intro k
  induction k with
  | zero =>
    intro n M c hk w h f pr hn
    obtain ⟨n, rfl⟩ : ∃ m, n = m + 1 := ⟨n - 1, by omega⟩
    have h305 := h.2.1
    obtain ⟨⟨w1, w2, w3, w4, w5, w6, w7, w8, w9⟩, ⟨y1, y2, y3, y4, y5, y6, y7, y8⟩, ⟨z1, z2, z3, z4, z5, z6⟩⟩ := id w
    obtain ⟨a, b, hab, hbc, ea, eb⟩ := pr 0 (Nat.zero_le _) (by omega)
    obtain ⟨M', e', f'⟩ := aw80 (b - a) a n M c (by omega) w h f eb hbc (by omega)
    exact ⟨M', by rw [f_X8_addWholes_9, if_pos (show nB 0 < (0 : Int32) by decide), chk_t w1, y5, bnd_e, chk_t w8, z5, chk_t (show inB (0 : Int32) 16 by decide), show mI M 12 ((0 : Int32)).toNatClampNeg = nI a from ea, bnd_e]; exact e', f'.x⟩
  | succ v ih =>
    intro n M c hk w h f pr hn
    obtain ⟨n, rfl⟩ : ∃ m, n = m + 1 := ⟨n - 1, by omega⟩
    have h305 := h.2.1
    have v16 : v < 16 := by omega
    obtain ⟨⟨w1, w2, w3, w4, w5, w6, w7, w8, w9⟩, ⟨y1, y2, y3, y4, y5, y6, y7, y8⟩, ⟨z1, z2, z3, z4, z5, z6⟩⟩ := id w
    have f0 : Fx M (sI M 12 v (nI c)) := Fx.s (by omega)
    generalize hM1 : sI M 12 v (nI c) = M1 at f0
    have W1 := w.e f0.1
    have t1 : TW M1 c := ⟨by rw [← hM1, mI_o _ _ _ _ _ (by decide)]; exact h.1, h.2.1, fun j hj => by rw [← hM1, mI_o _ _ _ _ _ (by decide)]; exact h.2.2 j hj⟩
    have r12 : ∀ u, u ≠ v → mI M1 12 u = mI M 12 u := fun u n => by rw [← hM1, mI_n _ _ _ _ n]
    have r12v : mI M1 12 v = nI c := by rw [← hM1, mI_s]
    have r13 : ∀ u, mI M1 13 u = mI M 13 u := fun u => by rw [← hM1, mI_o _ _ _ _ _ (by decide)]
    have rest : ∀ (M2 : Mem) (c2 : Nat), TW M2 c2 → c ≤ c2 → Fw M1 M2 → ∃ M', (chk (isO M2 8 5) <| bnd (mR M2 5 5) fun o24 => chk (isO M2 100 o24) <| chk (inB (nI v) (mLn M2 o24)) <| bnd (sI M2 o24 (nI v).toNatClampNeg (mI M2 5 6)) fun M28 => bnd (nI v + (-1 : Int32)) fun x32 => f_X8_addWholes_9 n 5 (nI N) x32 M28) = some M' ∧ Fx M M' := by
      intro M2 c2 t2 hc2 fw
      have W2 := W1.e fw.1
      obtain ⟨⟨u1, u2, u3, u4, u5, u6, u7, u8, u9⟩, ⟨x1, x2, x3, x4, x5, x6, x7, x8⟩, ⟨q1, q2, q3, q4, q5, q6⟩⟩ := id W2
      have f3 : Fx M2 (sI M2 13 v (nI c2)) := Fx.s (by omega)
      obtain ⟨M', e', f'⟩ := ih n (sI M2 13 v (nI c2)) c2 (by omega) (W2.e rfl) ⟨by rw [mI_o _ _ _ _ _ (by decide)]; exact t2.1, t2.2.1, fun j hj => by rw [mI_o _ _ _ _ _ (by decide)]; exact t2.2.2 j hj⟩ (((f.x f0).x fw.x).x f3) (fun u hu huN => by
        by_cases e : u = v
        · exact ⟨c, c2, hc2, Nat.le_refl _, by rw [e, mI_o _ _ _ _ _ (by decide), fw.2.1 12 (by decide) (by decide)]; exact r12v, by rw [e, mI_s]⟩
        · obtain ⟨a, b, hab, hbc, ea, eb⟩ := pr u (by omega) huN
          exact ⟨a, b, hab, by omega, by rw [mI_o _ _ _ _ _ (by decide), fw.2.1 12 (by decide) (by decide), r12 u e]; exact ea, by rw [mI_n _ _ _ _ e, fw.2.1 13 (by decide) (by decide), r13]; exact eb⟩) (by omega)
      exact ⟨M', by rw [chk_t u1, x6, bnd_e, chk_t u9, q6, chk_t (inB_n v16 (by decide)), t2.1, sI_c (by omega), bnd_e, nB_s, bnd_e]; exact e', (f0.tr fw.x).tr (f3.tr f')⟩
    have hd : ∀ y, (if nI N ≤ (((2 : Int32) * nI v) + (2 : Int32)) then (obd (f_X8_listWhole 5 ((1 : Int32) <<< (nI v &&& 31)) M1) fun M22 => chk (isO M22 8 5) <| bnd (mR M22 5 5) fun o24 => chk (isO M22 100 o24) <| chk (inB (nI v) (mLn M22 o24)) <| bnd (sI M22 o24 (nI v).toNatClampNeg (mI M22 5 6)) fun M28 => bnd (nI v + (-1 : Int32)) fun x32 => f_X8_addWholes_9 n 5 (nI N) x32 M28) else (obd (f_X8_listWholes n 5 (nI v) (((2 : Int32) * nI v) + (1 : Int32)) (((2 : Int32) * nI v) + (2 : Int32)) M1) fun M22 => chk (isO M22 8 5) <| bnd (mR M22 5 5) fun o24 => chk (isO M22 100 o24) <| chk (inB (nI v) (mLn M22 o24)) <| bnd (sI M22 o24 (nI v).toNatClampNeg (mI M22 5 6)) fun M28 => bnd (nI v + (-1 : Int32)) fun x32 => f_X8_addWholes_9 n 5 (nI N) x32 M28)) = y → f_X8_addWholes_9 (n + 1) 5 (nI N) (nB (v + 1)) M = y := by
      intro y hy
      rw [show nB (v + 1) = nI v from rfl, f_X8_addWholes_9, if_neg (show ¬ nI v < (0 : Int32) from nI_nlt (b := 0) (Nat.zero_le _) (by omega)), chk_t w1, y5, bnd_e, chk_t w8, z5, chk_t (inB_n v16 (by decide)), h.1, sI_c (by omega), hM1, bnd_e]
      exact hy
    have e22 : ((2 : Int32) * nI v) + (2 : Int32) = nI (2 * v + 2) := by rw [show (2 : Int32) = nI 2 from rfl, pk_mul, nI_add]
    have e21 : ((2 : Int32) * nI v) + (1 : Int32) = nI (2 * v + 1) := by rw [show (2 : Int32) = nI 2 from rfl, pk_mul, nI_1]
    by_cases leaf : N ≤ 2 * v + 2
    · obtain ⟨M2, c2, e2, t2, k2, fw⟩ := lw1 W1 t1 (SO.one v16)
      obtain ⟨M', e', f'⟩ := rest M2 c2 t2 k2 fw
      exact ⟨M', hd _ (by rw [e22, if_pos (nI_le leaf (by omega)), e2, obd_s]; exact e'), f'⟩
    · obtain ⟨al, bl, hl1, hl2, el1, el2⟩ := pr (2 * v + 1) (by omega) (by omega)
      obtain ⟨ar, br, hr1, hr2, er1, er2⟩ := pr (2 * v + 2) (by omega) (by omega)
      have a1 : mI M1 12 (2 * v + 1) = nI al := by rw [r12 _ (by omega)]; exact el1
      obtain ⟨M2, c2, e2, t2, k2, fw⟩ := lw8 (v := v) (l := 2 * v + 1) (r := 2 * v + 2) v16 (by omega) (by omega) hr1 hl2 hr2 (bl - al) al n M1 c (by omega) W1 t1 (Nat.le_refl _) (by rw [r12 _ (by omega)]; exact er1) (by rw [r13]; exact er2) (by rw [r13]; exact el2) (by omega)
      obtain ⟨M', e', f'⟩ := rest M2 c2 t2 k2 fw
      obtain ⟨⟨u1, u2, u3, u4, u5, u6, u7, u8, u9⟩, ⟨x1, x2, x3, x4, x5, x6, x7, x8⟩, ⟨q1, q2, q3, q4, q5, q6⟩⟩ := id W1
      have eW : f_X8_listWholes n 5 (nI v) (nI (2 * v + 1)) (nI (2 * v + 2)) M1 = some M2 := by
        rw [f_X8_listWholes, chk_t u1, x5, bnd_e, chk_t u8, q5, chk_t (inB_n (by omega) (by decide)), mI_c (by omega), a1, bnd_e]
        exact e2
      exact ⟨M', hd _ (by rw [e22, e21, if_neg (nI_ge (by omega) (by omega)), eW, obd_s]; exact e'), f'⟩
theorem awh {N : Nat} (h1 : 1 ≤ N) (h16 : N ≤ 16) {M : Mem} (w : W5 M) (f : F1 M 8 9 N) {n : Nat} (hn : 1100 ≤ n) : ∃ M', f_X8_addWholes n 5 (nI N) M = some M' ∧ Fx M M' := by
  obtain ⟨⟨w1, w2, w3, w4, w5, w6, w7, w8, w9⟩, _, _⟩ := id w
  have f0 : Fx M (sI M 5 6 0) := ⟨rfl, fun o n _ b => mI_o _ _ _ _ _ n, fun b n => mI_n _ _ _ _ n⟩
  obtain ⟨M', e', f'⟩ := aw9 h1 h16 N n (sI M 5 6 0) 0 (Nat.le_refl _) (w.e rfl) ⟨mI_s _ _ _ _, by decide, fun j hj => by omega⟩ (f.x f0) (fun u a b => by omega) (by omega)
  refine ⟨M', ?_, f0.tr f'⟩
  have eN : nI N - (1 : Int32) = nB N := by
    obtain ⟨m, rfl⟩ : ∃ m, N = m + 1 := ⟨N - 1, by omega⟩
    exact nI_pred m
  rw [f_X8_addWholes, chk_t w1, bnd_e, eN, bnd_e]
  exact e'
/-- what a survey changes -/
def Fs (M M' : Mem) : Prop := M'.1 = M.1 ∧ ∀ o, ¬ (5 ≤ o ∧ o ≤ 13) → ∀ b, mI M' o b = mI M o b
theorem Fs.rf (M : Mem) : Fs M M := ⟨rfl, fun _ _ _ => rfl⟩
theorem Fs.tr {M M' M'' : Mem} (h : Fs M M') (h' : Fs M' M'') : Fs M M'' := ⟨h'.1.trans h.1, fun o n b => (h'.2 o n b).trans (h.2 o n b)⟩
theorem Fx.f {M M' : Mem} (h : Fx M M') : Fs M M' := ⟨h.1, fun o n b => h.2.1 o (by omega) (by omega) b⟩
/-- after a survey -/
def SV5 (M : Mem) (N : Nat) : Prop := W5 M ∧ F1 M 6 7 N ∧ F1 M 8 9 N
theorem SV5.l {M M' : Mem} {N : Nat} (h : SV5 M N) (f : FrLg M M') : SV5 M' N := ⟨h.1.e f.1, h.2.1.l f, h.2.2.l f⟩
theorem tk79 {M : Mem} {N : Nat} (h16 : N ≤ 16) (h : SV5 M N) {n : Nat} (hn : 1100 ≤ n) : ∃ M', f_X8_take_79 n 5 M = some M' ∧ Fs M M' ∧ SV5 M' N ∧ mI M' 5 7 = 1 := by
  obtain ⟨w, f6, f8⟩ := h
  obtain ⟨M1, e1, l1⟩ := f6.ag h16 (n := n) hn
  have f81 := f8.l l1
  obtain ⟨M2, e2, l2⟩ := f81.ag h16 (n := n) hn
  have W1 := w.e l1.1
  have W2 := W1.e l2.1
  have l := l1.tr l2
  have fs : Fs M2 (sI M2 5 7 1) := ⟨rfl, fun o n b => mI_o _ _ _ _ _ (by omega)⟩
  have fl : Fs M M2 := ⟨l.1, fun o _ b => l.2 o b⟩
  have s6 : F1 (sI M2 5 7 1) 6 7 N := by
    obtain ⟨a, b, c⟩ := f6.l l
    exact ⟨a, by rw [mI_o _ _ _ _ _ (by decide)]; exact b, by rw [mI_o _ _ _ _ _ (by decide)]; exact c⟩
  have s8 : F1 (sI M2 5 7 1) 8 9 N := by
    obtain ⟨a, b, c⟩ := f8.l l
    exact ⟨a, by rw [mI_o _ _ _ _ _ (by decide)]; exact b, by rw [mI_o _ _ _ _ _ (by decide)]; exact c⟩
  exact ⟨sI M2 5 7 1, by rw [f_X8_take_79, chk_t w.1.1, w.2.1.1, bnd_e, chk_t w.1.2.1, e1, obd_s, chk_t W1.1.1, W1.2.1.2.1, bnd_e, chk_t W1.1.2.2.2.1, e2, obd_s, chk_t W2.1.1, chk_t (Or.inr rfl), bnd_e], fl.tr fs, ⟨W2.e rfl, s6, s8⟩, mI_s _ _ _ _⟩
theorem tk24 {N : Nat} {S : St} (h1 : 1 ≤ N) (h16 : N ≤ 16) (hB : ∀ v, v < N → SO (xR S 17 v)) : ∀ (d i n : Nat) (M : Mem), i + d = N → SB M N S → SV5 M N → d + 1200 ≤ n → ∃ M', f_X8_take_24 n 5 1 (nI i) M = some M' ∧ Fs M M' ∧ SV5 M' N ∧ mI M' 5 7 = 1 := by
  intro d
  induction d with
  | zero =>
    intro i n M hi sb h hn
    obtain ⟨n, rfl⟩ : ∃ m, n = m + 1 := ⟨n - 1, by omega⟩
    obtain ⟨w, f6, f8⟩ := id h
    rw [f_X8_take_24, sb.f, sb.n, if_pos (nI_le (by omega) (by omega))]
    by_cases c : mI M 1 4 = 0
    · rw [if_pos c]; exact tk79 h16 h (by omega)
    · obtain ⟨M1, e1, x1⟩ := awh h1 h16 w f8 (n := n) (by omega)
      have s6 : F1 M1 6 7 N := by
        obtain ⟨⟨a, b, c, d⟩, e, g⟩ := f6
        have io : ∀ {c o}, isO M c o → isO M1 c o := fun z => by unfold isO mN mC at *; rw [x1.1]; exact z
        exact ⟨⟨io a, by rw [mR_e x1.1]; exact b, io c, by rw [mLn_e x1.1]; exact d⟩, by rw [x1.2.1 6 (by decide) (by decide)]; exact e, by rw [x1.2.1 6 (by decide) (by decide)]; exact g⟩
      obtain ⟨M', e', f', R⟩ := tk79 h16 (show SV5 M1 N from ⟨w.e x1.1, s6, f8.x x1⟩) (n := n) (by omega)
      exact ⟨M', by rw [if_neg c, chk_t w.1.1, e1, obd_s]; exact e', x1.f.tr f', R⟩
  | succ d ih =>
    intro i n M hi sb h hn
    obtain ⟨n, rfl⟩ : ∃ m, n = m + 1 := ⟨n - 1, by omega⟩
    obtain ⟨w, f6, f8⟩ := id h
    have so : SO (mI M 2 (nI i).toNatClampNeg) := by rw [mI_c (by omega), sb.b (by omega)]; exact hB i (by omega)
    obtain ⟨M1, e1, l1⟩ := f6.add so
    have W1 := w.e l1.1
    have sb1 : SB M1 N S := sb.e l1.1 (fun b => l1.2 1 b) (fun b => l1.2 2 b)
    have so1 : SO (mI M1 2 (nI i).toNatClampNeg) := by rw [l1.2]; exact so
    obtain ⟨M2, e2, l2⟩ := (f8.l l1).add so1
    have l := l1.tr l2
    obtain ⟨M', e', f', R⟩ := ih (i + 1) n M2 (by omega) (sb.e l.1 (fun b => l.2 1 b) (fun b => l.2 2 b)) (h.l l) (by omega)
    exact ⟨M', by rw [f_X8_take_24, sb.f, sb.n, if_neg (nI_ge (by omega) (by omega)), chk_t w.1.1, w.2.1.1, bnd_e, chk_t w.1.2.1, sb.r2, bnd_e, sb.a2, sb.i2 (by omega), e1, obd_s, chk_t W1.1.1, W1.2.1.2.1, bnd_e, chk_t W1.1.2.2.2.1, sb1.f, sb1.r2, bnd_e, sb1.a2, sb1.i2 (by omega), e2, obd_s, bnd_e, nI_1]; exact e', Fs.tr ⟨l.1, fun o _ b => l.2 o b⟩ f', R⟩
theorem sv1 {M : Mem} {N : Nat} {S : St} (xg : XG M) (xv : XV0 M N) (sb : SB M N S) (h1 : 1 ≤ N) (h16 : N ≤ 16) (hB : ∀ v, v < N → SO (xR S 17 v)) {n : Nat} (hn : 1300 ≤ n) : ∃ M', f_X9_surveyOnce n 0 M = some M' ∧ Fs M M' ∧ SV5 M' N ∧ mI M' 5 7 = 1 := by
  obtain ⟨a, b, c, d⟩ := xv
  have w : W5 M := ⟨a, b, c⟩
  have q6 : isO M 1 6 ∧ mR M 6 0 = 7 ∧ isO M 101 7 ∧ mLn M 7 = 1024 := ⟨w.1.2.1, w.2.1.2.2.2.2.2.2.1, w.1.2.2.1, w.2.2.1⟩
  have q8 : isO M 1 8 ∧ mR M 8 0 = 9 ∧ isO M 101 9 ∧ mLn M 9 = 1024 := ⟨w.1.2.2.2.1, w.2.1.2.2.2.2.2.2.2, w.1.2.2.2.2.1, w.2.2.2.1⟩
  by_cases z : mI M 5 7 = 0
  · obtain ⟨M1, e1, f1, s1, o1⟩ := bg_1 (o := 6) (q := 7) h16 q6 (n := n) (by omega)
    have W1 := w.e s1
    have q81 : isO M1 1 8 ∧ mR M1 8 0 = 9 ∧ isO M1 101 9 ∧ mLn M1 9 = 1024 := ⟨W1.1.2.2.2.1, W1.2.1.2.2.2.2.2.2.2, W1.1.2.2.2.2.1, W1.2.2.2.1⟩
    have sb1 : SB M1 N S := sb.e s1 (o1 1 (by decide)) (o1 2 (by decide))
    obtain ⟨M2, e2, f2, s2, o2⟩ := bg_1 (o := 8) (q := 9) h16 q81 (n := n) (by omega)
    have sb2 : SB M2 N S := sb1.e s2 (o2 1 (by decide)) (o2 2 (by decide))
    have f12 : F1 M2 6 7 N := by
      obtain ⟨⟨a, b, c, d⟩, e, g⟩ := f1
      have io : ∀ {c o}, isO M1 c o → isO M2 c o := fun z => by unfold isO mN mC at *; rw [s2]; exact z
      exact ⟨⟨io a, by rw [mR_e s2]; exact b, io c, by rw [mLn_e s2]; exact d⟩, by rw [o2 6 (by decide)]; exact e, by rw [o2 6 (by decide)]; exact g⟩
    have W2 := W1.e s2
    obtain ⟨M', e', f', R⟩ := tk24 h1 h16 hB N 0 n M2 (by omega) sb2 ⟨W2, f12, f2⟩ (by omega)
    refine ⟨M', ?_, Fs.tr ⟨s2.trans s1, fun o n b => by rw [o2 o (by omega), o1 o (by omega)]⟩ f', R⟩
    rw [f_X9_surveyOnce, chk_t xg.1, xg.2.2.1, bnd_e, chk_t w.1.1, if_pos z, bnd_e, chk_t w.1.1, xg.2.1, bnd_e, sb.f, f_X8_take, chk_t w.1.1, w.2.1.1, bnd_e, chk_t w.1.2.1, sb.f, sb.n, e1, obd_s, chk_t W1.1.1, W1.2.1.2.1, bnd_e, chk_t W1.1.2.2.2.1, sb1.f, sb1.n, e2, obd_s]
    rw [show f_X8_take_24 n 5 1 0 M2 = some M' from e', obd_s]
  · obtain ⟨d1, d2, d3, d4, d5⟩ := d.resolve_left z
    exact ⟨M, by rw [f_X9_surveyOnce, chk_t xg.1, xg.2.2.1, bnd_e, chk_t w.1.1, if_neg z], Fs.rf M, ⟨w, ⟨q6, d2, d3⟩, ⟨q8, d4, d5⟩⟩, d1⟩
