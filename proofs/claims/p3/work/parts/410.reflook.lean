/-! ===== the reference looks at a state, and moves on from it ===== -/
def sTwo (N : Nat) (S : St) : Bool := !decide (pcI N S ≤ 1)
def sStk (N : Nat) (ask : Int32) (sn : Nat → Int32) (S : St) : Bool := (mvl N S ask sn).isEmpty && (List.range N).any fun v => decide (xR S 0 v = 1)
def cTwo (N : Nat) (l : List (St × Nat)) : Nat := (l.filter fun p => sTwo N p.1).length
def cStk (N : Nat) (ask : Int32) (sn : Nat → Int32) (l : List (St × Nat)) : Nat := (l.filter fun p => sStk N ask sn p.1).length
def cMx (l : List (St × Nat)) : Nat := l.foldl (fun m p => max m (fl p.1).length) 0
def cSon (v : Nat) (l : List (St × Nat)) : Int32 := l.foldl (fun x p => if x = -1 then (if xR p.1 0 v = 2 then nI p.2 else -1) else x) (-1)
def nodI : Option Nat → Int32
  | none => -1
  | some v => nI v
def cNod (nd : Option Nat) (l : List (St × Nat)) : Int32 := match nd with
  | none => -1
  | some v => cSon v l
theorem pcI_s {N : Nat} {S S' : St} (h : ∀ w, w < N → xR S' 0 w = xR S 0 w) : pcI N S' = pcI N S := by
  unfold pcI
  congr 1
  apply List.filter_congr
  intro w _
  by_cases c : w < N
  · rw [h w c]
  · simp [c]
section
variable {S S' : St}
theorem SE.two (h : SE S S') {N : Nat} (h16 : N ≤ 16) : sTwo N S = sTwo N S' := by
  unfold sTwo
  rw [pcI_s (S := S') (S' := S) (fun w hw => h.1 0 w (by omega) (by omega))]
theorem SE.ask0 (h : SE S S') {N : Nat} (h16 : N ≤ 16) : ((List.range N).any fun v => decide (xR S 0 v = 1)) = (List.range N).any fun v => decide (xR S' 0 v = 1) := by
  rw [Bool.eq_iff_iff, List.any_eq_true, List.any_eq_true]
  constructor
  · rintro ⟨v, hv, z⟩
    exact ⟨v, hv, by rw [← h.1 0 v (by omega) (by have := List.mem_range.mp hv; omega)]; exact z⟩
  · rintro ⟨v, hv, z⟩
    exact ⟨v, hv, by rw [h.1 0 v (by omega) (by have := List.mem_range.mp hv; omega)]; exact z⟩
end
theorem ct_s {l : List (St × Nat)} {p : St × Nat} (f : St × Nat → Bool) : ((l ++ [p]).filter f).length = (l.filter f).length + (if f p then 1 else 0) := by
  rw [List.filter_append, List.length_append]
  congr 1
  cases e : f p
  · rw [List.filter_cons_of_neg (by rw [e]; decide)]; rfl
  · rw [List.filter_cons_of_pos e]; rfl
theorem cMx_s (l : List (St × Nat)) (p : St × Nat) : cMx (l ++ [p]) = max (cMx l) (fl p.1).length := by
  unfold cMx
  rw [List.foldl_append]
  rfl
theorem cSon_s (v : Nat) (l : List (St × Nat)) (p : St × Nat) : cSon v (l ++ [p]) = if cSon v l = -1 then (if xR p.1 0 v = 2 then nI p.2 else -1) else cSon v l := by
  unfold cSon
  rw [List.foldl_append]
  rfl
theorem take_s {l : List (St × Nat)} {i : Nat} {p : St × Nat} (h : l[i]? = some p) : l.take (i + 1) = l.take i ++ [p] := by
  rw [List.take_succ, h]
  rfl
/-- what the reference has counted of the first i states -/
def RC (N : Nat) (ask : Int32) (sn : Nat → Int32) (nd : Option Nat) (M : Mem) (l : List (St × Nat)) : Prop := mI M 120 15 = nI (cTwo N l) ∧ mI M 120 16 = nI (cStk N ask sn l) ∧ mI M 120 17 = nI (cMx l) ∧ mI M 120 18 = cNod nd l
theorem RC.cg {N : Nat} {ask : Int32} {sn : Nat → Int32} {nd : Option Nat} {M M' : Mem} {l : List (St × Nat)} (h : RC N ask sn nd M l) (e : ∀ b, 15 ≤ b → b ≤ 18 → mI M' 120 b = mI M 120 b) : RC N ask sn nd M' l := by
  obtain ⟨a, b, c, d⟩ := h
  exact ⟨by rw [e 15 (by decide) (by decide)]; exact a, by rw [e 16 (by decide) (by decide)]; exact b, by rw [e 17 (by decide) (by decide)]; exact c, by rw [e 18 (by decide) (by decide)]; exact d⟩
theorem RQ.cg {N A P : Nat} {S0 : St} {M M' : Mem} {q : Bq} (h : RQ N A P S0 M q) (e13 : mI M' 120 13 = mI M 120 13) (e14 : mI M' 120 14 = mI M 120 14) (e8 : ∀ b, mI M' 128 b = mI M 128 b) (e9 : ∀ b, mI M' 129 b = mI M 129 b) : RQ N A P S0 M' q := by
  obtain ⟨a, b, c⟩ := h
  refine ⟨by rw [e13]; exact a, by rw [e14]; exact b, fun i p hp => ?_⟩
  obtain ⟨⟨Si, z1, z2, z3⟩, z4⟩ := c i p hp
  exact ⟨⟨Si, z1, z2.cg (fun b _ _ => e8 b), z3⟩, by rw [e9]; exact z4⟩
/-- the reference's numbers and the row of moves alone have changed -/
def FrK (M M' : Mem) : Prop := M'.1 = M.1 ∧ (∀ o, ¬ (120 ≤ o ∧ o ≤ 124) → ∀ b, mI M' o b = mI M o b) ∧ (∀ b, b ≠ 6 → b < 15 ∨ 18 < b → mI M' 120 b = mI M 120 b) ∧ ∀ o b, mL M' o b = mL M o b
theorem FrK.ofM {M M' : Mem} (f : FrM M M') : FrK M M' := ⟨f.1, f.2.1, fun b h _ => f.2.2.1 b h, f.2.2.2⟩
theorem FrK.tr {M M' M'' : Mem} (h : FrK M M') (h' : FrK M' M'') : FrK M M'' :=
  ⟨h'.1.trans h.1, fun o q k => (h'.2.1 o q k).trans (h.2.1 o q k), fun k a b => (h'.2.2.1 k a b).trans (h.2.2.1 k a b), fun o k => (h'.2.2.2 o k).trans (h.2.2.2 o k)⟩
theorem FrK.sI {M : Mem} {k : Nat} {x : Int32} (h : 15 ≤ k ∧ k ≤ 18) : FrK M (sI M 120 k x) :=
  ⟨rfl, fun o n b => mI_o _ _ _ _ _ (by omega), fun b _ h2 => mI_n _ _ _ _ (by omega), fun _ _ => rfl⟩
theorem FrK.rf (M : Mem) : FrK M M := ⟨rfl, fun _ _ _ => rfl, fun _ _ _ => rfl, fun _ _ => rfl⟩
theorem RV.fk {M : Mem} {t : Int32} {S : St} {pb pt : List Row4} (p : RV M false t S pb pt) {k : Nat} {x : Int32} (h : 15 ≤ k ∧ k ≤ 18) : RV (sI M 120 k x) false t S pb pt :=
  p.cg rfl (mI_n _ _ _ _ (by omega)) (fun b => mI_o _ _ _ _ _ (by decide)) (fun b => mI_o _ _ _ _ _ (by decide))
theorem RV.mvN {M : Mem} {t : Int32} {S : St} {pb pt : List Row4} (p : RV M false t S pb pt) {N n : Nat} (hN : xR S 20 0 = nI N) (h16 : N ≤ 16) (ht : xR S 20 1 = 1 → N % 2 = 1) {ask : Int32} {sn : Nat → Int32} (hask : mI M 120 7 = ask) (hsn : ∀ v, v < N → mI M 125 v = sn v) (hn : 9200 ≤ n) : ∃ M', f_X10_movesNow n 120 M = some (nI (mvl N S ask sn).length, M') ∧ RV M' false t S pb pt ∧ FrM M M' := by
  obtain ⟨M1, e1, p1, m1, f1⟩ := p.lay hN h16 ht hask hsn hn
  refine ⟨M1, ?_, p1, f1⟩
  rw [f_X10_movesNow, rs_f p.1, e1, obd_s, rs_f p1.1, m1.1, mvc_e h16, List.length_map]
set_option maxHeartbeats 1000000 in
theorem RV.look {N n i d : Nat} {M : Mem} {t : Int32} {S : St} {pb pt : List Row4} {q : Bq} {p0 : St × Nat} {ask : Int32} {sn : Nat → Int32} {nd : Option Nat} (p : RV M false t S pb pt) (h2N : 2 ≤ N) (hN : xR S 20 0 = nI N) (h16 : N ≤ 16) (ht : xR S 20 1 = 1 → N % 2 = 1) (hask : mI M 120 7 = ask) (hsn : ∀ v, v < N → mI M 125 v = sn v) (hS : SE S p0.1) (hp : q.1[i]? = some p0) (hi : i < 40) (hd : mI M 129 i = nI p0.2) (hnd : ∀ v, nd = some v → v < N) (hc : RC N ask sn nd M (q.1.take i)) (hc32 : cTwo N (q.1.take i) < 100 ∧ cStk N ask sn (q.1.take i) < 100) (hmx : cMx (q.1.take i) ≤ 9000) (hn : 9300 ≤ n) : ∃ M', f_X10_look n 120 (nodI nd) (nI i) M = some M' ∧ RV M' false t S pb pt ∧ RC N ask sn nd M' (q.1.take (i + 1)) ∧ FrK M M' := by
  obtain ⟨c15, c16, c17, c18⟩ := hc
  rw [take_s hp]
  obtain ⟨y, ey, hy⟩ := p.insd hN h16 (n := n) (by omega)
  have em := f_many (x := y) (fun j hj1 hj2 => by rw [hy j hj2]; simp; omega) (n := n) (by omega) M
  have hpc := pc_mask hy
  have p32 := pc_le y
  have lenS : (fl S).length = (fl p0.1).length := len_lq (fl_lk.mp hS.2.2)
  -- the last two
  have e45 : ∀ {M : Mem}, RV M false t S pb pt → mI M 129 i = nI p0.2 → mI M 120 17 = nI (cMx (q.1.take i)) → mI M 120 18 = cNod nd (q.1.take i) → ∃ M', f_X10_look_45 n 120 (nodI nd) (nI i) M = some M' ∧ RV M' false t S pb pt ∧ mI M' 120 17 = nI (cMx (q.1.take i ++ [p0])) ∧ mI M' 120 18 = cNod nd (q.1.take i ++ [p0]) ∧ mI M' 120 15 = mI M 120 15 ∧ mI M' 120 16 = mI M 120 16 ∧ FrK M M' := by
    intro M p hd c17 c18
    have e72 : ∀ {M : Mem}, RV M false t S pb pt → mI M 129 i = nI p0.2 → mI M 120 18 = cNod nd (q.1.take i) → ∃ M', f_X10_look_72 n 120 (nodI nd) (nI i) M = some M' ∧ RV M' false t S pb pt ∧ mI M' 120 18 = cNod nd (q.1.take i ++ [p0]) ∧ (∀ b, b ≠ 18 → mI M' 120 b = mI M 120 b) ∧ FrK M M' := by
      intro M p hd c18
      cases nd with
      | none =>
        refine ⟨M, ?_, p, c18, fun _ _ => rfl, FrK.rf M⟩
        rw [f_X10_look_72, if_pos (show nodI none = (-1 : Int32) from rfl)]
      | some v =>
        have hv := hnd v rfl
        have e0 : f_X10_get 120 (nI v) (0 : Int32) M = some (xR p0.1 0 v) := by rw [p.get0 (by omega), hS.1 0 v (by omega) (by omega)]
        have c18' : mI M 120 18 = cSon v (q.1.take i) := c18
        have s := cSon_s v (q.1.take i) p0
        have hne : ¬ nodI (some v) = (-1 : Int32) := nI_m1 (by omega)
        by_cases d1 : cSon v (q.1.take i) = -1
        · rw [if_pos d1] at s
          by_cases d2 : xR p0.1 0 v = 2
          · rw [if_pos d2] at s
            refine ⟨sI M 120 18 (nI p0.2), ?_, p.fk (by decide), by rw [mI_s]; exact s.symm, fun b n => mI_n _ _ _ _ n, FrK.sI (by decide)⟩
            rw [f_X10_look_72, if_neg hne, rs_f p.1, c18', if_pos d1, show f_X10_get 120 (nodI (some v)) 0 M = _ from e0, obd_s, if_pos d2, rs_12 p.1, bnd_e, rs_f12 p.1, rs_c12 p.1 hi, mI_c (by omega), hd, bnd_e]
          · rw [if_neg d2] at s
            refine ⟨M, ?_, p, by rw [c18']; exact d1.trans s.symm, fun _ _ => rfl, FrK.rf M⟩
            rw [f_X10_look_72, if_neg hne, rs_f p.1, c18', if_pos d1, show f_X10_get 120 (nodI (some v)) 0 M = _ from e0, obd_s, if_neg d2]
        · rw [if_neg d1] at s
          refine ⟨M, ?_, p, by rw [c18']; exact s.symm, fun _ _ => rfl, FrK.rf M⟩
          rw [f_X10_look_72, if_neg hne, rs_f p.1, c18', if_neg d1]
    have l850 := p.2.2.2.2.1
    have g850 : mI M 121 850 = nI (fl p0.1).length := by rw [← lenS]; exact l850.1
    have g850' : mI M 121 (nI 850).toNatClampNeg = nI (fl p0.1).length := by rw [mI_c (by decide)]; exact g850
    have l9 : (fl p0.1).length ≤ 9000 := by rw [← lenS]; exact l850.2.1
    by_cases c : (fl p0.1).length ≤ cMx (q.1.take i)
    · obtain ⟨M', e', p', h18, ho, f'⟩ := e72 p hd c18
      refine ⟨M', ?_, p', by rw [ho 17 (by decide), c17, cMx_s, Nat.max_eq_left c], h18, ho 15 (by decide), ho 16 (by decide), f'⟩
      rw [f_X10_look_45, rs_f p.1, rs_0 p.1, bnd_e, rs_fa p.1, show (850 : Int32) = nI 850 from rfl, rs_c p.1 (by decide), g850', c17, if_pos (nI_le c (by omega)), e']
    · have pk := p.fk (k := 17) (x := nI (fl p0.1).length) (by decide)
      obtain ⟨M', e', p', h18, ho, f'⟩ := e72 pk (by rw [mI_o _ _ _ _ _ (by decide)]; exact hd) (by rw [mI_n _ _ _ _ (by decide)]; exact c18)
      refine ⟨M', ?_, p', by rw [ho 17 (by decide), mI_s, cMx_s, Nat.max_eq_right (by omega)], h18, by rw [ho 15 (by decide), mI_n _ _ _ _ (by decide)], by rw [ho 16 (by decide), mI_n _ _ _ _ (by decide)], (FrK.sI (by decide)).tr f'⟩
      rw [f_X10_look_45, rs_f p.1, rs_0 p.1, bnd_e, rs_fa p.1, show (850 : Int32) = nI 850 from rfl, rs_c p.1 (by decide), g850', c17, if_neg (nI_ge (by omega) (by omega)), bnd_e, rs_fa p.1, rs_c p.1 (by decide), g850', bnd_e, e']
  have e21 : ∀ {M : Mem}, RV M false t S pb pt → mI M 120 7 = ask → (∀ v, v < N → mI M 125 v = sn v) → mI M 129 i = nI p0.2 → mI M 120 16 = nI (cStk N ask sn (q.1.take i)) → mI M 120 17 = nI (cMx (q.1.take i)) → mI M 120 18 = cNod nd (q.1.take i) → ∃ M', f_X10_look_21 n 120 (nodI nd) (nI i) M = some M' ∧ RV M' false t S pb pt ∧ mI M' 120 16 = nI (cStk N ask sn (q.1.take i ++ [p0])) ∧ mI M' 120 17 = nI (cMx (q.1.take i ++ [p0])) ∧ mI M' 120 18 = cNod nd (q.1.take i ++ [p0]) ∧ mI M' 120 15 = mI M 120 15 ∧ FrK M M' := by
    intro M p hask hsn hd c16 c17 c18
    obtain ⟨M1, e1, p1, f1⟩ := p.mvN hN h16 ht hask hsn (n := n) (by omega)
    have k1 : ∀ b, b ≠ 6 → mI M1 120 b = mI M 120 b := f1.2.2.1
    have hd1 : mI M1 129 i = nI p0.2 := (f1.2.1 129 (by decide) i).trans hd
    have hmv : mvl N S ask sn = mvl N p0.1 ask sn := hS.sy.tmv h16 ask (fun _ _ => rfl)
    have hml := mvl_len (N := N) S ask sn
    have cs : cStk N ask sn (q.1.take i ++ [p0]) = cStk N ask sn (q.1.take i) + (if sStk N ask sn p0.1 then 1 else 0) := ct_s (fun p => sStk N ask sn p.1)
    have no : sStk N ask sn p0.1 = false → ∃ M', f_X10_look_45 n 120 (nodI nd) (nI i) M1 = some M' ∧ RV M' false t S pb pt ∧ mI M' 120 16 = nI (cStk N ask sn (q.1.take i ++ [p0])) ∧ mI M' 120 17 = nI (cMx (q.1.take i ++ [p0])) ∧ mI M' 120 18 = cNod nd (q.1.take i ++ [p0]) ∧ mI M' 120 15 = mI M 120 15 ∧ FrK M M' := by
      intro z
      obtain ⟨M', e', p', h17, h18, h15, h16', f'⟩ := e45 p1 hd1 ((k1 17 (by decide)).trans c17) ((k1 18 (by decide)).trans c18)
      refine ⟨M', e', p', ?_, h17, h18, by rw [h15, k1 15 (by decide)], (FrK.ofM f1).tr f'⟩
      rw [h16', k1 16 (by decide), c16, cs, z]
      rfl
    by_cases c : mvl N S ask sn = []
    · obtain ⟨z, ez, hz⟩ := p1.askg hN h16 (n := n) (by omega)
      by_cases c2 : z = 0
      · have hs : sStk N ask sn p0.1 = false := by
          unfold sStk
          have : ((List.range N).any fun v => decide (xR p0.1 0 v = 1)) = false := by
            rw [← hS.ask0 h16]
            rw [Bool.eq_false_iff]
            intro w
            obtain ⟨v, hv, hw⟩ := List.any_eq_true.mp w
            have hv' := List.mem_range.mp hv
            have := bt_z.mp c2 v (by omega)
            rw [hz v (by omega)] at this
            have := of_decide_eq_false this
            exact this ⟨hv', of_decide_eq_true hw⟩
          rw [this, Bool.and_false]
        obtain ⟨M', e', r⟩ := no hs
        refine ⟨M', ?_, r⟩
        rw [f_X10_look_21, rs_f p.1, e1, obd2_s, c, if_pos (show nI ([] : List Nat).length = 0 from rfl), rs_f p1.1, ez, obd_s, if_pos c2, e']
      · have hs : sStk N ask sn p0.1 = true := by
          unfold sStk
          rw [← hmv, c]
          have : ((List.range N).any fun v => decide (xR p0.1 0 v = 1)) = true := by
            rw [← hS.ask0 h16]
            cases e : (List.range N).any fun v => decide (xR S 0 v = 1) with
            | true => rfl
            | false =>
              exfalso
              apply c2
              rw [bt_z]
              intro v hv
              rw [hz v hv]
              by_cases w : v < N ∧ xR S 0 v = 1
              · have := List.any_eq_false.mp e v (List.mem_range.mpr w.1)
                exact absurd (decide_eq_true w.2) this
              · exact decide_eq_false w
          rw [this]
          rfl
        have pk := p1.fk (k := 16) (x := nI (cStk N ask sn (q.1.take i) + 1)) (by decide)
        obtain ⟨M', e', p', h17, h18, h15, h16', f'⟩ := e45 pk (by rw [mI_o _ _ _ _ _ (by decide)]; exact hd1) (by rw [mI_n _ _ _ _ (by decide), k1 17 (by decide)]; exact c17) (by rw [mI_n _ _ _ _ (by decide), k1 18 (by decide)]; exact c18)
        refine ⟨M', ?_, p', ?_, h17, h18, by rw [h15, mI_n _ _ _ _ (by decide), k1 15 (by decide)], ((FrK.ofM f1).tr (FrK.sI (by decide))).tr f'⟩
        · rw [f_X10_look_21, rs_f p.1, e1, obd2_s, c, if_pos (show nI ([] : List Nat).length = 0 from rfl), rs_f p1.1, ez, obd_s, if_neg c2, k1 16 (by decide), c16, nI_1, bnd_e, e']
        · rw [h16', mI_s, cs, hs]
          rfl
    · have hs : sStk N ask sn p0.1 = false := by
        unfold sStk
        rw [← hmv]
        cases e : mvl N S ask sn with
        | nil => exact absurd e c
        | cons a b => rfl
      have hpos : 0 < (mvl N S ask sn).length := List.length_pos_iff.mpr c
      obtain ⟨M', e', r⟩ := no hs
      refine ⟨M', ?_, r⟩
      rw [f_X10_look_21, rs_f p.1, e1, obd2_s, if_neg (nI_ne0 hpos (by omega)), e']
  have ct : cTwo N (q.1.take i ++ [p0]) = cTwo N (q.1.take i) + (if sTwo N p0.1 then 1 else 0) := ct_s (fun p => sTwo N p.1)
  have h2 := hS.two h16
  by_cases c : pcI N S ≤ 1
  · obtain ⟨M', e', p', h16', h17, h18, h15, f'⟩ := e21 p hask hsn hd c16 c17 c18
    refine ⟨M', ?_, p', ⟨?_, h16', h17, h18⟩, f'⟩
    · rw [f_X10_look, rs_f p.1, ey, obd_s, em, obd_s, hpc, if_pos (show nI (pcI N S) ≤ (1 : Int32) from nI_le (b := 1) c (by decide)), e']
    · have : sTwo N p0.1 = false := by rw [← h2]; unfold sTwo; rw [decide_eq_true c]; rfl
      rw [h15, c15, ct, this]
      rfl
  · have pk := p.fk (k := 15) (x := nI (cTwo N (q.1.take i) + 1)) (by decide)
    obtain ⟨M', e', p', h16', h17, h18, h15, f'⟩ := e21 pk (by rw [mI_n _ _ _ _ (by decide)]; exact hask) (fun v hv => by rw [mI_o _ _ _ _ _ (by decide)]; exact hsn v hv) (by rw [mI_o _ _ _ _ _ (by decide)]; exact hd) (by rw [mI_n _ _ _ _ (by decide)]; exact c16) (by rw [mI_n _ _ _ _ (by decide)]; exact c17) (by rw [mI_n _ _ _ _ (by decide)]; exact c18)
    refine ⟨M', ?_, p', ⟨?_, h16', h17, h18⟩, (FrK.sI (by decide)).tr f'⟩
    · rw [f_X10_look, rs_f p.1, ey, obd_s, em, obd_s, hpc, if_neg (show ¬ nI (pcI N S) ≤ (1 : Int32) from nI_ge (a := 1) (b := pcI N S) (by omega) (by omega)), c15, nI_1, bnd_e, e']
    · have : sTwo N p0.1 = true := by rw [← h2]; unfold sTwo; rw [decide_eq_false c]; rfl
      rw [h15, mI_s, ct, this]
      rfl
