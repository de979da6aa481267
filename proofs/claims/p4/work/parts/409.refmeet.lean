/-! ===== the reference meets a state ===== -/
theorem rs_12 {M : Mem} (h : RS M) : mR M 120 12 = 129 := h.r (by decide)
theorem rs_f12 {α : Type} {M : Mem} (h : RS M) (x : Option α) : chk (isO M 100 129) x = x := chk_t (h.io (by decide) (by decide) (by decide))
theorem rs_c12 {α : Type} {M : Mem} (h : RS M) {k : Nat} (hk : k < 40) (x : Option α) : chk (inB (nI k) (mLn M 129)) x = x := by
  refine chk_t ?_
  rw [h.ln (c := 40) (by decide) (by decide) (by decide)]; exact inB_n hk (by decide)
theorem Qk.ss {S0 S S' : St} (h : Qk S0 S) (h' : Qk S0 S') : Qk S S' := fun k hk i => (h' k hk i).trans (h k hk i).symm
theorem GS.tmx {N A P d d' : Nat} {S0 Si S : St} (h16 : N ≤ 16) (h : GS N A P S0 Si d) (h' : GS N A P S0 S d') : GS N A P S0 (mix Si S) d := by
  obtain ⟨a1, a2, a3, a4⟩ := h
  have se : SE Si (mix Si S) := (mix_SE (a3.ss h'.2.2.1)).sy
  refine ⟨a1.reg ⟨rfl, fun k hk _ i => by rw [mix_R, if_pos hk]⟩ rfl, ⟨se.tix h16 a2.1, a2.2.1.k (fun k hk i => ?_), by rw [← se.tPhS]; exact a2.2.2⟩, fun k hk i => ?_, fun k hk i hi => ?_⟩
  · rw [mix_R]
    by_cases c : k < 11
    · rw [if_pos c]
    · rw [if_neg c]; exact a3.ss h'.2.2.1 k hk i
  · rw [mix_R]
    by_cases c : k < 11
    · rw [if_pos c]; exact a3 k hk i
    · rw [if_neg c]; exact h'.2.2.1 k hk i
  · rw [mix_R, if_pos hk]; exact a4 k hk i hi
/-- the states met, as the reference holds them -/
def RQ (N A P : Nat) (S0 : St) (M : Mem) (q : Bq) : Prop := mI M 120 13 = nI q.1.length ∧ mI M 120 14 = (if q.2 then 1 else 0) ∧ ∀ (i : Nat) (p : St × Nat), q.1[i]? = some p → (∃ Si, SE Si p.1 ∧ KS M i Si ∧ GS N A P S0 Si p.2) ∧ mI M 129 i = nI p.2
def FrR (M M' : Mem) : Prop := M'.1 = M.1 ∧ (∀ o, o ≠ 120 → o ≠ 128 → o ≠ 129 → ∀ b, mI M' o b = mI M o b) ∧ (∀ b, b ≠ 13 → b ≠ 14 → mI M' 120 b = mI M 120 b) ∧ ∀ o b, mL M' o b = mL M o b
theorem FrR.rf (M : Mem) : FrR M M := ⟨rfl, fun _ _ _ _ _ => rfl, fun _ _ _ => rfl, fun _ _ => rfl⟩
set_option maxHeartbeats 1000000 in
theorem rmeet_l {N A P most dd : Nat} {S0 S Sm : St} {M : Mem} {t : Int32} {pb pt : List Row4} {q : Bq} (h16 : N ≤ 16) (hA : A + 50 < 1048576) (h40 : most ≤ 40) (p : RV M false t S pb pt) (g : GS N A P S0 S dd) (hdd : dd ≤ 40) (hm : SE S Sm) (hq : RQ N A P S0 M q) (gq : GQ N A P most S0 q) : ∀ (d i n : Nat), i + d = q.1.length → d + 9910 ≤ n → (∀ j pj, j < i → q.1[j]? = some pj → ¬ SE pj.1 Sm) → ∃ M', f_X10_meet_2 n 120 (nI most) (nI dd) (nI i) M = some M' ∧ RV M' false t S pb pt ∧ RQ N A P S0 M' (met1 most q Sm dd) ∧ FrR M M' := by
  intro d
  obtain ⟨q13, q14, qs⟩ := id hq
  have hl := gq.1
  induction d with
  | zero =>
    intro i n hi hn hno
    obtain ⟨n, rfl⟩ : ∃ m, n = m + 1 := ⟨n - 1, by omega⟩
    have hk : knw q.1 Sm = false := by
      cases e : knw q.1 Sm with
      | false => rfl
      | true =>
        obtain ⟨pj, h1, h2⟩ := knw_t.mp e
        obtain ⟨j, hj⟩ := List.getElem?_of_mem h1
        have : j < q.1.length := by
          rcases Nat.lt_or_ge j q.1.length with z | z
          · exact z
          · rw [List.getElem?_eq_none z] at hj; cases hj
        exact absurd h2 (hno j pj (by omega) hj)
    have em : met1 most q Sm dd = if q.1.length < most then (q.1 ++ [(Sm, dd)], q.2) else (q.1, true) := by
      unfold met1
      rw [if_neg (by rw [hk]; decide)]
    rw [em]
    have head : ∀ y : Option Mem, (if nI q.1.length = nI most then (bnd (sI M 120 14 (1 : Int32)) fun M21 => some M21) else (obd (f_X10_keepState n 120 (nI q.1.length) M) fun M7 => chk (isO M7 10 120) <| bnd (mR M7 120 12) fun o9 => chk (isO M7 100 o9) <| chk (inB (mI M7 120 13) (mLn M7 o9)) <| bnd (sI M7 o9 ((mI M7 120 13)).toNatClampNeg (nI dd)) fun M13 => bnd (sI M13 120 13 ((mI M13 120 13) + (1 : Int32))) fun M17 => some M17)) = y → f_X10_meet_2 (n + 1) 120 (nI most) (nI dd) (nI i) M = y := by
      intro y hy
      rw [f_X10_meet_2, rs_f p.1, q13, if_pos (nI_le (by omega) (by omega)), chk_t (Or.inr rfl)]
      exact hy
    by_cases c : q.1.length < most
    · rw [if_pos c]
      obtain ⟨M1, e1, p1, k1, s1, o1, f1, L1⟩ := p.kept (i := q.1.length) (n := n) (by omega) (by omega)
      have m13 : mI M1 120 13 = nI q.1.length := (o1 120 (by decide) 13).trans q13
      generalize hMa : sI M1 129 q.1.length (nI dd) = Ma
      generalize hMb : sI Ma 120 13 (nI (q.1.length + 1)) = Mb
      have sb : Mb.1 = M.1 := by rw [← hMb, ← hMa]; exact s1
      have oM : ∀ o, o ≠ 120 → o ≠ 128 → o ≠ 129 → ∀ b, mI Mb o b = mI M o b := fun o n0 n8 n9 b => by
        rw [← hMb, mI_o _ _ _ _ _ n0, ← hMa, mI_o _ _ _ _ _ n9, o1 o n8]
      have o120 : ∀ b, b ≠ 13 → mI Mb 120 b = mI M 120 b := fun b n => by
        rw [← hMb, mI_n _ _ _ _ n, ← hMa, mI_o _ _ _ _ _ (by decide), o1 120 (by decide)]
      have o128 : ∀ b, mI Mb 128 b = mI M1 128 b := fun b => by
        rw [← hMb, mI_o _ _ _ _ _ (by decide), ← hMa, mI_o _ _ _ _ _ (by decide)]
      have pb' : RV Mb false t S pb pt := p.cg sb (o120 3 (by decide)) (oM 121 (by decide) (by decide) (by decide)) (oM 123 (by decide) (by decide) (by decide))
      refine ⟨Mb, head _ ?_, pb', ⟨?_, ?_, fun j pj hj => ?_⟩, sb, oM, fun b n3 _ => o120 b n3, fun o b => by rw [← hMb, ← hMa]; exact L1 o b⟩
      · rw [if_neg (nI_ne (by omega) (by omega) (by omega)), e1, obd_s, rs_f p1.1, rs_12 p1.1, bnd_e, rs_f12 p1.1, m13, rs_c12 p1.1 (by omega), sI_c (by omega), hMa, bnd_e, show mI Ma 120 13 = nI q.1.length by rw [← hMa, mI_o _ _ _ _ _ (by decide)]; exact m13, nI_1, hMb, bnd_e]
      · rw [← hMb, mI_s, List.length_append, List.length_singleton]
      · rw [o120 14 (by decide)]; exact q14
      · by_cases k : j < q.1.length
        · have hj' : q.1[j]? = some pj := by rwa [List.getElem?_append_left k] at hj
          obtain ⟨⟨Si, a1, a2, a3⟩, a4⟩ := qs j pj hj'
          refine ⟨⟨Si, a1, a2.cg (fun b z1 z2 => by rw [o128]; exact f1 j (by omega) b z1 z2), a3⟩, ?_⟩
          rw [← hMb, mI_o _ _ _ _ _ (by decide), ← hMa, mI_n _ _ _ _ (by omega), o1 129 (by decide)]
          exact a4
        · have hj2 := hj
          rw [List.getElem?_append_right (by omega)] at hj
          have e0 : j - q.1.length = 0 := by
            cases e : j - q.1.length with
            | zero => rfl
            | succ n => rw [e] at hj; simp at hj
          rw [e0] at hj
          have ep : pj = (Sm, dd) := by simpa using hj.symm
          have ej : j = q.1.length := by omega
          rw [ep, ej]
          refine ⟨⟨S, hm, k1.cg (fun b _ _ => o128 b), g⟩, ?_⟩
          rw [← hMb, mI_o _ _ _ _ _ (by decide), ← hMa, mI_s]
    · rw [if_neg c]
      have el : q.1.length = most := by omega
      refine ⟨sI M 120 14 1, head _ ?_, p.cg rfl (by rw [mI_n _ _ _ _ (by decide)]) (fun b => by rw [mI_o _ _ _ _ _ (by decide)]) (fun b => by rw [mI_o _ _ _ _ _ (by decide)]), ⟨by rw [mI_n _ _ _ _ (by decide)]; exact q13, by rw [mI_s]; rfl, fun j pj hj => ?_⟩, rfl, fun o n _ _ b => mI_o _ _ _ _ _ n, fun b _ n => mI_n _ _ _ _ n, fun _ _ => rfl⟩
      · rw [if_pos (by rw [el]), bnd_e]
      · obtain ⟨⟨Si, a1, a2, a3⟩, a4⟩ := qs j pj hj
        exact ⟨⟨Si, a1, a2.cg (fun b _ _ => mI_o _ _ _ _ _ (by decide)), a3⟩, by rw [mI_o _ _ _ _ _ (by decide)]; exact a4⟩
  | succ d ih =>
    intro i n hi hn hno
    obtain ⟨n, rfl⟩ : ∃ m, n = m + 1 := ⟨n - 1, by omega⟩
    obtain ⟨pi, hpi⟩ : ∃ pi, q.1[i]? = some pi := ⟨_, List.getElem?_eq_getElem (by omega)⟩
    obtain ⟨⟨Si, a1, a2, a3⟩, a4⟩ := qs i pi hpi
    have dp := (gq.2.2 i pi hpi).1
    obtain ⟨b, eb, hb⟩ := p.isS (n := n) h16 g.1 a3.1 (by omega) (by omega) (a3.2.2.1.ss g.2.2.1) a2 (by omega) (by omega)
    have hb' : b = true ↔ SE pi.1 Sm := hb.trans ⟨fun z => (a1.sy.tr z).tr hm, fun z => (a1.tr z).tr hm.sy⟩
    have step : f_X10_meet_2 (n + 1) 120 (nI most) (nI dd) (nI i) M = if (if b then (1 : Int32) else 0) = 0 then f_X10_meet_2 n 120 (nI most) (nI dd) (nI (i + 1)) M else some M := by
      rw [f_X10_meet_2, rs_f p.1, q13, if_neg (nI_ge (by omega) (by omega)), eb, obd_s, nI_1, bnd_e]
    cases b with
    | true =>
      rw [if_neg (by decide)] at step
      have hk : knw q.1 Sm = true := knw_t.mpr ⟨pi, List.mem_of_getElem? hpi, hb'.mp rfl⟩
      have em : met1 most q Sm dd = q := by unfold met1; rw [if_pos hk]
      rw [em]
      exact ⟨M, step, p, hq, FrR.rf M⟩
    | false =>
      rw [if_pos (by decide)] at step
      obtain ⟨M', e', r⟩ := ih (i + 1) n (by omega) (by omega) (fun j pj hj hpj => by
        by_cases z : j = i
        · rw [z, hpi] at hpj
          have : pi = pj := Option.some.inj hpj
          rw [← this]
          intro y
          exact absurd (hb'.mpr y) (by decide)
        · exact hno j pj (by omega) hpj)
      exact ⟨M', step.trans e', r⟩
theorem RV.meet {N A P most dd n : Nat} {S0 S Sm : St} {M : Mem} {t : Int32} {pb pt : List Row4} {q : Bq} (p : RV M false t S pb pt) (h16 : N ≤ 16) (hA : A + 50 < 1048576) (h40 : most ≤ 40) (g : GS N A P S0 S dd) (hdd : dd ≤ 40) (hm : SE S Sm) (hq : RQ N A P S0 M q) (gq : GQ N A P most S0 q) (hn : 10000 ≤ n) : ∃ M', f_X10_meet n 120 (nI most) (nI dd) M = some M' ∧ RV M' false t S pb pt ∧ RQ N A P S0 M' (met1 most q Sm dd) ∧ FrR M M' := by
  have := rmeet_l h16 hA h40 p g hdd hm hq gq q.1.length 0 n (by omega) (by have := gq.1; omega) (fun j pj hj => by omega)
  rw [f_X10_meet]
  exact this
/-! ===== the reference looks at a state, and moves on from it ===== -/
def sTwo (N : Nat) (S : St) : Bool := !decide (pcI N S ≤ 1)
def sStk (N : Nat) (ask : Int32) (sn : Nat → Int32) (S : St) : Bool := (mvl N S ask sn).isEmpty && (List.range N).any fun v => decide (xR S 0 v = 1)
def cTwo (N : Nat) (l : List (St × Nat)) : Nat := (l.filter fun p => sTwo N p.1).length
def cStk (N : Nat) (ask : Int32) (sn : Nat → Int32) (l : List (St × Nat)) : Nat := (l.filter fun p => sStk N ask sn p.1).length
def cMx (l : List (St × Nat)) : Nat := l.foldl (fun m p => max m (fl p.1).length) 0
def cSon (v : Nat) (l : List (St × Nat)) : Int32 := l.foldl (fun x p => if x = -1 then (if xR p.1 0 v = 2 then nI p.2 else -1) else x) (-1)
def nodI : Option Nat → Int32
  | none => -1
  | some v => nI v
def cNod (nd : Option Nat) (l : List (St × Nat)) : Int32 := match nd with
  | none => -1
  | some v => cSon v l
theorem pcI_s {N : Nat} {S S' : St} (h : ∀ w, w < N → xR S' 0 w = xR S 0 w) : pcI N S' = pcI N S := by
  unfold pcI
  congr 1
  apply List.filter_congr
  intro w _
  by_cases c : w < N
  · rw [h w c]
  · simp [c]
section
variable {S S' : St}
theorem SE.two (h : SE S S') {N : Nat} (h16 : N ≤ 16) : sTwo N S = sTwo N S' := by
  unfold sTwo
  rw [pcI_s (S := S') (S' := S) (fun w hw => h.1 0 w (by omega) (by omega))]
theorem SE.ask0 (h : SE S S') {N : Nat} (h16 : N ≤ 16) : ((List.range N).any fun v => decide (xR S 0 v = 1)) = (List.range N).any fun v => decide (xR S' 0 v = 1) := by
  rw [Bool.eq_iff_iff, List.any_eq_true, List.any_eq_true]
  constructor
  · rintro ⟨v, hv, z⟩
    exact ⟨v, hv, by rw [← h.1 0 v (by omega) (by have := List.mem_range.mp hv; omega)]; exact z⟩
  · rintro ⟨v, hv, z⟩
    exact ⟨v, hv, by rw [h.1 0 v (by omega) (by have := List.mem_range.mp hv; omega)]; exact z⟩
end
theorem ct_s {l : List (St × Nat)} {p : St × Nat} (f : St × Nat → Bool) : ((l ++ [p]).filter f).length = (l.filter f).length + (if f p then 1 else 0) := by
  rw [List.filter_append, List.length_append]
  congr 1
  cases e : f p
  · rw [List.filter_cons_of_neg (by rw [e]; decide)]; rfl
  · rw [List.filter_cons_of_pos e]; rfl
theorem cMx_s (l : List (St × Nat)) (p : St × Nat) : cMx (l ++ [p]) = max (cMx l) (fl p.1).length := by
  unfold cMx
  rw [List.foldl_append]
  rfl
theorem cSon_s (v : Nat) (l : List (St × Nat)) (p : St × Nat) : cSon v (l ++ [p]) = if cSon v l = -1 then (if xR p.1 0 v = 2 then nI p.2 else -1) else cSon v l := by
  unfold cSon
  rw [List.foldl_append]
  rfl
theorem take_s {l : List (St × Nat)} {i : Nat} {p : St × Nat} (h : l[i]? = some p) : l.take (i + 1) = l.take i ++ [p] := by
  rw [List.take_succ, h]
  rfl
/-- what the reference has counted of the first i states -/
def RC (N : Nat) (ask : Int32) (sn : Nat → Int32) (nd : Option Nat) (M : Mem) (l : List (St × Nat)) : Prop := mI M 120 15 = nI (cTwo N l) ∧ mI M 120 16 = nI (cStk N ask sn l) ∧ mI M 120 17 = nI (cMx l) ∧ mI M 120 18 = cNod nd l
theorem RC.cg {N : Nat} {ask : Int32} {sn : Nat → Int32} {nd : Option Nat} {M M' : Mem} {l : List (St × Nat)} (h : RC N ask sn nd M l) (e : ∀ b, 15 ≤ b → b ≤ 18 → mI M' 120 b = mI M 120 b) : RC N ask sn nd M' l := by
  obtain ⟨a, b, c, d⟩ := h
  exact ⟨by rw [e 15 (by decide) (by decide)]; exact a, by rw [e 16 (by decide) (by decide)]; exact b, by rw [e 17 (by decide) (by decide)]; exact c, by rw [e 18 (by decide) (by decide)]; exact d⟩
theorem RQ.cg {N A P : Nat} {S0 : St} {M M' : Mem} {q : Bq} (h : RQ N A P S0 M q) (e13 : mI M' 120 13 = mI M 120 13) (e14 : mI M' 120 14 = mI M 120 14) (e8 : ∀ b, mI M' 128 b = mI M 128 b) (e9 : ∀ b, mI M' 129 b = mI M 129 b) : RQ N A P S0 M' q := by
  obtain ⟨a, b, c⟩ := h
  refine ⟨by rw [e13]; exact a, by rw [e14]; exact b, fun i p hp => ?_⟩
  obtain ⟨⟨Si, z1, z2, z3⟩, z4⟩ := c i p hp
  exact ⟨⟨Si, z1, z2.cg (fun b _ _ => e8 b), z3⟩, by rw [e9]; exact z4⟩
/-- the reference's numbers and the row of moves alone have changed -/
def FrK (M M' : Mem) : Prop := M'.1 = M.1 ∧ (∀ o, ¬ (120 ≤ o ∧ o ≤ 124) → ∀ b, mI M' o b = mI M o b) ∧ (∀ b, b ≠ 6 → b < 15 ∨ 18 < b → mI M' 120 b = mI M 120 b) ∧ ∀ o b, mL M' o b = mL M o b
theorem FrK.ofM {M M' : Mem} (f : FrM M M') : FrK M M' := ⟨f.1, f.2.1, fun b h _ => f.2.2.1 b h, f.2.2.2⟩
theorem FrK.tr {M M' M'' : Mem} (h : FrK M M') (h' : FrK M' M'') : FrK M M'' :=
  ⟨h'.1.trans h.1, fun o q k => (h'.2.1 o q k).trans (h.2.1 o q k), fun k a b => (h'.2.2.1 k a b).trans (h.2.2.1 k a b), fun o k => (h'.2.2.2 o k).trans (h.2.2.2 o k)⟩
theorem FrK.sI {M : Mem} {k : Nat} {x : Int32} (h : 15 ≤ k ∧ k ≤ 18) : FrK M (sI M 120 k x) :=
  ⟨rfl, fun o n b => mI_o _ _ _ _ _ (by omega), fun b _ h2 => mI_n _ _ _ _ (by omega), fun _ _ => rfl⟩
theorem FrK.rf (M : Mem) : FrK M M := ⟨rfl, fun _ _ _ => rfl, fun _ _ _ => rfl, fun _ _ => rfl⟩
theorem RV.fk {M : Mem} {t : Int32} {S : St} {pb pt : List Row4} (p : RV M false t S pb pt) {k : Nat} {x : Int32} (h : 15 ≤ k ∧ k ≤ 18) : RV (sI M 120 k x) false t S pb pt :=
  p.cg rfl (mI_n _ _ _ _ (by omega)) (fun b => mI_o _ _ _ _ _ (by decide)) (fun b => mI_o _ _ _ _ _ (by decide))
theorem RV.mvN {M : Mem} {t : Int32} {S : St} {pb pt : List Row4} (p : RV M false t S pb pt) {N n : Nat} (hN : xR S 20 0 = nI N) (h16 : N ≤ 16) (ht : xR S 20 1 = 1 → N % 2 = 1) {ask : Int32} {sn : Nat → Int32} (hask : mI M 120 7 = ask) (hsn : ∀ v, v < N → mI M 125 v = sn v) (hn : 9200 ≤ n) : ∃ M', f_X10_movesNow n 120 M = some (nI (mvl N S ask sn).length, M') ∧ RV M' false t S pb pt ∧ FrM M M' := by
  obtain ⟨M1, e1, p1, m1, f1⟩ := p.lay hN h16 ht hask hsn hn
  refine ⟨M1, ?_, p1, f1⟩
  rw [f_X10_movesNow, rs_f p.1, e1, obd_s, rs_f p1.1, m1.1, mvc_e h16, List.length_map]
set_option maxHeartbeats 1000000 in
theorem RV.look {N n i d : Nat} {M : Mem} {t : Int32} {S : St} {pb pt : List Row4} {q : Bq} {p0 : St × Nat} {ask : Int32} {sn : Nat → Int32} {nd : Option Nat} (p : RV M false t S pb pt) (h2N : 2 ≤ N) (hN : xR S 20 0 = nI N) (h16 : N ≤ 16) (ht : xR S 20 1 = 1 → N % 2 = 1) (hask : mI M 120 7 = ask) (hsn : ∀ v, v < N → mI M 125 v = sn v) (hS : SE S p0.1) (hp : q.1[i]? = some p0) (hi : i < 40) (hd : mI M 129 i = nI p0.2) (hnd : ∀ v, nd = some v → v < N) (hc : RC N ask sn nd M (q.1.take i)) (hc32 : cTwo N (q.1.take i) < 100 ∧ cStk N ask sn (q.1.take i) < 100) (hmx : cMx (q.1.take i) ≤ 9000) (hn : 9300 ≤ n) : ∃ M', f_X10_look n 120 (nodI nd) (nI i) M = some M' ∧ RV M' false t S pb pt ∧ RC N ask sn nd M' (q.1.take (i + 1)) ∧ FrK M M' := by
  obtain ⟨c15, c16, c17, c18⟩ := hc
  rw [take_s hp]
  obtain ⟨y, ey, hy⟩ := p.insd hN h16 (n := n) (by omega)
  have em := f_many (x := y) (fun j hj1 hj2 => by rw [hy j hj2]; simp; omega) (n := n) (by omega) M
  have hpc := pc_mask hy
  have p32 := pc_le y
  have lenS : (fl S).length = (fl p0.1).length := len_lq (fl_lk.mp hS.2.2)
  -- the last two
  have e45 : ∀ {M : Mem}, RV M false t S pb pt → mI M 129 i = nI p0.2 → mI M 120 17 = nI (cMx (q.1.take i)) → mI M 120 18 = cNod nd (q.1.take i) → ∃ M', f_X10_look_45 n 120 (nodI nd) (nI i) M = some M' ∧ RV M' false t S pb pt ∧ mI M' 120 17 = nI (cMx (q.1.take i ++ [p0])) ∧ mI M' 120 18 = cNod nd (q.1.take i ++ [p0]) ∧ mI M' 120 15 = mI M 120 15 ∧ mI M' 120 16 = mI M 120 16 ∧ FrK M M' := by
    intro M p hd c17 c18
    have e72 : ∀ {M : Mem}, RV M false t S pb pt → mI M 129 i = nI p0.2 → mI M 120 18 = cNod nd (q.1.take i) → ∃ M', f_X10_look_72 n 120 (nodI nd) (nI i) M = some M' ∧ RV M' false t S pb pt ∧ mI M' 120 18 = cNod nd (q.1.take i ++ [p0]) ∧ (∀ b, b ≠ 18 → mI M' 120 b = mI M 120 b) ∧ FrK M M' := by
      intro M p hd c18
      cases nd with
      | none =>
        refine ⟨M, ?_, p, c18, fun _ _ => rfl, FrK.rf M⟩
        rw [f_X10_look_72, if_pos (show nodI none = (-1 : Int32) from rfl)]
      | some v =>
        have hv := hnd v rfl
        have e0 : f_X10_get 120 (nI v) (0 : Int32) M = some (xR p0.1 0 v) := by rw [p.get0 (by omega), hS.1 0 v (by omega) (by omega)]
        have c18' : mI M 120 18 = cSon v (q.1.take i) := c18
        have s := cSon_s v (q.1.take i) p0
        have hne : ¬ nodI (some v) = (-1 : Int32) := nI_m1 (by omega)
        by_cases d1 : cSon v (q.1.take i) = -1
        · rw [if_pos d1] at s
          by_cases d2 : xR p0.1 0 v = 2
          · rw [if_pos d2] at s
            refine ⟨sI M 120 18 (nI p0.2), ?_, p.fk (by decide), by rw [mI_s]; exact s.symm, fun b n => mI_n _ _ _ _ n, FrK.sI (by decide)⟩
            rw [f_X10_look_72, if_neg hne, rs_f p.1, c18', if_pos d1, show f_X10_get 120 (nodI (some v)) 0 M = _ from e0, obd_s, if_pos d2, rs_12 p.1, bnd_e, rs_f12 p.1, rs_c12 p.1 hi, mI_c (by omega), hd, bnd_e]
          · rw [if_neg d2] at s
            refine ⟨M, ?_, p, by rw [c18']; exact d1.trans s.symm, fun _ _ => rfl, FrK.rf M⟩
            rw [f_X10_look_72, if_neg hne, rs_f p.1, c18', if_pos d1, show f_X10_get 120 (nodI (some v)) 0 M = _ from e0, obd_s, if_neg d2]
        · rw [if_neg d1] at s
          refine ⟨M, ?_, p, by rw [c18']; exact s.symm, fun _ _ => rfl, FrK.rf M⟩
          rw [f_X10_look_72, if_neg hne, rs_f p.1, c18', if_neg d1]
    have l850 := p.2.2.2.2.1
    have g850 : mI M 121 850 = nI (fl p0.1).length := by rw [← lenS]; exact l850.1
    have g850' : mI M 121 (nI 850).toNatClampNeg = nI (fl p0.1).length := by rw [mI_c (by decide)]; exact g850
    have l9 : (fl p0.1).length ≤ 9000 := by rw [← lenS]; exact l850.2.1
    by_cases c : (fl p0.1).length ≤ cMx (q.1.take i)
    · obtain ⟨M', e', p', h18, ho, f'⟩ := e72 p hd c18
      refine ⟨M', ?_, p', by rw [ho 17 (by decide), c17, cMx_s, Nat.max_eq_left c], h18, ho 15 (by decide), ho 16 (by decide), f'⟩
      rw [f_X10_look_45, rs_f p.1, rs_0 p.1, bnd_e, rs_fa p.1, show (850 : Int32) = nI 850 from rfl, rs_c p.1 (by decide), g850', c17, if_pos (nI_le c (by omega)), e']
    · have pk := p.fk (k := 17) (x := nI (fl p0.1).length) (by decide)
      obtain ⟨M', e', p', h18, ho, f'⟩ := e72 pk (by rw [mI_o _ _ _ _ _ (by decide)]; exact hd) (by rw [mI_n _ _ _ _ (by decide)]; exact c18)
      refine ⟨M', ?_, p', by rw [ho 17 (by decide), mI_s, cMx_s, Nat.max_eq_right (by omega)], h18, by rw [ho 15 (by decide), mI_n _ _ _ _ (by decide)], by rw [ho 16 (by decide), mI_n _ _ _ _ (by decide)], (FrK.sI (by decide)).tr f'⟩
      rw [f_X10_look_45, rs_f p.1, rs_0 p.1, bnd_e, rs_fa p.1, show (850 : Int32) = nI 850 from rfl, rs_c p.1 (by decide), g850', c17, if_neg (nI_ge (by omega) (by omega)), bnd_e, rs_fa p.1, rs_c p.1 (by decide), g850', bnd_e, e']
  have e21 : ∀ {M : Mem}, RV M false t S pb pt → mI M 120 7 = ask → (∀ v, v < N → mI M 125 v = sn v) → mI M 129 i = nI p0.2 → mI M 120 16 = nI (cStk N ask sn (q.1.take i)) → mI M 120 17 = nI (cMx (q.1.take i)) → mI M 120 18 = cNod nd (q.1.take i) → ∃ M', f_X10_look_21 n 120 (nodI nd) (nI i) M = some M' ∧ RV M' false t S pb pt ∧ mI M' 120 16 = nI (cStk N ask sn (q.1.take i ++ [p0])) ∧ mI M' 120 17 = nI (cMx (q.1.take i ++ [p0])) ∧ mI M' 120 18 = cNod nd (q.1.take i ++ [p0]) ∧ mI M' 120 15 = mI M 120 15 ∧ FrK M M' := by
    intro M p hask hsn hd c16 c17 c18
    obtain ⟨M1, e1, p1, f1⟩ := p.mvN hN h16 ht hask hsn (n := n) (by omega)
    have k1 : ∀ b, b ≠ 6 → mI M1 120 b = mI M 120 b := f1.2.2.1
    have hd1 : mI M1 129 i = nI p0.2 := (f1.2.1 129 (by decide) i).trans hd
    have hmv : mvl N S ask sn = mvl N p0.1 ask sn := hS.sy.tmv h16 ask (fun _ _ => rfl)
    have hml := mvl_len (N := N) S ask sn
    have cs : cStk N ask sn (q.1.take i ++ [p0]) = cStk N ask sn (q.1.take i) + (if sStk N ask sn p0.1 then 1 else 0) := ct_s (fun p => sStk N ask sn p.1)
    have no : sStk N ask sn p0.1 = false → ∃ M', f_X10_look_45 n 120 (nodI nd) (nI i) M1 = some M' ∧ RV M' false t S pb pt ∧ mI M' 120 16 = nI (cStk N ask sn (q.1.take i ++ [p0])) ∧ mI M' 120 17 = nI (cMx (q.1.take i ++ [p0])) ∧ mI M' 120 18 = cNod nd (q.1.take i ++ [p0]) ∧ mI M' 120 15 = mI M 120 15 ∧ FrK M M' := by
      intro z
      obtain ⟨M', e', p', h17, h18, h15, h16', f'⟩ := e45 p1 hd1 ((k1 17 (by decide)).trans c17) ((k1 18 (by decide)).trans c18)
      refine ⟨M', e', p', ?_, h17, h18, by rw [h15, k1 15 (by decide)], (FrK.ofM f1).tr f'⟩
      rw [h16', k1 16 (by decide), c16, cs, z]
      rfl
    by_cases c : mvl N S ask sn = []
    · obtain ⟨z, ez, hz⟩ := p1.askg hN h16 (n := n) (by omega)
      by_cases c2 : z = 0
      · have hs : sStk N ask sn p0.1 = false := by
          unfold sStk
          have : ((List.range N).any fun v => decide (xR p0.1 0 v = 1)) = false := by
            rw [← hS.ask0 h16]
            rw [Bool.eq_false_iff]
            intro w
            obtain ⟨v, hv, hw⟩ := List.any_eq_true.mp w
            have hv' := List.mem_range.mp hv
            have := bt_z.mp c2 v (by omega)
            rw [hz v (by omega)] at this
            have := of_decide_eq_false this
            exact this ⟨hv', of_decide_eq_true hw⟩
          rw [this, Bool.and_false]
        obtain ⟨M', e', r⟩ := no hs
        refine ⟨M', ?_, r⟩
        rw [f_X10_look_21, rs_f p.1, e1, obd2_s, c, if_pos (show nI ([] : List Nat).length = 0 from rfl), rs_f p1.1, ez, obd_s, if_pos c2, e']
      · have hs : sStk N ask sn p0.1 = true := by
          unfold sStk
          rw [← hmv, c]
          have : ((List.range N).any fun v => decide (xR p0.1 0 v = 1)) = true := by
            rw [← hS.ask0 h16]
            cases e : (List.range N).any fun v => decide (xR S 0 v = 1) with
            | true => rfl
            | false =>
              exfalso
              apply c2
              rw [bt_z]
              intro v hv
              rw [hz v hv]
              by_cases w : v < N ∧ xR S 0 v = 1
              · have := List.any_eq_false.mp e v (List.mem_range.mpr w.1)
                exact absurd (decide_eq_true w.2) this
              · exact decide_eq_false w
          rw [this]
          rfl
        have pk := p1.fk (k := 16) (x := nI (cStk N ask sn (q.1.take i) + 1)) (by decide)
        obtain ⟨M', e', p', h17, h18, h15, h16', f'⟩ := e45 pk (by rw [mI_o _ _ _ _ _ (by decide)]; exact hd1) (by rw [mI_n _ _ _ _ (by decide), k1 17 (by decide)]; exact c17) (by rw [mI_n _ _ _ _ (by decide), k1 18 (by decide)]; exact c18)
        refine ⟨M', ?_, p', ?_, h17, h18, by rw [h15, mI_n _ _ _ _ (by decide), k1 15 (by decide)], ((FrK.ofM f1).tr (FrK.sI (by decide))).tr f'⟩
        · rw [f_X10_look_21, rs_f p.1, e1, obd2_s, c, if_pos (show nI ([] : List Nat).length = 0 from rfl), rs_f p1.1, ez, obd_s, if_neg c2, k1 16 (by decide), c16, nI_1, bnd_e, e']
        · rw [h16', mI_s, cs, hs]
          rfl
    · have hs : sStk N ask sn p0.1 = false := by
        unfold sStk
        rw [← hmv]
        cases e : mvl N S ask sn with
        | nil => exact absurd e c
        | cons a b => rfl
      have hpos : 0 < (mvl N S ask sn).length := List.length_pos_iff.mpr c
      obtain ⟨M', e', r⟩ := no hs
      refine ⟨M', ?_, r⟩
      rw [f_X10_look_21, rs_f p.1, e1, obd2_s, if_neg (nI_ne0 hpos (by omega)), e']
  have ct : cTwo N (q.1.take i ++ [p0]) = cTwo N (q.1.take i) + (if sTwo N p0.1 then 1 else 0) := ct_s (fun p => sTwo N p.1)
  have h2 := hS.two h16
  by_cases c : pcI N S ≤ 1
  · obtain ⟨M', e', p', h16', h17, h18, h15, f'⟩ := e21 p hask hsn hd c16 c17 c18
    refine ⟨M', ?_, p', ⟨?_, h16', h17, h18⟩, f'⟩
    · rw [f_X10_look, rs_f p.1, ey, obd_s, em, obd_s, hpc, if_pos (show nI (pcI N S) ≤ (1 : Int32) from nI_le (b := 1) c (by decide)), e']
    · have : sTwo N p0.1 = false := by rw [← h2]; unfold sTwo; rw [decide_eq_true c]; rfl
      rw [h15, c15, ct, this]
      rfl
  · have pk := p.fk (k := 15) (x := nI (cTwo N (q.1.take i) + 1)) (by decide)
    obtain ⟨M', e', p', h16', h17, h18, h15, f'⟩ := e21 pk (by rw [mI_n _ _ _ _ (by decide)]; exact hask) (fun v hv => by rw [mI_o _ _ _ _ _ (by decide)]; exact hsn v hv) (by rw [mI_o _ _ _ _ _ (by decide)]; exact hd) (by rw [mI_n _ _ _ _ (by decide)]; exact c16) (by rw [mI_n _ _ _ _ (by decide)]; exact c17) (by rw [mI_n _ _ _ _ (by decide)]; exact c18)
    refine ⟨M', ?_, p', ⟨?_, h16', h17, h18⟩, (FrK.sI (by decide)).tr f'⟩
    · rw [f_X10_look, rs_f p.1, ey, obd_s, em, obd_s, hpc, if_neg (show ¬ nI (pcI N S) ≤ (1 : Int32) from nI_ge (a := 1) (b := pcI N S) (by omega) (by omega)), c15, nI_1, bnd_e, e']
    · have : sTwo N p0.1 = true := by rw [← h2]; unfold sTwo; rw [decide_eq_false c]; rfl
      rw [h15, mI_s, ct, this]
      rfl
/-! ===== the reference's search ===== -/
/-- how the reference stands in the midst of a search -/
def RM (N A P : Nat) (S0 : St) (t : Int32) (pb pt : List Row4) (ask : Int32) (sn : Nat → Int32) (nd : Option Nat) (M : Mem) (q : Bq) (l : List (St × Nat)) : Prop := (∃ S d, RV M false t S pb pt ∧ GS N A P S0 S d) ∧ RQ N A P S0 M q ∧ RC N ask sn nd M l ∧ mI M 120 7 = ask ∧ ∀ v, v < N → mI M 125 v = sn v
/-- what a search rests on -/
def SK (N A P most : Nat) (S0 : St) : Prop := 2 ≤ N ∧ N ≤ 16 ∧ most ≤ 40 ∧ A + 60 < 1048576 ∧ P + N * 42 + N ≤ 9000 ∧ xR S0 20 0 = nI N ∧ (xR S0 20 1 = 1 → N % 2 = 1) ∧ ∀ v, v < N → ∀ i, N ≤ i → i < 32 → bt (qm N S0 v) i = false
theorem GS.fl {N A P d : Nat} {S0 S : St} {most : Nat} (g : GS N A P S0 S d) (k : SK N A P most S0) (hd : d ≤ 41) : (fl S).length + N ≤ 9000 := by
  have a := fl_PhS S
  have b := g.2.1.2.2
  have c := k.2.2.2.2.1
  have : N * d ≤ N * 42 := Nat.mul_le_mul_left _ (by omega)
  omega
theorem GS.tR {N A P d : Nat} {S0 S : St} {most : Nat} (g : GS N A P S0 S d) (k : SK N A P most S0) : xR S 20 0 = nI N ∧ (xR S 20 1 = 1 → N % 2 = 1) := by
  have := g.2.2.1 20 (by omega)
  rw [this, this]
  exact ⟨k.2.2.2.2.2.1, k.2.2.2.2.2.2.1⟩
theorem exl_c (N most : Nat) (S : St) (d c : Nat) (cs : List Nat) (q : Bq) : exl N most S d (c :: cs) q = exl N most S d cs (met1 most q (dm 0 N c S) (d + 1)) := rfl
theorem exl_pre {N most : Nat} {S : St} {d i : Nat} {p : St × Nat} : ∀ (cs : List Nat) (q : Bq), q.1[i]? = some p → (exl N most S d cs q).1[i]? = some p ∧ (exl N most S d cs q).1.take (i + 1) = q.1.take (i + 1) := by
  intro cs
  induction cs with
  | nil => intro q h; exact ⟨h, rfl⟩
  | cons c cs ih =>
    intro q h
    rw [exl_c]
    obtain ⟨a, b⟩ := ih (met1 most q (dm 0 N c S) (d + 1)) (met1_pre h)
    refine ⟨a, b.trans ?_⟩
    have hi : i < q.1.length := by
      rcases Nat.lt_or_ge i q.1.length with z | z
      · exact z
      · rw [List.getElem?_eq_none z] at h; cases h
    unfold met1
    split
    · rfl
    · split
      · show (q.1 ++ [_]).take (i + 1) = _
        rw [List.take_append_of_le_length (by omega)]
      · rfl
section
variable {N A P most : Nat} {S0 : St} {t : Int32} {pb pt : List Row4} {ask : Int32} {sn : Nat → Int32} {nd : Option Nat}
set_option maxHeartbeats 1000000 in
theorem s100_l (k : SK N A P most S0) (K : Nat → Int32 → Int32 → Int32 → Mem → Option Mem) {i : Nat} {p : St × Nat} {l : List (St × Nat)} (hi : i < most) (v2 : Int32) : ∀ (e j n : Nat) (M : Mem) (q : Bq), j + e = (mvl N p.1 ask sn).length → q.1[i]? = some p → GQ N A P most S0 q → RM N A P S0 t pb pt ask sn nd M q l → e + 20100 ≤ n → ∃ M', f_X10_search_100 K n 120 (nI most) v2 (nI i) (nI (mvl N p.1 ask sn).length) (nI j) M = K 120 (nI most) v2 (nI (i + 1)) M' ∧ GQ N A P most S0 (exl N most p.1 p.2 ((mvl N p.1 ask sn).drop j) q) ∧ RM N A P S0 t pb pt ask sn nd M' (exl N most p.1 p.2 ((mvl N p.1 ask sn).drop j) q) l := by
  obtain ⟨h2, h16, h40, hA, hP, hN0, ht0, hQ⟩ := id k
  intro e
  induction e with
  | zero =>
    intro j n M q hj hp gq hM hn
    obtain ⟨n, rfl⟩ : ∃ m, n = m + 1 := ⟨n - 1, by omega⟩
    have hml := mvl_len (N := N) p.1 ask sn
    rw [List.drop_of_length_le (by omega)]
    refine ⟨M, ?_, gq, hM⟩
    rw [f_X10_search_100, if_pos (nI_le (by omega) (by omega)), nI_1, bnd_e]
  | succ e ih =>
    intro j n M q hj hp gq hM hn
    obtain ⟨n, rfl⟩ : ∃ m, n = m + 1 := ⟨n - 1, by omega⟩
    have hml := mvl_len (N := N) p.1 ask sn
    obtain ⟨⟨S, d, r, g⟩, hq, hc, hask, hsn⟩ := hM
    obtain ⟨⟨Si, a1, a2, a3⟩, a4⟩ := hq.2.2 i p hp
    obtain ⟨dp, gp⟩ := gq.2.2 i p hp
    have g2 := a3.tmx k.2.1 g
    obtain ⟨M1, e1, r1, s1, o1, L1⟩ := r.lays a2 (show i < 40 by omega) (n := n) (by omega)
    have sp : SE (mix Si S) p.1 := (mix_SE (a3.2.2.1.ss g.2.2.1)).tr a1
    have tR := g2.tR k
    obtain ⟨M2, e2, r2, m2, f2⟩ := r1.lay tR.1 h16 tR.2 (ask := ask) (sn := sn) ((o1 120 (by decide) 7).trans hask) (fun v hv => (o1 125 (by decide) v).trans (hsn v hv)) (n := n) (by omega)
    have hmv : mvl N (mix Si S) ask sn = mvl N p.1 ask sn := sp.sy.tmv h16 ask (fun _ _ => rfl)
    have hjl : j < (mvl N p.1 ask sn).length := by omega
    have hcj : (mvl N (mix Si S) ask sn)[j]? = some ((mvl N p.1 ask sn)[j]) := by rw [hmv]; exact List.getElem?_eq_getElem hjl
    generalize hcc : (mvl N p.1 ask sn)[j] = c at hcj
    have hcm : c ∈ mvl N p.1 ask sn := by rw [← hcc]; exact List.getElem_mem hjl
    have hcm2 : c ∈ mvl N (mix Si S) ask sn := by rw [hmv]; exact hcm
    have ok := mvl_ok gp.1 h16 hcm
    have ok2 := mvl_ok g2.1 h16 hcm2
    obtain ⟨M3, e3, r3, f3⟩ := r2.tdm g2.1 tR.1 h2 h16 tR.2 (by omega) (g2.fl k (by omega)) m2 hcj (n := n) (by omega)
    have g3 := g2.mv h2 h16 (by omega) hQ ok2 t
    have gm := gp.mv h2 h16 (by omega) hQ ok 0
    have sm : SE (dm t N c (mix Si S)) (dm 0 N c p.1) := sp.tdm g2.1 h16 (by
      rcases ok2 with z | z | z
      · exact Or.inl z
      · exact Or.inr (Or.inl ⟨z.1, z.2.1, z.2.2.1⟩)
      · exact Or.inr (Or.inr ⟨z.1, z.2.1⟩))
    have pa : ∀ o, ¬ PA o → ∀ b, mI M3 o b = mI M2 o b := f3.2.1
    have n120 : ¬ PA 120 := by unfold PA; decide
    have n125 : ¬ PA 125 := by unfold PA; decide
    have n128 : ¬ PA 128 := by unfold PA; decide
    have n129 : ¬ PA 129 := by unfold PA; decide
    have k3 : ∀ b, b ≠ 6 → mI M3 120 b = mI M 120 b := fun b hb => by rw [pa 120 n120, f2.2.2.1 b hb, o1 120 (by decide)]
    have far3 : ∀ o, 125 ≤ o → ∀ b, mI M3 o b = mI M o b := fun o ho b => by
      rw [pa o (by unfold PA; omega), f2.2.1 o (by omega), o1 o (by omega)]
    have hq3 : RQ N A P S0 M3 q := hq.cg (k3 13 (by decide)) (k3 14 (by decide)) (far3 128 (by decide)) (far3 129 (by decide))
    obtain ⟨M4, e4, r4, hq4, f4⟩ := r3.meet h16 (by omega) h40 g3 (by omega) sm hq3 gq (n := n) (by omega)
    have k4 : ∀ b, b ≠ 6 → b ≠ 13 → b ≠ 14 → mI M4 120 b = mI M 120 b := fun b h6 h13 h14 => (f4.2.2.1 b h13 h14).trans (k3 b h6)
    have hM4 : RM N A P S0 t pb pt ask sn nd M4 (met1 most q (dm 0 N c p.1) (p.2 + 1)) l :=
      ⟨⟨_, _, r4, g3⟩, hq4, hc.cg (fun b z1 z2 => k4 b (by omega) (by omega) (by omega)), (k4 7 (by decide) (by decide) (by decide)).trans hask, fun v hv => by rw [f4.2.1 125 (by decide) (by decide) (by decide), far3 125 (by decide)]; exact hsn v hv⟩
    have hiq : i < q.1.length := by
      rcases Nat.lt_or_ge i q.1.length with z | z
      · exact z
      · rw [List.getElem?_eq_none z] at hp; cases hp
    obtain ⟨M', e', gq', hM'⟩ := ih (j + 1) n M4 (met1 most q (dm 0 N c p.1) (p.2 + 1)) (by omega) (met1_pre hp) (gq.m hiq (by omega) gm) hM4 (by omega)
    have ed : (mvl N p.1 ask sn).drop j = c :: (mvl N p.1 ask sn).drop (j + 1) := by rw [List.drop_eq_getElem_cons hjl, hcc]
    rw [ed, exl_c]
    refine ⟨M', ?_, gq', hM'⟩
    rw [f_X10_search_100, if_neg (nI_ge (by omega) (by omega)), rs_f r.1, e1, obd_s, rs_f r1.1, e2, obd_s, rs_f r2.1, e3, obd_s, rs_f r3.1, rs_12 r3.1, bnd_e, rs_f12 r3.1, rs_c12 r3.1 (show i < 40 by omega), mI_c (by omega), far3 129 (by decide), a4, nI_1, e4, obd_s, nI_1, bnd_e]
    exact e'
set_option maxHeartbeats 1000000 in
theorem s72_l (k : SK N A P most S0) (hnd : ∀ v, nd = some v → v < N) : ∀ (d i m n : Nat) (M : Mem) (q : Bq), i + d = most → d + 1 ≤ m → i ≤ q.1.length → GQ N A P most S0 q → RM N A P S0 t pb pt ask sn nd M q (q.1.take i) → d + 20900 ≤ n → ∃ M', f_X10_search_72 n 120 (nI most) (nodI nd) (nI i) M = some M' ∧ RS M' ∧ GQ N A P most S0 (bfs N most ask sn m i q) ∧ RQ N A P S0 M' (bfs N most ask sn m i q) ∧ RC N ask sn nd M' (bfs N most ask sn m i q).1 := by
  obtain ⟨h2, h16, h40, hA, hP, hN0, ht0, hQ⟩ := id k
  have stop : ∀ (i m n : Nat) (M : Mem) (q : Bq), i = q.1.length → GQ N A P most S0 q → RM N A P S0 t pb pt ask sn nd M q (q.1.take i) → 1 ≤ m → 10600 ≤ n → ∃ M', f_X10_search_72 n 120 (nI most) (nodI nd) (nI i) M = some M' ∧ RS M' ∧ GQ N A P most S0 (bfs N most ask sn m i q) ∧ RQ N A P S0 M' (bfs N most ask sn m i q) ∧ RC N ask sn nd M' (bfs N most ask sn m i q).1 := by
    intro i m n M q hi gq hM hm hn
    obtain ⟨n, rfl⟩ : ∃ j, n = j + 1 := ⟨n - 1, by omega⟩
    obtain ⟨m, rfl⟩ : ∃ j, m = j + 1 := ⟨m - 1, by omega⟩
    obtain ⟨⟨S, d, r, g⟩, hq, hc, hask, hsn⟩ := hM
    have eb : bfs N most ask sn (m + 1) i q = q := by
      unfold bfs
      rw [List.getElem?_eq_none (by omega)]
    rw [eb]
    rw [hi, List.take_length] at hc
    have hl := gq.1
    have S1 : RS (sI M 120 7 0) := r.1.e rfl
    have ef := f_back S1 (n := n) (by omega)
    have fin : ∀ o, o ≠ 121 → ∀ b, mI (cpF (sI M 120 7 0) 126 121 0) o b = mI (sI M 120 7 0) o b := fun o n b => by
      show (if o = 121 ∧ 0 ≤ b ∧ b < 10465 then (sI M 120 7 0).2.1 126 b else (sI M 120 7 0).2.1 o b) = (sI M 120 7 0).2.1 o b
      rw [if_neg (fun z => n z.1)]
    have f120 : ∀ b, b ≠ 7 → mI (cpF (sI M 120 7 0) 126 121 0) 120 b = mI M 120 b := fun b n => by rw [fin 120 (by decide), mI_n _ _ _ _ n]
    have fO : ∀ o, o ≠ 121 → o ≠ 120 → ∀ b, mI (cpF (sI M 120 7 0) 126 121 0) o b = mI M o b := fun o n1 n2 b => by rw [fin o n1, mI_o _ _ _ _ _ n2]
    refine ⟨cpF (sI M 120 7 0) 126 121 0, ?_, S1.e rfl, gq, hq.cg (f120 13 (by decide)) (f120 14 (by decide)) (fO 128 (by decide) (by decide)) (fO 129 (by decide) (by decide)), hc.cg (fun b z1 z2 => f120 b (by omega))⟩
    rw [f_X10_search_72, rs_f r.1, hq.1, if_pos (by rw [hi]; exact Int32.le_refl _), bnd_e, ef, obd_s]
  intro d
  induction d with
  | zero =>
    intro i m n M q hi hm hil gq hM hn
    exact stop i m n M q (by have := gq.1; omega) gq hM (by omega) (by omega)
  | succ d ih =>
    intro i m n M q hi hm hil gq hM hn
    by_cases c : i = q.1.length
    · exact stop i m n M q c gq hM (by omega) (by omega)
    · obtain ⟨n, rfl⟩ : ∃ j, n = j + 1 := ⟨n - 1, by omega⟩
      obtain ⟨m, rfl⟩ : ∃ j, m = j + 1 := ⟨m - 1, by omega⟩
      have hlt : i < q.1.length := by omega
      have hl := gq.1
      obtain ⟨p, hp⟩ : ∃ p, q.1[i]? = some p := ⟨_, List.getElem?_eq_getElem hlt⟩
      obtain ⟨⟨S, dS, r, g⟩, hq, hc, hask, hsn⟩ := id hM
      obtain ⟨⟨Si, a1, a2, a3⟩, a4⟩ := hq.2.2 i p hp
      obtain ⟨dp, gp⟩ := gq.2.2 i p hp
      have g2 := a3.tmx k.2.1 g
      obtain ⟨M1, e1, r1, s1, o1, L1⟩ := r.lays a2 (show i < 40 by omega) (n := n) (by omega)
      have sp : SE (mix Si S) p.1 := (mix_SE (a3.2.2.1.ss g.2.2.1)).tr a1
      have tR := g2.tR k
      have hq1 : RQ N A P S0 M1 q := hq.cg (o1 120 (by decide) 13) (o1 120 (by decide) 14) (o1 128 (by decide)) (o1 129 (by decide))
      have hc1 : RC N ask sn nd M1 (q.1.take i) := hc.cg (fun b _ _ => o1 120 (by decide) b)
      have len : (q.1.take i).length ≤ 40 := by rw [List.length_take]; omega
      have c2 : cTwo N (q.1.take i) < 100 := by
        have := List.length_filter_le (fun p => sTwo N p.1) (q.1.take i)
        unfold cTwo; omega
      have c3 : cStk N ask sn (q.1.take i) < 100 := by
        have := List.length_filter_le (fun p => sStk N ask sn p.1) (q.1.take i)
        unfold cStk; omega
      have mx : ∀ l : List (St × Nat), (∀ p, p ∈ l → (fl p.1).length ≤ 9000) → cMx l ≤ 9000 := by
        have gen : ∀ (l : List (St × Nat)) (x : Nat), x ≤ 9000 → (∀ p, p ∈ l → (fl p.1).length ≤ 9000) → l.foldl (fun m p => max m (fl p.1).length) x ≤ 9000 := by
          intro l
          induction l with
          | nil => intro x hx _; exact hx
          | cons p l ihl =>
            intro x hx h
            rw [List.foldl_cons]
            exact ihl _ (Nat.max_le.mpr ⟨hx, h p (by simp)⟩) (fun q hq => h q (List.mem_cons_of_mem _ hq))
        intro l h
        exact gen l 0 (by omega) h
      have c4 : cMx (q.1.take i) ≤ 9000 := mx _ (fun p' hp' => by
        obtain ⟨j, hj⟩ := List.getElem?_of_mem (List.mem_of_mem_take hp')
        obtain ⟨dj, gj⟩ := gq.2.2 j p' hj
        have hjl : j < q.1.length := by
          rcases Nat.lt_or_ge j q.1.length with z | z
          · exact z
          · rw [List.getElem?_eq_none z] at hj; cases hj
        have := gj.fl k (by omega)
        omega)
      obtain ⟨M2, e2, r2, hc2, f2⟩ := r1.look (d := 0) (q := q) (p0 := p) (i := i) (ask := ask) (sn := sn) (nd := nd) h2 tR.1 h16 tR.2 ((o1 120 (by decide) 7).trans hask) (fun v hv => (o1 125 (by decide) v).trans (hsn v hv)) sp hp (by omega) ((o1 129 (by decide) i).trans a4) hnd hc1 ⟨c2, c3⟩ c4 (n := n) (by omega)
      have hq2 : RQ N A P S0 M2 q := hq1.cg (f2.2.2.1 13 (by decide) (by decide)) (f2.2.2.1 14 (by decide) (by decide)) (f2.2.1 128 (by decide)) (f2.2.1 129 (by decide))
      have ask2 : mI M2 120 7 = ask := (f2.2.2.1 7 (by decide) (by decide)).trans ((o1 120 (by decide) 7).trans hask)
      have sn2 : ∀ v, v < N → mI M2 125 v = sn v := fun v hv => (f2.2.1 125 (by decide) v).trans ((o1 125 (by decide) v).trans (hsn v hv))
      obtain ⟨M3, e3, r3, f3⟩ := r2.mvN tR.1 h16 tR.2 ask2 sn2 (n := n) (by omega)
      have hmv : mvl N (mix Si S) ask sn = mvl N p.1 ask sn := sp.sy.tmv h16 ask (fun _ _ => rfl)
      rw [hmv] at e3
      have hM3 : RM N A P S0 t pb pt ask sn nd M3 q (q.1.take (i + 1)) := ⟨⟨_, _, r3, g2⟩, hq2.cg (f3.2.2.1 13 (by decide)) (f3.2.2.1 14 (by decide)) (f3.2.1 128 (by decide)) (f3.2.1 129 (by decide)), hc2.cg (fun b z1 z2 => f3.2.2.1 b (by omega)), (f3.2.2.1 7 (by decide)).trans ask2, fun v hv => (f3.2.1 125 (by decide) v).trans (sn2 v hv)⟩
      have hml := mvl_len (N := N) p.1 ask sn
      obtain ⟨M4, e4, gq4, hM4⟩ := s100_l (t := t) (pb := pb) (pt := pt) (ask := ask) (sn := sn) (nd := nd) k (f_X10_search_72 n) (i := i) (p := p) (l := q.1.take (i + 1)) (by omega) (nodI nd) (mvl N p.1 ask sn).length 0 n M3 q (by omega) hp gq hM3 (by omega)
      rw [List.drop_zero] at gq4 hM4
      obtain ⟨b1, b2⟩ := exl_pre (N := N) (most := most) (S := p.1) (d := p.2) (mvl N p.1 ask sn) q hp
      have eb : bfs N most ask sn (m + 1) i q = bfs N most ask sn m (i + 1) (exl N most p.1 p.2 (mvl N p.1 ask sn) q) := by
        show (match q.1[i]? with
          | none => q
          | some p => bfs N most ask sn m (i + 1) (exl N most p.1 p.2 (mvl N p.1 ask sn) q)) = _
        rw [hp]
      rw [eb]
      rw [← b2] at hM4
      have hi1 : i + 1 ≤ (exl N most p.1 p.2 (mvl N p.1 ask sn) q).1.length := by
        rcases Nat.lt_or_ge i (exl N most p.1 p.2 (mvl N p.1 ask sn) q).1.length with z | z
        · exact z
        · rw [List.getElem?_eq_none z] at b1; cases b1
      obtain ⟨M', e', R⟩ := ih (i + 1) m n M4 _ (by omega) (by omega) hi1 gq4 hM4 (by omega)
      refine ⟨M', ?_, R⟩
      rw [f_X10_search_72, rs_f r.1, hq.1, if_neg (nI_ge hlt (by omega)), e1, obd_s, rs_f r1.1, e2, obd_s, rs_f r2.1, e3, obd2_s]
      exact e4.trans e'
end
/-! ===== the reference's search, whole ===== -/
noncomputable def bfq (N most : Nat) (ask : Int32) (S0 : St) : Bq := bfs N most ask (fun v => xR S0 2 v) (most + 1) 0 ([(S0, 0)], false)
theorem s6_l {t : Int32} {S0 : St} {pb pt : List Row4} {N most : Nat} {v2 : Int32} (hN : xR S0 20 0 = nI N) (h16 : N ≤ 16) : ∀ (d i n : Nat) (M : Mem), i + d = N → RV M false t S0 pb pt → (∀ v, v < i → mI M 125 v = xR S0 2 v) → d + 1 ≤ n → ∃ M' n', f_X10_search_6 n 120 (nI most) v2 (nI i) M = f_X10_search_6 (n' + 1) 120 (nI most) v2 (nI N) M' ∧ n ≤ n' + 1 + d ∧ RV M' false t S0 pb pt ∧ (∀ v, v < N → mI M' 125 v = xR S0 2 v) ∧ ∀ b, mI M' 120 b = mI M 120 b := by
  intro d
  induction d with
  | zero =>
    intro i n M hi p hs hn
    exact ⟨M, n - 1, by rw [show i = N by omega, show n - 1 + 1 = n by omega], by omega, p, fun v hv => hs v (by omega), fun _ => rfl⟩
  | succ d ih =>
    intro i n M hi p hs hn
    obtain ⟨n, rfl⟩ : ∃ m, n = m + 1 := ⟨n - 1, by omega⟩
    generalize hMa : sI M 125 i (xR S0 2 i) = Ma
    have pa : RV Ma false t S0 pb pt := p.cg (by rw [← hMa]; rfl) (by rw [← hMa, mI_o _ _ _ _ _ (by decide)]) (fun b => by rw [← hMa, mI_o _ _ _ _ _ (by decide)]) (fun b => by rw [← hMa, mI_o _ _ _ _ _ (by decide)])
    obtain ⟨M', n', e, hn', p', s', k'⟩ := ih (i + 1) n Ma (by omega) pa (fun v hv => by
      rw [← hMa]
      by_cases c : v = i
      · rw [c, mI_s]
      · rw [mI_n _ _ _ _ c]; exact hs v (by omega)) (by omega)
    refine ⟨M', n', ?_, by omega, p', s', fun b => by rw [k', ← hMa, mI_o _ _ _ _ _ (by decide)]⟩
    rw [f_X10_search_6, rs_f p.1, rs_0 p.1, bnd_e, rs_fa p.1, rs_c0 p.1, cl0, p.N hN, if_neg (nI_ge (by omega) (by omega)), rs_5 p.1, bnd_e, rs_f5 p.1, p.get2 (by omega), obd_s, rs_c5 p.1 (by omega), sI_c (by omega), hMa, bnd_e, nI_1, bnd_e]
    exact e
theorem SK_Q0 {N A P most : Nat} {S0 : St} (g : GS N A P S0 S0 0) (h : 0 < most) : GQ N A P most S0 ([(S0, 0)], false) := by
  refine ⟨h, fun z => Bool.noConfusion z, fun i p hp => ?_⟩
  cases i with
  | zero =>
    have : p = (S0, 0) := by simpa using hp.symm
    rw [this]
    exact ⟨Nat.le_refl _, g⟩
  | succ i => simp at hp
set_option maxHeartbeats 1000000 in
theorem RV.srch {N A P most n : Nat} {S0 : St} {M : Mem} {t : Int32} {pb pt : List Row4} {ask : Int32} {nd : Option Nat} (p : RV M false t S0 pb pt) (k : SK N A P most S0) (hm : 0 < most) (g : GS N A P S0 S0 0) (hask : mI M 120 7 = ask) (hnd : ∀ v, nd = some v → v < N) (hn : 30000 ≤ n) : ∃ M', f_X10_search n 120 (nI most) (nodI nd) M = some M' ∧ RS M' ∧ GQ N A P most S0 (bfq N most ask S0) ∧ RQ N A P S0 M' (bfq N most ask S0) ∧ RC N ask (fun v => xR S0 2 v) nd M' (bfq N most ask S0).1 := by
  obtain ⟨h2, h16, h40, hA, hP, hN0, ht0, hQ⟩ := id k
  have ea := f_aside p.1 (n := n) (by omega)
  generalize hMa : cpF M 121 126 0 = Ma at ea
  have oa : ∀ o, o ≠ 126 → ∀ b, mI Ma o b = mI M o b := fun o n b => by
    rw [← hMa]
    show (if o = 126 ∧ 0 ≤ b ∧ b < 10465 then M.2.1 121 b else M.2.1 o b) = M.2.1 o b
    rw [if_neg (fun z => n z.1)]
  have pa : RV Ma false t S0 pb pt := p.cg (by rw [← hMa]; rfl) (oa 120 (by decide) 3) (oa 121 (by decide)) (oa 123 (by decide))
  obtain ⟨M1, n1, e1, hn1, p1, s1, k1⟩ := s6_l (most := most) (v2 := nodI nd) hN0 h16 N 0 n Ma (by omega) pa (fun v hv => by omega) (by omega)
  generalize hMb : sI (sI (sI (sI (sI (sI M1 120 13 (0 : Int32)) 120 14 (0 : Int32)) 120 15 (0 : Int32)) 120 16 (0 : Int32)) 120 17 (0 : Int32)) 120 18 (-1 : Int32) = Mb
  have b13 : mI Mb 120 13 = 0 := by rw [← hMb, mI_n _ _ _ _ (by decide), mI_n _ _ _ _ (by decide), mI_n _ _ _ _ (by decide), mI_n _ _ _ _ (by decide), mI_n _ _ _ _ (by decide), mI_s]
  have b14 : mI Mb 120 14 = 0 := by rw [← hMb, mI_n _ _ _ _ (by decide), mI_n _ _ _ _ (by decide), mI_n _ _ _ _ (by decide), mI_n _ _ _ _ (by decide), mI_s]
  have b15 : mI Mb 120 15 = 0 := by rw [← hMb, mI_n _ _ _ _ (by decide), mI_n _ _ _ _ (by decide), mI_n _ _ _ _ (by decide), mI_s]
  have b16 : mI Mb 120 16 = 0 := by rw [← hMb, mI_n _ _ _ _ (by decide), mI_n _ _ _ _ (by decide), mI_s]
  have b17 : mI Mb 120 17 = 0 := by rw [← hMb, mI_n _ _ _ _ (by decide), mI_s]
  have b18 : mI Mb 120 18 = -1 := by rw [← hMb, mI_s]
  have bo : ∀ o, o ≠ 120 → ∀ b, mI Mb o b = mI M1 o b := fun o n b => by rw [← hMb, mI_o _ _ _ _ _ n, mI_o _ _ _ _ _ n, mI_o _ _ _ _ _ n, mI_o _ _ _ _ _ n, mI_o _ _ _ _ _ n, mI_o _ _ _ _ _ n]
  have bk : ∀ b, b < 13 → mI Mb 120 b = mI M1 120 b := fun b hb => by rw [← hMb, mI_n _ _ _ _ (by omega), mI_n _ _ _ _ (by omega), mI_n _ _ _ _ (by omega), mI_n _ _ _ _ (by omega), mI_n _ _ _ _ (by omega), mI_n _ _ _ _ (by omega)]
  have pb' : RV Mb false t S0 pb pt := p1.cg (by rw [← hMb]; rfl) (bk 3 (by decide)) (bo 121 (by decide)) (bo 123 (by decide))
  have q0 : RQ N A P S0 Mb ([], false) := ⟨b13, b14, fun i p hp => by simp at hp⟩
  have g0 : GQ N A P most S0 ([], false) := ⟨Nat.zero_le _, fun z => absurd z (by decide), fun i p hp => by simp at hp⟩
  obtain ⟨M2, e2, p2, q2, f2⟩ := pb'.meet (dd := 0) h16 (by omega) h40 g (by omega) (SE.rf S0) q0 g0 (n := n1) (by omega)
  have em : met1 most ([], false) S0 0 = ([(S0, 0)], false) := by
    unfold met1
    have : knw ([] : List (St × Nat)) S0 = false := by
      cases e : knw ([] : List (St × Nat)) S0 with
      | false => rfl
      | true =>
        obtain ⟨q, hq, _⟩ := knw_t.mp e
        simp at hq
    rw [show (([], false) : Bq).1 = [] from rfl, this, if_neg (by decide), if_pos (by simpa using hm)]
    rfl
  rw [em] at q2
  have o2 : ∀ b, b ≠ 13 → b ≠ 14 → mI M2 120 b = mI Mb 120 b := f2.2.2.1
  have hM2 : RM N A P S0 t pb pt ask (fun v => xR S0 2 v) nd M2 ([(S0, 0)], false) ((([(S0, 0)], false) : Bq).1.take 0) := by
    refine ⟨⟨S0, 0, p2, g⟩, q2, ⟨?_, ?_, ?_, ?_⟩, ?_, fun v hv => ?_⟩
    · rw [o2 15 (by decide) (by decide)]; exact b15
    · rw [o2 16 (by decide) (by decide)]; exact b16
    · rw [o2 17 (by decide) (by decide)]; exact b17
    · rw [o2 18 (by decide) (by decide), b18]
      cases nd <;> rfl
    · rw [o2 7 (by decide) (by decide), bk 7 (by decide), k1, oa 120 (by decide)]
      exact hask
    · rw [f2.2.1 125 (by decide) (by decide) (by decide), bo 125 (by decide)]
      exact s1 v hv
  obtain ⟨M3, e3, S3, G3, Q3, C3⟩ := s72_l (t := t) (pb := pb) (pt := pt) (ask := ask) (sn := fun v => xR S0 2 v) (nd := nd) k hnd most 0 (most + 1) n1 M2 ([(S0, 0)], false) (by omega) (by omega) (Nat.zero_le _) (SK_Q0 g hm) hM2 (by omega)
  refine ⟨M3, ?_, S3, G3, Q3, C3⟩
  rw [f_X10_search, rs_f p.1, ea, obd_s, show (0 : Int32) = nI 0 from rfl, e1, f_X10_search_6, rs_f p1.1, rs_0 p1.1, bnd_e, rs_fa p1.1, rs_c0 p1.1, cl0, p1.N hN0, if_pos (Int32.le_refl _), bnd_e, chk_t (Or.inl rfl), bnd_e, bnd_e, bnd_e, bnd_e, bnd_e, hMb, show (0 : Int32) = nI 0 from rfl, e2, obd_s]
  exact e3
/-- what is told of a search -/
def cSe (N : Nat) (ask : Int32) (sn : Nat → Int32) (q : Bq) (w : Nat) : Int32 :=
  if w = 0 then nI q.1.length else if w = 1 then nI (cTwo N q.1) else if w = 2 then nI (cStk N ask sn q.1) else if w = 3 then nI (cMx q.1) else if w = 4 then (if q.2 then 0 else 1) else (match q.1[q.1.length - 1]? with
    | none => 0
    | some p => nI p.2)
theorem bfs_le (N most : Nat) (ask : Int32) (sn : Nat → Int32) : ∀ (n i : Nat) (q : Bq), q.1.length ≤ (bfs N most ask sn n i q).1.length := by
  intro n
  induction n with
  | zero => intro i q; exact Nat.le_refl _
  | succ n ih =>
    intro i q
    unfold bfs
    split
    · exact Nat.le_refl _
    · refine Nat.le_trans ?_ (ih _ _)
      have gen : ∀ (cs : List Nat) (S : St) (d : Nat) (q : Bq), q.1.length ≤ (exl N most S d cs q).1.length := by
        intro cs
        induction cs with
        | nil => intro S d q; exact Nat.le_refl _
        | cons c cs ihc => intro S d q; rw [exl_c]; exact Nat.le_trans (met1_le _ _ _ _) (ihc _ _ _)
      exact gen _ _ _ _
theorem bfq_pos (N most : Nat) (ask : Int32) (S0 : St) : 1 ≤ (bfq N most ask S0).1.length := bfs_le N most ask (fun v => xR S0 2 v) (most + 1) 0 ([(S0, 0)], false)
theorem f_all {M : Mem} {t : Int32} {S : St} {pb pt : List Row4} {N : Nat} (p : RV M false t S pb pt) (hN : xR S 20 0 = nI N) : f_X10_all 120 M = some (((1 : Int32) <<< (nI N &&& 31)) - 1) := by
  rw [f_X10_all, rs_f p.1, rs_0 p.1, bnd_e, rs_fa p.1, rs_c0 p.1, cl0, p.N hN]
set_option maxHeartbeats 1000000 in
theorem RV.sby {N A P most n w : Nat} {S0 : St} {M : Mem} {t : Int32} {pb pt : List Row4} {ask : Int32} (p : RV M false t S0 pb pt) (k : SK N A P most S0) (hm : 0 < most) (g : GS N A P S0 S0 0) (ha : ask &&& ((((1 : Int32) <<< (nI N &&& 31)) - 1) ^^^ (-1 : Int32)) = 0) (hw : w < 6) (hn : 30000 ≤ n) : ∃ M', f_X10_searchedBy n 120 ask (nI most) (nI w) M = some (cSe N ask (fun v => xR S0 2 v) (bfq N most ask S0) w, M') := by
  obtain ⟨h2, h16, h40, hA, hP, hN0, ht0, hQ⟩ := id k
  have pa : RV (sI M 120 7 ask) false t S0 pb pt := p.cg rfl (mI_n _ _ _ _ (by decide)) (fun b => mI_o _ _ _ _ _ (by decide)) (fun b => mI_o _ _ _ _ _ (by decide))
  obtain ⟨M1, e1, S1, G1, Q1, C1⟩ := pa.srch (nd := none) k hm g (mI_s _ _ _ _) (fun v z => by cases z) hn
  have hpos := bfq_pos N most ask S0
  generalize bfq N most ask S0 = q at G1 Q1 C1 hpos ⊢
  have hl := G1.1
  refine ⟨M1, ?_⟩
  have i1 : f_X10_isIn (nI most) (1 : Int32) (40 : Int32) M = some 1 := is_in3 (L := 1) (N := 40) (by decide) hm h40
  rw [f_X10_searchedBy, rs_f p.1, f_all p hN0, obd_s, if_pos ha, i1, obd_s, if_neg ne10, show (5 : Int32) = nI 5 from rfl, f_isI M (show w ≤ 5 by omega) (by decide), obd_s, if_neg ne10, bnd_e, show f_X10_search n 120 (nI most) (-1) (sI M 120 7 ask) = some M1 from e1, obd_s]
  unfold cSe
  rcases (show w = 0 ∨ w = 1 ∨ w = 2 ∨ w = 3 ∨ w = 4 ∨ w = 5 by omega) with rfl | rfl | rfl | rfl | rfl | rfl
  · rw [if_pos (show nI 0 = (0 : Int32) from rfl), if_pos rfl, rs_f S1, Q1.1]
  · rw [if_neg (show ¬ nI 1 = (0 : Int32) by decide), if_pos (show nI 1 = (1 : Int32) from rfl), if_neg (show ¬ (1 : Nat) = 0 by decide), if_pos rfl, rs_f S1, C1.1]
  · rw [if_neg (show ¬ nI 2 = (0 : Int32) by decide), if_neg (show ¬ nI 2 = (1 : Int32) by decide), if_pos (show nI 2 = (2 : Int32) from rfl), if_neg (show ¬ (2 : Nat) = 0 by decide), if_neg (show ¬ (2 : Nat) = 1 by decide), if_pos rfl, rs_f S1, C1.2.1]
  · rw [if_neg (show ¬ nI 3 = (0 : Int32) by decide), if_neg (show ¬ nI 3 = (1 : Int32) by decide), if_neg (show ¬ nI 3 = (2 : Int32) by decide), if_pos (show nI 3 = (3 : Int32) from rfl), if_neg (show ¬ (3 : Nat) = 0 by decide), if_neg (show ¬ (3 : Nat) = 1 by decide), if_neg (show ¬ (3 : Nat) = 2 by decide), if_pos rfl, rs_f S1, C1.2.2.1]
  · rw [if_neg (show ¬ nI 4 = (0 : Int32) by decide), if_neg (show ¬ nI 4 = (1 : Int32) by decide), if_neg (show ¬ nI 4 = (2 : Int32) by decide), if_neg (show ¬ nI 4 = (3 : Int32) by decide), if_pos (show nI 4 = (4 : Int32) from rfl), if_neg (show ¬ (4 : Nat) = 0 by decide), if_neg (show ¬ (4 : Nat) = 1 by decide), if_neg (show ¬ (4 : Nat) = 2 by decide), if_neg (show ¬ (4 : Nat) = 3 by decide), if_pos rfl, rs_f S1, Q1.2.1]
    cases q.2
    · rfl
    · rfl
  · obtain ⟨p5, h5⟩ : ∃ p5, q.1[q.1.length - 1]? = some p5 := ⟨_, List.getElem?_eq_getElem (by omega)⟩
    have d5 := (Q1.2.2 _ p5 h5).2
    have e1 : nI q.1.length - (1 : Int32) = nI (q.1.length - 1) := by rw [show (1 : Int32) = nI 1 from rfl, nI_sb hpos]
    rw [if_neg (show ¬ nI 5 = (0 : Int32) by decide), if_neg (show ¬ nI 5 = (1 : Int32) by decide), if_neg (show ¬ nI 5 = (2 : Int32) by decide), if_neg (show ¬ nI 5 = (3 : Int32) by decide), if_neg (show ¬ nI 5 = (4 : Int32) by decide), if_neg (show ¬ (5 : Nat) = 0 by decide), if_neg (show ¬ (5 : Nat) = 1 by decide), if_neg (show ¬ (5 : Nat) = 2 by decide), if_neg (show ¬ (5 : Nat) = 3 by decide), if_neg (show ¬ (5 : Nat) = 4 by decide), rs_f S1, rs_12 S1, bnd_e, rs_f12 S1, Q1.1, e1, rs_c12 S1 (by omega), mI_c (by omega), d5, h5]
theorem RV.ssn {N A P most n v : Nat} {S0 : St} {M : Mem} {t : Int32} {pb pt : List Row4} (p : RV M false t S0 pb pt) (k : SK N A P most S0) (hm : 0 < most) (g : GS N A P S0 S0 0) (h7 : mI M 120 7 = 0) (hv : v < N) (hnd : f_X10_isNode 120 (nI v) M = some 1) (hn : 30000 ≤ n) : ∃ M', f_X10_soonest n 120 (nI v) (nI most) M = some (cSon v (bfq N most 0 S0).1, M') := by
  obtain ⟨h2, h16, h40, hA, hP, hN0, ht0, hQ⟩ := id k
  obtain ⟨M1, e1, S1, G1, Q1, C1⟩ := p.srch (nd := some v) k hm g h7 (fun u z => by cases z; exact hv) hn
  refine ⟨M1, ?_⟩
  have i1 : f_X10_isIn (nI most) (1 : Int32) (40 : Int32) M = some 1 := is_in3 (L := 1) (N := 40) (by decide) hm h40
  rw [f_X10_soonest, rs_f p.1, hnd, obd_s, if_neg ne10, i1, obd_s, if_neg ne10, show f_X10_search n 120 (nI most) (nI v) M = some M1 from e1, obd_s, rs_f S1, C1.2.2.2]
  rfl
/-! ===== the class's search: its cells ===== -/
def SX (M : Mem) : Prop := isO M 6 114 ∧ (mR M 114 0 = 63 ∧ mR M 114 1 = 115 ∧ mR M 114 2 = 116 ∧ mR M 114 3 = 117 ∧ mR M 114 4 = 118) ∧ (isO M 100 115 ∧ isO M 100 116 ∧ isO M 100 117 ∧ isO M 100 118) ∧ (mLn M 115 = 41 ∧ mLn M 116 = 40 ∧ mLn M 117 = 40 ∧ mLn M 118 = 16) ∧ 131 ≤ mN M
def CL (M : Mem) (dC L e : Nat) : Prop := mR M 114 5 = dC ∧ isO M 100 dC ∧ mLn M dC = L ∧ (dC = 119 ∨ 131 ≤ dC) ∧ mI M 114 6 = nI e ∧ e ≤ L ∧ 1024 ≤ L ∧ L ≤ 1520000 ∧ dC ≠ mR M 64 5 ∧ dC ≠ mR M 64 6 ∧ dC ≠ mR M 64 7
/-- the cells, or another row for them, and the end alone have changed -/
def FrC (M M' : Mem) (dC dC' : Nat) : Prop := mN M ≤ mN M' ∧ (∀ o, o < mN M → M'.1.2.1 o = M.1.2.1 o) ∧ (∀ o b, o < mN M → ¬ (o = 114 ∧ b = 5) → mR M' o b = mR M o b) ∧ (∀ o, o < mN M → o ≠ 114 → o ≠ dC → ∀ b, mI M' o b = mI M o b) ∧ (∀ b, b ≠ 6 → mI M' 114 b = mI M 114 b) ∧ (∀ o, o < mN M → ∀ b, mL M' o b = mL M o b) ∧ (dC' = dC ∨ mN M ≤ dC')
theorem FrC.rf (M : Mem) (dC : Nat) : FrC M M dC dC := ⟨Nat.le_refl _, fun _ _ => rfl, fun _ _ _ _ => rfl, fun _ _ _ _ _ => rfl, fun _ _ => rfl, fun _ _ _ => rfl, Or.inl rfl⟩
theorem FrC.tr {M M' M'' : Mem} {a b c : Nat} (h : FrC M M' a b) (h' : FrC M' M'' b c) : FrC M M'' a c := by
  obtain ⟨a1, a2, a3, a4, a5, a6, a7⟩ := h
  obtain ⟨b1, b2, b3, b4, b5, b6, b7⟩ := h'
  refine ⟨Nat.le_trans a1 b1, fun o ho => (b2 o (by omega)).trans (a2 o ho), fun o k ho n => (b3 o k (by omega) n).trans (a3 o k ho n), fun o ho n1 n2 k => (b4 o (by omega) n1 (by omega) k).trans (a4 o ho n1 n2 k), fun k n => (b5 k n).trans (a5 k n), fun o ho k => (b6 o (by omega) k).trans (a6 o ho k), by omega⟩
theorem SX.fr {M M' : Mem} {a b : Nat} (x : SX M) (f : FrC M M' a b) : SX M' := by
  obtain ⟨⟨i1, i2⟩, ⟨r0, r1, r2, r3, r4⟩, ⟨j1, j2, j3, j4⟩, ⟨l1, l2, l3, l4⟩, hN⟩ := x
  obtain ⟨f1, f2, f3, _⟩ := f
  have io : ∀ c o, isO M c o → isO M' c o := fun c o z => ⟨by have := z.1; omega, by rw [mC, f2 o z.1]; exact z.2⟩
  have ln : ∀ o, o < 131 → mLn M' o = mLn M o := fun o ho => by rw [mLn, f2 o (by omega)]; rfl
  refine ⟨io _ _ ⟨i1, i2⟩, ⟨?_, ?_, ?_, ?_, ?_⟩, ⟨io _ _ j1, io _ _ j2, io _ _ j3, io _ _ j4⟩, ⟨?_, ?_, ?_, ?_⟩, by omega⟩
  · rw [f3 114 0 i1 (by decide)]; exact r0
  · rw [f3 114 1 i1 (by decide)]; exact r1
  · rw [f3 114 2 i1 (by decide)]; exact r2
  · rw [f3 114 3 i1 (by decide)]; exact r3
  · rw [f3 114 4 i1 (by decide)]; exact r4
  · rw [ln 115 (by decide)]; exact l1
  · rw [ln 116 (by decide)]; exact l2
  · rw [ln 117 (by decide)]; exact l3
  · rw [ln 118 (by decide)]; exact l4
theorem HV.frC {M M' : Mem} {X Y X' Y' N a b : Nat} {t : Int32} {Q : Nat → Int32} {S : St} {pb pt : List Row4} (p : HV M 63 X Y t N Q S pb pt) (f : FrC M M' a b) (ha : (a = 119 ∨ 131 ≤ a) ∧ a ≠ mR M 64 5 ∧ a ≠ mR M 64 6 ∧ a ≠ mR M 64 7) (rm' : Rm M' 63 X' Y') : HV M' 63 X' Y' t N Q S pb pt := by
  obtain ⟨q, ⟨d5, d6, d7, len, K, fr, us, ow, w, hK⟩, hp, rm, ⟨lb, lt⟩, hN, hQ⟩ := p
  obtain ⟨f1, f2, f3, f4, f5, f6, f7⟩ := f
  obtain ⟨ha0, ha5, ha6, ha7⟩ := ha
  have hq := q.2.2.2.2
  obtain ⟨⟨w5, w6, w7⟩, ⟨j5, j6, j7⟩, ⟨n5, n6, n7⟩, y⟩ := id w.1
  have io : ∀ c o, isO M c o → isO M' c o := fun c o z => ⟨by have := z.1; omega, by rw [mC, f2 o z.1]; exact z.2⟩
  have ln : ∀ o, o < mN M → mLn M' o = mLn M o := fun o ho => by rw [mLn, f2 o ho]; rfl
  have r64 : ∀ b, mR M' 64 b = mR M 64 b := fun b => f3 64 b (by omega) (by omega)
  have oI : ∀ o, o < 114 → ∀ k, mI M' o k = mI M o k := fun o ho k => f4 o (by omega) (by omega) (by omega) k
  have oD : ∀ o, o < mN M → o ≠ 114 → o ≠ a → ∀ k, mI M' o k = mI M o k := fun o ho n1 n2 k => f4 o ho n1 n2 k
  have cs' : CS M' 63 := by
    refine ⟨fun i hi hn => ?_, fun z hz => ?_, ?_, io _ _ q.2.2.2.1, hq.1, hq.2.1, by omega⟩
    · rw [f2 (63 + i) (by omega)]; exact q.1 i hi hn
    · have hb : ∀ z, z ∈ tH → z.1 < 49 := by decide
      have := hb z hz
      rw [f3 (63 + z.1) z.2.1 (by omega) (by omega)]; exact q.2.1 z hz
    · rw [f3 63 0 (by omega) (by omega)]; exact q.2.2.1
  have ds' : DS M' 63 d5 d6 d7 len := by
    refine ⟨⟨?_, ?_, ?_⟩, ⟨io _ _ j5, io _ _ j6, io _ _ j7⟩, ⟨by rw [ln _ j5.1]; exact n5, by rw [ln _ j6.1]; exact n6, by rw [ln _ j7.1]; exact n7⟩, y⟩
    · show mR M' 64 5 = d5; rw [r64]; exact w5
    · show mR M' 64 6 = d6; rw [r64]; exact w6
    · show mR M' 64 7 = d7; rw [r64]; exact w7
  have e5 : d5 = mR M 64 5 := w5.symm
  have e6 : d6 = mR M 64 6 := w6.symm
  have e7 : d7 = mR M 64 7 := w7.symm
  have hl := w.2.2.2.2.2.2.2.2.2.1
  refine ⟨cs', ⟨d5, d6, d7, len, K, fr, us, ow, w.cg ds' (Nat.le_refl _) (by omega) (fun i i1 i6 k => oI _ (by omega) k) (fun k _ => oD d5 j5.1 (by omega) (by omega) k) (fun k _ => oD d6 j6.1 (by omega) (by omega) k) (fun k _ => oD d7 j7.1 (by omega) (by omega) k), hK⟩, hp.cg (fun o ho k => oI o (by omega) k) (fun _ _ _ => rfl) rfl, rm', ⟨lb.cg (oI _ (by omega)) (oI _ (by omega)), lt.cg (oI _ (by omega)) (oI _ (by omega))⟩, by rw [oI 1 (by omega)]; exact hN, fun v hv => by rw [oI _ (by omega)]; exact hQ v hv⟩
theorem Rm.mo {M : Mem} {h X Y X' Y' : Nat} (r : Rm M h X Y) (a : X ≤ X') (b : Y ≤ Y') (c : X' ≤ 2000000) (d : Y' ≤ 6000000) : Rm M h X' Y' := ⟨by have := r.1; omega, by have := r.2.1; omega, c, d, r.2.2.2.2⟩
section
variable {M : Mem} {X0 Y0 N dC L e : Nat} {t : Int32} {Q : Nat → Int32} {S : St} {pb pt : List Row4}
set_option maxHeartbeats 1000000 in
theorem push1 (sx : SX M) (c : CL M dC L e) (p : HV M 63 (X0 + L / 16) (Y0 + 2 * L) t N Q S pb pt) (hX : X0 ≤ 100000) (hY : Y0 ≤ 1000000) (he : e < 760000) (x : Int32) : ∃ M' dC' L', f_X6_push 114 x M = some M' ∧ SX M' ∧ CL M' dC' L' (e + 1) ∧ HV M' 63 (X0 + L' / 16) (Y0 + 2 * L') t N Q S pb pt ∧ (∀ j, j < e → mI M' dC' j = mI M dC j) ∧ mI M' dC' e = x ∧ FrC M M' dC dC' := by
  obtain ⟨c1, c2, c3, c4, c5, c6, c7, c8, c9, c10, c11⟩ := id c
  have hN := sx.2.2.2.2
  have ha : (dC = 119 ∨ 131 ≤ dC) ∧ dC ≠ mR M 64 5 ∧ dC ≠ mR M 64 6 ∧ dC ≠ mR M 64 7 := ⟨c4, c9, c10, c11⟩
  have d114 : dC ≠ 114 := by omega
  by_cases g : e = L
  · -- a longer row
    have rm := p.2.2.2.1
    have hlen : mLn M (mR M (63 + 1) 5) ≤ 18000 := by
      obtain ⟨d5, d6, d7, len, K, fr, us, ow, w, _⟩ := p.2.1
      rw [w.1.1.1, w.1.2.2.1.1]
      exact w.2.2.2.2.2.2.2.2.2.1.2.2.2.1
    have cap : mN M + 1 ≤ CAP ∧ mU M + 2 * L ≤ CAPU := by
      have a := rm.1
      have b := rm.2.1
      unfold CAP CAPU
      omega
    have ec := f_copyOf c2 c3 (by omega) (by omega) cap.1 cap.2
    generalize hM1 : gw1 M dC 114 5 L = M1
    have io1 : ∀ c o, isO M c o → isO M1 c o := fun c o z => by rw [← hM1]; exact gw1_io z
    have hne : dC ≠ mN M := by have := c2.1; omega
    have i1 : ∀ o, o < mN M → ∀ b, mI M1 o b = mI M o b := fun o ho b => by rw [← hM1]; exact gw1_I _ _ _ _ _ _ (by omega)
    have r1 : ∀ o b, o < mN M → mR M1 o b = if o = 114 ∧ b = 5 then mN M else mR M o b := fun o b ho => by rw [← hM1]; exact gw1_R _ _ _ _ _ _ (by omega)
    have n1 : mN M1 = mN M + 1 := by rw [← hM1]; rfl
    have u1 : mU M1 = mU M + 2 * L := by rw [← hM1]; rfl
    have t1 : ∀ o, o < mN M → M1.1.2.1 o = M.1.2.1 o := fun o ho => by rw [← hM1, gw1_C, if_neg (by omega)]
    have w1 : isO M1 100 (mN M) := by rw [← hM1]; exact gw1_new _ _ _ _ _
    have l1 : mLn M1 (mN M) = 2 * L := by rw [← hM1]; exact gw1_ln' _ _ _ _ _
    have j1 : ∀ b, b < L → mI M1 (mN M) b = mI M dC b := fun b hb => by rw [← hM1]; exact gw1_J _ _ _ _ _ hne hb
    have L1 : ∀ o, o < mN M → ∀ b, mL M1 o b = mL M o b := fun o ho b => by rw [← hM1]; exact gw1_L _ _ _ _ _ _ (by omega)
    generalize hM2 : sI M1 (mN M) e x = M2
    generalize hM3 : sI M2 114 6 (nI (e + 1)) = M3
    have s3 : M3.1 = M1.1 := by rw [← hM3, ← hM2]; rfl
    have i3 : ∀ o, o < mN M → o ≠ 114 → ∀ b, mI M3 o b = mI M o b := fun o ho n b => by
      rw [← hM3, mI_o _ _ _ _ _ n, ← hM2, mI_o _ _ _ _ _ (by omega), i1 o ho]
    have i114 : ∀ b, b ≠ 6 → mI M3 114 b = mI M 114 b := fun b n => by
      rw [← hM3, mI_n _ _ _ _ n, ← hM2, mI_o _ _ _ _ _ (by omega), i1 114 (by omega)]
    have R3 : ∀ o b, mR M3 o b = mR M1 o b := fun o b => by unfold mR; rw [s3]
    have I3 : ∀ c o, isO M1 c o → isO M3 c o := fun c o z => by
      unfold isO mN mC at *
      rw [s3]; exact z
    have N3 : mN M3 = mN M + 1 := by unfold mN at *; rw [s3]; exact n1
    have U3 : mU M3 = mU M + 2 * L := by unfold mU at *; rw [s3]; exact u1
    have ln3 : ∀ o, mLn M3 o = mLn M1 o := fun o => by unfold mLn; rw [s3]
    have F : FrC M M3 dC (mN M) := by
      refine ⟨by omega, fun o ho => by rw [s3]; exact t1 o ho, fun o b ho n => ?_, fun o ho n _ b => i3 o ho n b, i114, fun o ho b => ?_, Or.inr (Nat.le_refl _)⟩
      · rw [R3, r1 o b ho, if_neg n]
      · rw [← hM3, ← hM2]; exact L1 o ho b
    have e64 : ∀ b, mR M3 64 b = mR M 64 b := fun b => by rw [R3, r1 64 b (by omega), if_neg (by omega)]
    have rm3 : Rm M3 63 (X0 + 2 * L / 16) (Y0 + 2 * (2 * L)) := by
      have a := rm.1
      have b := rm.2.1
      have l5 : mLn M3 (mR M3 (63 + 1) 5) = mLn M (mR M (63 + 1) 5) := by
        rw [show mR M3 (63 + 1) 5 = mR M (63 + 1) 5 from e64 5]
        obtain ⟨d5, d6, d7, len, K, fr, us, ow, w, _⟩ := p.2.1
        rw [w.1.1.1]
        rw [mLn, s3, t1 d5 w.1.2.1.1.1]; rfl
      refine ⟨?_, ?_, by omega, by omega, by rw [l5]; exact rm.2.2.2.2⟩
      · rw [l5, N3]; omega
      · rw [l5, U3]; omega
    have d57 : ∀ j, 5 ≤ j → j ≤ 7 → mR M 64 j < mN M := fun j a b => by
      obtain ⟨d5, d6, d7, len, K, fr, us, ow, w, _⟩ := p.2.1
      obtain ⟨⟨z5, z6, z7⟩, ⟨k5, k6, k7⟩, _⟩ := w.1
      have z5' : mR M 64 5 = d5 := z5
      have z6' : mR M 64 6 = d6 := z6
      have z7' : mR M 64 7 = d7 := z7
      have := k5.1
      have := k6.1
      have := k7.1
      rcases (show j = 5 ∨ j = 6 ∨ j = 7 by omega) with rfl | rfl | rfl <;> omega
    refine ⟨M3, mN M, 2 * L, ?_, sx.fr F, ⟨?_, I3 _ _ w1, by rw [ln3]; exact l1, Or.inr hN, ?_, by omega, by omega, by omega, ?_, ?_, ?_⟩, p.frC F ha rm3, fun j hj => ?_, ?_, F⟩
    · rw [f_X6_push, chk_t sx.1, c1, bnd_e, chk_t c2, c5, c3, n32, if_pos (by rw [g]), bnd_e, chk_t c2, show nI e * (2 : Int32) = nI (2 * L) by rw [show (2 : Int32) = nI 2 from rfl, pk_mul, g, Nat.mul_comm], ec, obd2_s]
      rw [chk_t (cp_io sx.1), chk_t (cp_new M dC L)]
      rw [show sR (cpI (nw M 100 (2 * L) (2 * L)) dC 0 (mN M) 0 L) 114 5 (mN M) = M1 from hM1, bnd_e, r1 114 5 (by omega), if_pos ⟨rfl, rfl⟩, bnd_e, chk_t w1, i1 114 (by omega), c5, l1, chk_t (inB_n (by omega) (by omega)), sI_d (by omega), hM2, bnd_e, show mI M2 114 6 = nI e by rw [← hM2, mI_o _ _ _ _ _ (by omega), i1 114 (by omega), c5], nI_1, hM3, bnd_e]
    · rw [R3, r1 114 5 (by omega), if_pos ⟨rfl, rfl⟩]
    · rw [← hM3, mI_s]
    · rw [e64]; have := d57 5 (by decide) (by decide); omega
    · rw [e64]; have := d57 6 (by decide) (by decide); omega
    · rw [e64]; have := d57 7 (by decide) (by decide); omega
    · rw [← hM3, mI_o _ _ _ _ _ (by omega), ← hM2, mI_n _ _ _ _ (by omega), j1 j (by omega)]
    · rw [← hM3, mI_o _ _ _ _ _ (by omega), ← hM2, mI_s]
  · generalize hM2 : sI M dC e x = M2
    generalize hM3 : sI M2 114 6 (nI (e + 1)) = M3
    have s3 : M3.1 = M.1 := by rw [← hM3, ← hM2]; rfl
    have F : FrC M M3 dC dC := by
      refine ⟨by unfold mN; rw [s3]; exact Nat.le_refl _, fun o _ => by rw [s3], fun o b _ _ => by unfold mR; rw [s3], fun o _ n1 n2 b => by rw [← hM3, mI_o _ _ _ _ _ n1, ← hM2, mI_o _ _ _ _ _ n2], fun b n => by rw [← hM3, mI_n _ _ _ _ n, ← hM2, mI_o _ _ _ _ _ (Ne.symm d114)], fun o _ b => by rw [← hM3, ← hM2]; rfl, Or.inl rfl⟩
    have R3 : ∀ o b, mR M3 o b = mR M o b := fun o b => by unfold mR; rw [s3]
    have rm3 : Rm M3 63 (X0 + L / 16) (Y0 + 2 * L) := by
      have rm := p.2.2.2.1
      unfold Rm mN mU mLn mR at rm ⊢
      rw [s3]; exact rm
    refine ⟨M3, dC, L, ?_, sx.fr F, ⟨by rw [R3]; exact c1, ?_, by unfold mLn at *; rw [s3]; exact c3, c4, by rw [← hM3, mI_s], by omega, c7, c8, by rw [R3]; exact c9, by rw [R3]; exact c10, by rw [R3]; exact c11⟩, p.frC F ha rm3, fun j hj => ?_, ?_, F⟩
    · rw [f_X6_push, chk_t sx.1, c1, bnd_e, chk_t c2, c5, c3, n32, if_neg (nI_ne (by omega) (by omega) g), bnd_e, chk_t c2, chk_t (inB_n (by omega) (by omega)), sI_d (by omega), hM2, bnd_e, show mI M2 114 6 = nI e by rw [← hM2, mI_o _ _ _ _ _ (Ne.symm d114), c5], nI_1, hM3, bnd_e]
    · unfold isO mN mC at *
      rw [s3]; exact c2
    · rw [← hM3, mI_o _ _ _ _ _ d114, ← hM2, mI_n _ _ _ _ (by omega)]
    · rw [← hM3, mI_o _ _ _ _ _ d114, ← hM2, mI_s]
end
/-! ===== the class keeps a state: a place ===== -/
def wms (S : St) (v : Nat) : Int32 := (xW S v).foldl (fun m w => bon m w.1) 0
theorem fb_b : ∀ (l : List Wtr) (m : Int32) (u : Nat), u < 32 → (∀ w, w ∈ l → w.1 < 32) → bt (l.foldl (fun m w => bon m w.1) m) u = (bt m u || decide (u ∈ l.map Prod.fst)) := by
  intro l
  induction l with
  | nil => intro m u _ _; simp
  | cons w l ih =>
    intro m u hu hw
    rw [List.foldl_cons, ih _ u hu (fun x hx => hw x (List.mem_cons_of_mem _ hx)), bt_on _ (hw w (by simp)) hu, List.map_cons]
    have e : decide (u ∈ w.1 :: l.map Prod.fst) = (decide (u = w.1) || decide (u ∈ l.map Prod.fst)) := by
      rw [← Bool.decide_or]
      congr 1
      rw [List.mem_cons]
    rw [e, Bool.or_assoc]
theorem wms_b {S : St} {v u : Nat} (hu : u < 32) (hw : ∀ w, w ∈ xW S v → w.1 < 16) : bt (wms S v) u = decide (u ∈ (xW S v).map Prod.fst) := by
  unfold wms
  rw [fb_b _ _ _ hu (fun w z => by have := hw w z; omega), b_0, Bool.false_or]
def wst (S : St) (v u : Nat) : Int32 := match (xW S v).find? (fun w => w.1 == u) with
  | none => 0
  | some w => w.2
def serP (S : St) (v : Nat) : List Int32 := [xR S 1 v, xR S 2 v, xR S 3 v, xR S 4 v, xR S 5 v, xR S 6 v, xR S 8 v, (if xR S 8 v = -1 then -1 else xR S 9 v), xR S 10 v, wms S v] ++ (ms (wms S v)).map (wst S v)
def SV (X0 Y0 : Nat) (t : Int32) (N : Nat) (Q : Nat → Int32) (pb pt : List Row4) (S : St) (M : Mem) (e dC : Nat) : Prop := ∃ L, SX M ∧ CL M dC L e ∧ HV M 63 (X0 + L / 16) (Y0 + 2 * L) t N Q S pb pt
def WS (X0 Y0 : Nat) (t : Int32) (N : Nat) (Q : Nat → Int32) (pb pt : List Row4) (S : St) (M : Mem) (e dC : Nat) (M' : Mem) (dC' : Nat) (xs : List Int32) : Prop := SV X0 Y0 t N Q pb pt S M' (e + xs.length) dC' ∧ (∀ j, j < e → mI M' dC' j = mI M dC j) ∧ (∀ i x, xs[i]? = some x → mI M' dC' (e + i) = x) ∧ FrC M M' dC dC'
section
variable {X0 Y0 N : Nat} {t : Int32} {Q : Nat → Int32} {S : St} {pb pt : List Row4} {M : Mem} {e dC : Nat}
theorem SV.ws (h : SV X0 Y0 t N Q pb pt S M e dC) : WS X0 Y0 t N Q pb pt S M e dC M dC [] := ⟨h, fun _ _ => rfl, fun i x hx => by simp at hx, FrC.rf M dC⟩
theorem WS.tr {M1 M2 : Mem} {d1 d2 : Nat} {xs ys : List Int32} (h : WS X0 Y0 t N Q pb pt S M e dC M1 d1 xs) (h' : WS X0 Y0 t N Q pb pt S M1 (e + xs.length) d1 M2 d2 ys) : WS X0 Y0 t N Q pb pt S M e dC M2 d2 (xs ++ ys) := by
  obtain ⟨a1, a2, a3, a4⟩ := h
  obtain ⟨b1, b2, b3, b4⟩ := h'
  refine ⟨by rw [List.length_append, ← Nat.add_assoc]; exact b1, fun j hj => (b2 j (by omega)).trans (a2 j hj), fun i x hx => ?_, a4.tr b4⟩
  by_cases c : i < xs.length
  · rw [List.getElem?_append_left c] at hx
    rw [b2 _ (by omega)]; exact a3 i x hx
  · rw [List.getElem?_append_right (by omega)] at hx
    have := b3 _ x hx
    rwa [show e + xs.length + (i - xs.length) = e + i by omega] at this
theorem SV.push (h : SV X0 Y0 t N Q pb pt S M e dC) (hX : X0 ≤ 100000) (hY : Y0 ≤ 1000000) (he : e < 760000) (x : Int32) : ∃ M' dC', f_X6_push 114 x M = some M' ∧ WS X0 Y0 t N Q pb pt S M e dC M' dC' [x] := by
  obtain ⟨L, sx, c, p⟩ := h
  obtain ⟨M', dC', L', e1, sx', c', p', a1, a2, f⟩ := push1 sx c p hX hY he x
  refine ⟨M', dC', e1, ⟨L', sx', c', p'⟩, a1, fun i y hy => ?_, f⟩
  cases i with
  | zero =>
    have : x = y := by simpa using hy
    rw [← this]; exact a2
  | succ i => simp at hy
theorem wst_e {v u : Nat} (hu : u ∈ (xW S v).map Prod.fst) : ∃ w, w ∈ xW S v ∧ w.1 = u ∧ wst S v u = w.2 := by
  obtain ⟨w, hw, rfl⟩ := List.mem_map.mp hu
  unfold wst
  cases e : (xW S v).find? (fun x => x.1 == w.1) with
  | none =>
    have := List.find?_eq_none.mp e w hw
    simp at this
  | some x =>
    have h1 := List.mem_of_find?_eq_some e
    have h2 := List.find?_some e
    exact ⟨x, h1, by simpa using h2, rfl⟩
theorem sp_l {v : Nat} (hX : X0 ≤ 100000) (hY : Y0 ≤ 1000000) (hv : v < 16) (hw : ∀ w, w ∈ xW S v → w.1 < 16) : ∀ (d j n : Nat) (M : Mem) (e dC : Nat), j + d = 16 → SV X0 Y0 t N Q pb pt S M e dC → e + d < 760000 → d + 1 ≤ n → ∃ M' dC', f_X6_savePlace_90 n 114 (63 + 17 + 2 * v) (nI j) M = some M' ∧ WS X0 Y0 t N Q pb pt S M e dC M' dC' (((List.range' j d).filter fun u => bt (wms S v) u).map (wst S v)) := by
  intro d
  induction d with
  | zero =>
    intro j n M e dC hj h he hn
    obtain ⟨n, rfl⟩ : ∃ m, n = m + 1 := ⟨n - 1, by omega⟩
    refine ⟨M, dC, ?_, h.ws⟩
    rw [f_X6_savePlace_90, if_pos (show (16 : Int32) ≤ nI j from nI_le (a := 16) (by omega) (by omega))]
  | succ d ih =>
    intro j n M e dC hj h he hn
    obtain ⟨n, rfl⟩ : ∃ m, n = m + 1 := ⟨n - 1, by omega⟩
    obtain ⟨L, sx, c, p⟩ := id h
    have q := p.1
    obtain ⟨a1, a2, a3, a4, a5⟩ := p.2.2.1.1 v hv
    have b9 : bt (mI M (63 + 17 + 2 * v) 9) j = bt (wms S v) j := by rw [a4 j (by omega), wms_b (by omega) hw]
    rw [List.range'_succ, List.filter_cons]
    have hd : ∀ y : Option Mem, (if (if bt (wms S v) j = true then (1 : Int32) else 0) = 0 then f_X6_savePlace_90 n 114 (63 + 17 + 2 * v) (nI (j + 1)) M else obd (f_X6_push 114 (mI M (63 + 18 + 2 * v) j) M) fun M16 => f_X6_savePlace_90 n 114 (63 + 17 + 2 * v) (nI (j + 1)) M16) = y → f_X6_savePlace_90 (n + 1) 114 (63 + 17 + 2 * v) (nI j) M = y := by
      intro y hy
      rw [f_X6_savePlace_90, if_neg (show ¬ (16 : Int32) ≤ nI j from nI_ge (a := j) (b := 16) (by omega) (by decide)), cs_po q hv, f_has9 _ (by omega), obd_s, b9, nI_1, bnd_e, cs_pr q hv, bnd_e, cs_pa q hv, cs_pi q hv (by omega), chk_t sx.1, mI_c (by omega)]
      exact hy
    by_cases z : bt (wms S v) j = true
    · rw [if_pos z]
      have hm : j ∈ (xW S v).map Prod.fst := by
        have := wms_b (S := S) (v := v) (u := j) (by omega) hw
        rw [z] at this
        exact of_decide_eq_true this.symm
      obtain ⟨w, w1, w2, w3⟩ := wst_e hm
      have r5 : mI M (63 + 18 + 2 * v) j = wst S v j := by rw [w3, ← w2]; exact a5 w w1
      obtain ⟨M1, d1, e1, W1⟩ := h.push hX hY (by omega) (wst S v j)
      obtain ⟨M2, d2, e2, W2⟩ := ih (j + 1) n M1 (e + 1) d1 (by omega) W1.1 (by omega) (by omega)
      refine ⟨M2, d2, hd _ ?_, W1.tr W2⟩
      rw [if_pos z, if_neg ne10, r5, e1, obd_s, e2]
    · rw [if_neg z]
      obtain ⟨M2, d2, e2, W2⟩ := ih (j + 1) n M e dC (by omega) h (by omega) (by omega)
      refine ⟨M2, d2, hd _ ?_, W2⟩
      rw [if_neg z, if_pos rfl, e2]
set_option maxHeartbeats 2000000 in
theorem SV.place (h : SV X0 Y0 t N Q pb pt S M e dC) (hX : X0 ≤ 100000) (hY : Y0 ≤ 1000000) {v n : Nat} (hv : v < 16) (hw : ∀ w, w ∈ xW S v → w.1 < 16) (h10 : xR S 10 v = 0 ∨ xR S 10 v = 1) (he : e + 30 < 760000) (hn : 20 ≤ n) : ∃ M' dC', f_X6_savePlace n 114 (63 + 17 + 2 * v) M = some M' ∧ WS X0 Y0 t N Q pb pt S M e dC M' dC' (serP S v) := by
  have st : ∀ {M : Mem} {e dC : Nat} (_ : SV X0 Y0 t N Q pb pt S M e dC), isO M 6 114 ∧ (∀ x : Option Mem, chk (isO M 4 (63 + 17 + 2 * v)) x = x) ∧ (∀ a k, (a, k) ∈ ft → mI M (63 + 17 + 2 * v) a = xR S k v) ∧ mI M (63 + 17 + 2 * v) 7 = (if xR S 8 v = -1 then -1 else xR S 9 v) ∧ mI M (63 + 17 + 2 * v) 9 = wms S v := fun h => by
    obtain ⟨L, sx, c, p⟩ := h
    obtain ⟨a1, a2, a3, a4, a5⟩ := p.2.2.1.1 v hv
    refine ⟨sx.1, fun x => cs_po p.1 hv x, fun a k z => a1 (a, k) z, a2, b_ext (fun i hi => ?_)⟩
    rw [a4 i hi, wms_b hi hw]
  obtain ⟨i0, c0, f0, _, _⟩ := st h
  obtain ⟨M1, d1, e1, W1⟩ := h.push hX hY (by omega) (xR S 1 v)
  obtain ⟨i1, c1, f1, _, _⟩ := st W1.1
  obtain ⟨M2, d2, e2, W2⟩ := W1.1.push hX hY (by show e + 1 < 760000; omega) (xR S 2 v)
  obtain ⟨i2, c2, f2, _, _⟩ := st W2.1
  obtain ⟨M3, d3, e3, W3⟩ := W2.1.push hX hY (by show e + 1 + 1 < 760000; omega) (xR S 3 v)
  obtain ⟨i3, c3, f3, _, _⟩ := st W3.1
  obtain ⟨M4, d4, e4, W4⟩ := W3.1.push hX hY (by show e + 1 + 1 + 1 < 760000; omega) (xR S 4 v)
  obtain ⟨i4, c4, f4, _, _⟩ := st W4.1
  obtain ⟨M5, d5, e5, W5⟩ := W4.1.push hX hY (by show e + 1 + 1 + 1 + 1 < 760000; omega) (xR S 5 v)
  obtain ⟨i5, c5, f5, _, _⟩ := st W5.1
  obtain ⟨M6, d6, e6, W6⟩ := W5.1.push hX hY (by show e + 1 + 1 + 1 + 1 + 1 < 760000; omega) (xR S 6 v)
  obtain ⟨i6, c6, f6, _, _⟩ := st W6.1
  obtain ⟨M7, d7, e7, W7⟩ := W6.1.push hX hY (by show e + 1 + 1 + 1 + 1 + 1 + 1 < 760000; omega) (xR S 8 v)
  obtain ⟨i7, c7, f7, g7, _⟩ := st W7.1
  obtain ⟨M8, d8, e8, W8⟩ := W7.1.push hX hY (by show e + 1 + 1 + 1 + 1 + 1 + 1 + 1 < 760000; omega) (if xR S 8 v = -1 then -1 else xR S 9 v)
  obtain ⟨i8, c8, f8, _, _⟩ := st W8.1
  obtain ⟨M9, d9, e9, W9⟩ := W8.1.push hX hY (by show e + 1 + 1 + 1 + 1 + 1 + 1 + 1 + 1 < 760000; omega) (xR S 10 v)
  obtain ⟨i9, c9, f9, _, g9⟩ := st W9.1
  obtain ⟨M10, d10, e10, W10⟩ := W9.1.push hX hY (by show e + 1 + 1 + 1 + 1 + 1 + 1 + 1 + 1 + 1 < 760000; omega) (wms S v)
  obtain ⟨M11, d11, e11, W11⟩ := sp_l hX hY hv hw 16 0 n M10 _ d10 rfl W10.1 (by show e + 1 + 1 + 1 + 1 + 1 + 1 + 1 + 1 + 1 + 1 + 16 < 760000; omega) (by omega)
  have W := (((((((((W1.tr W2).tr W3).tr W4).tr W5).tr W6).tr W7).tr W8).tr W9).tr W10).tr W11
  refine ⟨M11, d11, ?_, ?_⟩
  · have f77 : f_X6_savePlace_77 n 114 (63 + 17 + 2 * v) (xR S 10 v) 114 M8 = some M11 := by
      rw [f_X6_savePlace_77, chk_t i8, e9, obd_s, c9, chk_t i9, g9, e10, obd_s]
      exact e11
    rw [f_X6_savePlace, c0, chk_t i0, f0 0 1 (by decide), e1, obd_s, c1, chk_t i1, f1 1 2 (by decide), e2, obd_s, c2, chk_t i2, f2 2 3 (by decide), e3, obd_s, c3, chk_t i3, f3 3 4 (by decide), e4, obd_s, c4, chk_t i4, f4 4 5 (by decide), e5, obd_s, c5, chk_t i5, f5 5 6 (by decide), e6, obd_s, c6, chk_t i6, f6 6 8 (by decide), e7, obd_s, c7, chk_t i7, g7, e8, obd_s, c8, f8 8 10 (by decide)]
    rcases h10 with z | z
    · rw [z] at f77 ⊢
      rw [if_pos rfl]; exact f77
    · rw [z] at f77 ⊢
      rw [if_neg ne10]; exact f77
  · unfold serP ms
    rw [List.range_eq_range']
    exact W
end
/-! ===== the class keeps a state: lanes, and all of it ===== -/
def bms (S : St) (f : Nat) : Int32 := (lnf S f).foldl (fun m g => bon m g) 0
theorem fn_b : ∀ (l : List Nat) (m : Int32) (u : Nat), u < 32 → (∀ w, w ∈ l → w < 32) → bt (l.foldl (fun m w => bon m w) m) u = (bt m u || decide (u ∈ l)) := by
  intro l
  induction l with
  | nil => intro m u _ _; simp
  | cons w l ih =>
    intro m u hu hw
    rw [List.foldl_cons, ih _ u hu (fun x hx => hw x (List.mem_cons_of_mem _ hx)), bt_on _ (hw w (by simp)) hu]
    have e : decide (u ∈ w :: l) = (decide (u = w) || decide (u ∈ l)) := by
      rw [← Bool.decide_or]
      congr 1
      rw [List.mem_cons]
    rw [e, Bool.or_assoc]
theorem lnf_m {S : St} {f g : Nat} : g ∈ lnf S f ↔ g < 16 ∧ xL S (16 * f + g) ≠ [] := by
  unfold lnf
  rw [List.mem_filter, List.mem_range]
  cases xL S (16 * f + g) <;> simp
theorem bms_b {S : St} {f u : Nat} (hu : u < 32) : bt (bms S f) u = decide (u < 16 ∧ xL S (16 * f + u) ≠ []) := by
  unfold bms
  rw [fn_b _ _ _ hu (fun w hw => by have := (lnf_m.mp hw).1; omega), b_0, Bool.false_or]
  congr 1
  rw [lnf_m]
def mkS (S : St) (q : Int32) : Int32 := ((List.range 16).filter fun v => decide (xR S 0 v = q)).foldl (fun m g => bon m g) 0
theorem mkS_b {S : St} {q : Int32} {u : Nat} (hu : u < 32) : bt (mkS S q) u = decide (u < 16 ∧ xR S 0 u = q) := by
  unfold mkS
  rw [fn_b _ _ _ hu (fun w hw => by have := List.mem_range.mp (List.mem_filter.mp hw).1; omega), b_0, Bool.false_or]
  congr 1
  rw [List.mem_filter, List.mem_range, decide_eq_true_eq]
def serL (S : St) (l : Nat) : List Int32 := nI (xL S l).length :: (xL S l).map encC
def serG (S : St) (f : Nat) (gs : List Nat) : List Int32 := (gs.filter fun g => bt (bms S f) g).flatMap fun g => serL S (16 * f + g)
def serF (N : Nat) (S : St) (f : Nat) : List Int32 := bms S f :: serG S f (List.range' 0 N)
def ser (N : Nat) (S : St) : List Int32 := mkS S 2 :: mkS S 1 :: ((List.range' 0 N).flatMap (serP S) ++ (List.range' 0 N).flatMap (serF N S))
section
variable {X0 Y0 N : Nat} {t : Int32} {Q : Nat → Int32} {S : St} {pb pt : List Row4}
/-- what a state's keeping may rest on -/
def Sok (N : Nat) (S : St) : Prop := N ≤ 16 ∧ (∀ v, v < 16 → ∀ w, w ∈ xW S v → w.1 < 16) ∧ ∀ v, v < 16 → xR S 10 v = 0 ∨ xR S 10 v = 1
set_option maxHeartbeats 1000000 in
theorem sl_l (hX : X0 ≤ 100000) (hY : Y0 ≤ 1000000) {M0 : Mem} {dC0 d5 d6 d7 len us : Nat} {fr : List Nat} {ow : Nat → Nat} {K : Nat → List (Nat × Ltr)} (w : PW M0 63 d5 d6 d7 len t (xR S 16) K fr us ow 0) (hC : (dC0 = 119 ∨ 131 ≤ dC0) ∧ dC0 ≠ d5 ∧ dC0 ≠ d6 ∧ dC0 ≠ d7) (hN0 : 131 ≤ mN M0) {l : Nat} (hl : l < 256) : ∀ (ks : List (Nat × Ltr)) (i n : Nat) (M : Mem) (e dC : Nat) (x : Int32), i + ks.length = (K l).length → (∀ q, q ∈ ks → q ∈ K l) → Chn (mI M0 d7) x (ks.map Prod.fst) → SV X0 Y0 t N Q pb pt S M e dC → FrC M0 M dC0 dC → e + ks.length < 760000 → ks.length + 1 ≤ n → ∃ M' dC', f_X6_saveLane_20 n 114 64 (nI l) x (nI i) M = some M' ∧ WS X0 Y0 t N Q pb pt S M e dC M' dC' (ks.map fun q => encC q.2) := by
  have hw := w
  obtain ⟨⟨⟨z5, z6, z7⟩, ⟨k5, k6, k7⟩, ⟨n5, n6, n7⟩, y⟩, pc, pn, pch, pla, pma, pbu, pse, pf, ⟨pu1, pu2, pu3, pu4, pu5⟩, _⟩ := w
  have hKl : (K l).length ≤ 9000 := by
    have := nd_le us ((K l).map Prod.fst) (pn l hl) (fun x hx => by
      obtain ⟨y, hy, rfl⟩ := List.mem_map.mp hx
      exact (pc l hl y hy).1)
    rw [List.length_map] at this
    omega
  have rd : ∀ {M : Mem} {dC : Nat}, FrC M0 M dC0 dC → (∀ b, mI M d5 b = mI M0 d5 b) ∧ (∀ b, mI M d7 b = mI M0 d7 b) ∧ mR M 64 5 = d5 ∧ mR M 64 7 = d7 ∧ isO M 100 d5 ∧ isO M 100 d7 ∧ mLn M d5 = len ∧ mLn M d7 = len ∧ (∀ b, mI M 67 b = mI M0 67 b) := fun {M} {dC} f => by
    obtain ⟨f1, f2, f3, f4, f5, f6, f7⟩ := f
    have io : ∀ o, isO M0 100 o → isO M 100 o := fun o z => ⟨by have := z.1; omega, by rw [mC, f2 o z.1]; exact z.2⟩
    refine ⟨fun b => f4 d5 k5.1 (by omega) (Ne.symm hC.2.1) b, fun b => f4 d7 k7.1 (by omega) (Ne.symm hC.2.2.2) b, ?_, ?_, io _ k5, io _ k7, ?_, ?_, fun b => f4 67 (by omega) (by decide) (by omega) b⟩
    · rw [f3 64 5 (by omega) (by decide)]; exact z5
    · rw [f3 64 7 (by omega) (by decide)]; exact z7
    · rw [mLn, f2 d5 k5.1]; exact n5
    · rw [mLn, f2 d7 k7.1]; exact n7
  intro ks
  induction ks with
  | nil =>
    intro i n M e dC x hi _ _ h f he hn
    obtain ⟨n, rfl⟩ : ∃ m, n = m + 1 := ⟨n - 1, by omega⟩
    obtain ⟨_, _, _, _, _, _, _, _, r67⟩ := rd f
    obtain ⟨L, sx, c, p⟩ := id h
    have q := p.1
    refine ⟨M, dC, ?_, h.ws⟩
    rw [f_X6_saveLane_20, cs_p q, cs_r4 q, bnd_e, cs_a4 q, cs_i4 q hl, mI_c (by omega), r67, pma l hl, if_pos (nI_le (by simpa using Nat.le_of_eq hi.symm) (by simp at hi; omega))]
  | cons k ks ih =>
    intro i n M e dC x hi hks hc h f he hn
    obtain ⟨n, rfl⟩ : ∃ m, n = m + 1 := ⟨n - 1, by omega⟩
    obtain ⟨r5, r7, R5, R7, o5, o7, l5, l7, r67⟩ := rd f
    obtain ⟨L, sx, c, p⟩ := id h
    have q := p.1
    rw [List.length_cons] at hi he hn
    obtain ⟨hx, hc2⟩ := hc
    have hk := pc l hl k (hks k (by simp))
    have v5 : mI M d5 k.1 = encC k.2 := by rw [r5]; exact hk.2.2.1
    obtain ⟨M1, d1, e1, W1⟩ := h.push hX hY (by omega) (encC k.2)
    have f1 := f.tr W1.2.2.2
    obtain ⟨_, r7', _, R7', _, o7', _, l7', _⟩ := rd f1
    obtain ⟨L1, sx1, c1, p1⟩ := id W1.1
    obtain ⟨M2, d2, e2, W2⟩ := ih (i + 1) n M1 (e + 1) d1 (mI M1 d7 k.1) (by omega) (fun q hq => hks q (List.mem_cons_of_mem _ hq)) (by rw [r7']; exact hc2) W1.1 f1 (by omega) (by omega)
    refine ⟨M2, d2, ?_, ?_⟩
    · rw [f_X6_saveLane_20, cs_p q, cs_r4 q, bnd_e, cs_a4 q, cs_i4 q hl, mI_c (by omega), r67, pma l hl, if_neg (nI_ge (by omega) (by omega)), show mR M (63 + 1) 5 = d5 from R5, bnd_e, chk_t o5, hx, l5, chk_t (inB_n (by omega) (by omega)), chk_t sx.1, mI_d (by omega), v5, e1, obd_s, cs_p p1.1, show mR M1 (63 + 1) 7 = d7 from R7', bnd_e, chk_t o7', l7', chk_t (inB_n (by omega) (by omega)), mI_d (by omega), bnd_e, nI_1, bnd_e, e2]
    · have := W1.tr W2
      exact this
theorem SV.lane {M : Mem} {e dC l n : Nat} (h : SV X0 Y0 t N Q pb pt S M e dC) (hX : X0 ≤ 100000) (hY : Y0 ≤ 1000000) (hl : l < 256) (he : e + (serL S l).length < 760000) (hn : 9100 ≤ n) : ∃ M' dC', f_X6_saveLane n 114 64 (nI l) M = some M' ∧ WS X0 Y0 t N Q pb pt S M e dC M' dC' (serL S l) := by
  obtain ⟨L, sx, c, p⟩ := id h
  have q := p.1
  obtain ⟨d5, d6, d7, len, K, fr, us, ow, w, hK⟩ := p.2.1
  have hw := w
  obtain ⟨⟨⟨z5, z6, z7⟩, ⟨k5, k6, k7⟩, ⟨n5, n6, n7⟩, y⟩, pc, pn, pch, pla, pma, _⟩ := w
  have eL : (xL S l).length = (K l).length := by rw [← hK l hl, List.length_map]
  have ec : (K l).map (fun q => encC q.2) = (xL S l).map encC := by rw [← hK l hl, List.map_map]; rfl
  have hKl : (K l).length ≤ 9000 := by
    have u := hw.2.2.2.2.2.2.2.2.2.1
    have := nd_le us ((K l).map Prod.fst) (pn l hl) (fun x hx => by
      obtain ⟨y, hy, rfl⟩ := List.mem_map.mp hx
      exact (pc l hl y hy).1)
    rw [List.length_map] at this
    have := u.2.2.1
    omega
  unfold serL at he ⊢
  rw [List.length_cons, List.length_map] at he
  obtain ⟨M1, d1, e1, W1⟩ := h.push hX hY (by omega) (nI (xL S l).length)
  have f1 := W1.2.2.2
  obtain ⟨L1, sx1, c1, p1⟩ := id W1.1
  have q1 := p1.1
  have z5' : mR M 64 5 = d5 := z5
  have z6' : mR M 64 6 = d6 := z6
  have z7' : mR M 64 7 = d7 := z7
  have hC : (dC = 119 ∨ 131 ≤ dC) ∧ dC ≠ d5 ∧ dC ≠ d6 ∧ dC ≠ d7 := by
    obtain ⟨_, _, _, a4, _, _, _, _, a9, a10, a11⟩ := c
    exact ⟨a4, by omega, by omega, by omega⟩
  have r65 : mI M1 (63 + 2) l = mI M (63 + 2) l := f1.2.2.2.1 _ (by have := sx.2.2.2.2; omega) (by decide) (by omega) l
  obtain ⟨M2, d2, e2, W2⟩ := sl_l (N := N) (Q := Q) (pb := pb) (pt := pt) hX hY hw hC sx.2.2.2.2 hl (K l) 0 n M1 (e + 1) d1 (mI M1 (63 + 2) l) (by omega) (fun _ z => z) (by rw [r65]; exact pch l hl) W1.1 f1 (by omega) (by omega)
  rw [ec] at W2
  refine ⟨M2, d2, ?_, W1.tr W2⟩
  rw [f_X6_saveLane, cs_p q, cs_r4 q, bnd_e, cs_a4 q, cs_i4 q hl, chk_t sx.1, mI_c (by omega), pma l hl, ← eL, e1, obd_s, cs_p q1, cs_r2 q1, bnd_e, cs_a2 q1, cs_i2 q1 hl, mI_c (by omega), bnd_e]
  exact e2
theorem sv_104 (hX : X0 ≤ 100000) (hY : Y0 ≤ 1000000) (h16 : N ≤ 16) (K72 : Nat → Int32 → Mem → Option Mem) {f : Nat} (hf : f < 16) : ∀ (d j n : Nat) (M : Mem) (e dC : Nat), j + d = N → SV X0 Y0 t N Q pb pt S M e dC → e + (serG S f (List.range' j d)).length < 760000 → d + 9110 ≤ n → ∃ M' dC', f_X6_save_104 K72 n 114 (nI f) (nI j) M = K72 114 (nI (f + 1)) M' ∧ WS X0 Y0 t N Q pb pt S M e dC M' dC' (serG S f (List.range' j d)) := by
  intro d
  induction d with
  | zero =>
    intro j n M e dC hj h he hn
    obtain ⟨n, rfl⟩ : ∃ m, n = m + 1 := ⟨n - 1, by omega⟩
    obtain ⟨L, sx, c, p⟩ := id h
    have q := p.1
    refine ⟨M, dC, ?_, h.ws⟩
    rw [f_X6_save_104, chk_t sx.1, sx.2.1.1, bnd_e, cs_f q, cs_h0 q, bnd_e, cs_s q, p.2.2.2.2.2.1, if_pos (nI_le (by omega) (by omega)), nI_1, bnd_e]
  | succ d ih =>
    intro j n M e dC hj h he hn
    obtain ⟨n, rfl⟩ : ∃ m, n = m + 1 := ⟨n - 1, by omega⟩
    obtain ⟨L, sx, c, p⟩ := id h
    have q := p.1
    have b : bt (mI M (63 + 5) f) j = bt (bms S f) j := by rw [p.busy hf (by omega), bms_b (by omega)]
    have eG : serG S f (List.range' j (d + 1)) = (if bt (bms S f) j = true then serL S (16 * f + j) else []) ++ serG S f (List.range' (j + 1) d) := by
      unfold serG
      rw [List.range'_succ, List.filter_cons]
      by_cases z : bt (bms S f) j = true
      · rw [if_pos z, if_pos z, List.flatMap_cons]
      · rw [if_neg z, if_neg z]; rfl
    rw [eG] at he ⊢
    rw [List.length_append] at he
    have hd : ∀ y : Option Mem, (if (if bt (bms S f) j = true then (1 : Int32) else 0) = 0 then f_X6_save_104 K72 n 114 (nI f) (nI (j + 1)) M else obd (f_X6_saveLane n 114 64 (nI (16 * f + j)) M) fun M35 => f_X6_save_104 K72 n 114 (nI f) (nI (j + 1)) M35) = y → f_X6_save_104 K72 (n + 1) 114 (nI f) (nI j) M = y := by
      intro y hy
      rw [f_X6_save_104, chk_t sx.1, sx.2.1.1, bnd_e, cs_f q, cs_h0 q, bnd_e, cs_s q, p.2.2.2.2.2.1, if_neg (nI_ge (by omega) (by omega)), bnd_e, cs_f q, cs_h1 q, bnd_e, cs_p q, cs_r5 q, bnd_e, cs_a5 q, cs_i5 q hf, mI_c (by omega), f_has9 _ (by omega), obd_s, b, nI_1, bnd_e, bnd_e, cs_f q, cs_h1 q, bnd_e, cs_p q, show nI f * (16 : Int32) = nI (16 * f) by rw [show (16 : Int32) = nI 16 from rfl, pk_mul, Nat.mul_comm], nI_add]
      exact hy
    by_cases z : bt (bms S f) j = true
    · rw [if_pos z] at he ⊢
      obtain ⟨M1, d1, e1, W1⟩ := h.lane hX hY (l := 16 * f + j) (n := n) (by omega) (by omega) (by omega)
      obtain ⟨M2, d2, e2, W2⟩ := ih (j + 1) n M1 _ d1 (by omega) W1.1 (by omega) (by omega)
      refine ⟨M2, d2, hd _ ?_, W1.tr W2⟩
      rw [if_pos z, if_neg ne10, e1, obd_s, e2]
    · rw [if_neg z] at he ⊢
      obtain ⟨M2, d2, e2, W2⟩ := ih (j + 1) n M e dC (by omega) h (by simpa using he) (by omega)
      refine ⟨M2, d2, hd _ ?_, W2⟩
      rw [if_neg z, if_pos rfl, e2]
theorem sv_72 (hX : X0 ≤ 100000) (hY : Y0 ≤ 1000000) (h16 : N ≤ 16) : ∀ (d f n : Nat) (M : Mem) (e dC : Nat), f + d = N → SV X0 Y0 t N Q pb pt S M e dC → e + ((List.range' f d).flatMap (serF N S)).length < 760000 → d + 9200 ≤ n → ∃ M' dC', f_X6_save_72 n 114 (nI f) M = some M' ∧ WS X0 Y0 t N Q pb pt S M e dC M' dC' ((List.range' f d).flatMap (serF N S)) := by
  intro d
  induction d with
  | zero =>
    intro f n M e dC hj h he hn
    obtain ⟨n, rfl⟩ : ∃ m, n = m + 1 := ⟨n - 1, by omega⟩
    obtain ⟨L, sx, c, p⟩ := id h
    have q := p.1
    refine ⟨M, dC, ?_, h.ws⟩
    rw [f_X6_save_72, chk_t sx.1, sx.2.1.1, bnd_e, cs_f q, cs_h0 q, bnd_e, cs_s q, p.2.2.2.2.2.1, if_pos (nI_le (by omega) (by omega))]
  | succ d ih =>
    intro f n M e dC hj h he hn
    obtain ⟨n, rfl⟩ : ∃ m, n = m + 1 := ⟨n - 1, by omega⟩
    obtain ⟨L, sx, c, p⟩ := id h
    have q := p.1
    have hf : f < 16 := by omega
    have eb : mI M (63 + 5) f = bms S f := b_ext (fun i hi => by rw [p.busy hf hi, bms_b hi])
    rw [List.range'_succ, List.flatMap_cons] at he ⊢
    rw [List.length_append] at he
    have e0 : (serF N S f).length = 1 + (serG S f (List.range' 0 N)).length := by unfold serF; rw [List.length_cons]; omega
    obtain ⟨M1, d1, e1, W1⟩ := h.push hX hY (by omega) (bms S f)
    obtain ⟨M2, d2, e2, W2⟩ := sv_104 hX hY h16 (f_X6_save_72 n) hf N 0 n M1 (e + 1) d1 (by omega) W1.1 (by omega) (by omega)
    have W12 : WS X0 Y0 t N Q pb pt S M e dC M2 d2 (serF N S f) := W1.tr W2
    obtain ⟨M3, d3, e3, W3⟩ := ih (f + 1) n M2 _ d2 (by omega) W12.1 (by omega) (by omega)
    refine ⟨M3, d3, ?_, W12.tr W3⟩
    rw [f_X6_save_72, chk_t sx.1, sx.2.1.1, bnd_e, cs_f q, cs_h0 q, bnd_e, cs_s q, p.2.2.2.2.2.1, if_neg (nI_ge (by omega) (by omega)), bnd_e, cs_f q, cs_h1 q, bnd_e, cs_p q, cs_r5 q, bnd_e, cs_a5 q, cs_i5 q hf, mI_c (by omega), eb, e1, obd_s]
    exact e2.trans e3
theorem sv_37 (hX : X0 ≤ 100000) (hY : Y0 ≤ 1000000) (so : Sok N S) : ∀ (d v n : Nat) (M : Mem) (e dC : Nat), v + d = N → SV X0 Y0 t N Q pb pt S M e dC → e + ((List.range' v d).flatMap (serP S)).length + ((List.range' 0 N).flatMap (serF N S)).length + 40 < 760000 → d + N + 9300 ≤ n → ∃ M' dC', f_X6_save_37 n 114 (nI v) M = some M' ∧ WS X0 Y0 t N Q pb pt S M e dC M' dC' ((List.range' v d).flatMap (serP S) ++ (List.range' 0 N).flatMap (serF N S)) := by
  obtain ⟨h16, hw, h10⟩ := so
  intro d
  induction d with
  | zero =>
    intro v n M e dC hj h he hn
    obtain ⟨n, rfl⟩ : ∃ m, n = m + 1 := ⟨n - 1, by omega⟩
    obtain ⟨L, sx, c, p⟩ := id h
    have q := p.1
    obtain ⟨M1, d1, e1, W1⟩ := sv_72 hX hY h16 N 0 n M e dC (by omega) h (by omega) (by omega)
    refine ⟨M1, d1, ?_, W1⟩
    rw [f_X6_save_37, chk_t sx.1, sx.2.1.1, bnd_e, cs_f q, cs_h0 q, bnd_e, cs_s q, p.2.2.2.2.2.1, if_pos (nI_le (by omega) (by omega))]
    exact e1
  | succ d ih =>
    intro v n M e dC hj h he hn
    obtain ⟨n, rfl⟩ : ∃ m, n = m + 1 := ⟨n - 1, by omega⟩
    obtain ⟨L, sx, c, p⟩ := id h
    have q := p.1
    have hv : v < 16 := by omega
    rw [List.range'_succ, List.flatMap_cons] at he ⊢
    rw [List.length_append] at he
    obtain ⟨M1, d1, e1, W1⟩ := h.place hX hY (v := v) (n := n) hv (hw v hv) (h10 v hv) (by omega) (by omega)
    obtain ⟨M2, d2, e2, W2⟩ := ih (v + 1) n M1 _ d1 (by omega) W1.1 (by omega) (by omega)
    refine ⟨M2, d2, ?_, by rw [List.append_assoc]; exact W1.tr W2⟩
    rw [f_X6_save_37, chk_t sx.1, sx.2.1.1, bnd_e, cs_f q, cs_h0 q, bnd_e, cs_s q, p.2.2.2.2.2.1, if_neg (nI_ge (by omega) (by omega)), bnd_e, cs_f q, cs_h2 q, bnd_e, cs_a10 q, cs_i10 q hv, cs_rpc q hv, bnd_e, cs_po q hv, e1, obd_s, nI_1, bnd_e, e2]
end
/-! ===== alike states are written alike, and none else ===== -/
theorem fm_inj {α β : Type} {g g' : α → List β} : ∀ (ws : List α) (R R' : List β), (∀ v, v ∈ ws → ∀ r r', g v ++ r = g' v ++ r' → g v = g' v) → ws.flatMap g ++ R = ws.flatMap g' ++ R' → (∀ v, v ∈ ws → g v = g' v) ∧ R = R' := by
  intro ws
  induction ws with
  | nil => intro R R' _ h; exact ⟨fun v hv => by simp at hv, h⟩
  | cons w ws ih =>
    intro R R' hp h
    rw [List.flatMap_cons, List.flatMap_cons, List.append_assoc, List.append_assoc] at h
    have e := hp w (by simp) _ _ h
    rw [e] at h
    have h2 := List.append_cancel_left h
    obtain ⟨a, b⟩ := ih R R' (fun v hv => hp v (List.mem_cons_of_mem _ hv)) h2
    refine ⟨fun v hv => ?_, b⟩
    rcases List.mem_cons.mp hv with z | z
    · rw [z]; exact e
    · exact a v z
theorem ap_len {β : Type} {a a' r r' : List β} (h : a ++ r = a' ++ r') (hl : a.length = a'.length) : a = a' := (List.append_inj h hl).1
theorem Wok_eq {N A A' : Nat} : ∀ {l m : List Wtr}, Wok N A l → Wok N A' m → (∀ x, x ∈ l ↔ x ∈ m) → l = m := by
  intro l
  induction l with
  | nil =>
    intro m _ _ h
    cases m with
    | nil => rfl
    | cons y m => exact absurd ((h y).mpr (by simp)) (by simp)
  | cons x l ih =>
    intro m hl hm h
    cases m with
    | nil => exact absurd ((h x).mp (by simp)) (by simp)
    | cons y m =>
      have e : x = y := by
        rcases List.mem_cons.mp ((h x).mp (by simp)) with z | z
        · exact z
        · rcases List.mem_cons.mp ((h y).mpr (by simp)) with z' | z'
          · exact z'.symm
          · have a1 := (List.pairwise_cons.mp hl.1).1 y z'
            have a2 := (List.pairwise_cons.mp hm.1).1 x z
            unfold aw at a1 a2
            rw [ahd_as a1] at a2
            exact absurd a2 (by decide)
      subst e
      have nx : ∀ {l : List Wtr} {A : Nat}, Wok N A (x :: l) → x ∉ l := fun h z => by
        have := h.2.1
        rw [List.map_cons, List.nodup_cons] at this
        exact this.1 (List.mem_map.mpr ⟨x, z, rfl⟩)
      rw [ih hl.tl hm.tl (fun z => ?_)]
      constructor
      · intro hz
        rcases List.mem_cons.mp ((h z).mp (List.mem_cons_of_mem _ hz)) with q | q
        · exact absurd (q ▸ hz) (nx hl)
        · exact q
      · intro hz
        rcases List.mem_cons.mp ((h z).mpr (List.mem_cons_of_mem _ hz)) with q | q
        · exact absurd (q ▸ hz) (nx hm)
        · exact q
section
variable {S S' : St} {N A A' : Nat}
theorem serP_d {v : Nat} {r r' : List Int32} (h : serP S v ++ r = serP S' v ++ r') : serP S v = serP S' v := by
  refine ap_len h ?_
  have h' := h
  unfold serP at h'
  simp only [List.cons_append, List.nil_append, List.cons.injEq] at h'
  have e : wms S v = wms S' v := h'.2.2.2.2.2.2.2.2.2.1
  unfold serP
  rw [List.length_append, List.length_append, List.length_map, List.length_map, e]
  rfl
theorem serL_d {l : Nat} (h1 : (xL S l).length < 2 ^ 31) (h2 : (xL S' l).length < 2 ^ 31) {r r' : List Int32} (h : serL S l ++ r = serL S' l ++ r') : serL S l = serL S' l := by
  refine ap_len h ?_
  unfold serL at h ⊢
  rw [List.cons_append, List.cons_append] at h
  have := (List.cons.inj h).1
  have := (nI_eq h1 h2).mp this
  rw [List.length_cons, List.length_cons, List.length_map, List.length_map, this]
theorem serF_d {f : Nat} (h16 : N ≤ 16) (hf : f < 16) (hl : ∀ l, l < 256 → (xL S l).length < 2 ^ 31 ∧ (xL S' l).length < 2 ^ 31) {r r' : List Int32} (h : serF N S f ++ r = serF N S' f ++ r') : serF N S f = serF N S' f := by
  unfold serF at h ⊢
  rw [List.cons_append, List.cons_append] at h
  obtain ⟨h1, h2⟩ := List.cons.inj h
  unfold serG at h2 ⊢
  rw [h1] at h2 ⊢
  congr 1
  have mb : ∀ g, g ∈ (List.range' 0 N).filter (fun g => bt (bms S' f) g) → 16 * f + g < 256 := fun g hg => by
    have := List.mem_range'_1.mp (List.mem_filter.mp hg).1
    omega
  obtain ⟨a, _⟩ := fm_inj _ _ _ (fun g hg r r' z => serL_d (hl _ (mb g hg)).1 (hl _ (mb g hg)).2 z) h2
  exact fm_cg _ a
theorem encC_inj {x y : Ltr} (hx : Lok x) (hy : Lok y) (h : encC x = encC y) : lk x = lk y := by
  obtain ⟨⟨k, hk, ek⟩, s, hs, es⟩ := hx
  obtain ⟨⟨k', hk', ek'⟩, s', hs', es'⟩ := hy
  have a := encC_kind (show k < 8 by omega) ek
  have a' := encC_kind (show k' < 8 by omega) ek'
  have b := encC_stamp (show k < 8 by omega) ek hs es
  have b' := encC_stamp (show k' < 8 by omega) ek' hs' es'
  rw [h] at a b
  unfold lk
  rw [ek, ek', a.symm.trans a', es, es', b.symm.trans b']
theorem encC_c {x y : Ltr} (h : lk x = lk y) : encC x = encC y := by
  unfold lk at h
  obtain ⟨a, b⟩ := Prod.mk.inj h
  unfold encC
  rw [a, b]
theorem ser_c (h : SE S S') (h16 : N ≤ 16) : ser N S = ser N S' := by
  have e0 : ∀ q, mkS S q = mkS S' q := fun q => by
    apply b_ext
    intro i hi
    rw [mkS_b hi, mkS_b hi]
    by_cases c : i < 16
    · rw [h.1 0 i (by omega) c]
    · simp [c]
  have eP : ∀ v, v < 16 → serP S v = serP S' v := fun v hv => by
    have ew := h.2.1 v hv
    have e1 : wms S v = wms S' v := by unfold wms; rw [ew]
    have e2 : wst S v = wst S' v := by funext u; unfold wst; rw [ew]
    unfold serP
    rw [e1, e2, h.1 1 v (by omega) hv, h.1 2 v (by omega) hv, h.1 3 v (by omega) hv, h.1 4 v (by omega) hv, h.1 5 v (by omega) hv, h.1 6 v (by omega) hv, h.1 8 v (by omega) hv, h.1 9 v (by omega) hv, h.1 10 v (by omega) hv]
  have eB : ∀ f, f < 16 → bms S f = bms S' f := fun f hf => by
    apply b_ext
    intro i hi
    rw [bms_b hi, bms_b hi]
    by_cases c : i < 16
    · have := h.2.2 (16 * f + i) (by omega)
      have e : (xL S (16 * f + i) ≠ []) ↔ (xL S' (16 * f + i) ≠ []) := by
        constructor
        · intro z y
          rw [y] at this
          exact z (List.map_eq_nil_iff.mp this)
        · intro z y
          rw [y] at this
          exact z (List.map_eq_nil_iff.mp this.symm)
      simp [c, e]
    · simp [c]
  have eL : ∀ l, l < 256 → serL S l = serL S' l := fun l hl => by
    have := h.2.2 l hl
    have ln : (xL S l).length = (xL S' l).length := by
      have := congrArg List.length this
      rwa [List.length_map, List.length_map] at this
    unfold serL
    rw [ln]
    congr 1
    have g : ∀ l : List Ltr, l.map encC = (l.map lk).map (fun y => (y.2 <<< ((3 : Int32) &&& 31)) ||| y.1) := fun l => by rw [List.map_map]; rfl
    rw [g, g, this]
  have eF : ∀ f, f < N → serF N S f = serF N S' f := fun f hf => by
    unfold serF serG
    rw [eB f (by omega)]
    congr 1
    refine fm_cg _ (fun g hg => ?_)
    have := List.mem_range'_1.mp (List.mem_filter.mp hg).1
    exact eL _ (by omega)
  unfold ser
  rw [e0, e0]
  congr 3
  · exact fm_cg _ (fun v hv => eP v (by have := List.mem_range'_1.mp hv; omega))
  · exact fm_cg _ (fun v hv => eF v (by have := List.mem_range'_1.mp hv; omega))
theorem ln_l {S : St} {l : Nat} (hl : l < 256) (h : (fl S).length ≤ 9000) : (xL S l).length ≤ 9000 := by
  have := fl_split S hl
  have := congrArg List.length this
  simp only [List.length_append, List.length_map] at this
  omega
set_option maxHeartbeats 1000000 in
theorem ser_i (h : ser N S = ser N S') (h16 : N ≤ 16) (hI : Inv N A S) (hI' : Inv N A' S') (hA : A < 1048576) (hA' : A' < 1048576) (hq : Qk S S') (hk : Kn N S S') (hl : ∀ l, l < 256 → (xL S l).length < 2 ^ 31 ∧ (xL S' l).length < 2 ^ 31) : SE S S' := by
  unfold ser at h
  obtain ⟨m2, h⟩ := List.cons.inj h
  obtain ⟨m1, h⟩ := List.cons.inj h
  obtain ⟨hP, h⟩ := fm_inj _ _ _ (fun v _ r r' z => serP_d z) h
  have h' : (List.range' 0 N).flatMap (serF N S) ++ [] = (List.range' 0 N).flatMap (serF N S') ++ [] := by rw [List.append_nil, List.append_nil]; exact h
  obtain ⟨hF, _⟩ := fm_inj _ _ _ (fun v hv r r' z => serF_d h16 (by have := List.mem_range'_1.mp hv; omega) hl z) h'
  have mem : ∀ v, v < N → v ∈ List.range' 0 N := fun v hv => List.mem_range'_1.mpr ⟨Nat.zero_le _, by omega⟩
  have w16 : ∀ {S : St} {A : Nat}, Inv N A S → ∀ v, v < 16 → ∀ w, w ∈ xW S v → w.1 < 16 := fun hI v hv w hw => by have := ((hI.2.2.2.2.2.1 v hv).1.2.2 w hw).1; omega
  have r0 : ∀ v, v < 16 → xR S 0 v = xR S' 0 v := fun v hv => by
    have a2 := mkS_b (S := S) (q := 2) (u := v) (by omega)
    have b2 := mkS_b (S := S') (q := 2) (u := v) (by omega)
    rw [m2, b2] at a2
    have a1 := mkS_b (S := S) (q := 1) (u := v) (by omega)
    have b1 := mkS_b (S := S') (q := 1) (u := v) (by omega)
    rw [m1, b1] at a1
    have i0 := (hI.1 v hv).1
    have i0' := (hI'.1 v hv).1
    rcases i0 with z | z | z <;> rcases i0' with y | y | y <;> rw [z, y] at a1 a2 ⊢ <;> simp [hv] at a1 a2
  have pv : ∀ v, v < N → (xR S 1 v = xR S' 1 v ∧ xR S 2 v = xR S' 2 v ∧ xR S 3 v = xR S' 3 v ∧ xR S 4 v = xR S' 4 v ∧ xR S 5 v = xR S' 5 v ∧ xR S 6 v = xR S' 6 v ∧ xR S 8 v = xR S' 8 v ∧ (if xR S 8 v = -1 then -1 else xR S 9 v) = (if xR S' 8 v = -1 then -1 else xR S' 9 v) ∧ xR S 10 v = xR S' 10 v ∧ wms S v = wms S' v ∧ (ms (wms S v)).map (wst S v) = (ms (wms S' v)).map (wst S' v)) := fun v hv => by
    have := hP v (mem v hv)
    unfold serP at this
    simpa only [List.cons_append, List.nil_append, List.cons.injEq] using this
  refine ⟨fun k i hk' hi => ?_, fun a ha => ?_, fun l hl' => ?_⟩
  · by_cases c : i < N
    · obtain ⟨p1, p2, p3, p4, p5, p6, p8, p9, p10, _⟩ := pv i c
      rcases (show k = 0 ∨ k = 1 ∨ k = 2 ∨ k = 3 ∨ k = 4 ∨ k = 5 ∨ k = 6 ∨ k = 7 ∨ k = 8 ∨ k = 9 ∨ k = 10 ∨ k = 17 ∨ k = 20 by omega) with rfl | rfl | rfl | rfl | rfl | rfl | rfl | rfl | rfl | rfl | rfl | rfl | rfl
      · exact r0 i hi
      · exact p1
      · exact p2
      · exact p3
      · exact p4
      · exact p5
      · exact p6
      · exact (hq 7 (by omega) i).symm
      · exact p8
      · have f := (hI.2.2.2.2.2.1 i hi).2.2
        have f' := (hI'.2.2.2.2.2.1 i hi).2.2
        by_cases z : xR S 8 i = -1
        · have z' : xR S' 8 i = -1 := by rw [← p8]; exact z
          have a : xR S 9 i = 0 := by
            rcases f with y | ⟨g, g1, g2, _⟩
            · exact y.2.1
            · rw [z] at g2; exact absurd g2 (m1_ne (by omega))
          have a' : xR S' 9 i = 0 := by
            rcases f' with y | ⟨g, g1, g2, _⟩
            · exact y.2.1
            · rw [z'] at g2; exact absurd g2 (m1_ne (by omega))
          rw [a, a']
        · have z' : ¬ xR S' 8 i = -1 := by rw [← p8]; exact z
          rwa [if_neg z, if_neg z'] at p9
      · exact p10
      · exact (hq 17 (by omega) i).symm
      · exact (hq 20 (by omega) i).symm
    · rcases hk' with z | z | z
      · exact (hk k z i (by omega)).symm
      · exact (hq k (by omega) i).symm
      · exact (hq k (by omega) i).symm
  · by_cases c : a < N
    · obtain ⟨_, _, _, _, _, _, _, _, _, pm, ps⟩ := pv a c
      have W := (hI.2.2.2.2.2.1 a ha).1
      have W' := (hI'.2.2.2.2.2.1 a ha).1
      have key : ∀ u, u < 16 → (u ∈ (xW S a).map Prod.fst ↔ u ∈ (xW S' a).map Prod.fst) := fun u hu => by
        have b := wms_b (S := S) (v := a) (u := u) (by omega) (w16 hI a ha)
        have b' := wms_b (S := S') (v := a) (u := u) (by omega) (w16 hI' a ha)
        rw [pm, b'] at b
        have := decide_eq_decide.mp b
        exact this.symm
      rw [← pm] at ps
      have st := List.map_inj_left.mp ps
      have one : ∀ {S S' : St} {A A' : Nat}, Inv N A S → Inv N A' S' → (∀ u, u < 16 → (u ∈ (xW S a).map Prod.fst → u ∈ (xW S' a).map Prod.fst)) → (∀ u, u < 16 → u ∈ (xW S a).map Prod.fst → wst S a u = wst S' a u) → ∀ x, x ∈ xW S a → x ∈ xW S' a := by
        intro S S' A A' hI hI' hm hs x hx
        have x16 := w16 hI a ha x hx
        have hu : x.1 ∈ (xW S a).map Prod.fst := List.mem_map.mpr ⟨x, hx, rfl⟩
        obtain ⟨y, y1, y2, y3⟩ := wst_e (hm x.1 x16 hu)
        obtain ⟨z, z1, z2, z3⟩ := wst_e hu
        have nd := (hI.2.2.2.2.2.1 a ha).1.2.1
        have ez : z = x := by
          have a1 := (engW_some (l := xW S a) (v := x.1) (s := z.2) nd).mpr (by rw [← z2]; exact z1)
          have a2 := (engW_some (l := xW S a) (v := x.1) (s := x.2) nd).mpr hx
          rw [a1] at a2
          exact Prod.ext z2 (Option.some.inj a2)
        have : y = x := Prod.ext y2 (by rw [← y3, ← hs x.1 x16 hu, z3, ez])
        rw [← this]; exact y1
      have inms : ∀ u, u < 16 → u ∈ (xW S a).map Prod.fst → u ∈ ms (wms S a) := fun u hu z => by
        unfold ms
        rw [List.mem_filter]
        exact ⟨List.mem_range.mpr hu, by rw [wms_b (by omega) (w16 hI a ha)]; exact decide_eq_true z⟩
      refine Wok_eq W W' (fun x => ⟨one hI hI' (fun u hu => (key u hu).mp) (fun u hu z => st u (inms u hu z)) x, one hI' hI (fun u hu => (key u hu).mpr) (fun u hu z => (st u (inms u hu ((key u hu).mpr z))).symm) x⟩)
    · rw [(hI.2.2.2.2.2.1 a ha).2.1 (by omega), (hI'.2.2.2.2.2.1 a ha).2.1 (by omega)]
  · by_cases c : l / 16 < N ∧ l % 16 < N
    · have hf := hF (l / 16) (mem _ c.1)
      unfold serF at hf
      obtain ⟨eb, hg⟩ := List.cons.inj hf
      unfold serG at hg
      rw [eb] at hg
      have hg' : ((List.range' 0 N).filter fun g => bt (bms S' (l / 16)) g).flatMap (fun g => serL S (16 * (l / 16) + g)) ++ [] = ((List.range' 0 N).filter fun g => bt (bms S' (l / 16)) g).flatMap (fun g => serL S' (16 * (l / 16) + g)) ++ [] := by rw [List.append_nil, List.append_nil]; exact hg
      have mb : ∀ g, g ∈ (List.range' 0 N).filter (fun g => bt (bms S' (l / 16)) g) → 16 * (l / 16) + g < 256 := fun g hg => by
        have := List.mem_range'_1.mp (List.mem_filter.mp hg).1
        omega
      obtain ⟨hL, _⟩ := fm_inj _ _ _ (fun g hg r r' z => serL_d (hl _ (mb g hg)).1 (hl _ (mb g hg)).2 z) hg'
      have b := bms_b (S := S) (f := l / 16) (u := l % 16) (by omega)
      have b' := bms_b (S := S') (f := l / 16) (u := l % 16) (by omega)
      rw [eb, b'] at b
      rw [show 16 * (l / 16) + l % 16 = l by omega] at b b'
      by_cases z : xL S' l = []
      · have : xL S l = [] := by
          have := decide_eq_decide.mp b
          by_cases y : xL S l = []
          · exact y
          · exact absurd z (this.mpr ⟨by omega, y⟩).2
        rw [z, this]
      · have hin : l % 16 ∈ (List.range' 0 N).filter fun g => bt (bms S' (l / 16)) g := by
          rw [List.mem_filter]
          exact ⟨mem _ c.2, by rw [b']; exact decide_eq_true ⟨by omega, z⟩⟩
        have e := hL _ hin
        rw [show 16 * (l / 16) + l % 16 = l by omega] at e
        unfold serL at e
        have em := (List.cons.inj e).2
        have gen : ∀ (a b : List Ltr), (∀ x, x ∈ a → Lok x) → (∀ x, x ∈ b → Lok x) → a.map encC = b.map encC → a.map lk = b.map lk := by
          intro a
          induction a with
          | nil => intro b _ _ h; rw [List.map_nil] at h; rw [List.map_eq_nil_iff.mp h.symm]
          | cons x a ih =>
            intro b ha hb h
            cases b with
            | nil => cases h
            | cons y b =>
              rw [List.map_cons, List.map_cons] at h ⊢
              obtain ⟨h1, h2⟩ := List.cons.inj h
              rw [encC_inj (ha x (by simp)) (hb y (by simp)) h1, ih b (fun z hz => ha z (List.mem_cons_of_mem _ hz)) (fun z hz => hb z (List.mem_cons_of_mem _ hz)) h2]
        exact gen _ _ (fun x hx => Lok_of hI hA hl' hx) (fun x hx => Lok_of hI' hA' hl' hx) em
    · rw [(hI.2.2.2.2.1 l hl').2 c, (hI'.2.2.2.2.1 l hl').2 c]
end
/-! ===== how long a kept state is; the class keeps one, and looks whether it is known ===== -/
theorem flr_len_s (L : Nat → List Ltr) (a n : Nat) : (flr L a (n + 1)).length = (L a).length + (flr L (a + 1) n).length := by
  unfold flr
  rw [List.range'_succ, List.flatMap_cons, List.length_append, List.length_map]
theorem flr_len_ap (L : Nat → List Ltr) : ∀ (m a n : Nat), (flr L a (m + n)).length = (flr L a m).length + (flr L (a + m) n).length := by
  intro m
  induction m with
  | zero => intro a n; rw [Nat.zero_add, Nat.add_zero]; show _ = 0 + _; omega
  | succ m ih =>
    intro a n
    rw [show m + 1 + n = (m + n) + 1 by omega, flr_len_s, ih, flr_len_s, show a + 1 + m = a + (m + 1) by omega]
    omega
theorem serG_len (S : St) (f : Nat) (hf : f < 16) : ∀ (d j : Nat), j + d ≤ 16 → (serG S f (List.range' j d)).length ≤ 2 * (flr (xL S) (16 * f + j) d).length := by
  intro d
  induction d with
  | zero => intro j _; exact Nat.zero_le _
  | succ d ih =>
    intro j hj
    have eG : serG S f (List.range' j (d + 1)) = (if bt (bms S f) j = true then serL S (16 * f + j) else []) ++ serG S f (List.range' (j + 1) d) := by
      unfold serG
      rw [List.range'_succ, List.filter_cons]
      by_cases z : bt (bms S f) j = true
      · rw [if_pos z, if_pos z, List.flatMap_cons]
      · rw [if_neg z, if_neg z]; rfl
    have := ih (j + 1) (by omega)
    rw [show 16 * f + (j + 1) = 16 * f + j + 1 by omega] at this
    rw [eG, List.length_append, flr_len_s]
    by_cases z : bt (bms S f) j = true
    · rw [if_pos z]
      rw [bms_b (by omega)] at z
      have hne := (of_decide_eq_true z).2
      have hp : 0 < (xL S (16 * f + j)).length := List.length_pos_iff.mpr hne
      unfold serL
      rw [List.length_cons, List.length_map]
      omega
    · rw [if_neg z, List.length_nil]
      omega
theorem ser_len {N : Nat} {S : St} (h16 : N ≤ 16) : (ser N S).length ≤ 2 + 27 * N + 2 * (fl S).length := by
  have hF : ∀ (d f : Nat), f + d ≤ 16 → ((List.range' f d).flatMap (serF N S)).length ≤ d + 2 * (flr (xL S) (16 * f) (16 * d)).length := by
    intro d
    induction d with
    | zero => intro f _; exact Nat.zero_le _
    | succ d ih =>
      intro f hf
      have a := ih (f + 1) (by omega)
      have b := serG_len S f (by omega) N 0 (by omega)
      have c := flr_len_ap (xL S) N (16 * f) (16 - N)
      have e := flr_len_ap (xL S) 16 (16 * f) (16 * d)
      rw [show N + (16 - N) = 16 by omega] at c
      rw [Nat.add_zero] at b
      rw [show 16 * (f + 1) = 16 * f + 16 by omega] at a
      rw [List.range'_succ, List.flatMap_cons, List.length_append, show 16 * (d + 1) = 16 + 16 * d by omega, e]
      have z : (serF N S f).length = 1 + (serG S f (List.range' 0 N)).length := by unfold serF; rw [List.length_cons]; omega
      omega
  have hP : ∀ (d v : Nat), ((List.range' v d).flatMap (serP S)).length ≤ 26 * d := by
    intro d
    induction d with
    | zero => intro v; exact Nat.zero_le _
    | succ d ih =>
      intro v
      have a := ih (v + 1)
      rw [List.range'_succ, List.flatMap_cons, List.length_append]
      have z : (serP S v).length ≤ 26 := by
        unfold serP
        rw [List.length_append, List.length_map]
        have : (ms (wms S v)).length ≤ 16 := by
          have := List.length_filter_le (fun i => bt (wms S v) i) (List.range 16)
          rw [List.length_range] at this
          exact this
        show 10 + _ ≤ 26
        omega
      omega
  have a := hF N 0 (by omega)
  have b := hP N 0
  have c := flr_len_ap (xL S) (16 * N) 0 (256 - 16 * N)
  rw [show 16 * N + (256 - 16 * N) = 256 by omega] at c
  have d : (flr (xL S) 0 256).length = (fl S).length := by
    unfold flr fl
    rw [List.range_eq_range']
  unfold ser
  rw [List.length_cons, List.length_cons, List.length_append]
  rw [Nat.mul_zero] at a
  omega
def offs (N : Nat) (l : List (St × Nat)) (i : Nat) : Nat := ((l.take i).map fun p => (ser N p.1).length).sum
theorem offs_s {N : Nat} {l : List (St × Nat)} {i : Nat} {p : St × Nat} (h : l[i]? = some p) : offs N l (i + 1) = offs N l i + (ser N p.1).length := by
  unfold offs
  rw [take_s h, List.map_append, List.sum_append]
  rfl
theorem offs_le {N : Nat} {l : List (St × Nat)} (hl : ∀ p, p ∈ l → (ser N p.1).length ≤ 18434) : ∀ i, offs N l i ≤ 18434 * i := by
  intro i
  induction i with
  | zero => unfold offs; rw [List.take_zero]; exact Nat.zero_le _
  | succ i ih =>
    cases e : l[i]? with
    | none =>
      have : l.take (i + 1) = l.take i := by
        have := List.getElem?_eq_none_iff.mp e
        rw [List.take_of_length_le (by omega), List.take_of_length_le this]
      unfold offs at ih ⊢
      rw [this]; omega
    | some p =>
      rw [offs_s e]
      have := hl p (List.mem_of_getElem? e)
      omega
/-- the states met, as the class holds them -/
def XQ (N : Nat) (M : Mem) (dC : Nat) (l : List (St × Nat)) : Prop := (∀ i, i ≤ l.length → mI M 115 i = nI (offs N l i)) ∧ ∀ (i : Nat) (p : St × Nat), l[i]? = some p → (∀ j x, (ser N p.1)[j]? = some x → mI M dC (offs N l i + j) = x) ∧ mI M 116 i = nI p.2
section
variable {X0 Y0 N : Nat} {t : Int32} {Q : Nat → Int32} {S : St} {pb pt : List Row4}
theorem sx1 {α : Type} {M : Mem} (x : SX M) (y : Option α) : chk (isO M 100 115) y = y := chk_t x.2.2.1.1
theorem sx1i {α : Type} {M : Mem} (x : SX M) {k : Nat} (hk : k < 41) (y : Option α) : chk (inB (nI k) (mLn M 115)) y = y := by
  refine chk_t ?_
  rw [x.2.2.2.1.1]; exact inB_n hk (by decide)
theorem SV.rs {M : Mem} {e dC : Nat} (h : SV X0 Y0 t N Q pb pt S M e dC) {e' : Nat} (he : e' ≤ e) : SV X0 Y0 t N Q pb pt S (sI M 114 6 (nI e')) e' dC := by
  obtain ⟨L, sx, c, p⟩ := h
  have f : FrC M (sI M 114 6 (nI e')) dC dC := ⟨Nat.le_refl _, fun _ _ => rfl, fun _ _ _ _ => rfl, fun o _ n _ b => mI_o _ _ _ _ _ n, fun b n => mI_n _ _ _ _ n, fun _ _ _ => rfl, Or.inl rfl⟩
  obtain ⟨c1, c2, c3, c4, c5, c6, c7⟩ := c
  refine ⟨L, sx.fr f, ⟨c1, c2, c3, c4, mI_s _ _ _ _, by omega, c7⟩, p.frC f ⟨c4, c7.2.2⟩ p.2.2.2.1⟩
set_option maxHeartbeats 1000000 in
theorem SV.save {M : Mem} {e dC n m e0 : Nat} (h : SV X0 Y0 t N Q pb pt S M e dC) (hX : X0 ≤ 100000) (hY : Y0 ≤ 1000000) (so : Sok N S) (hm : mI M 114 10 = nI m) (hm40 : m ≤ 40) (hs : mI M 115 m = nI e0) (he0 : e0 ≤ e) (he : e0 + (ser N S).length + 60 < 760000) (hn : 10000 ≤ n) : ∃ M' dC', f_X6_save n 114 M = some M' ∧ SV X0 Y0 t N Q pb pt S M' (e0 + (ser N S).length) dC' ∧ (∀ j, j < e0 → mI M' dC' j = mI M dC j) ∧ (∀ i x, (ser N S)[i]? = some x → mI M' dC' (e0 + i) = x) ∧ FrC M M' dC dC' := by
  have h0 := h.rs he0
  have f0 : FrC M (sI M 114 6 (nI e0)) dC dC := ⟨Nat.le_refl _, fun _ _ => rfl, fun _ _ _ _ => rfl, fun o _ n _ b => mI_o _ _ _ _ _ n, fun b n => mI_n _ _ _ _ n, fun _ _ _ => rfl, Or.inl rfl⟩
  have hsx : SX M := by obtain ⟨L, sx, _⟩ := h; exact sx
  have d114 : dC ≠ 114 := by obtain ⟨L, sx, c, p⟩ := h; have := c.2.2.2.1; omega
  generalize hMa : sI M 114 6 (nI e0) = Ma at h0 f0
  have el : (ser N S).length = 1 + (1 + (((List.range' 0 N).flatMap (serP S)).length + ((List.range' 0 N).flatMap (serF N S)).length)) := by
    unfold ser
    rw [List.length_cons, List.length_cons, List.length_append]; omega
  rw [el] at he
  have mk : ∀ {M : Mem} {e dC : Nat} (_ : SV X0 Y0 t N Q pb pt S M e dC), SX M ∧ CS M 63 ∧ mI M 63 7 = mkS S 2 ∧ mI M 63 8 = mkS S 1 := fun h => by
    obtain ⟨L, sx, c, p⟩ := h
    exact ⟨sx, p.1, b_ext (fun i hi => by rw [p.2.2.1.2.1 i hi, mkS_b hi]), b_ext (fun i hi => by rw [p.2.2.1.2.2.1 i hi, mkS_b hi])⟩
  obtain ⟨xa, qa, a7, _⟩ := mk h0
  obtain ⟨M1, d1, e1, W1⟩ := h0.push hX hY (by omega) (mkS S 2)
  obtain ⟨xb, qb, _, b8⟩ := mk W1.1
  obtain ⟨M2, d2, e2, W2⟩ := W1.1.push hX hY (by show e0 + 1 < 760000; omega) (mkS S 1)
  obtain ⟨M3, d3, e3, W3⟩ := sv_37 hX hY so N 0 n M2 (e0 + 1 + 1) d2 (by omega) W2.1 (by omega) (by have := so.1; omega)
  have W : WS X0 Y0 t N Q pb pt S Ma e0 dC M3 d3 (ser N S) := (W1.tr W2).tr W3
  refine ⟨M3, d3, ?_, W.1, fun j hj => ?_, W.2.2.1, f0.tr W.2.2.2⟩
  · rw [f_X6_save, chk_t hsx.1, hsx.2.1.2.1, bnd_e, sx1 hsx, hm, sx1i hsx (by omega), mI_c (by omega), hs, hMa, bnd_e, xa.2.1.1, bnd_e, cs_f qa, a7, e1, obd_s, chk_t xb.1, xb.2.1.1, bnd_e, cs_f qb, b8, e2, obd_s]
    exact e3
  · rw [W.2.1 j hj, ← hMa, mI_o _ _ _ _ _ d114]
theorem li_l {M : Mem} {dC L a b sz i m : Nat} (sx : SX M) (c1 : mR M 114 5 = dC) (c2 : isO M 100 dC) (c3 : mLn M dC = L) (hi : i < 41) (hm : m < 41) (ha : mI M 115 i = nI a) (hb : mI M 115 m = nI b) (h10 : mI M 114 10 = nI m) (la : a + sz ≤ L) (lb : b + sz ≤ L) (hL : L < 2 ^ 31) : ∀ (d k n : Nat), k + d = sz → d + 1 ≤ n → ∃ r : Bool, f_X6_isLike_38 M n 114 (nI i) (nI sz) (nI k) = some (if r then 1 else 0) ∧ (r = true ↔ ∀ j, k ≤ j → j < sz → mI M dC (a + j) = mI M dC (b + j)) := by
  intro d
  induction d with
  | zero =>
    intro k n hk hn
    obtain ⟨n, rfl⟩ : ∃ m, n = m + 1 := ⟨n - 1, by omega⟩
    refine ⟨true, ?_, ⟨fun _ j a b => by omega, fun _ => rfl⟩⟩
    rw [f_X6_isLike_38, if_pos (nI_le (by omega) (by omega)), if_pos rfl]
  | succ d ih =>
    intro k n hk hn
    obtain ⟨n, rfl⟩ : ∃ m, n = m + 1 := ⟨n - 1, by omega⟩
    obtain ⟨r, e, hr⟩ := ih (k + 1) n (by omega) (by omega)
    have hd : ∀ y : Option Int32, (if mI M dC (a + k) = mI M dC (b + k) then f_X6_isLike_38 M n 114 (nI i) (nI sz) (nI (k + 1)) else some 0) = y → f_X6_isLike_38 M (n + 1) 114 (nI i) (nI sz) (nI k) = y := by
      intro y hy
      rw [f_X6_isLike_38, if_neg (nI_ge (by omega) (by omega)), chk_t sx.1, c1, bnd_e, chk_t c2, sx.2.1.2.1, bnd_e, sx1 sx, sx1i sx hi, mI_c (by omega), ha, nI_add, c3, chk_t (inB_n (by omega) hL), bnd_e, chk_t c2, bnd_e, sx1 sx, h10, sx1i sx hm, mI_c (by omega), hb, nI_add, c3, chk_t (inB_n (by omega) hL), mI_d (by omega), mI_d (by omega), nI_1, bnd_e]
      exact hy
    by_cases c : mI M dC (a + k) = mI M dC (b + k)
    · refine ⟨r, hd _ (by rw [if_pos c, e]), ?_⟩
      rw [hr]
      constructor
      · intro h j z z'
        by_cases y : j = k
        · rw [y]; exact c
        · exact h j (by omega) z'
      · intro h j z z'
        exact h j (by omega) z'
    · exact ⟨false, hd _ (by rw [if_neg c]; rfl), ⟨fun z => absurd z (by decide), fun h => absurd (h k (Nat.le_refl _) (by omega)) c⟩⟩
set_option maxHeartbeats 1000000 in
theorem like1 {M : Mem} {dC L n : Nat} {l : List (St × Nat)} (sx : SX M) (c : CL M dC L (offs N l l.length + (ser N S).length)) (hq : XQ N M dC l) (h10 : mI M 114 10 = nI l.length) (h40 : l.length ≤ 40) (hser : ∀ i x, (ser N S)[i]? = some x → mI M dC (offs N l l.length + i) = x) (ho : ∀ i, offs N l i ≤ 18434 * i) (hsl : (ser N S).length ≤ 18434) {i : Nat} {p : St × Nat} (hp : l[i]? = some p) (hps : (ser N p.1).length ≤ 18434) (hn : 19000 ≤ n) : ∃ r : Bool, f_X6_isLike n 114 (nI i) M = some (if r then 1 else 0) ∧ (r = true ↔ ser N p.1 = ser N S) := by
  obtain ⟨c1, c2, c3, c4, c5, c6, c7, c8, _⟩ := c
  have hi : i < l.length := by
    rcases Nat.lt_or_ge i l.length with z | z
    · exact z
    · rw [List.getElem?_eq_none z] at hp; cases hp
  have o1 := offs_s (N := N) hp
  have ha := hq.1 i (by omega)
  have ha1 := hq.1 (i + 1) (by omega)
  have hb := hq.1 l.length (Nat.le_refl _)
  have hoi := ho i
  have hol := ho l.length
  have mono : ∀ d j, j + d = l.length → offs N l j ≤ offs N l l.length := by
    intro d
    induction d with
    | zero => intro j hj; rw [show j = l.length by omega]; exact Nat.le_refl _
    | succ d ih =>
      intro j hj
      have := ih (j + 1) (by omega)
      have := offs_s (N := N) (List.getElem?_eq_getElem (show j < l.length by omega))
      omega
  have m1 := mono (l.length - (i + 1)) (i + 1) (by omega)
  have b1 : 18434 * i ≤ 18434 * 40 := Nat.mul_le_mul_left _ (by omega)
  have b2 : 18434 * l.length ≤ 18434 * 40 := Nat.mul_le_mul_left _ h40
  have head : ∀ y : Option Int32, (if nI (ser N p.1).length = nI (ser N S).length then f_X6_isLike_38 M n 114 (nI i) (nI (ser N S).length) 0 else some 0) = y → f_X6_isLike n 114 (nI i) M = y := by
    intro y hy
    rw [f_X6_isLike, chk_t sx.1, sx.2.1.2.1, bnd_e, sx1 sx, h10, sx1i sx (by omega), c5, mI_c (by omega), hb, nI_sb (by omega), show offs N l l.length + (ser N S).length - offs N l l.length = (ser N S).length by omega, bnd_e, bnd_e, sx1 sx, nI_1, sx1i sx (by omega), bnd_e, sx1 sx, sx1i sx (by omega), mI_c (by omega), mI_c (by omega), ha1, ha, o1, nI_sb (by omega), show offs N l i + (ser N p.1).length - offs N l i = (ser N p.1).length by omega]
    exact hy
  by_cases e : (ser N p.1).length = (ser N S).length
  · obtain ⟨r, er, hr⟩ := li_l (M := M) (a := offs N l i) (b := offs N l l.length) (sz := (ser N S).length) (i := i) (m := l.length) sx c1 c2 c3 (by omega) (by omega) ha hb h10 (by omega) c6 (by omega) (ser N S).length 0 n (by omega) (by omega)
    refine ⟨r, head _ (by rw [if_pos (by rw [e])]; exact er), ?_⟩
    rw [hr]
    constructor
    · intro h
      apply List.ext_getElem?
      intro j
      by_cases z : j < (ser N S).length
      · obtain ⟨x, hx⟩ : ∃ x, (ser N S)[j]? = some x := ⟨_, List.getElem?_eq_getElem z⟩
        obtain ⟨y, hy⟩ : ∃ y, (ser N p.1)[j]? = some y := ⟨_, List.getElem?_eq_getElem (by omega)⟩
        rw [hx, hy, ← hser j x hx, ← (hq.2 i p hp).1 j y hy]
        rw [h j (Nat.zero_le _) z]
      · rw [List.getElem?_eq_none (by omega), List.getElem?_eq_none (by omega)]
    · intro h j _ hj
      obtain ⟨x, hx⟩ : ∃ x, (ser N S)[j]? = some x := ⟨_, List.getElem?_eq_getElem hj⟩
      rw [hser j x hx]
      exact (hq.2 i p hp).1 j x (by rw [h]; exact hx)
  · refine ⟨false, head _ (by rw [if_neg (nI_ne (by omega) (by omega) e)]; rfl), ⟨fun z => absurd z (by decide), fun h => absurd (congrArg List.length h) e⟩⟩
theorem known_l {M : Mem} {dC L : Nat} {l : List (St × Nat)} (sx : SX M) (c : CL M dC L (offs N l l.length + (ser N S).length)) (hq : XQ N M dC l) (h10 : mI M 114 10 = nI l.length) (h40 : l.length ≤ 40) (hser : ∀ i x, (ser N S)[i]? = some x → mI M dC (offs N l l.length + i) = x) (ho : ∀ i, offs N l i ≤ 18434 * i) (hsl : (ser N S).length ≤ 18434) (hps : ∀ p, p ∈ l → (ser N p.1).length ≤ 18434) : ∀ (d i n : Nat), i + d = l.length → d + 19100 ≤ n → ∃ r : Bool, f_X6_isKnown_2 M n 114 (nI i) = some (if r then 1 else 0) ∧ (r = true ↔ ∃ j p, i ≤ j ∧ l[j]? = some p ∧ ser N p.1 = ser N S) := by
  intro d
  induction d with
  | zero =>
    intro i n hi hn
    obtain ⟨n, rfl⟩ : ∃ m, n = m + 1 := ⟨n - 1, by omega⟩
    refine ⟨false, ?_, ⟨fun z => absurd z (by decide), fun ⟨j, p, h1, h2, _⟩ => ?_⟩⟩
    · rw [f_X6_isKnown_2, chk_t sx.1, h10, if_pos (nI_le (by omega) (by omega))]
      rfl
    · rw [List.getElem?_eq_none (by omega)] at h2; cases h2
  | succ d ih =>
    intro i n hi hn
    obtain ⟨n, rfl⟩ : ∃ m, n = m + 1 := ⟨n - 1, by omega⟩
    obtain ⟨p, hp⟩ : ∃ p, l[i]? = some p := ⟨_, List.getElem?_eq_getElem (by omega)⟩
    obtain ⟨r, er, hr⟩ := like1 sx c hq h10 h40 hser ho hsl hp (hps p (List.mem_of_getElem? hp)) (n := n) (by omega)
    have step : f_X6_isKnown_2 M (n + 1) 114 (nI i) = if (if r then (1 : Int32) else 0) = 0 then f_X6_isKnown_2 M n 114 (nI (i + 1)) else some 1 := by
      rw [f_X6_isKnown_2, chk_t sx.1, h10, if_neg (nI_ge (by omega) (by omega)), er, obd_s, nI_1, bnd_e]
    cases r with
    | true =>
      rw [if_neg (by decide)] at step
      exact ⟨true, step, ⟨fun _ => ⟨i, p, Nat.le_refl _, hp, hr.mp rfl⟩, fun _ => rfl⟩⟩
    | false =>
      rw [if_pos (by decide)] at step
      obtain ⟨r', er', hr'⟩ := ih (i + 1) n (by omega) (by omega)
      refine ⟨r', step.trans er', ?_⟩
      rw [hr']
      constructor
      · rintro ⟨j, p', h1, h2, h3⟩
        exact ⟨j, p', by omega, h2, h3⟩
      · rintro ⟨j, p', h1, h2, h3⟩
        by_cases z : j = i
        · rw [z, hp] at h2
          have : p = p' := Option.some.inj h2
          rw [← this] at h3
          exact absurd (hr.mpr h3) (by decide)
        · exact ⟨j, p', by omega, h2, h3⟩
end
/-! ===== the class takes a kept state up again: rows filled, cells pulled ===== -/
theorem fill_l {x : Int32} {o len : Nat} (hL : len < 2 ^ 31) : ∀ (d i n : Nat) (M : Mem), i + d = len → isO M 100 o → mLn M o = len → d + 1 ≤ n → ∃ M', f_J7_fill_53178_5 n o x (nI i) (nI len) M = some M' ∧ M'.1 = M.1 ∧ (∀ j, i ≤ j → j < len → mI M' o j = x) ∧ (∀ j, j < i → mI M' o j = mI M o j) ∧ (∀ a, a ≠ o → ∀ b, mI M' a b = mI M a b) ∧ (∀ a b, mL M' a b = mL M a b) := by
  intro d
  induction d with
  | zero =>
    intro i n M hi hO hl hn
    obtain ⟨n, rfl⟩ : ∃ m, n = m + 1 := ⟨n - 1, by omega⟩
    refine ⟨M, ?_, rfl, fun j a b => by omega, fun _ _ => rfl, fun _ _ _ => rfl, fun _ _ => rfl⟩
    rw [f_J7_fill_53178_5, if_pos (nI_le (by omega) (by omega))]
  | succ d ih =>
    intro i n M hi hO hl hn
    obtain ⟨n, rfl⟩ : ∃ m, n = m + 1 := ⟨n - 1, by omega⟩
    obtain ⟨M', e, s, f1, f2, f3, f4⟩ := ih (i + 1) n (sI M o i x) (by omega) hO hl (by omega)
    refine ⟨M', ?_, s, fun j a b => ?_, fun j a => ?_, fun a na b => ?_, fun a b => f4 a b⟩
    · rw [f_J7_fill_53178_5, if_neg (nI_ge (by omega) (by omega)), chk_t hO, hl, chk_t (inB_n (by omega) hL), sI_d (by omega), bnd_e, nI_1, bnd_e]
      exact e
    · by_cases z : j = i
      · rw [z, f2 i (by omega), mI_s]
      · exact f1 j (by omega) b
    · rw [f2 j (by omega), mI_n _ _ _ _ (by omega)]
    · rw [f3 a na, mI_o _ _ _ _ _ na]
theorem f_fill {x : Int32} {o len n : Nat} {M : Mem} (hL : len < 2 ^ 31) (hO : isO M 100 o) (hl : mLn M o = len) (hn : len + 1 ≤ n) : ∃ M', f_J7_fill_53178 n o x M = some M' ∧ M'.1 = M.1 ∧ (∀ j, j < len → mI M' o j = x) ∧ (∀ a, a ≠ o → ∀ b, mI M' a b = mI M a b) ∧ (∀ a b, mL M' a b = mL M a b) := by
  obtain ⟨M', e, s, f1, f2, f3, f4⟩ := fill_l (x := x) hL len 0 n M (by omega) hO hl hn
  refine ⟨M', ?_, s, fun j hj => f1 j (Nat.zero_le _) hj, f3, f4⟩
  rw [f_J7_fill_53178, chk_t hO, hl, n32, bnd_e]
  exact e
def emL (S : St) : St := (S.1, S.2.1, fun _ => [], S.2.2.2)
theorem fl_emL (S : St) : fl (emL S) = [] := by
  unfold fl
  rw [List.flatMap_eq_nil_iff]
  intro l _
  rfl
set_option maxHeartbeats 1000000 in
theorem HV.clear {M : Mem} {X Y N n : Nat} {t : Int32} {Q : Nat → Int32} {S : St} {pb pt : List Row4} (p : HV M 63 X Y t N Q S pb pt) (hn : 300 ≤ n) : ∃ M', f_X5_clearLanes n 64 M = some M' ∧ HV M' 63 X Y t N Q (emL S) pb pt ∧ FrH M M' 63 := by
  have q := p.1
  have hq := q.2.2.2.2
  obtain ⟨d5, d6, d7, len, K, fr, us, ow, w, hK⟩ := p.2.1
  obtain ⟨M1, e1, s1, f1, g1, h1⟩ := f_fill (x := 0) (o := 63 + 4) (len := 256) (n := n) (M := M) (by decide) (q.io (i := 4) (by decide) (by decide) (by decide)) (q.ln (i := 4) (by decide) (by decide) (by decide)) (by omega)
  have q1 := q.e s1
  obtain ⟨M2, e2, s2, f2, g2, h2⟩ := f_fill (x := 0) (o := 63 + 5) (len := 16) (n := n) (M := M1) (by decide) (q1.io (i := 5) (by decide) (by decide) (by decide)) (q1.ln (i := 5) (by decide) (by decide) (by decide)) (by omega)
  have q2 := q1.e s2
  generalize hM3 : sI (sI (sI M2 (63 + 1) 8 0) (63 + 1) 9 (-1)) (63 + 1) 10 0 = M3
  have s3 : M3.1 = M.1 := by rw [← hM3]; exact s2.trans s1
  have o3 : ∀ a, a ≠ 64 → a ≠ 67 → a ≠ 68 → ∀ b, mI M3 a b = mI M a b := fun a n4 n7 n8 b => by
    rw [← hM3, mI_o _ _ _ _ _ n4, mI_o _ _ _ _ _ n4, mI_o _ _ _ _ _ n4, g2 a n8, g1 a n7]
  have c3 : ∀ b, b ≠ 8 → b ≠ 9 → b ≠ 10 → mI M3 64 b = mI M 64 b := fun b n8 n9 n10 => by
    rw [← hM3, mI_n _ _ _ _ n10, mI_n _ _ _ _ n9, mI_n _ _ _ _ n8, g2 64 (by decide), g1 64 (by decide)]
  have fP : FrP M M3 63 := ⟨by unfold mN; rw [s3]; exact Nat.le_refl _, fun i _ => by rw [s3], fun a b _ _ => by unfold mR; rw [s3], fun o _ n _ _ _ b => o3 o (by omega) (by omega) (by omega) b, fun o _ b => by rw [← hM3]; exact (h2 o b).trans (h1 o b), fun j _ _ => Or.inl (by unfold mR; rw [s3])⟩
  have ht := w.2.2.2.2.2.2.2.2.2.2.1
  have hl := w.2.2.2.2.2.2.2.2.2.1
  refine ⟨M3, ?_, p.frP fP (q.e s3) ⟨d5, d6, d7, len, fun _ => [], [], 0, fun _ => 256, ⟨w.1.e s3, ?_, ?_, ?_, ?_, ?_, ?_, ?_, ?_, ?_, ?_, ?_⟩, fun _ _ => rfl⟩ ?_ (fun _ _ _ => rfl) rfl rfl rfl, fP.toH⟩
  · rw [f_X5_clearLanes, cs_p q, cs_r4 q, bnd_e, cs_a4 q, e1, obd_s, cs_p q1, cs_r5 q1, bnd_e, cs_a5 q1, e2, obd_s, cs_p q2, bnd_e, bnd_e, bnd_e]
    exact congrArg some hM3
  · intro l _ q hq; cases hq
  · intro l _; exact List.nodup_nil
  · intro l _; exact trivial
  · intro l _ cs z h
    cases cs <;> cases h
  · intro l hl'
    rw [← hM3, mI_o _ _ _ _ _ (by decide), mI_o _ _ _ _ _ (by decide), mI_o _ _ _ _ _ (by decide), g2 _ (by decide), f1 l hl']
    rfl
  · intro f hf g hg
    rw [← hM3, mI_o _ _ _ _ _ (by decide), mI_o _ _ _ _ _ (by decide), mI_o _ _ _ _ _ (by decide), f2 f hf, b_0]
    simp
  · intro k hk
    rw [o3 _ (by decide) (by decide) (by decide)]
    exact w.2.2.2.2.2.2.2.1 k hk
  · refine ⟨List.nodup_nil, fun c hc => absurd hc (by simp), ?_⟩
    show mI M3 64 9 = -1
    rw [← hM3, mI_n _ _ _ _ (by decide), mI_s]
  · refine ⟨?_, Nat.zero_le _, Nat.zero_le _, hl.2.2.2.1, hl.2.2.2.2⟩
    rw [← hM3, mI_n _ _ _ _ (by decide), mI_n _ _ _ _ (by decide), mI_s]
    rfl
  · show mI M3 64 11 = t
    rw [c3 _ (by decide) (by decide) (by decide)]; exact ht
  · refine ⟨0, ?_, rfl, ?_⟩
    · rw [← hM3, mI_s]; rfl
    · have := fl_emL S
      unfold flr
      rw [eq_comm, List.length_eq_zero_iff, List.flatMap_eq_nil_iff]
      intro l _
      rfl
  · have rm := p.2.2.2.1
    unfold Rm mN mU mLn mR at rm ⊢
    rw [s3]; exact rm
/-- M is M0, but for what a place's taking up writes; r cells were pulled -/
def Rdy (M0 M : Mem) (dC r : Nat) : Prop := M.1 = M0.1 ∧ mI M 114 6 = mI M0 114 6 ∧ (∀ b, mI M dC b = mI M0 dC b) ∧ mI M 114 7 = nI r
theorem SX.e {M M' : Mem} (x : SX M) (e : M'.1 = M.1) : SX M' := by
  unfold SX isO mR mLn mN mC at *
  rw [e]; exact x
theorem CL.e {M M' : Mem} {dC L e : Nat} (c : CL M dC L e) (s : M'.1 = M.1) (h6 : mI M' 114 6 = mI M 114 6) : CL M' dC L e := by
  unfold CL isO mR mLn mN mC at *
  rw [s, h6]; exact c
theorem pull1 {M : Mem} {dC L e r : Nat} (sx : SX M) (c : CL M dC L e) (h7 : mI M 114 7 = nI r) (hr : r < e) : f_X6_pull 114 M = some (mI M dC r, sI M 114 7 (nI (r + 1))) := by
  obtain ⟨c1, c2, c3, c4, c5, c6, c7, c8, _⟩ := c
  rw [f_X6_pull, chk_t sx.1, c5, h7, if_neg (nI_ge (by omega) (by omega)), c1, bnd_e, chk_t c2, c3, chk_t (inB_n (by omega) (by omega)), mI_d (by omega), bnd_e, nI_1, bnd_e]
theorem Rdy.p {M0 M : Mem} {dC L e r : Nat} (sx : SX M0) (c : CL M0 dC L e) (y : Rdy M0 M dC r) (hr : r < e) : f_X6_pull 114 M = some (mI M0 dC r, sI M 114 7 (nI (r + 1))) ∧ Rdy M0 (sI M 114 7 (nI (r + 1))) dC (r + 1) := by
  obtain ⟨y1, y2, y3, y4⟩ := y
  have hd : dC ≠ 114 := by have := c.2.2.2.1; omega
  refine ⟨?_, y1, ?_, fun b => ?_, mI_s _ _ _ _⟩
  · rw [pull1 (sx.e y1) (c.e y1 y2) y4 hr, y3]
  · rw [mI_n _ _ _ _ (by decide)]; exact y2
  · rw [mI_o _ _ _ _ _ hd]; exact y3 b
theorem Rdy.w {M0 M : Mem} {dC r o : Nat} (y : Rdy M0 M dC r) (h1 : o ≠ 114) (h2 : o ≠ dC) (k : Nat) (x : Int32) : Rdy M0 (sI M o k x) dC r := by
  obtain ⟨y1, y2, y3, y4⟩ := y
  refine ⟨y1, ?_, fun b => ?_, ?_⟩
  · rw [mI_o _ _ _ _ _ h1.symm]; exact y2
  · rw [mI_o _ _ _ _ _ h2.symm]; exact y3 b
  · rw [mI_o _ _ _ _ _ h1.symm]; exact y4
/-- pull, and write it down -/
theorem Rdy.pw {M0 M : Mem} {dC L e r P k : Nat} (sx : SX M0) (c : CL M0 dC L e) (y : Rdy M0 M dC r) (hr : r < e) (h1 : P ≠ 114) (h2 : P ≠ dC) {x : Int32} (hx : mI M0 dC r = x) : ∃ M', Rdy M0 M' dC (r + 1) ∧ f_X6_pull 114 M = some (x, sI M 114 7 (nI (r + 1))) ∧ sI (sI M 114 7 (nI (r + 1))) P k x = M' ∧ mI M' P k = x ∧ (∀ b, b ≠ k → mI M' P b = mI M P b) ∧ (∀ o, o ≠ 114 → o ≠ P → ∀ b, mI M' o b = mI M o b) ∧ (∀ b, b ≠ 7 → mI M' 114 b = mI M 114 b) ∧ (∀ a b, mL M' a b = mL M a b) := by
  obtain ⟨e1, y1⟩ := y.p sx c hr
  rw [hx] at e1
  refine ⟨_, y1.w h1 h2 k x, e1, rfl, mI_s _ _ _ _, fun b n => ?_, fun o n1 n2 b => ?_, fun b n => ?_, fun _ _ => rfl⟩
  · rw [mI_n _ _ _ _ n, mI_o _ _ _ _ _ h1]
  · rw [mI_o _ _ _ _ _ n2, mI_o _ _ _ _ _ n1]
  · rw [mI_o _ _ _ _ _ h1.symm, mI_n _ _ _ _ n]
theorem rp_l {M0 : Mem} {dC L e P P2 : Nat} {w : Int32} {g : Nat → Int32} (sx : SX M0) (c : CL M0 dC L e) (hp : isO M0 4 P) (h10 : mR M0 P 10 = P2) (h2 : isO M0 100 P2) (hl2 : mLn M0 P2 = 16) (n1 : P ≠ 114) (n2 : P2 ≠ 114) (n3 : P ≠ P2) (n5 : P2 ≠ dC) : ∀ (d j n : Nat) (M : Mem) (r : Nat), j + d = 16 → Rdy M0 M dC r → mI M P 9 = w → (∀ i x, (((List.range' j d).filter fun u => bt w u).map g)[i]? = some x → mI M0 dC (r + i) = x) → r + ((List.range' j d).filter fun u => bt w u).length ≤ e → d + 1 ≤ n → ∃ M', f_X6_recallPlace_90 n 114 P (nI j) M = some M' ∧ Rdy M0 M' dC (r + ((List.range' j d).filter fun u => bt w u).length) ∧ (∀ u, j ≤ u → u < 16 → bt w u = true → mI M' P2 u = g u) ∧ (∀ u, u < j → mI M' P2 u = mI M P2 u) ∧ (∀ o, o ≠ 114 → o ≠ P2 → ∀ b, mI M' o b = mI M o b) ∧ (∀ b, b ≠ 7 → mI M' 114 b = mI M 114 b) ∧ (∀ a b, mL M' a b = mL M a b) := by
  intro d
  induction d with
  | zero =>
    intro j n M r hj y hw hx he hn
    obtain ⟨n, rfl⟩ : ∃ m, n = m + 1 := ⟨n - 1, by omega⟩
    refine ⟨M, ?_, y, fun u a b => by omega, fun _ _ => rfl, fun _ _ _ _ => rfl, fun _ _ => rfl, fun _ _ => rfl⟩
    rw [f_X6_recallPlace_90, if_pos (show (16 : Int32) ≤ nI j from nI_le (a := 16) (by omega) (by omega))]
  | succ d ih =>
    intro j n M r hj y hw hx he hn
    obtain ⟨n, rfl⟩ : ∃ m, n = m + 1 := ⟨n - 1, by omega⟩
    rw [List.range'_succ, List.filter_cons] at hx he ⊢
    have io : ∀ {M : Mem} {r : Nat}, Rdy M0 M dC r → ∀ c o, isO M0 c o → isO M c o := fun y c o z => by
      unfold isO mN mC at *
      rw [y.1]; exact z
    have hd : ∀ z : Option Mem, (if (if bt w j = true then (1 : Int32) else 0) = 0 then f_X6_recallPlace_90 n 114 P (nI (j + 1)) M else obd2 (f_X6_pull 114 M) fun r15 M16 => chk (isO M16 100 P2) <| chk (inB (nI j) (mLn M16 P2)) <| bnd (sI M16 P2 (nI j).toNatClampNeg r15) fun M19 => f_X6_recallPlace_90 n 114 P (nI (j + 1)) M19) = z → f_X6_recallPlace_90 (n + 1) 114 P (nI j) M = z := by
      intro z hz
      rw [f_X6_recallPlace_90, if_neg (show ¬ (16 : Int32) ≤ nI j from nI_ge (a := j) (b := 16) (by omega) (by decide)), chk_t (io y 4 P hp), hw, f_has9 _ (by omega), obd_s, nI_1, bnd_e, show mR M P 10 = P2 by unfold mR; rw [y.1]; exact h10, bnd_e, chk_t (io y 100 P2 h2), chk_t (io y 6 114 sx.1)]
      simp only [bnd_e]
      simp only [bnd_e] at hz
      exact hz
    by_cases z : bt w j = true
    · rw [if_pos z] at hx he ⊢
      rw [List.length_cons] at he ⊢
      rw [List.map_cons] at hx
      have hx0 : mI M0 dC r = g j := hx 0 (g j) rfl
      obtain ⟨M1, y1, e1, w1, a1, a2, a3, a4, a5⟩ := y.pw (k := j) sx c (by omega) n2 n5 hx0
      obtain ⟨M2, e2, y2, b1, b2, b3, b4, b5⟩ := ih (j + 1) n M1 (r + 1) (by omega) y1 (by rw [a3 P n1 n3]; exact hw) (fun i x hi => by
        have := hx (i + 1) x hi
        rw [show r + 1 + i = r + (i + 1) by omega]; exact this) (by omega) (by omega)
      refine ⟨M2, hd _ ?_, by rw [show r + (((List.range' (j + 1) d).filter fun u => bt w u).length + 1) = r + 1 + ((List.range' (j + 1) d).filter fun u => bt w u).length by omega]; exact y2, fun u u1 u2 u3 => ?_, fun u hu => ?_, fun o o1 o2 b => by rw [b3 o o1 o2, a3 o o1 o2], fun b n => by rw [b4 b n, a4 b n], fun a b => by rw [b5, a5]⟩
      · have i16 : isO (sI M 114 7 (nI (r + 1))) 100 P2 := io y 100 P2 h2
        have l16 : mLn (sI M 114 7 (nI (r + 1))) P2 = 16 := by
          have : mLn M P2 = 16 := by unfold mLn; rw [y.1]; exact hl2
          exact this
        rw [if_pos z, if_neg ne10, e1, obd2_s, chk_t i16, l16, chk_t (inB_n (by omega) (by decide)), sI_c (by omega), w1, bnd_e, e2]
      · by_cases v : u = j
        · rw [v, b2 j (by omega), a1]
        · exact b1 u (by omega) u2 u3
      · rw [b2 u (by omega), a2 u (by omega)]
    · rw [if_neg z] at hx he ⊢
      obtain ⟨M2, e2, y2, b1, b2, b3, b4, b5⟩ := ih (j + 1) n M r (by omega) y hw hx he (by omega)
      refine ⟨M2, hd _ ?_, y2, fun u u1 u2 u3 => ?_, fun u hu => b2 u (by omega), b3, b4, b5⟩
      · rw [if_neg z, if_pos rfl, e2]
      · exact b1 u (by
          by_cases v : u = j
          · rw [v] at u3; exact absurd u3 z
          · omega) u2 u3
/-! ===== the class takes up a place ===== -/
/-- the hall, the rows of its letters and how far was read alone have changed -/
def FrUp (M M' : Mem) : Prop := mN M ≤ mN M' ∧ (∀ i, i < mN M → M'.1.2.1 i = M.1.2.1 i) ∧ (∀ a b, a < mN M → ¬ (a = 64 ∧ 5 ≤ b ∧ b ≤ 7) → mR M' a b = mR M a b) ∧ (∀ o, o < mN M → ¬ (63 ≤ o ∧ o < 112) → o ≠ 114 → o ≠ mR M 64 5 → o ≠ mR M 64 6 → o ≠ mR M 64 7 → ∀ b, mI M' o b = mI M o b) ∧ (∀ b, b ≠ 7 → mI M' 114 b = mI M 114 b) ∧ (∀ o, o < mN M → ∀ b, mL M' o b = mL M o b) ∧ (∀ j, 5 ≤ j → j ≤ 7 → mR M' 64 j = mR M 64 j ∨ mN M ≤ mR M' 64 j)
theorem FrUp.rf (M : Mem) : FrUp M M := ⟨Nat.le_refl _, fun _ _ => rfl, fun _ _ _ _ => rfl, fun _ _ _ _ _ _ _ _ => rfl, fun _ _ => rfl, fun _ _ _ => rfl, fun _ _ _ => Or.inl rfl⟩
theorem FrUp.tr {M M' M'' : Mem} (p : FrUp M M') (p' : FrUp M' M'') : FrUp M M'' := by
  obtain ⟨a1, a2, a3, a4, a7, a5, a6⟩ := p
  obtain ⟨b1, b2, b3, b4, b7, b5, b6⟩ := p'
  refine ⟨Nat.le_trans a1 b1, fun i hi => (b2 i (by omega)).trans (a2 i hi), fun a b ha hn => (b3 a b (by omega) hn).trans (a3 a b ha hn), fun o ho h1 h2 h5 h6 h7 b => ?_, fun b n => (b7 b n).trans (a7 b n), fun o ho b => (b5 o (by omega) b).trans (a5 o ho b), fun j h5 h7 => ?_⟩
  · have n5 : o ≠ mR M' 64 5 := by rcases a6 5 (by decide) (by decide) with e | e <;> omega
    have n6 : o ≠ mR M' 64 6 := by rcases a6 6 (by decide) (by decide) with e | e <;> omega
    have n7 : o ≠ mR M' 64 7 := by rcases a6 7 (by decide) (by decide) with e | e <;> omega
    exact (b4 o (by omega) h1 h2 n5 n6 n7 b).trans (a4 o ho h1 h2 h5 h6 h7 b)
  · rcases b6 j h5 h7 with e | e
    · rcases a6 j h5 h7 with e2 | e2
      · exact Or.inl (e.trans e2)
      · exact Or.inr (by omega)
    · exact Or.inr (by omega)
theorem FrUp.of {M M' : Mem} (e : M'.1 = M.1) (hI : ∀ o, ¬ (63 ≤ o ∧ o < 112) → o ≠ 114 → ∀ b, mI M' o b = mI M o b) (h4 : ∀ b, b ≠ 7 → mI M' 114 b = mI M 114 b) (hL : ∀ o b, mL M' o b = mL M o b) : FrUp M M' :=
  ⟨by unfold mN; rw [e]; exact Nat.le_refl _, fun i _ => by rw [e], fun a b _ _ => by unfold mR; rw [e], fun o _ n1 n2 _ _ _ b => hI o n1 n2 b, h4, fun o _ b => hL o b, fun j _ _ => Or.inl (by unfold mR; rw [e])⟩
theorem FrH.up {M M' : Mem} (f : FrH M M' 63) (hN : 131 ≤ mN M) (hR : ∀ i, 5 ≤ i → i ≤ 7 → mR M 64 i = 63 + 2 + i ∨ 131 ≤ mR M 64 i) : FrUp M M' := by
  obtain ⟨f1, f2, f3, f4, f5, f6⟩ := f
  have r5 := hR 5 (by decide) (by decide)
  have r6 := hR 6 (by decide) (by decide)
  have r7 := hR 7 (by decide) (by decide)
  refine ⟨f1, f2, f3, fun o ho n1 _ n5 n6 n7 b => f4 o ho (by omega) n5 n6 n7 b, fun b _ => f4 114 (by omega) (by omega) ?_ ?_ ?_ b, f5, f6⟩
  · show 114 ≠ mR M 64 5; omega
  · show 114 ≠ mR M 64 6; omega
  · show 114 ≠ mR M 64 7; omega
theorem SX.up {M M' : Mem} (x : SX M) (f : FrUp M M') : SX M' := by
  obtain ⟨⟨i1, i2⟩, ⟨r0, r1, r2, r3, r4⟩, ⟨j1, j2, j3, j4⟩, ⟨l1, l2, l3, l4⟩, hN⟩ := x
  obtain ⟨f1, f2, f3, _⟩ := f
  have io : ∀ c o, isO M c o → isO M' c o := fun c o z => ⟨by have := z.1; omega, by rw [mC, f2 o z.1]; exact z.2⟩
  have ln : ∀ o, o < 131 → mLn M' o = mLn M o := fun o ho => by rw [mLn, f2 o (by omega)]; rfl
  refine ⟨io _ _ ⟨i1, i2⟩, ⟨?_, ?_, ?_, ?_, ?_⟩, ⟨io _ _ j1, io _ _ j2, io _ _ j3, io _ _ j4⟩, ⟨?_, ?_, ?_, ?_⟩, by omega⟩
  · rw [f3 114 0 i1 (by decide)]; exact r0
  · rw [f3 114 1 i1 (by decide)]; exact r1
  · rw [f3 114 2 i1 (by decide)]; exact r2
  · rw [f3 114 3 i1 (by decide)]; exact r3
  · rw [f3 114 4 i1 (by decide)]; exact r4
  · rw [ln 115 (by decide)]; exact l1
  · rw [ln 116 (by decide)]; exact l2
  · rw [ln 117 (by decide)]; exact l3
  · rw [ln 118 (by decide)]; exact l4
theorem CL.up {M M' : Mem} {dC L e : Nat} (c : CL M dC L e) (hN : 131 ≤ mN M) (f : FrUp M M') : CL M' dC L e ∧ ∀ b, mI M' dC b = mI M dC b := by
  obtain ⟨c1, c2, c3, c4, c5, c6, c7, c8, c9, c10, c11⟩ := c
  obtain ⟨f1, f2, f3, f4, f5, f6, f7⟩ := f
  have hlt := c2.1
  have g5 := f7 5 (by decide) (by decide)
  have g6 := f7 6 (by decide) (by decide)
  have g7 := f7 7 (by decide) (by decide)
  refine ⟨⟨?_, ⟨by omega, by rw [mC, f2 dC hlt]; exact c2.2⟩, by rw [mLn, f2 dC hlt]; exact c3, c4, by rw [f5 6 (by decide)]; exact c5, c6, c7, c8, ?_, ?_, ?_⟩, f4 dC hlt (by omega) (by omega) c9 c10 c11⟩
  · rw [f3 114 5 (by omega) (by omega)]; exact c1
  · clear g6 g7 c4; rcases g5 with z | z <;> omega
  · clear g5 g7 c4; rcases g6 with z | z <;> omega
  · clear g5 g6 c4; rcases g7 with z | z <;> omega
theorem PV.fr4 {M M' : Mem} {t : Int32} {S S' : St} (p : PV M 63 t S) (e : M'.1 = M.1) (hI : ∀ o, o ≠ 114 → ¬ (o = 63 ∨ (80 ≤ o ∧ o < 112)) → ∀ b, mI M' o b = mI M o b) (hL : xL S' = xL S) (h16 : xR S' 16 = xR S 16) : PV M' 63 t S' := by
  obtain ⟨d5, d6, d7, len, K, fr, us, ow, w, hK⟩ := p
  obtain ⟨_, _, _, y5, y6, y7, _⟩ := id w.1
  have hl := w.2.2.2.2.2.2.2.2.2.1
  refine ⟨d5, d6, d7, len, K, fr, us, ow, ?_, fun l hl => by rw [hL]; exact hK l hl⟩
  rw [h16]
  exact w.cg (w.1.e e) (Nat.le_refl _) hl.2.2.2.1 (fun i a b k => hI _ (by omega) (by omega) k) (fun k _ => hI d5 (by omega) (by omega) k) (fun k _ => hI d6 (by omega) (by omega) k) (fun k _ => hI d7 (by omega) (by omega) k)
theorem HV.at4 {M M' : Mem} {X Y N : Nat} {t : Int32} {Q : Nat → Int32} {S S' : St} {pb pt : List Row4} (p : HV M 63 X Y t N Q S pb pt) (e : M'.1 = M.1) (hI : ∀ o, o ≠ 114 → ¬ (o = 63 ∨ (80 ≤ o ∧ o < 112)) → ∀ b, mI M' o b = mI M o b) (hp : HP M' 63 S') (hL : xL S' = xL S) (h16 : xR S' 16 = xR S 16) (hE : xE S' = xE S) (hT : xT S' = xT S) : HV M' 63 X Y t N Q S' pb pt := by
  obtain ⟨q, p, _, rm, ⟨lb, lt⟩, hN, hQ⟩ := p
  have hq := q.2.2.2.2
  refine ⟨q.e e, p.fr4 e hI hL h16, hp, ?_, ⟨?_, ?_⟩, ?_, fun v hv => ?_⟩
  · unfold Rm mN mU mLn mR at rm ⊢
    rw [e]; exact rm
  · rw [hE]; exact lb.cg (hI _ (by omega) (by omega)) (hI _ (by omega) (by omega))
  · rw [hT]; exact lt.cg (hI _ (by omega) (by omega)) (hI _ (by omega) (by omega))
  · rw [hI 1 (by omega) (by omega)]; exact hN
  · rw [hI _ (by omega) (by omega)]; exact hQ v hv
def upP (S T : St) (v : Nat) : St := (fun k i => if i = v ∧ (1 ≤ k ∧ k ≤ 6 ∨ 8 ≤ k ∧ k ≤ 10) then xR T k i else xR S k i, up1 (xW S) v (xW T v), S.2.2)
theorem upP_R (S T : St) (v k i : Nat) : xR (upP S T v) k i = if i = v ∧ (1 ≤ k ∧ k ≤ 6 ∨ 8 ≤ k ∧ k ≤ 10) then xR T k i else xR S k i := rfl
theorem upP_W (S T : St) (v a : Nat) : xW (upP S T v) a = if a = v then xW T v else xW S a := rfl
theorem nd_fst : ∀ {l : List Wtr}, (l.map Prod.fst).Nodup → ∀ w w', w ∈ l → w' ∈ l → w.1 = w'.1 → w = w' := by
  intro l
  induction l with
  | nil => intro _ w w' h; cases h
  | cons x l ih =>
    intro h w w' hw hw' e
    rw [List.map_cons, List.nodup_cons] at h
    rcases List.mem_cons.mp hw with a | a
    · rcases List.mem_cons.mp hw' with b | b
      · rw [a, b]
      · exact absurd (List.mem_map.mpr ⟨w', b, by rw [← e, a]⟩) h.1
    · rcases List.mem_cons.mp hw' with b | b
      · exact absurd (List.mem_map.mpr ⟨w, a, by rw [e, b]⟩) h.1
      · exact ih h.2 w w' a b e
section
variable {X0 Y0 N : Nat} {t : Int32} {Q : Nat → Int32} {S T : St} {pb pt : List Row4} {M : Mem} {e dC : Nat}
set_option maxHeartbeats 2000000 in
theorem SV.rplace (h : SV X0 Y0 t N Q pb pt S M e dC) {r v n : Nat} (h7 : mI M 114 7 = nI r) (hv : v < 16) (hc : ∀ i x, (serP T v)[i]? = some x → mI M dC (r + i) = x) (he : r + (serP T v).length ≤ e) (hw : ∀ w, w ∈ xW T v → w.1 < 16) (hnd : ((xW T v).map Prod.fst).Nodup) (h10 : xR T 10 v = 0 ∨ xR T 10 v = 1) (hn : 20 ≤ n) : ∃ M', f_X6_recallPlace n 114 (63 + 17 + 2 * v) M = some M' ∧ SV X0 Y0 t N Q pb pt (upP S T v) M' e dC ∧ mI M' 114 7 = nI (r + (serP T v).length) ∧ FrUp M M' := by
  obtain ⟨L, sx, c, p⟩ := h
  have q := p.1
  have n2 : 63 + 17 + 2 * v ≠ dC := by have := c.2.2.2.1; omega
  have n4 : 63 + 18 + 2 * v ≠ dC := by have := c.2.2.2.1; omega
  have hlen : (serP T v).length = 10 + ((List.range' 0 16).filter fun u => bt (wms T v) u).length := by
    unfold serP ms
    rw [List.length_append, List.length_map, List.range_eq_range']
    rfl
  rw [hlen] at he
  have iP : isO M 4 (63 + 17 + 2 * v) := by
    have : ∀ v, v < 16 → (tC.getD (14 + (17 + 2 * v)) (0, 0)).1 = 4 := by decide
    have z := q.io (i := 17 + 2 * v) (by omega) (by omega) (this v hv)
    rwa [← Nat.add_assoc] at z
  have iA : isO M 100 (63 + 18 + 2 * v) := by
    have : ∀ v, v < 16 → (tC.getD (14 + (18 + 2 * v)) (0, 0)).1 = 100 := by decide
    have z := q.io (i := 18 + 2 * v) (by omega) (by omega) (this v hv)
    rwa [← Nat.add_assoc] at z
  have lA : mLn M (63 + 18 + 2 * v) = 16 := by
    have : ∀ v, v < 16 → (tC.getD (14 + (18 + 2 * v)) (0, 0)).2 = 16 := by decide
    have z := q.ln (i := 18 + 2 * v) (by omega) (by omega) (this v hv)
    rwa [← Nat.add_assoc] at z
  have y0 : Rdy M M dC r := ⟨rfl, rfl, fun _ => rfl, h7⟩
  have io : ∀ {M' : Mem}, M'.1 = M.1 → ∀ (x : Nat) (z : Int32), isO (sI M' 114 x z) 4 (63 + 17 + 2 * v) := fun {M'} s x z => by
    have : isO M' 4 (63 + 17 + 2 * v) := by
      unfold isO mN mC at *
      rw [s]; exact iP
    exact this
  have ix : ∀ {M' : Mem}, M'.1 = M.1 → isO M' 6 114 := fun s => (sx.e s).1
  have x0 : mI M dC (r + 0) = xR T 1 v := hc 0 _ rfl
  obtain ⟨M1, y1, e1, w1, a1, b1, c1, d1, l1⟩ := y0.pw (P := 63 + 17 + 2 * v) (k := 0) sx c (by omega) (by omega) n2 x0
  have x1 : mI M dC (r + 1) = xR T 2 v := hc 1 _ rfl
  obtain ⟨M2, y2, e2, w2, a2, b2, c2, d2, l2⟩ := y1.pw (P := 63 + 17 + 2 * v) (k := 1) sx c (by omega) (by omega) n2 x1
  have x2 : mI M dC (r + 2) = xR T 3 v := hc 2 _ rfl
  obtain ⟨M3, y3, e3, w3, a3, b3, c3, d3, l3⟩ := y2.pw (P := 63 + 17 + 2 * v) (k := 2) sx c (by omega) (by omega) n2 x2
  have x3 : mI M dC (r + 3) = xR T 4 v := hc 3 _ rfl
  obtain ⟨M4, y4, e4, w4, a4, b4, c4, d4, l4⟩ := y3.pw (P := 63 + 17 + 2 * v) (k := 3) sx c (by omega) (by omega) n2 x3
  have x4 : mI M dC (r + 4) = xR T 5 v := hc 4 _ rfl
  obtain ⟨M5, y5, e5, w5, a5, b5, c5, d5, l5⟩ := y4.pw (P := 63 + 17 + 2 * v) (k := 4) sx c (by omega) (by omega) n2 x4
  have x5 : mI M dC (r + 5) = xR T 6 v := hc 5 _ rfl
  obtain ⟨M6, y6, e6, w6, a6, b6, c6, d6, l6⟩ := y5.pw (P := 63 + 17 + 2 * v) (k := 5) sx c (by omega) (by omega) n2 x5
  have x6 : mI M dC (r + 6) = xR T 8 v := hc 6 _ rfl
  obtain ⟨M7, y7, e7, w7, a7, b7, c7, d7, l7⟩ := y6.pw (P := 63 + 17 + 2 * v) (k := 6) sx c (by omega) (by omega) n2 x6
  have x7 : mI M dC (r + 7) = (if xR T 8 v = -1 then -1 else xR T 9 v) := hc 7 _ rfl
  obtain ⟨M8, y8, e8, w8, a8, b8, c8, d8, l8⟩ := y7.pw (P := 63 + 17 + 2 * v) (k := 7) sx c (by omega) (by omega) n2 x7
  have x8 : mI M dC (r + 8) = xR T 10 v := hc 8 _ rfl
  obtain ⟨M9, y9, e9, w9, a9, b9, c9, d9, l9⟩ := y8.pw (P := 63 + 17 + 2 * v) (k := 8) sx c (by omega) (by omega) n2 x8
  have x9 : mI M dC (r + 9) = wms T v := hc 9 _ rfl
  obtain ⟨M10, y10, e10, w10, a10, b10, c10, d10, l10⟩ := y9.pw (P := 63 + 17 + 2 * v) (k := 9) sx c (by omega) (by omega) n2 x9
  have z9 : mI M10 (63 + 17 + 2 * v) 9 = wms T v := a10
  obtain ⟨M', e11, y11, a11, b11, c11, d11, l11⟩ := rp_l (M0 := M) (g := wst T v) (w := wms T v) sx c iP (cs_pr q hv) iA lA (by omega) (by omega) (by omega) n4 16 0 n M10 (r + 10) rfl y10 z9 (fun i x hi => by
    have := hc (10 + i) x (by
      unfold serP ms
      rw [List.range_eq_range', List.getElem?_append_right (by show 10 ≤ 10 + i; omega)]
      show (List.map _ _)[10 + i - 10]? = _
      rw [show 10 + i - 10 = i by omega]; exact hi)
    rw [Nat.add_assoc]; exact this) (by omega) (by omega)
  have kP : ∀ b, mI M' (63 + 17 + 2 * v) b = mI M10 (63 + 17 + 2 * v) b := fun b => c11 _ (by omega) (by omega) b
  have V0 : mI M' (63 + 17 + 2 * v) 0 = xR T 1 v := by rw [kP, b10 _ (by decide), b9 _ (by decide), b8 _ (by decide), b7 _ (by decide), b6 _ (by decide), b5 _ (by decide), b4 _ (by decide), b3 _ (by decide), b2 _ (by decide)]; exact a1
  have V1 : mI M' (63 + 17 + 2 * v) 1 = xR T 2 v := by rw [kP, b10 _ (by decide), b9 _ (by decide), b8 _ (by decide), b7 _ (by decide), b6 _ (by decide), b5 _ (by decide), b4 _ (by decide), b3 _ (by decide)]; exact a2
  have V2 : mI M' (63 + 17 + 2 * v) 2 = xR T 3 v := by rw [kP, b10 _ (by decide), b9 _ (by decide), b8 _ (by decide), b7 _ (by decide), b6 _ (by decide), b5 _ (by decide), b4 _ (by decide)]; exact a3
  have V3 : mI M' (63 + 17 + 2 * v) 3 = xR T 4 v := by rw [kP, b10 _ (by decide), b9 _ (by decide), b8 _ (by decide), b7 _ (by decide), b6 _ (by decide), b5 _ (by decide)]; exact a4
  have V4' : mI M' (63 + 17 + 2 * v) 4 = xR T 5 v := by rw [kP, b10 _ (by decide), b9 _ (by decide), b8 _ (by decide), b7 _ (by decide), b6 _ (by decide)]; exact a5
  have V5 : mI M' (63 + 17 + 2 * v) 5 = xR T 6 v := by rw [kP, b10 _ (by decide), b9 _ (by decide), b8 _ (by decide), b7 _ (by decide)]; exact a6
  have V6 : mI M' (63 + 17 + 2 * v) 6 = xR T 8 v := by rw [kP, b10 _ (by decide), b9 _ (by decide), b8 _ (by decide)]; exact a7
  have V7 : mI M' (63 + 17 + 2 * v) 7 = (if xR T 8 v = -1 then -1 else xR T 9 v) := by rw [kP, b10 _ (by decide), b9 _ (by decide)]; exact a8
  have V8 : mI M' (63 + 17 + 2 * v) 8 = xR T 10 v := by rw [kP, b10 _ (by decide)]; exact a9
  have V9 : mI M' (63 + 17 + 2 * v) 9 = wms T v := by rw [kP]; exact a10
  have Vh : ∀ b, 10 ≤ b → mI M' (63 + 17 + 2 * v) b = mI M (63 + 17 + 2 * v) b := fun b hb => by rw [kP, b10 _ (by omega), b9 _ (by omega), b8 _ (by omega), b7 _ (by omega), b6 _ (by omega), b5 _ (by omega), b4 _ (by omega), b3 _ (by omega), b2 _ (by omega), b1 _ (by omega)]
  have Vo : ∀ o, o ≠ 114 → o ≠ 63 + 17 + 2 * v → o ≠ 63 + 18 + 2 * v → ∀ b, mI M' o b = mI M o b := fun o n1 nP nA b => by rw [c11 o n1 nA, c10 _ n1 nP, c9 _ n1 nP, c8 _ n1 nP, c7 _ n1 nP, c6 _ n1 nP, c5 _ n1 nP, c4 _ n1 nP, c3 _ n1 nP, c2 _ n1 nP, c1 _ n1 nP]
  have V4 : ∀ b, b ≠ 7 → mI M' 114 b = mI M 114 b := fun b n => by rw [d11 b n, d10 _ n, d9 _ n, d8 _ n, d7 _ n, d6 _ n, d5 _ n, d4 _ n, d3 _ n, d2 _ n, d1 _ n]
  have VL : ∀ o b, mL M' o b = mL M o b := fun o b => by rw [l11, l10, l9, l8, l7, l6, l5, l4, l3, l2, l1]
  have hf : FrUp M M' := FrUp.of y11.1 (fun o n1 n2 b => Vo o n2 (by omega) (by omega) b) V4 VL
  have hp : HP M' 63 (upP S T v) := by
    obtain ⟨g1, g2, g3, g4, g5⟩ := p.2.2.1.1 v hv
    have rS : ∀ k, ¬ (1 ≤ k ∧ k ≤ 6 ∨ 8 ≤ k ∧ k ≤ 10) → xR (upP S T v) k v = xR S k v := fun k n => by rw [upP_R, if_neg (fun z => n z.2)]
    have rT : ∀ k, (1 ≤ k ∧ k ≤ 6 ∨ 8 ≤ k ∧ k ≤ 10) → xR (upP S T v) k v = xR T k v := fun k n => by rw [upP_R, if_pos ⟨rfl, n⟩]
    have wE : xW (upP S T v) v = xW T v := by rw [upP_W, if_pos rfl]
    refine p.2.2.1.at (v := v) ⟨fun z hz => ?_, ?_, fun z => ?_, fun u hu => ?_, fun w hw' => ?_⟩ (fun o ho nP nA b => Vo o (by omega) nP nA b) (fun k i n _ _ _ => by rw [upP_R, if_neg (fun z => n z.1)]) (rS 0 (by decide)) (rS 7 (by decide)) (by funext i; rw [upP_R, if_neg (fun z => absurd z.2 (by decide))]) (fun a n => by rw [upP_W, if_neg n])
    · have cs : ∀ z, z ∈ ft → z = (0, 1) ∨ z = (1, 2) ∨ z = (2, 3) ∨ z = (3, 4) ∨ z = (4, 5) ∨ z = (5, 6) ∨ z = (6, 8) ∨ z = (8, 10) ∨ (10 ≤ z.1 ∧ 12 ≤ z.2) := by decide
      have gz := g1 z hz
      rcases cs z hz with y | y | y | y | y | y | y | y | y
      · rw [y]; exact V0.trans (rT 1 (by decide)).symm
      · rw [y]; exact V1.trans (rT 2 (by decide)).symm
      · rw [y]; exact V2.trans (rT 3 (by decide)).symm
      · rw [y]; exact V3.trans (rT 4 (by decide)).symm
      · rw [y]; exact V4'.trans (rT 5 (by decide)).symm
      · rw [y]; exact V5.trans (rT 6 (by decide)).symm
      · rw [y]; exact V6.trans (rT 8 (by decide)).symm
      · rw [y]; exact V8.trans (rT 10 (by decide)).symm
      · rw [Vh _ y.1, rS _ (by omega)]; exact gz
    · rw [V7, rT 8 (by decide), rT 9 (by decide)]
    · rw [Vh _ (by decide), rS 14 (by decide)]
      exact g3 (by rw [← rS 0 (by decide)]; exact z)
    · rw [V9, wE, wms_b hu hw]
    · rw [wE] at hw'
      have h16 := hw w hw'
      have hm : bt (wms T v) w.1 = true := by
        rw [wms_b (by omega) hw]
        exact decide_eq_true (List.mem_map.mpr ⟨w, hw', rfl⟩)
      rw [a11 w.1 (Nat.zero_le _) h16 hm]
      obtain ⟨w', m1, m2, m3⟩ := wst_e (List.mem_map.mpr ⟨w, hw', rfl⟩)
      rw [m3, nd_fst hnd w' w m1 hw' m2]
  refine ⟨M', ?_, ⟨L, sx.e y11.1, c.e y11.1 y11.2.1, p.at4 y11.1 (fun o n1 n b => Vo o n1 (by omega) (by omega) b) hp rfl ?_ rfl rfl⟩, by rw [hlen, ← Nat.add_assoc]; exact y11.2.2.2, hf⟩
  · have f77 : ∀ u, u = xR T 10 v → bz u → f_X6_recallPlace_77 n 114 (63 + 17 + 2 * v) u (63 + 17 + 2 * v) (sI M8 114 7 (nI (r + 8 + 1))) = some M' := by
      intro u hu hb
      rw [f_X6_recallPlace_77, chk_t (io y8.1 _ _), chk_t hb, hu, w9, bnd_e, chk_t (ix y9.1), e10, obd2_s, chk_t (io y9.1 _ _), w10, bnd_e]
      exact e11
    rw [f_X6_recallPlace, chk_t (ix rfl), e1, obd2_s, chk_t (io rfl _ _), w1, bnd_e, chk_t (ix y1.1), e2, obd2_s, chk_t (io y1.1 _ _), w2, bnd_e, chk_t (ix y2.1), e3, obd2_s, chk_t (io y2.1 _ _), w3, bnd_e, chk_t (ix y3.1), e4, obd2_s, chk_t (io y3.1 _ _), w4, bnd_e, chk_t (ix y4.1), e5, obd2_s, chk_t (io y4.1 _ _), w5, bnd_e, chk_t (ix y5.1), e6, obd2_s, chk_t (io y5.1 _ _), w6, bnd_e, chk_t (ix y6.1), e7, obd2_s, chk_t (io y6.1 _ _), w7, bnd_e, chk_t (ix y7.1), e8, obd2_s, chk_t (io y7.1 _ _), w8, bnd_e, chk_t (ix y8.1), e9, obd2_s]
    rcases h10 with z | z
    · rw [if_pos z]; exact f77 0 z.symm (by decide)
    · rw [if_neg (by rw [z]; decide)]; exact f77 1 z.symm (by decide)
  · funext i
    rw [upP_R, if_neg (fun z => absurd z.2 (by decide))]
end
/-! ===== the class takes up the lanes ===== -/
def wn (t : Int32) (x : Ltr) : Ltr := (x.1, x.2.1, t)
theorem flr_mono {L L' : Nat → List Ltr} : ∀ (n a : Nat), (∀ l, a ≤ l → l < a + n → (L l).length ≤ (L' l).length) → (flr L a n).length ≤ (flr L' a n).length := by
  intro n
  induction n with
  | zero => intro a _; exact Nat.le_refl _
  | succ n ih =>
    intro a h
    rw [flr_len_s, flr_len_s]
    have := ih (a + 1) (fun l h1 h2 => h l (by omega) (by omega))
    have := h a (Nat.le_refl _) (by omega)
    omega
theorem fl_mono {S T : St} (h : ∀ l, l < 256 → (xL S l).length ≤ (xL T l).length) : (fl S).length ≤ (fl T).length := by
  have := flr_mono (L := xL S) (L' := xL T) 256 0 (fun l _ h2 => h l (by omega))
  unfold flr at this
  unfold fl
  rw [List.range_eq_range']
  exact this
/-- the lanes alone, and how many were sent, have changed -/
def QS (S S' : St) : Prop := (∀ k i, k ≠ 16 → xR S' k i = xR S k i) ∧ xW S' = xW S ∧ xE S' = xE S ∧ xT S' = xT S
theorem QS.rf (S : St) : QS S S := ⟨fun _ _ _ => rfl, rfl, rfl, rfl⟩
theorem QS.tr {S S' S'' : St} (h : QS S S') (h' : QS S' S'') : QS S S'' := ⟨fun k i n => (h'.1 k i n).trans (h.1 k i n), h'.2.1.trans h.2.1, h'.2.2.1.trans h.2.2.1, h'.2.2.2.trans h.2.2.2⟩
theorem HV.r57 {M : Mem} {X Y N : Nat} {t : Int32} {Q : Nat → Int32} {S : St} {pb pt : List Row4} (p : HV M 63 X Y t N Q S pb pt) : ∀ i, 5 ≤ i → i ≤ 7 → mR M 64 i = 63 + 2 + i ∨ 131 ≤ mR M 64 i := by
  obtain ⟨a, b, c⟩ := p.2.1.ds
  intro i h5 h7
  rcases (show i = 5 ∨ i = 6 ∨ i = 7 by omega) with rfl | rfl | rfl
  · exact a
  · exact b
  · exact c
theorem HV.rd7 {M : Mem} {X Y N : Nat} {t : Int32} {Q : Nat → Int32} {S : St} {pb pt : List Row4} (p : HV M 63 X Y t N Q S pb pt) (x : Int32) : HV (sI M 114 7 x) 63 X Y t N Q S pb pt :=
  p.at4 rfl (fun o n _ b => mI_o _ _ _ _ _ n) (p.2.2.1.cg (fun o ho b => mI_o _ _ _ _ _ (by omega)) (fun _ _ _ => rfl) rfl) rfl rfl rfl rfl
theorem FrUp.s7 (M : Mem) (x : Int32) : FrUp M (sI M 114 7 x) := FrUp.of rfl (fun o _ n b => mI_o _ _ _ _ _ n) (fun b n => mI_n _ _ _ _ n) (fun _ _ => rfl)
theorem nI_dn (k : Nat) : nI (k + 1) + (-1 : Int32) = nI k := by
  rw [← nI_1, Int32.add_assoc, show (1 : Int32) + -1 = 0 by decide, Int32.add_zero]
section
variable {X0 Y0 N : Nat} {t : Int32} {Q : Nat → Int32} {S T : St} {pb pt : List Row4} {M : Mem} {e dC : Nat}
theorem SV.pull (h : SV X0 Y0 t N Q pb pt S M e dC) {r : Nat} (h7 : mI M 114 7 = nI r) (hr : r < e) {x : Int32} (hx : mI M dC r = x) : ∃ M', f_X6_pull 114 M = some (x, M') ∧ SV X0 Y0 t N Q pb pt S M' e dC ∧ mI M' 114 7 = nI (r + 1) ∧ FrUp M M' ∧ ∀ b, mI M' dC b = mI M dC b := by
  obtain ⟨L, sx, c, p⟩ := h
  have y0 : Rdy M M dC r := ⟨rfl, rfl, fun _ => rfl, h7⟩
  obtain ⟨e1, y1⟩ := y0.p sx c hr
  rw [hx] at e1
  exact ⟨_, e1, ⟨L, sx.e y1.1, c.e y1.1 y1.2.1, p.rd7 _⟩, y1.2.2.2, FrUp.s7 _ _, y1.2.2.1⟩
theorem SV.put (h : SV X0 Y0 t N Q pb pt S M e dC) (hl : (fl S).length < 9000) {k f g : Nat} {s : Int32} (hk : k < 6) (hf : f < 16) (hg : g < 16) : ∃ M', f_X5_put 64 (nI k) (nI f) (nI g) s M = some M' ∧ SV X0 Y0 t N Q pb pt (sn t k f g s S) M' e dC ∧ mI M' 114 7 = mI M 114 7 ∧ FrUp M M' ∧ ∀ b, mI M' dC b = mI M dC b := by
  obtain ⟨L, sx, c, p⟩ := h
  obtain ⟨M', e1, p', f⟩ := p.put hl (s := s) hk hf hg
  have hN := sx.2.2.2.2
  have f' := f.up hN p.r57
  obtain ⟨c', cc⟩ := c.up hN f'
  have r5 := p.r57 5 (by decide) (by decide)
  have r6 := p.r57 6 (by decide) (by decide)
  have r7 := p.r57 7 (by decide) (by decide)
  refine ⟨M', e1, ⟨L, sx.up f', c', p'⟩, f.2.2.2.1 114 (by omega) (by omega) ?_ ?_ ?_ 7, f', cc⟩
  · show 114 ≠ mR M 64 5; omega
  · show 114 ≠ mR M 64 6; omega
  · show 114 ≠ mR M 64 7; omega
set_option maxHeartbeats 1000000 in
theorem rl_l {f g : Nat} (hf : f < 16) (hg : g < 16) (hT : (fl T).length < 9000) : ∀ (xs : List Ltr) (n : Nat) (M : Mem) (S : St) (r : Nat), SV X0 Y0 t N Q pb pt S M e dC → mI M 114 7 = nI r → (∀ i x, (xs.map encC)[i]? = some x → mI M dC (r + i) = x) → r + xs.length ≤ e → (∀ x, x ∈ xs → Lok x) → (∀ l, l < 256 → l ≠ 16 * f + g → (xL S l).length ≤ (xL T l).length) → (xL S (16 * f + g)).length + xs.length ≤ (xL T (16 * f + g)).length → xs.length < 2 ^ 31 → xs.length + 1 ≤ n → ∃ M' S', f_X6_recallLane_5 n 114 (nI f) (nI g) (nI xs.length) M = some M' ∧ SV X0 Y0 t N Q pb pt S' M' e dC ∧ mI M' 114 7 = nI (r + xs.length) ∧ FrUp M M' ∧ (∀ b, mI M' dC b = mI M dC b) ∧ QS S S' ∧ (∀ l, xL S' l = if l = 16 * f + g then xL S (16 * f + g) ++ xs.map (wn t) else xL S l) := by
  intro xs
  induction xs with
  | nil =>
    intro n M S r h h7 _ _ _ _ _ _ hn
    obtain ⟨n, rfl⟩ : ∃ m, n = m + 1 := ⟨n - 1, by omega⟩
    refine ⟨M, S, ?_, h, h7, FrUp.rf M, fun _ => rfl, QS.rf S, fun l => ?_⟩
    · rw [f_X6_recallLane_5, if_pos (by show nI 0 ≤ 0; decide)]
    · by_cases z : l = 16 * f + g
      · rw [if_pos z, z, List.map_nil, List.append_nil]
      · rw [if_neg z]
  | cons x xs ih =>
    intro n M S r h h7 hc he hx h1 h2 hs hn
    obtain ⟨n, rfl⟩ : ∃ m, n = m + 1 := ⟨n - 1, by omega⟩
    rw [List.length_cons] at he h2 hs hn
    obtain ⟨⟨k, hk, ek⟩, ⟨s, hsl, es⟩⟩ := hx x (by simp)
    obtain ⟨M1, e1, v1, r1, f1, c1⟩ := h.pull h7 (by omega) (hc 0 (encC x) rfl)
    have hl : (fl S).length < 9000 := by
      have := fl_mono (S := S) (T := T) (fun l hl => by
        by_cases z : l = 16 * f + g
        · rw [z]; omega
        · exact h1 l hl z)
      omega
    obtain ⟨M2, e2, v2, r2, f2, c2⟩ := v1.put hl (k := k) (f := f) (g := g) (s := nI s) hk hf hg
    have kind : encC x &&& (7 : Int32) = nI k := encC_kind (by omega) ek
    have stp : encC x >>> ((3 : Int32) &&& 31) = nI s := encC_stamp (by omega) ek (by omega) es
    obtain ⟨M3, S3, e3, v3, r3, f3, c3, q3, l3⟩ := ih n M2 (sn t k f g (nI s) S) (r + 1) v2 (r2.trans r1) (fun i y hy => by
        have := hc (i + 1) y hy
        rw [c2, c1, show r + 1 + i = r + (i + 1) by omega]; exact this) (by omega) (fun y hy => hx y (List.mem_cons_of_mem _ hy)) (fun l hl z => by rw [sn_L, if_neg z]; exact h1 l hl z) (by rw [sn_L, if_pos rfl, List.length_append]; show _ + 1 + _ ≤ _; omega) (by omega) (by omega)
    refine ⟨M3, S3, ?_, v3, by rw [r3, List.length_cons, show r + 1 + xs.length = r + (xs.length + 1) by omega], f1.tr (f2.tr f3), fun b => by rw [c3, c2, c1], (show QS S (sn t k f g (nI s) S) from ⟨fun a b n => sn_R _ _ _ _ _ _ n, rfl, rfl, rfl⟩).tr q3, fun l => ?_⟩
    · obtain ⟨L, sx, c, p⟩ := id h
      obtain ⟨L1, sx1, cc1, p1⟩ := id v1
      have q1 := p1.1
      rw [f_X6_recallLane_5, List.length_cons, if_neg (show ¬ nI (xs.length + 1) ≤ 0 from (show ¬ nI (xs.length + 1) ≤ nI 0 from nI_ge (by omega) (by omega))), chk_t sx.1, e1, obd2_s, chk_t sx1.1, sx1.2.1.1, bnd_e, cs_f q1, cs_h1 q1, bnd_e, cs_p q1, f_X5_kindOf, kind, obd_s, f_X5_stampOf, stp, obd_s, show f_X5_put (63 + 1) (nI k) (nI f) (nI g) (nI s) M1 = some M2 from e2, obd_s, nI_dn, bnd_e]
      exact e3
    · rw [l3]
      by_cases z : l = 16 * f + g
      · rw [if_pos z, if_pos z, sn_L, if_pos rfl, List.map_cons, List.append_assoc]
        have : wn t x = (nI k, nI s, t) := by unfold wn; rw [ek, es]
        rw [this]; rfl
      · rw [if_neg z, if_neg z, sn_L, if_neg z]
theorem SV.rlane (h : SV X0 Y0 t N Q pb pt S M e dC) {r f g n : Nat} (h7 : mI M 114 7 = nI r) (hf : f < 16) (hg : g < 16) (hT : (fl T).length < 9000) (hc : ∀ i x, (serL T (16 * f + g))[i]? = some x → mI M dC (r + i) = x) (he : r + (serL T (16 * f + g)).length ≤ e) (hx : ∀ x, x ∈ xL T (16 * f + g) → Lok x) (h1 : ∀ l, l < 256 → l ≠ 16 * f + g → (xL S l).length ≤ (xL T l).length) (h2 : xL S (16 * f + g) = []) (hn : 9100 ≤ n) : ∃ M' S', f_X6_recallLane n 114 (nI f) (nI g) M = some M' ∧ SV X0 Y0 t N Q pb pt S' M' e dC ∧ mI M' 114 7 = nI (r + (serL T (16 * f + g)).length) ∧ FrUp M M' ∧ (∀ b, mI M' dC b = mI M dC b) ∧ QS S S' ∧ (∀ l, xL S' l = if l = 16 * f + g then (xL T (16 * f + g)).map (wn t) else xL S l) := by
  have hln := ln_l (S := T) (l := 16 * f + g) (by omega) (by omega)
  have el : (serL T (16 * f + g)).length = (xL T (16 * f + g)).length + 1 := by unfold serL; rw [List.length_cons, List.length_map]
  rw [el] at he ⊢
  obtain ⟨M1, e1, v1, r1, f1, c1⟩ := h.pull h7 (by omega) (hc 0 _ rfl)
  obtain ⟨M3, S3, e3, v3, r3, f3, c3, q3, l3⟩ := rl_l (T := T) hf hg hT (xL T (16 * f + g)) n M1 S (r + 1) v1 r1 (fun i y hy => by
    have := hc (i + 1) y hy
    rw [c1, show r + 1 + i = r + (i + 1) by omega]; exact this) (by omega) hx h1 (by rw [h2, List.length_nil]; omega) (by omega) (by omega)
  refine ⟨M3, S3, ?_, v3, by rw [r3]; congr 1; omega, f1.tr f3, fun b => by rw [c3, c1], q3, fun l => ?_⟩
  · obtain ⟨L, sx, c, p⟩ := id h
    rw [f_X6_recallLane, chk_t sx.1, e1, obd2_s]
    exact e3
  · rw [l3, h2, List.nil_append]
end
/-! ===== the class takes up a kept state, whole ===== -/
theorem gl_lt {α : Type} {l : List α} {i : Nat} {x : α} (h : l[i]? = some x) : i < l.length := by
  rcases Nat.lt_or_ge i l.length with z | z
  · exact z
  · rw [List.getElem?_eq_none z] at h; cases h
def LM (t : Int32) (T S : St) (m : Nat) : Prop := ∀ l, l < 256 → xL S l = if l < m then (xL T l).map (wn t) else []
theorem LM.le {t : Int32} {T S : St} {m : Nat} (h : LM t T S m) {l : Nat} (hl : l < 256) : (xL S l).length ≤ (xL T l).length := by
  rw [h l hl]
  by_cases z : l < m
  · rw [if_pos z, List.length_map]; exact Nat.le_refl _
  · rw [if_neg z]; exact Nat.zero_le _
/-- what taking up T may rest on -/
def Tok (N : Nat) (T : St) : Prop := N ≤ 16 ∧ (fl T).length < 9000 ∧ (∀ l, l < 256 → ¬ (l / 16 < N ∧ l % 16 < N) → xL T l = []) ∧ (∀ l, l < 256 → ∀ x, x ∈ xL T l → Lok x) ∧ (∀ v, v < 16 → (∀ w, w ∈ xW T v → w.1 < 16) ∧ ((xW T v).map Prod.fst).Nodup ∧ (xR T 10 v = 0 ∨ xR T 10 v = 1))
section
variable {X0 Y0 N : Nat} {t : Int32} {Q : Nat → Int32} {T : St} {pb pt : List Row4} {e dC : Nat}
/-- from M with S to M' with S', from r cells on to r' -/
def RR (X0 Y0 : Nat) (t : Int32) (N : Nat) (Q : Nat → Int32) (pb pt : List Row4) (e dC : Nat) (M M' : Mem) (S' : St) (r' : Nat) : Prop := SV X0 Y0 t N Q pb pt S' M' e dC ∧ mI M' 114 7 = nI r' ∧ FrUp M M' ∧ ∀ b, mI M' dC b = mI M dC b
theorem RR.tr {M M1 M2 : Mem} {S1 S2 : St} {r1 r2 : Nat} (h : RR X0 Y0 t N Q pb pt e dC M M1 S1 r1) (h' : RR X0 Y0 t N Q pb pt e dC M1 M2 S2 r2) : RR X0 Y0 t N Q pb pt e dC M M2 S2 r2 :=
  ⟨h'.1, h'.2.1, h.2.2.1.tr h'.2.2.1, fun b => (h'.2.2.2 b).trans (h.2.2.2 b)⟩
theorem rc_101 (ok : Tok N T) (K : Nat → Int32 → Mem → Option Mem) {f : Nat} (hf : f < N) : ∀ (d j n : Nat) (M : Mem) (S : St) (r : Nat), j + d = N → SV X0 Y0 t N Q pb pt S M e dC → mI M 114 7 = nI r → (∀ i x, (serG T f (List.range' j d))[i]? = some x → mI M dC (r + i) = x) → r + (serG T f (List.range' j d)).length ≤ e → LM t T S (16 * f + j) → d + 9110 ≤ n → ∃ M' S', f_X6_recall_101 K n 114 (nI f) (bms T f) (nI j) M = K 114 (nI (f + 1)) M' ∧ RR X0 Y0 t N Q pb pt e dC M M' S' (r + (serG T f (List.range' j d)).length) ∧ QS S S' ∧ LM t T S' (16 * (f + 1)) := by
  obtain ⟨h16, hT, hz, hx, _⟩ := ok
  intro d
  induction d with
  | zero =>
    intro j n M S r hj h h7 hc he lm hn
    obtain ⟨n, rfl⟩ : ∃ m, n = m + 1 := ⟨n - 1, by omega⟩
    obtain ⟨L, sx, c, p⟩ := id h
    have q := p.1
    refine ⟨M, S, ?_, ⟨h, h7, FrUp.rf M, fun _ => rfl⟩, QS.rf S, fun l hl => ?_⟩
    · rw [f_X6_recall_101, chk_t sx.1, sx.2.1.1, bnd_e, cs_f q, cs_h0 q, bnd_e, cs_s q, p.2.2.2.2.2.1, if_pos (nI_le (by omega) (by omega)), nI_1, bnd_e]
    · rw [lm l hl]
      by_cases z : l < 16 * f + j
      · rw [if_pos z, if_pos (by omega)]
      · rw [if_neg z]
        by_cases y : l < 16 * (f + 1)
        · rw [if_pos y, hz l hl (by omega)]; rfl
        · rw [if_neg y]
  | succ d ih =>
    intro j n M S r hj h h7 hc he lm hn
    obtain ⟨n, rfl⟩ : ∃ m, n = m + 1 := ⟨n - 1, by omega⟩
    obtain ⟨L, sx, c, p⟩ := id h
    have q := p.1
    have eG : serG T f (List.range' j (d + 1)) = (if bt (bms T f) j = true then serL T (16 * f + j) else []) ++ serG T f (List.range' (j + 1) d) := by
      unfold serG
      rw [List.range'_succ, List.filter_cons]
      by_cases z : bt (bms T f) j = true
      · rw [if_pos z, if_pos z, List.flatMap_cons]
      · rw [if_neg z, if_neg z]; rfl
    rw [eG] at hc he ⊢
    have hd : ∀ y : Option Mem, (if (if bt (bms T f) j = true then (1 : Int32) else 0) = 0 then f_X6_recall_101 K n 114 (nI f) (bms T f) (nI (j + 1)) M else obd (f_X6_recallLane n 114 (nI f) (nI j) M) fun M19 => f_X6_recall_101 K n 114 (nI f) (bms T f) (nI (j + 1)) M19) = y → f_X6_recall_101 K (n + 1) 114 (nI f) (bms T f) (nI j) M = y := by
      intro y hy
      rw [f_X6_recall_101, chk_t sx.1, sx.2.1.1, bnd_e, cs_f q, cs_h0 q, bnd_e, cs_s q, p.2.2.2.2.2.1, if_neg (nI_ge (by omega) (by omega)), f_has9 _ (by omega), obd_s, nI_1, bnd_e]
      simp only [bnd_e]
      exact hy
    have b := bms_b (S := T) (f := f) (u := j) (by omega)
    by_cases z : bt (bms T f) j = true
    · rw [if_pos z] at hc he ⊢
      rw [List.length_append] at he ⊢
      obtain ⟨M1, S1, e1, v1, r1, f1, c1, q1, l1⟩ := h.rlane (T := T) (f := f) (g := j) (n := n) h7 (by omega) (by omega) hT (fun i x hi => hc i x (by rw [List.getElem?_append_left (gl_lt hi)]; exact hi)) (by omega) (hx _ (by omega)) (fun l hl _ => lm.le hl) (by rw [lm _ (by omega), if_neg (by omega)]) (by omega)
      obtain ⟨M2, S2, e2, w2, q2, l2⟩ := ih (j + 1) n M1 S1 _ (by omega) v1 r1 (fun i x hi => by
        have := hc ((serL T (16 * f + j)).length + i) x (by rw [List.getElem?_append_right (by omega), Nat.add_sub_cancel_left]; exact hi)
        rw [c1, Nat.add_assoc]; exact this) (by omega) (fun l hl => by
        rw [l1]
        by_cases y : l = 16 * f + j
        · rw [if_pos y, if_pos (by omega), y]
        · rw [if_neg y, lm l hl]
          by_cases x : l < 16 * f + j
          · rw [if_pos x, if_pos (by omega)]
          · rw [if_neg x, if_neg (by omega)]) (by omega)
      refine ⟨M2, S2, hd _ ?_, by rw [← Nat.add_assoc]; exact RR.tr ⟨v1, r1, f1, c1⟩ w2, q1.tr q2, l2⟩
      rw [if_pos z, if_neg ne10, e1, obd_s, e2]
    · rw [if_neg z, List.nil_append] at hc he ⊢
      have ez : xL T (16 * f + j) = [] := by
        by_cases y : xL T (16 * f + j) = []
        · exact y
        · rw [b] at z
          exact absurd (decide_eq_true (⟨by omega, y⟩ : j < 16 ∧ xL T (16 * f + j) ≠ [])) z
      obtain ⟨M2, S2, e2, w2, q2, l2⟩ := ih (j + 1) n M S r (by omega) h h7 hc he (fun l hl => by
        rw [lm l hl]
        by_cases x : l < 16 * f + j
        · rw [if_pos x, if_pos (by omega)]
        · rw [if_neg x]
          by_cases y : l = 16 * f + j
          · rw [if_pos (by omega), y, ez]; rfl
          · rw [if_neg (by omega)]) (by omega)
      refine ⟨M2, S2, hd _ ?_, w2, q2, l2⟩
      rw [if_neg z, if_pos rfl, e2]
theorem rc_79 (ok : Tok N T) : ∀ (d f n : Nat) (M : Mem) (S : St) (r : Nat), f + d = N → SV X0 Y0 t N Q pb pt S M e dC → mI M 114 7 = nI r → (∀ i x, ((List.range' f d).flatMap (serF N T))[i]? = some x → mI M dC (r + i) = x) → r + ((List.range' f d).flatMap (serF N T)).length ≤ e → LM t T S (16 * f) → d + N + 9200 ≤ n → ∃ M' S', f_X6_recall_79 n 114 (nI f) M = some M' ∧ RR X0 Y0 t N Q pb pt e dC M M' S' (r + ((List.range' f d).flatMap (serF N T)).length) ∧ QS S S' ∧ LM t T S' (16 * N) := by
  have h16 := ok.1
  intro d
  induction d with
  | zero =>
    intro f n M S r hj h h7 hc he lm hn
    obtain ⟨n, rfl⟩ : ∃ m, n = m + 1 := ⟨n - 1, by omega⟩
    obtain ⟨L, sx, c, p⟩ := id h
    have q := p.1
    refine ⟨M, S, ?_, ⟨h, h7, FrUp.rf M, fun _ => rfl⟩, QS.rf S, by rw [show N = f by omega]; exact lm⟩
    rw [f_X6_recall_79, chk_t sx.1, sx.2.1.1, bnd_e, cs_f q, cs_h0 q, bnd_e, cs_s q, p.2.2.2.2.2.1, if_pos (nI_le (by omega) (by omega))]
  | succ d ih =>
    intro f n M S r hj h h7 hc he lm hn
    obtain ⟨n, rfl⟩ : ∃ m, n = m + 1 := ⟨n - 1, by omega⟩
    obtain ⟨L, sx, c, p⟩ := id h
    have q := p.1
    rw [List.range'_succ, List.flatMap_cons] at hc he ⊢
    rw [List.length_append] at he ⊢
    have e0 : (serF N T f).length = 1 + (serG T f (List.range' 0 N)).length := by unfold serF; rw [List.length_cons]; omega
    obtain ⟨M1, e1, v1, r1, f1, c1⟩ := h.pull h7 (by omega) (x := bms T f) (hc 0 _ (by unfold serF; rfl))
    obtain ⟨M2, S2, e2, w2, q2, l2⟩ := rc_101 (t := t) (X0 := X0) (Y0 := Y0) (Q := Q) (pb := pb) (pt := pt) (e := e) (dC := dC) ok (f_X6_recall_79 n) (f := f) (by omega) N 0 n M1 S (r + 1) (by omega) v1 r1 (fun i x hi => by
      have := hc (i + 1) x (by
        unfold serF
        rw [List.cons_append, List.getElem?_cons_succ, List.getElem?_append_left (gl_lt hi)]
        exact hi)
      rw [c1, show r + 1 + i = r + (i + 1) by omega]; exact this) (by omega) lm (by omega)
    have w12 : RR X0 Y0 t N Q pb pt e dC M M2 S2 (r + (serF N T f).length) := by
      have := RR.tr ⟨v1, r1, f1, c1⟩ w2
      rw [e0, ← Nat.add_assoc]; exact this
    obtain ⟨M3, S3, e3, w3, q3, l3⟩ := ih (f + 1) n M2 S2 _ (by omega) w12.1 w12.2.1 (fun i x hi => by
      have := hc ((serF N T f).length + i) x (by rw [List.getElem?_append_right (by omega), Nat.add_sub_cancel_left]; exact hi)
      rw [w12.2.2.2, Nat.add_assoc]; exact this) (by omega) l2 (by omega)
    refine ⟨M3, S3, ?_, by rw [← Nat.add_assoc]; exact w12.tr w3, q2.tr q3, l3⟩
    rw [f_X6_recall_79, chk_t sx.1, sx.2.1.1, bnd_e, cs_f q, cs_h0 q, bnd_e, cs_s q, p.2.2.2.2.2.1, if_neg (nI_ge (by omega) (by omega)), e1, obd2_s]
    exact e2.trans e3
/-- the places below v are as T has them -/
def PlM (T S0 S : St) (v : Nat) : Prop := (∀ k i, k ≠ 16 → xR S k i = if i < v ∧ (1 ≤ k ∧ k ≤ 6 ∨ 8 ≤ k ∧ k ≤ 10) then xR T k i else xR S0 k i) ∧ (∀ a, xW S a = if a < v then xW T a else xW S0 a) ∧ xE S = xE S0 ∧ xT S = xT S0
theorem PlM.up {T S0 S : St} {v : Nat} (h : PlM T S0 S v) : PlM T S0 (upP S T v) (v + 1) := by
  obtain ⟨a, b, c, d⟩ := h
  refine ⟨fun k i n => ?_, fun i => ?_, c, d⟩
  · rw [upP_R]
    by_cases z : 1 ≤ k ∧ k ≤ 6 ∨ 8 ≤ k ∧ k ≤ 10
    · by_cases y : i = v
      · rw [if_pos ⟨y, z⟩, if_pos ⟨by omega, z⟩]
      · rw [if_neg (fun x => y x.1), a k i n]
        by_cases x : i < v
        · rw [if_pos ⟨x, z⟩, if_pos ⟨by omega, z⟩]
        · rw [if_neg (fun w => x w.1), if_neg (fun w => by have := w.1; omega)]
    · rw [if_neg (fun x => z x.2), a k i n, if_neg (fun x => z x.2), if_neg (fun x => z x.2)]
  · rw [upP_W]
    by_cases y : i = v
    · rw [if_pos y, if_pos (by omega), y]
    · rw [if_neg y, b i]
      by_cases x : i < v
      · rw [if_pos x, if_pos (by omega)]
      · rw [if_neg x, if_neg (by omega)]
theorem PlM.qs {T S0 S S' : St} {v : Nat} (h : PlM T S0 S v) (q : QS S S') : PlM T S0 S' v := by
  obtain ⟨a, b, c, d⟩ := h
  obtain ⟨q1, q2, q3, q4⟩ := q
  exact ⟨fun k i n => (q1 k i n).trans (a k i n), fun i => (congrFun q2 i).trans (b i), q3.trans c, q4.trans d⟩
theorem rc_34 (ok : Tok N T) {S0 : St} : ∀ (d v n : Nat) (M : Mem) (S : St) (r : Nat), v + d = N → SV X0 Y0 t N Q pb pt S M e dC → mI M 114 7 = nI r → (∀ i x, ((List.range' v d).flatMap (serP T) ++ (List.range' 0 N).flatMap (serF N T))[i]? = some x → mI M dC (r + i) = x) → r + ((List.range' v d).flatMap (serP T)).length + ((List.range' 0 N).flatMap (serF N T)).length ≤ e → PlM T S0 S v → d + 2 * N + 9300 ≤ n → ∃ M' S' r', f_X6_recall_34 n 114 (nI v) M = some M' ∧ RR X0 Y0 t N Q pb pt e dC M M' S' r' ∧ PlM T S0 S' N ∧ LM t T S' (16 * N) := by
  have h16 := ok.1
  intro d
  induction d with
  | zero =>
    intro v n M S r hj h h7 hc he pm hn
    obtain ⟨n, rfl⟩ : ∃ m, n = m + 1 := ⟨n - 1, by omega⟩
    obtain ⟨L, sx, c, p⟩ := id h
    have q := p.1
    obtain ⟨M1, e1, p1, fh⟩ := p.clear (n := n) (by omega)
    have hN := sx.2.2.2.2
    have f1 := fh.up hN p.r57
    obtain ⟨cc1, c1⟩ := c.up hN f1
    have r5 := p.r57 5 (by decide) (by decide)
    have r6 := p.r57 6 (by decide) (by decide)
    have r7 := p.r57 7 (by decide) (by decide)
    have k7 : mI M1 114 7 = nI r := by
      rw [← h7]
      refine fh.2.2.2.1 114 (by omega) (by omega) ?_ ?_ ?_ 7
      · show 114 ≠ mR M 64 5; omega
      · show 114 ≠ mR M 64 6; omega
      · show 114 ≠ mR M 64 7; omega
    have v1 : SV X0 Y0 t N Q pb pt (emL S) M1 e dC := ⟨L, sx.up f1, cc1, p1⟩
    have q0 : QS S (emL S) := ⟨fun _ _ _ => rfl, rfl, rfl, rfl⟩
    obtain ⟨M2, S2, e2, w2, q2, l2⟩ := rc_79 (t := t) (X0 := X0) (Y0 := Y0) (Q := Q) (pb := pb) (pt := pt) (e := e) (dC := dC) ok N 0 n M1 (emL S) r (by omega) v1 k7 (fun i x hi => by rw [c1]; exact hc i x hi) (by have : ((List.range' v 0).flatMap (serP T)).length = 0 := rfl; omega) (fun l _ => by rw [if_neg (by omega)]; rfl) (by omega)
    refine ⟨M2, S2, _, ?_, RR.tr ⟨v1, k7, f1, c1⟩ w2, by rw [show N = v by omega]; exact pm.qs (q0.tr q2), l2⟩
    rw [f_X6_recall_34, chk_t sx.1, sx.2.1.1, bnd_e, cs_f q, cs_h0 q, bnd_e, cs_s q, p.2.2.2.2.2.1, if_pos (nI_le (by omega) (by omega)), bnd_e, cs_f q, cs_h1 q, bnd_e, cs_p q, show f_X5_clearLanes n (63 + 1) M = some M1 from e1, obd_s]
    exact e2
  | succ d ih =>
    intro v n M S r hj h h7 hc he pm hn
    obtain ⟨n, rfl⟩ : ∃ m, n = m + 1 := ⟨n - 1, by omega⟩
    obtain ⟨L, sx, c, p⟩ := id h
    have q := p.1
    rw [List.range'_succ, List.flatMap_cons] at hc he
    rw [List.append_assoc] at hc
    rw [List.length_append] at he
    obtain ⟨w1, w2, w3⟩ := ok.2.2.2.2 v (by omega)
    obtain ⟨M1, e1, v1, r1, f1⟩ := h.rplace (T := T) (v := v) (n := n) h7 (by omega) (fun i x hi => hc i x (by rw [List.getElem?_append_left (gl_lt hi)]; exact hi)) (by omega) w1 w2 w3 (by omega)
    obtain ⟨_, c1⟩ := c.up sx.2.2.2.2 f1
    obtain ⟨M2, S2, r2, e2, w2', pm2, l2⟩ := ih (v + 1) n M1 _ _ (by omega) v1 r1 (fun i x hi => by
      have := hc ((serP T v).length + i) x (by rw [List.getElem?_append_right (by omega), Nat.add_sub_cancel_left]; exact hi)
      rw [c1, Nat.add_assoc]; exact this) (by omega) pm.up (by omega)
    refine ⟨M2, S2, r2, ?_, RR.tr ⟨v1, r1, f1, c1⟩ w2', pm2, l2⟩
    rw [f_X6_recall_34, chk_t sx.1, sx.2.1.1, bnd_e, cs_f q, cs_h0 q, bnd_e, cs_s q, p.2.2.2.2.2.1, if_neg (nI_ge (by omega) (by omega)), bnd_e, cs_f q, cs_h2 q, bnd_e, cs_a10 q, cs_i10 q (by omega), cs_rpc q (by omega), bnd_e, cs_po q (by omega), e1, obd_s, nI_1, bnd_e, e2]
end
/-! ===== taken up, a state is alike the one kept, and as sound ===== -/
theorem run_wn (t : Int32) : ∀ (l : List Ltr) (e : Option Int32), run e (l.map (wn t)) = run e l := by
  intro l
  induction l with
  | nil => intro e; rfl
  | cons x l ih =>
    intro e
    rw [List.map_cons]
    show (if x.1 = nI 0 then (if e = none then run (some x.2.1) (l.map (wn t)) else none) else if x.1 = nI 5 then (if e = some x.2.1 then run none (l.map (wn t)) else none) else run e (l.map (wn t))) = _
    rw [ih, ih, ih]
    rfl
theorem Inv.wn {N A : Nat} {t : Int32} {S T : St} (h : Inv N A T) (h16 : N ≤ 16) (q : Sam T S) (hL : ∀ l, l < 256 → xL S l = (xL T l).map (wn t)) : Inv N A S := by
  refine q.inv h ?_ ?_ ?_
  · intro l hl
    obtain ⟨a, b⟩ := h.2.2.2.2.1 l hl
    rw [hL l hl]
    refine ⟨fun x hx => ?_, fun z => by rw [b z]; rfl⟩
    obtain ⟨y, hy, rfl⟩ := List.mem_map.mp hx
    exact a y hy
  · intro v hv a ha
    rw [q.toe, q.topn, hL _ (by omega), run_wn]
    exact h.2.2.2.2.2.2.1 v hv a ha
  · intro v hv a ha
    rw [hL _ (by omega), hL _ (by omega)]
    obtain ⟨j1, j2, j3⟩ := h.2.2.2.2.2.2.2 v hv a ha
    refine ⟨fun s z => q.z (j1 s (by rw [← q.toe]; exact z)), fun x q1 q2 => ?_, fun x q1 q2 => ?_⟩
    · obtain ⟨y, hy, rfl⟩ := List.mem_map.mp q1
      exact q.z (j2 y hy q2)
    · obtain ⟨y, hy, rfl⟩ := List.mem_map.mp q1
      exact q.z (j3 y hy q2)
theorem HV.ex {M : Mem} {X Y N : Nat} {t : Int32} {Q : Nat → Int32} {S S' : St} {pb pt : List Row4} (p : HV M 63 X Y t N Q S pb pt) (hR : xR S' = xR S) (hW : ∀ a, a < 16 → xW S' a = xW S a) (hL : ∀ l, l < 256 → xL S' l = xL S l) (hE : xE S' = xE S) (hT : xT S' = xT S) : HV M 63 X Y t N Q S' pb pt := by
  obtain ⟨q, ⟨d5, d6, d7, len, K, fr, us, ow, w, hK⟩, ⟨p1, p2⟩, rm, lg, r⟩ := p
  refine ⟨q, ⟨d5, d6, d7, len, K, fr, us, ow, by rw [hR]; exact w, fun l hl => by rw [hL l hl]; exact hK l hl⟩, ⟨fun v hv => ?_, ?_⟩, rm, by rw [hE, hT]; exact lg, r⟩
  · have := p1 v hv
    unfold HPv at this ⊢
    rw [hR, hW v hv]; exact this
  · unfold HG at p2 ⊢
    rw [hR]; exact p2
def upM (S T : St) (w : Nat → Int32) : St := (fun k i => if k = 0 then xR T 0 i else if k = 14 then w i else xR S k i, S.2)
theorem upM_R (S T : St) (w : Nat → Int32) (k i : Nat) : xR (upM S T w) k i = if k = 0 then xR T 0 i else if k = 14 then w i else xR S k i := rfl
/-- what is taken up, of T, over S' -/
def fS (t : Int32) (T S' : St) : St := (xR S', xW T, fun l => (xL T l).map (wn t), xE S', xT S')
section
variable {X0 Y0 N : Nat} {t : Int32} {Q : Nat → Int32} {S T : St} {pb pt : List Row4} {M : Mem} {e dC : Nat}
set_option maxHeartbeats 1000000 in
theorem SV.masks (h : SV X0 Y0 t N Q pb pt S M e dC) {r : Nat} (h7 : mI M 114 7 = nI r) (x0 : mI M dC r = mkS T 2) (x1 : mI M dC (r + 1) = mkS T 1) (he : r + 2 ≤ e) : ∃ M1 M2 w, f_X6_pull 114 M = some (mkS T 2, sI M 114 7 (nI (r + 1))) ∧ sI (sI M 114 7 (nI (r + 1))) 63 7 (mkS T 2) = M1 ∧ M1.1 = M.1 ∧ f_X6_pull 114 M1 = some (mkS T 1, sI M1 114 7 (nI (r + 1 + 1))) ∧ sI (sI M1 114 7 (nI (r + 1 + 1))) 63 8 (mkS T 1) = M2 ∧ RR X0 Y0 t N Q pb pt e dC M M2 (upM S T w) (r + 2) := by
  obtain ⟨L, sx, c, p⟩ := h
  have n2 : 63 ≠ dC := by have := c.2.2.2.1; omega
  have y0 : Rdy M M dC r := ⟨rfl, rfl, fun _ => rfl, h7⟩
  obtain ⟨M1, y1, e1, w1, a1, b1, c1, d1, l1⟩ := y0.pw (P := 63) (k := 7) sx c (by omega) (by decide) n2 x0
  obtain ⟨M2, y2, e2, w2, a2, b2, c2, d2, l2⟩ := y1.pw (P := 63) (k := 8) sx c (by omega) (by decide) n2 x1
  have V7 : mI M2 63 7 = mkS T 2 := by rw [b2 7 (by decide), a1]
  have V8 : mI M2 63 8 = mkS T 1 := a2
  have Vh : ∀ b, b ≠ 7 → b ≠ 8 → mI M2 63 b = mI M 63 b := fun b n n' => by rw [b2 b n', b1 b n]
  have Vo : ∀ o, o ≠ 114 → o ≠ 63 → ∀ b, mI M2 o b = mI M o b := fun o n n' b => by rw [c2 o n n', c1 o n n']
  refine ⟨M1, M2, fun i => mI M (63 + 17 + 2 * i) 14, e1, w1, y1.1, e2, w2, ⟨L, sx.e y2.1, c.e y2.1 y2.2.1, p.at4 y2.1 (fun o n n' b => Vo o n (by omega) b) ?_ rfl ?_ rfl rfl⟩, y2.2.2.2, FrUp.of y2.1 (fun o n n' b => Vo o n' (by omega) b) (fun b n => by rw [d2 b n, d1 b n]) (fun o b => by rw [l2, l1]), y2.2.2.1⟩
  · obtain ⟨p1, g7, g8, g9, g10, g11, g12, g13, g14, g15⟩ := p.2.2.1
    have r : ∀ k i, k ≠ 0 → k ≠ 14 → xR (upM S T fun i => mI M (63 + 17 + 2 * i) 14) k i = xR S k i := fun k i n n' => by rw [upM_R, if_neg n, if_neg n']
    have lim : ∀ z, z ∈ ft → z.2 ≠ 0 ∧ z.2 ≠ 14 := by decide
    refine ⟨fun v hv => ?_, fun v hv => ?_, fun v hv => ?_, fun v hv => ?_, ?_, ?_, ?_, ?_, ?_, ?_⟩
    · obtain ⟨a1, a2, a3, a4, a5⟩ := p1 v hv
      have o1 := Vo (63 + 17 + 2 * v) (by omega) (by omega)
      have o2 := Vo (63 + 18 + 2 * v) (by omega) (by omega)
      refine ⟨fun z hz => ?_, ?_, fun z => ?_, fun u hu => ?_, fun w hw => ?_⟩
      · rw [o1, r _ _ (lim z hz).1 (lim z hz).2]; exact a1 z hz
      · rw [o1, r _ _ (by decide) (by decide), r _ _ (by decide) (by decide)]; exact a2
      · rw [o1, upM_R, if_neg (by decide), if_pos rfl]
      · rw [o1]; exact a4 u hu
      · rw [o2]; exact a5 w hw
    · rw [V7, mkS_b hv, upM_R, if_pos rfl]
    · rw [V8, mkS_b hv, upM_R, if_pos rfl]
    · rw [Vh _ (by decide) (by decide), r _ _ (by decide) (by decide)]; exact g9 v hv
    · rw [Vh _ (by decide) (by decide), r _ _ (by decide) (by decide)]; exact g10
    · rw [Vh _ (by decide) (by decide), r _ _ (by decide) (by decide)]; exact g11
    · rw [Vh _ (by decide) (by decide), r _ _ (by decide) (by decide)]; exact g12
    · rw [Vh _ (by decide) (by decide), r _ _ (by decide) (by decide)]; exact g13
    · rw [Vh _ (by decide) (by decide), r _ _ (by decide) (by decide)]; exact g14
    · rw [Vh _ (by decide) (by decide), r _ _ (by decide) (by decide)]; exact g15
  · funext i
    rw [upM_R, if_neg (by decide), if_neg (by decide)]
set_option maxHeartbeats 1000000 in
theorem SV.recall (h : SV X0 Y0 t N Q pb pt S M e dC) {A P d d' i r n : Nat} {S0 : St} (g : GS N A P S0 T d) (g' : GS N A P S0 S d') (hA : A + d < 1048576) (ok : Tok N T) (hi : i < 41) (hs : mI M 115 i = nI r) (hc : ∀ j x, (ser N T)[j]? = some x → mI M dC (r + j) = x) (he : r + (ser N T).length ≤ e) (hn : 9400 ≤ n) : ∃ M' S', f_X6_recall n 114 (nI i) M = some M' ∧ SV X0 Y0 t N Q pb pt S' M' e dC ∧ FrUp M M' ∧ (∀ b, mI M' dC b = mI M dC b) ∧ SE S' T ∧ GS N A P S0 S' d ∧ xE S' = xE S ∧ xT S' = xT S := by
  have h16 := ok.1
  have el : (ser N T).length = 1 + (1 + (((List.range' 0 N).flatMap (serP T)).length + ((List.range' 0 N).flatMap (serF N T)).length)) := by
    unfold ser
    rw [List.length_cons, List.length_cons, List.length_append]; omega
  rw [el] at he
  obtain ⟨L, sx, c, p⟩ := id h
  generalize hMa : sI M 114 7 (nI r) = Ma
  have fa : FrUp M Ma := by rw [← hMa]; exact FrUp.s7 _ _
  have va : SV X0 Y0 t N Q pb pt S Ma e dC := by
    rw [← hMa]
    exact ⟨L, sx.e rfl, c.e rfl (mI_n _ _ _ _ (by decide)), p.rd7 _⟩
  have ka : mI Ma 114 7 = nI r := by rw [← hMa, mI_s]
  have ca : ∀ b, mI Ma dC b = mI M dC b := (c.up sx.2.2.2.2 fa).2
  obtain ⟨La, sxa, cca, pa⟩ := id va
  obtain ⟨M1, M2, w, e1, w1, s1, e2, w2, rr⟩ := va.masks (T := T) ka (by rw [ca]; exact hc 0 _ rfl) (by rw [ca]; exact hc 1 _ rfl) (by omega)
  obtain ⟨M3, S3, r3, e3, rr3, pm, lm⟩ := rc_34 (t := t) (X0 := X0) (Y0 := Y0) (Q := Q) (pb := pb) (pt := pt) (e := e) (dC := dC) (T := T) ok (S0 := upM S T w) N 0 n M2 (upM S T w) (r + 2) (by omega) rr.1 rr.2.1 (fun j x hj => by
    rw [rr.2.2.2, ca, Nat.add_assoc]
    exact hc (2 + j) x (by
      unfold ser
      rw [show 2 + j = j + 1 + 1 by omega, List.getElem?_cons_succ, List.getElem?_cons_succ]
      exact hj)) (by omega) ⟨fun k i _ => by rw [if_neg (fun z => by have := z.1; omega)], fun a => by rw [if_neg (by omega)], rfl, rfl⟩ (by omega)
  have hz := ok.2.2.1
  obtain ⟨pR, pW, pE, pT⟩ := pm
  have gI := g.1.2.2.2.2.2.1
  have gI' := g'.1.2.2.2.2.2.1
  have R7 : ∀ k, k = 7 ∨ k = 17 ∨ k = 20 → ∀ i, xR S3 k i = xR T k i := fun k hk i => by
    rw [pR k i (by omega), if_neg (by omega), upM_R, if_neg (by omega), if_neg (by omega)]
    exact (g'.2.2.1.ss g.2.2.1 k hk i).symm
  have RA : ∀ k, k < 11 → ∀ i, xR S3 k i = xR T k i := fun k hk i => by
    by_cases z7 : k = 7
    · exact R7 k (Or.inl z7) i
    · rw [pR k i (by omega)]
      by_cases z : i < N ∧ (1 ≤ k ∧ k ≤ 6 ∨ 8 ≤ k ∧ k ≤ 10)
      · rw [if_pos z]
      · rw [if_neg z, upM_R]
        by_cases z0 : k = 0
        · rw [if_pos z0, z0]
        · rw [if_neg z0, if_neg (by omega), g'.2.2.2 k hk i (by omega), g.2.2.2 k hk i (by omega)]
  have lE : ∀ l, l < 256 → xL S3 l = (xL T l).map (wn t) := fun l hl => by
    rw [lm l hl]
    by_cases z : l < 16 * N
    · rw [if_pos z]
    · rw [if_neg z, hz l hl (by omega)]; rfl
  have wE : ∀ a, a < 16 → xW S3 a = xW T a := fun a ha => by
    rw [pW]
    by_cases z : a < N
    · rw [if_pos z]
    · rw [if_neg z]
      show xW S a = _
      rw [(gI' a ha).2.1 (by omega), (gI a ha).2.1 (by omega)]
  have fR : xR (fS t T S3) = xR S3 := rfl
  obtain ⟨L3, sx3, c3, p3⟩ := rr3.1
  have se : SE (fS t T S3) T := by
    refine ⟨fun k i hk _ => ?_, fun a _ => rfl, fun l hl => ?_⟩
    · rw [fR]
      rcases hk with z | z | z
      · exact RA k z i
      · exact R7 k (by omega) i
      · exact R7 k (by omega) i
    · show ((xL T l).map (wn t)).map lk = _
      rw [List.map_map]; rfl
  refine ⟨M3, fS t T S3, ?_, ⟨L3, sx3, c3, p3.ex rfl (fun a ha => (wE a ha).symm) (fun l hl => (lE l hl).symm) rfl rfl⟩, fa.tr (rr.2.2.1.tr rr3.2.2.1), fun b => by rw [rr3.2.2.2, rr.2.2.2, ca], se, ⟨?_, ?_, ?_, ?_⟩, pE, pT⟩
  · have q1 := p.1
    have qa := pa.1
    have qm : ∀ x, CS (sI Ma 114 7 x) 63 := fun x => qa.e rfl
    have q1m : ∀ x, CS (sI M1 114 7 x) 63 := fun x => qa.e s1
    have sxb := sxa.e s1
    rw [f_X6_recall, chk_t sx.1, sx.2.1.2.1, bnd_e, sx1 sx, sx1i sx hi, mI_c (by omega), hs, hMa, bnd_e, sxa.2.1.1, bnd_e, cs_f qa, e1, obd2_s, cs_f (qm _), w1, bnd_e, chk_t sxb.1, sxb.2.1.1, bnd_e, cs_f (qa.e s1), e2, obd2_s, cs_f (q1m _), w2, bnd_e]
    exact e3
  · exact g.1.wn h16 ⟨rfl, fun k hk _ i => RA k hk i⟩ (fun l _ => rfl)
  · exact ⟨se.sy.tix h16 g.2.1.1, g.2.1.2.1.k R7, by rw [se.tPhS]; exact g.2.1.2.2⟩
  · exact fun k hk i => (R7 k hk i).trans (g.2.2.1 k hk i)
  · exact fun k hk i hi => (RA k hk i).trans (g.2.2.2 k hk i hi)
end
/-! ===== the class: who may ask anew; the search's own rows ===== -/
theorem HV.at5 {M M' : Mem} {X Y N : Nat} {t : Int32} {Q : Nat → Int32} {S : St} {pb pt : List Row4} (p : HV M 63 X Y t N Q S pb pt) (e : M'.1 = M.1) (hI : ∀ o, ¬ (114 ≤ o ∧ o ≤ 118) → ∀ b, mI M' o b = mI M o b) : HV M' 63 X Y t N Q S pb pt := by
  obtain ⟨q, ⟨d5, d6, d7, len, K, fr, us, ow, w, hK⟩, hp, rm, ⟨lb, lt⟩, hN, hQ⟩ := p
  obtain ⟨_, _, _, y5, y6, y7, _⟩ := id w.1
  have hl := w.2.2.2.2.2.2.2.2.2.1
  refine ⟨q.e e, ⟨d5, d6, d7, len, K, fr, us, ow, ?_, hK⟩, hp.cg (fun o ho b => hI o (by omega) b) (fun _ _ _ => rfl) rfl, ?_, ⟨?_, ?_⟩, ?_, fun v hv => ?_⟩
  · exact w.cg (w.1.e e) (Nat.le_refl _) hl.2.2.2.1 (fun i a b k => hI _ (by omega) k) (fun k _ => hI d5 (by omega) k) (fun k _ => hI d6 (by omega) k) (fun k _ => hI d7 (by omega) k)
  · unfold Rm mN mU mLn mR at rm ⊢
    rw [e]; exact rm
  · exact lb.cg (hI _ (by omega)) (hI _ (by omega))
  · exact lt.cg (hI _ (by omega)) (hI _ (by omega))
  · rw [hI 1 (by omega)]; exact hN
  · rw [hI _ (by omega)]; exact hQ v hv
section
variable {X0 Y0 N : Nat} {t : Int32} {Q : Nat → Int32} {S : St} {pb pt : List Row4} {M : Mem} {e dC : Nat}
theorem SV.at5 {M' : Mem} (h : SV X0 Y0 t N Q pb pt S M e dC) (s : M'.1 = M.1) (hI : ∀ o, ¬ (114 ≤ o ∧ o ≤ 118) → ∀ b, mI M' o b = mI M o b) (h6 : mI M' 114 6 = mI M 114 6) : SV X0 Y0 t N Q pb pt S M' e dC := by
  obtain ⟨L, sx, c, p⟩ := h
  exact ⟨L, sx.e s, c.e s h6, p.at5 s hI⟩
def anC (ask : Int32) (N : Nat) (sn : Nat → Int32) (S : St) (v : Nat) : Bool := bt ask v && (mayA N v S && decide (xR S 2 v = sn v))
theorem an_l (h : SV X0 Y0 t N Q pb pt S M e dC) {ask : Int32} {sn : Nat → Int32} (hI : IA N S) (h16 : N ≤ 16) (hQ : ∀ v, v < N → qm N S v = Q v) (ha : mI M 114 9 = ask) (hs : ∀ v, v < N → mI M 118 v = sn v) : ∀ (d v n : Nat) (acc : Int32), v + d = N → d + 1 ≤ n → f_X6_asksNow_4 M n 114 acc (nI v) = some ((asks' v d N S ask sn).foldl (fun m g => bon m g) acc) := by
  obtain ⟨L, sx, c, p⟩ := h
  have q := p.1
  intro d
  induction d with
  | zero =>
    intro v n acc hv hn
    obtain ⟨n, rfl⟩ : ∃ m, n = m + 1 := ⟨n - 1, by omega⟩
    rw [f_X6_asksNow_4, chk_t sx.1, sx.2.1.1, bnd_e, cs_f q, cs_h0 q, bnd_e, cs_s q, p.2.2.2.2.2.1, if_pos (nI_le (by omega) (by omega))]
    rfl
  | succ d ih =>
    intro v n acc hv hn
    obtain ⟨n, rfl⟩ : ∃ m, n = m + 1 := ⟨n - 1, by omega⟩
    have v16 : v < 16 := by omega
    have i18 : ∀ x : Option Int32, chk (inB (nI v) (mLn M 118)) x = x := fun x => by
      refine chk_t ?_
      rw [sx.2.2.2.1.2.2.2]; exact inB_n v16 (by decide)
    have p1 : mI M (63 + 17 + 2 * v) 1 = xR S 2 v := (p.2.2.1.1 v v16).1 (1, 2) (by decide)
    have el : asks' v (d + 1) N S ask sn = if anC ask N sn S v = true then v :: asks' (v + 1) d N S ask sn else asks' (v + 1) d N S ask sn := by
      unfold asks' anC
      rw [List.range'_succ, List.filter_cons]
    have k44 : ∀ u : Int32, (u = if xR S 2 v = sn v then 1 else 0) → f_X6_asksNow_44 (f_X6_asksNow_4 M n) M n 114 acc (nI v) u = some ((asks' v (d + 1) N S ask sn).foldl (fun m g => bon m g) acc) := by
      intro u hu
      rw [f_X6_asksNow_44, chk_t sx.1, ha, f_has9 _ (by omega), obd_s, nI_1, el]
      unfold anC
      by_cases z1 : bt ask v = true
      · rw [if_pos z1, if_neg ne10, hu]
        by_cases z2 : xR S 2 v = sn v
        · rw [if_pos z2, if_neg ne10, sx.2.1.1, bnd_e, cs_f q, p.may hI h16 (by omega) (hQ v (by omega)), obd_s]
          by_cases z3 : mayA N v S = true
          · rw [if_pos z3, if_neg ne10, if_pos (by rw [z1, z3, decide_eq_true z2]; rfl), List.foldl_cons, bnd_e, bnd_e]
            exact ih (v + 1) n (bon acc v) (by omega) (by omega)
          · rw [if_neg z3, if_pos rfl, if_neg (by rw [Bool.not_eq_true] at z3; rw [z3, Bool.false_and, Bool.and_false]; decide), bnd_e]
            exact ih (v + 1) n acc (by omega) (by omega)
        · rw [if_neg z2, if_pos rfl, if_neg (by rw [decide_eq_false z2, Bool.and_false, Bool.and_false]; decide), bnd_e]
          exact ih (v + 1) n acc (by omega) (by omega)
      · rw [if_neg z1, if_pos rfl, if_neg (by rw [Bool.not_eq_true] at z1; rw [z1, Bool.false_and]; decide), bnd_e]
        exact ih (v + 1) n acc (by omega) (by omega)
    rw [f_X6_asksNow_4, chk_t sx.1, sx.2.1.1, bnd_e, cs_f q, cs_h0 q, bnd_e, cs_s q, p.2.2.2.2.2.1, if_neg (nI_ge (by omega) (by omega)), bnd_e, cs_f q, cs_h2 q, bnd_e, cs_a10 q, cs_i10 q v16, cs_rpc q v16, bnd_e, cs_po q v16, sx.2.1.2.2.2.2, bnd_e, chk_t sx.2.2.1.2.2.2, i18, mI_c (by omega), p1, hs v (by omega)]
    by_cases z : xR S 2 v = sn v
    · rw [if_pos z]; exact k44 1 (by rw [if_pos z])
    · rw [if_neg z]; exact k44 0 (by rw [if_neg z])
theorem SV.asks (h : SV X0 Y0 t N Q pb pt S M e dC) {ask : Int32} {sn : Nat → Int32} {n : Nat} (hI : IA N S) (h16 : N ≤ 16) (hQ : ∀ v, v < N → qm N S v = Q v) (ha : mI M 114 9 = ask) (hs : ∀ v, v < N → mI M 118 v = sn v) (hn : 17 ≤ n) : f_X6_asksNow n 114 M = some ((asks' 0 N N S ask sn).foldl (fun m g => bon m g) 0) :=
  an_l h hI h16 hQ ha hs N 0 n 0 (by omega) (by omega)
theorem asks_m {ask : Int32} {sn : Nat → Int32} {i d : Nat} (h : i + d ≤ 16) {v : Nat} (hv : v ∈ asks' i d N S ask sn) : v < 16 := by
  have := (List.mem_filter.mp hv).1
  have := List.mem_range'_1.mp this
  omega
theorem fb0 {l : List Nat} (h : ∀ v, v ∈ l → v < 16) : l.foldl (fun m g => bon m g) 0 = (0 : Int32) ↔ l = [] := by
  constructor
  · intro e
    cases l with
    | nil => rfl
    | cons x l =>
      have := fn_b (x :: l) 0 x (by have := h x (by simp); omega) (fun w hw => by have := h w hw; omega)
      rw [e, b_0, decide_eq_true (show x ∈ x :: l by simp)] at this
      cases this
  · rintro rfl; rfl
end
/-! ===== the class meets a state: what it counts ===== -/
theorem nI_ltx {a b : Nat} (h : a < b) (hb : b < 2 ^ 31) : nI a < nI b := Int32.not_le.mp (nI_ge h hb)
theorem nI_nl {a b : Nat} (h : b ≤ a) (ha : a < 2 ^ 31) : ¬ nI a < nI b := fun z => Int32.not_le.mpr z (nI_le h ha)
theorem nI_max {a b : Nat} (ha : a < 2 ^ 31) (hb : b < 2 ^ 31) : (if nI a < nI b then nI b else nI a) = nI (max a b) := by
  by_cases c : a < b
  · rw [if_pos (nI_ltx c hb), Nat.max_eq_right (by omega)]
  · rw [if_neg (nI_nl (by omega) ha), Nat.max_eq_left (by omega)]
theorem nI_z {a : Nat} (ha : a < 2 ^ 31) : nI a = 0 ↔ a = 0 := nI_eq (b := 0) ha (by decide)
theorem mkS_z {S : St} {q : Int32} : mkS S q = 0 ↔ ∀ v, v < 16 → xR S 0 v ≠ q := by
  unfold mkS
  rw [fb0 (fun v hv => List.mem_range.mp (List.mem_filter.mp hv).1), List.filter_eq_nil_iff]
  constructor
  · intro h v hv e
    exact h v (List.mem_range.mpr hv) (decide_eq_true e)
  · intro h v hv e
    exact h v (List.mem_range.mp hv) (of_decide_eq_true e)
theorem m163 {M : Mem} {n m e : Nat} {u0 u1 : Int32} (sx : SX M) (hm : mI M 114 10 = nI m) (hm40 : m + 1 < 41) (h6 : mI M 114 6 = nI e) : f_X6_meet_163 n 114 u0 u1 114 M = some (sI (sI (sI M 114 12 (u1 + u0)) 114 10 (nI (m + 1))) 115 (m + 1) (nI e)) := by
  have e10 : mI (sI M 114 12 (u1 + u0)) 114 10 = nI m := by rw [mI_n _ _ _ _ (by decide)]; exact hm
  have sx1 : SX (sI M 114 12 (u1 + u0)) := sx.e rfl
  rw [f_X6_meet_163, chk_t sx.1, bnd_e, chk_t sx1.1, e10, nI_1]
  generalize hM2 : sI (sI M 114 12 (u1 + u0)) 114 10 (nI (m + 1)) = M2
  have s2 : M2.1 = M.1 := by rw [← hM2]; rfl
  have sx2 := sx.e s2
  have f10 : mI M2 114 10 = nI (m + 1) := by rw [← hM2, mI_s]
  have f6 : mI M2 114 6 = nI e := by rw [← hM2, mI_n _ _ _ _ (by decide), mI_n _ _ _ _ (by decide)]; exact h6
  rw [bnd_e, sx2.2.1.2.1, bnd_e, chk_t sx2.2.2.1.1, f10, show mLn M2 115 = 41 from sx2.2.2.2.1.1, chk_t (inB_n hm40 (by decide)), sI_c (by omega), f6, bnd_e]
section
variable {X0 Y0 N : Nat} {t : Int32} {Q : Nat → Int32} {S : St} {pb pt : List Row4} {M : Mem} {e dC : Nat}
set_option maxHeartbeats 1000000 in
theorem m112 (h : SV X0 Y0 t N Q pb pt S M e dC) {A n m k : Nat} {ask u0 u1 : Int32} {sn : Nat → Int32} (hI : Inv N A S) (h16 : N ≤ 16) (hQ : ∀ v, v < N → qm N S v = Q v) (ha : mI M 114 9 = ask) (hs : ∀ v, v < N → mI M 118 v = sn v) (hm : mI M 114 10 = nI m) (hm40 : m + 1 < 41) (c12 : mI M 114 12 = nI k) (hn : 20 ≤ n) : f_X6_meet_112 n 114 u0 u1 114 M = some (sI (sI (sI (sI M 114 11 (u1 + u0)) 114 12 (nI (k + if sStk N ask sn S then 1 else 0))) 114 10 (nI (m + 1))) 115 (m + 1) (nI e)) := by
  obtain ⟨L0, sx0, _, _⟩ := id h
  generalize hM2 : sI M 114 11 (u1 + u0) = M2
  have o2 : ∀ o, o ≠ 114 → ∀ b, mI M2 o b = mI M o b := fun o n b => by rw [← hM2, mI_o _ _ _ _ _ n]
  have d2 : ∀ b, b ≠ 11 → mI M2 114 b = mI M 114 b := fun b n => by rw [← hM2, mI_n _ _ _ _ n]
  have h2 : SV X0 Y0 t N Q pb pt S M2 e dC := h.at5 (by rw [← hM2]; rfl) (fun o n b => o2 o (by omega) b) (d2 6 (by decide))
  have an := h2.asks (n := n) hI.1 h16 hQ (ask := ask) (sn := sn) (by rw [d2 9 (by decide)]; exact ha) (fun v hv => by rw [o2 118 (by decide)]; exact hs v hv) (by omega)
  obtain ⟨L, sx, c, p⟩ := h2
  have q := p.1
  have h8 : mI M2 63 8 = mkS S 1 := b_ext (fun i hi => by rw [p.2.2.1.2.2.1 i hi, mkS_b hi])
  have cm := p.cm (n := n) hI h16 (by omega)
  have c6 : mI M2 114 6 = nI e := c.2.2.2.2.1
  have c10 : mI M2 114 10 = nI m := by rw [d2 10 (by decide)]; exact hm
  have c12' : mI M2 114 12 = nI k := by rw [d2 12 (by decide)]; exact c12
  have y148 : ∀ z : Bool, f_X6_meet_148 n 114 (if z then 1 else 0) M2 = some (sI (sI (sI M2 114 12 (nI (k + if z then 1 else 0))) 114 10 (nI (m + 1))) 115 (m + 1) (nI e)) := by
    intro z
    cases z with
    | true =>
      rw [f_X6_meet_148, chk_t sx.1, if_pos rfl, if_neg ne10, m163 sx c10 hm40 c6, c12', nI_1]; rfl
    | false =>
      rw [f_X6_meet_148, chk_t sx.1, show (if (false = true) then (1 : Int32) else 0) = 0 from rfl, if_pos rfl, m163 sx c10 hm40 c6, c12', Int32.add_zero]; rfl
  have hd : ∀ y : Option Mem, (if mkS S 1 = 0 then f_X6_meet_148 n 114 0 M2 else (if nI (mv0 N S).length = 0 then (if ((asks' 0 N N S ask sn).foldl (fun m g => bon m g) (0 : Int32)) = 0 then f_X6_meet_148 n 114 1 M2 else f_X6_meet_148 n 114 0 M2) else f_X6_meet_148 n 114 0 M2)) = y → f_X6_meet_112 n 114 u0 u1 114 M = y := by
    intro y hy
    rw [f_X6_meet_112, chk_t sx0.1, hM2, bnd_e, chk_t sx.1, sx.2.1.1, bnd_e, cs_f q, h8, bnd_e, cs_f q, cm, obd_s, an, obd_s]
    exact hy
  have lm : (mv0 N S).length < 2 ^ 31 := by
    unfold mv0
    rw [List.length_append, List.length_map]
    have a := List.length_filter_le (fun l => !(xL S l).isEmpty) (List.range 256)
    have b : (lanes S).length ≤ 256 := by
      unfold lanes
      refine Nat.le_trans (List.length_filter_le _ _) ?_
      rw [List.length_range]; exact Nat.le_refl _
    have c : (inss N S).length ≤ 16 := by
      unfold inss
      refine Nat.le_trans (List.length_filter_le _ _) ?_
      first
        | (rw [List.length_range]; omega)
        | (rw [List.length_range']; omega)
    omega
  have emv : mvl N S ask sn = mv0 N S ++ (asks' 0 N N S ask sn).map (fun v => 272 + v) := rfl
  have ha0 : (List.range N).any (fun v => decide (xR S 0 v = 1)) = true ↔ ¬ mkS S 1 = 0 := by
    rw [mkS_z, List.any_eq_true]
    constructor
    · rintro ⟨v, hv, z⟩ y
      have := List.mem_range.mp hv
      exact y v (by omega) (of_decide_eq_true z)
    · intro y
      refine Classical.byContradiction fun z => y fun v hv e => z ⟨v, List.mem_range.mpr ?_, decide_eq_true e⟩
      rcases Nat.lt_or_ge v N with w | w
      · exact w
      · have := (hI.1 v hv).2.1 w
        rw [this] at e; cases e
  have hz : sStk N ask sn S = true ↔ (mv0 N S = [] ∧ asks' 0 N N S ask sn = []) ∧ ¬ mkS S 1 = 0 := by
    unfold sStk
    rw [Bool.and_eq_true, ha0, List.isEmpty_iff, emv, List.append_eq_nil_iff, List.map_eq_nil_iff]
  refine hd _ ?_
  by_cases z1 : mkS S 1 = 0
  · rw [if_pos z1]
    have : sStk N ask sn S = false := by
      rw [← Bool.not_eq_true, hz]; exact fun w => w.2 z1
    rw [this]
    exact y148 false
  · rw [if_neg z1]
    by_cases z2 : (mv0 N S).length = 0
    · rw [if_pos ((nI_z lm).mpr z2)]
      by_cases z3 : asks' 0 N N S ask sn = []
      · rw [if_pos ((fb0 (fun v hv => asks_m (by omega) hv)).mpr z3)]
        have : sStk N ask sn S = true := hz.mpr ⟨⟨List.length_eq_zero_iff.mp z2, z3⟩, z1⟩
        rw [this]
        exact y148 true
      · rw [if_neg (fun w => z3 ((fb0 (fun v hv => asks_m (by omega) hv)).mp w))]
        have : sStk N ask sn S = false := by
          rw [← Bool.not_eq_true, hz]; exact fun w => z3 w.1.2
        rw [this]
        exact y148 false
    · rw [if_neg (fun w => z2 ((nI_z lm).mp w))]
      have : sStk N ask sn S = false := by
        rw [← Bool.not_eq_true, hz]; exact fun w => z2 (List.length_eq_zero_iff.mpr w.1.1)
      rw [this]
      exact y148 false
end
/-! ===== the class meets a state ===== -/
theorem offs_mono {N : Nat} {l : List (St × Nat)} : ∀ (d i : Nat), offs N l i ≤ offs N l (i + d) := by
  intro d
  induction d with
  | zero => intro i; exact Nat.le_refl _
  | succ d ih =>
    intro i
    refine Nat.le_trans (ih i) ?_
    rw [show i + (d + 1) = i + d + 1 by omega]
    cases e : l[i + d]? with
    | none =>
      have z := List.getElem?_eq_none_iff.mp e
      unfold offs
      rw [List.take_of_length_le z, List.take_of_length_le (by omega)]
      exact Nat.le_refl _
    | some p => rw [offs_s e]; omega
theorem offs_ap {N : Nat} {l : List (St × Nat)} {p : St × Nat} {i : Nat} (h : i ≤ l.length) : offs N (l ++ [p]) i = offs N l i := by
  unfold offs
  rw [List.take_append_of_le_length h]
def cDp (l : List (St × Nat)) : Nat := l.foldl (fun m p => max m p.2) 0
theorem cDp_s (l : List (St × Nat)) (p : St × Nat) : cDp (l ++ [p]) = max (cDp l) p.2 := by
  unfold cDp
  rw [List.foldl_append]
  rfl
theorem cMx_le {l : List (St × Nat)} {m : Nat} (h : ∀ p, p ∈ l → (fl p.1).length ≤ m) : cMx l ≤ m := by
  unfold cMx
  have : ∀ (l : List (St × Nat)) (a : Nat), a ≤ m → (∀ p, p ∈ l → (fl p.1).length ≤ m) → l.foldl (fun m p => max m (fl p.1).length) a ≤ m := by
    intro l
    induction l with
    | nil => intro a ha _; exact ha
    | cons x l ih =>
      intro a ha hl
      rw [List.foldl_cons]
      exact ih _ (Nat.max_le.mpr ⟨ha, hl x (by simp)⟩) (fun p hp => hl p (List.mem_cons_of_mem _ hp))
  exact this l 0 (Nat.zero_le _) h
theorem cDp_le {l : List (St × Nat)} {m : Nat} (h : ∀ p, p ∈ l → p.2 ≤ m) : cDp l ≤ m := by
  unfold cDp
  have : ∀ (l : List (St × Nat)) (a : Nat), a ≤ m → (∀ p, p ∈ l → p.2 ≤ m) → l.foldl (fun m p => max m p.2) a ≤ m := by
    intro l
    induction l with
    | nil => intro a ha _; exact ha
    | cons x l ih =>
      intro a ha hl
      rw [List.foldl_cons]
      exact ih _ (Nat.max_le.mpr ⟨ha, hl x (by simp)⟩) (fun p hp => hl p (List.mem_cons_of_mem _ hp))
  exact this l 0 (Nat.zero_le _) h
/-- the states met and what is counted of them, as the class holds them -/
def SQ (N : Nat) (ask : Int32) (sn : Nat → Int32) (most : Nat) (M : Mem) (e dC : Nat) (q : Bq) : Prop := XQ N M dC q.1 ∧ offs N q.1 q.1.length ≤ e ∧ mI M 114 10 = nI q.1.length ∧ mI M 114 8 = nI most ∧ mI M 114 9 = ask ∧ (∀ v, v < N → mI M 118 v = sn v) ∧ mI M 114 11 = nI (cTwo N q.1) ∧ mI M 114 12 = nI (cStk N ask sn q.1) ∧ mI M 114 13 = nI (cMx q.1) ∧ mI M 114 14 = nI (cDp q.1) ∧ mI M 114 15 = (if q.2 then 1 else 0) ∧ ∀ (i : Nat) (p : St × Nat), q.1[i]? = some p → mI M 117 i = mkS p.1 2
/-- the search alone has changed -/
def FrQ (M M' : Mem) (dC dC' : Nat) : Prop := mN M ≤ mN M' ∧ (∀ o, o < mN M → M'.1.2.1 o = M.1.2.1 o) ∧ (∀ o b, o < mN M → ¬ (o = 114 ∧ b = 5) → mR M' o b = mR M o b) ∧ (∀ o, o < mN M → ¬ (114 ≤ o ∧ o ≤ 118) → o ≠ dC → ∀ b, mI M' o b = mI M o b) ∧ (∀ o, o < mN M → ∀ b, mL M' o b = mL M o b) ∧ (dC' = dC ∨ mN M ≤ dC')
theorem FrC.q {M M' : Mem} {a b : Nat} (f : FrC M M' a b) : FrQ M M' a b := by
  obtain ⟨f1, f2, f3, f4, f5, f6, f7⟩ := f
  exact ⟨f1, f2, f3, fun o ho n1 n2 => f4 o ho (by omega) n2, f6, f7⟩
theorem FrQ.tr {M M' M'' : Mem} {a b c : Nat} (h : FrQ M M' a b) (h' : FrQ M' M'' b c) : FrQ M M'' a c := by
  obtain ⟨a1, a2, a3, a4, a6, a7⟩ := h
  obtain ⟨b1, b2, b3, b4, b6, b7⟩ := h'
  refine ⟨Nat.le_trans a1 b1, fun o ho => (b2 o (by omega)).trans (a2 o ho), fun o k ho n => (b3 o k (by omega) n).trans (a3 o k ho n), fun o ho n1 n2 k => (b4 o (by omega) n1 (by omega) k).trans (a4 o ho n1 n2 k), fun o ho k => (b6 o (by omega) k).trans (a6 o ho k), by omega⟩
theorem FrQ.of {M M' : Mem} {dC : Nat} (s : M'.1 = M.1) (hI : ∀ o, ¬ (114 ≤ o ∧ o ≤ 118) → ∀ b, mI M' o b = mI M o b) (hL : ∀ o b, mL M' o b = mL M o b) : FrQ M M' dC dC :=
  ⟨by unfold mN; rw [s]; exact Nat.le_refl _, fun o _ => by rw [s], fun o b _ _ => by unfold mR; rw [s], fun o _ n _ b => hI o n b, fun o _ b => hL o b, Or.inl rfl⟩
theorem knw_ser {N A P most : Nat} {S0 S Sm : St} {q : Bq} (h16 : N ≤ 16) (hA : A + 50 < 1048576) (h40 : most ≤ 40) (hP : P + 40 * N < 9000) {dd : Nat} (hdd : dd ≤ 40) (gq : GQ N A P most S0 q) (g : GS N A P S0 S dd) (hm : SE S Sm) : knw q.1 Sm = true ↔ ∃ j p, 0 ≤ j ∧ q.1[j]? = some p ∧ ser N p.1 = ser N S := by
  have hfl : ∀ {T : St} {d : Nat}, GS N A P S0 T d → d ≤ 40 → (fl T).length < 9000 := fun {T d} gT hd => by
    have := gT.2.1.2.2
    have : N * d ≤ N * 40 := Nat.mul_le_mul_left _ hd
    have := fl_PhS T
    omega
  rw [knw_t]
  constructor
  · rintro ⟨p, hp, se⟩
    obtain ⟨j, hj, ej⟩ := List.mem_iff_getElem.mp hp
    exact ⟨j, p, Nat.zero_le _, by rw [List.getElem?_eq_getElem hj, ej], ser_c (se.tr hm.sy) h16⟩
  · rintro ⟨j, p, _, hj, es⟩
    refine ⟨p, List.mem_of_getElem? hj, ?_⟩
    obtain ⟨g1, g2⟩ := gq.2.2 j p hj
    have hl := gl_lt hj
    have := gq.1
    have l1 := hfl g2 (by omega)
    have l2 := hfl g hdd
    exact (ser_i es h16 g2.1 g.1 (by omega) (by omega) (g2.2.2.1.ss g.2.2.1) (fun k hk i hi => (g.2.2.2 k hk i hi).trans (g2.2.2.2 k hk i hi).symm) (fun l c => by
      have a := ln_l (S := p.1) c (by omega)
      have b := ln_l (S := S) c (by omega)
      exact ⟨by omega, by omega⟩)).tr hm
/-! ===== the class meets a state, whole ===== -/
section
variable {X0 Y0 N : Nat} {t : Int32} {Q : Nat → Int32} {S : St} {pb pt : List Row4} {M : Mem} {e dC : Nat}
theorem XQ.cg {M' : Mem} {dC' : Nat} {l : List (St × Nat)} (h : XQ N M dC l) (h5 : ∀ b, mI M' 115 b = mI M 115 b) (h6 : ∀ b, mI M' 116 b = mI M 116 b) (hC : ∀ j, j < offs N l l.length → mI M' dC' j = mI M dC j) : XQ N M' dC' l := by
  refine ⟨fun i hi => by rw [h5]; exact h.1 i hi, fun i p hp => ⟨fun j x hx => ?_, by rw [h6]; exact (h.2 i p hp).2⟩⟩
  have a := offs_s (N := N) hp
  have b := gl_lt hx
  have c := gl_lt hp
  have d := offs_mono (N := N) (l := l) (l.length - (i + 1)) (i + 1)
  rw [show i + 1 + (l.length - (i + 1)) = l.length by omega] at d
  rw [hC _ (by omega)]
  exact (h.2 i p hp).1 j x hx
set_option maxHeartbeats 4000000 in
theorem SV.meet (h : SV X0 Y0 t N Q pb pt S M e dC) (hX : X0 ≤ 100000) (hY : Y0 ≤ 1000000) (h16 : N ≤ 16) {A P most dd n : Nat} {S0 Sm : St} {q : Bq} {ask : Int32} {sn : Nat → Int32} (hA : A + 50 < 1048576) (h40 : most ≤ 40) (hP : P + 40 * N < 9000) (hQ : ∀ v, v < N → qm N S v = Q v) (gq : GQ N A P most S0 q) (g : GS N A P S0 S dd) (hdd : dd ≤ 40) (hm : SE S Sm) (sq : SQ N ask sn most M e dC q) (hn : 20000 ≤ n) : ∃ M' e' dC', f_X6_meet n 114 (nI dd) M = some M' ∧ SV X0 Y0 t N Q pb pt S M' e' dC' ∧ SQ N ask sn most M' e' dC' (met1 most q Sm dd) ∧ FrQ M M' dC dC' := by
  have hI := g.1
  have so : Sok N S := ⟨h16, fun v hv w hw => by have := ((hI.2.2.2.2.2.1 v hv).1.2.2 w hw).1; omega, fun v hv => (hI.1 v hv).2.2.2⟩
  have hfl : ∀ {T : St} {d : Nat}, GS N A P S0 T d → d ≤ 40 → (fl T).length < 9000 := fun {T d} gT hd => by
    have := gT.2.1.2.2
    have : N * d ≤ N * 40 := Nat.mul_le_mul_left _ hd
    have := fl_PhS T
    omega
  have hle : ∀ p, p ∈ q.1 → (ser N p.1).length ≤ 18434 ∧ (fl p.1).length < 9000 ∧ p.2 ≤ 40 := fun p hp => by
    obtain ⟨j, hj, ej⟩ := List.mem_iff_getElem.mp hp
    obtain ⟨g1, g2⟩ := gq.2.2 j p (by rw [List.getElem?_eq_getElem hj, ej])
    have := gq.1
    have l1 := hfl g2 (by omega)
    have := ser_len (S := p.1) h16
    exact ⟨by omega, l1, by omega⟩
  have flS := hfl g hdd
  have hsl : (ser N S).length ≤ 18434 := by have := ser_len (S := S) h16; omega
  have ho := offs_le (N := N) (l := q.1) (fun p hp => (hle p hp).1)
  have hq40 : q.1.length ≤ 40 := Nat.le_trans gq.1 h40
  have ho40 : offs N q.1 q.1.length ≤ 737360 := by
    have := ho q.1.length
    have : 18434 * q.1.length ≤ 18434 * 40 := Nat.mul_le_mul_left _ hq40
    omega
  obtain ⟨sx, s2, s3, s4, s5, s6, s7, s8, s9, s10, s11, s12⟩ := sq
  obtain ⟨L, xx, c, p⟩ := id h
  have hC := c.2.2.2.1
  have hN := xx.2.2.2.2
  obtain ⟨M1, d1, e1, V1, k1, w1, f1⟩ := h.save hX hY so s3 hq40 (sx.1 q.1.length (Nat.le_refl _)) s2 (by omega) (n := n) (by omega)
  have F1 := f1.q
  have o1 : ∀ o, 115 ≤ o → o ≤ 118 → ∀ b, mI M1 o b = mI M o b := fun o a b => f1.2.2.2.1 o (by omega) (by omega) (by omega)
  have g1 := f1.2.2.2.2.1
  have sx1 : XQ N M1 d1 q.1 := sx.cg (o1 115 (by decide) (by decide)) (o1 116 (by decide) (by decide)) k1
  have sq1 : ∀ b : Bool, (mI M1 114 15 = if b then 1 else 0) → SQ N ask sn most M1 (offs N q.1 q.1.length + (ser N S).length) d1 (q.1, b) := fun b hb => ⟨sx1, by show offs N q.1 q.1.length ≤ _; omega, by rw [g1 10 (by decide)]; exact s3, by rw [g1 8 (by decide)]; exact s4, by rw [g1 9 (by decide)]; exact s5, fun v hv => by rw [o1 118 (by decide) (by decide)]; exact s6 v hv, by rw [g1 11 (by decide)]; exact s7, by rw [g1 12 (by decide)]; exact s8, by rw [g1 13 (by decide)]; exact s9, by rw [g1 14 (by decide)]; exact s10, hb, fun i p hp => by rw [o1 117 (by decide) (by decide)]; exact s12 i p hp⟩
  obtain ⟨L1, x1, c1, p1⟩ := id V1
  obtain ⟨r, er, hr⟩ := known_l (S := S) x1 c1 sx1 (by rw [g1 10 (by decide)]; exact s3) hq40 w1 ho hsl (fun p hp => (hle p hp).1) q.1.length 0 n (by omega) (by omega)
  have hd1 := c1.2.2.2.1
  have dn4 : d1 ≠ 114 := by omega
  have dF : ¬ (114 ≤ d1 ∧ d1 ≤ 118) := by omega
  have hk := knw_ser h16 hA h40 hP hdd gq g hm
  have head : ∀ y : Option Mem, (if (if r then (1 : Int32) else 0) = 0 then (if nI q.1.length < nI most then (bnd (sI M1 116 q.1.length (nI dd)) fun M15 => bnd (mR M15 114 3) fun o19 => chk (isO M15 100 o19) <| bnd (mR M15 114 0) fun o22 => chk (isO M15 2 o22) <| chk (inB (mI M15 114 10) (mLn M15 o19)) <| bnd (sI M15 o19 ((mI M15 114 10)).toNatClampNeg (mI M15 o22 7)) fun M26 => bnd (sI M26 114 14 (if (mI M26 114 14) < nI dd then nI dd else (mI M26 114 14))) fun M32 => bnd (mR M32 114 0) fun o38 => chk (isO M32 2 o38) <| bnd (mR M32 o38 1) fun o41 => chk (isO M32 5 o41) <| bnd (sI M32 114 13 (if (mI M32 114 13) < (mI M32 o41 10) then (mI M32 o41 10) else (mI M32 114 13))) fun M44 => bnd (mR M44 114 0) fun o52 => chk (isO M44 2 o52) <| obd (f_J6_bitCount_0f7a4 (mI M44 o52 7) M44) fun r56 => if r56 < (2 : Int32) then f_X6_meet_112 n 114 (0 : Int32) (mI M44 114 11) 114 M44 else f_X6_meet_112 n 114 (1 : Int32) (mI M44 114 11) 114 M44) else some (sI M1 114 15 1)) else some M1) = y → f_X6_meet n 114 (nI dd) M = y := by
    intro y hy
    have i16 : ∀ x : Option Mem, q.1.length < most → chk (inB (nI q.1.length) (mLn M1 116)) x = x := fun x hx => by
      refine chk_t ?_
      rw [x1.2.2.2.1.2.1]; exact inB_n (by omega) (by decide)
    rw [f_X6_meet, chk_t xx.1, e1, obd_s, chk_t x1.1, f_X6_isKnown, show f_X6_isKnown_2 M1 n 114 0 = _ from er, obd_s, g1 10 (by decide), s3, g1 8 (by decide), s4]
    rw [← hy]
    by_cases z : q.1.length < most
    · rw [if_pos (nI_ltx z (by omega)), if_pos (nI_ltx z (by omega)), x1.2.1.2.2.1, bnd_e, chk_t x1.2.2.1.2.1, i16 _ z, sI_c (by omega)]
    · rw [if_neg (nI_nl (by omega) (by omega)), if_neg (nI_nl (by omega) (by omega)), chk_t (show bz (1 : Int32) by decide), bnd_e]
  cases r with
  | true =>
    have kt := hk.mpr (hr.mp rfl)
    refine ⟨M1, _, d1, head _ (by rw [if_neg (by decide)]), V1, ?_, F1⟩
    unfold met1
    rw [if_pos kt]
    exact sq1 q.2 (by rw [g1 15 (by decide)]; exact s11)
  | false =>
    have kf : ¬ knw q.1 Sm = true := fun z => absurd (hr.mpr (hk.mp z)) (by decide)
    by_cases z : q.1.length < most
    · have x1N := x1.2.2.2.2
      have q1 := p1.1
      have r7 : mI M1 63 7 = mkS S 2 := b_ext (fun i hi => by rw [p1.2.2.1.2.1 i hi, mkS_b hi])
      have fS : (fl Sm).length = (fl S).length := (len_lq (fl_lk.mp hm.2.2)).symm
      have cm9 : cMx q.1 ≤ 9000 := cMx_le (fun p hp => by have := (hle p hp).2.1; omega)
      have cd9 : cDp q.1 ≤ 40 := cDp_le (fun p hp => (hle p hp).2.2)
      generalize hMa : sI M1 116 q.1.length (nI dd) = Ma
      generalize hMb : sI Ma 117 q.1.length (mkS S 2) = Mb
      generalize hMc : sI Mb 114 14 (nI (max (cDp q.1) dd)) = Mc
      generalize hMd : sI Mc 114 13 (nI (max (cMx q.1) (fl S).length)) = Md
      have sa : Ma.1 = M1.1 := by rw [← hMa]; rfl
      have sb : Mb.1 = M1.1 := by rw [← hMb]; exact sa
      have sc : Mc.1 = M1.1 := by rw [← hMc]; exact sb
      have sd : Md.1 = M1.1 := by rw [← hMd]; exact sc
      have oa : ∀ o, o ≠ 116 → ∀ b, mI Ma o b = mI M1 o b := fun o n b => by rw [← hMa, mI_o _ _ _ _ _ n]
      have ob : ∀ o, o ≠ 116 → o ≠ 117 → ∀ b, mI Mb o b = mI M1 o b := fun o n n' b => by rw [← hMb, mI_o _ _ _ _ _ n', oa o n]
      have oc : ∀ o, o ≠ 116 → o ≠ 117 → o ≠ 114 → ∀ b, mI Mc o b = mI M1 o b := fun o n n' m b => by rw [← hMc, mI_o _ _ _ _ _ m, ob o n n']
      have od : ∀ o, o ≠ 116 → o ≠ 117 → o ≠ 114 → ∀ b, mI Md o b = mI M1 o b := fun o n n' m b => by rw [← hMd, mI_o _ _ _ _ _ m, oc o n n' m]
      have c4 : ∀ b, b ≠ 14 → mI Mc 114 b = mI M1 114 b := fun b n => by rw [← hMc, mI_n _ _ _ _ n, ob 114 (by decide) (by decide)]
      have d4 : ∀ b, b ≠ 13 → b ≠ 14 → mI Md 114 b = mI M1 114 b := fun b n n' => by rw [← hMd, mI_n _ _ _ _ n, c4 b n']
      have Vd : SV X0 Y0 t N Q pb pt S Md (offs N q.1 q.1.length + (ser N S).length) d1 := V1.at5 sd (fun o n b => od o (by omega) (by omega) (by omega) b) (d4 6 (by decide) (by decide))
      have c12 : mI Md 114 12 = nI (cStk N ask sn q.1) := by rw [d4 12 (by decide) (by decide), g1 12 (by decide)]; exact s8
      have c11 : mI Md 114 11 = nI (cTwo N q.1) := by rw [d4 11 (by decide) (by decide), g1 11 (by decide)]; exact s7
      have c10 : mI Md 114 10 = nI q.1.length := by rw [d4 10 (by decide) (by decide), g1 10 (by decide)]; exact s3
      have tail : ∀ u0 : Int32, f_X6_meet_112 n 114 u0 (mI Md 114 11) 114 Md = _ := fun u0 => m112 Vd (n := n) (m := q.1.length) (ask := ask) (sn := sn) (u0 := u0) (u1 := mI Md 114 11) hI h16 hQ (by rw [d4 9 (by decide) (by decide), g1 9 (by decide)]; exact s5) (fun v hv => by rw [od 118 (by decide) (by decide) (by decide), o1 118 (by decide) (by decide)]; exact s6 v hv) c10 (by omega) c12 (by omega)
      have bits : ∀ w, w < 32 → bt (mkS S 2) w = decide (w < N ∧ xR S 0 w = 2) := fun w hw => by
        rw [mkS_b hw]
        refine decide_eq_decide.mpr ⟨fun x => ⟨?_, x.2⟩, fun x => ⟨by omega, x.2⟩⟩
        rcases Nat.lt_or_ge w N with y | y
        · exact y
        · have := (hI.1 w x.1).2.1 y
          rw [this] at x
          exact absurd x.2 (by decide)
      have bc := f_bcx (x := mkS S 2) (fun i a b => by rw [mkS_b b]; exact decide_eq_false (fun x => by omega)) Md
      rw [pc_mask bits] at bc
      have m63 : mI Md 63 7 = mkS S 2 := by rw [od 63 (by decide) (by decide) (by decide)]; exact r7
      have lhs : f_X6_meet n 114 (nI dd) M = some (sI (sI (sI (sI Md 114 11 (nI (cTwo N q.1 + if sTwo N S then 1 else 0))) 114 12 (nI (cStk N ask sn q.1 + if sStk N ask sn S then 1 else 0))) 114 10 (nI (q.1.length + 1))) 115 (q.1.length + 1) (nI (offs N q.1 q.1.length + (ser N S).length))) := by
        refine head _ ?_
        have xa := x1.e sa
        have xb := x1.e sb
        have xc := x1.e sc
        have xd := x1.e sd
        have qa := q1.e sa
        have qc := q1.e sc
        have qd := q1.e sd
        have l17 : mLn Ma 117 = 40 := xa.2.2.2.1.2.2.1
        have a10 : mI Ma 114 10 = nI q.1.length := by rw [oa 114 (by decide), g1 10 (by decide)]; exact s3
        have b14 : mI Mb 114 14 = nI (cDp q.1) := by rw [ob 114 (by decide) (by decide), g1 14 (by decide)]; exact s10
        have c13 : mI Mc 114 13 = nI (cMx q.1) := by rw [c4 13 (by decide), g1 13 (by decide)]; exact s9
        have c64 : mI Mc (63 + 1) 10 = nI (fl S).length := by rw [oc _ (by decide) (by decide) (by decide)]; exact p1.tot
        rw [if_pos (by decide), if_pos (nI_ltx z (by omega)), hMa, bnd_e, xa.2.1.2.2.2.1, bnd_e, chk_t xa.2.2.1.2.2.1, xa.2.1.1, bnd_e, cs_f qa, a10, l17, chk_t (inB_n (by omega) (by decide)), sI_c (by omega), oa 63 (by decide), r7, hMb, bnd_e, b14, nI_max (by omega) (by omega), hMc, bnd_e, xc.2.1.1, bnd_e, cs_f qc, cs_h1 qc, bnd_e, cs_p qc, c13, c64, nI_max (by omega) (by omega), hMd, bnd_e, xd.2.1.1, bnd_e, cs_f qd, m63, bc, obd_s]
        by_cases w : pcI N S ≤ 1
        · rw [if_pos (show nI (pcI N S) < (2 : Int32) from nI_ltx (b := 2) (by omega) (by decide)), tail, c11]
          have : sTwo N S = false := by unfold sTwo; rw [decide_eq_true w]; rfl
          rw [this, Int32.add_zero]; rfl
        · have l32 : pcI N S < 2 ^ 31 := by
            unfold pcI
            refine Nat.lt_of_le_of_lt (List.length_filter_le _ _) ?_
            rw [List.length_range]; decide
          rw [if_neg (show ¬ nI (pcI N S) < (2 : Int32) from nI_nl (b := 2) (by omega) l32), tail, c11]
          have : sTwo N S = true := by unfold sTwo; rw [decide_eq_false w]; rfl
          rw [this, nI_1]; rfl
      generalize hMe : sI (sI (sI (sI Md 114 11 (nI (cTwo N q.1 + if sTwo N S then 1 else 0))) 114 12 (nI (cStk N ask sn q.1 + if sStk N ask sn S then 1 else 0))) 114 10 (nI (q.1.length + 1))) 115 (q.1.length + 1) (nI (offs N q.1 q.1.length + (ser N S).length)) = Me at lhs
      have se : Me.1 = M1.1 := by rw [← hMe]; exact sd
      have oe : ∀ o, o ≠ 114 → o ≠ 115 → ∀ b, mI Me o b = mI Md o b := fun o n n' b => by rw [← hMe, mI_o _ _ _ _ _ n', mI_o _ _ _ _ _ n, mI_o _ _ _ _ _ n, mI_o _ _ _ _ _ n]
      have e4 : ∀ b, b ≠ 10 → b ≠ 11 → b ≠ 12 → mI Me 114 b = mI Md 114 b := fun b n n' n'' => by rw [← hMe, mI_o _ _ _ _ _ (by decide), mI_n _ _ _ _ n, mI_n _ _ _ _ n'', mI_n _ _ _ _ n']
      have e15 : ∀ b, b ≠ q.1.length + 1 → mI Me 115 b = mI M1 115 b := fun b n => by rw [← hMe, mI_n _ _ _ _ n, mI_o _ _ _ _ _ (by decide), mI_o _ _ _ _ _ (by decide), mI_o _ _ _ _ _ (by decide), od 115 (by decide) (by decide) (by decide)]
      have e16 : ∀ b, mI Me 116 b = if b = q.1.length then nI dd else mI M1 116 b := fun b => by
        rw [oe 116 (by decide) (by decide), ← hMd, mI_o _ _ _ _ _ (by decide), ← hMc, mI_o _ _ _ _ _ (by decide), ← hMb, mI_o _ _ _ _ _ (by decide), ← hMa, mI_sI]
        by_cases y : b = q.1.length
        · rw [if_pos ⟨rfl, y⟩, if_pos y]
        · rw [if_neg (fun x => y x.2), if_neg y]
      have e17 : ∀ b, mI Me 117 b = if b = q.1.length then mkS S 2 else mI M1 117 b := fun b => by
        rw [oe 117 (by decide) (by decide), ← hMd, mI_o _ _ _ _ _ (by decide), ← hMc, mI_o _ _ _ _ _ (by decide), ← hMb, mI_sI, oa 117 (by decide)]
        by_cases y : b = q.1.length
        · rw [if_pos ⟨rfl, y⟩, if_pos y]
        · rw [if_neg (fun x => y x.2), if_neg y]
      have eo : ∀ o, ¬ (114 ≤ o ∧ o ≤ 118) → ∀ b, mI Me o b = mI M1 o b := fun o n b => by rw [oe o (by omega) (by omega), od o (by omega) (by omega) (by omega)]
      have mkc : mkS Sm 2 = mkS S 2 := b_ext (fun i hi => by
        rw [mkS_b hi, mkS_b hi]
        by_cases y : i < 16
        · rw [hm.1 0 i (by omega) y]
        · rw [decide_eq_false (fun x => y x.1), decide_eq_false (fun x => y x.1)])
      have lp : (q.1 ++ [(Sm, dd)])[q.1.length]? = some (Sm, dd) := by
        rw [List.getElem?_append_right (Nat.le_refl _), Nat.sub_self]; rfl
      have esr : ser N Sm = ser N S := (ser_c hm h16).symm
      have of1 : offs N (q.1 ++ [(Sm, dd)]) (q.1.length + 1) = offs N q.1 q.1.length + (ser N S).length := by
        rw [offs_s lp, offs_ap (Nat.le_refl _)]
        show _ + (ser N Sm).length = _
        rw [esr]
      have ll : (q.1 ++ [(Sm, dd)]).length = q.1.length + 1 := by rw [List.length_append]; rfl
      have cse : ∀ {i : Nat} {p : St × Nat}, (q.1 ++ [(Sm, dd)])[i]? = some p → (i < q.1.length ∧ q.1[i]? = some p) ∨ (i = q.1.length ∧ p = (Sm, dd)) := fun {i p} hp => by
        by_cases y : i < q.1.length
        · rw [List.getElem?_append_left y] at hp; exact Or.inl ⟨y, hp⟩
        · have y2 := gl_lt hp
          rw [ll] at y2
          have y3 : i = q.1.length := by omega
          rw [y3, lp] at hp
          exact Or.inr ⟨y3, (Option.some.inj hp).symm⟩
      have esk : sStk N ask sn S = sStk N ask sn Sm := by
        unfold sStk
        rw [hm.ask0 h16, (hm.sy.tmv h16 ask (fun _ _ => rfl) : mvl N S ask sn = mvl N Sm ask sn)]
      refine ⟨Me, _, d1, lhs, Vd.at5 (se.trans sd.symm) (fun o n b => oe o (by omega) (by omega) b) (e4 6 (by decide) (by decide) (by decide)), ?_, F1.tr (FrQ.of se eo (fun o b => by rw [← hMe, ← hMd, ← hMc, ← hMb, ← hMa]; rfl))⟩
      unfold met1
      rw [if_neg kf, if_pos z]
      refine ⟨⟨fun i hi => ?_, fun i p hp => ⟨fun j x hx => ?_, ?_⟩⟩, ?_, ?_, ?_, ?_, fun v hv => ?_, ?_, ?_, ?_, ?_, ?_, fun i p hp => ?_⟩
      · show mI Me 115 i = _
        by_cases y : i = q.1.length + 1
        · rw [y, of1, ← hMe, mI_s]
        · have hi' : i ≤ q.1.length + 1 := by rw [← ll]; exact hi
          rw [e15 i y, offs_ap (by omega)]
          exact sx1.1 i (by omega)
      · rcases cse hp with ⟨y, hp'⟩ | ⟨y, hp'⟩
        · rw [offs_ap (by omega), eo d1 dF]
          exact (sx1.2 i p hp').1 j x hx
        · rw [y, offs_ap (Nat.le_refl _), eo d1 dF]
          rw [hp'] at hx
          exact w1 j x (by rw [← esr]; exact hx)
      · rw [e16]
        rcases cse hp with ⟨y, hp'⟩ | ⟨y, hp'⟩
        · rw [if_neg (by omega)]; exact (sx1.2 i p hp').2
        · rw [if_pos y, hp']
      · show offs N (q.1 ++ [(Sm, dd)]) (q.1 ++ [(Sm, dd)]).length ≤ _
        rw [ll, of1]; exact Nat.le_refl _
      · show mI Me 114 10 = nI (q.1 ++ [(Sm, dd)]).length
        rw [ll, ← hMe, mI_o _ _ _ _ _ (by decide), mI_s]
      · rw [e4 8 (by decide) (by decide) (by decide), d4 8 (by decide) (by decide), g1 8 (by decide)]; exact s4
      · rw [e4 9 (by decide) (by decide) (by decide), d4 9 (by decide) (by decide), g1 9 (by decide)]; exact s5
      · rw [oe 118 (by decide) (by decide), od 118 (by decide) (by decide) (by decide), o1 118 (by decide) (by decide)]; exact s6 v hv
      · show mI Me 114 11 = nI (cTwo N (q.1 ++ [(Sm, dd)]))
        rw [← hMe, mI_o _ _ _ _ _ (by decide), mI_n _ _ _ _ (by decide), mI_n _ _ _ _ (by decide), mI_s]
        unfold cTwo
        rw [ct_s, hm.two h16]
      · show mI Me 114 12 = nI (cStk N ask sn (q.1 ++ [(Sm, dd)]))
        rw [← hMe, mI_o _ _ _ _ _ (by decide), mI_n _ _ _ _ (by decide), mI_s]
        unfold cStk
        rw [ct_s, esk]
      · show mI Me 114 13 = nI (cMx (q.1 ++ [(Sm, dd)]))
        rw [e4 13 (by decide) (by decide) (by decide), ← hMd, mI_s, cMx_s]
        show _ = nI (max (cMx q.1) (fl Sm).length)
        rw [fS]
      · show mI Me 114 14 = nI (cDp (q.1 ++ [(Sm, dd)]))
        rw [e4 14 (by decide) (by decide) (by decide), ← hMd, mI_n _ _ _ _ (by decide), ← hMc, mI_s, cDp_s]
      · rw [e4 15 (by decide) (by decide) (by decide), d4 15 (by decide) (by decide), g1 15 (by decide)]; exact s11
      · rw [e17]
        rcases cse hp with ⟨y, hp'⟩ | ⟨y, hp'⟩
        · rw [if_neg (by omega), o1 117 (by decide) (by decide)]; exact s12 i p hp'
        · rw [if_pos y, hp']; exact mkc.symm
    · have hs : SQ N ask sn most (sI M1 114 15 1) (offs N q.1 q.1.length + (ser N S).length) d1 (q.1, true) := by
        obtain ⟨a1, a2, a3, a4, a5, a6, a7, a8, a9, a10, a11, a12⟩ := sq1 q.2 (by rw [g1 15 (by decide)]; exact s11)
        have n4 : ∀ b, b ≠ 15 → mI (sI M1 114 15 1) 114 b = mI M1 114 b := fun b n => mI_n _ _ _ _ n
        have n5 : ∀ o, o ≠ 114 → ∀ b, mI (sI M1 114 15 1) o b = mI M1 o b := fun o n b => mI_o _ _ _ _ _ n
        exact ⟨a1.cg (n5 115 (by decide)) (n5 116 (by decide)) (fun j _ => n5 d1 dn4 j), a2, (n4 10 (by decide)).trans a3, (n4 8 (by decide)).trans a4, (n4 9 (by decide)).trans a5, fun v hv => (n5 118 (by decide) v).trans (a6 v hv), (n4 11 (by decide)).trans a7, (n4 12 (by decide)).trans a8, (n4 13 (by decide)).trans a9, (n4 14 (by decide)).trans a10, mI_s _ _ _ _, fun i p hp => (n5 117 (by decide) i).trans (a12 i p hp)⟩
      refine ⟨sI M1 114 15 1, _, d1, head _ (by rw [if_pos (by decide), if_neg (nI_nl (by omega) (by omega))]), V1.at5 rfl (fun o n b => mI_o _ _ _ _ _ (by omega)) (mI_n _ _ _ _ (by decide)), ?_, F1.tr (FrQ.of rfl (fun o n b => mI_o _ _ _ _ _ (by omega)) (fun _ _ => rfl))⟩
      unfold met1
      rw [if_neg kf, if_neg z]
      exact hs
end
/-! ===== the class's search: from a state on ===== -/
/-- the hall searched in and the search alone have changed -/
def FrS (D : Nat → Prop) (M M' : Mem) : Prop := mN M ≤ mN M' ∧ (∀ o, o < mN M → M'.1.2.1 o = M.1.2.1 o) ∧ (∀ o b, o < mN M → ¬ (o = 64 ∧ 5 ≤ b ∧ b ≤ 7) → ¬ (o = 114 ∧ b = 5) → mR M' o b = mR M o b) ∧ (∀ o, (o < 131 ∧ ¬ (63 ≤ o ∧ o < 112) ∧ ¬ (114 ≤ o ∧ o ≤ 119)) ∨ D o → ∀ b, mI M' o b = mI M o b) ∧ ∀ o, o < mN M → ∀ b, mL M' o b = mL M o b
theorem FrS.rf (D : Nat → Prop) (M : Mem) : FrS D M M := ⟨Nat.le_refl _, fun _ _ => rfl, fun _ _ _ _ _ => rfl, fun _ _ _ => rfl, fun _ _ _ => rfl⟩
theorem FrS.tr {D : Nat → Prop} {M M' M'' : Mem} (p : FrS D M M') (p' : FrS D M' M'') : FrS D M M'' := by
  obtain ⟨a1, a2, a3, a4, a5⟩ := p
  obtain ⟨b1, b2, b3, b4, b5⟩ := p'
  exact ⟨Nat.le_trans a1 b1, fun o h => (b2 o (by omega)).trans (a2 o h), fun o b h n n' => (b3 o b (by omega) n n').trans (a3 o b h n n'), fun o h b => (b4 o h b).trans (a4 o h b), fun o h b => (b5 o (by omega) b).trans (a5 o h b)⟩
/-- what is to stay lies apart from the hall searched in and the search -/
def Sep (D : Nat → Prop) (M : Mem) (d : Nat) : Prop := ∀ o, D o → o < mN M ∧ ¬ (63 ≤ o ∧ o < 112) ∧ ¬ (114 ≤ o ∧ o ≤ 118) ∧ o ≠ d ∧ ∀ i, 5 ≤ i → i ≤ 7 → o ≠ mR M 64 i
theorem FrQ.s {D : Nat → Prop} {M M' : Mem} {a b : Nat} (f : FrQ M M' a b) (hN : 131 ≤ mN M) (ha : a = 119 ∨ 131 ≤ a) (hs : Sep D M a) : FrS D M M' ∧ Sep D M' b := by
  obtain ⟨f1, f2, f3, f4, f5, f6⟩ := f
  refine ⟨⟨f1, f2, fun o b h _ n => f3 o b h n, fun o h b => ?_, f5⟩, fun o ho => ?_⟩
  · rcases h with h | h
    · exact f4 o (by omega) (by omega) (by omega) b
    · obtain ⟨s1, s2, s3, s4, s5⟩ := hs o h
      exact f4 o s1 s3 s4 b
  · obtain ⟨s1, s2, s3, s4, s5⟩ := hs o ho
    refine ⟨by omega, s2, s3, ?_, fun i h5 h7 => ?_⟩
    · rcases f6 with z | z
      · rw [z]; exact s4
      · omega
    · rw [f3 64 i (by omega) (by omega)]; exact s5 i h5 h7
theorem FrUp.s {D : Nat → Prop} {M M' : Mem} {d : Nat} (f : FrUp M M') (hN : 131 ≤ mN M) (hR : ∀ i, 5 ≤ i → i ≤ 7 → mR M 64 i = 63 + 2 + i ∨ 131 ≤ mR M 64 i) (hs : Sep D M d) : FrS D M M' ∧ Sep D M' d := by
  obtain ⟨f1, f2, f3, f4, f5, f6, f7⟩ := f
  have r5 := hR 5 (by decide) (by decide)
  have r6 := hR 6 (by decide) (by decide)
  have r7 := hR 7 (by decide) (by decide)
  refine ⟨⟨f1, f2, fun o b h n _ => f3 o b h n, fun o h b => ?_, f6⟩, fun o ho => ?_⟩
  · rcases h with h | h
    · exact f4 o (by omega) h.2.1 (by omega) (by omega) (by omega) (by omega) b
    · obtain ⟨s1, s2, s3, s4, s5⟩ := hs o h
      exact f4 o s1 s2 (by omega) (s5 5 (by decide) (by decide)) (s5 6 (by decide) (by decide)) (s5 7 (by decide) (by decide)) b
  · obtain ⟨s1, s2, s3, s4, s5⟩ := hs o ho
    refine ⟨by omega, s2, s3, s4, fun i h5 h7 => ?_⟩
    rcases f7 i h5 h7 with z | z
    · rw [z]; exact s5 i h5 h7
    · omega
section
variable {X0 Y0 N : Nat} {t : Int32} {Q : Nat → Int32} {S : St} {pb pt : List Row4} {M : Mem} {e dC : Nat}
theorem SV.go (h : SV X0 Y0 t N Q pb pt S M e dC) {F : Mem → Option Mem} {S' : St} (hf : ∀ X Y, HV M 63 X Y t N Q S pb pt → ∃ M', F M = some M' ∧ HV M' 63 X Y t N Q S' pb pt ∧ FrH M M' 63) : ∃ M', F M = some M' ∧ SV X0 Y0 t N Q pb pt S' M' e dC ∧ FrUp M M' ∧ ∀ b, mI M' dC b = mI M dC b := by
  obtain ⟨L, sx, c, p⟩ := h
  obtain ⟨M', e1, p', f⟩ := hf _ _ p
  have f' := f.up sx.2.2.2.2 p.r57
  obtain ⟨c', cc⟩ := c.up sx.2.2.2.2 f'
  exact ⟨M', e1, ⟨L, sx.up f', c', p'⟩, f', cc⟩
theorem SV.frs {D : Nat → Prop} (h : SV X0 Y0 t N Q pb pt S M e dC) {M' : Mem} (f : FrUp M M') (hs : Sep D M dC) : FrS D M M' ∧ Sep D M' dC := by
  obtain ⟨L, sx, c, p⟩ := h
  exact f.s sx.2.2.2.2 p.r57 hs
theorem SV.frq {D : Nat → Prop} (h : SV X0 Y0 t N Q pb pt S M e dC) {M' : Mem} {d : Nat} (f : FrQ M M' dC d) (hs : Sep D M dC) : FrS D M M' ∧ Sep D M' d := by
  obtain ⟨L, sx, c, p⟩ := h
  exact f.s sx.2.2.2.2 c.2.2.2.1 hs
theorem SQ.up {ask : Int32} {sn : Nat → Int32} {most : Nat} {q : Bq} (s : SQ N ask sn most M e dC q) (h : SV X0 Y0 t N Q pb pt S M e dC) {M' : Mem} (f : FrUp M M') (hc : ∀ b, mI M' dC b = mI M dC b) : SQ N ask sn most M' e dC q := by
  obtain ⟨L, sx, c, p⟩ := h
  have hN := sx.2.2.2.2
  have r5 := p.r57 5 (by decide) (by decide)
  have r6 := p.r57 6 (by decide) (by decide)
  have r7 := p.r57 7 (by decide) (by decide)
  obtain ⟨f1, f2, f3, f4, f5, f6, f7⟩ := f
  have o : ∀ o, 115 ≤ o → o ≤ 118 → ∀ b, mI M' o b = mI M o b := fun o a z b => f4 o (by omega) (by omega) (by omega) (by omega) (by omega) (by omega) b
  obtain ⟨a1, a2, a3, a4, a5, a6, a7, a8, a9, a10, a11, a12⟩ := s
  exact ⟨a1.cg (o 115 (by decide) (by decide)) (o 116 (by decide) (by decide)) (fun j _ => hc j), a2, (f5 10 (by decide)).trans a3, (f5 8 (by decide)).trans a4, (f5 9 (by decide)).trans a5, fun v hv => (o 118 (by decide) (by decide) v).trans (a6 v hv), (f5 11 (by decide)).trans a7, (f5 12 (by decide)).trans a8, (f5 13 (by decide)).trans a9, (f5 14 (by decide)).trans a10, (f5 15 (by decide)).trans a11, fun i p hp => (o 117 (by decide) (by decide) i).trans (a12 i p hp)⟩
theorem ms_asks {ask : Int32} {sn : Nat → Int32} (h16 : N ≤ 16) : ms ((asks' 0 N N S ask sn).foldl (fun m g => bon m g) 0) = asks' 0 N N S ask sn := by
  have hb : ∀ u, u < 16 → bt ((asks' 0 N N S ask sn).foldl (fun m g => bon m g) 0) u = decide (u ∈ asks' 0 N N S ask sn) := fun u hu => by
    rw [fn_b _ _ _ (by omega) (fun w hw => by have := asks_m (i := 0) (d := N) (by omega) hw; omega), b_0, Bool.false_or]
  have hm : ∀ u, u ∈ asks' 0 N N S ask sn → u < N := fun u hu => by
    have := List.mem_range'_1.mp (List.mem_filter.mp hu).1
    omega
  unfold ms
  have e16 : List.range 16 = List.range' 0 N ++ List.range' N (16 - N) := by
    have a := List.range'_append_1 (s := 0) (m := N) (n := 16 - N)
    rw [Nat.zero_add, show N + (16 - N) = 16 by omega] at a
    rw [List.range_eq_range', ← a]
  rw [e16, List.filter_append]
  have z2 : (List.range' N (16 - N)).filter (fun i => bt ((asks' 0 N N S ask sn).foldl (fun m g => bon m g) 0) i) = [] := by
    rw [List.filter_eq_nil_iff]
    intro u hu
    have hu' := List.mem_range'_1.mp hu
    rw [hb u (by omega), decide_eq_true_eq]
    intro w
    have := hm u w
    omega
  rw [z2, List.append_nil]
  have z1 : (List.range' 0 N).filter (fun i => bt ((asks' 0 N N S ask sn).foldl (fun m g => bon m g) 0) i) = (List.range' 0 N).filter fun v => bt ask v && (mayA N v S && decide (xR S 2 v = sn v)) := by
    apply List.filter_congr
    intro u hu
    have hu' := List.mem_range'_1.mp hu
    rw [hb u (by omega)]
    unfold asks'
    rw [Bool.eq_iff_iff, decide_eq_true_eq, List.mem_filter]
    exact ⟨fun x => x.2, fun x => ⟨hu, x⟩⟩
  rw [z1]
  rfl
theorem Tok_of {A P d : Nat} {S0 T : St} (g : GS N A P S0 T d) (h16 : N ≤ 16) (hA : A + d < 1048576) (hfl : (fl T).length < 9000) : Tok N T := by
  have hI := g.1
  refine ⟨h16, hfl, fun l hl => (hI.2.2.2.2.1 l hl).2, fun l hl x hx => ?_, fun v hv => ⟨fun w hw => ?_, ?_, (hI.1 v hv).2.2.2⟩⟩
  · obtain ⟨a, s, hs, es⟩ := (hI.2.2.2.2.1 l hl).1 x hx
    exact ⟨a, s, by omega, es⟩
  · have := ((hI.2.2.2.2.2.1 v hv).1.2.2 w hw).1
    omega
  · exact (hI.2.2.2.2.2.1 v hv).1.2.1
end
/-! ===== the class's search: all moves of a state ===== -/
theorem asks_c {S S' : St} (h : SE S S') {N : Nat} (h16 : N ≤ 16) (ask : Int32) (sn : Nat → Int32) : asks' 0 N N S ask sn = asks' 0 N N S' ask sn := by
  unfold asks'
  apply List.filter_congr
  intro v hv
  have := List.mem_range'_1.mp hv
  rw [h.tma h16 (by omega), h.1 2 v (by omega) (by omega)]
theorem mv0_c {S S' : St} (h : SE S S') {N : Nat} (h16 : N ≤ 16) : mv0 N S = mv0 N S' := by
  have := h.sy.tmv h16 0 (sn := fun _ => 0) (sn' := fun _ => 0) (fun _ _ => rfl)
  rwa [mvl_0, mvl_0] at this
def CM (D : Nat → Prop) (X0 Y0 : Nat) (t : Int32) (N : Nat) (Q : Nat → Int32) (pb pt : List Row4) (A P most : Nat) (S0 : St) (ask : Int32) (sn : Nat → Int32) (M : Mem) (q : Bq) : Prop := ∃ S e dC d, SV X0 Y0 t N Q pb pt S M e dC ∧ GS N A P S0 S d ∧ SQ N ask sn most M e dC q ∧ Sep D M dC
section
variable {D : Nat → Prop} {X0 Y0 N : Nat} {t : Int32} {Q : Nat → Int32} {pb pt : List Row4} {A P most : Nat} {S0 : St} {ask : Int32} {sn : Nat → Int32}
/-- a state met, taken up -/
theorem CM.rc {M : Mem} {q : Bq} {i n : Nat} {p : St × Nat} (k : SK N A P most S0) (gq : GQ N A P most S0 q) (h : CM D X0 Y0 t N Q pb pt A P most S0 ask sn M q) (hp : q.1[i]? = some p) (hn : 9400 ≤ n) : ∃ M' S e dC, f_X6_recall n 114 (nI i) M = some M' ∧ SV X0 Y0 t N Q pb pt S M' e dC ∧ GS N A P S0 S p.2 ∧ SE S p.1 ∧ SQ N ask sn most M' e dC q ∧ Sep D M' dC ∧ FrS D M M' ∧ mI M' 114 15 = mI M 114 15 := by
  obtain ⟨h2, h16, h40, hA, hP, hN0, ht0, hQ⟩ := id k
  obtain ⟨S, e, dC, d, v, g, s, hs⟩ := h
  obtain ⟨dp, gp⟩ := gq.2.2 i p hp
  have hi := gl_lt hp
  have hl := gq.1
  have o1 := offs_s (N := N) hp
  have o2 := offs_mono (N := N) (l := q.1) (q.1.length - (i + 1)) (i + 1)
  rw [show i + 1 + (q.1.length - (i + 1)) = q.1.length by omega] at o2
  obtain ⟨M', S', e1, v', f, cc, se, g', _, _⟩ := v.recall (n := n) gp g (by omega) (Tok_of gp h16 (by omega) (by have := gp.fl k (by omega); omega)) (i := i) (by omega) (s.1.1 i (by omega)) (fun j x hx => (s.1.2 i p hp).1 j x hx) (by have := s.2.1; omega) hn
  exact ⟨M', S', e, dC, e1, v', g', se, s.up v f cc, (v.frs f hs).2, (v.frs f hs).1, f.2.2.2.2.1 15 (by decide)⟩
set_option maxHeartbeats 2000000 in
theorem ru_65 (k : SK N A P most S0) (hX : X0 ≤ 100000) (hY : Y0 ≤ 1000000) (hQc : ∀ v, v < N → qm N S0 v = Q v) (K : Nat → Int32 → Mem → Option Mem) {i : Nat} {p : St × Nat} (hi : i < most) : ∀ (d j n : Nat) (M : Mem) (q : Bq), j + d = (mvl N p.1 ask sn).length → q.1[i]? = some p → GQ N A P most S0 q → CM D X0 Y0 t N Q pb pt A P most S0 ask sn M q → d + 21000 ≤ n → ∃ M', f_X6_run_65 K n 114 (nI i) (nI (mv0 N p.1).length) ((asks' 0 N N p.1 ask sn).foldl (fun m g => bon m g) 0) (nI (mvl N p.1 ask sn).length) (nI j) M = K 114 (nI (i + 1)) M' ∧ GQ N A P most S0 (exl N most p.1 p.2 ((mvl N p.1 ask sn).drop j) q) ∧ CM D X0 Y0 t N Q pb pt A P most S0 ask sn M' (exl N most p.1 p.2 ((mvl N p.1 ask sn).drop j) q) ∧ FrS D M M' := by
  obtain ⟨h2, h16, h40, hA, hP, hN0, ht0, hQ⟩ := id k
  intro d
  induction d with
  | zero =>
    intro j n M q hj hp gq hM hn
    obtain ⟨n, rfl⟩ : ∃ m, n = m + 1 := ⟨n - 1, by omega⟩
    have hml := mvl_len (N := N) p.1 ask sn
    rw [List.drop_of_length_le (by omega)]
    refine ⟨M, ?_, gq, hM, FrS.rf D M⟩
    rw [f_X6_run_65, if_pos (nI_le (by omega) (by omega)), nI_1, bnd_e]
  | succ d ih =>
    intro j n M q hj hp gq hM hn
    obtain ⟨n, rfl⟩ : ∃ m, n = m + 1 := ⟨n - 1, by omega⟩
    have hml := mvl_len (N := N) p.1 ask sn
    have hjl : j < (mvl N p.1 ask sn).length := by omega
    obtain ⟨Sx, ex, dx, ddx, vx, gx, sx', _⟩ := id hM
    have i114 : isO M 6 114 := by obtain ⟨L, sx, _⟩ := vx; exact sx.1
    have h15 := sx'.2.2.2.2.2.2.2.2.2.2.1
    by_cases hb : q.2 = true
    · have hl := gq.2.1 hb
      rw [exl_full hb hl]
      refine ⟨M, ?_, gq, hM, FrS.rf D M⟩
      rw [f_X6_run_65, if_neg (nI_ge (by omega) (by omega)), chk_t i114, h15, if_pos hb, if_neg ne10, nI_1, bnd_e]
    · rw [if_neg hb] at h15
      obtain ⟨M1, S, e, dC, e1, v1, g1, se, s1, hs1, f1, _⟩ := hM.rc k gq hp (n := n) (by omega)
      obtain ⟨dp, gp⟩ := gq.2.2 i p hp
      have hil := gl_lt hp
      have hl40 := gq.1
      have hmv : mvl N S ask sn = mvl N p.1 ask sn := se.sy.tmv h16 ask (fun _ _ => rfl)
      generalize hcc : (mvl N p.1 ask sn)[j] = c
      have hcj : (mvl N S ask sn)[j]? = some c := by rw [hmv, ← hcc]; exact List.getElem?_eq_getElem hjl
      have hcm : c ∈ mvl N p.1 ask sn := by rw [← hcc]; exact List.getElem_mem hjl
      have ok := mvl_ok gp.1 h16 hcm
      have ok2 := mvl_ok g1.1 h16 (by rw [hmv]; exact hcm : c ∈ mvl N S ask sn)
      have g3 := g1.mv h2 h16 (by omega) hQ ok2 t
      have gm := gp.mv h2 h16 (by omega) hQ ok 0
      have sm : SE (dm t N c S) (dm 0 N c p.1) := se.tdm g1.1 h16 (by
        rcases ok2 with z | z | z
        · exact Or.inl z
        · exact Or.inr (Or.inl ⟨z.1, z.2.1, z.2.2.1⟩)
        · exact Or.inr (Or.inr ⟨z.1, z.2.1⟩))
      have hfl := g1.fl k (by omega)
      have qS : ∀ v, v < N → qm N S v = Q v := fun v hv => by rw [g1.2.2.1.m]; exact hQc v hv
      have e0 : mv0 N S = mv0 N p.1 := mv0_c se h16
      have ea : asks' 0 N N S ask sn = asks' 0 N N p.1 ask sn := asks_c se h16 ask sn
      have emv : mvl N S ask sn = mv0 N S ++ (asks' 0 N N S ask sn).map (fun v => 272 + v) := rfl
      have hl0 : (mv0 N p.1).length ≤ (mvl N p.1 ask sn).length := by
        rw [show mvl N p.1 ask sn = mv0 N p.1 ++ (asks' 0 N N p.1 ask sn).map (fun v => 272 + v) from rfl, List.length_append]
        omega
      obtain ⟨L1, x1, c1, p1⟩ := id v1
      have q1 := p1.1
      have mvd : ∃ M2, f_X6_run_65 K (n + 1) 114 (nI i) (nI (mv0 N p.1).length) ((asks' 0 N N p.1 ask sn).foldl (fun m g => bon m g) 0) (nI (mvl N p.1 ask sn).length) (nI j) M = f_X6_run_121 K (f_X6_run_65 K n) n 114 (nI i) (nI (mv0 N p.1).length) ((asks' 0 N N p.1 ask sn).foldl (fun m g => bon m g) 0) (nI (mvl N p.1 ask sn).length) (nI j) M2 ∧ SV X0 Y0 t N Q pb pt (dm t N c S) M2 e dC ∧ FrUp M1 M2 ∧ ∀ b, mI M2 dC b = mI M1 dC b := by
        by_cases w : j < (mv0 N p.1).length
        · rw [emv, List.getElem?_append_left (by rw [e0]; exact w)] at hcj
          obtain ⟨M2, e2, v2, f2, c2⟩ := v1.go (F := f_X2_makeMove n 63 (nI j)) (S' := dm t N c S) (fun X Y p => p.mk g1.1 (by omega) h2 h16 hfl (by omega) hcj (by omega))
          refine ⟨M2, ?_, v2, f2, c2⟩
          rw [f_X6_run_65, if_neg (nI_ge (by omega) (by omega)), chk_t i114, h15, if_pos rfl, e1, obd_s, if_neg (nI_ge w (by omega)), chk_t x1.1, x1.2.1.1, bnd_e, cs_f q1, e2, obd_s]
        · rw [emv, List.getElem?_append_right (by rw [e0]; omega), List.getElem?_map, e0, ea] at hcj
          cases hv : (asks' 0 N N p.1 ask sn)[j - (mv0 N p.1).length]? with
          | none => rw [hv] at hcj; cases hcj
          | some v =>
            rw [hv] at hcj
            have hc : c = 272 + v := (Option.some.inj hcj).symm
            obtain ⟨v0, vz⟩ : v < N ∧ xR S 0 v = 0 := by
              rcases ok2 with z | z | z
              · omega
              · omega
              · have := z.2.2
                rw [hc, Nat.add_sub_cancel_left] at this
                exact ⟨by have := z.2.1; omega, this.1⟩
            have ed : dm t N c S = ak t N v S := by
              unfold dm
              rw [hc, if_neg (by omega), if_neg (by omega), Nat.add_sub_cancel_left]
            obtain ⟨M2, e2, v2, f2, c2⟩ := v1.go (F := f_X2_startAsking n 63 (nI v)) (S' := ak t N v S) (fun X Y p => p.tak h16 v0 (by rw [vz]; decide) (qS v v0) hfl (by omega))
            refine ⟨M2, ?_, by rw [ed]; exact v2, f2, c2⟩
            have em := f_member (x := (asks' 0 N N p.1 ask sn).foldl (fun m g => bon m g) 0) (i := j - (mv0 N p.1).length) (v := v) (n := n) M1 (by omega) (by rw [ms_asks h16]; exact hv)
            rw [f_X6_run_65, if_neg (nI_ge (by omega) (by omega)), chk_t i114, h15, if_pos rfl, e1, obd_s, if_pos (nI_le (by omega) (by omega)), chk_t x1.1, x1.2.1.1, bnd_e, cs_f q1, nI_sb (by omega), em, obd_s, e2, obd_s]
      obtain ⟨M2, E2, v2, f2, c2⟩ := mvd
      have s2 := s1.up v1 f2 c2
      obtain ⟨M3, e3', d3, e3, v3, s3, f3⟩ := v2.meet hX hY h16 (A := A) (P := P) (most := most) (dd := p.2 + 1) (S0 := S0) (Sm := dm 0 N c p.1) (q := q) (n := n) (by omega) h40 (by omega) (fun v hv => by rw [g3.2.2.1.m]; exact hQc v hv) gq g3 (by omega) sm s2 (by omega)
      have h2' := v1.frs f2 hs1
      have h3' := v2.frq f3 h2'.2
      obtain ⟨M', e', gq', hM', f'⟩ := ih (j + 1) n M3 (met1 most q (dm 0 N c p.1) (p.2 + 1)) (by omega) (met1_pre hp) (gq.m hil (by omega) gm) ⟨_, _, _, _, v3, g3, s3, h3'.2⟩ (by omega)
      have ed : (mvl N p.1 ask sn).drop j = c :: (mvl N p.1 ask sn).drop (j + 1) := by rw [List.drop_eq_getElem_cons hjl, hcc]
      rw [ed, exl_c]
      obtain ⟨L2, x2, _, _⟩ := id v2
      refine ⟨M', ?_, gq', hM', f1.tr (h2'.1.tr (h3'.1.tr f'))⟩
      have l16 : mLn M2 116 = 40 := x2.2.2.2.1.2.1
      rw [E2, f_X6_run_121, chk_t x2.1, x2.2.1.2.2.1, bnd_e, chk_t x2.2.2.1.2.1, l16, chk_t (inB_n (show i < 40 by omega) (by decide)), mI_c (by omega), (s2.1.2 i p hp).2, nI_1, e3, obd_s, nI_1, bnd_e]
      exact e'
end
/-! ===== the class's search: all states ===== -/
theorem pcx_ms {x : Int32} (h : ∀ i, 16 ≤ i → i < 32 → bt x i = false) : pc x = (ms x).length := by
  unfold pc ms
  have e : List.range 32 = List.range 16 ++ List.range' 16 16 := by decide
  rw [e, List.filter_append]
  have z : (List.range' 16 16).filter (fun i => bt x i) = [] := by
    rw [List.filter_eq_nil_iff]
    intro i hi
    have := List.mem_range'_1.mp hi
    rw [h i (by omega) (by omega)]
    decide
  rw [z, List.append_nil]
theorem exl_ge (N most : Nat) (S : St) (d : Nat) : ∀ (cs : List Nat) (q : Bq), q.1.length ≤ (exl N most S d cs q).1.length := by
  intro cs
  induction cs with
  | nil => intro q; exact Nat.le_refl _
  | cons c cs ih =>
    intro q
    rw [exl_c]
    exact Nat.le_trans (met1_le _ _ _ _) (ih _)
section
variable {D : Nat → Prop} {X0 Y0 N : Nat} {t : Int32} {Q : Nat → Int32} {pb pt : List Row4} {A P most : Nat} {S0 : St} {ask : Int32} {sn : Nat → Int32}
set_option maxHeartbeats 1000000 in
theorem ru_15 (k : SK N A P most S0) (hX : X0 ≤ 100000) (hY : Y0 ≤ 1000000) (hQc : ∀ v, v < N → qm N S0 v = Q v) : ∀ (d i m n : Nat) (M : Mem) (q : Bq), i + d = most → d + 1 ≤ m → i ≤ q.1.length → GQ N A P most S0 q → CM D X0 Y0 t N Q pb pt A P most S0 ask sn M q → d + 21400 ≤ n → ∃ M', f_X6_run_15 n 114 (nI i) M = some M' ∧ GQ N A P most S0 (bfs N most ask sn m i q) ∧ CM D X0 Y0 t N Q pb pt A P most S0 ask sn M' (bfs N most ask sn m i q) ∧ FrS D M M' := by
  obtain ⟨h2, h16, h40, hA, hP, hN0, ht0, hQ⟩ := id k
  have stop : ∀ (i m n : Nat) (M : Mem) (q : Bq), i = q.1.length → GQ N A P most S0 q → CM D X0 Y0 t N Q pb pt A P most S0 ask sn M q → 1 ≤ m → 1 ≤ n → ∃ M', f_X6_run_15 n 114 (nI i) M = some M' ∧ GQ N A P most S0 (bfs N most ask sn m i q) ∧ CM D X0 Y0 t N Q pb pt A P most S0 ask sn M' (bfs N most ask sn m i q) ∧ FrS D M M' := by
    intro i m n M q hi gq hM hm hn
    obtain ⟨n, rfl⟩ : ∃ j, n = j + 1 := ⟨n - 1, by omega⟩
    obtain ⟨m, rfl⟩ : ∃ j, m = j + 1 := ⟨m - 1, by omega⟩
    have eb : bfs N most ask sn (m + 1) i q = q := by
      unfold bfs
      rw [List.getElem?_eq_none (by omega)]
    rw [eb]
    obtain ⟨Sx, ex, dx, ddx, vx, gx, s, _⟩ := id hM
    have i114 : isO M 6 114 := by obtain ⟨L, sx, _⟩ := vx; exact sx.1
    refine ⟨M, ?_, gq, hM, FrS.rf D M⟩
    rw [f_X6_run_15, chk_t i114, s.2.2.1, if_pos (by rw [hi]; exact Int32.le_refl _)]
  intro d
  induction d with
  | zero =>
    intro i m n M q hi hm hil gq hM hn
    exact stop i m n M q (by have := gq.1; omega) gq hM (by omega) (by omega)
  | succ d ih =>
    intro i m n M q hi hm hil gq hM hn
    by_cases c : i = q.1.length
    · exact stop i m n M q c gq hM (by omega) (by omega)
    · obtain ⟨n, rfl⟩ : ∃ j, n = j + 1 := ⟨n - 1, by omega⟩
      obtain ⟨m, rfl⟩ : ∃ j, m = j + 1 := ⟨m - 1, by omega⟩
      have hlt : i < q.1.length := by omega
      have hl := gq.1
      obtain ⟨p, hp⟩ : ∃ p, q.1[i]? = some p := ⟨_, List.getElem?_eq_getElem hlt⟩
      obtain ⟨Sx, ex, dx, ddx, vx, gx, s, _⟩ := id hM
      have i114 : isO M 6 114 := by obtain ⟨L, sx, _⟩ := vx; exact sx.1
      have h15 := s.2.2.2.2.2.2.2.2.2.2.1
      have h10 := s.2.2.1
      by_cases hb : q.2 = true
      · have hl2 := gq.2.1 hb
        rw [bfs_full hb hl2]
        refine ⟨M, ?_, gq, hM, FrS.rf D M⟩
        rw [f_X6_run_15, chk_t i114, h10, if_neg (nI_ge hlt (by omega)), h15, if_pos hb, if_neg ne10]
      · rw [if_neg hb] at h15
        obtain ⟨M1, S, e, dC, e1, v1, g1, se, s1, hs1, f1, _⟩ := hM.rc k gq hp (n := n) (by omega)
        have qS : ∀ v, v < N → qm N S v = Q v := fun v hv => by rw [g1.2.2.1.m]; exact hQc v hv
        have e0 : mv0 N S = mv0 N p.1 := mv0_c se h16
        have ea : asks' 0 N N S ask sn = asks' 0 N N p.1 ask sn := asks_c se h16 ask sn
        have an := v1.asks (n := n) (ask := ask) (sn := sn) g1.1.1 h16 qS s1.2.2.2.2.1 s1.2.2.2.2.2.1 (by omega)
        obtain ⟨L1, x1, c1, p1⟩ := id v1
        have q1 := p1.1
        have cm := p1.cm (n := n) g1.1 h16 (by omega)
        have b16 : ∀ i, 16 ≤ i → i < 32 → bt ((asks' 0 N N p.1 ask sn).foldl (fun m g => bon m g) 0) i = false := fun i a b => by
          rw [fn_b _ _ _ b (fun w hw => by have := asks_m (i := 0) (d := N) (by omega) hw; omega), b_0, Bool.false_or]
          exact decide_eq_false (fun z => by have := asks_m (i := 0) (d := N) (by omega) z; omega)
        have bc := f_bcx b16 M1
        rw [pcx_ms b16, ms_asks h16] at bc
        have el : (mv0 N p.1).length + (asks' 0 N N p.1 ask sn).length = (mvl N p.1 ask sn).length := by
          rw [show mvl N p.1 ask sn = mv0 N p.1 ++ (asks' 0 N N p.1 ask sn).map (fun v => 272 + v) from rfl, List.length_append, List.length_map]
        have hml := mvl_len (N := N) p.1 ask sn
        obtain ⟨M2, e2, gq2, hM2, f2⟩ := ru_65 k hX hY hQc (f_X6_run_15 n) (i := i) (p := p) (by omega) (mvl N p.1 ask sn).length 0 n M1 q (by omega) hp gq ⟨_, _, _, _, v1, g1, s1, hs1⟩ (by omega)
        rw [List.drop_zero] at gq2 hM2
        have hle : q.1.length ≤ (exl N most p.1 p.2 (mvl N p.1 ask sn) q).1.length := exl_ge _ _ _ _ _ _
        obtain ⟨M3, e3, gq3, hM3, f3⟩ := ih (i + 1) m n M2 _ (by omega) (by omega) (by omega) gq2 hM2 (by omega)
        have eb : bfs N most ask sn (m + 1) i q = bfs N most ask sn m (i + 1) (exl N most p.1 p.2 (mvl N p.1 ask sn) q) := by
          rw [bfs, hp]
        rw [eb]
        refine ⟨M3, ?_, gq3, hM3, f1.tr (f2.tr f3)⟩
        rw [f_X6_run_15, chk_t i114, h10, if_neg (nI_ge hlt (by omega)), h15, if_pos rfl, e1, obd_s, chk_t x1.1, x1.2.1.1, bnd_e, cs_f q1, cm, obd_s, an, obd_s, ea, bc, obd_s, e0, nI_add, bnd_e, el]
        exact e2.trans e3
end
/-! ===== the class's search, from its start on ===== -/
theorem bg_l {v2 v3 : Int32} : ∀ (d v n : Nat) (M : Mem), v + d = 16 → SX M → CS M 14 → d + 1 ≤ n → ∃ M', f_X6_begin_11 n 114 14 v2 v3 (nI v) M = some M' ∧ M'.1 = M.1 ∧ (∀ j, v ≤ j → j < 16 → mI M' 118 j = mI M (14 + 17 + 2 * j) 1) ∧ (∀ j, j < v → mI M' 118 j = mI M 118 j) ∧ (∀ o, o ≠ 118 → o ≠ 114 → ∀ b, mI M' o b = mI M o b) ∧ (∀ b, b < 8 → mI M' 114 b = mI M 114 b) ∧ mI M' 114 9 = v2 ∧ mI M' 114 8 = (if (40 : Int32) < v3 then (40 : Int32) else v3) ∧ (∀ b, 10 ≤ b → b ≤ 15 → mI M' 114 b = 0) ∧ ∀ o b, mL M' o b = mL M o b := by
  intro d
  induction d with
  | zero =>
    intro v n M hv sx q hn
    obtain ⟨n, rfl⟩ : ∃ m, n = m + 1 := ⟨n - 1, by omega⟩
    refine ⟨sI (sI (sI (sI (sI (sI (sI (sI M 114 9 v2) 114 8 (if (40 : Int32) < v3 then (40 : Int32) else v3)) 114 10 0) 114 11 0) 114 12 0) 114 13 0) 114 14 0) 114 15 0, ?_, rfl, fun j a b => by omega, fun j hj => ?_, fun o n1 n2 b => ?_, fun b hb => ?_, ?_, ?_, fun b b1 b2 => ?_, fun _ _ => rfl⟩
    · rw [f_X6_begin_11, if_pos (show (16 : Int32) ≤ nI v from nI_le (a := 16) (by omega) (by omega)), chk_t sx.1, bnd_e, bnd_e, bnd_e, bnd_e, bnd_e, bnd_e, bnd_e, chk_t (show bz (0 : Int32) by decide), bnd_e]
    · rw [mI_o _ _ _ _ _ (by decide), mI_o _ _ _ _ _ (by decide), mI_o _ _ _ _ _ (by decide), mI_o _ _ _ _ _ (by decide), mI_o _ _ _ _ _ (by decide), mI_o _ _ _ _ _ (by decide), mI_o _ _ _ _ _ (by decide), mI_o _ _ _ _ _ (by decide)]
    · rw [mI_o _ _ _ _ _ n2, mI_o _ _ _ _ _ n2, mI_o _ _ _ _ _ n2, mI_o _ _ _ _ _ n2, mI_o _ _ _ _ _ n2, mI_o _ _ _ _ _ n2, mI_o _ _ _ _ _ n2, mI_o _ _ _ _ _ n2]
    · rw [mI_n _ _ _ _ (by omega), mI_n _ _ _ _ (by omega), mI_n _ _ _ _ (by omega), mI_n _ _ _ _ (by omega), mI_n _ _ _ _ (by omega), mI_n _ _ _ _ (by omega), mI_n _ _ _ _ (by omega), mI_n _ _ _ _ (by omega)]
    · rw [mI_n _ _ _ _ (by decide), mI_n _ _ _ _ (by decide), mI_n _ _ _ _ (by decide), mI_n _ _ _ _ (by decide), mI_n _ _ _ _ (by decide), mI_n _ _ _ _ (by decide), mI_n _ _ _ _ (by decide), mI_s]
    · rw [mI_n _ _ _ _ (by decide), mI_n _ _ _ _ (by decide), mI_n _ _ _ _ (by decide), mI_n _ _ _ _ (by decide), mI_n _ _ _ _ (by decide), mI_n _ _ _ _ (by decide), mI_s]
    · rcases (show b = 10 ∨ b = 11 ∨ b = 12 ∨ b = 13 ∨ b = 14 ∨ b = 15 by omega) with rfl | rfl | rfl | rfl | rfl | rfl
      · rw [mI_n _ _ _ _ (by decide), mI_n _ _ _ _ (by decide), mI_n _ _ _ _ (by decide), mI_n _ _ _ _ (by decide), mI_n _ _ _ _ (by decide), mI_s]
      · rw [mI_n _ _ _ _ (by decide), mI_n _ _ _ _ (by decide), mI_n _ _ _ _ (by decide), mI_n _ _ _ _ (by decide), mI_s]
      · rw [mI_n _ _ _ _ (by decide), mI_n _ _ _ _ (by decide), mI_n _ _ _ _ (by decide), mI_s]
      · rw [mI_n _ _ _ _ (by decide), mI_n _ _ _ _ (by decide), mI_s]
      · rw [mI_n _ _ _ _ (by decide), mI_s]
      · rw [mI_s]
  | succ d ih =>
    intro v n M hv sx q hn
    obtain ⟨n, rfl⟩ : ∃ m, n = m + 1 := ⟨n - 1, by omega⟩
    have v16 : v < 16 := by omega
    have i18 : ∀ x : Option Mem, chk (inB (nI v) (mLn M 118)) x = x := fun x => by
      refine chk_t ?_
      rw [sx.2.2.2.1.2.2.2]; exact inB_n v16 (by decide)
    obtain ⟨M', e, s, a1, a2, a3, a4, a5, a6, a7, a8⟩ := ih (v + 1) n (sI M 118 v (mI M (14 + 17 + 2 * v) 1)) (by omega) (sx.e rfl) (q.e rfl) (by omega)
    refine ⟨M', ?_, s, fun j h1 h2 => ?_, fun j hj => ?_, fun o n1 n2 b => ?_, fun b hb => ?_, a5, a6, a7, fun o b => a8 o b⟩
    · rw [f_X6_begin_11, if_neg (show ¬ (16 : Int32) ≤ nI v from nI_ge (a := v) (b := 16) (by omega) (by decide)), chk_t sx.1, sx.2.1.2.2.2.2, bnd_e, chk_t sx.2.2.1.2.2.2, cs_f q, cs_h2 q, bnd_e, cs_a10 q, cs_i10 q v16, cs_rpc q v16, bnd_e, cs_po q v16, i18, sI_c (by omega), bnd_e, nI_1, bnd_e]
      exact e
    · by_cases z : j = v
      · rw [a2 j (by omega), z, mI_s]
      · rw [a1 j (by omega) h2, mI_o _ _ _ _ _ (by omega)]
    · rw [a2 j (by omega), mI_n _ _ _ _ (by omega)]
    · rw [a3 o n1 n2, mI_o _ _ _ _ _ n1]
    · rw [a4 b hb, mI_o _ _ _ _ _ (by decide)]
/-- the search, as it lies before it begins -/
def SR (M : Mem) (X0 Y0 : Nat) (pb pt : List Row4) : Prop := ∃ L e dC, SX M ∧ CL M dC L e ∧ TR M 63 (X0 + L / 16) (Y0 + 2 * L) pb pt ∧ mI M 115 0 = 0
section
variable {D : Nat → Prop} {X0 Y0 N : Nat} {t : Int32} {Q : Nat → Int32} {pb pt pb' pt' : List Row4} {A P most : Nat} {S0 : St} {ask : Int32}
set_option maxHeartbeats 2000000 in
theorem run_w {M : Mem} {X Y n : Nat} (p : HV M 14 X Y t N Q S0 pb' pt') (r : SR M X0 Y0 pb pt) (k : SK N A P most S0) (h1 : 1 ≤ most) (g : GS N A P S0 S0 0) (hX : X0 ≤ 100000) (hY : Y0 ≤ 1000000) (hQc : ∀ v, v < N → qm N S0 v = Q v) (hD : ∀ i j, 5 ≤ i → i ≤ 7 → 5 ≤ j → j ≤ 7 → mR M 64 i ≠ mR M 15 j) (hs : Sep D M (mR M 114 5)) (hn : 30000 ≤ n) : ∃ M', f_X6_run n 114 14 ask (nI most) M = some M' ∧ GQ N A P most S0 (bfq N most ask S0) ∧ CM D X0 Y0 t N Q pb pt A P most S0 ask (fun v => xR S0 2 v) M' (bfq N most ask S0) ∧ FrS D M M' := by
  obtain ⟨h2, h16, h40, hA, hP, hN0, ht0, hQ⟩ := id k
  obtain ⟨L, e, dC, sx, c, tr, z0⟩ := r
  have hN := sx.2.2.2.2
  have hI := g.1
  have r57 : ∀ i, 5 ≤ i → i ≤ 7 → mR M 64 i = 63 + 2 + i ∨ 131 ≤ mR M 64 i := by
    obtain ⟨_, ⟨e5, e6, e7, len, ds, _⟩, _⟩ := tr
    obtain ⟨⟨y5, y6, y7⟩, _, _, x5, x6, x7, _⟩ := ds
    have y5' : mR M 64 5 = e5 := y5
    have y6' : mR M 64 6 = e6 := y6
    have y7' : mR M 64 7 = e7 := y7
    intro i a b
    rcases (show i = 5 ∨ i = 6 ∨ i = 7 by omega) with rfl | rfl | rfl
    · rw [y5']; exact x5
    · rw [y6']; exact x6
    · rw [y7']; exact x7
  obtain ⟨M1, e1, p1, fh⟩ := p.copy tr (by omega) h16 hD (fun v hv => (hI.1 v hv).2.2.2) (fun v hv w hw => by have := ((hI.2.2.2.2.2.1 v hv).1.2.2 w hw).1; omega) (n := n) (by omega)
  have f1 := fh.up hN r57
  have sx1 := sx.up f1
  obtain ⟨c1, _⟩ := c.up hN f1
  have hs0 : Sep D M dC := by rw [← c.1]; exact hs
  obtain ⟨s1, hs1⟩ := f1.s hN r57 hs0
  have q := p.1
  have q14 : CS M1 14 := by
    refine ⟨fun i hi hn => ?_, fun z hz => ?_, ?_, ⟨by have := s1.1; omega, ?_⟩, q.2.2.2.2.1, q.2.2.2.2.2.1, by have := s1.1; omega⟩
    · rw [s1.2.1 (14 + i) (by omega)]; exact q.1 i hi hn
    · have hb : ∀ z, z ∈ tH → z.1 < 49 := by decide
      have := hb z hz
      rw [s1.2.2.1 (14 + z.1) z.2.1 (by omega) (by omega) (by omega)]; exact q.2.1 z hz
    · rw [s1.2.2.1 14 0 (by omega) (by decide) (by decide)]; exact q.2.2.1
    · rw [mC, s1.2.1 1 (by omega)]; exact q.2.2.2.1.2
  have r5 := r57 5 (by decide) (by decide)
  have r6 := r57 6 (by decide) (by decide)
  have r7 := r57 7 (by decide) (by decide)
  obtain ⟨M2, e2, s2, a1, a2, a3, a4, a5, a6, a7, a8⟩ := bg_l (v2 := ask) (v3 := nI most) 16 0 n M1 rfl sx1 q14 (by omega)
  have v2 : SV X0 Y0 t N Q pb pt (clr S0) M2 e dC := (show SV X0 Y0 t N Q pb pt (clr S0) M1 e dC from ⟨L, sx1, c1, p1⟩).at5 s2 (fun o n b => a3 o (by omega) (by omega) b) (a4 6 (by decide))
  have s12 : FrS D M1 M2 := by
    refine ⟨by unfold mN; rw [s2]; exact Nat.le_refl _, fun o _ => by rw [s2], fun o b _ _ _ => by unfold mR; rw [s2], fun o h b => ?_, fun o _ b => a8 o b⟩
    have : ¬ (114 ≤ o ∧ o ≤ 118) := h.elim (fun z => by omega) (fun z => (hs1 o z).2.2.1)
    exact a3 o (by omega) (by omega) b
  have hs2 : Sep D M2 dC := by
    have e1 : mN M2 = mN M1 := by unfold mN; rw [s2]
    have e2 : ∀ i, mR M2 64 i = mR M1 64 i := fun i => by unfold mR; rw [s2]
    intro o ho
    obtain ⟨y1, y2, y3, y4, y5⟩ := hs1 o ho
    exact ⟨by omega, y2, y3, y4, fun i a b => by rw [e2]; exact y5 i a b⟩
  have kz : Qk S0 (clr S0) := fun _ _ _ => rfl
  have gz : GS N A P S0 (clr S0) 0 := by
    have sey : SE S0 (clr S0) := ⟨fun _ _ _ _ => rfl, fun _ _ => rfl, fun _ _ => rfl⟩
    exact ⟨g.1.reg ⟨rfl, fun _ _ _ _ => rfl⟩ rfl, ⟨sey.tix h16 g.2.1.1, g.2.1.2.1.k kz, by rw [← sey.tPhS]; exact g.2.1.2.2⟩, kz, fun _ _ _ _ => rfl⟩
  have sez : SE (clr S0) S0 := ⟨fun _ _ _ _ => rfl, fun _ _ => rfl, fun _ _ => rfl⟩
  have sq : SQ N ask (fun v => xR S0 2 v) most M2 e dC (([], false) : Bq) := by
    refine ⟨⟨fun i hi => ?_, fun i p hp => by cases i <;> cases hp⟩, Nat.zero_le _, a7 10 (by decide) (by decide), ?_, a5, fun v hv => ?_, a7 11 (by decide) (by decide), a7 12 (by decide) (by decide), a7 13 (by decide) (by decide), a7 14 (by decide) (by decide), a7 15 (by decide) (by decide), fun i p hp => by cases i <;> cases hp⟩
    · have hi0 : i = 0 := Nat.le_zero.mp hi
      rw [hi0, a3 115 (by decide) (by decide), f1.2.2.2.1 115 (by omega) (by decide) (by decide) (by omega) (by omega) (by omega) 0, z0]
      rfl
    · rw [a6, if_neg (show ¬ (40 : Int32) < nI most from nI_nl (a := 40) h40 (by decide))]
    · rw [a1 v (Nat.zero_le _) (by omega), s1.2.2.2.1 _ (Or.inl ⟨by omega, by omega, by omega⟩)]
      exact (p.2.2.1.1 v (by omega)).1 (1, 2) (by decide)
  obtain ⟨M3, e3', d3, e3, v3, s3, f3⟩ := v2.meet hX hY h16 (A := A) (P := P) (most := most) (dd := 0) (S0 := S0) (Sm := S0) (q := (([], false) : Bq)) (n := n) (by omega) h40 (by omega) (fun v hv => by rw [kz.m]; exact hQc v hv) ⟨Nat.zero_le _, fun z => absurd z (by decide), fun i p hp => by cases i <;> cases hp⟩ gz (by decide) sez sq (by omega)
  have f3' := v2.frq f3 hs2
  have em : met1 most (([], false) : Bq) S0 0 = ([(S0, 0)], false) := by
    unfold met1
    rw [if_neg (by rw [knw_t]; rintro ⟨q, hq, _⟩; cases hq), if_pos (show ([] : List (St × Nat)).length < most from h1)]
    rfl
  rw [em] at s3
  have gq : GQ N A P most S0 (([(S0, 0)], false) : Bq) := by
    refine ⟨h1, fun z => Bool.noConfusion (show false = true from z), fun i p hp => ?_⟩
    cases i with
    | zero =>
      have : p = (S0, 0) := (Option.some.inj hp).symm
      rw [this]
      exact ⟨Nat.le_refl _, g⟩
    | succ i => cases i <;> cases hp
  obtain ⟨M4, e4, g4, c4, f4⟩ := ru_15 k hX hY hQc most 0 (most + 1) n M3 (([(S0, 0)], false) : Bq) (by omega) (by omega) (Nat.zero_le _) gq ⟨_, _, _, _, v3, gz, s3, f3'.2⟩ (by omega)
  obtain ⟨L2, x2, _, _⟩ := id v2
  refine ⟨M4, ?_, g4, c4, s1.tr (s12.tr (f3'.1.tr f4))⟩
  have eb : f_X6_begin n 114 14 ask (nI most) M = some M2 := by
    rw [f_X6_begin, chk_t sx.1, sx.2.1.1, bnd_e, cs_f tr.1, e1, obd_s]
    exact e2
  rw [f_X6_run, chk_t sx.1, eb, obd_s, chk_t x2.1, show f_X6_meet n 114 0 M2 = some M3 from e3, obd_s]
  exact e4
end
/-! ===== what the class's search tells ===== -/
def Dn (l : List (St × Nat)) : Prop := l.Pairwise fun p r => p.2 ≤ r.2
theorem met1_dn {most d : Nat} {q : Bq} {S : St} (h : Dn q.1) (hd : ∀ r, r ∈ q.1 → r.2 ≤ d) : Dn (met1 most q S d).1 ∧ ∀ r, r ∈ (met1 most q S d).1 → r.2 ≤ d := by
  unfold met1
  by_cases c : knw q.1 S = true
  · rw [if_pos c]; exact ⟨h, hd⟩
  · rw [if_neg c]
    by_cases z : q.1.length < most
    · rw [if_pos z]
      refine ⟨?_, fun r hr => ?_⟩
      · show (q.1 ++ [(S, d)]).Pairwise _
        rw [List.pairwise_append]
        refine ⟨h, by simp, fun a ha b hb => ?_⟩
        rw [List.mem_singleton] at hb
        rw [hb]; exact hd a ha
      · rcases List.mem_append.mp hr with x | x
        · exact hd r x
        · rw [List.mem_singleton] at x
          rw [x]; exact Nat.le_refl _
    · rw [if_neg z]; exact ⟨h, hd⟩
theorem exl_dn {N most d : Nat} {S : St} : ∀ (cs : List Nat) (q : Bq), Dn q.1 → (∀ r, r ∈ q.1 → r.2 ≤ d + 1) → Dn (exl N most S d cs q).1 ∧ ∀ r, r ∈ (exl N most S d cs q).1 → r.2 ≤ d + 1 := by
  intro cs
  induction cs with
  | nil => intro q h hd; exact ⟨h, hd⟩
  | cons c cs ih =>
    intro q h hd
    rw [exl_c]
    obtain ⟨a, b⟩ := met1_dn (most := most) (S := dm 0 N c S) h hd
    exact ih _ a b
theorem Dn.ge {l : List (St × Nat)} (h : Dn l) {i j : Nat} {p r : St × Nat} (hij : i < j) (hp : l[i]? = some p) (hr : l[j]? = some r) : p.2 ≤ r.2 := by
  have hi := gl_lt hp
  have hj := gl_lt hr
  rw [List.getElem?_eq_getElem hi] at hp
  rw [List.getElem?_eq_getElem hj] at hr
  have := List.pairwise_iff_getElem.mp h i j hi hj hij
  rw [Option.some.inj hp, Option.some.inj hr] at this
  exact this
theorem bfs_dn {N most : Nat} {ask : Int32} {sn : Nat → Int32} : ∀ (n i : Nat) (q : Bq), Dn q.1 → (∀ p, q.1[i]? = some p → ∀ r, r ∈ q.1 → r.2 ≤ p.2 + 1) → Dn (bfs N most ask sn n i q).1 := by
  intro n
  induction n with
  | zero => intro i q h _; exact h
  | succ n ih =>
    intro i q h hd
    unfold bfs
    cases e : q.1[i]? with
    | none => exact h
    | some p =>
      obtain ⟨a, b⟩ := exl_dn (N := N) (most := most) (S := p.1) (d := p.2) (mvl N p.1 ask sn) q h (hd p e)
      refine ih (i + 1) _ a (fun r hr s hs => ?_)
      have := b s hs
      have := a.ge (show i < i + 1 by omega) (exl_pre (N := N) (most := most) (S := p.1) (d := p.2) (mvl N p.1 ask sn) q e).1 hr
      omega
theorem bfq_dn (N most : Nat) (ask : Int32) (S0 : St) : Dn (bfq N most ask S0).1 := by
  unfold bfq
  refine bfs_dn _ _ _ (by unfold Dn; simp) (fun p hp r hr => ?_)
  have : r = (S0, 0) := by simpa using hr
  rw [this]; exact Nat.zero_le _
theorem cDp_last {l : List (St × Nat)} (h : Dn l) : nI (cDp l) = (match l[l.length - 1]? with
    | none => 0
    | some p => nI p.2) := by
  rcases List.eq_nil_or_concat l with e | ⟨l', p, e⟩
  · rw [e]; rfl
  · rw [List.concat_eq_append] at e
    subst e
    have h' := List.pairwise_append.mp h
    have a : (l' ++ [p])[(l' ++ [p]).length - 1]? = some p := by
      rw [List.length_append, show l'.length + [p].length - 1 = l'.length from rfl, List.getElem?_append_right (Nat.le_refl _), Nat.sub_self]
      rfl
    rw [a, cDp_s, Nat.max_eq_right (cDp_le (fun r hr => h'.2.2 r hr p (by simp)))]
theorem cSon_k (v : Nat) : ∀ (l : List (St × Nat)) (x : Int32), x ≠ -1 → l.foldl (fun x p => if x = -1 then (if xR p.1 0 v = 2 then nI p.2 else -1) else x) x = x := by
  intro l
  induction l with
  | nil => intro x _; rfl
  | cons p l ih => intro x hx; rw [List.foldl_cons, if_neg hx]; exact ih x hx
theorem cSon_c (v : Nat) (l : List (St × Nat)) (p : St × Nat) (h : p.2 < 256) : cSon v (p :: l) = if xR p.1 0 v = 2 then nI p.2 else cSon v l := by
  unfold cSon
  rw [List.foldl_cons, if_pos rfl]
  by_cases c : xR p.1 0 v = 2
  · rw [if_pos c, if_pos c]
    exact cSon_k v l _ (fun z => m1_ne' _ h z.symm)
  · rw [if_neg c, if_neg c]
section
variable {D : Nat → Prop} {X0 Y0 N : Nat} {t : Int32} {Q : Nat → Int32} {pb pt : List Row4} {A P most : Nat} {S0 : St} {ask : Int32} {sn : Nat → Int32} {M : Mem}
theorem f_tellE {q : Bq} (hM : CM D X0 Y0 t N Q pb pt A P most S0 ask sn M q) (h : Dn q.1) {w : Nat} (hw : w < 6) : f_X6_tell 114 (nI w) M = some (cSe N ask sn q w) := by
  obtain ⟨S, e, dC, d, v, g, s, _⟩ := hM
  have i114 : isO M 6 114 := by obtain ⟨L, sx, _⟩ := v; exact sx.1
  obtain ⟨s1, s2, s3, s4, s5, s6, s7, s8, s9, s10, s11, s12⟩ := s
  have n4 : ∀ b : Bool, (if (if b then (1 : Int32) else 0) = 0 then some (1 : Int32) else some 0) = some (if b then 0 else 1) := fun b => by cases b <;> rfl
  rcases (show w = 0 ∨ w = 1 ∨ w = 2 ∨ w = 3 ∨ w = 4 ∨ w = 5 by omega) with rfl | rfl | rfl | rfl | rfl | rfl
  · rw [f_X6_tell, if_pos (show nI 0 = (0 : Int32) from rfl), chk_t i114, s3]
    rfl
  · rw [f_X6_tell, if_neg (show ¬ nI 1 = (0 : Int32) by decide), if_pos (show nI 1 = (1 : Int32) from rfl), chk_t i114, s7]
    rfl
  · rw [f_X6_tell, if_neg (show ¬ nI 2 = (0 : Int32) by decide), if_neg (show ¬ nI 2 = (1 : Int32) by decide), if_pos (show nI 2 = (2 : Int32) from rfl), chk_t i114, s8]
    rfl
  · rw [f_X6_tell, if_neg (show ¬ nI 3 = (0 : Int32) by decide), if_neg (show ¬ nI 3 = (1 : Int32) by decide), if_neg (show ¬ nI 3 = (2 : Int32) by decide), if_pos (show nI 3 = (3 : Int32) from rfl), chk_t i114, s9]
    rfl
  · rw [f_X6_tell, if_neg (show ¬ nI 4 = (0 : Int32) by decide), if_neg (show ¬ nI 4 = (1 : Int32) by decide), if_neg (show ¬ nI 4 = (2 : Int32) by decide), if_neg (show ¬ nI 4 = (3 : Int32) by decide), if_pos (show nI 4 = (4 : Int32) from rfl), chk_t i114, s11, n4]
    rfl
  · rw [f_X6_tell, if_neg (show ¬ nI 5 = (0 : Int32) by decide), if_neg (show ¬ nI 5 = (1 : Int32) by decide), if_neg (show ¬ nI 5 = (2 : Int32) by decide), if_neg (show ¬ nI 5 = (3 : Int32) by decide), if_neg (show ¬ nI 5 = (4 : Int32) by decide), if_pos (show nI 5 = (5 : Int32) from rfl), chk_t i114, s10, cDp_last h]
    rfl
theorem si_l {q : Bq} (hM : CM D X0 Y0 t N Q pb pt A P most S0 ask sn M q) (gq : GQ N A P most S0 q) (h40 : most ≤ 40) {v : Nat} (hv : v < 16) : ∀ (d i n : Nat), i + d = q.1.length → d + 1 ≤ n → f_X6_soonestInside_2 M n 114 (nI v) (nI i) = some (cSon v (q.1.drop i)) := by
  obtain ⟨S, e, dC, dd, vv, g, s, _⟩ := hM
  obtain ⟨L, sx, _⟩ := vv
  obtain ⟨s1, s2, s3, s4, s5, s6, s7, s8, s9, s10, s11, s12⟩ := s
  have hl := gq.1
  intro d
  induction d with
  | zero =>
    intro i n hi hn
    obtain ⟨n, rfl⟩ : ∃ m, n = m + 1 := ⟨n - 1, by omega⟩
    rw [f_X6_soonestInside_2, chk_t sx.1, s3, if_pos (nI_le (by omega) (by omega)), List.drop_of_length_le (by omega)]
    rfl
  | succ d ih =>
    intro i n hi hn
    obtain ⟨n, rfl⟩ : ∃ m, n = m + 1 := ⟨n - 1, by omega⟩
    have hlt : i < q.1.length := by omega
    obtain ⟨p, hp⟩ : ∃ p, q.1[i]? = some p := ⟨_, List.getElem?_eq_getElem hlt⟩
    have hd := (gq.2.2 i p hp).1
    have ed : q.1.drop i = p :: q.1.drop (i + 1) := by
      rw [List.drop_eq_getElem_cons hlt]
      rw [List.getElem?_eq_getElem hlt] at hp
      rw [Option.some.inj hp]
    have l17 : mLn M 117 = 40 := sx.2.2.2.1.2.2.1
    have l16 : mLn M 116 = 40 := sx.2.2.2.1.2.1
    rw [ed, cSon_c v _ p (by omega)]
    rw [f_X6_soonestInside_2, chk_t sx.1, s3, if_neg (nI_ge hlt (by omega)), sx.2.1.2.2.2.1, bnd_e, chk_t sx.2.2.1.2.2.1, l17, chk_t (inB_n (show i < 40 by omega) (by decide)), mI_c (by omega), s12 i p hp, f_has9 _ (by omega), obd_s, mkS_b (by omega)]
    by_cases c : xR p.1 0 v = 2
    · rw [if_pos c, decide_eq_true (⟨hv, c⟩ : v < 16 ∧ xR p.1 0 v = 2), if_pos rfl, if_neg ne10, sx.2.1.2.2.1, bnd_e, chk_t sx.2.2.1.2.1, l16, chk_t (inB_n (show i < 40 by omega) (by decide)), mI_c (by omega), (s1.2 i p hp).2]
    · rw [if_neg c, decide_eq_false (fun z => c z.2), if_pos (show (if false = true then (1 : Int32) else 0) = 0 from rfl), nI_1, bnd_e]
      exact ih (i + 1) n (by omega) (by omega)
theorem f_sonE {q : Bq} (hM : CM D X0 Y0 t N Q pb pt A P most S0 ask sn M q) (gq : GQ N A P most S0 q) (h40 : most ≤ 40) {v n : Nat} (hv : v < 16) (hn : 60 ≤ n) : f_X6_soonestInside n 114 (nI v) M = some (cSon v q.1) := by
  have hl := gq.1
  have := si_l hM gq h40 hv q.1.length 0 n (by omega) (by omega)
  rw [List.drop_zero] at this
  exact this
end
/-! ===== the search on the fresh objects ===== -/
set_option maxRecDepth 1000000 in
theorem MA_U : mU MA0 ≤ 900000 ∧ mI MA0 114 6 = 0 ∧ mI MA0 115 0 = 0 := by decide +kernel
theorem Mf_SX : SX Mf := by
  refine ⟨io_f (by decide) (by decide), ⟨R_f (q := (114, 0, 63)) (by decide), R_f (q := (114, 1, 115)) (by decide), R_f (q := (114, 2, 116)) (by decide), R_f (q := (114, 3, 117)) (by decide), R_f (q := (114, 4, 118)) (by decide)⟩, ⟨io_f (by decide) (by decide), io_f (by decide) (by decide), io_f (by decide) (by decide), io_f (by decide) (by decide)⟩, ⟨ln_f (by decide) (by decide), ln_f (by decide) (by decide), ln_f (by decide) (by decide), ln_f (by decide) (by decide)⟩, ?_⟩
  rw [mN_e Mf_1, MA_t.2.2.2]; exact Nat.le_refl _
theorem Mf_SR : SR Mf 8384 1000000 [] [] := by
  have r57 := fun (i : Nat) a b => (Mf_57r (i := i) a b).2
  refine ⟨1024, 0, 119, Mf_SX, ⟨R_f (q := (114, 5, 119)) (by decide), io_f (by decide) (by decide), ln_f (by decide) (by decide), Or.inl rfl, ?_, Nat.zero_le _, Nat.le_refl _, by decide, ?_, ?_, ?_⟩, ⟨Mf_CS63, ⟨70, 71, 72, 64, Mf_DS63, by decide, by decide⟩, ⟨?_, ?_, by decide, by decide, 0, by rw [(Mf_57 (j := 0) (by decide)).2, ln_f (l := 64) (by decide) (by decide)]⟩, MA_lg.2.1, MA_lg.2.2⟩, ?_⟩
  · rw [Mf_o (by decide), MA_U.2.1]; rfl
  · rw [r57 5 (by decide) (by decide)]; decide
  · rw [r57 6 (by decide) (by decide)]; decide
  · rw [r57 7 (by decide) (by decide)]; decide
  · rw [mN_e Mf_1, MA_t.2.2.2]; omega
  · have e : mU Mf = mU MA0 := by unfold mU; rw [Mf_1]
    rw [e]
    have := MA_U.1
    omega
  · rw [Mf_o (by decide), MA_U.2.2]
/-! ===== the class's sets: the quorum of a node now ===== -/
/-- the class's bases stand as the model's -/
def SB (M : Mem) (N : Nat) (S : St) : Prop := (isO M 7 1 ∧ isO M 100 2 ∧ isO M 100 3 ∧ isO M 100 4) ∧ (mR M 1 0 = 2 ∧ mR M 1 1 = 3 ∧ mR M 1 2 = 4) ∧ (mLn M 2 = 16 ∧ mLn M 3 = 16 ∧ mLn M 4 = 16) ∧ mI M 1 3 = nI N ∧ mI M 1 4 = xR S 20 1 ∧ ∀ v, v < N → mI M 2 v = xR S 17 v
theorem SB.cg {M M' : Mem} {N : Nat} {S S' : St} (h : SB M N S) (hN : mN M ≤ mN M') (hC : ∀ o, o < 5 → M'.1.2.1 o = M.1.2.1 o) (hR : ∀ b, mR M' 1 b = mR M 1 b) (h1 : ∀ b, mI M' 1 b = mI M 1 b) (h2 : ∀ b, mI M' 2 b = mI M 2 b) (e20 : xR S' 20 1 = xR S 20 1) (e17 : ∀ v, xR S' 17 v = xR S 17 v) : SB M' N S' := by
  obtain ⟨⟨a1, a2, a3, a4⟩, ⟨b1, b2, b3⟩, ⟨c1, c2, c3⟩, d1, d2, d3⟩ := h
  have io : ∀ {c o}, o < 5 → isO M c o → isO M' c o := fun ho z => ⟨by have := z.1; omega, by rw [mC, hC _ ho]; exact z.2⟩
  have ln : ∀ {o l}, o < 5 → mLn M o = l → mLn M' o = l := fun ho z => by rw [mLn, hC _ ho]; exact z
  refine ⟨⟨io (by decide) a1, io (by decide) a2, io (by decide) a3, io (by decide) a4⟩, ⟨by rw [hR]; exact b1, by rw [hR]; exact b2, by rw [hR]; exact b3⟩, ⟨ln (by decide) c1, ln (by decide) c2, ln (by decide) c3⟩, by rw [h1]; exact d1, by rw [h1, e20]; exact d2, fun v hv => by rw [h2, e17]; exact d3 v hv⟩
theorem SB.e {M M' : Mem} {N : Nat} {S : St} (h : SB M N S) (e : M'.1 = M.1) (h1 : ∀ b, mI M' 1 b = mI M 1 b) (h2 : ∀ b, mI M' 2 b = mI M 2 b) : SB M' N S :=
  h.cg (by unfold mN; rw [e]; exact Nat.le_refl _) (fun _ _ => by rw [e]) (fun _ => by unfold mR; rw [e]) h1 h2 rfl (fun _ => rfl)
section
variable {M : Mem} {N : Nat} {S : St} {α : Type}
theorem SB.f (h : SB M N S) (x : Option α) : chk (isO M 7 1) x = x := chk_t h.1.1
theorem SB.a2 (h : SB M N S) (x : Option α) : chk (isO M 100 2) x = x := chk_t h.1.2.1
theorem SB.a3 (h : SB M N S) (x : Option α) : chk (isO M 100 3) x = x := chk_t h.1.2.2.1
theorem SB.a4 (h : SB M N S) (x : Option α) : chk (isO M 100 4) x = x := chk_t h.1.2.2.2
theorem SB.i2 (h : SB M N S) {k : Nat} (hk : k < 16) (x : Option α) : chk (inB (nI k) (mLn M 2)) x = x := chk_t (by rw [h.2.2.1.1]; exact inB_n hk (by decide))
theorem SB.i3 (h : SB M N S) {k : Nat} (hk : k < 16) (x : Option α) : chk (inB (nI k) (mLn M 3)) x = x := chk_t (by rw [h.2.2.1.2.1]; exact inB_n hk (by decide))
theorem SB.i4 (h : SB M N S) {k : Nat} (hk : k < 16) (x : Option α) : chk (inB (nI k) (mLn M 4)) x = x := chk_t (by rw [h.2.2.1.2.2]; exact inB_n hk (by decide))
theorem SB.r2 (h : SB M N S) : mR M 1 0 = 2 := h.2.1.1
theorem SB.r3 (h : SB M N S) : mR M 1 1 = 3 := h.2.1.2.1
theorem SB.r4 (h : SB M N S) : mR M 1 2 = 4 := h.2.1.2.2
theorem SB.n (h : SB M N S) : mI M 1 3 = nI N := h.2.2.2.1
theorem SB.t (h : SB M N S) : mI M 1 4 = xR S 20 1 := h.2.2.2.2.1
theorem SB.b (h : SB M N S) {v : Nat} (hv : v < N) : mI M 2 v = xR S 17 v := h.2.2.2.2.2 v hv
end
def P4 (o : Nat) : Prop := o = 4
theorem SB.fr {M M' : Mem} {N : Nat} {S : St} (h : SB M N S) (f : Fr P4 M M') : SB M' N S :=
  h.e f.1 (fun b => f.2.1 1 (by unfold P4; decide) b) (fun b => f.2.1 2 (by unfold P4; decide) b)
theorem fu_l {M : Mem} {N : Nat} {S : St} (h : SB M N S) (h16 : N ≤ 16) (b : Int32) : ∀ (d i n : Nat), i + d = N → d + 1 ≤ n → f_X7_firstUnbroken_2 M n 1 b (nI i) = some (fub i d S b) := by
  intro d
  induction d with
  | zero =>
    intro i n hi hn
    obtain ⟨n, rfl⟩ : ∃ m, n = m + 1 := ⟨n - 1, by omega⟩
    rw [f_X7_firstUnbroken_2, h.f, h.n, if_pos (nI_le (by omega) (by omega))]
    rfl
  | succ d ih =>
    intro i n hi hn
    obtain ⟨n, rfl⟩ : ∃ m, n = m + 1 := ⟨n - 1, by omega⟩
    rw [f_X7_firstUnbroken_2, h.f, h.n, if_neg (nI_ge (by omega) (by omega)), h.r2, bnd_e, h.a2, h.i2 (by omega), mI_c (by omega), h.b (by omega)]
    unfold fub
    rw [List.range'_succ, List.find?_cons]
    by_cases c : xR S 17 i &&& b = 0
    · rw [if_pos c, bnd_e, h.a2, h.i2 (by omega), mI_c (by omega), h.b (by omega)]
      simp [c]
    · rw [if_neg c, bnd_e, nI_1, ih _ _ (by omega) (by omega)]
      simp only [c, decide_false]
      rfl
theorem wo_e {M : Mem} {N : Nat} {S : St} (h : SB M N S) (h16 : N ≤ 16) (hodd : N % 2 = 1) (b : Int32) {r : Nat} (hr : r < N) (hw : ∀ w, r + 1 ≤ w → w < N → mI M 4 w = wh N b w) : f_X7_wholeOf 1 (nI r) b M = some (wh N b r) := by
  have we := wh_e b (v := r) hr hodd
  rw [f_X7_wholeOf, f_has9 b (by omega) M, obd_s, c2v1, bnd_e, h.f, nI_1, h.n]
  by_cases c : 2 * r + 1 < N
  · simp only [c, if_true] at we
    have w1 := hw (2 * r + 1) (by omega) c
    have w2 := hw (2 * r + 1 + 1) (by omega) (by omega)
    rw [if_pos (nI_lt (by omega) (by omega)), h.r4, bnd_e, h.a4, h.i4 (by omega), mI_c (by omega), w1, bnd_e, bnd_e, h.a4, h.i4 (by omega), mI_c (by omega), w2, bnd_e, we]
    cases hb : bt b r
    · simp only [Bool.false_eq_true, if_false, if_true]
      by_cases c1 : wh N b (2 * r + 1) = 0
      · rw [if_pos c1, if_pos c1, f_X7_wholeOf_92]
        by_cases c2 : wh N b (2 * r + 2) = 0
        · rw [if_pos c2, if_pos c2]
        · rw [if_neg c2, if_neg c2]
      · rw [if_neg c1, if_neg c1, f_X7_wholeOf_92, if_neg c1]
    · simp only [if_true, ne10, if_false]
      by_cases c1 : wh N b (2 * r + 1) = 0
      · rw [if_pos c1, if_pos c1]
      · rw [if_neg c1, if_neg c1]
        by_cases c2 : wh N b (2 * r + 2) = 0
        · rw [if_pos c2, if_pos c2]
        · rw [if_neg c2, if_neg c2]
  · simp only [c, if_false] at we
    rw [if_neg (nI_nlt (by omega) (by omega)), we]
    cases hb : bt b r
    · simp
    · simp [ne10]
theorem wr_l {N : Nat} {S : St} (h16 : N ≤ 16) (h0 : 0 < N) (hodd : N % 2 = 1) (b : Int32) : ∀ (r : Nat) (M : Mem) (n : Nat), SB M N S → r ≤ N → (∀ w, r ≤ w → w < N → mI M 4 w = wh N b w) → r + 2 ≤ n → ∃ M', f_X7_wholeOfRoot_7 n 1 b (nI r - 1) M = some (wh N b 0, M') ∧ Fr P4 M M' := by
  intro r
  induction r with
  | zero =>
    intro M n h hr hw hn
    obtain ⟨n, rfl⟩ : ∃ m, n = m + 1 := ⟨n - 1, by omega⟩
    refine ⟨M, ?_, Fr.rf _ _⟩
    rw [f_X7_wholeOfRoot_7, if_pos (by decide), h.f, h.r4, bnd_e, h.a4]
    show chk (inB (nI 0) (mLn M 4)) (some (mI M 4 (nI 0).toNatClampNeg, M)) = _
    rw [h.i4 (by decide), mI_c (by decide), hw 0 (by omega) (by omega)]
  | succ r ih =>
    intro M n h hr hw hn
    obtain ⟨n, rfl⟩ : ∃ m, n = m + 1 := ⟨n - 1, by omega⟩
    have e1 : nI (r + 1) - (1 : Int32) = nI r := nI_pred r
    have h2 : SB (sI M 4 r (wh N b r)) N S := h.e rfl (fun b => mI_o _ _ _ _ _ (by decide)) (fun b => mI_o _ _ _ _ _ (by decide))
    obtain ⟨M', q1, q2⟩ := ih (sI M 4 r (wh N b r)) n h2 (by omega) (fun w hw1 hw2 => by
      by_cases c : w = r
      · rw [c, mI_s]
      · rw [mI_n _ _ _ _ c]; exact hw w (by omega) hw2) (by omega)
    refine ⟨M', ?_, Fr.tr (Fr.tsI rfl) q2⟩
    rw [e1, f_X7_wholeOfRoot_7, if_neg (nI_pos (by omega)), h.f, h.r4, bnd_e, h.a4, wo_e h h16 hodd b (by omega) hw, obd_s, h.i4 (by omega), sI_c (by omega), bnd_e, bnd_e, show nI r + (-1 : Int32) = nI r - 1 from (Int32.sub_eq_add_neg _ _).symm]
    exact q1
theorem SB.tqb {M : Mem} {N : Nat} {S : St} (h : SB M N S) (h16 : N ≤ 16) (h0 : 0 < N) (ht : xR S 20 1 = 1 → N % 2 = 1) (ht2 : xR S 20 1 = 0 ∨ xR S 20 1 = 1) {v : Nat} (hv : v < N) (b : Int32) {n : Nat} (hn : 40 ≤ n) : ∃ M', f_X7_quorumNow n 1 (nI v) b M = some (qby N S v b, M') ∧ Fr P4 M M' := by
  unfold qby
  have h6 : v < 16 := by omega
  by_cases c : xR S 17 v &&& b = 0
  · refine ⟨M, ?_, Fr.rf _ _⟩
    rw [f_X7_quorumNow, h.f, h.r2, bnd_e, h.a2, h.i2 h6, mI_c (by omega), h.b hv, if_pos c, bnd_e, h.a2, h.i2 h6, mI_c (by omega), h.b hv, if_pos c]
  · rw [if_neg c]
    rcases ht2 with z | z
    · refine ⟨M, ?_, Fr.rf _ _⟩
      rw [f_X7_quorumNow, h.f, h.r2, bnd_e, h.a2, h.i2 h6, mI_c (by omega), h.b hv, if_neg c, h.t, if_pos z, f_X7_firstUnbroken, show (0 : Int32) = nI 0 from rfl, fu_l h h16 b N 0 n (by omega) (by omega), obd_s, z, if_neg (by decide)]
    · obtain ⟨M', q1, q2⟩ := wr_l h16 h0 (ht z) b N M n h (Nat.le_refl _) (fun w _ _ => by omega) (by omega)
      refine ⟨M', ?_, q2⟩
      rw [f_X7_quorumNow, h.f, h.r2, bnd_e, h.a2, h.i2 h6, mI_c (by omega), h.b hv, if_neg c, h.t, z, if_neg ne10, f_X7_wholeOfRoot, h.f, h.n, bnd_e, q1, obd2_s, if_pos rfl]
/-- the class renews the quorums -/
def P4Q (h o : Nat) : Prop := o = 4 ∨ o = h + 15
theorem rn_l {h N : Nat} {S : St} (hh : 14 ≤ h) (h16 : N ≤ 16) (h0 : 0 < N) (ht : xR S 20 1 = 1 → N % 2 = 1) (ht2 : xR S 20 1 = 0 ∨ xR S 20 1 = 1) (b : Int32) : ∀ (d i n : Nat) (M : Mem), i + d = N → CS M h → SB M N S → mI M h 9 = b → d + 41 ≤ n → ∃ M', f_X2_renewQuorums_2 n h (nI i) M = some M' ∧ Fr (P4Q h) M M' ∧ (∀ v, i ≤ v → v < N → mI M' (h + 15) v = qby N S v b) ∧ ∀ v, v < i → mI M' (h + 15) v = mI M (h + 15) v := by
  intro d
  induction d with
  | zero =>
    intro i n M hi q s hb hn
    obtain ⟨n, rfl⟩ : ∃ m, n = m + 1 := ⟨n - 1, by omega⟩
    refine ⟨M, ?_, Fr.rf _ _, fun v _ _ => by omega, fun _ _ => rfl⟩
    rw [f_X2_renewQuorums_2, cs_f q, cs_h0 q, bnd_e, cs_s q, s.n, if_pos (nI_le (by omega) (by omega))]
  | succ d ih =>
    intro i n M hi q s hb hn
    obtain ⟨n, rfl⟩ : ∃ m, n = m + 1 := ⟨n - 1, by omega⟩
    obtain ⟨M1, e1, f1⟩ := s.tqb h16 h0 ht ht2 (v := i) (by omega) b (n := n) (by omega)
    have q1 : CS M1 h := q.e f1.1
    have i1 : ∀ o, o ≠ 4 → ∀ k, mI M1 o k = mI M o k := fun o n k => f1.2.1 o n k
    generalize hM2 : sI M1 (h + 15) i (qby N S i b) = M2
    have s2 : M2.1 = M1.1 := by rw [← hM2]; rfl
    have o2 : ∀ o, o ≠ h + 15 → ∀ k, mI M2 o k = mI M1 o k := fun o n k => by rw [← hM2, mI_o _ _ _ _ _ n]
    have F2 : Fr (P4Q h) M M2 := ⟨s2.trans f1.1, fun o n k => by unfold P4Q at n; rw [o2 o (by omega), i1 o (by omega)], fun o k => by rw [← hM2]; exact f1.2.2 o k⟩
    obtain ⟨M', e', f', g1, g2⟩ := ih (i + 1) n M2 (by omega) (q1.e s2) ((s.fr f1).e s2 (fun b => o2 1 (by omega) b) (fun b => o2 2 (by omega) b)) (by rw [o2 h (by omega), i1 h (by omega)]; exact hb) (by omega)
    refine ⟨M', ?_, F2.tr f', fun v a c => ?_, fun v hv => ?_⟩
    · rw [f_X2_renewQuorums_2, cs_f q, cs_h0 q, bnd_e, cs_s q, s.n, if_neg (nI_ge (by omega) (by omega)), cs_h5 q, bnd_e, cs_a15 q, bnd_e, cs_s q, hb, e1, obd2_s, cs_a15 q1, cs_i15 q1 (by omega), sI_c (by omega), hM2, bnd_e, nI_1, bnd_e, e']
    · by_cases z : v = i
      · rw [z, g2 i (by omega), ← hM2, mI_s]
      · exact g1 v (by omega) c
    · rw [g2 v (by omega), ← hM2, mI_n _ _ _ _ (by omega), i1 _ (by omega)]
theorem HV.Q {M M' : Mem} {h X Y N : Nat} {t : Int32} {Q Q' : Nat → Int32} {S : St} {pb pt : List Row4} (p : HV M h X Y t N Q S pb pt) (f : Fr (P4Q h) M M') (hQ : ∀ v, v < N → mI M' (h + 15) v = Q' v) : HV M' h X Y t N Q' S pb pt := by
  obtain ⟨q, pv, hp, rm, ⟨lb, lt⟩, hN, _⟩ := p
  have hq := q.2.2.2.2
  have lo : ∀ o, o ≠ 4 → o ≠ h + 15 → ∀ b, mI M' o b = mI M o b := fun o a c b => f.2.1 o (by unfold P4Q; omega) b
  refine ⟨q.e f.1, ?_, hp.cg (fun o ho b => lo o (by omega) (by omega) b) (fun _ _ _ => rfl) rfl, ?_, ⟨lb.cg (fun b => lo _ (by omega) (by omega) b) (fun b => lo _ (by omega) (by omega) b), lt.cg (fun b => lo _ (by omega) (by omega) b) (fun b => lo _ (by omega) (by omega) b)⟩, by rw [lo 1 (by omega) (by omega)]; exact hN, hQ⟩
  · obtain ⟨d5, d6, d7, len, K, fr, us, ow, w, hK⟩ := pv
    obtain ⟨_, _, _, y5, y6, y7, _⟩ := id w.1
    exact ⟨d5, d6, d7, len, K, fr, us, ow, w.cg (w.1.e f.1) (Nat.le_refl _) w.2.2.2.2.2.2.2.2.2.1.2.2.2.1 (fun i a c b => lo _ (by omega) (by omega) b) (fun b _ => lo _ (by omega) (by omega) b) (fun b _ => lo _ (by omega) (by omega) b) (fun b _ => lo _ (by omega) (by omega) b), hK⟩
  · unfold Rm mN mU mLn mR at rm ⊢
    rw [f.1]; exact rm
/-- the class's broken nodes are the reference's -/
theorem HV.bk {M : Mem} {h X Y N : Nat} {t : Int32} {Q : Nat → Int32} {S : St} {pb pt : List Row4} (p : HV M h X Y t N Q S pb pt) (h16 : N ≤ 16) (h7 : ∀ v, v < 16 → xR S 7 v = 0 ∨ xR S 7 v = 1) (hz : ∀ v, N ≤ v → v < 16 → xR S 7 v = 0) : mI M h 9 = bkm N S := by
  apply b_ext
  intro i hi
  rw [bkm_b h16 h7 hi, p.2.2.1.2.2.2.1 i hi]
  apply decide_eq_decide.mpr
  constructor
  · rintro ⟨a, b⟩
    refine ⟨?_, b⟩
    apply Decidable.byContradiction
    intro c
    rw [hz i (by omega) a] at b
    exact absurd b (by decide)
  · rintro ⟨a, b⟩
    exact ⟨by omega, b⟩
theorem HV.renew {M : Mem} {h X Y N n : Nat} {t : Int32} {Q : Nat → Int32} {S : St} {pb pt : List Row4} (p : HV M h X Y t N Q S pb pt) (s : SB M N S) (h16 : N ≤ 16) (h0 : 0 < N) (ht : xR S 20 1 = 1 → N % 2 = 1) (ht2 : xR S 20 1 = 0 ∨ xR S 20 1 = 1) (h7 : ∀ v, v < 16 → xR S 7 v = 0 ∨ xR S 7 v = 1) (hz : ∀ v, N ≤ v → v < 16 → xR S 7 v = 0) (hn : 60 ≤ n) : ∃ M', f_X2_renewQuorums n h M = some M' ∧ HV M' h X Y t N (fun v => qm N S v) S pb pt ∧ Fr (P4Q h) M M' := by
  obtain ⟨M', e, f, g, _⟩ := rn_l p.1.2.2.2.2.2.1 h16 h0 ht ht2 (bkm N S) N 0 n M (by omega) p.1 s (p.bk h16 h7 hz) (by omega)
  exact ⟨M', by rw [f_X2_renewQuorums]; exact e, p.Q f (fun v hv => g v (by omega) hv), f⟩
/-! ===== a node breaks: the model, and the class ===== -/
def drp (x : Nat) (S : St) : St := (S.1, S.2.1, (fun l => if l < 256 ∧ (l / 16 = x ∨ l % 16 = x) then [] else S.2.2.1 l), S.2.2.2)
def fgt (t : Int32) (a x : Nat) (S : St) : St := if xR S 8 a = nI x then gF t a S else uW S a ((xW S a).filter fun w => !decide (w.1 = x))
def b0 (x : Nat) (S : St) : St := uW (nob x (drp x (uR S 7 x 1))) x []
def fgl (t : Int32) (x : Nat) (ws : List Nat) (S : St) : St := ws.foldl (fun S a => if a = x then S else fgt t a x S) S
def gdw (t : Int32) (N x w : Nat) (S : St) : St := if xR S 0 w = 2 then uR S 3 w (bof (xR S 3 w) x) else (if mayA N w (rst w (sA t N 5 w (bof (xR S 3 w) x &&& (bkm N S ^^^ (-1 : Int32))) (xR S 2 w) S)) then ak t N w (rst w (sA t N 5 w (bof (xR S 3 w) x &&& (bkm N S ^^^ (-1 : Int32))) (xR S 2 w) S)) else rst w (sA t N 5 w (bof (xR S 3 w) x &&& (bkm N S ^^^ (-1 : Int32))) (xR S 2 w) S))
def gdl (t : Int32) (N x : Nat) (ws : List Nat) (S : St) : St := ws.foldl (fun S w => if w = x then S else if bt (xR S 3 w) x then gdw t N x w S else S) S
def bd (t : Int32) (N x : Nat) (S : St) : St := gdl t N x (List.range N) (fgl t x (List.range N) (b0 x S))
theorem HV.st7 {M : Mem} {h X Y N : Nat} {t : Int32} {Q : Nat → Int32} {S : St} {pb pt : List Row4} (p : HV M h X Y t N Q S pb pt) {x : Nat} {y z : Int32} (hx : x < 16) (hb : ∀ u, u < 32 → bt y u = decide (u < 16 ∧ (if u = x then z else xR S 7 u) = 1)) : HV (sI M h 9 y) h X Y t N Q (uR S 7 x z) pb pt ∧ FrH M (sI M h 9 y) h := by
  have r7 : ∀ u, xR (uR S 7 x z) 7 u = if u = x then z else xR S 7 u := fun u => by
    rw [xR_uR]
    by_cases c : u = x
    · rw [if_pos ⟨rfl, c⟩, if_pos c]
    · rw [if_neg (fun q => c q.2), if_neg c]
  have rk : ∀ k i, k ≠ 7 → xR (uR S 7 x z) k i = xR S k i := fun k i n => by rw [xR_uR, if_neg (fun q => n q.1)]
  have lim : ∀ p, p ∈ ft → p.2 ≠ 7 := by decide
  have hp : HP (sI M h 9 y) h (uR S 7 x z) := by
    obtain ⟨h1, g7, g8, g9, g10, g11, g12, g13, g14, g15⟩ := p.2.2.1
    refine ⟨fun v hv => ?_, ?_, ?_, ?_, ?_, ?_, ?_, ?_, ?_, ?_⟩
    · obtain ⟨a1, a2, a3, a4, a5⟩ := h1 v hv
      refine ⟨fun q hq => ?_, ?_, fun e => ?_, fun u hu => ?_, fun w hw => ?_⟩
      · rw [mI_o _ _ _ _ _ (by omega), rk _ _ (lim q hq)]; exact a1 q hq
      · rw [mI_o _ _ _ _ _ (by omega)]; exact a2
      · rw [mI_o _ _ _ _ _ (by omega)]; exact a3 e
      · rw [mI_o _ _ _ _ _ (by omega)]; exact a4 u hu
      · rw [mI_o _ _ _ _ _ (by omega)]; exact a5 w hw
    · intro v hv; rw [mI_n _ _ _ _ (by decide), rk 0 v (by decide)]; exact g7 v hv
    · intro v hv; rw [mI_n _ _ _ _ (by decide), rk 0 v (by decide)]; exact g8 v hv
    · intro v hv; rw [mI_s, r7]; exact hb v hv
    · rw [mI_n _ _ _ _ (by decide)]; exact g10
    · rw [mI_n _ _ _ _ (by decide)]; exact g11
    · rw [mI_n _ _ _ _ (by decide)]; exact g12
    · rw [mI_n _ _ _ _ (by decide)]; exact g13
    · rw [mI_n _ _ _ _ (by decide)]; exact g14
    · rw [mI_n _ _ _ _ (by decide)]; exact g15
  exact ⟨p.at rfl (fun o n b => mI_o _ _ _ _ _ (by omega)) hp rfl (by funext i; exact rk 16 i (by decide)) rfl rfl, FrH.sI (by omega)⟩
theorem HV.grF {M : Mem} {h X Y N A n a : Nat} {t : Int32} {Q : Nat → Int32} {S : St} {pb pt : List Row4} (p : HV M h X Y t N Q (nob a S) pb pt) (h16 : N ≤ 16) (ha : a < 16) (hW : Wok N A (xW S a)) (hl : (fl S).length < 9000) (hn : 17 ≤ n) : ∃ M', f_X2_grantFirst n h (nI a) M = some M' ∧ HV M' h X Y t N Q (gF t a S) pb pt ∧ FrH M M' h := by
  cases hx : xW S a with
  | nil =>
    have fw := p.2.2.1.fw p.1 ha (N := N) (A := A) (n := n) (by show Wok N A (xW S a); exact hW) h16 hn
    have hh : xW (nob a S) a = [] := hx
    rw [hh] at fw
    have q1 := p.1
    refine ⟨M, ?_, ?_, FrH.rf _ _⟩
    · rw [f_X2_grantFirst, cs_f q1, cs_h2 q1, bnd_e, cs_a10 q1, cs_i10 q1 ha, cs_rpc q1 ha, bnd_e, cs_po q1 ha, fw, obd_s, if_pos (show hdW [] = (-1 : Int32) from rfl)]
    · unfold gF
      rw [hx]
      exact p
  | cons w r =>
    obtain ⟨M2, e2, p2, f2⟩ := p.grant (A := A) hl ha hW h16 hn (w := w) (r := r) hx
    rw [gF_nob] at p2
    exact ⟨M2, e2, p2, f2⟩
theorem flt_fst {l : List Wtr} {x u : Nat} : u ∈ (l.filter fun w => !decide (w.1 = x)).map Prod.fst ↔ u ∈ l.map Prod.fst ∧ u ≠ x := by
  constructor
  · intro h
    obtain ⟨w, hw, e⟩ := List.mem_map.mp h
    obtain ⟨h1, h2⟩ := List.mem_filter.mp hw
    refine ⟨by rw [← e]; exact List.mem_map_of_mem h1, fun z => ?_⟩
    rw [← e] at z
    simp [z] at h2
  · rintro ⟨h, n⟩
    obtain ⟨w, hw, e⟩ := List.mem_map.mp h
    rw [← e]
    refine List.mem_map_of_mem (List.mem_filter.mpr ⟨hw, ?_⟩)
    rw [e, decide_eq_false n]; rfl
/-- an arbiter of the class forgets x -/
theorem HV.tfgt {M : Mem} {h X Y N A n : Nat} {t : Int32} {Q : Nat → Int32} {S : St} {pb pt : List Row4} (p : HV M h X Y t N Q S pb pt) (h16 : N ≤ 16) {a x : Nat} (ha : a < 16) (hx : x < 16) (hW : Wok N A (xW S a)) (hg : xR S 8 a = nI x → x ∉ (xW S a).map Prod.fst) (hl : (fl S).length < 9000) (hn : 17 ≤ n) : ∃ M', f_X2_forget n h (nI x) (nI a) M = some M' ∧ HV M' h X Y t N Q (fgt t a x S) pb pt ∧ FrH M M' h := by
  have q := p.1
  obtain ⟨_, _, _, a4, a5⟩ := p.2.2.1.1 a ha
  obtain ⟨p1, f1⟩ := p.tW (M' := sI M (h + 17 + 2 * a) 9 (bof (mI M (h + 17 + 2 * a) 9) x)) (l := (xW S a).filter fun w => !decide (w.1 = x)) ha rfl (fun _ _ => rfl) (fun o n1 _ b => by rw [mI_o _ _ _ _ _ n1]) (fun b n => by rw [mI_n _ _ _ _ n]) (fun u hu => by
    rw [mI_s, bt_off _ (by omega) hu, a4 u hu]
    by_cases c1 : u ∈ (xW S a).map Prod.fst
    · by_cases c2 : u = x
      · rw [decide_eq_true c1, decide_eq_true c2, decide_eq_false (fun z => (flt_fst.mp z).2 c2)]; rfl
      · rw [decide_eq_true c1, decide_eq_false c2, decide_eq_true (flt_fst.mpr ⟨c1, c2⟩)]; rfl
    · rw [decide_eq_false c1, decide_eq_false (fun z => c1 (flt_fst.mp z).1)]; rfl) (fun w hw => by
    rw [mI_o _ _ _ _ _ (by omega)]
    exact a5 w (List.mem_filter.mp hw).1)
  have e6 : mI (sI M (h + 17 + 2 * a) 9 (bof (mI M (h + 17 + 2 * a) 9) x)) (h + 17 + 2 * a) 6 = xR S 8 a := by
    rw [mI_n _ _ _ _ (by decide)]; exact p.fs ha (a := 6) (k := 8) (by decide)
  unfold fgt
  by_cases c : xR S 8 a = nI x
  · rw [if_pos c]
    have nf : (xW S a).filter (fun w => !decide (w.1 = x)) = xW S a := by
      apply List.filter_eq_self.mpr
      intro w hw
      have : w.1 ≠ x := fun z => hg c (by rw [← z]; exact List.mem_map_of_mem hw)
      rw [decide_eq_false this]; rfl
    rw [nf, uW_id] at p1
    obtain ⟨M2, e2, p2, f2⟩ := p1.forget ha
    obtain ⟨M3, e3, p3, f3⟩ := p2.grF (A := A) (n := n) h16 ha hW hl hn
    refine ⟨M3, ?_, p3, f1.tr (f2.tr f3)⟩
    rw [f_X2_forget, cs_f q, cs_h2 q, bnd_e, cs_a10 q, cs_i10 q ha, cs_rpc q ha, bnd_e, cs_po q ha, bnd_e]
    show (if mI (sI M (h + 17 + 2 * a) 9 (bof (mI M (h + 17 + 2 * a) 9) x)) (h + 17 + 2 * a) 6 = nI x then _ else _) = _
    rw [e6, if_pos c]
    show obd (f_X4_forgetGranted (h + 17 + 2 * a) (sI M (h + 17 + 2 * a) 9 (bof (mI M (h + 17 + 2 * a) 9) x))) _ = _
    rw [e2, obd_s, cs_f p2.1, e3, obd_s]
  · rw [if_neg c]
    refine ⟨_, ?_, p1, f1⟩
    rw [f_X2_forget, cs_f q, cs_h2 q, bnd_e, cs_a10 q, cs_i10 q ha, cs_rpc q ha, bnd_e, cs_po q ha, bnd_e]
    show (if mI (sI M (h + 17 + 2 * a) 9 (bof (mI M (h + 17 + 2 * a) 9) x)) (h + 17 + 2 * a) 6 = nI x then _ else _) = _
    rw [e6, if_neg c]
    rfl
/-- one goes on without x -/
theorem HV.tgdw {M : Mem} {h X Y N n : Nat} {t : Int32} {Q : Nat → Int32} {S : St} {pb pt : List Row4} (p : HV M h X Y t N Q S pb pt) (h16 : N ≤ 16) {x w : Nat} (hw : w < N) (hx : x < N) (hI : IA N S) (hz : ∀ v, N ≤ v → v < 16 → xR S 7 v = 0) (h7 : xR S 7 x = 1) (hQ : ∀ v, v < N → qm N S v = Q v) (hl : (fl S).length + 2 * N ≤ 9000) (hn : 17 ≤ n) : ∃ M', f_X2_doWithout n h (nI x) (nI w) M = some M' ∧ HV M' h X Y t N Q (gdw t N x w S) pb pt ∧ FrH M M' h := by
  have q := p.1
  have w6 : w < 16 := by omega
  have b7 := p.bk h16 (fun v hv => (hI v hv).2.2.1) hz
  have e7 : bt (mI M h 7) w = decide (xR S 0 w = 2) := by
    rw [p.2.2.1.2.1 w (by omega)]
    apply decide_eq_decide.mpr
    exact ⟨fun z => z.2, fun z => ⟨w6, z⟩⟩
  have u3 : mI M (h + 17 + 2 * w) 2 = xR S 3 w := p.fs w6 (a := 2) (k := 3) (by decide)
  rw [f_X2_doWithout, cs_f q, f_has9 _ (by omega), obd_s, e7]
  unfold gdw
  by_cases c : xR S 0 w = 2
  · rw [decide_eq_true c, if_pos rfl, if_neg ne10, if_pos c, cs_h2 q, bnd_e, cs_a10 q, cs_i10 q w6, cs_rpc q w6, bnd_e, cs_po q w6, bnd_e]
    obtain ⟨p1, f1⟩ := p.fld (x := bof (xR S 3 w) x) w6 (a := 2) (k := 3) (by decide) (by decide)
    refine ⟨_, ?_, p1, f1⟩
    rw [← u3]; rfl
  · rw [decide_eq_false c, if_neg (show ¬ false = true by decide), if_pos rfl, if_neg c, cs_h2 q, bnd_e, cs_a10 q, cs_i10 q w6, cs_rpc q w6, bnd_e, cs_po q w6, u3, b7]
    have es : xR S 3 w &&& (bkm N S ^^^ (-1 : Int32)) = bof (xR S 3 w) x &&& (bkm N S ^^^ (-1 : Int32)) := by
      apply b_ext
      intro i hi
      rw [bt_minus _ _ hi, bt_minus _ _ hi, bt_off _ (by omega) hi]
      by_cases d : i = x
      · rw [bkm_b h16 (fun v hv => (hI v hv).2.2.1) hi, decide_eq_true (show i < N ∧ xR S 7 i = 1 by rw [d]; exact ⟨hx, h7⟩)]; simp
      · rw [decide_eq_false d]; simp
    rw [es]
    obtain ⟨M1, e1, p1, f1⟩ := p.tsA (n := n) h16 (k := 5) (f := w) (by decide) w6 (bof (xR S 3 w) x &&& (bkm N S ^^^ (-1 : Int32))) (by omega) hn
    obtain ⟨M2, e2, p2, f2⟩ := p1.idle w6
    have len1 : (fl (sA t N 5 w (bof (xR S 3 w) x &&& (bkm N S ^^^ (-1 : Int32))) (xR S 2 w) S)).length ≤ (fl S).length + N := by
      have := sAl_len t (k := 5) w6 (bof (xR S 3 w) x &&& (bkm N S ^^^ (-1 : Int32))) (xR S 2 w) (List.range N) S (fun v hv => by have := List.mem_range.mp hv; omega)
      rw [List.length_range] at this
      exact this
    generalize hS1 : sA t N 5 w (bof (xR S 3 w) x &&& (bkm N S ^^^ (-1 : Int32))) (xR S 2 w) S = S1 at p1 p2 len1
    have rR : ∀ k i, k ≠ 16 → xR S1 k i = xR S k i := fun k i hk => by rw [← hS1, sA_R hk]
    have kq : Qk S (rst w S1) := fun k hk i => by rw [rst_R, if_neg (by omega), rR k i (by omega)]
    have ia : IA N (rst w S1) := by
      intro v hv
      obtain ⟨x1, x2, x3, x4⟩ := hI v hv
      rw [rst_R, rst_R, rst_R, if_neg (show ¬ (v = w ∧ (7 = 0 ∨ 3 ≤ 7 ∧ 7 ≤ 6)) by omega), if_neg (show ¬ (v = w ∧ (10 = 0 ∨ 3 ≤ 10 ∧ 10 ≤ 6)) by omega), rR _ _ (by decide), rR _ _ (by decide), rR _ _ (by decide)]
      refine ⟨?_, ?_, x3, x4⟩
      · split
        · exact Or.inl rfl
        · exact x1
      · intro z
        split
        · rfl
        · exact x2 z
    have may := p2.may ia h16 hw (by rw [kq.m]; exact hQ w hw)
    rw [show (5 : Int32) = nI 5 from rfl, e1, obd_s, cs_f p1.1, e2, obd_s, cs_f p2.1, may, obd_s]
    by_cases d : mayA N w (rst w S1) = true
    · rw [if_pos d, if_neg ne10, if_pos d]
      obtain ⟨M3, e3, p3, f3⟩ := p2.tak (n := n) h16 hw (by rw [rst_R, if_pos ⟨rfl, Or.inl rfl⟩]; decide) (by rw [kq.m]; exact hQ w hw) (by show (fl S1).length + N ≤ 9000; omega) hn
      exact ⟨M3, by rw [e3, obd_s], p3, f1.tr (f2.tr f3)⟩
    · rw [if_neg d, if_pos rfl, if_neg d]
      exact ⟨M2, rfl, p2, f1.tr f2⟩
/-! ===== the class breaks a node ===== -/
def dl1 (l : Nat) (S : St) : St := if xL S l = [] then S else uL S l []
theorem dl1_R (l : Nat) (S : St) : xR (dl1 l S) = xR S ∧ xW (dl1 l S) = xW S ∧ xE (dl1 l S) = xE S ∧ xT (dl1 l S) = xT S := by
  unfold dl1
  split <;> exact ⟨rfl, rfl, rfl, rfl⟩
theorem dl1_L (m : Nat) (S : St) (l : Nat) : xL (dl1 m S) l = if l = m then [] else xL S l := by
  unfold dl1
  by_cases c : xL S m = []
  · rw [if_pos c]
    by_cases d : l = m
    · rw [if_pos d, d, c]
    · rw [if_neg d]
  · rw [if_neg c, xL_uL]
theorem HV.drop {M : Mem} {h X Y N n : Nat} {t : Int32} {Q : Nat → Int32} {S : St} {pb pt : List Row4} (p : HV M h X Y t N Q S pb pt) {f g : Nat} (hf : f < 16) (hg : g < 16) (hl : (xL S (16 * f + g)).length < 9001) (hn : 9002 ≤ n) : ∃ M', f_X5_drop n (h + 1) (nI f) (nI g) M = some M' ∧ HV M' h X Y t N Q (dl1 (16 * f + g) S) pb pt ∧ FrH M M' h := by
  obtain ⟨M', e, q', p', r', f'⟩ := PV.drop p.1 p.2.1 p.2.2.2.1 hf hg hl hn
  obtain ⟨d1, d2, d3, d4⟩ := dl1_R (16 * f + g) S
  exact ⟨M', e, p.frP f' q' p' r' (fun k i _ => by rw [d1]) d2 d3 d4, f'.toH⟩
def drl (x : Nat) (ws : List Nat) (S : St) : St := ws.foldl (fun S v => dl1 (16 * v + x) (dl1 (16 * x + v) S)) S
theorem drl_R (x : Nat) : ∀ (ws : List Nat) (S : St), xR (drl x ws S) = xR S ∧ xW (drl x ws S) = xW S ∧ xE (drl x ws S) = xE S ∧ xT (drl x ws S) = xT S := by
  intro ws
  induction ws with
  | nil => intro S; exact ⟨rfl, rfl, rfl, rfl⟩
  | cons v ws ih =>
    intro S
    have := ih (dl1 (16 * v + x) (dl1 (16 * x + v) S))
    obtain ⟨a1, a2, a3, a4⟩ := dl1_R (16 * v + x) (dl1 (16 * x + v) S)
    obtain ⟨b1, b2, b3, b4⟩ := dl1_R (16 * x + v) S
    rw [a1, a2, a3, a4, b1, b2, b3, b4] at this
    exact this
theorem drl_L {x : Nat} (hx : x < 16) : ∀ (d i : Nat) (S : St) (l : Nat), i + d ≤ 16 → xL (drl x (List.range' i d) S) l = if (l % 16 = x ∧ i ≤ l / 16 ∧ l / 16 < i + d) ∨ (l / 16 = x ∧ i ≤ l % 16 ∧ l % 16 < i + d) then [] else xL S l := by
  intro d
  induction d with
  | zero =>
    intro i S l hi
    rw [if_neg (by omega)]; rfl
  | succ d ih =>
    intro i S l hi
    unfold drl
    rw [List.range'_succ, List.foldl_cons]
    have := ih (i + 1) (dl1 (16 * i + x) (dl1 (16 * x + i) S)) l (by omega)
    unfold drl at this
    rw [this, dl1_L, dl1_L]
    by_cases c : (l % 16 = x ∧ i + 1 ≤ l / 16 ∧ l / 16 < i + 1 + d) ∨ (l / 16 = x ∧ i + 1 ≤ l % 16 ∧ l % 16 < i + 1 + d)
    · rw [if_pos c, if_pos (by rcases c with c | c; exact Or.inl ⟨c.1, by omega, by omega⟩; exact Or.inr ⟨c.1, by omega, by omega⟩)]
    · rw [if_neg c]
      by_cases c1 : l = 16 * i + x
      · rw [if_pos c1, if_pos (Or.inl ⟨by omega, by omega, by omega⟩)]
      · rw [if_neg c1]
        by_cases c2 : l = 16 * x + i
        · rw [if_pos c2, if_pos (Or.inr ⟨by omega, by omega, by omega⟩)]
        · rw [if_neg c2, if_neg]
          rintro (⟨z1, z2, z3⟩ | ⟨z1, z2, z3⟩)
          · exact c (Or.inl ⟨z1, by omega, by omega⟩)
          · exact c (Or.inr ⟨z1, by omega, by omega⟩)
theorem drl_e {x N : Nat} {S : St} (hx : x < N) (h16 : N ≤ 16) (hE : ∀ l, l < 256 → ¬ (l / 16 < N ∧ l % 16 < N) → xL S l = []) : drl x (List.range' 0 N) S = drp x S := by
  obtain ⟨a1, a2, a3, a4⟩ := drl_R x (List.range' 0 N) S
  refine St.ext (fun k i => by rw [a1]; rfl) (by rw [a2]; rfl) ?_ (by rw [a3]; rfl) (by rw [a4]; rfl)
  funext l
  rw [drl_L (by omega) N 0 S l (by omega)]
  show _ = if l < 256 ∧ (l / 16 = x ∨ l % 16 = x) then [] else xL S l
  by_cases c : (l % 16 = x ∧ 0 ≤ l / 16 ∧ l / 16 < 0 + N) ∨ (l / 16 = x ∧ 0 ≤ l % 16 ∧ l % 16 < 0 + N)
  · rw [if_pos c, if_pos (by omega)]
  · rw [if_neg c]
    by_cases d : l < 256 ∧ (l / 16 = x ∨ l % 16 = x)
    · rw [if_pos d]
      exact hE l d.1 (by omega)
    · rw [if_neg d]
theorem fl_le_L {S S' : St} (h : ∀ l, l < 256 → xL S' l = [] ∨ xL S' l = xL S l) : (fl S').length ≤ (fl S).length := by
  refine fl_mono (fun l hl => ?_)
  rcases h l hl with z | z <;> rw [z]
  · exact Nat.zero_le _
  · exact Nat.le_refl _
theorem bk27 {h X Y N : Nat} {t : Int32} {Q : Nat → Int32} {pb pt : List Row4} (h16 : N ≤ 16) {x : Nat} (hx : x < N) : ∀ (d i n : Nat) (M : Mem) (S : St), HV M h X Y t N Q S pb pt → i + d = N → (fl S).length ≤ 9000 → d + 9003 ≤ n → ∃ M' n', f_X2_breakNode_27 n h (nI x) (nI i) M = f_X2_breakNode_64 n' h (nI x) (0 : Int32) M' ∧ n ≤ n' + d + 1 ∧ HV M' h X Y t N Q (drl x (List.range' i d) S) pb pt ∧ FrH M M' h := by
  intro d
  induction d with
  | zero =>
    intro i n M S p hi hl hn
    obtain ⟨n, rfl⟩ : ∃ m, n = m + 1 := ⟨n - 1, by omega⟩
    refine ⟨M, n, ?_, by omega, p, FrH.rf _ _⟩
    rw [f_X2_breakNode_27, cs_f p.1, cs_h0 p.1, bnd_e, cs_s p.1, p.2.2.2.2.2.1, if_pos (nI_le (by omega) (by omega))]
  | succ d ih =>
    intro i n M S p hi hl hn
    obtain ⟨n, rfl⟩ : ∃ m, n = m + 1 := ⟨n - 1, by omega⟩
    have l1 := ln_l (S := S) (l := 16 * x + i) (by omega) hl
    obtain ⟨M1, e1, p1, f1⟩ := p.drop (n := n) (f := x) (g := i) (by omega) (by omega) (by omega) (by omega)
    have s1 : (fl (dl1 (16 * x + i) S)).length ≤ (fl S).length := fl_le_L (fun l _ => by
      rw [dl1_L]; split
      · exact Or.inl rfl
      · exact Or.inr rfl)
    have l2 := ln_l (S := dl1 (16 * x + i) S) (l := 16 * i + x) (by omega) (by omega)
    obtain ⟨M2, e2, p2, f2⟩ := p1.drop (n := n) (f := i) (g := x) (by omega) (by omega) (by omega) (by omega)
    have s2 : (fl (dl1 (16 * i + x) (dl1 (16 * x + i) S))).length ≤ (fl (dl1 (16 * x + i) S)).length := fl_le_L (fun l _ => by
      rw [dl1_L]; split
      · exact Or.inl rfl
      · exact Or.inr rfl)
    obtain ⟨M', n', e', hn', p', f'⟩ := ih (i + 1) n M2 _ p2 (by omega) (by omega) (by omega)
    refine ⟨M', n', ?_, by omega, ?_, f1.tr (f2.tr f')⟩
    · rw [f_X2_breakNode_27, cs_f p.1, cs_h0 p.1, bnd_e, cs_s p.1, p.2.2.2.2.2.1, if_neg (nI_ge (by omega) (by omega)), cs_h1 p.1, bnd_e, cs_p p.1, e1, obd_s, cs_f p1.1, cs_h1 p1.1, bnd_e, cs_p p1.1, e2, obd_s, bnd_e, nI_1, e']
    · unfold drl
      rw [List.range'_succ, List.foldl_cons]
      exact p'
theorem fgt_R {t : Int32} {a x : Nat} {S : St} {k i : Nat} (h : i ≠ a ∨ k < 8 ∨ 10 < k) (hk : k ≠ 16) : xR (fgt t a x S) k i = xR S k i := by
  unfold fgt
  split
  · exact gF_R h hk
  · rfl
theorem fgt_Wo {t : Int32} {a x b : Nat} {S : St} (h : b ≠ a) : xW (fgt t a x S) b = xW S b := by
  unfold fgt
  split
  · exact gF_Wo h
  · rw [xW_uW, if_neg h]
theorem fgt_len {t : Int32} {a x : Nat} {S : St} (ha : a < 16) (hW : ∀ w, w ∈ xW S a → w.1 < 16) : (fl (fgt t a x S)).length ≤ (fl S).length + 1 := by
  unfold fgt
  split
  · exact gF_len ha hW
  · exact Nat.le_succ _
theorem fgt_id {t : Int32} {x : Nat} {S : St} (h8 : xR S 8 x = -1) (hx : x < 16) (hW : xW S x = []) : fgt t x x S = S := by
  unfold fgt
  rw [h8, if_neg (m1_ne hx), hW]
  show uW S x [] = S
  rw [← hW]; exact uW_id S x
/-- what the forgetting rests on, from i on -/
def Fg (N A x i : Nat) (S : St) : Prop := ∀ a, i ≤ a → a < N → Wok N A (xW S a) ∧ (xR S 8 a = nI x → x ∉ (xW S a).map Prod.fst) ∧ (a = x → xR S 8 a = -1 ∧ xW S a = [])
theorem Fg.s {t : Int32} {N A x i : Nat} {S : St} (h : Fg N A x i S) : Fg N A x (i + 1) (fgt t i x S) := fun a h1 h2 => by
  rw [fgt_Wo (by omega), fgt_R (by omega) (by decide)]
  exact h a (by omega) h2
theorem bk64 {h X Y N A : Nat} {t : Int32} {Q : Nat → Int32} {pb pt : List Row4} (h16 : N ≤ 16) {x : Nat} (hx : x < N) : ∀ (d i n : Nat) (M : Mem) (S : St), HV M h X Y t N Q S pb pt → i + d = N → Fg N A x i S → (fl S).length + d < 9000 → d + 20 ≤ n → ∃ M' n', f_X2_breakNode_64 n h (nI x) (nI i) M = f_X2_breakNode_89 n' h (nI x) (0 : Int32) M' ∧ n ≤ n' + d + 1 ∧ HV M' h X Y t N Q (fgl t x (List.range' i d) S) pb pt ∧ FrH M M' h := by
  intro d
  induction d with
  | zero =>
    intro i n M S p hi hF hl hn
    obtain ⟨n, rfl⟩ : ∃ m, n = m + 1 := ⟨n - 1, by omega⟩
    refine ⟨M, n, ?_, by omega, p, FrH.rf _ _⟩
    rw [f_X2_breakNode_64, cs_f p.1, cs_h0 p.1, bnd_e, cs_s p.1, p.2.2.2.2.2.1, if_pos (nI_le (by omega) (by omega))]
  | succ d ih =>
    intro i n M S p hi hF hl hn
    obtain ⟨n, rfl⟩ : ∃ m, n = m + 1 := ⟨n - 1, by omega⟩
    obtain ⟨g1, g2, g3⟩ := hF i (Nat.le_refl _) (by omega)
    obtain ⟨M1, e1, p1, f1⟩ := p.tfgt (A := A) (n := n) h16 (a := i) (x := x) (by omega) (by omega) g1 g2 (by omega) (by omega)
    have l1 := fgt_len (t := t) (a := i) (x := x) (S := S) (by omega) (fun w hw => by have := (g1.2.2 w hw).1; omega)
    obtain ⟨M', n', e', hn', p', f'⟩ := ih (i + 1) n M1 _ p1 (by omega) hF.s (by omega) (by omega)
    refine ⟨M', n', ?_, by omega, ?_, f1.tr f'⟩
    · rw [f_X2_breakNode_64, cs_f p.1, cs_h0 p.1, bnd_e, cs_s p.1, p.2.2.2.2.2.1, if_neg (nI_ge (by omega) (by omega)), e1, obd_s, bnd_e, nI_1, e']
    · unfold fgl at p' ⊢
      rw [List.range'_succ, List.foldl_cons]
      by_cases c : i = x
      · rw [if_pos c]
        subst c
        rw [fgt_id (g3 rfl).1 (by omega) (g3 rfl).2] at p'
        exact p'
      · rw [if_neg c]; exact p'
/-! ===== the class breaks a node: who goes on without it ===== -/
theorem gdw_3 (t : Int32) (N x w : Nat) (S : St) : (xR S 0 w = 2 ∧ gdw t N x w S = uR S 3 w (bof (xR S 3 w) x)) ∨ (¬ xR S 0 w = 2 ∧ ∃ S1, S1 = rst w (sA t N 5 w (bof (xR S 3 w) x &&& (bkm N S ^^^ (-1 : Int32))) (xR S 2 w) S) ∧ ((mayA N w S1 = true ∧ gdw t N x w S = ak t N w S1) ∨ (¬ mayA N w S1 = true ∧ gdw t N x w S = S1))) := by
  unfold gdw
  by_cases c : xR S 0 w = 2
  · exact Or.inl ⟨c, if_pos c⟩
  · refine Or.inr ⟨c, _, rfl, ?_⟩
    rw [if_neg c]
    by_cases d : mayA N w (rst w (sA t N 5 w (bof (xR S 3 w) x &&& (bkm N S ^^^ (-1 : Int32))) (xR S 2 w) S)) = true
    · exact Or.inl ⟨d, if_pos d⟩
    · exact Or.inr ⟨d, if_neg d⟩
theorem gdw_Ro {t : Int32} {N x w : Nat} {S : St} {k i : Nat} (hk : k ≠ 16) (hi : i ≠ w) : xR (gdw t N x w S) k i = xR S k i := by
  rcases gdw_3 t N x w S with ⟨_, e⟩ | ⟨_, S1, e1, ⟨_, e⟩ | ⟨_, e⟩⟩
  · rw [e, xR_uR, if_neg (by omega)]
  · rw [e, ak_Ro hk hi, e1, rst_R, if_neg (by omega), sA_R hk]
  · rw [e, e1, rst_R, if_neg (by omega), sA_R hk]
theorem gdw_Rk {t : Int32} {N x w : Nat} {S : St} {k i : Nat} (hk : 7 ≤ k ∧ k ≠ 13 ∧ k ≠ 14 ∧ k ≠ 16) : xR (gdw t N x w S) k i = xR S k i := by
  rcases gdw_3 t N x w S with ⟨_, e⟩ | ⟨_, S1, e1, ⟨_, e⟩ | ⟨_, e⟩⟩
  · rw [e, xR_uR, if_neg (by omega)]
  · rw [e, ak_Rk hk, e1, rst_R, if_neg (by omega), sA_R (by omega)]
  · rw [e, e1, rst_R, if_neg (by omega), sA_R (by omega)]
theorem gdw_W {t : Int32} {N x w : Nat} {S : St} : xW (gdw t N x w S) = xW S := by
  rcases gdw_3 t N x w S with ⟨_, e⟩ | ⟨_, S1, e1, ⟨_, e⟩ | ⟨_, e⟩⟩
  · rw [e]; rfl
  · rw [e, ak_W, e1]
    show xW (sA _ _ _ _ _ _ _) = _
    rw [sA_W]
  · rw [e, e1]
    show xW (sA _ _ _ _ _ _ _) = _
    rw [sA_W]
theorem gdw_Q (t : Int32) (N x w : Nat) (S : St) : Qk S (gdw t N x w S) := fun k hk i => gdw_Rk (by omega)
theorem gdw_IA {t : Int32} {N x w : Nat} {S : St} (h : IA N S) (hw : w < N) : IA N (gdw t N x w S) := by
  intro v hv
  obtain ⟨x1, x2, x3, x4⟩ := h v hv
  rw [gdw_Rk (k := 7) (by omega), gdw_Rk (k := 10) (by omega)]
  by_cases c : v = w
  · subst c
    rcases gdw_3 t N x v S with ⟨z, e⟩ | ⟨_, S1, e1, ⟨_, e⟩ | ⟨_, e⟩⟩
    · rw [e, xR_uR, if_neg (by omega)]; exact ⟨x1, x2, x3, x4⟩
    · have : xR (ak t N v S1) 0 v = 1 := by rw [ak_R (by decide), if_pos rfl]; rfl
      rw [e, this]; exact ⟨Or.inr (Or.inl rfl), fun z => by omega, x3, x4⟩
    · have : xR S1 0 v = 0 := by rw [e1, rst_R, if_pos ⟨rfl, Or.inl rfl⟩]
      rw [e, this]; exact ⟨Or.inl rfl, fun _ => rfl, x3, x4⟩
  · rw [gdw_Ro (by decide) c]; exact ⟨x1, x2, x3, x4⟩
theorem gdw_len {t : Int32} {N x w : Nat} {S : St} (h16 : N ≤ 16) (hw : w < N) : (fl (gdw t N x w S)).length ≤ (fl S).length + 2 * N := by
  have len1 : (fl (sA t N 5 w (bof (xR S 3 w) x &&& (bkm N S ^^^ (-1 : Int32))) (xR S 2 w) S)).length ≤ (fl S).length + N := by
    have := sAl_len t (k := 5) (show w < 16 by omega) (bof (xR S 3 w) x &&& (bkm N S ^^^ (-1 : Int32))) (xR S 2 w) (List.range N) S (fun v hv => by have := List.mem_range.mp hv; omega)
    rw [List.length_range] at this
    exact this
  rcases gdw_3 t N x w S with ⟨_, e⟩ | ⟨_, S1, e1, ⟨_, e⟩ | ⟨_, e⟩⟩
  · rw [e]; show (fl S).length ≤ _; omega
  · have := ak_len (N := N) (v := w) (S := S1) h16 (by omega) t
    have l1 : (fl S1).length ≤ (fl S).length + N := by rw [e1]; exact len1
    rw [e]; omega
  · have l1 : (fl S1).length ≤ (fl S).length + N := by rw [e1]; exact len1
    rw [e]; omega
theorem bk89 {h X Y N : Nat} {t : Int32} {Q : Nat → Int32} {pb pt : List Row4} (h16 : N ≤ 16) {x : Nat} (hx : x < N) : ∀ (d i n : Nat) (M : Mem) (S : St), HV M h X Y t N Q S pb pt → i + d = N → IA N S → (∀ v, N ≤ v → v < 16 → xR S 7 v = 0) → xR S 7 x = 1 → (∀ v, v < N → qm N S v = Q v) → (xR S 3 x = 0) → (fl S).length + 2 * N * d ≤ 9000 → d + 20 ≤ n → ∃ M', f_X2_breakNode_89 n h (nI x) (nI i) M = some M' ∧ HV M' h X Y t N Q (gdl t N x (List.range' i d) S) pb pt ∧ FrH M M' h := by
  intro d
  induction d with
  | zero =>
    intro i n M S p hi hI hz h7 hQ h3 hl hn
    obtain ⟨n, rfl⟩ : ∃ m, n = m + 1 := ⟨n - 1, by omega⟩
    refine ⟨M, ?_, p, FrH.rf _ _⟩
    rw [f_X2_breakNode_89, cs_f p.1, cs_h0 p.1, bnd_e, cs_s p.1, p.2.2.2.2.2.1, if_pos (nI_le (by omega) (by omega))]
  | succ d ih =>
    intro i n M S p hi hI hz h7 hQ h3 hl hn
    obtain ⟨n, rfl⟩ : ∃ m, n = m + 1 := ⟨n - 1, by omega⟩
    have i6 : i < 16 := by omega
    rw [Nat.mul_succ] at hl
    have u3 : mI M (h + 17 + 2 * i) 2 = xR S 3 i := p.fs i6 (a := 2) (k := 3) (by decide)
    have e0 : ∀ y, (if (if bt (xR S 3 i) x = true then (1 : Int32) else 0) = 0 then f_X2_breakNode_89 n h (nI x) (nI (i + 1)) M else obd (f_X2_doWithout n h (nI x) (nI i) M) fun M21 => f_X2_breakNode_89 n h (nI x) (nI (i + 1)) M21) = y → f_X2_breakNode_89 (n + 1) h (nI x) (nI i) M = y := by
      intro y hy
      rw [f_X2_breakNode_89, cs_f p.1, cs_h0 p.1, bnd_e, cs_s p.1, p.2.2.2.2.2.1, if_neg (nI_ge (by omega) (by omega)), cs_h2 p.1, bnd_e, cs_a10 p.1, cs_i10 p.1 i6, cs_rpc p.1 i6, bnd_e, cs_po p.1 i6, u3, f_has9 _ (by omega), obd_s, bnd_e, nI_1]
      exact hy
    unfold gdl
    rw [List.range'_succ, List.foldl_cons]
    by_cases c : i = x
    · rw [if_pos c]
      obtain ⟨M', e', p', f'⟩ := ih (i + 1) n M S p (by omega) hI hz h7 hQ h3 (by omega) (by omega)
      unfold gdl at p'
      refine ⟨M', e0 _ ?_, p', f'⟩
      rw [show bt (xR S 3 i) x = false by rw [c, h3, b_0], if_neg (show ¬ false = true by decide), if_pos rfl]
      exact e'
    · rw [if_neg c]
      by_cases b : bt (xR S 3 i) x = true
      · rw [if_pos b]
        obtain ⟨M1, e1, p1, f1⟩ := p.tgdw (n := n) h16 (x := x) (w := i) (by omega) hx hI hz h7 hQ (by omega) (by omega)
        have l1 := gdw_len (t := t) (N := N) (x := x) (w := i) (S := S) h16 (by omega)
        obtain ⟨M', e', p', f'⟩ := ih (i + 1) n M1 _ p1 (by omega) (gdw_IA hI (by omega)) (fun v a b => by rw [gdw_Rk (by omega)]; exact hz v a b) (by rw [gdw_Rk (by omega)]; exact h7) (fun v hv => by rw [(gdw_Q t N x i S).m]; exact hQ v hv) (by rw [gdw_Ro (by decide) (fun z => c z.symm)]; exact h3) (by omega) (by omega)
        unfold gdl at p'
        refine ⟨M', e0 _ ?_, p', f1.tr f'⟩
        rw [if_pos b, if_neg ne10, e1, obd_s]
        exact e'
      · rw [if_neg b]
        obtain ⟨M', e', p', f'⟩ := ih (i + 1) n M S p (by omega) hI hz h7 hQ h3 (by omega) (by omega)
        unfold gdl at p'
        refine ⟨M', e0 _ ?_, p', f'⟩
        rw [if_neg b, if_pos rfl]
        exact e'
/-- a frame: a hall, the row of wholes -/
def FrW4 (M M' : Mem) (h : Nat) : Prop := mN M ≤ mN M' ∧ (∀ i, i < mN M → M'.1.2.1 i = M.1.2.1 i) ∧ (∀ a b, a < mN M → ¬ (a = h + 1 ∧ 5 ≤ b ∧ b ≤ 7) → mR M' a b = mR M a b) ∧ (∀ o, o < mN M → o ≠ 4 → ¬ (h ≤ o ∧ o < h + 49) → o ≠ mR M (h + 1) 5 → o ≠ mR M (h + 1) 6 → o ≠ mR M (h + 1) 7 → ∀ b, mI M' o b = mI M o b) ∧ (∀ o, o < mN M → o ≠ h → ∀ b, mL M' o b = mL M o b) ∧ (∀ j, 5 ≤ j → j ≤ 7 → mR M' (h + 1) j = mR M (h + 1) j ∨ mN M ≤ mR M' (h + 1) j)
theorem FrH.w4 {M M' : Mem} {h : Nat} (f : FrH M M' h) : FrW4 M M' h := ⟨f.1, f.2.1, f.2.2.1, fun o a _ b c d e => f.2.2.2.1 o a b c d e, fun o a _ b => f.2.2.2.2.1 o a b, f.2.2.2.2.2⟩
theorem Fr.w4 {M M' : Mem} {h : Nat} (f : Fr (P4Q h) M M') : FrW4 M M' h :=
  ⟨by unfold mN; rw [f.1]; exact Nat.le_refl _, fun i _ => by rw [f.1], fun a b _ _ => by unfold mR; rw [f.1], fun o _ n4 n _ _ _ b => f.2.1 o (by unfold P4Q; omega) b, fun o _ _ b => f.2.2 o b, fun j _ _ => Or.inl (by unfold mR; rw [f.1])⟩
theorem FrW4.tr {M M' M'' : Mem} {h : Nat} (p : FrW4 M M' h) (p' : FrW4 M' M'' h) : FrW4 M M'' h := by
  obtain ⟨a1, a2, a3, a4, a5, a6⟩ := p
  obtain ⟨b1, b2, b3, b4, b5, b6⟩ := p'
  refine ⟨Nat.le_trans a1 b1, fun i hi => (b2 i (by omega)).trans (a2 i hi), fun a b ha hn => (b3 a b (by omega) hn).trans (a3 a b ha hn), fun o ho h4 h1 h5 h6 h7 b => ?_, fun o ho n b => (b5 o (by omega) n b).trans (a5 o ho n b), fun j h5 h7 => ?_⟩
  · have n5 : o ≠ mR M' (h + 1) 5 := by rcases a6 5 (by decide) (by decide) with e | e <;> omega
    have n6 : o ≠ mR M' (h + 1) 6 := by rcases a6 6 (by decide) (by decide) with e | e <;> omega
    have n7 : o ≠ mR M' (h + 1) 7 := by rcases a6 7 (by decide) (by decide) with e | e <;> omega
    exact (b4 o (by omega) h4 h1 n5 n6 n7 b).trans (a4 o ho h4 h1 h5 h6 h7 b)
  · rcases b6 j h5 h7 with e | e
    · rcases a6 j h5 h7 with e2 | e2
      · exact Or.inl (e.trans e2)
      · exact Or.inr (by omega)
    · exact Or.inr (by omega)
theorem FrD.w4 {M M' : Mem} {h : Nat} (f : FrD M M' h) : FrW4 M M' h := by
  obtain ⟨x, f⟩ := f
  exact ⟨f.1, f.2.1, f.2.2.1, fun o a _ b c d e => f.2.2.2.1 o a b c d e, fun o a n b => (f.2.2.2.2.1 o a b).trans (by rw [mL_sL, if_neg (fun z => n z.1)]), f.2.2.2.2.2⟩
theorem fgl_R {t : Int32} {x : Nat} {k i : Nat} (hk : k < 8 ∨ (10 < k ∧ k ≠ 16)) : ∀ (ws : List Nat) (S : St), xR (fgl t x ws S) k i = xR S k i := by
  intro ws
  induction ws with
  | nil => intro S; rfl
  | cons w ws ih =>
    intro S
    unfold fgl
    rw [List.foldl_cons]
    have := ih (if w = x then S else fgt t w x S)
    unfold fgl at this
    rw [this]
    split
    · rfl
    · exact fgt_R (by omega) (by omega)
theorem fgl_len {t : Int32} {N A x : Nat} (h16 : N ≤ 16) : ∀ (d i : Nat) (S : St), i + d = N → Fg N A x i S → (fl (fgl t x (List.range' i d) S)).length ≤ (fl S).length + d := by
  intro d
  induction d with
  | zero => intro i S _ _; exact Nat.le_refl _
  | succ d ih =>
    intro i S hi hF
    unfold fgl
    rw [List.range'_succ, List.foldl_cons]
    obtain ⟨g1, g2, g3⟩ := hF i (Nat.le_refl _) (by omega)
    have hF' : Fg N A x (i + 1) (if i = x then S else fgt t i x S) := by
      split
      · exact fun a h1 h2 => hF a (by omega) h2
      · exact hF.s
    have := ih (i + 1) (if i = x then S else fgt t i x S) (by omega) hF'
    unfold fgl at this
    have l1 : (fl (if i = x then S else fgt t i x S)).length ≤ (fl S).length + 1 := by
      split
      · omega
      · exact fgt_len (by omega) (fun w hw => by have := (g1.2.2 w hw).1; omega)
    omega
/-! ===== the class breaks a node, the whole ===== -/
theorem gF_10 {t : Int32} {a : Nat} {S : St} : xR (gF t a S) 10 a = 0 := by
  unfold gF
  cases hw : xW S a with
  | nil => exact (nob_8 a S).2.2
  | cons w r =>
    simp only []
    rw [sn_R _ _ _ _ _ _ (by decide), xR_uW, xR_uR, if_neg (by omega), xR_uR, if_neg (by omega)]
    exact (nob_8 a S).2.2
theorem fgl_IA {t : Int32} {N x : Nat} : ∀ (ws : List Nat) (S : St), IA N S → IA N (fgl t x ws S) := by
  intro ws
  induction ws with
  | nil => intro S h; exact h
  | cons w ws ih =>
    intro S h
    unfold fgl
    rw [List.foldl_cons]
    refine ih _ ?_
    split
    · exact h
    · intro v hv
      obtain ⟨x1, x2, x3, x4⟩ := h v hv
      rw [fgt_R (k := 0) (by omega) (by decide), fgt_R (k := 7) (by omega) (by decide)]
      refine ⟨x1, x2, x3, ?_⟩
      by_cases c : v = w
      · subst c
        unfold fgt
        split
        · exact Or.inl gF_10
        · exact x4
      · rw [fgt_R (Or.inl c) (by decide)]; exact x4
theorem b0_R {x : Nat} {S : St} {k i : Nat} : xR (b0 x S) k i = if i = x ∧ k = 7 then 1 else if i = x ∧ k = 8 then -1 else if i = x ∧ (k = 9 ∨ k = 10) then 0 else xR S k i := by
  have e : xR (b0 x S) k i = xR (nob x (uR S 7 x 1)) k i := rfl
  rw [e]
  by_cases c7 : i = x ∧ k = 7
  · rw [if_pos c7, nob_R (by omega), xR_uR, if_pos ⟨c7.2, c7.1⟩]
  · rw [if_neg c7]
    by_cases c8 : i = x ∧ k = 8
    · rw [if_pos c8, c8.1, c8.2]; exact (nob_8 x _).1
    · rw [if_neg c8]
      by_cases c9 : i = x ∧ (k = 9 ∨ k = 10)
      · rw [if_pos c9, c9.1]
        rcases c9.2 with z | z
        · rw [z]; exact (nob_8 x _).2.1
        · rw [z]; exact (nob_8 x _).2.2
      · rw [if_neg c9, nob_R (by omega), xR_uR, if_neg (by omega)]
theorem b0_W {x : Nat} {S : St} (a : Nat) : xW (b0 x S) a = if a = x then [] else xW S a := rfl
theorem b0_L {x : Nat} {S : St} (l : Nat) : xL (b0 x S) l = if l < 256 ∧ (l / 16 = x ∨ l % 16 = x) then [] else xL S l := rfl
theorem b0_len {x : Nat} {S : St} : (fl (b0 x S)).length ≤ (fl S).length := fl_le_L (fun l _ => by
  rw [b0_L]; split
  · exact Or.inl rfl
  · exact Or.inr rfl)
theorem b0_Fg {N A x : Nat} {S : St} (hI : Inv N A S) (h16 : N ≤ 16) (hx : x < N) : Fg N A x 0 (b0 x S) := by
  intro a _ ha
  rw [b0_W, b0_R]
  by_cases c : a = x
  · subst c
    rw [if_pos rfl, if_neg (by omega), if_pos ⟨rfl, rfl⟩]
    exact ⟨⟨List.Pairwise.nil, List.nodup_nil, fun w hw => by cases hw⟩, fun _ => by simp, fun _ => ⟨rfl, rfl⟩⟩
  · rw [if_neg c, if_neg (by omega), if_neg (by omega), if_neg (by omega)]
    have hF := hI.2.2.2.2.2.1 a (by omega)
    refine ⟨hF.1, fun z => ?_, fun z => absurd z c⟩
    rcases hF.2.2 with y | ⟨g, y1, y2, y3, _⟩
    · rw [y.1] at z; exact absurd z (m1_ne (by omega))
    · have : g = x := (nI_eq (by omega) (by omega)).mp (y2.symm.trans z)
      rw [← this]; exact y3
theorem HV.brkN {M : Mem} {h X Y N A n : Nat} {t : Int32} {Q : Nat → Int32} {S : St} {pb pt : List Row4} (p : HV M h X Y t N Q S pb pt) (s : SB M N S) (hI : Inv N A S) (h16 : N ≤ 16) (ht : xR S 20 1 = 1 → N % 2 = 1) (ht2 : xR S 20 1 = 0 ∨ xR S 20 1 = 1) (hz : ∀ v, N ≤ v → v < 16 → xR S 7 v = 0) {x : Nat} (hx : x < N) (h3 : xR S 3 x = 0) (hl : (fl S).length + N + 2 * N * N < 9000) (hn : 9100 ≤ n) : ∃ M', f_X2_breakNode n h (nI x) M = some M' ∧ HV M' h X Y t N (fun v => qm N (uR S 7 x 1) v) (bd t N x S) pb pt ∧ FrW4 M M' h := by
  have q := p.1
  have x6 : x < 16 := by omega
  have h7 : ∀ v, v < 16 → xR S 7 v = 0 ∨ xR S 7 v = 1 := fun v hv => (hI.1 v hv).2.2.1
  obtain ⟨p1, f1⟩ := p.st7 (x := x) (y := bon (mI M h 9) x) (z := 1) x6 (fun u hu => by
    rw [bt_on _ (by omega) hu, p.2.2.1.2.2.2.1 u hu]
    by_cases c : u = x
    · rw [if_pos c, decide_eq_true c, Bool.or_true, decide_eq_true (show u < 16 ∧ (1 : Int32) = 1 from ⟨by omega, rfl⟩)]
    · rw [if_neg c, decide_eq_false c, Bool.or_false])
  have hh := q.2.2.2.2.2.1
  have s1 : SB (sI M h 9 (bon (mI M h 9) x)) N (uR S 7 x 1) := by
    refine s.cg (Nat.le_refl _) (fun _ _ => rfl) (fun _ => rfl) (fun b => mI_o _ _ _ _ _ (by omega)) (fun b => mI_o _ _ _ _ _ (by omega)) ?_ (fun v => ?_)
    · rw [xR_uR, if_neg (by omega)]
    · rw [xR_uR, if_neg (by omega)]
  have r20 : xR (uR S 7 x 1) 20 1 = xR S 20 1 := by rw [xR_uR, if_neg (by omega)]
  obtain ⟨M2, e2, p2, f2⟩ := p1.renew (n := n) s1 h16 (by omega) (by rw [r20]; exact ht) (by rw [r20]; exact ht2) (fun v hv => by
    rw [xR_uR]; split
    · exact Or.inr rfl
    · exact h7 v hv) (fun v a b => by rw [xR_uR, if_neg (by omega)]; exact hz v a b) (by omega)
  obtain ⟨M3, e3, p3, f3⟩ := p2.forget x6
  obtain ⟨p4, f4⟩ := p3.tW (M' := sI M3 (h + 17 + 2 * x) 9 0) (l := []) x6 rfl (fun _ _ => rfl) (fun o n1 _ b => by rw [mI_o _ _ _ _ _ n1]) (fun b n => by rw [mI_n _ _ _ _ n]) (fun u hu => by rw [mI_s, b_0]; simp) (fun w hw => by cases hw)
  generalize hM4 : sI M3 (h + 17 + 2 * x) 9 0 = M4 at p4 f4
  have hE : ∀ l, l < 256 → ¬ (l / 16 < N ∧ l % 16 < N) → xL S l = [] := fun l hl => (hI.2.2.2.2.1 l hl).2
  obtain ⟨M5, n5, e5, hn5, p5, f5⟩ := bk27 h16 hx N 0 n M4 _ p4 (by omega) (by show (fl S).length ≤ 9000; omega) (by omega)
  rw [drl_e hx h16 (show ∀ l, l < 256 → ¬ (l / 16 < N ∧ l % 16 < N) → xL (uW (nob x (uR S 7 x 1)) x []) l = [] from hE)] at p5
  have p5' : HV M5 h X Y t N (fun v => qm N (uR S 7 x 1) v) (b0 x S) pb pt := p5
  have F0 := b0_Fg hI h16 hx
  have l0 := b0_len (x := x) (S := S)
  obtain ⟨M6, n6, e6, hn6, p6, f6⟩ := bk64 (A := A) h16 hx N 0 n5 M5 _ p5' (by omega) F0 (by omega) (by omega)
  have ia0 : IA N (b0 x S) := by
    intro v hv
    obtain ⟨y1, y2, y3, y4⟩ := hI.1 v hv
    rw [b0_R, b0_R, b0_R, if_neg (by omega), if_neg (by omega), if_neg (by omega), if_neg (show ¬ (v = x ∧ 7 = 8) by omega), if_neg (show ¬ (v = x ∧ (7 = 9 ∨ 7 = 10)) by omega), if_neg (show ¬ (v = x ∧ 10 = 7) by omega), if_neg (show ¬ (v = x ∧ 10 = 8) by omega)]
    refine ⟨y1, y2, ?_, ?_⟩
    · split
      · exact Or.inr rfl
      · exact y3
    · split
      · exact Or.inl rfl
      · exact y4
  have l6 := fgl_len (t := t) (A := A) (x := x) h16 N 0 (b0 x S) (by omega) F0
  have r6 : ∀ k i, k < 8 ∨ (10 < k ∧ k ≠ 16) → xR (fgl t x (List.range' 0 N) (b0 x S)) k i = xR (b0 x S) k i := fun k i hk => fgl_R hk _ _
  have kq : Qk (uR S 7 x 1) (fgl t x (List.range' 0 N) (b0 x S)) := fun k hk i => by
    rw [r6 k i (by omega), b0_R, xR_uR]
    by_cases c : i = x ∧ k = 7
    · rw [if_pos c, if_pos ⟨c.2, c.1⟩]
    · rw [if_neg c, if_neg (by omega), if_neg (by omega), if_neg (by omega)]
  have hm : 2 * N * N = 2 * N * N := rfl
  obtain ⟨M7, e7, p7, f7⟩ := bk89 (Q := fun v => qm N (uR S 7 x 1) v) h16 hx N 0 n6 M6 _ p6 (by omega) (fgl_IA _ _ ia0) (fun v a b => by rw [r6 7 v (by omega), b0_R, if_neg (by omega), if_neg (by omega), if_neg (by omega)]; exact hz v a b) (by rw [r6 7 x (by omega), b0_R, if_pos ⟨rfl, rfl⟩]) (fun v hv => kq.m N v) (by rw [r6 3 x (by omega), b0_R, if_neg (by omega), if_neg (by omega), if_neg (by omega)]; exact h3) (by omega) (by omega)
  refine ⟨M7, ?_, ?_, f1.w4.tr (f2.w4.tr (f3.w4.tr (f4.w4.tr (f5.w4.tr (f6.w4.tr f7.w4)))))⟩
  · rw [f_X2_breakNode, cs_f q, show (mI M h 9 ||| ((1 : Int32) <<< (nI x &&& 31))) = bon (mI M h 9) x from rfl, bnd_e, e2, obd_s, cs_f p2.1, cs_h2 p2.1, bnd_e, cs_a10 p2.1, cs_i10 p2.1 x6, cs_rpc p2.1 x6, bnd_e, cs_po p2.1 x6, f_X4_forgetAll, cs_po p2.1 x6, e3, obd_s, cs_po p3.1 x6, hM4, bnd_e, obd_s, show (0 : Int32) = nI 0 from rfl, e5, show (0 : Int32) = nI 0 from rfl, e6, show (0 : Int32) = nI 0 from rfl, e7]
  · unfold bd
    rw [List.range_eq_range']
    exact p7
/-! ===== a node breaks: the reference's letters ===== -/
def kpq (x : Nat) (q : Nat × Ltr) : Bool := !(decide (q.1 / 16 = x) || decide (q.1 % 16 = x))
def FrL2 (M M' : Mem) : Prop := M'.1 = M.1 ∧ (∀ o, o ≠ 121 → o ≠ 123 → ∀ k, mI M' o k = mI M o k) ∧ (∀ o k, mL M' o k = mL M o k) ∧ (∀ b, b < 850 ∨ 9851 ≤ b → mI M' 121 b = mI M 121 b)
theorem FrL2.rf (M : Mem) : FrL2 M M := ⟨rfl, fun _ _ _ _ => rfl, fun _ _ => rfl, fun _ _ => rfl⟩
theorem FrL2.tr {M M' M'' : Mem} (h : FrL2 M M') (h' : FrL2 M' M'') : FrL2 M M'' :=
  ⟨h'.1.trans h.1, fun o a b k => (h'.2.1 o a b k).trans (h.2.1 o a b k), fun o k => (h'.2.2.1 o k).trans (h.2.2.1 o k), fun b hb => (h'.2.2.2 b hb).trans (h.2.2.2 b hb)⟩
theorem pr_16 {q : Nat} (h : q < 256) : nI q / (16 : Int32) = nI (q / 16) ∧ nI q - nI q / (16 : Int32) * (16 : Int32) = nI (q % 16) := by
  rw [show (16 : Int32) = nI 16 from rfl]
  exact ⟨pk_div (by omega) (by decide) (by decide), pk_rem (by omega) (by decide) (by decide)⟩
set_option maxHeartbeats 1000000 in
theorem dropr_l (tw : Bool) {x : Nat} (hx : x < 16) : ∀ (d : Nat) (pre suf : List (Nat × Ltr)) (M : Mem) (n : Nat), pre.length = d → RS M → mI M 121 850 = nI (pre.length + suf.length) → pre.length + suf.length ≤ 9000 → Seg M tw 0 (pre ++ suf) → (∀ q, q ∈ pre → q.1 < 256) → d + 9100 ≤ n → ∃ M', f_X10_dropLetters_11 n 120 (nI x) (nI pre.length - 1) M = some M' ∧ mI M' 121 850 = nI ((pre.filter (kpq x)).length + suf.length) ∧ Seg M' tw 0 (pre.filter (kpq x) ++ suf) ∧ FrL2 M M' := by
  intro d
  induction d with
  | zero =>
    intro pre suf M n hd hS hc hlen hs hp hn
    have : pre = [] := List.length_eq_zero_iff.mp hd
    subst this
    obtain ⟨n, rfl⟩ : ∃ m, n = m + 1 := ⟨n - 1, by omega⟩
    exact ⟨M, by rw [f_X10_dropLetters_11, if_pos (by decide)], hc, hs, FrL2.rf M⟩
  | succ d ih =>
    intro pre suf M n hd hS hc hlen hs hp hn
    obtain ⟨n, rfl⟩ : ∃ m, n = m + 1 := ⟨n - 1, by omega⟩
    rcases nil_app pre with z | ⟨p, z, e⟩
    · rw [z] at hd; cases hd
    subst e
    have hpl : p.length = d := by rw [List.length_append, List.length_singleton] at hd; omega
    rw [List.length_append, List.length_singleton] at hc hlen ⊢
    have hz := hp z (by simp)
    have hp' : ∀ q, q ∈ p → q.1 < 256 := fun q hq => hp q (by simp [hq])
    have hs2 := hs
    rw [List.append_assoc, Seg.ap, Seg.ap, Seg.one, Nat.zero_add, List.length_singleton] at hs2
    obtain ⟨g1, g2, g3⟩ := hs2
    have rd : mI M 121 (851 + p.length) = enc z := g2.1
    obtain ⟨q1, q2⟩ := pr_16 hz
    have e0 : nI (p.length + 1) - (1 : Int32) = nI p.length := nI_pred p.length
    have em : nI p.length + (-1 : Int32) = nI p.length - 1 := (Int32.sub_eq_add_neg _ _).symm
    have tk : ∃ M', f_X10_dropLetters_55 (f_X10_dropLetters_11 n) n 120 (nI x) (nI p.length) M = some M' ∧ mI M' 121 850 = nI ((p.filter (kpq x)).length + suf.length) ∧ Seg M' tw 0 (p.filter (kpq x) ++ suf) ∧ FrL2 M M' := by
      obtain ⟨M1, i1, i2, i3⟩ := take_l tw suf p M n hS (by rw [hc]) (by omega) g1 g3 (by omega)
      generalize hMa : sI M1 121 850 (nI (p.length + suf.length)) = Ma at i1
      generalize hMb : sI Ma 121 (851 + (p.length + suf.length)) 0 = Mb at i1
      have hSb : RS Mb := by rw [← hMb, ← hMa]; exact hS.e i3.1
      have F : FrL2 M Mb := by
        refine ⟨?_, fun o a b k => ?_, fun o k => ?_, fun b hb => ?_⟩
        · rw [← hMb, ← hMa]; exact i3.1
        · rw [← hMb, mI_o _ _ _ _ _ a, ← hMa, mI_o _ _ _ _ _ a]; exact i3.2.1 o a b k
        · rw [← hMb, ← hMa]; exact i3.2.2.1 o k
        · rw [← hMb, mI_n _ _ _ _ (by omega), ← hMa, mI_n _ _ _ _ (by omega)]; exact i3.2.2.2 b (by omega)
      obtain ⟨M', j1, j2, j3, j4⟩ := ih p suf Mb n hpl hSb (by rw [← hMb, mI_n _ _ _ _ (by omega), ← hMa, mI_s]) (by omega) (i2.cg fun i _ hi => ⟨by
          rw [List.length_append] at hi
          rw [← hMb, mI_n _ _ _ _ (by omega), ← hMa, mI_n _ _ _ _ (by omega)], by rw [← hMb, mI_o _ _ _ _ _ (by decide), ← hMa, mI_o _ _ _ _ _ (by decide)]⟩) hp' (by omega)
      refine ⟨M', ?_, j2, j3, F.tr j4⟩
      rw [f_X10_dropLetters_55, rs_f hS, f_X10_takeLetter, i1, obd_s, bnd_e, em]
      exact j1
    have st : ∀ y, (if nI (z.1 / 16) = nI x then f_X10_dropLetters_55 (f_X10_dropLetters_11 n) n 120 (nI x) (nI p.length) M else if nI (z.1 % 16) = nI x then f_X10_dropLetters_55 (f_X10_dropLetters_11 n) n 120 (nI x) (nI p.length) M else f_X10_dropLetters_11 n 120 (nI x) (nI p.length - 1) M) = y → f_X10_dropLetters_11 (n + 1) 120 (nI x) (nI (p.length + 1) - 1) M = y := by
      intro y hy
      rw [e0, f_X10_dropLetters_11, if_neg (nI_pos (by omega)), rs_f hS, rs_0 hS, bnd_e, rs_fa hS, c851, rs_c hS (by omega), mI_c (by omega), rd, f_X10_pairOf, obd_s, enc_pair hz, chk_t (by decide), q1]
      by_cases c : nI (z.1 / 16) = nI x
      · rw [if_pos c] at hy ⊢; exact hy
      · rw [if_neg c] at hy ⊢
        rw [bnd_e, rs_fa hS, rs_c hS (by omega), mI_c (by omega), rd, f_X10_pairOf, obd_s, enc_pair hz, chk_t (by decide), q2]
        by_cases c2 : nI (z.1 % 16) = nI x
        · rw [if_pos c2] at hy ⊢; exact hy
        · rw [if_neg c2] at hy ⊢
          rw [bnd_e, em]; exact hy
    have fe : (p ++ [z]).filter (kpq x) = p.filter (kpq x) ++ [z].filter (kpq x) := List.filter_append _ _
    by_cases c : z.1 / 16 = x
    · have kz : kpq x z = false := by unfold kpq; rw [decide_eq_true c]; rfl
      rw [fe, show [z].filter (kpq x) = [] by simp [kz], List.append_nil]
      obtain ⟨M', j1, j2, j3, j4⟩ := tk
      exact ⟨M', st _ (by rw [if_pos (by rw [c])]; exact j1), j2, j3, j4⟩
    · by_cases c2 : z.1 % 16 = x
      · have kz : kpq x z = false := by unfold kpq; rw [decide_eq_true c2, Bool.or_true]; rfl
        rw [fe, show [z].filter (kpq x) = [] by simp [kz], List.append_nil]
        obtain ⟨M', j1, j2, j3, j4⟩ := tk
        exact ⟨M', st _ (by rw [if_neg (nI_ne (by omega) (by omega) c), if_pos (by rw [c2])]; exact j1), j2, j3, j4⟩
      · have kz : kpq x z = true := by unfold kpq; rw [decide_eq_false c, decide_eq_false c2]; rfl
        rw [fe, show [z].filter (kpq x) = [z] by simp [kz]]
        obtain ⟨M', j1, j2, j3, j4⟩ := ih p (z :: suf) M n hpl hS (by rw [hc, List.length_cons]; congr 1; omega) (by rw [List.length_cons]; omega) (by simpa using hs) hp' (by omega)
        refine ⟨M', st _ (by rw [if_neg (nI_ne (by omega) (by omega) c), if_neg (nI_ne (by omega) (by omega) c2)]; exact j1), ?_, by simpa using j3, j4⟩
        rw [j2, List.length_cons, List.length_append, List.length_singleton]; congr 1; omega
theorem fl_drp {x : Nat} {S : St} : fl (drp x S) = (fl S).filter (kpq x) := by
  unfold fl
  rw [List.filter_flatMap]
  apply fm_cg
  intro l hl
  have hl := List.mem_range.mp hl
  show ((if l < 256 ∧ (l / 16 = x ∨ l % 16 = x) then [] else xL S l).map fun y => (l, y)) = _
  rw [List.filter_map]
  by_cases c : l / 16 = x ∨ l % 16 = x
  · rw [if_pos ⟨hl, c⟩]
    have : (xL S l).filter (kpq x ∘ fun y => (l, y)) = [] := by
      apply List.filter_eq_nil_iff.mpr
      intro y _
      show ¬ kpq x (l, y) = true
      unfold kpq
      rcases c with c | c <;> simp [c]
    rw [this]
  · rw [if_neg (fun z => c z.2)]
    have : (xL S l).filter (kpq x ∘ fun y => (l, y)) = xL S l := by
      apply List.filter_eq_self.mpr
      intro y _
      show kpq x (l, y) = true
      unfold kpq
      rw [decide_eq_false (fun z => c (Or.inl z)), decide_eq_false (fun z => c (Or.inr z))]; rfl
    rw [this]
theorem RV.tdrp {M : Mem} {tw : Bool} {t : Int32} {S : St} {pb pt : List Row4} (h : RV M tw t S pb pt) {x n : Nat} (hx : x < 16) (hn : 18200 ≤ n) : ∃ M', f_X10_dropLetters n 120 (nI x) M = some M' ∧ RV M' tw t (drp x S) pb pt ∧ Fr PA M M' := by
  obtain ⟨hS, ht, ha, hw, hl, hb1, hb2⟩ := h
  obtain ⟨M', e, j2, j3, j4⟩ := dropr_l tw hx (fl S).length (fl S) [] M n rfl hS (by rw [List.length_nil, Nat.add_zero]; exact hl.1) (by rw [List.length_nil]; exact hl.2.1) (by rw [List.append_nil]; exact hl.2.2) (fun q hq => (fl_mem hq).1) (by have := hl.2.1; omega)
  rw [List.length_nil, Nat.add_zero, ← fl_drp] at j2
  rw [List.append_nil, ← fl_drp] at j3
  have k1 : ∀ b, b < 850 ∨ 9851 ≤ b → mI M' 121 b = mI M 121 b := j4.2.2.2
  refine ⟨M', ?_, ⟨hS.e j4.1, (j4.2.1 120 (by decide) (by decide) 3).trans ht, fun kk ii hv => ?_, hw.cg (fun b _ _ => k1 b (by omega)) rfl, ⟨j2, ?_, j3⟩, hb1.cg (k1 _ (by omega)) (fun b _ _ => k1 b (by omega)), hb2.cg (k1 _ (by omega)) (fun b _ _ => k1 b (by omega))⟩, ⟨j4.1, fun o n k => j4.2.1 o (fun z => n (by rw [z]; exact ⟨by decide, by decide⟩)) (fun z => n (by rw [z]; exact ⟨by decide, by decide⟩)) k, j4.2.2.1⟩⟩
  · rw [f_X10_dropLetters, rs_f hS, rs_0 hS, bnd_e, rs_fa hS, l850, rs_c hS (by decide), mI_c (by decide), hl.1, bnd_e]
    exact e
  · rw [k1 _ (ad_lim hv).2.1]; exact ha kk ii hv
  · rw [fl_drp]
    exact Nat.le_trans (List.length_filter_le _ _) hl.2.1
