/-! ===== the reference meets a state ===== -/
theorem rs_12 {M : Mem} (h : RS M) : mR M 120 12 = 129 := h.r (by decide)
theorem rs_f12 {α : Type} {M : Mem} (h : RS M) (x : Option α) : chk (isO M 100 129) x = x := chk_t (h.io (by decide) (by decide) (by decide))
theorem rs_c12 {α : Type} {M : Mem} (h : RS M) {k : Nat} (hk : k < 40) (x : Option α) : chk (inB (nI k) (mLn M 129)) x = x := by
  refine chk_t ?_
  rw [h.ln (c := 40) (by decide) (by decide) (by decide)]; exact inB_n hk (by decide)
theorem Qk.ss {S0 S S' : St} (h : Qk S0 S) (h' : Qk S0 S') : Qk S S' := fun k hk i => (h' k hk i).trans (h k hk i).symm
theorem GS.tmx {N A P d d' : Nat} {S0 Si S : St} (h16 : N ≤ 16) (h : GS N A P S0 Si d) (h' : GS N A P S0 S d') : GS N A P S0 (mix Si S) d := by
  obtain ⟨a1, a2, a3, a4⟩ := h
  have se : SE Si (mix Si S) := (mix_SE (a3.ss h'.2.2.1)).sy
  refine ⟨a1.reg ⟨rfl, fun k hk _ i => by rw [mix_R, if_pos hk]⟩ rfl, ⟨se.tix h16 a2.1, a2.2.1.k (fun k hk i => ?_), by rw [← se.tPhS]; exact a2.2.2⟩, fun k hk i => ?_, fun k hk i hi => ?_⟩
  · rw [mix_R]
    by_cases c : k < 11
    · rw [if_pos c]
    · rw [if_neg c]; exact a3.ss h'.2.2.1 k hk i
  · rw [mix_R]
    by_cases c : k < 11
    · rw [if_pos c]; exact a3 k hk i
    · rw [if_neg c]; exact h'.2.2.1 k hk i
  · rw [mix_R, if_pos hk]; exact a4 k hk i hi
/-- the states met, as the reference holds them -/
def RQ (N A P : Nat) (S0 : St) (M : Mem) (q : Bq) : Prop := mI M 120 13 = nI q.1.length ∧ mI M 120 14 = (if q.2 then 1 else 0) ∧ ∀ (i : Nat) (p : St × Nat), q.1[i]? = some p → (∃ Si, SE Si p.1 ∧ KS M i Si ∧ GS N A P S0 Si p.2) ∧ mI M 129 i = nI p.2
def FrR (M M' : Mem) : Prop := M'.1 = M.1 ∧ (∀ o, o ≠ 120 → o ≠ 128 → o ≠ 129 → ∀ b, mI M' o b = mI M o b) ∧ (∀ b, b ≠ 13 → b ≠ 14 → mI M' 120 b = mI M 120 b) ∧ ∀ o b, mL M' o b = mL M o b
theorem FrR.rf (M : Mem) : FrR M M := ⟨rfl, fun _ _ _ _ _ => rfl, fun _ _ _ => rfl, fun _ _ => rfl⟩
set_option maxHeartbeats 1000000 in
theorem rmeet_l {N A P most dd : Nat} {S0 S Sm : St} {M : Mem} {t : Int32} {pb pt : List Row4} {q : Bq} (h16 : N ≤ 16) (hA : A + 50 < 1048576) (h40 : most ≤ 40) (p : RV M false t S pb pt) (g : GS N A P S0 S dd) (hdd : dd ≤ 40) (hm : SE S Sm) (hq : RQ N A P S0 M q) (gq : GQ N A P most S0 q) : ∀ (d i n : Nat), i + d = q.1.length → d + 9910 ≤ n → (∀ j pj, j < i → q.1[j]? = some pj → ¬ SE pj.1 Sm) → ∃ M', f_X10_meet_2 n 120 (nI most) (nI dd) (nI i) M = some M' ∧ RV M' false t S pb pt ∧ RQ N A P S0 M' (met1 most q Sm dd) ∧ FrR M M' := by
  intro d
  obtain ⟨q13, q14, qs⟩ := id hq
  have hl := gq.1
  induction d with
  | zero =>
    intro i n hi hn hno
    obtain ⟨n, rfl⟩ : ∃ m, n = m + 1 := ⟨n - 1, by omega⟩
    have hk : knw q.1 Sm = false := by
      cases e : knw q.1 Sm with
      | false => rfl
      | true =>
        obtain ⟨pj, h1, h2⟩ := knw_t.mp e
        obtain ⟨j, hj⟩ := List.getElem?_of_mem h1
        have : j < q.1.length := by
          rcases Nat.lt_or_ge j q.1.length with z | z
          · exact z
          · rw [List.getElem?_eq_none z] at hj; cases hj
        exact absurd h2 (hno j pj (by omega) hj)
    have em : met1 most q Sm dd = if q.1.length < most then (q.1 ++ [(Sm, dd)], q.2) else (q.1, true) := by
      unfold met1
      rw [if_neg (by rw [hk]; decide)]
    rw [em]
    have head : ∀ y : Option Mem, (if nI q.1.length = nI most then (bnd (sI M 120 14 (1 : Int32)) fun M21 => some M21) else (obd (f_X10_keepState n 120 (nI q.1.length) M) fun M7 => chk (isO M7 10 120) <| bnd (mR M7 120 12) fun o9 => chk (isO M7 100 o9) <| chk (inB (mI M7 120 13) (mLn M7 o9)) <| bnd (sI M7 o9 ((mI M7 120 13)).toNatClampNeg (nI dd)) fun M13 => bnd (sI M13 120 13 ((mI M13 120 13) + (1 : Int32))) fun M17 => some M17)) = y → f_X10_meet_2 (n + 1) 120 (nI most) (nI dd) (nI i) M = y := by
      intro y hy
      rw [f_X10_meet_2, rs_f p.1, q13, if_pos (nI_le (by omega) (by omega)), chk_t (Or.inr rfl)]
      exact hy
    by_cases c : q.1.length < most
    · rw [if_pos c]
      obtain ⟨M1, e1, p1, k1, s1, o1, f1, L1⟩ := p.kept (i := q.1.length) (n := n) (by omega) (by omega)
      have m13 : mI M1 120 13 = nI q.1.length := (o1 120 (by decide) 13).trans q13
      generalize hMa : sI M1 129 q.1.length (nI dd) = Ma
      generalize hMb : sI Ma 120 13 (nI (q.1.length + 1)) = Mb
      have sb : Mb.1 = M.1 := by rw [← hMb, ← hMa]; exact s1
      have oM : ∀ o, o ≠ 120 → o ≠ 128 → o ≠ 129 → ∀ b, mI Mb o b = mI M o b := fun o n0 n8 n9 b => by
        rw [← hMb, mI_o _ _ _ _ _ n0, ← hMa, mI_o _ _ _ _ _ n9, o1 o n8]
      have o120 : ∀ b, b ≠ 13 → mI Mb 120 b = mI M 120 b := fun b n => by
        rw [← hMb, mI_n _ _ _ _ n, ← hMa, mI_o _ _ _ _ _ (by decide), o1 120 (by decide)]
      have o128 : ∀ b, mI Mb 128 b = mI M1 128 b := fun b => by
        rw [← hMb, mI_o _ _ _ _ _ (by decide), ← hMa, mI_o _ _ _ _ _ (by decide)]
      have pb' : RV Mb false t S pb pt := p.cg sb (o120 3 (by decide)) (oM 121 (by decide) (by decide) (by decide)) (oM 123 (by decide) (by decide) (by decide))
      refine ⟨Mb, head _ ?_, pb', ⟨?_, ?_, fun j pj hj => ?_⟩, sb, oM, fun b n3 _ => o120 b n3, fun o b => by rw [← hMb, ← hMa]; exact L1 o b⟩
      · rw [if_neg (nI_ne (by omega) (by omega) (by omega)), e1, obd_s, rs_f p1.1, rs_12 p1.1, bnd_e, rs_f12 p1.1, m13, rs_c12 p1.1 (by omega), sI_c (by omega), hMa, bnd_e, show mI Ma 120 13 = nI q.1.length by rw [← hMa, mI_o _ _ _ _ _ (by decide)]; exact m13, nI_1, hMb, bnd_e]
      · rw [← hMb, mI_s, List.length_append, List.length_singleton]
      · rw [o120 14 (by decide)]; exact q14
      · by_cases k : j < q.1.length
        · have hj' : q.1[j]? = some pj := by rwa [List.getElem?_append_left k] at hj
          obtain ⟨⟨Si, a1, a2, a3⟩, a4⟩ := qs j pj hj'
          refine ⟨⟨Si, a1, a2.cg (fun b z1 z2 => by rw [o128]; exact f1 j (by omega) b z1 z2), a3⟩, ?_⟩
          rw [← hMb, mI_o _ _ _ _ _ (by decide), ← hMa, mI_n _ _ _ _ (by omega), o1 129 (by decide)]
          exact a4
        · have hj2 := hj
          rw [List.getElem?_append_right (by omega)] at hj
          have e0 : j - q.1.length = 0 := by
            cases e : j - q.1.length with
            | zero => rfl
            | succ n => rw [e] at hj; simp at hj
          rw [e0] at hj
          have ep : pj = (Sm, dd) := by simpa using hj.symm
          have ej : j = q.1.length := by omega
          rw [ep, ej]
          refine ⟨⟨S, hm, k1.cg (fun b _ _ => o128 b), g⟩, ?_⟩
          rw [← hMb, mI_o _ _ _ _ _ (by decide), ← hMa, mI_s]
    · rw [if_neg c]
      have el : q.1.length = most := by omega
      refine ⟨sI M 120 14 1, head _ ?_, p.cg rfl (by rw [mI_n _ _ _ _ (by decide)]) (fun b => by rw [mI_o _ _ _ _ _ (by decide)]) (fun b => by rw [mI_o _ _ _ _ _ (by decide)]), ⟨by rw [mI_n _ _ _ _ (by decide)]; exact q13, by rw [mI_s]; rfl, fun j pj hj => ?_⟩, rfl, fun o n _ _ b => mI_o _ _ _ _ _ n, fun b _ n => mI_n _ _ _ _ n, fun _ _ => rfl⟩
      · rw [if_pos (by rw [el]), bnd_e]
      · obtain ⟨⟨Si, a1, a2, a3⟩, a4⟩ := qs j pj hj
        exact ⟨⟨Si, a1, a2.cg (fun b _ _ => mI_o _ _ _ _ _ (by decide)), a3⟩, by rw [mI_o _ _ _ _ _ (by decide)]; exact a4⟩
  | succ d ih =>
    intro i n hi hn hno
    obtain ⟨n, rfl⟩ : ∃ m, n = m + 1 := ⟨n - 1, by omega⟩
    obtain ⟨pi, hpi⟩ : ∃ pi, q.1[i]? = some pi := ⟨_, List.getElem?_eq_getElem (by omega)⟩
    obtain ⟨⟨Si, a1, a2, a3⟩, a4⟩ := qs i pi hpi
    have dp := (gq.2.2 i pi hpi).1
    obtain ⟨b, eb, hb⟩ := p.isS (n := n) h16 g.1 a3.1 (by omega) (by omega) (a3.2.2.1.ss g.2.2.1) a2 (by omega) (by omega)
    have hb' : b = true ↔ SE pi.1 Sm := hb.trans ⟨fun z => (a1.sy.tr z).tr hm, fun z => (a1.tr z).tr hm.sy⟩
    have step : f_X10_meet_2 (n + 1) 120 (nI most) (nI dd) (nI i) M = if (if b then (1 : Int32) else 0) = 0 then f_X10_meet_2 n 120 (nI most) (nI dd) (nI (i + 1)) M else some M := by
      rw [f_X10_meet_2, rs_f p.1, q13, if_neg (nI_ge (by omega) (by omega)), eb, obd_s, nI_1, bnd_e]
    cases b with
    | true =>
      rw [if_neg (by decide)] at step
      have hk : knw q.1 Sm = true := knw_t.mpr ⟨pi, List.mem_of_getElem? hpi, hb'.mp rfl⟩
      have em : met1 most q Sm dd = q := by unfold met1; rw [if_pos hk]
      rw [em]
      exact ⟨M, step, p, hq, FrR.rf M⟩
    | false =>
      rw [if_pos (by decide)] at step
      obtain ⟨M', e', r⟩ := ih (i + 1) n (by omega) (by omega) (fun j pj hj hpj => by
        by_cases z : j = i
        · rw [z, hpi] at hpj
          have : pi = pj := Option.some.inj hpj
          rw [← this]
          intro y
          exact absurd (hb'.mpr y) (by decide)
        · exact hno j pj (by omega) hpj)
      exact ⟨M', step.trans e', r⟩
theorem RV.meet {N A P most dd n : Nat} {S0 S Sm : St} {M : Mem} {t : Int32} {pb pt : List Row4} {q : Bq} (p : RV M false t S pb pt) (h16 : N ≤ 16) (hA : A + 50 < 1048576) (h40 : most ≤ 40) (g : GS N A P S0 S dd) (hdd : dd ≤ 40) (hm : SE S Sm) (hq : RQ N A P S0 M q) (gq : GQ N A P most S0 q) (hn : 10000 ≤ n) : ∃ M', f_X10_meet n 120 (nI most) (nI dd) M = some M' ∧ RV M' false t S pb pt ∧ RQ N A P S0 M' (met1 most q Sm dd) ∧ FrR M M' := by
  have := rmeet_l h16 hA h40 p g hdd hm hq gq q.1.length 0 n (by omega) (by have := gq.1; omega) (fun j pj hj => by omega)
  rw [f_X10_meet]
  exact this
