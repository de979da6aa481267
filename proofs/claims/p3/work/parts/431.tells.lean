/-! ===== what the class's search tells ===== -/
def Dn (l : List (St × Nat)) : Prop := l.Pairwise fun p r => p.2 ≤ r.2
theorem met1_dn {most d : Nat} {q : Bq} {S : St} (h : Dn q.1) (hd : ∀ r, r ∈ q.1 → r.2 ≤ d) : Dn (met1 most q S d).1 ∧ ∀ r, r ∈ (met1 most q S d).1 → r.2 ≤ d := by
  unfold met1
  by_cases c : knw q.1 S = true
  · rw [if_pos c]; exact ⟨h, hd⟩
  · rw [if_neg c]
    by_cases z : q.1.length < most
    · rw [if_pos z]
      refine ⟨?_, fun r hr => ?_⟩
      · show (q.1 ++ [(S, d)]).Pairwise _
        rw [List.pairwise_append]
        refine ⟨h, by simp, fun a ha b hb => ?_⟩
        rw [List.mem_singleton] at hb
        rw [hb]; exact hd a ha
      · rcases List.mem_append.mp hr with x | x
        · exact hd r x
        · rw [List.mem_singleton] at x
          rw [x]; exact Nat.le_refl _
    · rw [if_neg z]; exact ⟨h, hd⟩
theorem exl_dn {N most d : Nat} {S : St} : ∀ (cs : List Nat) (q : Bq), Dn q.1 → (∀ r, r ∈ q.1 → r.2 ≤ d + 1) → Dn (exl N most S d cs q).1 ∧ ∀ r, r ∈ (exl N most S d cs q).1 → r.2 ≤ d + 1 := by
  intro cs
  induction cs with
  | nil => intro q h hd; exact ⟨h, hd⟩
  | cons c cs ih =>
    intro q h hd
    rw [exl_c]
    obtain ⟨a, b⟩ := met1_dn (most := most) (S := dm 0 N c S) h hd
    exact ih _ a b
theorem Dn.ge {l : List (St × Nat)} (h : Dn l) {i j : Nat} {p r : St × Nat} (hij : i < j) (hp : l[i]? = some p) (hr : l[j]? = some r) : p.2 ≤ r.2 := by
  have hi := gl_lt hp
  have hj := gl_lt hr
  rw [List.getElem?_eq_getElem hi] at hp
  rw [List.getElem?_eq_getElem hj] at hr
  have := List.pairwise_iff_getElem.mp h i j hi hj hij
  rw [Option.some.inj hp, Option.some.inj hr] at this
  exact this
theorem bfs_dn {N most : Nat} {ask : Int32} {sn : Nat → Int32} : ∀ (n i : Nat) (q : Bq), Dn q.1 → (∀ p, q.1[i]? = some p → ∀ r, r ∈ q.1 → r.2 ≤ p.2 + 1) → Dn (bfs N most ask sn n i q).1 := by
  intro n
  induction n with
  | zero => intro i q h _; exact h
  | succ n ih =>
    intro i q h hd
    unfold bfs
    cases e : q.1[i]? with
    | none => exact h
    | some p =>
      obtain ⟨a, b⟩ := exl_dn (N := N) (most := most) (S := p.1) (d := p.2) (mvl N p.1 ask sn) q h (hd p e)
      refine ih (i + 1) _ a (fun r hr s hs => ?_)
      have := b s hs
      have := a.ge (show i < i + 1 by omega) (exl_pre (N := N) (most := most) (S := p.1) (d := p.2) (mvl N p.1 ask sn) q e).1 hr
      omega
theorem bfq_dn (N most : Nat) (ask : Int32) (S0 : St) : Dn (bfq N most ask S0).1 := by
  unfold bfq
  refine bfs_dn _ _ _ (by unfold Dn; simp) (fun p hp r hr => ?_)
  have : r = (S0, 0) := by simpa using hr
  rw [this]; exact Nat.zero_le _
theorem cDp_last {l : List (St × Nat)} (h : Dn l) : nI (cDp l) = (match l[l.length - 1]? with
    | none => 0
    | some p => nI p.2) := by
  rcases List.eq_nil_or_concat l with e | ⟨l', p, e⟩
  · rw [e]; rfl
  · rw [List.concat_eq_append] at e
    subst e
    have h' := List.pairwise_append.mp h
    have a : (l' ++ [p])[(l' ++ [p]).length - 1]? = some p := by
      rw [List.length_append, show l'.length + [p].length - 1 = l'.length from rfl, List.getElem?_append_right (Nat.le_refl _), Nat.sub_self]
      rfl
    rw [a, cDp_s, Nat.max_eq_right (cDp_le (fun r hr => h'.2.2 r hr p (by simp)))]
theorem cSon_k (v : Nat) : ∀ (l : List (St × Nat)) (x : Int32), x ≠ -1 → l.foldl (fun x p => if x = -1 then (if xR p.1 0 v = 2 then nI p.2 else -1) else x) x = x := by
  intro l
  induction l with
  | nil => intro x _; rfl
  | cons p l ih => intro x hx; rw [List.foldl_cons, if_neg hx]; exact ih x hx
theorem cSon_c (v : Nat) (l : List (St × Nat)) (p : St × Nat) (h : p.2 < 256) : cSon v (p :: l) = if xR p.1 0 v = 2 then nI p.2 else cSon v l := by
  unfold cSon
  rw [List.foldl_cons, if_pos rfl]
  by_cases c : xR p.1 0 v = 2
  · rw [if_pos c, if_pos c]
    exact cSon_k v l _ (fun z => m1_ne' _ h z.symm)
  · rw [if_neg c, if_neg c]
section
variable {D : Nat → Prop} {X0 Y0 N : Nat} {t : Int32} {Q : Nat → Int32} {pb pt : List Row4} {A P most : Nat} {S0 : St} {ask : Int32} {sn : Nat → Int32} {M : Mem}
theorem f_tellE {q : Bq} (hM : CM D X0 Y0 t N Q pb pt A P most S0 ask sn M q) (h : Dn q.1) {w : Nat} (hw : w < 6) : f_X6_tell 114 (nI w) M = some (cSe N ask sn q w) := by
  obtain ⟨S, e, dC, d, v, g, s, _⟩ := hM
  have i114 : isO M 6 114 := by obtain ⟨L, sx, _⟩ := v; exact sx.1
  obtain ⟨s1, s2, s3, s4, s5, s6, s7, s8, s9, s10, s11, s12⟩ := s
  have n4 : ∀ b : Bool, (if (if b then (1 : Int32) else 0) = 0 then some (1 : Int32) else some 0) = some (if b then 0 else 1) := fun b => by cases b <;> rfl
  rcases (show w = 0 ∨ w = 1 ∨ w = 2 ∨ w = 3 ∨ w = 4 ∨ w = 5 by omega) with rfl | rfl | rfl | rfl | rfl | rfl
  · rw [f_X6_tell, if_pos (show nI 0 = (0 : Int32) from rfl), chk_t i114, s3]
    rfl
  · rw [f_X6_tell, if_neg (show ¬ nI 1 = (0 : Int32) by decide), if_pos (show nI 1 = (1 : Int32) from rfl), chk_t i114, s7]
    rfl
  · rw [f_X6_tell, if_neg (show ¬ nI 2 = (0 : Int32) by decide), if_neg (show ¬ nI 2 = (1 : Int32) by decide), if_pos (show nI 2 = (2 : Int32) from rfl), chk_t i114, s8]
    rfl
  · rw [f_X6_tell, if_neg (show ¬ nI 3 = (0 : Int32) by decide), if_neg (show ¬ nI 3 = (1 : Int32) by decide), if_neg (show ¬ nI 3 = (2 : Int32) by decide), if_pos (show nI 3 = (3 : Int32) from rfl), chk_t i114, s9]
    rfl
  · rw [f_X6_tell, if_neg (show ¬ nI 4 = (0 : Int32) by decide), if_neg (show ¬ nI 4 = (1 : Int32) by decide), if_neg (show ¬ nI 4 = (2 : Int32) by decide), if_neg (show ¬ nI 4 = (3 : Int32) by decide), if_pos (show nI 4 = (4 : Int32) from rfl), chk_t i114, s11, n4]
    rfl
  · rw [f_X6_tell, if_neg (show ¬ nI 5 = (0 : Int32) by decide), if_neg (show ¬ nI 5 = (1 : Int32) by decide), if_neg (show ¬ nI 5 = (2 : Int32) by decide), if_neg (show ¬ nI 5 = (3 : Int32) by decide), if_neg (show ¬ nI 5 = (4 : Int32) by decide), if_pos (show nI 5 = (5 : Int32) from rfl), chk_t i114, s10, cDp_last h]
    rfl
theorem si_l {q : Bq} (hM : CM D X0 Y0 t N Q pb pt A P most S0 ask sn M q) (gq : GQ N A P most S0 q) (h40 : most ≤ 40) {v : Nat} (hv : v < 16) : ∀ (d i n : Nat), i + d = q.1.length → d + 1 ≤ n → f_X6_soonestInside_2 M n 114 (nI v) (nI i) = some (cSon v (q.1.drop i)) := by
  obtain ⟨S, e, dC, dd, vv, g, s, _⟩ := hM
  obtain ⟨L, sx, _⟩ := vv
  obtain ⟨s1, s2, s3, s4, s5, s6, s7, s8, s9, s10, s11, s12⟩ := s
  have hl := gq.1
  intro d
  induction d with
  | zero =>
    intro i n hi hn
    obtain ⟨n, rfl⟩ : ∃ m, n = m + 1 := ⟨n - 1, by omega⟩
    rw [f_X6_soonestInside_2, chk_t sx.1, s3, if_pos (nI_le (by omega) (by omega)), List.drop_of_length_le (by omega)]
    rfl
  | succ d ih =>
    intro i n hi hn
    obtain ⟨n, rfl⟩ : ∃ m, n = m + 1 := ⟨n - 1, by omega⟩
    have hlt : i < q.1.length := by omega
    obtain ⟨p, hp⟩ : ∃ p, q.1[i]? = some p := ⟨_, List.getElem?_eq_getElem hlt⟩
    have hd := (gq.2.2 i p hp).1
    have ed : q.1.drop i = p :: q.1.drop (i + 1) := by
      rw [List.drop_eq_getElem_cons hlt]
      rw [List.getElem?_eq_getElem hlt] at hp
      rw [Option.some.inj hp]
    have l17 : mLn M 117 = 40 := sx.2.2.2.1.2.2.1
    have l16 : mLn M 116 = 40 := sx.2.2.2.1.2.1
    rw [ed, cSon_c v _ p (by omega)]
    rw [f_X6_soonestInside_2, chk_t sx.1, s3, if_neg (nI_ge hlt (by omega)), sx.2.1.2.2.2.1, bnd_e, chk_t sx.2.2.1.2.2.1, l17, chk_t (inB_n (show i < 40 by omega) (by decide)), mI_c (by omega), s12 i p hp, f_has9 _ (by omega), obd_s, mkS_b (by omega)]
    by_cases c : xR p.1 0 v = 2
    · rw [if_pos c, decide_eq_true (⟨hv, c⟩ : v < 16 ∧ xR p.1 0 v = 2), if_pos rfl, if_neg ne10, sx.2.1.2.2.1, bnd_e, chk_t sx.2.2.1.2.1, l16, chk_t (inB_n (show i < 40 by omega) (by decide)), mI_c (by omega), (s1.2 i p hp).2]
    · rw [if_neg c, decide_eq_false (fun z => c z.2), if_pos (show (if false = true then (1 : Int32) else 0) = 0 from rfl), nI_1, bnd_e]
      exact ih (i + 1) n (by omega) (by omega)
theorem f_sonE {q : Bq} (hM : CM D X0 Y0 t N Q pb pt A P most S0 ask sn M q) (gq : GQ N A P most S0 q) (h40 : most ≤ 40) {v n : Nat} (hv : v < 16) (hn : 60 ≤ n) : f_X6_soonestInside n 114 (nI v) M = some (cSon v q.1) := by
  have hl := gq.1
  have := si_l hM gq h40 hv q.1.length 0 n (by omega) (by omega)
  rw [List.drop_zero] at this
  exact this
end
