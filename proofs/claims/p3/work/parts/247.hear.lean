/-! ===== the class hears a yield, a release ===== -/
theorem HV.tW {M M' : Mem} {h X Y N : Nat} {t : Int32} {Q : Nat → Int32} {S : St} {pb pt : List Row4} (p : HV M h X Y t N Q S pb pt) {a : Nat} (ha : a < 16) {l : List Wtr} (e : M'.1 = M.1) (hL : ∀ o b, mL M' o b = mL M o b) (ho : ∀ o, o ≠ h + 17 + 2 * a → o ≠ h + 18 + 2 * a → ∀ b, mI M' o b = mI M o b) (hP : ∀ b, b ≠ 9 → mI M' (h + 17 + 2 * a) b = mI M (h + 17 + 2 * a) b) (h9 : ∀ u, u < 32 → bt (mI M' (h + 17 + 2 * a) 9) u = decide (u ∈ l.map Prod.fst)) (hr : ∀ w, w ∈ l → mI M' (h + 18 + 2 * a) w.1 = w.2) : HV M' h X Y t N Q (uW S a l) pb pt ∧ FrH M M' h := by
  obtain ⟨a1, a2, a3, a4, a5⟩ := p.2.2.1.1 a ha
  have lim : ∀ p, p ∈ ft → p.1 ≠ 9 := by decide
  have w0 : xW (uW S a l) a = l := by rw [xW_uW, if_pos rfl]
  have hp : HP M' h (uW S a l) := by
    refine p.2.2.1.at (v := a) ⟨fun p hp => ?_, ?_, fun z => ?_, fun u hu => ?_, fun w hw => ?_⟩ (fun o _ n1 n2 b => ho o n1 n2 b) (fun k i _ _ _ _ => rfl) rfl rfl rfl (fun b n => by rw [xW_uW, if_neg n])
    · rw [hP _ (lim p hp)]; exact a1 p hp
    · rw [hP _ (by decide)]; exact a2
    · rw [hP _ (by decide)]; exact a3 z
    · rw [w0]; exact h9 u hu
    · rw [w0] at hw; exact hr w hw
  exact ⟨p.at e (fun o n b => ho o (by omega) (by omega) b) hp rfl rfl rfl rfl, FrH.of e (fun o n b => ho o (by omega) (by omega) b) hL⟩
theorem HV.lw {M : Mem} {h X Y N : Nat} {t : Int32} {Q : Nat → Int32} {S : St} {pb pt : List Row4} (p : HV M h X Y t N Q S pb pt) {a v : Nat} {s : Int32} (ha : a < 16) (hv : v < 16) (hn : v ∉ (xW S a).map Prod.fst) : ∃ M', f_X4_letWait (h + 17 + 2 * a) (nI v) s M = some M' ∧ HV M' h X Y t N Q (uW S a (ins v s (xW S a))) pb pt ∧ FrH M M' h := by
  obtain ⟨_, _, _, a4, a5⟩ := p.2.2.1.1 a ha
  have q := p.1
  generalize hMa : sI M (h + 17 + 2 * a) 9 (bon (mI M (h + 17 + 2 * a) 9) v) = Ma
  generalize hMb : sI Ma (h + 18 + 2 * a) v s = Mb
  have sa : Ma.1 = M.1 := by rw [← hMa]; rfl
  have sb : Mb.1 = M.1 := by rw [← hMb]; exact sa
  have qa := q.e sa
  obtain ⟨p', f'⟩ := p.tW (M' := Mb) (l := ins v s (xW S a)) ha sb (fun o b => by rw [← hMb, ← hMa]; rfl) (fun o n1 n2 b => by rw [← hMb, mI_o _ _ _ _ _ n2, ← hMa, mI_o _ _ _ _ _ n1]) (fun b n => by rw [← hMb, mI_o _ _ _ _ _ (by omega), ← hMa, mI_n _ _ _ _ n]) (fun u hu => by
    rw [← hMb, mI_o _ _ _ _ _ (by omega), ← hMa, mI_s, bt_on _ (by omega) hu, a4 u hu]
    have e : u ∈ (ins v s (xW S a)).map Prod.fst ↔ u ∈ (xW S a).map Prod.fst ∨ u = v := by
      simp only [List.mem_map, ins_perm]
      constructor
      · rintro ⟨w, hw | hw, e⟩
        · right; rw [← e, hw]
        · left; exact ⟨w, hw, e⟩
      · rintro (⟨w, hw, e⟩ | e)
        · exact ⟨w, Or.inr hw, e⟩
        · exact ⟨(v, s), Or.inl rfl, e.symm⟩
    by_cases c1 : u ∈ (xW S a).map Prod.fst
    · rw [decide_eq_true c1, decide_eq_true (e.mpr (Or.inl c1))]; rfl
    · rw [decide_eq_false c1]
      by_cases c2 : u = v
      · rw [decide_eq_true c2, decide_eq_true (e.mpr (Or.inr c2))]; rfl
      · rw [decide_eq_false c2, decide_eq_false (fun z => (e.mp z).elim c1 c2)]; rfl) (fun w hw => by
    rcases ins_perm.mp hw with e | hw2
    · rw [e, ← hMb, mI_s]
    · have n : w.1 ≠ v := fun z => hn (List.mem_map.mpr ⟨w, hw2, z⟩)
      rw [← hMb, mI_n _ _ _ _ n, ← hMa, mI_o _ _ _ _ _ (by omega)]
      exact a5 w hw2)
  refine ⟨Mb, ?_, p', f'⟩
  rw [f_X4_letWait, cs_po q ha, show (mI M (h + 17 + 2 * a) 9 ||| ((1 : Int32) <<< (nI v &&& 31))) = bon (mI M (h + 17 + 2 * a) 9) v from rfl, hMa, bnd_e, cs_pr qa ha, bnd_e, cs_pa qa ha, cs_pi qa ha hv, sI_c (by omega), hMb, bnd_e]
theorem HV.ig {M : Mem} {h X Y N : Nat} {t : Int32} {Q : Nat → Int32} {S : St} {pb pt : List Row4} (p : HV M h X Y t N Q S pb pt) {a v : Nat} {s : Int32} (ha : a < 16) (hv : v < 16) : f_X4_isGrantedBy (h + 17 + 2 * a) (nI v) s M = some (if xR S 8 a = nI v ∧ xR S 9 a = s then 1 else 0) := by
  obtain ⟨_, a2, _, _, _⟩ := p.2.2.1.1 a ha
  rw [f_X4_isGrantedBy, cs_po p.1 ha, p.fs ha (a := 6) (k := 8) (by decide), a2]
  by_cases c : xR S 8 a = nI v
  · rw [if_pos c, if_neg (show ¬ xR S 8 a = -1 by rw [c]; exact nI_m1 hv)]
    by_cases d : xR S 9 a = s
    · rw [if_pos d, if_pos ⟨c, d⟩]
    · rw [if_neg d, if_neg (fun z => d z.2)]
  · rw [if_neg c, if_neg (fun z => c z.1)]
theorem HV.tyl {M : Mem} {h X Y N A n : Nat} {t : Int32} {Q : Nat → Int32} {S : St} {pb pt : List Row4} (p : HV M h X Y t N Q S pb pt) (h16 : N ≤ 16) {a v s : Nat} (ha : a < 16) (hv : v < N) (hs : s ≤ A) (hW : Wok N A (xW S a)) (hg : xR S 8 a = nI v → v ∉ (xW S a).map Prod.fst) (hl : (fl S).length < 9000) (hn : 17 ≤ n) : ∃ M', f_X2_hearYield n h (nI v) (nI a) (nI s) M = some M' ∧ HV M' h X Y t N Q (yl t a v (nI s) S) pb pt ∧ FrH M M' h := by
  have q := p.1
  have start : f_X2_hearYield n h (nI v) (nI a) (nI s) M = (if (if xR S 8 a = nI v ∧ xR S 9 a = nI s then (1 : Int32) else 0) = 0 then some M else obd (f_X4_letWait (h + 17 + 2 * a) (nI v) (nI s) M) fun M14 => chk (isO M14 2 h) <| obd (f_X2_grantFirst n h (nI a) M14) fun M17 => some M17) := by
    rw [f_X2_hearYield, cs_f q, cs_h2 q, bnd_e, cs_a10 q, cs_i10 q ha, cs_rpc q ha, bnd_e, cs_po q ha, p.ig ha (by omega), obd_s]
  rw [start]
  unfold yl
  by_cases c : xR S 8 a = nI v ∧ xR S 9 a = nI s
  · rw [if_pos c, if_pos c, if_neg (by decide)]
    obtain ⟨M1, e1, p1, f1⟩ := p.lw (s := nI s) ha (by omega) (hg c.1)
    have w1 : xW (uW S a (ins v (nI s) (xW S a))) a = ins v (nI s) (xW S a) := by rw [xW_uW, if_pos rfl]
    have hW1 := ins_Wok hW hv h16 hs (hg c.1)
    obtain ⟨w, r, hx⟩ : ∃ w r, ins v (nI s) (xW S a) = w :: r := by
      cases z : ins v (nI s) (xW S a) with
      | nil => have := ins_len v (nI s) (xW S a); rw [z] at this; simp at this
      | cons w r => exact ⟨w, r, rfl⟩
    obtain ⟨M2, e2, p2, f2⟩ := p1.grant (A := A) hl ha (by rw [w1]; exact hW1) h16 hn (by rw [w1]; exact hx)
    exact ⟨M2, by rw [e1, obd_s, cs_f p1.1, e2, obd_s], p2, f1.tr f2⟩
  · rw [if_neg c, if_neg c, if_pos rfl]
    exact ⟨M, rfl, p, FrH.rf _ _⟩
