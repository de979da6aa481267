/-! ===== REQUEST, YIELD, RELEASE at an arbiter of the reference ===== -/
def spl (f : Wtr → Bool) : List Wtr → List Wtr × List Wtr
  | [] => ([], [])
  | w :: r => if f w then ([], w :: r) else (w :: (spl f r).1, (spl f r).2)
theorem spl_ap (f : Wtr → Bool) (l : List Wtr) : (spl f l).1 ++ (spl f l).2 = l := by
  induction l with
  | nil => rfl
  | cons w r ih =>
    unfold spl
    by_cases h : f w = true
    · rw [if_pos h]; rfl
    · rw [if_neg h]; simp [ih]
theorem spl_1 (f : Wtr → Bool) (l : List Wtr) : ∀ x, x ∈ (spl f l).1 → f x = false := by
  induction l with
  | nil => intro x h; simp [spl] at h
  | cons w r ih =>
    intro x hx
    unfold spl at hx
    by_cases h : f w = true
    · rw [if_pos h] at hx; simp at hx
    · rw [if_neg h] at hx
      rcases List.mem_cons.mp hx with rfl | hx
      · simpa using h
      · exact ih x hx
def ahw (v : Nat) (s : Int32) (w : Wtr) : Bool := ahd s (nI v) w.2 (nI w.1)
def ins (v : Nat) (s : Int32) (l : List Wtr) : List Wtr := (spl (ahw v s) l).1 ++ (v, s) :: (spl (ahw v s) l).2
theorem ins_len (v : Nat) (s : Int32) (l : List Wtr) : (ins v s l).length = l.length + 1 := by
  have := congrArg List.length (spl_ap (ahw v s) l)
  rw [List.length_append] at this
  unfold ins
  rw [List.length_append, List.length_cons]
  omega
/-- of those that v by s is ahead of none comes before one that it isn't ahead of -/
def Srt (v : Nat) (s : Int32) (l : List Wtr) : Prop := ∀ x, x ∈ (spl (ahw v s) l).2 → ahw v s x = true
theorem fl_sn_len {t : Int32} {k f g : Nat} {s : Int32} {S : St} (h : 16 * f + g < 256) : (fl (sn t k f g s S)).length = (fl S).length + 1 := by
  rw [fl_sn h, fl_split S h]
  simp only [List.length_append, List.length_singleton]
  omega
theorem bz_if (b : Bool) : bz (if b then (1 : Int32) else 0) := by
  cases b
  · exact Or.inl rfl
  · exact Or.inr rfl
theorem if10 (b : Bool) : ((if b then (1 : Int32) else 0) = 0) ↔ (b = false) := by
  cases b
  · simp
  · simp [ne10]
theorem if11 (b : Bool) : ((if b then (1 : Int32) else 0) = 1) ↔ (b = true) := by
  cases b
  · simp [ne01]
  · simp
theorem RV.aog {M : Mem} {tw : Bool} {t : Int32} {S : St} {pb pt : List Row4} (h : RV M tw t S pb pt) {a : Nat} (ha : a < 16) (v s : Int32) : f_X10_isAheadOfGranted 120 (nI a) v s M = some (if ahd s v (xR S 9 a) (xR S 8 a) then 1 else 0) := by
  rw [f_X10_isAheadOfGranted, rs_f h.1, h.of1 ha, obd_s, h.of0 ha, obd_s, f_ah10, obd_s, chk_t (bz_if _)]
def gn (S : St) (a : Nat) : Nat := (xR S 8 a).toNatClampNeg
theorem gn_e {S : St} {a g : Nat} (h : xR S 8 a = nI g) (hg : g < 16) : gn S a = g := by
  unfold gn; rw [h, nI_clamp (by omega)]
def rq3 (t : Int32) (a : Nat) (S : St) : St := if xR S 10 a = 1 then S else sn t 3 a (gn S a) (xR S 9 a) (uR S 10 a 1)
def rq2 (t : Int32) (a : Nat) (old : List Wtr) (S : St) : St := match old with
  | [] => S
  | w :: _ => if ahd w.2 (nI w.1) (xR S 9 a) (xR S 8 a) then sn t 2 a w.1 w.2 S else S
def rq (t : Int32) (a v : Nat) (s : Int32) (S : St) : St :=
  if xR S 8 a = -1 then gF t a (uW S a (ins v s (xW S a)))
  else if (ins v s (xW S a)).head? = some (v, s) ∧ ahd s (nI v) (xR S 9 a) (xR S 8 a) = true then rq3 t a (rq2 t a (xW S a) (uW S a (ins v s (xW S a))))
  else sn t 2 a v s (uW S a (ins v s (xW S a)))
/-- whom a granted -/
def Gok (S : St) (a : Nat) : Prop := xR S 8 a = -1 ∨ ∃ g, g < 16 ∧ xR S 8 a = nI g
theorem nI_m1 {g : Nat} (h : g < 16) : ¬ nI g = -1 := by
  intro q
  have h1 := nI_pos (n := g) (by omega)
  rw [q] at h1
  exact h1 (by decide)
theorem RV.trq3 {M : Mem} {tw : Bool} {t : Int32} {S : St} {pb pt : List Row4} (h : RV M tw t S pb pt) {a : Nat} (ha : a < 16) (hlen : (fl S).length < 9000) (hg : ∃ g, g < 16 ∧ xR S 8 a = nI g) {n : Nat} (hn : 9100 ≤ n) : ∃ M', f_X10_requested_133 n 120 (nI a) M = some M' ∧ RV M' tw t (rq3 t a S) pb pt ∧ Fr PA M M' := by
  obtain ⟨g, hg16, hge⟩ := hg
  unfold rq3
  by_cases e : xR S 10 a = 1
  · rw [if_pos e]
    refine ⟨M, ?_, h, Fr.rf _ _⟩
    rw [f_X10_requested_133, rs_f h.1, h.of2 ha, obd_s, if_pos e]
  · rw [if_neg e, gn_e hge hg16]
    have h1 := h.st (vk_n (k := 10) (by decide) ha) 1
    obtain ⟨M2, e2, h2, f2⟩ := h1.send (k := 3) (f := a) (g := g) (s := xR S 9 a) ha hg16 (by decide) hlen hn
    refine ⟨M2, ?_, h2, Fr.tr Fr.tad f2⟩
    rw [f_X10_requested_133, rs_f h.1, h.of2 ha, obd_s, if_neg e, h.put2 ha, obd_s, rs_f h1.1, h1.of0 ha, obd_s, h1.of1 ha, obd_s, show xR (uR S 10 a 1) 8 a = nI g from hge, show xR (uR S 10 a 1) 9 a = xR S 9 a from rfl, show (3 : Int32) = nI 3 from rfl, e2, obd_s]
theorem RV.rqf {M : Mem} {tw : Bool} {t : Int32} {S : St} {pb pt : List Row4} (h : RV M tw t S pb pt) {a v : Nat} {s : Int32} (ha : a < 16) (hv : v < 16) (hlen : (fl S).length < 9000) {n : Nat} (hn : 9100 ≤ n) : ∃ M', f_X10_requested_97 n 120 (nI a) (nI v) s M = some M' ∧ RV M' tw t (sn t 2 a v s S) pb pt ∧ Fr PA M M' := by
  obtain ⟨M2, e2, h2, f2⟩ := h.send (k := 2) (f := a) (g := v) (s := s) ha hv (by decide) hlen hn
  refine ⟨M2, ?_, h2, f2⟩
  rw [f_X10_requested_97, rs_f h.1, show (2 : Int32) = nI 2 from rfl, e2, obd_s]
theorem ins_hd {v : Nat} {s : Int32} {l : List Wtr} : ∃ w r, ins v s l = w :: r := by
  unfold ins
  cases (spl (ahw v s) l).1 with
  | nil => exact ⟨_, _, rfl⟩
  | cons w r => exact ⟨_, _, rfl⟩
set_option maxHeartbeats 1000000 in
theorem RV.rq14 {M : Mem} {tw : Bool} {t : Int32} {S : St} {pb pt : List Row4} (h : RV M tw t S pb pt) {a v : Nat} {s : Int32} (ha : a < 16) (hv : v < 16) (hlen : (fl S).length + 2 ≤ 9000) (hW : ∀ w, w ∈ xW S a → w.1 < 16) (hwl : (xW S a).length < 20) (hs : Srt v s (xW S a)) (hG : Gok S a) {n : Nat} (hn : 9100 ≤ n) {u0 : Int32} (hu0 : (xW S a = [] ∧ u0 = 0) ∨ (xW S a ≠ [] ∧ u0 = 1)) : ∃ M', f_X10_requested_14 n 120 (nI a) (nI v) s u0 M = some M' ∧ RV M' tw t (rq t a v s S) pb pt ∧ Fr PA M M' := by
  obtain ⟨M1, e1, h1, f1⟩ := h.come (v := v) (s := s) ha (p := (spl (ahw v s) (xW S a)).1) (q := (spl (ahw v s) (xW S a)).2) (spl_ap _ _).symm (spl_1 _ _) hs hwl (n := n) (by omega)
  have hS1 : uW S a ((spl (ahw v s) (xW S a)).1 ++ (v, s) :: (spl (ahw v s) (xW S a)).2) = uW S a (ins v s (xW S a)) := rfl
  rw [hS1] at h1
  have hfl : (fl (uW S a (ins v s (xW S a)))).length = (fl S).length := rfl
  obtain ⟨w, r, hwr⟩ := @ins_hd v s (xW S a)
  have hx1 : xW (uW S a (ins v s (xW S a))) a = w :: r := by rw [xW_uW, if_pos rfl, hwr]
  have hW1 : ∀ w, w ∈ xW (uW S a (ins v s (xW S a))) a → w.1 < 16 := by
    intro x hx
    rw [xW_uW, if_pos rfl] at hx
    unfold ins at hx
    rcases List.mem_append.mp hx with hx | hx
    · exact hW x (by rw [← spl_ap (ahw v s) (xW S a)]; exact List.mem_append_left _ hx)
    · rcases List.mem_cons.mp hx with rfl | hx
      · exact hv
      · exact hW x (by rw [← spl_ap (ahw v s) (xW S a)]; exact List.mem_append_right _ hx)
  have hr8 : xR (uW S a (ins v s (xW S a))) 8 a = xR S 8 a := rfl
  have hr9 : xR (uW S a (ins v s (xW S a))) 9 a = xR S 9 a := rfl
  rcases hG with hG | hG
  · obtain ⟨M2, e2, h2, f2⟩ := h1.tgF ha (by omega) hW1 hn
    refine ⟨M2, ?_, ?_, Fr.tr f1.toFr f2⟩
    · rw [f_X10_requested_14, rs_f h.1, h.wn0 ha, obd_s, h.ws0 ha, obd_s, e1, obd_s, rs_f h1.1, h1.of0 ha, obd_s, hr8, if_pos hG, e2, obd_s]
    · unfold rq; rw [if_pos hG]; exact h2
  · obtain ⟨g, hg16, hge⟩ := hG
    have hne : ¬ xR S 8 a = -1 := by rw [hge]; exact nI_m1 hg16
    have w01 := h1.w0 ha hx1
    have fail : ∀ u : Int32, (u = 0 ∨ ahd s (nI v) (xR S 9 a) (xR S 8 a) = false) → ∃ M', f_X10_requested_80 n 120 (nI a) (nI v) s u0 (mI M 121 (150 + 44 * a)) (mI M 121 (151 + 44 * a)) u M1 = some M' ∧ RV M' tw t (sn t 2 a v s (uW S a (ins v s (xW S a)))) pb pt ∧ Fr PA M M' := by
      intro u hu
      obtain ⟨M2, e2, h2, f2⟩ := h1.rqf (v := v) (s := s) ha hv (by omega) hn
      refine ⟨M2, ?_, h2, Fr.tr f1.toFr f2⟩
      rw [f_X10_requested_80]
      by_cases q : u = 0
      · rw [if_pos q, e2]
      · rw [if_neg q, rs_f h1.1, h1.aog ha, obd_s, hr9, hr8, if_pos ((if10 _).mpr (hu.resolve_left q)), e2]
    have open1 : ∀ x, f_X10_requested_80 n 120 (nI a) (nI v) s u0 (mI M 121 (150 + 44 * a)) (mI M 121 (151 + 44 * a)) (if w = (v, s) then 1 else 0) M1 = x → f_X10_requested_14 n 120 (nI a) (nI v) s u0 M = x := by
      intro x hx
      rw [f_X10_requested_14, rs_f h.1, h.wn0 ha, obd_s, h.ws0 ha, obd_s, e1, obd_s, rs_f h1.1, h1.of0 ha, obd_s, hr8, if_neg hne, h1.wn0 ha, obd_s, w01.1]
      by_cases q1 : w.1 = v
      · rw [if_pos (by rw [q1]), h1.ws0 ha, obd_s, w01.2]
        by_cases q2 : w.2 = s
        · rw [if_pos q2]
          rw [if_pos (Prod.ext q1 q2)] at hx
          exact hx
        · rw [if_neg q2]
          rw [if_neg (fun q => q2 (congrArg Prod.snd q))] at hx
          exact hx
      · rw [if_neg (fun q => q1 ((nI_eq (by have := hW1 w (by rw [hx1]; simp); omega) (by omega)).mp q))]
        rw [if_neg (fun q => q1 (congrArg Prod.fst q))] at hx
        exact hx
    by_cases c1 : w = (v, s)
    · rw [if_pos c1] at open1
      by_cases c2 : ahd s (nI v) (xR S 9 a) (xR S 8 a) = true
      · have hcond : (ins v s (xW S a)).head? = some (v, s) ∧ ahd s (nI v) (xR S 9 a) (xR S 8 a) = true := ⟨by rw [hwr, c1]; rfl, c2⟩
        have erq : rq t a v s S = rq3 t a (rq2 t a (xW S a) (uW S a (ins v s (xW S a)))) := by unfold rq; rw [if_neg hne, if_pos hcond]
        have start : ∀ x, (if u0 = 0 then f_X10_requested_133 n 120 (nI a) M1 else obd (f_X10_isAheadOfGranted 120 (nI a) (mI M 121 (150 + 44 * a)) (mI M 121 (151 + 44 * a)) M1) fun r11 => if r11 = 0 then f_X10_requested_133 n 120 (nI a) M1 else obd (f_X10_send n 120 (2 : Int32) (nI a) (mI M 121 (150 + 44 * a)) (mI M 121 (151 + 44 * a)) M1) fun M15 => f_X10_requested_133 n 120 (nI a) M15) = x → f_X10_requested_80 n 120 (nI a) (nI v) s u0 (mI M 121 (150 + 44 * a)) (mI M 121 (151 + 44 * a)) 1 M1 = x := by
          intro x hx
          rw [f_X10_requested_80, if_neg ne10, rs_f h1.1, h1.aog ha, obd_s, hr9, hr8, if_neg (fun q => by rw [(if10 _).mp q] at c2; cases c2)]
          exact hx
        have hcase : ∃ M2, (f_X10_requested_80 n 120 (nI a) (nI v) s u0 (mI M 121 (150 + 44 * a)) (mI M 121 (151 + 44 * a)) 1 M1 = f_X10_requested_133 n 120 (nI a) M2) ∧ RV M2 tw t (rq2 t a (xW S a) (uW S a (ins v s (xW S a)))) pb pt ∧ Fr PA M1 M2 := by
          by_cases hc : xW S a = []
          · refine ⟨M1, start _ ?_, ?_, Fr.rf _ _⟩
            · rcases hu0 with z | z
              · rw [if_pos z.2]
              · exact absurd hc z.1
            · have e : rq2 t a (xW S a) (uW S a (ins v s (xW S a))) = uW S a (ins v s (xW S a)) := by
                generalize uW S a (ins v s (xW S a)) = S1
                rw [hc]; rfl
              rw [e]; exact h1
          · obtain ⟨y, ys, hy⟩ := List.exists_cons_of_ne_nil hc
            have hu1 : ¬ u0 = 0 := by
              rcases hu0 with z | z
              · exact absurd z.1 hc
              · rw [z.2]; exact ne10
            have y0 := h.w0 ha hy
            have e : rq2 t a (xW S a) (uW S a (ins v s (xW S a))) = if ahd y.2 (nI y.1) (xR S 9 a) (xR S 8 a) then sn t 2 a y.1 y.2 (uW S a (ins v s (xW S a))) else uW S a (ins v s (xW S a)) := by
              rw [← hr8, ← hr9]
              generalize uW S a (ins v s (xW S a)) = S1
              rw [hy]; rfl
            rw [e]
            by_cases c3 : ahd y.2 (nI y.1) (xR S 9 a) (xR S 8 a) = true
            · obtain ⟨M2, e2, h2, f2⟩ := h1.send (k := 2) (f := a) (g := y.1) (s := y.2) ha (hW y (by rw [hy]; simp)) (by decide) (by omega) hn
              refine ⟨M2, start _ ?_, ?_, f2⟩
              · rw [if_neg hu1, y0.1, y0.2, h1.aog ha, obd_s, hr9, hr8, if_neg (fun q => by rw [(if10 _).mp q] at c3; cases c3), show (2 : Int32) = nI 2 from rfl, e2, obd_s]
              · rw [if_pos c3]; exact h2
            · refine ⟨M1, start _ ?_, ?_, Fr.rf _ _⟩
              · rw [if_neg hu1, y0.1, y0.2, h1.aog ha, obd_s, hr9, hr8, if_pos ((if10 _).mpr (by simpa using c3))]
              · rw [if_neg c3]; exact h1
        obtain ⟨M2, e2, h2, f2⟩ := hcase
        have k8 : xR (rq2 t a (xW S a) (uW S a (ins v s (xW S a)))) 8 a = nI g := by
          unfold rq2
          split
          · exact hge
          · split
            · unfold sn
              rw [xR_uL, xR_uR, if_neg (by omega)]; exact hge
            · exact hge
        have kl : (fl (rq2 t a (xW S a) (uW S a (ins v s (xW S a))))).length < 9000 := by
          by_cases hc : xW S a = []
          · have e : rq2 t a (xW S a) (uW S a (ins v s (xW S a))) = uW S a (ins v s (xW S a)) := by
              generalize uW S a (ins v s (xW S a)) = S1
              rw [hc]; rfl
            rw [e, hfl]; omega
          · obtain ⟨y, ys, hy⟩ := List.exists_cons_of_ne_nil hc
            have hy16 := hW y (by rw [hy]; simp)
            have e : rq2 t a (xW S a) (uW S a (ins v s (xW S a))) = if ahd y.2 (nI y.1) (xR S 9 a) (xR S 8 a) then sn t 2 a y.1 y.2 (uW S a (ins v s (xW S a))) else uW S a (ins v s (xW S a)) := by
              rw [← hr8, ← hr9]
              generalize uW S a (ins v s (xW S a)) = S1
              rw [hy]; rfl
            rw [e]
            split
            · rw [fl_sn_len (by omega), hfl]; omega
            · rw [hfl]; omega
        obtain ⟨M3, e3, h3, f3⟩ := h2.trq3 ha kl ⟨g, hg16, k8⟩ hn
        exact ⟨M3, open1 _ (e2.trans e3), by rw [erq]; exact h3, Fr.tr f1.toFr (Fr.tr f2 f3)⟩
      · have hcond : ¬ ((ins v s (xW S a)).head? = some (v, s) ∧ ahd s (nI v) (xR S 9 a) (xR S 8 a) = true) := fun q => c2 q.2
        have erq : rq t a v s S = sn t 2 a v s (uW S a (ins v s (xW S a))) := by unfold rq; rw [if_neg hne, if_neg hcond]
        obtain ⟨M2, e2, h2, f2⟩ := fail 1 (Or.inr (by simpa using c2))
        exact ⟨M2, open1 _ e2, by rw [erq]; exact h2, f2⟩
    · rw [if_neg c1] at open1
      have hcond : ¬ ((ins v s (xW S a)).head? = some (v, s) ∧ ahd s (nI v) (xR S 9 a) (xR S 8 a) = true) := fun q => c1 (by rw [hwr] at q; simpa using q.1)
      have erq : rq t a v s S = sn t 2 a v s (uW S a (ins v s (xW S a))) := by unfold rq; rw [if_neg hne, if_neg hcond]
      obtain ⟨M2, e2, h2, f2⟩ := fail 0 (Or.inl rfl)
      exact ⟨M2, open1 _ e2, by rw [erq]; exact h2, f2⟩
theorem RV.trq {M : Mem} {tw : Bool} {t : Int32} {S : St} {pb pt : List Row4} (h : RV M tw t S pb pt) {a v : Nat} {s : Int32} (ha : a < 16) (hv : v < 16) (hlen : (fl S).length + 2 ≤ 9000) (hW : ∀ w, w ∈ xW S a → w.1 < 16) (hwl : (xW S a).length < 20) (hs : Srt v s (xW S a)) (hG : Gok S a) {n : Nat} (hn : 9100 ≤ n) : ∃ M', f_X10_requested n 120 (nI a) (nI v) s M = some M' ∧ RV M' tw t (rq t a v s S) pb pt ∧ Fr PA M M' := by
  by_cases c : xW S a = []
  · obtain ⟨M1, e1, h1, f1⟩ := h.rq14 (v := v) (s := s) ha hv hlen hW hwl hs hG hn (Or.inl ⟨c, rfl⟩)
    refine ⟨M1, ?_, h1, f1⟩
    rw [f_X10_requested, rs_f h.1, h.of3 ha, obd_s, c, if_pos (show nI ([] : List Wtr).length ≤ 0 from nI_le (Nat.le_refl 0) (by decide)), e1]
  · obtain ⟨M1, e1, h1, f1⟩ := h.rq14 (v := v) (s := s) ha hv hlen hW hwl hs hG hn (Or.inr ⟨c, rfl⟩)
    have hp : 0 < (xW S a).length := List.length_pos_iff.mpr c
    refine ⟨M1, ?_, h1, f1⟩
    rw [f_X10_requested, rs_f h.1, h.of3 ha, obd_s, if_neg (by rw [show (0 : Int32) = nI 0 from rfl]; exact nI_ge hp (by omega)), e1]
def yl (t : Int32) (a v : Nat) (s : Int32) (S : St) : St := if xR S 8 a = nI v ∧ xR S 9 a = s then gF t a (uW S a (ins v s (xW S a))) else S
theorem RV.ig {M : Mem} {tw : Bool} {t : Int32} {S : St} {pb pt : List Row4} (h : RV M tw t S pb pt) {a : Nat} (ha : a < 16) (v s : Int32) : f_X10_isGranted 120 (nI a) v s M = some (if xR S 8 a = v ∧ xR S 9 a = s then 1 else 0) := by
  rw [f_X10_isGranted, rs_f h.1, h.of0 ha, obd_s]
  by_cases q1 : xR S 8 a = v
  · rw [if_pos q1, h.of1 ha, obd_s]
    by_cases q2 : xR S 9 a = s
    · rw [if_pos q2, if_pos ⟨q1, q2⟩]
    · rw [if_neg q2, if_neg (fun q => q2 q.2)]
  · rw [if_neg q1, if_neg (fun q => q1 q.1)]
theorem ins_mem {v : Nat} {s : Int32} {l : List Wtr} {x : Wtr} (h : x ∈ ins v s l) : x = (v, s) ∨ x ∈ l := by
  unfold ins at h
  rcases List.mem_append.mp h with h | h
  · exact Or.inr (by rw [← spl_ap (ahw v s) l]; exact List.mem_append_left _ h)
  · rcases List.mem_cons.mp h with h | h
    · exact Or.inl h
    · exact Or.inr (by rw [← spl_ap (ahw v s) l]; exact List.mem_append_right _ h)
theorem RV.tyl {M : Mem} {tw : Bool} {t : Int32} {S : St} {pb pt : List Row4} (h : RV M tw t S pb pt) {a v : Nat} {s : Int32} (ha : a < 16) (hv : v < 16) (hlen : (fl S).length < 9000) (hW : ∀ w, w ∈ xW S a → w.1 < 16) (hwl : (xW S a).length < 20) (hs : Srt v s (xW S a)) {n : Nat} (hn : 9100 ≤ n) : ∃ M', f_X10_yielded n 120 (nI a) (nI v) s M = some M' ∧ RV M' tw t (yl t a v s S) pb pt ∧ Fr PA M M' := by
  unfold yl
  by_cases c : xR S 8 a = nI v ∧ xR S 9 a = s
  · rw [if_pos c]
    obtain ⟨M1, e1, h1, f1⟩ := h.come (v := v) (s := s) ha (p := (spl (ahw v s) (xW S a)).1) (q := (spl (ahw v s) (xW S a)).2) (spl_ap _ _).symm (spl_1 _ _) hs hwl (n := n) (by omega)
    obtain ⟨M2, e2, h2, f2⟩ := h1.tgF ha hlen (fun w hw => by
      rw [xW_uW, if_pos rfl] at hw
      rcases ins_mem (l := xW S a) hw with rfl | hw
      · exact hv
      · exact hW w hw) hn
    refine ⟨M2, ?_, h2, Fr.tr f1.toFr f2⟩
    rw [f_X10_yielded, rs_f h.1, h.ig ha, obd_s, if_pos c, if_neg ne10, e1, obd_s, rs_f h1.1, e2, obd_s]
  · rw [if_neg c]
    refine ⟨M, ?_, h, Fr.rf _ _⟩
    rw [f_X10_yielded, rs_f h.1, h.ig ha, obd_s, if_neg c, if_pos rfl]
/-- the first (v, s) goes -/
def gone (v : Nat) (s : Int32) : List Wtr → List Wtr
  | [] => []
  | w :: r => if w = (v, s) then r else w :: gone v s r
def rl (t : Int32) (a v : Nat) (s : Int32) (S : St) : St := if xR S 8 a = nI v ∧ xR S 9 a = s then gF t a S else uW S a (gone v s (xW S a))
theorem uW_id (S : St) (a : Nat) : uW S a (xW S a) = S := by
  unfold uW
  refine Prod.ext rfl (Prod.ext ?_ rfl)
  funext b
  show up1 S.2.1 a (S.2.1 a) b = S.2.1 b
  unfold up1
  by_cases e : b = a
  · rw [if_pos e, e]
  · rw [if_neg e]
theorem RV.rl19 {M : Mem} {tw : Bool} {t : Int32} {S : St} {pb pt : List Row4} (h : RV M tw t S pb pt) {a v : Nat} {s : Int32} (ha : a < 16) (hv : v < 16) (hW : ∀ w, w ∈ xW S a → w.1 < 16) : ∀ (q p : List Wtr) (n : Nat), xW S a = p ++ q → q.length + 60 ≤ n → ∃ M', f_X10_released_19 n 120 (nI a) (nI v) s (nI p.length) M = some M' ∧ RV M' tw t (uW S a (p ++ gone v s q)) pb pt ∧ FrW a M M' := by
  intro q
  induction q with
  | nil =>
    intro p n e hn
    obtain ⟨n, rfl⟩ : ∃ m, n = m + 1 := ⟨n - 1, by omega⟩
    have hl := h.wl ha
    rw [List.append_nil] at e
    refine ⟨M, ?_, ?_, FrW.rf a M⟩
    · rw [f_X10_released_19, rs_f h.1, h.of3 ha, obd_s, e, if_pos (nI_le (Nat.le_refl _) (by rw [e] at hl; omega))]
    · rw [show gone v s [] = [] from rfl, List.append_nil, ← e, uW_id]; exact h
  | cons w r ih =>
    intro p n e hn
    simp only [List.length_cons] at hn
    obtain ⟨n, rfl⟩ : ∃ m, n = m + 1 := ⟨n - 1, by omega⟩
    have hl := h.wl ha
    have hl2 : (xW S a).length = p.length + r.length + 1 := by rw [e]; simp; omega
    have g := (h.2.2.2.1 a ha).2.2.1 p.length w (by rw [e, List.getElem?_append_right (Nat.le_refl _)]; simp)
    have hi := ih (p ++ [w]) n (by rw [e]; simp) (by omega)
    rw [show (p ++ [w]).length = p.length + 1 by simp] at hi
    have hw16 := hW w (by rw [e]; simp)
    have start : ∀ x, (if nI w.1 = nI v then (if w.2 = s then obd (f_X10_goWaiting n 120 (nI a) (nI p.length) M) fun M17 => some M17 else f_X10_released_19 n 120 (nI a) (nI v) s (nI (p.length + 1)) M) else f_X10_released_19 n 120 (nI a) (nI v) s (nI (p.length + 1)) M) = x → f_X10_released_19 (n + 1) 120 (nI a) (nI v) s (nI p.length) M = x := by
      intro x hx
      rw [f_X10_released_19, rs_f h.1, h.of3 ha, obd_s, hl2, if_neg (nI_ge (by omega) (by omega)), h.wn ha (by omega), obd_s, g.1, h.ws ha (by omega), obd_s, g.2]
      simp only [bnd_e, nI_1]
      exact hx
    by_cases c : w = (v, s)
    · obtain ⟨M2, e2, h2, f2⟩ := h.go (n := n) ha e (by omega)
      refine ⟨M2, start _ ?_, ?_, f2⟩
      · rw [c, if_pos rfl, if_pos rfl, e2, obd_s]
      · rw [show gone v s (w :: r) = r by unfold gone; rw [if_pos c]]
        exact h2
    · obtain ⟨M2, e2, h2, f2⟩ := hi
      refine ⟨M2, start _ ?_, ?_, f2⟩
      · by_cases c1 : nI w.1 = nI v
        · rw [if_pos c1, if_neg (fun c2 => c (Prod.ext ((nI_eq (by omega) (by omega)).mp c1) c2)), e2]
        · rw [if_neg c1, e2]
      · rw [show gone v s (w :: r) = w :: gone v s r by rw [gone, if_neg c]]
        simpa using h2
theorem RV.trl {M : Mem} {tw : Bool} {t : Int32} {S : St} {pb pt : List Row4} (h : RV M tw t S pb pt) {a v : Nat} {s : Int32} (ha : a < 16) (hv : v < 16) (hlen : (fl S).length < 9000) (hW : ∀ w, w ∈ xW S a → w.1 < 16) {n : Nat} (hn : 9100 ≤ n) : ∃ M', f_X10_released n 120 (nI a) (nI v) s M = some M' ∧ RV M' tw t (rl t a v s S) pb pt ∧ Fr PA M M' := by
  unfold rl
  by_cases c : xR S 8 a = nI v ∧ xR S 9 a = s
  · rw [if_pos c]
    obtain ⟨M2, e2, h2, f2⟩ := h.tgF ha hlen hW hn
    refine ⟨M2, ?_, h2, f2⟩
    rw [f_X10_released, rs_f h.1, h.ig ha, obd_s, if_pos c, if_neg ne10, e2, obd_s]
  · rw [if_neg c]
    have hl := h.wl ha
    obtain ⟨M2, e2, h2, f2⟩ := h.rl19 (v := v) (s := s) ha hv hW (xW S a) [] n (by simp) (by omega)
    refine ⟨M2, ?_, by simpa using h2, f2.toFr⟩
    rw [f_X10_released, rs_f h.1, h.ig ha, obd_s, if_neg c, if_pos rfl, show (0 : Int32) = nI ([] : List Wtr).length from rfl, e2]
