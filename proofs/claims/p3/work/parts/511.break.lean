/-! ===== a node breaks: the model, and the class ===== -/
def drp (x : Nat) (S : St) : St := (S.1, S.2.1, (fun l => if l < 256 ∧ (l / 16 = x ∨ l % 16 = x) then [] else S.2.2.1 l), S.2.2.2)
def fgt (t : Int32) (a x : Nat) (S : St) : St := if xR S 8 a = nI x then gF t a S else uW S a ((xW S a).filter fun w => !decide (w.1 = x))
def b0 (x : Nat) (S : St) : St := uW (nob x (drp x (uR S 7 x 1))) x []
def fgl (t : Int32) (x : Nat) (ws : List Nat) (S : St) : St := ws.foldl (fun S a => if a = x then S else fgt t a x S) S
def gdw (t : Int32) (N x w : Nat) (S : St) : St := if xR S 0 w = 2 then uR S 3 w (bof (xR S 3 w) x) else (if mayA N w (rst w (sA t N 5 w (bof (xR S 3 w) x &&& (bkm N S ^^^ (-1 : Int32))) (xR S 2 w) S)) then ak t N w (rst w (sA t N 5 w (bof (xR S 3 w) x &&& (bkm N S ^^^ (-1 : Int32))) (xR S 2 w) S)) else rst w (sA t N 5 w (bof (xR S 3 w) x &&& (bkm N S ^^^ (-1 : Int32))) (xR S 2 w) S))
def gdl (t : Int32) (N x : Nat) (ws : List Nat) (S : St) : St := ws.foldl (fun S w => if w = x then S else if bt (xR S 3 w) x then gdw t N x w S else S) S
def bd (t : Int32) (N x : Nat) (S : St) : St := gdl t N x (List.range N) (fgl t x (List.range N) (b0 x S))
theorem HV.st7 {M : Mem} {h X Y N : Nat} {t : Int32} {Q : Nat → Int32} {S : St} {pb pt : List Row4} (p : HV M h X Y t N Q S pb pt) {x : Nat} {y z : Int32} (hx : x < 16) (hb : ∀ u, u < 32 → bt y u = decide (u < 16 ∧ (if u = x then z else xR S 7 u) = 1)) : HV (sI M h 9 y) h X Y t N Q (uR S 7 x z) pb pt ∧ FrH M (sI M h 9 y) h := by
  have r7 : ∀ u, xR (uR S 7 x z) 7 u = if u = x then z else xR S 7 u := fun u => by
    rw [xR_uR]
    by_cases c : u = x
    · rw [if_pos ⟨rfl, c⟩, if_pos c]
    · rw [if_neg (fun q => c q.2), if_neg c]
  have rk : ∀ k i, k ≠ 7 → xR (uR S 7 x z) k i = xR S k i := fun k i n => by rw [xR_uR, if_neg (fun q => n q.1)]
  have lim : ∀ p, p ∈ ft → p.2 ≠ 7 := by decide
  have hp : HP (sI M h 9 y) h (uR S 7 x z) := by
    obtain ⟨h1, g7, g8, g9, g10, g11, g12, g13, g14, g15⟩ := p.2.2.1
    refine ⟨fun v hv => ?_, ?_, ?_, ?_, ?_, ?_, ?_, ?_, ?_, ?_⟩
    · obtain ⟨a1, a2, a3, a4, a5⟩ := h1 v hv
      refine ⟨fun q hq => ?_, ?_, fun e => ?_, fun u hu => ?_, fun w hw => ?_⟩
      · rw [mI_o _ _ _ _ _ (by omega), rk _ _ (lim q hq)]; exact a1 q hq
      · rw [mI_o _ _ _ _ _ (by omega)]; exact a2
      · rw [mI_o _ _ _ _ _ (by omega)]; exact a3 e
      · rw [mI_o _ _ _ _ _ (by omega)]; exact a4 u hu
      · rw [mI_o _ _ _ _ _ (by omega)]; exact a5 w hw
    · intro v hv; rw [mI_n _ _ _ _ (by decide), rk 0 v (by decide)]; exact g7 v hv
    · intro v hv; rw [mI_n _ _ _ _ (by decide), rk 0 v (by decide)]; exact g8 v hv
    · intro v hv; rw [mI_s, r7]; exact hb v hv
    · rw [mI_n _ _ _ _ (by decide)]; exact g10
    · rw [mI_n _ _ _ _ (by decide)]; exact g11
    · rw [mI_n _ _ _ _ (by decide)]; exact g12
    · rw [mI_n _ _ _ _ (by decide)]; exact g13
    · rw [mI_n _ _ _ _ (by decide)]; exact g14
    · rw [mI_n _ _ _ _ (by decide)]; exact g15
  exact ⟨p.at rfl (fun o n b => mI_o _ _ _ _ _ (by omega)) hp rfl (by funext i; exact rk 16 i (by decide)) rfl rfl, FrH.sI (by omega)⟩
theorem HV.grF {M : Mem} {h X Y N A n a : Nat} {t : Int32} {Q : Nat → Int32} {S : St} {pb pt : List Row4} (p : HV M h X Y t N Q (nob a S) pb pt) (h16 : N ≤ 16) (ha : a < 16) (hW : Wok N A (xW S a)) (hl : (fl S).length < 9000) (hn : 17 ≤ n) : ∃ M', f_X2_grantFirst n h (nI a) M = some M' ∧ HV M' h X Y t N Q (gF t a S) pb pt ∧ FrH M M' h := by
  cases hx : xW S a with
  | nil =>
    have fw := p.2.2.1.fw p.1 ha (N := N) (A := A) (n := n) (by show Wok N A (xW S a); exact hW) h16 hn
    have hh : xW (nob a S) a = [] := hx
    rw [hh] at fw
    have q1 := p.1
    refine ⟨M, ?_, ?_, FrH.rf _ _⟩
    · rw [f_X2_grantFirst, cs_f q1, cs_h2 q1, bnd_e, cs_a10 q1, cs_i10 q1 ha, cs_rpc q1 ha, bnd_e, cs_po q1 ha, fw, obd_s, if_pos (show hdW [] = (-1 : Int32) from rfl)]
    · unfold gF
      rw [hx]
      exact p
  | cons w r =>
    obtain ⟨M2, e2, p2, f2⟩ := p.grant (A := A) hl ha hW h16 hn (w := w) (r := r) hx
    rw [gF_nob] at p2
    exact ⟨M2, e2, p2, f2⟩
theorem flt_fst {l : List Wtr} {x u : Nat} : u ∈ (l.filter fun w => !decide (w.1 = x)).map Prod.fst ↔ u ∈ l.map Prod.fst ∧ u ≠ x := by
  constructor
  · intro h
    obtain ⟨w, hw, e⟩ := List.mem_map.mp h
    obtain ⟨h1, h2⟩ := List.mem_filter.mp hw
    refine ⟨by rw [← e]; exact List.mem_map_of_mem h1, fun z => ?_⟩
    rw [← e] at z
    simp [z] at h2
  · rintro ⟨h, n⟩
    obtain ⟨w, hw, e⟩ := List.mem_map.mp h
    rw [← e]
    refine List.mem_map_of_mem (List.mem_filter.mpr ⟨hw, ?_⟩)
    rw [e, decide_eq_false n]; rfl
/-- an arbiter of the class forgets x -/
theorem HV.tfgt {M : Mem} {h X Y N A n : Nat} {t : Int32} {Q : Nat → Int32} {S : St} {pb pt : List Row4} (p : HV M h X Y t N Q S pb pt) (h16 : N ≤ 16) {a x : Nat} (ha : a < 16) (hx : x < 16) (hW : Wok N A (xW S a)) (hg : xR S 8 a = nI x → x ∉ (xW S a).map Prod.fst) (hl : (fl S).length < 9000) (hn : 17 ≤ n) : ∃ M', f_X2_forget n h (nI x) (nI a) M = some M' ∧ HV M' h X Y t N Q (fgt t a x S) pb pt ∧ FrH M M' h := by
  have q := p.1
  obtain ⟨_, _, _, a4, a5⟩ := p.2.2.1.1 a ha
  obtain ⟨p1, f1⟩ := p.tW (M' := sI M (h + 17 + 2 * a) 9 (bof (mI M (h + 17 + 2 * a) 9) x)) (l := (xW S a).filter fun w => !decide (w.1 = x)) ha rfl (fun _ _ => rfl) (fun o n1 _ b => by rw [mI_o _ _ _ _ _ n1]) (fun b n => by rw [mI_n _ _ _ _ n]) (fun u hu => by
    rw [mI_s, bt_off _ (by omega) hu, a4 u hu]
    by_cases c1 : u ∈ (xW S a).map Prod.fst
    · by_cases c2 : u = x
      · rw [decide_eq_true c1, decide_eq_true c2, decide_eq_false (fun z => (flt_fst.mp z).2 c2)]; rfl
      · rw [decide_eq_true c1, decide_eq_false c2, decide_eq_true (flt_fst.mpr ⟨c1, c2⟩)]; rfl
    · rw [decide_eq_false c1, decide_eq_false (fun z => c1 (flt_fst.mp z).1)]; rfl) (fun w hw => by
    rw [mI_o _ _ _ _ _ (by omega)]
    exact a5 w (List.mem_filter.mp hw).1)
  have e6 : mI (sI M (h + 17 + 2 * a) 9 (bof (mI M (h + 17 + 2 * a) 9) x)) (h + 17 + 2 * a) 6 = xR S 8 a := by
    rw [mI_n _ _ _ _ (by decide)]; exact p.fs ha (a := 6) (k := 8) (by decide)
  unfold fgt
  by_cases c : xR S 8 a = nI x
  · rw [if_pos c]
    have nf : (xW S a).filter (fun w => !decide (w.1 = x)) = xW S a := by
      apply List.filter_eq_self.mpr
      intro w hw
      have : w.1 ≠ x := fun z => hg c (by rw [← z]; exact List.mem_map_of_mem hw)
      rw [decide_eq_false this]; rfl
    rw [nf, uW_id] at p1
    obtain ⟨M2, e2, p2, f2⟩ := p1.forget ha
    obtain ⟨M3, e3, p3, f3⟩ := p2.grF (A := A) (n := n) h16 ha hW hl hn
    refine ⟨M3, ?_, p3, f1.tr (f2.tr f3)⟩
    rw [f_X2_forget, cs_f q, cs_h2 q, bnd_e, cs_a10 q, cs_i10 q ha, cs_rpc q ha, bnd_e, cs_po q ha, bnd_e]
    show (if mI (sI M (h + 17 + 2 * a) 9 (bof (mI M (h + 17 + 2 * a) 9) x)) (h + 17 + 2 * a) 6 = nI x then _ else _) = _
    rw [e6, if_pos c]
    show obd (f_X4_forgetGranted (h + 17 + 2 * a) (sI M (h + 17 + 2 * a) 9 (bof (mI M (h + 17 + 2 * a) 9) x))) _ = _
    rw [e2, obd_s, cs_f p2.1, e3, obd_s]
  · rw [if_neg c]
    refine ⟨_, ?_, p1, f1⟩
    rw [f_X2_forget, cs_f q, cs_h2 q, bnd_e, cs_a10 q, cs_i10 q ha, cs_rpc q ha, bnd_e, cs_po q ha, bnd_e]
    show (if mI (sI M (h + 17 + 2 * a) 9 (bof (mI M (h + 17 + 2 * a) 9) x)) (h + 17 + 2 * a) 6 = nI x then _ else _) = _
    rw [e6, if_neg c]
    rfl
/-- one goes on without x -/
theorem HV.tgdw {M : Mem} {h X Y N n : Nat} {t : Int32} {Q : Nat → Int32} {S : St} {pb pt : List Row4} (p : HV M h X Y t N Q S pb pt) (h16 : N ≤ 16) {x w : Nat} (hw : w < N) (hx : x < N) (hI : IA N S) (hz : ∀ v, N ≤ v → v < 16 → xR S 7 v = 0) (h7 : xR S 7 x = 1) (hQ : ∀ v, v < N → qm N S v = Q v) (hl : (fl S).length + 2 * N ≤ 9000) (hn : 17 ≤ n) : ∃ M', f_X2_doWithout n h (nI x) (nI w) M = some M' ∧ HV M' h X Y t N Q (gdw t N x w S) pb pt ∧ FrH M M' h := by
  have q := p.1
  have w6 : w < 16 := by omega
  have b7 := p.bk h16 (fun v hv => (hI v hv).2.2.1) hz
  have e7 : bt (mI M h 7) w = decide (xR S 0 w = 2) := by
    rw [p.2.2.1.2.1 w (by omega)]
    apply decide_eq_decide.mpr
    exact ⟨fun z => z.2, fun z => ⟨w6, z⟩⟩
  have u3 : mI M (h + 17 + 2 * w) 2 = xR S 3 w := p.fs w6 (a := 2) (k := 3) (by decide)
  rw [f_X2_doWithout, cs_f q, f_has9 _ (by omega), obd_s, e7]
  unfold gdw
  by_cases c : xR S 0 w = 2
  · rw [decide_eq_true c, if_pos rfl, if_neg ne10, if_pos c, cs_h2 q, bnd_e, cs_a10 q, cs_i10 q w6, cs_rpc q w6, bnd_e, cs_po q w6, bnd_e]
    obtain ⟨p1, f1⟩ := p.fld (x := bof (xR S 3 w) x) w6 (a := 2) (k := 3) (by decide) (by decide)
    refine ⟨_, ?_, p1, f1⟩
    rw [← u3]; rfl
  · rw [decide_eq_false c, if_neg (show ¬ false = true by decide), if_pos rfl, if_neg c, cs_h2 q, bnd_e, cs_a10 q, cs_i10 q w6, cs_rpc q w6, bnd_e, cs_po q w6, u3, b7]
    have es : xR S 3 w &&& (bkm N S ^^^ (-1 : Int32)) = bof (xR S 3 w) x &&& (bkm N S ^^^ (-1 : Int32)) := by
      apply b_ext
      intro i hi
      rw [bt_minus _ _ hi, bt_minus _ _ hi, bt_off _ (by omega) hi]
      by_cases d : i = x
      · rw [bkm_b h16 (fun v hv => (hI v hv).2.2.1) hi, decide_eq_true (show i < N ∧ xR S 7 i = 1 by rw [d]; exact ⟨hx, h7⟩)]; simp
      · rw [decide_eq_false d]; simp
    rw [es]
    obtain ⟨M1, e1, p1, f1⟩ := p.tsA (n := n) h16 (k := 5) (f := w) (by decide) w6 (bof (xR S 3 w) x &&& (bkm N S ^^^ (-1 : Int32))) (by omega) hn
    obtain ⟨M2, e2, p2, f2⟩ := p1.idle w6
    have len1 : (fl (sA t N 5 w (bof (xR S 3 w) x &&& (bkm N S ^^^ (-1 : Int32))) (xR S 2 w) S)).length ≤ (fl S).length + N := by
      have := sAl_len t (k := 5) w6 (bof (xR S 3 w) x &&& (bkm N S ^^^ (-1 : Int32))) (xR S 2 w) (List.range N) S (fun v hv => by have := List.mem_range.mp hv; omega)
      rw [List.length_range] at this
      exact this
    generalize hS1 : sA t N 5 w (bof (xR S 3 w) x &&& (bkm N S ^^^ (-1 : Int32))) (xR S 2 w) S = S1 at p1 p2 len1
    have rR : ∀ k i, k ≠ 16 → xR S1 k i = xR S k i := fun k i hk => by rw [← hS1, sA_R hk]
    have kq : Qk S (rst w S1) := fun k hk i => by rw [rst_R, if_neg (by omega), rR k i (by omega)]
    have ia : IA N (rst w S1) := by
      intro v hv
      obtain ⟨x1, x2, x3, x4⟩ := hI v hv
      rw [rst_R, rst_R, rst_R, if_neg (show ¬ (v = w ∧ (7 = 0 ∨ 3 ≤ 7 ∧ 7 ≤ 6)) by omega), if_neg (show ¬ (v = w ∧ (10 = 0 ∨ 3 ≤ 10 ∧ 10 ≤ 6)) by omega), rR _ _ (by decide), rR _ _ (by decide), rR _ _ (by decide)]
      refine ⟨?_, ?_, x3, x4⟩
      · split
        · exact Or.inl rfl
        · exact x1
      · intro z
        split
        · rfl
        · exact x2 z
    have may := p2.may ia h16 hw (by rw [kq.m]; exact hQ w hw)
    rw [show (5 : Int32) = nI 5 from rfl, e1, obd_s, cs_f p1.1, e2, obd_s, cs_f p2.1, may, obd_s]
    by_cases d : mayA N w (rst w S1) = true
    · rw [if_pos d, if_neg ne10, if_pos d]
      obtain ⟨M3, e3, p3, f3⟩ := p2.tak (n := n) h16 hw (by rw [rst_R, if_pos ⟨rfl, Or.inl rfl⟩]; decide) (by rw [kq.m]; exact hQ w hw) (by show (fl S1).length + N ≤ 9000; omega) hn
      exact ⟨M3, by rw [e3, obd_s], p3, f1.tr (f2.tr f3)⟩
    · rw [if_neg d, if_pos rfl, if_neg d]
      exact ⟨M2, rfl, p2, f1.tr f2⟩
