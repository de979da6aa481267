/-! ===== what holds of the model's state ===== -/
theorem nd_le : ∀ (n : Nat) (l : List Nat), l.Nodup → (∀ x, x ∈ l → x < n) → l.length ≤ n := by
  intro n
  induction n with
  | zero =>
    intro l _ h
    cases l with
    | nil => exact Nat.le_refl _
    | cons a r => exact absurd (h a (by simp)) (by omega)
  | succ n ih =>
    intro l hd h
    by_cases c : n ∈ l
    · have h1 := ih (l.erase n) (hd.erase n) (fun x hx => by
        have h2 := (hd.mem_erase_iff.mp hx)
        have h3 := h x h2.2
        have h4 := h2.1
        omega)
      have h5 := List.length_erase_of_mem c
      omega
    · have h1 := ih l hd (fun x hx => by
        have h3 := h x hx
        have h4 : x ≠ n := fun e => c (e ▸ hx)
        omega)
      omega
theorem ahd_t {s v s' v' s'' v'' : Int32} (h : ahd s v s' v' = true) (h' : ahd s' v' s'' v'' = true) : ahd s v s'' v'' = true := by
  unfold ahd at *
  have q := of_decide_eq_true h
  have q' := of_decide_eq_true h'
  clear h h'
  refine decide_eq_true ?_
  simp only [Int32.lt_iff_toInt_lt, ← Int32.toInt_inj] at *
  omega
theorem ahd_tot {s v s' v' : Int32} (h : ahd s v s' v' = false) (hne : ¬ (s = s' ∧ v = v')) : ahd s' v' s v = true := by
  unfold ahd at *
  have q := of_decide_eq_false h
  clear h
  refine decide_eq_true ?_
  simp only [Int32.lt_iff_toInt_lt, ← Int32.toInt_inj] at *
  omega
theorem ahd_ir (s v : Int32) : ahd s v s v = false := by
  unfold ahd
  refine decide_eq_false ?_
  rintro (h | ⟨_, h⟩)
  · exact Int32.lt_irrefl h
  · exact Int32.lt_irrefl h
theorem ahd_as {s v s' v' : Int32} (h : ahd s v s' v' = true) : ahd s' v' s v = false := by
  cases c : ahd s' v' s v
  · rfl
  · have := ahd_t h c
    rw [ahd_ir] at this
    exact absurd this (by decide)
def aw (x y : Wtr) : Prop := ahd x.2 (nI x.1) y.2 (nI y.1) = true
/-- those that wait: by turns, each node once -/
def Wok (N A : Nat) (l : List Wtr) : Prop := l.Pairwise aw ∧ (l.map Prod.fst).Nodup ∧ ∀ w, w ∈ l → w.1 < N ∧ ∃ s, s ≤ A ∧ w.2 = nI s
theorem Wok.len {N A : Nat} {l : List Wtr} (h : Wok N A l) : l.length ≤ N := by
  have := nd_le N (l.map Prod.fst) h.2.1 (fun x hx => by
    obtain ⟨w, hw, rfl⟩ := List.mem_map.mp hx
    exact (h.2.2 w hw).1)
  rwa [List.length_map] at this
theorem Wok.tl {N A : Nat} {w : Wtr} {l : List Wtr} (h : Wok N A (w :: l)) : Wok N A l :=
  ⟨(List.pairwise_cons.mp h.1).2, by have := h.2.1; rw [List.map_cons] at this; exact (List.nodup_cons.mp this).2, fun x hx => h.2.2 x (List.mem_cons_of_mem _ hx)⟩
theorem Srt_of {v : Nat} {s : Int32} : ∀ {l : List Wtr}, l.Pairwise aw → Srt v s l := by
  intro l
  induction l with
  | nil => intro _ x hx; simp [spl] at hx
  | cons w r ih =>
    intro h x hx
    unfold spl at hx
    by_cases c : ahw v s w = true
    · rw [if_pos c] at hx
      rcases List.mem_cons.mp hx with rfl | hx
      · exact c
      · exact ahd_t c ((List.pairwise_cons.mp h).1 x hx)
    · rw [if_neg c] at hx
      exact ih (List.pairwise_cons.mp h).2 x hx
theorem ins_perm {v : Nat} {s : Int32} {l : List Wtr} {x : Wtr} : x ∈ ins v s l ↔ x = (v, s) ∨ x ∈ l := by
  refine ⟨ins_mem, fun h => ?_⟩
  unfold ins
  rcases h with rfl | h
  · simp
  · rw [← spl_ap (ahw v s) l] at h
    rcases List.mem_append.mp h with h | h
    · exact List.mem_append_left _ h
    · exact List.mem_append_right _ (List.mem_cons_of_mem _ h)
theorem ins_Wok {N A v s : Nat} {l : List Wtr} (h : Wok N A l) (hv : v < N) (h16 : N ≤ 16) (hs : s ≤ A) (hn : v ∉ l.map Prod.fst) : Wok N A (ins v (nI s) l) := by
  have hsp := spl_ap (ahw v (nI s)) l
  have hsrt := Srt_of (v := v) (s := nI s) h.1
  have h1 := spl_1 (ahw v (nI s)) l
  refine ⟨?_, ?_, fun w hw => ?_⟩
  · unfold ins
    have hp : ((spl (ahw v (nI s)) l).1 ++ (spl (ahw v (nI s)) l).2).Pairwise aw := by rw [hsp]; exact h.1
    rw [List.pairwise_append] at hp ⊢
    refine ⟨hp.1, List.pairwise_cons.mpr ⟨fun y hy => hsrt y hy, hp.2.1⟩, fun x hx y hy => ?_⟩
    rcases List.mem_cons.mp hy with rfl | hy
    · refine ahd_tot (h1 x hx) (fun q => ?_)
      have hxl : x ∈ l := by rw [← hsp]; exact List.mem_append_left _ hx
      have := (h.2.2 x hxl).1
      have e : v = x.1 := (nI_eq (by omega) (by omega)).mp q.2
      exact hn (by rw [e]; exact List.mem_map_of_mem hxl)
    · exact hp.2.2 x hx y hy
  · unfold ins
    have hp : ((spl (ahw v (nI s)) l).1.map Prod.fst ++ (spl (ahw v (nI s)) l).2.map Prod.fst).Nodup := by rw [← List.map_append, hsp]; exact h.2.1
    have hn2 : v ∉ (spl (ahw v (nI s)) l).1.map Prod.fst ++ (spl (ahw v (nI s)) l).2.map Prod.fst := by rw [← List.map_append, hsp]; exact hn
    rw [List.mem_append, not_or] at hn2
    rw [List.map_append, List.map_cons]
    rw [List.nodup_append] at hp ⊢
    refine ⟨hp.1, List.nodup_cons.mpr ⟨hn2.2, hp.2.1⟩, fun a ha b hb => ?_⟩
    rcases List.mem_cons.mp hb with rfl | hb
    · exact fun e => hn2.1 (e ▸ ha)
    · exact hp.2.2 a ha b hb
  · rcases ins_mem hw with rfl | hw
    · exact ⟨hv, s, hs, rfl⟩
    · exact h.2.2 w hw
theorem gone_sub {v : Nat} {s : Int32} {l : List Wtr} : (gone v s l).Sublist l := by
  induction l with
  | nil => exact List.Sublist.refl _
  | cons w r ih =>
    unfold gone
    by_cases c : w = (v, s)
    · rw [if_pos c]; exact List.sublist_cons_self _ _
    · rw [if_neg c]; exact ih.cons₂ _
theorem Wok.sub {N A : Nat} {l l' : List Wtr} (h : Wok N A l) (q : l'.Sublist l) : Wok N A l' :=
  ⟨h.1.sublist q, h.2.1.sublist (q.map _), fun w hw => h.2.2 w (q.subset hw)⟩
/-- the stamp by which v waits -/
def engW (l : List Wtr) (v : Nat) : Option Int32 := match l with
  | [] => none
  | w :: r => if w.1 = v then some w.2 else engW r v
theorem engW_none {l : List Wtr} {v : Nat} : engW l v = none ↔ v ∉ l.map Prod.fst := by
  induction l with
  | nil => simp [engW]
  | cons w r ih =>
    unfold engW
    rw [List.map_cons, List.mem_cons, not_or]
    by_cases c : w.1 = v
    · rw [if_pos c]; simp [c]
    · rw [if_neg c, ih]; exact ⟨fun h => ⟨fun e => c e.symm, h⟩, fun h => h.2⟩
theorem engW_some {l : List Wtr} {v : Nat} {s : Int32} (hd : (l.map Prod.fst).Nodup) : engW l v = some s ↔ (v, s) ∈ l := by
  induction l with
  | nil => simp [engW]
  | cons w r ih =>
    rw [List.map_cons] at hd
    have hd2 := List.nodup_cons.mp hd
    unfold engW
    by_cases c : w.1 = v
    · rw [if_pos c]
      constructor
      · intro h
        have : w = (v, s) := Prod.ext c (Option.some.inj h)
        rw [this]; simp
      · intro h
        rcases List.mem_cons.mp h with h | h
        · rw [← h]
        · exact absurd (List.mem_map_of_mem (f := Prod.fst) h) (by rw [← c]; exact hd2.1)
    · rw [if_neg c, ih hd2.2]
      constructor
      · intro h; exact List.mem_cons_of_mem _ h
      · intro h
        rcases List.mem_cons.mp h with h | h
        · exact absurd (congrArg Prod.fst h).symm c
        · exact h
def eng (S : St) (a v : Nat) : Option Int32 := if xR S 8 a = nI v then some (xR S 9 a) else engW (xW S a) v
theorem engW_ins {N A v s : Nat} {l : List Wtr} (h : Wok N A l) (hv : v < N) (h16 : N ≤ 16) (hs : s ≤ A) (hn : v ∉ l.map Prod.fst) (u : Nat) : engW (ins v (nI s) l) u = if u = v then some (nI s) else engW l u := by
  have hd := (ins_Wok h hv h16 hs hn).2.1
  by_cases c : u = v
  · rw [if_pos c, engW_some hd, c]; exact ins_perm.mpr (Or.inl rfl)
  · rw [if_neg c]
    cases e : engW l u with
    | none =>
      rw [engW_none] at e ⊢
      intro q
      obtain ⟨w, hw, rfl⟩ := List.mem_map.mp q
      rcases ins_mem hw with rfl | hw
      · exact c rfl
      · exact e (List.mem_map_of_mem hw)
    | some z =>
      rw [engW_some h.2.1] at e
      rw [engW_some hd]
      exact ins_perm.mpr (Or.inr e)
theorem engW_gone {l : List Wtr} (hd : (l.map Prod.fst).Nodup) {v : Nat} {s : Int32} (hm : engW l v = some s) (u : Nat) : engW (gone v s l) u = if u = v then none else engW l u := by
  induction l with
  | nil => simp [engW] at hm
  | cons w r ih =>
    rw [List.map_cons] at hd
    have hd2 := List.nodup_cons.mp hd
    unfold gone
    by_cases c : w = (v, s)
    · rw [if_pos c]
      subst c
      by_cases q : u = v
      · rw [if_pos q, engW_none, q]; exact hd2.1
      · rw [if_neg q]
        conv => rhs; unfold engW
        rw [if_neg (fun e => q e.symm)]
    · rw [if_neg c]
      have hm2 : w.1 ≠ v := by
        intro e
        unfold engW at hm
        rw [if_pos e] at hm
        exact c (Prod.ext e (Option.some.inj hm))
      have hm3 : engW r v = some s := by
        unfold engW at hm
        rwa [if_neg hm2] at hm
      have := ih hd2.2 hm3
      unfold engW
      by_cases q : w.1 = u
      · rw [if_pos q, if_pos q, if_neg (fun e => hm2 (q.trans e))]
      · rw [if_neg q, if_neg q]; exact this
theorem gone_id {l : List Wtr} {v : Nat} {s : Int32} (h : (v, s) ∉ l) : gone v s l = l := by
  induction l with
  | nil => rfl
  | cons w r ih =>
    unfold gone
    rw [if_neg (fun e => h (by rw [e]; simp)), ih (fun q => h (List.mem_cons_of_mem _ q))]
/-- a lane's REQUESTs and RELEASEs, from what the arbiter knows on -/
def run : Option Int32 → List Ltr → Option (Option Int32)
  | e, [] => some e
  | e, x :: r => if x.1 = nI 0 then (if e = none then run (some x.2.1) r else none) else if x.1 = nI 5 then (if e = some x.2.1 then run none r else none) else run e r
theorem run_ap (r : List Ltr) (x : Ltr) : ∀ e, run e (r ++ [x]) = (run e r).bind fun e' => run e' [x] := by
  induction r with
  | nil => intro e; rfl
  | cons y r ih =>
    intro e
    rw [List.cons_append]
    unfold run
    split
    · split
      · exact ih _
      · rfl
    · split
      · split
        · exact ih _
        · rfl
      · exact ih _
theorem run_other {e : Option Int32} {x : Ltr} (h0 : ¬ x.1 = nI 0) (h5 : ¬ x.1 = nI 5) : run e [x] = some e := by
  unfold run
  rw [if_neg h0, if_neg h5]; rfl
theorem run_req {s : Int32} {t : Int32} : run none [(nI 0, s, t)] = some (some s) := by
  unfold run
  rw [if_pos rfl, if_pos rfl]; rfl
theorem run_rel {s : Int32} {t : Int32} : run (some s) [(nI 5, s, t)] = some none := by
  unfold run
  rw [if_neg (show ¬ nI 5 = nI 0 by decide), if_pos rfl, if_pos rfl]; rfl
/-- v's asking at a that isn't over -/
def opn (S : St) (v a : Nat) : Option Int32 := if xR S 0 v ≠ 0 ∧ bt (xR S 3 v) a = true then some (xR S 2 v) else none
/-- s is a stamp of v's; of its latest, while it asks, only at those in use -/
def Zok (S : St) (v a : Nat) (s : Int32) : Prop := ∃ n m, s = nI n ∧ xR S 2 v = nI m ∧ n ≤ m ∧ m < 1048576 ∧ (n = m → xR S 0 v = 1 → bt (xR S 3 v) a = true)
/-- what holds of S, but that of v0 at a0 the arbiter's part is e0 -/
def oe (S : St) (v0 a0 : Nat) (e0 : Option Int32) (v a : Nat) : Option Int32 := if v = v0 ∧ a = a0 then e0 else eng S a v
def IA (N : Nat) (S : St) : Prop := ∀ v, v < 16 → (xR S 0 v = 0 ∨ xR S 0 v = 1 ∨ xR S 0 v = 2) ∧ (N ≤ v → xR S 0 v = 0) ∧ (xR S 7 v = 0 ∨ xR S 7 v = 1) ∧ (xR S 10 v = 0 ∨ xR S 10 v = 1)
def IB (N : Nat) (S : St) : Prop := ∀ v, v < 16 → ∀ i, N ≤ i → i < 32 → bt (xR S 3 v) i = false
def IC (S : St) : Prop := ∀ v, v < 16 → xR S 0 v = 1 → ∀ i, i < 32 → (bt (xR S 4 v) i = true → bt (xR S 3 v) i = true) ∧ (bt (xR S 5 v) i = true → bt (xR S 3 v) i = true)
def ID (A : Nat) (S : St) : Prop := ∀ v, v < 16 → ∃ c m, c ≤ A ∧ m ≤ c ∧ xR S 1 v = nI c ∧ xR S 2 v = nI m
def IE (N A : Nat) (S : St) : Prop := ∀ l, l < 256 → (∀ x, x ∈ xL S l → (∃ k, k < 6 ∧ x.1 = nI k) ∧ ∃ s, s ≤ A ∧ x.2.1 = nI s) ∧ (¬ (l / 16 < N ∧ l % 16 < N) → xL S l = [])
def IF (N A : Nat) (S : St) : Prop := ∀ a, a < 16 → Wok N A (xW S a) ∧ (N ≤ a → xW S a = []) ∧ ((xR S 8 a = -1 ∧ xR S 9 a = 0 ∧ xR S 10 a = 0) ∨ ∃ g, g < N ∧ xR S 8 a = nI g ∧ g ∉ (xW S a).map Prod.fst ∧ ∃ s, s ≤ A ∧ xR S 9 a = nI s)
def IG (N : Nat) (S : St) (v0 a0 : Nat) (e0 : Option Int32) : Prop := ∀ v, v < N → ∀ a, a < N → run (oe S v0 a0 e0 v a) (xL S (16 * v + a)) = some (opn S v a)
def IH (N : Nat) (S : St) (v0 a0 : Nat) (e0 : Option Int32) : Prop := ∀ v, v < N → ∀ a, a < N → (∀ s, oe S v0 a0 e0 v a = some s → Zok S v a s) ∧ (∀ x, x ∈ xL S (16 * v + a) → x.1 = nI 0 → Zok S v a x.2.1) ∧ (∀ x, x ∈ xL S (16 * a + v) → (x.1 = nI 1 ∨ x.1 = nI 2 ∨ x.1 = nI 3) → Zok S v a x.2.1)
def InvG (N A : Nat) (S : St) (v0 a0 : Nat) (e0 : Option Int32) : Prop := IA N S ∧ IB N S ∧ IC S ∧ ID A S ∧ IE N A S ∧ IF N A S ∧ IG N S v0 a0 e0 ∧ IH N S v0 a0 e0
def Inv (N A : Nat) (S : St) : Prop := InvG N A S 99 99 none
theorem oe_99 {S : St} {e0 : Option Int32} {v a : Nat} (hv : v < 16) : oe S 99 99 e0 v a = eng S a v := by
  unfold oe
  rw [if_neg (by omega)]
theorem oe_id {S : St} {v0 a0 v a : Nat} : oe S v0 a0 (eng S a0 v0) v a = eng S a v := by
  unfold oe
  by_cases c : v = v0 ∧ a = a0
  · rw [if_pos c, c.1, c.2]
  · rw [if_neg c]
theorem InvG.id {N A : Nat} {S : St} {v0 a0 : Nat} (h16 : N ≤ 16) : InvG N A S v0 a0 (eng S a0 v0) ↔ Inv N A S := by
  have e : ∀ v, v < N → ∀ a, oe S v0 a0 (eng S a0 v0) v a = oe S 99 99 none v a := fun v hv a => by rw [oe_id, oe_99 (by omega)]
  unfold Inv InvG IG IH
  constructor
  · rintro ⟨a, b, c, d, f, g, i, j⟩
    exact ⟨a, b, c, d, f, g, fun v hv a ha => (e v hv a) ▸ i v hv a ha, fun v hv a ha => (e v hv a) ▸ j v hv a ha⟩
  · rintro ⟨a, b, c, d, f, g, i, j⟩
    exact ⟨a, b, c, d, f, g, fun v hv a ha => (e v hv a).symm ▸ i v hv a ha, fun v hv a ha => (e v hv a).symm ▸ j v hv a ha⟩
