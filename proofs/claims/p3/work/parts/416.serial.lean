/-! ===== alike states are written alike, and none else ===== -/
theorem fm_inj {α β : Type} {g g' : α → List β} : ∀ (ws : List α) (R R' : List β), (∀ v, v ∈ ws → ∀ r r', g v ++ r = g' v ++ r' → g v = g' v) → ws.flatMap g ++ R = ws.flatMap g' ++ R' → (∀ v, v ∈ ws → g v = g' v) ∧ R = R' := by
  intro ws
  induction ws with
  | nil => intro R R' _ h; exact ⟨fun v hv => by simp at hv, h⟩
  | cons w ws ih =>
    intro R R' hp h
    rw [List.flatMap_cons, List.flatMap_cons, List.append_assoc, List.append_assoc] at h
    have e := hp w (by simp) _ _ h
    rw [e] at h
    have h2 := List.append_cancel_left h
    obtain ⟨a, b⟩ := ih R R' (fun v hv => hp v (List.mem_cons_of_mem _ hv)) h2
    refine ⟨fun v hv => ?_, b⟩
    rcases List.mem_cons.mp hv with z | z
    · rw [z]; exact e
    · exact a v z
theorem ap_len {β : Type} {a a' r r' : List β} (h : a ++ r = a' ++ r') (hl : a.length = a'.length) : a = a' := (List.append_inj h hl).1
theorem Wok_eq {N A A' : Nat} : ∀ {l m : List Wtr}, Wok N A l → Wok N A' m → (∀ x, x ∈ l ↔ x ∈ m) → l = m := by
  intro l
  induction l with
  | nil =>
    intro m _ _ h
    cases m with
    | nil => rfl
    | cons y m => exact absurd ((h y).mpr (by simp)) (by simp)
  | cons x l ih =>
    intro m hl hm h
    cases m with
    | nil => exact absurd ((h x).mp (by simp)) (by simp)
    | cons y m =>
      have e : x = y := by
        rcases List.mem_cons.mp ((h x).mp (by simp)) with z | z
        · exact z
        · rcases List.mem_cons.mp ((h y).mpr (by simp)) with z' | z'
          · exact z'.symm
          · have a1 := (List.pairwise_cons.mp hl.1).1 y z'
            have a2 := (List.pairwise_cons.mp hm.1).1 x z
            unfold aw at a1 a2
            rw [ahd_as a1] at a2
            exact absurd a2 (by decide)
      subst e
      have nx : ∀ {l : List Wtr} {A : Nat}, Wok N A (x :: l) → x ∉ l := fun h z => by
        have := h.2.1
        rw [List.map_cons, List.nodup_cons] at this
        exact this.1 (List.mem_map.mpr ⟨x, z, rfl⟩)
      rw [ih hl.tl hm.tl (fun z => ?_)]
      constructor
      · intro hz
        rcases List.mem_cons.mp ((h z).mp (List.mem_cons_of_mem _ hz)) with q | q
        · exact absurd (q ▸ hz) (nx hl)
        · exact q
      · intro hz
        rcases List.mem_cons.mp ((h z).mpr (List.mem_cons_of_mem _ hz)) with q | q
        · exact absurd (q ▸ hz) (nx hm)
        · exact q
section
variable {S S' : St} {N A A' : Nat}
theorem serP_d {v : Nat} {r r' : List Int32} (h : serP S v ++ r = serP S' v ++ r') : serP S v = serP S' v := by
  refine ap_len h ?_
  have h' := h
  unfold serP at h'
  simp only [List.cons_append, List.nil_append, List.cons.injEq] at h'
  have e : wms S v = wms S' v := h'.2.2.2.2.2.2.2.2.2.1
  unfold serP
  rw [List.length_append, List.length_append, List.length_map, List.length_map, e]
  rfl
theorem serL_d {l : Nat} (h1 : (xL S l).length < 2 ^ 31) (h2 : (xL S' l).length < 2 ^ 31) {r r' : List Int32} (h : serL S l ++ r = serL S' l ++ r') : serL S l = serL S' l := by
  refine ap_len h ?_
  unfold serL at h ⊢
  rw [List.cons_append, List.cons_append] at h
  have := (List.cons.inj h).1
  have := (nI_eq h1 h2).mp this
  rw [List.length_cons, List.length_cons, List.length_map, List.length_map, this]
theorem serF_d {f : Nat} (h16 : N ≤ 16) (hf : f < 16) (hl : ∀ l, l < 256 → (xL S l).length < 2 ^ 31 ∧ (xL S' l).length < 2 ^ 31) {r r' : List Int32} (h : serF N S f ++ r = serF N S' f ++ r') : serF N S f = serF N S' f := by
  unfold serF at h ⊢
  rw [List.cons_append, List.cons_append] at h
  obtain ⟨h1, h2⟩ := List.cons.inj h
  unfold serG at h2 ⊢
  rw [h1] at h2 ⊢
  congr 1
  have mb : ∀ g, g ∈ (List.range' 0 N).filter (fun g => bt (bms S' f) g) → 16 * f + g < 256 := fun g hg => by
    have := List.mem_range'_1.mp (List.mem_filter.mp hg).1
    omega
  obtain ⟨a, _⟩ := fm_inj _ _ _ (fun g hg r r' z => serL_d (hl _ (mb g hg)).1 (hl _ (mb g hg)).2 z) h2
  exact fm_cg _ a
theorem encC_inj {x y : Ltr} (hx : Lok x) (hy : Lok y) (h : encC x = encC y) : lk x = lk y := by
  obtain ⟨⟨k, hk, ek⟩, s, hs, es⟩ := hx
  obtain ⟨⟨k', hk', ek'⟩, s', hs', es'⟩ := hy
  have a := encC_kind (show k < 8 by omega) ek
  have a' := encC_kind (show k' < 8 by omega) ek'
  have b := encC_stamp (show k < 8 by omega) ek hs es
  have b' := encC_stamp (show k' < 8 by omega) ek' hs' es'
  rw [h] at a b
  unfold lk
  rw [ek, ek', a.symm.trans a', es, es', b.symm.trans b']
theorem encC_c {x y : Ltr} (h : lk x = lk y) : encC x = encC y := by
  unfold lk at h
  obtain ⟨a, b⟩ := Prod.mk.inj h
  unfold encC
  rw [a, b]
theorem ser_c (h : SE S S') (h16 : N ≤ 16) : ser N S = ser N S' := by
  have e0 : ∀ q, mkS S q = mkS S' q := fun q => by
    apply b_ext
    intro i hi
    rw [mkS_b hi, mkS_b hi]
    by_cases c : i < 16
    · rw [h.1 0 i (by omega) c]
    · simp [c]
  have eP : ∀ v, v < 16 → serP S v = serP S' v := fun v hv => by
    have ew := h.2.1 v hv
    have e1 : wms S v = wms S' v := by unfold wms; rw [ew]
    have e2 : wst S v = wst S' v := by funext u; unfold wst; rw [ew]
    unfold serP
    rw [e1, e2, h.1 1 v (by omega) hv, h.1 2 v (by omega) hv, h.1 3 v (by omega) hv, h.1 4 v (by omega) hv, h.1 5 v (by omega) hv, h.1 6 v (by omega) hv, h.1 8 v (by omega) hv, h.1 9 v (by omega) hv, h.1 10 v (by omega) hv]
  have eB : ∀ f, f < 16 → bms S f = bms S' f := fun f hf => by
    apply b_ext
    intro i hi
    rw [bms_b hi, bms_b hi]
    by_cases c : i < 16
    · have := h.2.2 (16 * f + i) (by omega)
      have e : (xL S (16 * f + i) ≠ []) ↔ (xL S' (16 * f + i) ≠ []) := by
        constructor
        · intro z y
          rw [y] at this
          exact z (List.map_eq_nil_iff.mp this)
        · intro z y
          rw [y] at this
          exact z (List.map_eq_nil_iff.mp this.symm)
      simp [c, e]
    · simp [c]
  have eL : ∀ l, l < 256 → serL S l = serL S' l := fun l hl => by
    have := h.2.2 l hl
    have ln : (xL S l).length = (xL S' l).length := by
      have := congrArg List.length this
      rwa [List.length_map, List.length_map] at this
    unfold serL
    rw [ln]
    congr 1
    have g : ∀ l : List Ltr, l.map encC = (l.map lk).map (fun y => (y.2 <<< ((3 : Int32) &&& 31)) ||| y.1) := fun l => by rw [List.map_map]; rfl
    rw [g, g, this]
  have eF : ∀ f, f < N → serF N S f = serF N S' f := fun f hf => by
    unfold serF serG
    rw [eB f (by omega)]
    congr 1
    refine fm_cg _ (fun g hg => ?_)
    have := List.mem_range'_1.mp (List.mem_filter.mp hg).1
    exact eL _ (by omega)
  unfold ser
  rw [e0, e0]
  congr 3
  · exact fm_cg _ (fun v hv => eP v (by have := List.mem_range'_1.mp hv; omega))
  · exact fm_cg _ (fun v hv => eF v (by have := List.mem_range'_1.mp hv; omega))
theorem ln_l {S : St} {l : Nat} (hl : l < 256) (h : (fl S).length ≤ 9000) : (xL S l).length ≤ 9000 := by
  have := fl_split S hl
  have := congrArg List.length this
  simp only [List.length_append, List.length_map] at this
  omega
set_option maxHeartbeats 1000000 in
theorem ser_i (h : ser N S = ser N S') (h16 : N ≤ 16) (hI : Inv N A S) (hI' : Inv N A' S') (hA : A < 1048576) (hA' : A' < 1048576) (hq : Qk S S') (hk : Kn N S S') (hl : ∀ l, l < 256 → (xL S l).length < 2 ^ 31 ∧ (xL S' l).length < 2 ^ 31) : SE S S' := by
  unfold ser at h
  obtain ⟨m2, h⟩ := List.cons.inj h
  obtain ⟨m1, h⟩ := List.cons.inj h
  obtain ⟨hP, h⟩ := fm_inj _ _ _ (fun v _ r r' z => serP_d z) h
  have h' : (List.range' 0 N).flatMap (serF N S) ++ [] = (List.range' 0 N).flatMap (serF N S') ++ [] := by rw [List.append_nil, List.append_nil]; exact h
  obtain ⟨hF, _⟩ := fm_inj _ _ _ (fun v hv r r' z => serF_d h16 (by have := List.mem_range'_1.mp hv; omega) hl z) h'
  have mem : ∀ v, v < N → v ∈ List.range' 0 N := fun v hv => List.mem_range'_1.mpr ⟨Nat.zero_le _, by omega⟩
  have w16 : ∀ {S : St} {A : Nat}, Inv N A S → ∀ v, v < 16 → ∀ w, w ∈ xW S v → w.1 < 16 := fun hI v hv w hw => by have := ((hI.2.2.2.2.2.1 v hv).1.2.2 w hw).1; omega
  have r0 : ∀ v, v < 16 → xR S 0 v = xR S' 0 v := fun v hv => by
    have a2 := mkS_b (S := S) (q := 2) (u := v) (by omega)
    have b2 := mkS_b (S := S') (q := 2) (u := v) (by omega)
    rw [m2, b2] at a2
    have a1 := mkS_b (S := S) (q := 1) (u := v) (by omega)
    have b1 := mkS_b (S := S') (q := 1) (u := v) (by omega)
    rw [m1, b1] at a1
    have i0 := (hI.1 v hv).1
    have i0' := (hI'.1 v hv).1
    rcases i0 with z | z | z <;> rcases i0' with y | y | y <;> rw [z, y] at a1 a2 ⊢ <;> simp [hv] at a1 a2
  have pv : ∀ v, v < N → (xR S 1 v = xR S' 1 v ∧ xR S 2 v = xR S' 2 v ∧ xR S 3 v = xR S' 3 v ∧ xR S 4 v = xR S' 4 v ∧ xR S 5 v = xR S' 5 v ∧ xR S 6 v = xR S' 6 v ∧ xR S 8 v = xR S' 8 v ∧ (if xR S 8 v = -1 then -1 else xR S 9 v) = (if xR S' 8 v = -1 then -1 else xR S' 9 v) ∧ xR S 10 v = xR S' 10 v ∧ wms S v = wms S' v ∧ (ms (wms S v)).map (wst S v) = (ms (wms S' v)).map (wst S' v)) := fun v hv => by
    have := hP v (mem v hv)
    unfold serP at this
    simpa only [List.cons_append, List.nil_append, List.cons.injEq] using this
  refine ⟨fun k i hk' hi => ?_, fun a ha => ?_, fun l hl' => ?_⟩
  · by_cases c : i < N
    · obtain ⟨p1, p2, p3, p4, p5, p6, p8, p9, p10, _⟩ := pv i c
      rcases (show k = 0 ∨ k = 1 ∨ k = 2 ∨ k = 3 ∨ k = 4 ∨ k = 5 ∨ k = 6 ∨ k = 7 ∨ k = 8 ∨ k = 9 ∨ k = 10 ∨ k = 17 ∨ k = 20 by omega) with rfl | rfl | rfl | rfl | rfl | rfl | rfl | rfl | rfl | rfl | rfl | rfl | rfl
      · exact r0 i hi
      · exact p1
      · exact p2
      · exact p3
      · exact p4
      · exact p5
      · exact p6
      · exact (hq 7 (by omega) i).symm
      · exact p8
      · have f := (hI.2.2.2.2.2.1 i hi).2.2
        have f' := (hI'.2.2.2.2.2.1 i hi).2.2
        by_cases z : xR S 8 i = -1
        · have z' : xR S' 8 i = -1 := by rw [← p8]; exact z
          have a : xR S 9 i = 0 := by
            rcases f with y | ⟨g, g1, g2, _⟩
            · exact y.2.1
            · rw [z] at g2; exact absurd g2 (m1_ne (by omega))
          have a' : xR S' 9 i = 0 := by
            rcases f' with y | ⟨g, g1, g2, _⟩
            · exact y.2.1
            · rw [z'] at g2; exact absurd g2 (m1_ne (by omega))
          rw [a, a']
        · have z' : ¬ xR S' 8 i = -1 := by rw [← p8]; exact z
          rwa [if_neg z, if_neg z'] at p9
      · exact p10
      · exact (hq 17 (by omega) i).symm
      · exact (hq 20 (by omega) i).symm
    · rcases hk' with z | z | z
      · exact (hk k z i (by omega)).symm
      · exact (hq k (by omega) i).symm
      · exact (hq k (by omega) i).symm
  · by_cases c : a < N
    · obtain ⟨_, _, _, _, _, _, _, _, _, pm, ps⟩ := pv a c
      have W := (hI.2.2.2.2.2.1 a ha).1
      have W' := (hI'.2.2.2.2.2.1 a ha).1
      have key : ∀ u, u < 16 → (u ∈ (xW S a).map Prod.fst ↔ u ∈ (xW S' a).map Prod.fst) := fun u hu => by
        have b := wms_b (S := S) (v := a) (u := u) (by omega) (w16 hI a ha)
        have b' := wms_b (S := S') (v := a) (u := u) (by omega) (w16 hI' a ha)
        rw [pm, b'] at b
        have := decide_eq_decide.mp b
        exact this.symm
      rw [← pm] at ps
      have st := List.map_inj_left.mp ps
      have one : ∀ {S S' : St} {A A' : Nat}, Inv N A S → Inv N A' S' → (∀ u, u < 16 → (u ∈ (xW S a).map Prod.fst → u ∈ (xW S' a).map Prod.fst)) → (∀ u, u < 16 → u ∈ (xW S a).map Prod.fst → wst S a u = wst S' a u) → ∀ x, x ∈ xW S a → x ∈ xW S' a := by
        intro S S' A A' hI hI' hm hs x hx
        have x16 := w16 hI a ha x hx
        have hu : x.1 ∈ (xW S a).map Prod.fst := List.mem_map.mpr ⟨x, hx, rfl⟩
        obtain ⟨y, y1, y2, y3⟩ := wst_e (hm x.1 x16 hu)
        obtain ⟨z, z1, z2, z3⟩ := wst_e hu
        have nd := (hI.2.2.2.2.2.1 a ha).1.2.1
        have ez : z = x := by
          have a1 := (engW_some (l := xW S a) (v := x.1) (s := z.2) nd).mpr (by rw [← z2]; exact z1)
          have a2 := (engW_some (l := xW S a) (v := x.1) (s := x.2) nd).mpr hx
          rw [a1] at a2
          exact Prod.ext z2 (Option.some.inj a2)
        have : y = x := Prod.ext y2 (by rw [← y3, ← hs x.1 x16 hu, z3, ez])
        rw [← this]; exact y1
      have inms : ∀ u, u < 16 → u ∈ (xW S a).map Prod.fst → u ∈ ms (wms S a) := fun u hu z => by
        unfold ms
        rw [List.mem_filter]
        exact ⟨List.mem_range.mpr hu, by rw [wms_b (by omega) (w16 hI a ha)]; exact decide_eq_true z⟩
      refine Wok_eq W W' (fun x => ⟨one hI hI' (fun u hu => (key u hu).mp) (fun u hu z => st u (inms u hu z)) x, one hI' hI (fun u hu => (key u hu).mpr) (fun u hu z => (st u (inms u hu ((key u hu).mpr z))).symm) x⟩)
    · rw [(hI.2.2.2.2.2.1 a ha).2.1 (by omega), (hI'.2.2.2.2.2.1 a ha).2.1 (by omega)]
  · by_cases c : l / 16 < N ∧ l % 16 < N
    · have hf := hF (l / 16) (mem _ c.1)
      unfold serF at hf
      obtain ⟨eb, hg⟩ := List.cons.inj hf
      unfold serG at hg
      rw [eb] at hg
      have hg' : ((List.range' 0 N).filter fun g => bt (bms S' (l / 16)) g).flatMap (fun g => serL S (16 * (l / 16) + g)) ++ [] = ((List.range' 0 N).filter fun g => bt (bms S' (l / 16)) g).flatMap (fun g => serL S' (16 * (l / 16) + g)) ++ [] := by rw [List.append_nil, List.append_nil]; exact hg
      have mb : ∀ g, g ∈ (List.range' 0 N).filter (fun g => bt (bms S' (l / 16)) g) → 16 * (l / 16) + g < 256 := fun g hg => by
        have := List.mem_range'_1.mp (List.mem_filter.mp hg).1
        omega
      obtain ⟨hL, _⟩ := fm_inj _ _ _ (fun g hg r r' z => serL_d (hl _ (mb g hg)).1 (hl _ (mb g hg)).2 z) hg'
      have b := bms_b (S := S) (f := l / 16) (u := l % 16) (by omega)
      have b' := bms_b (S := S') (f := l / 16) (u := l % 16) (by omega)
      rw [eb, b'] at b
      rw [show 16 * (l / 16) + l % 16 = l by omega] at b b'
      by_cases z : xL S' l = []
      · have : xL S l = [] := by
          have := decide_eq_decide.mp b
          by_cases y : xL S l = []
          · exact y
          · exact absurd z (this.mpr ⟨by omega, y⟩).2
        rw [z, this]
      · have hin : l % 16 ∈ (List.range' 0 N).filter fun g => bt (bms S' (l / 16)) g := by
          rw [List.mem_filter]
          exact ⟨mem _ c.2, by rw [b']; exact decide_eq_true ⟨by omega, z⟩⟩
        have e := hL _ hin
        rw [show 16 * (l / 16) + l % 16 = l by omega] at e
        unfold serL at e
        have em := (List.cons.inj e).2
        have gen : ∀ (a b : List Ltr), (∀ x, x ∈ a → Lok x) → (∀ x, x ∈ b → Lok x) → a.map encC = b.map encC → a.map lk = b.map lk := by
          intro a
          induction a with
          | nil => intro b _ _ h; rw [List.map_nil] at h; rw [List.map_eq_nil_iff.mp h.symm]
          | cons x a ih =>
            intro b ha hb h
            cases b with
            | nil => cases h
            | cons y b =>
              rw [List.map_cons, List.map_cons] at h ⊢
              obtain ⟨h1, h2⟩ := List.cons.inj h
              rw [encC_inj (ha x (by simp)) (hb y (by simp)) h1, ih b (fun z hz => ha z (List.mem_cons_of_mem _ hz)) (fun z hz => hb z (List.mem_cons_of_mem _ hz)) h2]
        exact gen _ _ (fun x hx => Lok_of hI hA hl' hx) (fun x hx => Lok_of hI' hA' hl' hx) em
    · rw [(hI.2.2.2.2.1 l hl').2 c, (hI'.2.2.2.2.1 l hl').2 c]
end
