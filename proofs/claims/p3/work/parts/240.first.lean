/-! ===== the class: who waits first ===== -/
theorem nd_eq : ∀ {l : List Wtr}, (l.map Prod.fst).Nodup → ∀ {a b : Wtr}, a ∈ l → b ∈ l → a.1 = b.1 → a = b := by
  intro l
  induction l with
  | nil => intro _ a b ha; simp at ha
  | cons w r ih =>
    intro h a b ha hb e
    rw [List.map_cons] at h
    obtain ⟨h1, h2⟩ := List.nodup_cons.mp h
    rcases List.mem_cons.mp ha with ea | ha
    · rcases List.mem_cons.mp hb with eb | hb
      · rw [ea, eb]
      · exact absurd (List.mem_map.mpr ⟨b, hb, by rw [← e, ea]⟩) h1
    · rcases List.mem_cons.mp hb with eb | hb
      · exact absurd (List.mem_map.mpr ⟨a, ha, by rw [e, eb]⟩) h1
      · exact ih h2 ha hb e
def hdW (l : List Wtr) : Int32 := match l with
  | [] => -1
  | w :: _ => nI w.1
def Bst (l : List Wtr) (i : Nat) (b : Int32) : Prop := (b = -1 ∧ ∀ w, w ∈ l → i ≤ w.1) ∨ ∃ w, w ∈ l ∧ w.1 < i ∧ b = nI w.1 ∧ ∀ w', w' ∈ l → w'.1 < i → w' = w ∨ aw w w'
theorem Bst_hd {N A : Nat} {l : List Wtr} (hl : Wok N A l) (h16 : N ≤ 16) {b : Int32} (hb : Bst l 16 b) : b = hdW l := by
  cases l with
  | nil =>
    rcases hb with ⟨e, _⟩ | ⟨w, hw, _⟩
    · exact e
    · simp at hw
  | cons w0 r =>
    have h0 := hl.2.2 w0 (by simp)
    rcases hb with ⟨_, h⟩ | ⟨w, hw, _, e, h⟩
    · have := h w0 (by simp); omega
    · rcases h w0 (by simp) (by omega) with h1 | h1
      · rw [e, ← h1]; rfl
      · rcases List.mem_cons.mp hw with h2 | h2
        · rw [e, h2]; rfl
        · have h3 := (List.pairwise_cons.mp hl.1).1 w h2
          have h4 := ahd_as h3
          unfold aw at h1
          rw [h4] at h1
          exact absurd h1 (by decide)
set_option maxHeartbeats 1000000 in
theorem fw_4 {M : Mem} {h v N A : Nat} {l : List Wtr} (q : CS M h) (hv : v < 16) (hl : Wok N A l) (h16 : N ≤ 16) (hm : ∀ u, u < 32 → bt (mI M (h + 17 + 2 * v) 9) u = decide (u ∈ l.map Prod.fst)) (hs : ∀ w, w ∈ l → mI M (h + 18 + 2 * v) w.1 = w.2) : ∀ (d i : Nat) (b : Int32) (n : Nat), i + d = 16 → d + 1 ≤ n → Bst l i b → f_X4_firstWaiter_4 M n (h + 17 + 2 * v) b (nI i) = some (hdW l) := by
  intro d
  induction d with
  | zero =>
    intro i b n hi hn hb
    obtain ⟨n, rfl⟩ : ∃ m, n = m + 1 := ⟨n - 1, by omega⟩
    have : i = 16 := by omega
    subst this
    rw [f_X4_firstWaiter_4, if_pos (show (16 : Int32) ≤ nI 16 by decide), Bst_hd hl h16 hb]
  | succ d ih =>
    intro i b n hi hn hb
    obtain ⟨n, rfl⟩ : ∃ m, n = m + 1 := ⟨n - 1, by omega⟩
    rw [f_X4_firstWaiter_4, if_neg (show ¬ (16 : Int32) ≤ nI i from nI_ge (a := i) (b := 16) (by omega) (by decide)), cs_po q hv, f_has9 _ (by omega), obd_s, hm i (by omega), nI_1]
    by_cases c : i ∈ l.map Prod.fst
    · obtain ⟨w, hw, ew⟩ := List.mem_map.mp c
      rw [decide_eq_true c, if_pos rfl, if_neg (by decide)]
      have only : ∀ w', w' ∈ l → w'.1 < i + 1 → ¬ w'.1 < i → w' = w := fun w' hw' h1 h2 => nd_eq hl.2.1 hw' hw (by omega)
      rcases hb with ⟨e, hb⟩ | ⟨u, hu, ui, e, hb⟩
      · rw [if_pos e, bnd_e]
        refine ih (i + 1) _ n (by omega) (by omega) (Or.inr ⟨w, hw, by omega, by rw [ew], fun w' hw' h1 => ?_⟩)
        have := hb w' hw'
        exact Or.inl (only w' hw' h1 (by omega))
      · have hu2 := (hl.2.2 u hu).1
        rw [e, if_neg (nI_m1 (by omega)), cs_pr q hv, bnd_e, cs_pa q hv, cs_pi q hv (by omega), bnd_e, cs_pa q hv, cs_pi q hv (by omega), mI_c (by omega), mI_c (by omega), hs u hu, ← ew, hs w hw, ew]
        by_cases c2 : u.2 ≤ w.2
        · rw [if_pos c2, bnd_e]
          have huw : aw u w := by
            unfold aw ahd
            refine decide_eq_true ?_
            by_cases c3 : u.2 = w.2
            · exact Or.inr ⟨c3, nI_lt (by omega) (by omega)⟩
            · exact Or.inl (Int32.lt_of_le_of_ne c2 c3)
          refine ih (i + 1) _ n (by omega) (by omega) (Or.inr ⟨u, hu, by omega, rfl, fun w' hw' h1 => ?_⟩)
          by_cases c4 : w'.1 < i
          · exact hb w' hw' c4
          · rw [only w' hw' h1 c4]; exact Or.inr huw
        · rw [if_neg c2, bnd_e]
          have hwu : aw w u := by
            unfold aw ahd
            exact decide_eq_true (Or.inl (Int32.not_le.mp c2))
          refine ih (i + 1) _ n (by omega) (by omega) (Or.inr ⟨w, hw, by omega, by rw [ew], fun w' hw' h1 => ?_⟩)
          by_cases c4 : w'.1 < i
          · rcases hb w' hw' c4 with e5 | e5
            · rw [e5]; exact Or.inr hwu
            · exact Or.inr (ahd_t hwu e5)
          · exact Or.inl (only w' hw' h1 c4)
    · rw [decide_eq_false c, if_pos (by decide), bnd_e]
      have nc : ∀ w, w ∈ l → w.1 ≠ i := fun w hw e => c (List.mem_map.mpr ⟨w, hw, e⟩)
      refine ih (i + 1) b n (by omega) (by omega) ?_
      rcases hb with ⟨e, hb⟩ | ⟨u, hu, ui, e, hb⟩
      · exact Or.inl ⟨e, fun w hw => by have := hb w hw; have := nc w hw; omega⟩
      · exact Or.inr ⟨u, hu, by omega, e, fun w' hw' h1 => hb w' hw' (by have := nc w' hw'; omega)⟩
theorem HP.fw {M : Mem} {h v N A n : Nat} {S : St} (q : CS M h) (p : HP M h S) (hv : v < 16) (hl : Wok N A (xW S v)) (h16 : N ≤ 16) (hn : 17 ≤ n) : f_X4_firstWaiter n (h + 17 + 2 * v) M = some (hdW (xW S v)) := by
  obtain ⟨_, _, _, a4, a5⟩ := p.1 v hv
  rw [f_X4_firstWaiter, show (0 : Int32) = nI 0 from rfl]
  exact fw_4 q hv hl h16 a4 a5 16 0 _ n (by omega) (by omega) (Or.inl ⟨rfl, fun _ _ => Nat.zero_le _⟩)
