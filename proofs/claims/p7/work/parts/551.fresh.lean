/-! ===== the model started anew: what holds of it ===== -/
section
variable {N : Nat} {B : Nat → Int32} {tr : Int32}
theorem fS0_8 (v : Nat) : xR (fS0 N B tr) 8 v = -1 := by rw [fS0_R, if_pos rfl]
theorem fS0_Inv (h16 : N ≤ 16) : Inv N 0 (fS0 N B tr) := by
  have v0 : ∀ k v, k < 8 → xR (fS0 N B tr) k v = 0 := fun k v hk => fS0_0 (by omega)
  have v9 : ∀ v, xR (fS0 N B tr) 9 v = 0 := fun v => fS0_0 (by omega)
  have v10 : ∀ v, xR (fS0 N B tr) 10 v = 0 := fun v => fS0_0 (by omega)
  have oe0 : ∀ v a, v < N → a < N → oe (fS0 N B tr) 99 99 none v a = none := fun v a hv ha => by
    rw [oe_99 (by omega)]
    unfold eng
    rw [fS0_8, if_neg (m1_ne (by omega))]
    rfl
  refine ⟨fun v hv => ⟨Or.inl (v0 0 v (by decide)), fun _ => v0 0 v (by decide), Or.inl (v0 7 v (by decide)), Or.inl (v10 v)⟩, fun v hv i _ _ => ?_, fun v hv z => ?_, fun v hv => ⟨0, 0, Nat.le_refl _, Nat.le_refl _, v0 1 v (by decide), v0 2 v (by decide)⟩, fun l _ => ⟨fun x hx => ?_, fun _ => rfl⟩, fun a ha => ⟨⟨List.Pairwise.nil, List.nodup_nil, fun w hw => ?_⟩, fun _ => rfl, Or.inl ⟨fS0_8 a, v9 a, v10 a⟩⟩, fun v hv a ha => ?_, fun v hv a ha => ⟨fun s hs => ?_, fun x hx => ?_, fun x hx => ?_⟩⟩
  · rw [v0 3 v (by decide)]; exact b_0 _
  · rw [v0 0 v (by decide)] at z; exact absurd z (by decide)
  · have hx' : x ∈ (([] : List Ltr)) := hx
    simp at hx'
  · have hw' : w ∈ (([] : List Wtr)) := hw
    simp at hw'
  · rw [oe0 v a hv ha]
    unfold opn
    rw [if_neg (fun z => z.1 (v0 0 v (by decide)))]
    rfl
  · rw [oe0 v a hv ha] at hs; cases hs
  · have hx' : x ∈ (([] : List Ltr)) := hx
    simp at hx'
  · have hx' : x ∈ (([] : List Ltr)) := hx
    simp at hx'
theorem fS0_X : IX N (fS0 N B tr) := by
  refine ⟨fun a _ w hw => ?_, fun v _ z => ?_, fun x _ z => ?_⟩
  · have hw' : w ∈ (([] : List Wtr)) := hw
    simp at hw'
  · rw [fS0_0 (by omega)] at z; exact absurd z (by decide)
  · rw [fS0_0 (by omega)] at z; exact absurd z (by decide)
theorem fS0_Z : IZ N (fS0 N B tr) := by
  refine ⟨fun v _ i _ z => ?_, fun v _ _ => fS0_0 (by omega), fun v _ _ => ⟨fS0_0 (by omega), fS0_8 v⟩⟩
  rw [fS0_0 (by omega), b_0] at z; cases z
theorem fS0_Ph (a : Nat) : Ph a (fS0 N B tr) = 0 := by
  have h1 : phL a (fS0 N B tr) = 0 := by
    unfold phL
    rw [fS0_fl]; rfl
  have h2 : phB a (fS0 N B tr) = 0 := by
    unfold phB
    have : smN (phv (fS0 N B tr) a) 16 = smN (fun _ => 0) 16 := smN_c 16 (fun v _ => by
      unfold phv
      rw [fS0_0 (k := 4) (by omega), fS0_0 (k := 5) (by omega), b_0, if_neg (fun z => by cases z.1), if_neg (by decide)])
    rw [this, smN_k]
  unfold Ph
  omega
theorem fS0_SW {i : Nat} (h2 : 2 ≤ N) (h16 : N ≤ 16) (t2 : tr = 0 ∨ tr = 1) (t : tr = 1 → N % 2 = 1) (bi : ∀ v, v < N → ∀ i, N ≤ i → i < 32 → bt (B v) i = false) (tb : TBs N B tr) : SW N 0 i (fS0 N B tr) :=
  ⟨⟨h2, h16⟩, rfl, t2, t, bi, fS0_Inv h16, fS0_X, fS0_Z, Nat.zero_le _, fun a _ => by rw [fS0_Ph]; exact Nat.zero_le _, tb⟩
theorem fS0_qm (h16 : N ≤ 16) (v : Nat) : qm N (fS0 N B tr) v = B v := by
  have hb : bkm N (fS0 N B tr) = 0 := by
    apply b_ext
    intro i hi
    rw [bkm_b h16 (fun v _ => Or.inl (fS0_0 (by omega))) hi, b_0]
    apply decide_eq_false
    rintro ⟨_, z⟩
    rw [fS0_0 (by omega)] at z; exact absurd z (by decide)
  unfold qm qby
  rw [hb, Int32.and_zero, if_pos rfl]; rfl
end
/-- the reference's big row after a maker -/
def rfm (f : Nat → Int32) (N : Nat) (tr : Int32) (C : Nat → Int32) (b : Nat) : Int32 := if 2 ≤ b ∧ b < 2 + N then C (b - 2) else bgf f (nI N) tr b
theorem rfm_RV {M : Mem} {f : Nat → Int32} {N : Nat} {tr : Int32} {C B : Nat → Int32} (tw : Bool) (h16 : N ≤ 16) (hS : RS M) (h3 : mI M 120 3 = 0) (hB : ∀ v, v < 16 → B v = if v < N then C v else f (2 + v)) (h : ∀ b, b < 10465 → mI M 121 b = rfm f N tr C b) : RV M tw 0 (fS0 N B tr) [] [] := by
  have fr0 : ∀ b, 18 ≤ b → b < 10209 → ¬ (146 ≤ b ∧ b < 850 ∧ (b - 146) % 44 = 0) → mI M 121 b = 0 := fun b h1 h2 h3 => by
    rw [h b (by omega)]
    unfold rfm
    rw [if_neg (by omega)]
    unfold bgf
    rw [if_neg (by omega), if_neg (by omega), if_neg (by omega)]
    by_cases c1 : b < 146
    · rw [if_pos c1]
    · rw [if_neg c1]
      by_cases c2 : b < 850
      · rw [if_pos c2, if_neg (by omega)]
      · rw [if_neg c2, if_pos h2]
  have fr8 : ∀ a, a < 16 → mI M 121 (146 + 44 * a) = -1 := fun a ha => by
    rw [h _ (by omega)]
    unfold rfm
    rw [if_neg (by omega)]
    unfold bgf
    rw [if_neg (by omega), if_neg (by omega), if_neg (by omega), if_neg (by omega), if_pos (by omega), if_pos (by omega)]
  refine ⟨hS, h3, fun k i hv => ?_, fun a ha => ⟨?_, by show 0 ≤ 20; omega, fun i q h => ?_, fun i _ hi => ⟨?_, ?_⟩⟩, ⟨?_, ?_, ?_⟩, ⟨?_, ?_⟩, ⟨?_, ?_⟩⟩
  · rcases ad_cases hv with ⟨k8, i6, e⟩ | ⟨k8, k11, i6, e⟩ | ⟨k12, k15, i6, e⟩ | ⟨k5, i6, e⟩ | ⟨k6, i6, e⟩ | ⟨k7, i6, e⟩ | ⟨k8, i6, e⟩ | ⟨k9, i6, e⟩ | ⟨k2, i6, e⟩
    · rw [e, fr0 _ (by omega) (by omega) (by omega), fS0_0 (by omega)]
    · by_cases c : k = 8
      · rw [e, c, show 146 + 44 * i + (8 - 8) = 146 + 44 * i by omega, fr8 i i6, fS0_8]
      · rw [e, fr0 _ (by omega) (by omega) (by omega), fS0_0 (by omega)]
    · rw [e, fr0 _ (by omega) (by omega) (by omega), fS0_0 (by omega)]
    · rw [e, fr0 _ (by omega) (by omega) (by omega), fS0_0 (by omega)]
    · rw [e, fr0 _ (by omega) (by omega) (by omega), fS0_0 (by omega)]
    · rw [e, h _ (by omega), fS0_R, if_neg (by omega), if_pos k7, hB i i6]
      unfold rfm
      by_cases c : i < N
      · rw [if_pos (by omega), if_pos c, show 2 + i - 2 = i by omega]
      · rw [if_neg (by omega), if_neg c]
        unfold bgf
        rw [if_neg (by omega), if_neg (by omega), if_pos (by omega)]
    · rw [e, fr0 _ (by omega) (by omega) (by omega), fS0_0 (by omega)]
    · rw [e, h _ (by omega), fS0_R, if_neg (by omega), if_neg (by omega), if_pos k9]
      unfold rfm
      rw [if_neg (by omega)]
      unfold bgf
      rw [if_neg (by omega), if_neg (by omega), if_neg (by omega), if_neg (by omega), if_neg (by omega), if_neg (by omega), if_pos (by omega)]
    · rw [e, h _ (by omega), fS0_R, if_neg (by omega), if_neg (by omega), if_neg (by omega), if_pos k2]
      unfold rfm
      rw [if_neg (by omega)]
      unfold bgf
      rcases (show i = 0 ∨ i = 1 by omega) with rfl | rfl
      · rfl
      · rfl
  · show mI M 121 (149 + 44 * a) = 0
    exact fr0 _ (by omega) (by omega) (by omega)
  · have h' : (([] : List Wtr))[i]? = some q := h
    simp at h'
  · exact fr0 _ (by omega) (by omega) (by omega)
  · exact fr0 _ (by omega) (by omega) (by omega)
  · rw [fS0_fl]
    exact fr0 _ (by decide) (by decide) (by decide)
  · rw [fS0_fl]; exact Nat.zero_le _
  · rw [fS0_fl]
    intro i q h
    simp at h
  · exact fr0 _ (by decide) (by decide) (by decide)
  · intro i q h
    have h' : (([] : List Row4))[i]? = some q := h
    simp at h'
  · exact fr0 _ (by decide) (by decide) (by decide)
  · intro i q h
    have h' : (([] : List Row4))[i]? = some q := h
    simp at h'
