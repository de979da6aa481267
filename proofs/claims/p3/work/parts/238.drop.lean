theorem drop_7 {h X Y : Nat} {t : Int32} {f g : Nat} (hf : f < 16) (hg : g < 16) : ∀ (xs : List Ltr) (M : Mem) (S : St) (n : Nat), CS M h → PV M h t S → Rm M h X Y → xL S (16 * f + g) = xs → xs.length + 1 ≤ n → xs.length < 20000 → ∃ M', f_X5_drop_7 n (h + 1) (nI f) (nI g) (nI xs.length) M = some M' ∧ CS M' h ∧ PV M' h t (if xs = [] then S else uL S (16 * f + g) []) ∧ Rm M' h X Y ∧ FrP M M' h := by
  intro xs
  induction xs with
  | nil =>
    intro M S n q p rm hx hn _
    obtain ⟨n, rfl⟩ : ∃ m, n = m + 1 := ⟨n - 1, by omega⟩
    refine ⟨M, ?_, q, by rw [if_pos rfl]; exact p, rm, FrP.rf M h⟩
    rw [f_X5_drop_7, if_pos (by decide)]
  | cons x xs ih =>
    intro M S n q p rm hx hn hl
    obtain ⟨n, rfl⟩ : ∃ m, n = m + 1 := ⟨n - 1, by omega⟩
    simp only [List.length_cons] at hn hl ⊢
    obtain ⟨M1, e1, q1, p1, r1, f1⟩ := p.take q rm hf hg hx
    obtain ⟨M2, e2, q2, p2, r2, f2⟩ := ih M1 _ n q1 p1 r1 (by rw [xL_uL, if_pos rfl]) (by omega) (by omega)
    refine ⟨M2, ?_, q2, ?_, r2, f1.tr f2⟩
    · rw [f_X5_drop_7, if_neg (show ¬ nI (xs.length + 1) ≤ (0 : Int32) from nI_ge (a := 0) (b := xs.length + 1) (by omega) (by omega)), cs_p q, e1, obd2_s, show nI (xs.length + 1) + (-1 : Int32) = nI xs.length by rw [← nI_pred xs.length, Int32.sub_eq_add_neg], bnd_e, e2]
    · rw [if_neg (by simp)]
      by_cases e : xs = []
      · rw [if_pos e] at p2
        rw [← e]; exact p2
      · rw [if_neg e] at p2
        have : uL (uL S (16 * f + g) xs) (16 * f + g) [] = uL S (16 * f + g) [] := by
          have z : up1 (up1 S.2.2.1 (16 * f + g) xs) (16 * f + g) [] = up1 S.2.2.1 (16 * f + g) [] := by
            funext a
            unfold up1
            by_cases e : a = 16 * f + g
            · rw [if_pos e, if_pos e]
            · rw [if_neg e, if_neg e, if_neg e]
          unfold uL
          rw [show (S.1, S.2.1, up1 S.2.2.1 (16 * f + g) xs, S.2.2.2).2.2.1 = up1 S.2.2.1 (16 * f + g) xs from rfl, z]
        rwa [this] at p2
theorem PV.drop {M : Mem} {h X Y : Nat} {t : Int32} {S : St} (q : CS M h) (p : PV M h t S) (rm : Rm M h X Y) {f g n : Nat} (hf : f < 16) (hg : g < 16) (hl : (xL S (16 * f + g)).length < 9001) (hn : 9002 ≤ n) : ∃ M', f_X5_drop n (h + 1) (nI f) (nI g) M = some M' ∧ CS M' h ∧ PV M' h t (if xL S (16 * f + g) = [] then S else uL S (16 * f + g) []) ∧ Rm M' h X Y ∧ FrP M M' h := by
  obtain ⟨M', e, r⟩ := drop_7 hf hg _ M S n q p rm rfl (by omega) (by omega)
  exact ⟨M', by rw [f_X5_drop, cs_p q, p.cnt q hf hg, obd_s, e], r⟩
