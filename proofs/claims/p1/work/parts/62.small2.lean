theorem ag_X7_multiply (a b : Int32) : agr (fX7_multiply WN 0 a b) (fun w => fX8_multiply w 72 a b) := by
  rcases rng a 0 5 6 (by decide) with h | ⟨n, hn, hna⟩
  · refine agB ?_ ?_
    · unfold fX7_multiply eX7_multiply; rw [if_pos o7, isPr, Option.bind_some, if_neg h]; rfl
    · show fX8_multiply WN 72 a b = _
      unfold fX8_multiply eX8_multiply; rw [if_pos o8, in8 WN a 0 5 _ _ (by decide) (by decide), Option.bind_some, if_neg h]; rfl
  · rcases rng b (-9) 9 19 (by decide) with h2 | ⟨k, hk, rfl⟩
    · refine agB ?_ ?_
      · unfold fX7_multiply eX7_multiply
        rw [if_pos o7, isPr, Option.bind_some]
        by_cases z : (if 0 ≤ a ∧ a ≤ 5 then (1 : Int32) else 0) = 0
        · rw [if_pos z]; rfl
        · rw [if_neg z]
          by_cases h3 : b = 0
          · rw [if_pos h3]; rfl
          · rw [if_neg h3, if2 h2]; rfl
      · show fX8_multiply WN 72 a b = _
        unfold fX8_multiply eX8_multiply
        rw [if_pos o8, in8 WN a 0 5 _ _ (by decide) (by decide), Option.bind_some]
        by_cases z : (if 0 ≤ a ∧ a ≤ 5 then (1 : Int32) else 0) = 0
        · rw [if_pos z]; rfl
        · rw [if_neg z, in8 WN b (-9) 9 _ _ (by decide) (by decide), Option.bind_some, if_neg h2]; rfl
    · subst hna
      exact ckk_agr ((show ∀ n : Nat, n < 6 → ∀ k : Nat, k < 19 → ckk (fX7_multiply WN 0 (at32 0 n) (at32 (-9) k)) (fun w => fX8_multiply w 72 (at32 0 n) (at32 (-9) k)) = true by decide +kernel) n hn k hk)
theorem ag_X7_write (a : Int32) : agr (fX7_write WN 0 a) (fun w => fX8_write w 72 a) := by
  rcases rng a 32 126 95 (by decide) with h | ⟨n, hn, rfl⟩
  · refine agB ?_ ?_
    · unfold fX7_write eX7_write; rw [if_pos o7, if2 h]; rfl
    · show fX8_write WN 72 a = _
      unfold fX8_write eX8_write; rw [if_pos o8, in8 WN a 32 126 _ _ (by decide) (by decide), Option.bind_some, if_neg h]; rfl
  · exact ckk_agr ((show ∀ n : Nat, n < 95 → ckk (fX7_write WN 0 (at32 32 n)) (fun w => fX8_write w 72 (at32 32 n)) = true by decide +kernel) n hn)
theorem ag_X7_see (a b : Int32) : agr (fX7_see WN 0 a b) (fun w => fX8_see w 72 a b) := by
  rcases rng a 1 60 60 (by decide) with h | ⟨n, hn, hna⟩
  · refine agB ?_ ?_
    · unfold fX7_see eX7_see; rw [if_pos o7, if3 h]; rfl
    · show fX8_see WN 72 a b = _
      unfold fX8_see eX8_see; rw [if_pos o8, in8 WN a 1 60 _ _ (by decide) (by decide), Option.bind_some, if_neg h]; rfl
  · rcases rng b 0 8 9 (by decide) with h2 | ⟨k, hk, rfl⟩
    · obtain ⟨h5, h8⟩ := in08 h2
      refine agB ?_ ?_
      · unfold fX7_see eX7_see
        rw [if_pos o7]
        by_cases z : 1 ≤ a ∧ a ≤ 60
        · rw [if3i z, if_neg h8, isT, Option.bind_some, if_neg h5]; rfl
        · rw [if3 z]; rfl
      · show fX8_see WN 72 a b = _
        unfold fX8_see eX8_see
        rw [if_pos o8, in8 WN a 1 60 _ _ (by decide) (by decide), Option.bind_some]
        by_cases z : (if 1 ≤ a ∧ a ≤ 60 then (1 : Int32) else 0) = 0
        · rw [if_pos z]; rfl
        · have hw : ¬ ((0 ≤ b ∧ b ≤ 5) ∨ b = 8) := fun q => q.elim h5 h8
          rw [if_neg z, isW, Option.bind_some, if_neg hw]; rfl
    · subst hna
      exact ckk_agr ((show ∀ n : Nat, n < 60 → ∀ k : Nat, k < 9 → ckk (fX7_see WN 0 (at32 1 n) (at32 0 k)) (fun w => fX8_see w 72 (at32 1 n) (at32 0 k)) = true by decide +kernel) n hn k hk)
theorem ag_X7_rests : agr (fX7_rests WN 0) (fun w => fX8_rests w 72) := ckk_agr (by decide +kernel)
theorem ag_X7_round (a : Int32) : agr (fX7_round WN 0 a) (fun w => fX8_round w 72 a) := by
  rcases rng a 0 1 2 (by decide) with h | ⟨n, hn, rfl⟩
  · refine agB ?_ ?_
    · unfold fX7_round eX7_round; rw [if_pos o7, if2 h]; rfl
    · show fX8_round WN 72 a = _
      unfold fX8_round eX8_round; rw [if_pos o8, in8 WN a 0 1 _ _ (by decide) (by decide), Option.bind_some, if_neg h]; rfl
  · exact ckk_agr ((show ∀ n : Nat, n < 2 → ckk (fX7_round WN 0 (at32 0 n)) (fun w => fX8_round w 72 (at32 0 n)) = true by decide +kernel) n hn)
