theorem ag_X7_steps (a : Int32) : agr (fX7_steps WN 0 a) (fun w => fX8_steps w 72 a) := by
  rcases rng a 1 50 50 (by decide) with h | ⟨n, hn, rfl⟩
  · refine agB ?_ ?_
    · unfold fX7_steps eX7_steps; rw [if_pos o7, if2 h]; rfl
    · show fX8_steps WN 72 a = _
      unfold fX8_steps eX8_steps; rw [if_pos o8, in8 WN a 1 50 _ _ (by decide) (by decide), Option.bind_some, if_neg h]; rfl
  · exact ckk_agr ((show ∀ n : Nat, n < 50 → ckk (fX7_steps WN 0 (at32 1 n)) (fun w => fX8_steps w 72 (at32 1 n)) = true by decide +kernel) n hn)
