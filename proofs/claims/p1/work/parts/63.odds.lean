theorem ag_X7_odds (a b c : Int32) : agr (fX7_odds WN 0 a b c) (fun w => fX8_odds w 72 a b c) := by
  rcases rng a 0 8 9 (by decide) with h | ⟨n, hn, hna⟩
  · obtain ⟨h5, h8⟩ := in08 h
    refine agB ?_ ?_
    · unfold fX7_odds eX7_odds; rw [if_pos o7, if_neg h8, isT, Option.bind_some, if_neg h5]; rfl
    · show fX8_odds WN 72 a b c = _
      have hw : ¬ ((0 ≤ a ∧ a ≤ 5) ∨ a = 8) := fun q => q.elim h5 h8
      unfold fX8_odds eX8_odds; rw [if_pos o8, isW, Option.bind_some, if_neg hw]; rfl
  · rcases rng b 0 10 11 (by decide) with h2 | ⟨k, hk, hkb⟩
    · have e1 : ∀ (k : KTX7_odds), bX7_odds_14 k WN 0 a b c = some (-1, WN) := fun k => by unfold bX7_odds_14; rw [if3 h2]; rfl
      refine agB ?_ ?_
      · unfold fX7_odds eX7_odds
        rw [if_pos o7]
        by_cases z8 : a = 8
        · rw [if_pos z8, e1]
        · rw [if_neg z8, isT, Option.bind_some]
          by_cases z : (if 0 ≤ a ∧ a ≤ 5 then (1 : Int32) else 0) = 0
          · rw [if_pos z]; rfl
          · rw [if_neg z, e1]
      · show fX8_odds WN 72 a b c = _
        unfold fX8_odds eX8_odds
        rw [if_pos o8, isW, Option.bind_some]
        by_cases z : (if (0 ≤ a ∧ a ≤ 5) ∨ a = 8 then (1 : Int32) else 0) = 0
        · rw [if_pos z]; rfl
        · rw [if_neg z, in8 WN b 0 10 _ _ (by decide) (by decide), Option.bind_some, if_neg h2]; rfl
    · rcases rng c 0 1 2 (by decide) with h3 | ⟨j, hj, rfl⟩
      · have e1 : ∀ (k : KTX7_odds), bX7_odds_14 k WN 0 a b c = some (-1, WN) := fun k => by
          unfold bX7_odds_14
          by_cases z : 0 ≤ b ∧ b ≤ 10
          · rw [if3i z, if2 h3]; rfl
          · rw [if3 z]; rfl
        refine agB ?_ ?_
        · unfold fX7_odds eX7_odds
          rw [if_pos o7]
          by_cases z8 : a = 8
          · rw [if_pos z8, e1]
          · rw [if_neg z8, isT, Option.bind_some]
            by_cases z : (if 0 ≤ a ∧ a ≤ 5 then (1 : Int32) else 0) = 0
            · rw [if_pos z]; rfl
            · rw [if_neg z, e1]
        · show fX8_odds WN 72 a b c = _
          unfold fX8_odds eX8_odds
          rw [if_pos o8, isW, Option.bind_some]
          by_cases z : (if (0 ≤ a ∧ a ≤ 5) ∨ a = 8 then (1 : Int32) else 0) = 0
          · rw [if_pos z]; rfl
          · rw [if_neg z, in8 WN b 0 10 _ _ (by decide) (by decide), Option.bind_some]
            by_cases z2 : (if 0 ≤ b ∧ b ≤ 10 then (1 : Int32) else 0) = 0
            · rw [if_pos z2]; rfl
            · rw [if_neg z2, in8 WN c 0 1 _ _ (by decide) (by decide), Option.bind_some, if_neg h3]; rfl
      · subst hna
        subst hkb
        exact ckk_agr ((show ∀ n : Nat, n < 9 → ∀ k : Nat, k < 11 → ∀ j : Nat, j < 2 → ckk (fX7_odds WN 0 (at32 0 n) (at32 0 k) (at32 0 j)) (fun w => fX8_odds w 72 (at32 0 n) (at32 0 k) (at32 0 j)) = true by decide +kernel) n hn k hk j hj)
