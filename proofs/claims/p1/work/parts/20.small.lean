/-! calls whose answers the kernel computes; calls with a number that is none -/
def ckk (a : Option (Int32 × XW)) (g : XW → Option (Int32 × XW)) : Bool := match a with
  | some q => (match g q.2 with
    | some p => decide (q.1 = p.1) && (decide (p.2.1 = 87) && decide (p.2.2.1 = 4287))
    | none => false)
  | none => false
theorem ckk_agr {a : Option (Int32 × XW)} {g : XW → Option (Int32 × XW)} (h : ckk a g = true) : agr a g := by
  unfold ckk at h
  split at h
  · rename_i q
    split at h
    · rename_i p hp
      simp only [Bool.and_eq_true, decide_eq_true_eq] at h
      exact ⟨q, p, rfl, hp, h.1, h.2.1, h.2.2⟩
    · cases h
  · cases h
theorem ag_X7_wipe : agr (fX7_wipe WN 0) (fun w => fX8_wipe w 72) := ckk_agr (by decide +kernel)
theorem ag_X7_fault : agr (fX7_fault WN 0) (fun w => fX8_fault w 72) := ckk_agr (by decide +kernel)
theorem ag_X7_lay : agr (fX7_lay WN 0) (fun w => fX8_lay w 72) := ckk_agr (by decide +kernel)
theorem ag_X7_undo : agr (fX7_undo WN 0) (fun w => fX8_undo w 72) := ckk_agr (by decide +kernel)
theorem ag_X7_whence : agr (fX7_whence WN 0) (fun w => fX8_whence w 72) := ckk_agr (by decide +kernel)
theorem ag_X7_forget : agr (fX7_forget WN 0) (fun w => fX8_forget w 72) := ckk_agr (by decide +kernel)
theorem ag_X7_keep : agr (fX7_keep WN 0) (fun w => fX8_keep w 72) := ckk_agr (by decide +kernel)
theorem ag_X7_back : agr (fX7_back WN 0) (fun w => fX8_back w 72) := ckk_agr (by decide +kernel)
theorem agB {f : Option (Int32 × XW)} {g : XW → Option (Int32 × XW)} (h1 : f = some (-1, WN)) (h2 : g WN = some (-1, WN)) : agr f g := ⟨(-1, WN), (-1, WN), h1, h2, rfl, rfl, rfl⟩
theorem i_le (a b : Int32) : a ≤ b ↔ a.toInt ≤ b.toInt := Int32.le_iff_toInt_le
theorem i_lt (a b : Int32) : a < b ↔ a.toInt < b.toInt := Int32.lt_iff_toInt_lt
theorem l_le (a b : Int64) : a ≤ b ↔ a.toInt ≤ b.toInt := Int64.le_iff_toInt_le
theorem l_lt (a b : Int64) : a < b ↔ a.toInt < b.toInt := Int64.lt_iff_toInt_lt
theorem wide (x : Int32) : x.toInt64.toInt = x.toInt := Int32.toInt_toInt64 x
theorem o7 : isO WN 0 7 = true := by decide +kernel
theorem o8 : isO WN 72 8 = true := by decide +kernel
theorem in8L (w : XW) (x lo hi : Int64) : fX8_in w x lo hi = some (if lo ≤ x ∧ x ≤ hi then 1 else 0, w) := by
  unfold fX8_in eX8_in
  have c1 : lg_cmp x lo < 0 ↔ x < lo := by
    unfold lg_cmp
    by_cases h : x > lo
    · rw [if_pos h]
      have : ¬ x < lo := fun q => by rw [gt_iff_lt, l_lt] at h; rw [l_lt] at q; omega
      simp only [this, iff_false]; decide
    · rw [if_neg h]
      by_cases h2 : x = lo
      · rw [if_pos h2]
        have : ¬ x < lo := fun q => by rw [l_lt, h2] at q; omega
        simp only [this, iff_false]; decide
      · rw [if_neg h2]
        have : x < lo := by
          rw [l_lt]
          rw [gt_iff_lt, l_lt] at h
          have h3 : x.toInt ≠ lo.toInt := fun q => h2 (Int64.toInt_inj.mp q)
          omega
        simp only [this, iff_true]; decide
  have c2 : 0 < lg_cmp x hi ↔ hi < x := by
    unfold lg_cmp
    by_cases h : x > hi
    · rw [if_pos h]
      have : hi < x := h
      simp only [this, iff_true]; decide
    · rw [if_neg h]
      have : ¬ hi < x := h
      simp only [this, iff_false]
      split <;> decide
  by_cases h1 : x < lo
  · rw [if_pos (c1.mpr h1), if_neg (fun q => by rw [l_lt] at h1; have := q.1; rw [l_le] at this; omega)]
    rfl
  · rw [if_neg (fun q => h1 (c1.mp q))]
    by_cases h2 : hi < x
    · rw [if_pos (c2.mpr h2), if_neg (fun q => by rw [l_lt] at h2; have := q.2; rw [l_le] at this; omega)]
      rfl
    · rw [if_neg (fun q => h2 (c2.mp q)), if_pos ⟨by rw [l_lt] at h1; rw [l_le]; omega, by rw [l_lt] at h2; rw [l_le]; omega⟩]
      rfl
theorem in8 (w : XW) (x lo hi : Int32) (lo' hi' : Int64) (h1 : lo'.toInt = lo.toInt) (h2 : hi'.toInt = hi.toInt) : fX8_in w x.toInt64 lo' hi' = some (if lo ≤ x ∧ x ≤ hi then 1 else 0, w) := by
  rw [in8L]
  have e : (lo' ≤ x.toInt64 ∧ x.toInt64 ≤ hi') ↔ (lo ≤ x ∧ x ≤ hi) := by rw [l_le, l_le, i_le, i_le, wide, h1, h2]
  by_cases h : lo ≤ x ∧ x ≤ hi
  · rw [if_pos (e.mpr h), if_pos h]
  · rw [if_neg (fun q => h (e.mp q)), if_neg h]
theorem six1 {p : Int32} (h : (6 : Int32) ≤ p) : ¬ p ≤ 5 := by
  intro q
  rw [i_le] at h q
  have a1 : (6 : Int32).toInt = 6 := by decide
  have a2 : (5 : Int32).toInt = 5 := by decide
  omega
theorem six2 {p : Int32} (h : ¬ (6 : Int32) ≤ p) : p ≤ 5 := by
  rw [i_le] at h ⊢
  have a1 : (6 : Int32).toInt = 6 := by decide
  have a2 : (5 : Int32).toInt = 5 := by decide
  omega
theorem neg1 {p : Int32} (h : p < 0) : ¬ 0 ≤ p := by
  intro q
  rw [i_lt] at h
  rw [i_le] at q
  omega
theorem neg2 {p : Int32} (h : ¬ p < 0) : 0 ≤ p := by
  rw [i_lt] at h
  rw [i_le]
  omega
theorem isPr (w : XW) (p : Int32) : fX7_isPrime w p = some (if 0 ≤ p ∧ p ≤ 5 then 1 else 0, w) := by
  unfold fX7_isPrime eX7_isPrime
  by_cases h1 : p < 0
  · rw [if_pos h1, if_neg (fun q => neg1 h1 q.1)]; rfl
  · rw [if_neg h1]
    by_cases h2 : (6 : Int32) ≤ p
    · rw [if_pos h2, if_neg (fun q => six1 h2 q.2)]; rfl
    · rw [if_neg h2, if_pos ⟨neg2 h1, six2 h2⟩]; rfl
theorem isT (f : Int32) : fX7_isTold WN 0 f = some (if 0 ≤ f ∧ f ≤ 5 then 1 else 0, WN) := by
  unfold fX7_isTold
  rw [if_pos o7]
  unfold eX7_isTold
  have g1 : gR WN 0 7 2 = some 5 := by decide +kernel
  have g2 : gI WN 5 1 5 = some 6 := by decide +kernel
  rw [g1, Option.bind_some, g2, Option.bind_some]
  by_cases h1 : f < 0
  · rw [if_pos h1, if_neg (fun q => neg1 h1 q.1)]; rfl
  · rw [if_neg h1]
    by_cases h2 : (6 : Int32) ≤ f
    · rw [if_pos h2, if_neg (fun q => six1 h2 q.2)]; rfl
    · rw [if_neg h2, if_pos ⟨neg2 h1, six2 h2⟩]; rfl
theorem isF (f : Int32) : fX8_isFraction WN 72 f = some (if 0 ≤ f ∧ f ≤ 5 then 1 else 0, WN) := by
  unfold fX8_isFraction
  rw [if_pos o8]
  unfold eX8_isFraction
  have g1 : gI WN 72 8 0 = some 6 := by decide +kernel
  rw [g1, Option.bind_some, in8 WN f 0 5 0 _ (by decide) (by decide), Option.bind_some]
  by_cases h : 0 ≤ f ∧ f ≤ 5
  · rw [if_pos h]; rfl
  · rw [if_neg h]; rfl
/-- a number of a range, or outside of it -/
def at32 (lo : Int32) (n : Nat) : Int32 := Int32.ofInt (lo.toInt + n)
theorem rng (a : Int32) (lo hi : Int32) (N : Nat) (hN : hi.toInt - lo.toInt + 1 = N) : ¬ (lo ≤ a ∧ a ≤ hi) ∨ ∃ n : Nat, n < N ∧ a = at32 lo n := by
  by_cases h : lo ≤ a ∧ a ≤ hi
  · right
    have h1 := (i_le _ _).mp h.1
    have h2 := (i_le _ _).mp h.2
    refine ⟨(a.toInt - lo.toInt).toNat, by omega, ?_⟩
    unfold at32
    rw [show lo.toInt + ((a.toInt - lo.toInt).toNat : Int) = a.toInt by omega, Int32.ofInt_toInt]
  · exact Or.inl h
theorem ag_X7_number (a : Int32) : agr (fX7_number WN 0 a) (fun w => fX8_number_ w 72 a) := by
  rcases rng a 0 5 6 (by decide) with h | ⟨n, hn, rfl⟩
  · refine agB ?_ ?_
    · unfold fX7_number eX7_number; rw [if_pos o7, isPr, Option.bind_some, if_neg h]; rfl
    · show fX8_number_ WN 72 a = _
      unfold fX8_number_ eX8_number_; rw [if_pos o8, in8 WN a 0 5 _ _ (by decide) (by decide), Option.bind_some, if_neg h]; rfl
  · exact ckk_agr ((show ∀ n : Nat, n < 6 → ckk (fX7_number WN 0 (at32 0 n)) (fun w => fX8_number_ w 72 (at32 0 n)) = true by decide +kernel) n hn)
theorem ag_X7_drop (a : Int32) : agr (fX7_drop WN 0 a) (fun w => fX8_drop w 72 a) := by
  rcases rng a 0 5 6 (by decide) with h | ⟨n, hn, rfl⟩
  · refine agB ?_ ?_
    · unfold fX7_drop eX7_drop; rw [if_pos o7, isT, Option.bind_some, if_neg h]; rfl
    · show fX8_drop WN 72 a = _
      unfold fX8_drop eX8_drop; rw [if_pos o8, isF, Option.bind_some, if_neg h]; rfl
  · exact ckk_agr ((show ∀ n : Nat, n < 6 → ckk (fX7_drop WN 0 (at32 0 n)) (fun w => fX8_drop w 72 (at32 0 n)) = true by decide +kernel) n hn)
theorem out_int {a lo hi : Int32} (h : ¬ (lo ≤ a ∧ a ≤ hi)) {x y : Int} (hx : lo.toInt = x) (hy : hi.toInt = y) : a.toInt < x ∨ y < a.toInt := by
  rw [i_le, i_le] at h
  omega
theorem ag_X7_count (a : Int32) : agr (fX7_count WN 0 a) (fun w => fX8_count w 72 a) := by
  rcases rng a 0 9 10 (by decide) with h | ⟨n, hn, rfl⟩
  · refine agB ?_ ?_
    · unfold fX7_count eX7_count; rw [if_pos o7, if_pos (out_int h (by decide) (by decide))]
    · show fX8_count WN 72 a = _
      unfold fX8_count eX8_count; rw [if_pos o8, in8 WN a 0 9 _ _ (by decide) (by decide), Option.bind_some, if_neg h]; rfl
  · exact ckk_agr ((show ∀ n : Nat, n < 10 → ckk (fX7_count WN 0 (at32 0 n)) (fun w => fX8_count w 72 (at32 0 n)) = true by decide +kernel) n hn)
theorem ag_X7_order (a : Int32) : agr (fX7_order WN 0 a) (fun w => fX8_order w 72 a) := by
  rcases rng a (-1) 7 9 (by decide) with h | ⟨n, hn, rfl⟩
  · refine agB ?_ ?_
    · unfold fX7_order eX7_order
      rw [if_pos o7]
      by_cases h1 : a < -1
      · rw [if_pos h1]; rfl
      · rw [if_neg h1]
        have h2 : ¬ a < 8 := by
          rcases out_int h (x := -1) (y := 7) (by decide) (by decide) with q | q
          · rw [i_lt] at h1
            have a1 : (-1 : Int32).toInt = -1 := by decide
            omega
          · rw [i_lt]
            have a2 : (8 : Int32).toInt = 8 := by decide
            omega
        rw [if_neg h2]; rfl
    · show fX8_order WN 72 a = _
      unfold fX8_order eX8_order; rw [if_pos o8, in8 WN a (-1) 7 _ _ (by decide) (by decide), Option.bind_some, if_neg h]; rfl
  · exact ckk_agr ((show ∀ n : Nat, n < 9 → ckk (fX7_order WN 0 (at32 (-1) n)) (fun w => fX8_order w 72 (at32 (-1) n)) = true by decide +kernel) n hn)
theorem ag_X7_fraction (a b : Int32) : agr (fX7_fraction WN 0 a b) (fun w => fX8_fraction_ w 72 a b) := by
  rcases rng a 0 5 6 (by decide) with h | ⟨n, hn, hna⟩
  · refine agB ?_ ?_
    · unfold fX7_fraction eX7_fraction; rw [if_pos o7, isT, Option.bind_some, if_neg h]; rfl
    · show fX8_fraction_ WN 72 a b = _
      unfold fX8_fraction_ eX8_fraction_; rw [if_pos o8, isF, Option.bind_some, if_neg h]; rfl
  · rcases rng b 0 5 6 (by decide) with h2 | ⟨k, hk, rfl⟩
    · refine agB ?_ ?_
      · unfold fX7_fraction eX7_fraction
        rw [if_pos o7, isT, Option.bind_some]
        by_cases z : (if 0 ≤ a ∧ a ≤ 5 then (1 : Int32) else 0) = 0
        · rw [if_pos z]
        · rw [if_neg z, if_pos (out_int h2 (by decide) (by decide))]
      · show fX8_fraction_ WN 72 a b = _
        unfold fX8_fraction_ eX8_fraction_
        rw [if_pos o8, isF, Option.bind_some]
        by_cases z : (if 0 ≤ a ∧ a ≤ 5 then (1 : Int32) else 0) = 0
        · rw [if_pos z]; rfl
        · rw [if_neg z, in8 WN b 0 5 _ _ (by decide) (by decide), Option.bind_some, if_neg h2]; rfl
    · subst hna
      exact ckk_agr ((show ∀ n : Nat, n < 6 → ∀ k : Nat, k < 6 → ckk (fX7_fraction WN 0 (at32 0 n) (at32 0 k)) (fun w => fX8_fraction_ w 72 (at32 0 n) (at32 0 k)) = true by decide +kernel) n hn k hk)
theorem ag_X7_move (a b : Int32) : agr (fX7_move WN 0 a b) (fun w => fX8_move w 72 a b) := by
  have g1 : gR WN 0 7 4 = some 17 := by decide +kernel
  have g2 : gI WN 17 5 2 = some 6 := by decide +kernel
  have g3 : gR WN 72 8 7 = some 78 := by decide +kernel
  have g4 : aI WN 0 78 14 = some 6 := by decide +kernel
  rcases rng a 0 5 6 (by decide) with h | ⟨n, hn, hna⟩
  · refine agB ?_ ?_
    · unfold fX7_move eX7_move; rw [if_pos o7, isT, Option.bind_some, if_neg h]; rfl
    · show fX8_move WN 72 a b = _
      unfold fX8_move eX8_move; rw [if_pos o8, isF, Option.bind_some, if_neg h]; rfl
  · rcases rng b 0 5 6 (by decide) with h2 | ⟨k, hk, rfl⟩
    · refine agB ?_ ?_
      · unfold fX7_move eX7_move
        rw [if_pos o7, isT, Option.bind_some]
        by_cases z : (if 0 ≤ a ∧ a ≤ 5 then (1 : Int32) else 0) = 0
        · rw [if_pos z]; rfl
        · rw [if_neg z]
          by_cases h3 : b < 0
          · rw [if_pos h3]; rfl
          · rw [if_neg h3, g1, Option.bind_some, g2, Option.bind_some, if_neg]
            · rfl
            · intro h4
              apply h2
              refine ⟨neg2 h3, six2 (fun q => ?_)⟩
              rw [i_lt] at h4
              rw [i_le] at q
              omega
      · show fX8_move WN 72 a b = _
        unfold fX8_move eX8_move
        rw [if_pos o8, isF, Option.bind_some]
        by_cases z : (if 0 ≤ a ∧ a ≤ 5 then (1 : Int32) else 0) = 0
        · rw [if_pos z]; rfl
        · rw [if_neg z, g3, Option.bind_some, g4, Option.bind_some, in8 WN b 0 5 _ _ (by decide) (by decide), Option.bind_some, if_neg h2]; rfl
    · subst hna
      exact ckk_agr ((show ∀ n : Nat, n < 6 → ∀ k : Nat, k < 6 → ckk (fX7_move WN 0 (at32 0 n) (at32 0 k)) (fun w => fX8_move w 72 (at32 0 n) (at32 0 k)) = true by decide +kernel) n hn k hk)
