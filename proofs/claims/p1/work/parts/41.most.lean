/-! the greatest power; how often a fraction is used -/
def gr (kd ch : Nat → Int32) (p : Nat) : Nat → PS → Int32 → Int32
  | 0, _, m => m
  | n + 1, S, m => gr kd ch p n (stS kd ch S) (imx m (sP (stS kd ch S) p))
theorem gr_r {kd ch : Nat → Int32} {p : Nat} {S : PS} (h : nxt kd ch S = -4) {m : Int32} (hm : ¬ m < sP S p) : ∀ n, gr kd ch p n S m = m := by
  have e : stS kd ch S = S := by unfold stS; rw [if_pos h]
  intro n
  induction n with
  | zero => rfl
  | succ n ih =>
    rw [gr, e]
    have : imx m (sP S p) = m := if_neg hm
    rw [this]
    exact ih
theorem imx_n (a b : Int32) : ¬ imx a b < b := by
  unfold imx
  split
  · rw [i_lt]; omega
  · assumption
theorem great_loop {p : Nat} (hp : p < 6) : ∀ (m a n : Nat) (w : XW) (S : PS) (ti most : Int32), Off sC WN w → Cl w 20 S ti → ¬ most < sP S p → a + m = 200 → m + 1 ≤ n → ∃ w', loX7_greatest n w 0 (nI p) most (nI a) = some (gr kd0 ch0 p m S most, w') ∧ Off sC WN w' := by
  intro m
  induction m with
  | zero =>
    intro a n w S ti most ho hC hm ha hn
    obtain ⟨n, rfl⟩ : ∃ z, n = z + 1 := ⟨n - 1, by omega⟩
    have h2 : a = 200 := by omega
    subst h2
    refine ⟨w, ?_, ho⟩
    show hX7_greatest_32 (loX7_greatest n) w 0 (nI p) most (nI 200) = _
    unfold hX7_greatest_32
    rw [if_pos (by decide)]
    rfl
  | succ m ih =>
    intro a n w S ti most ho hC hm ha hn
    obtain ⟨n, rfl⟩ : ∃ z, n = z + 1 := ⟨n - 1, by omega⟩
    have h3 : ¬ (200 : Int32) ≤ nI a := nI_ge (a := a) (b := 200) (by omega) (by omega)
    obtain ⟨w1, t1, g1, g2, g3, g4⟩ := takeStep_spec hC (oc_F ho) (by omega)
    have o1 := ho.tr (oc_t g3)
    show ∃ w', hX7_greatest_32 (loX7_greatest n) w 0 (nI p) most (nI a) = some (gr kd0 ch0 p (m + 1) S most, w') ∧ Off sC WN w'
    unfold hX7_greatest_32
    rw [if_neg h3, oc_5 ho, Option.bind_some, oc_2 ho, Option.bind_some, g1, Option.bind_some]
    show ∃ w', (if nxt kd0 ch0 S = -4 then _ else _) = _ ∧ _
    by_cases e : nxt kd0 ch0 S = -4
    · rw [if_pos e, gr_r e hm]
      exact ⟨w1, rfl, o1⟩
    · obtain ⟨q1, q2⟩ := oc_P g2 hp
      rw [if_neg e, oc_5 o1, Option.bind_some, q1, Option.bind_some, q2, Option.bind_some, nI_1, gr]
      exact ih (a + 1) n w1 _ t1 _ o1 g2 (imx_n _ _) (by omega) (by omega)
theorem larger_s (w : XW) (a b : Int32) : fX8_larger w a b = some (imx a b, w) := by
  unfold fX8_larger eX8_larger imx
  by_cases h : b ≤ a
  · rw [if_pos h, if_neg (fun z => by rw [i_le] at h; rw [i_lt] at z; omega)]; rfl
  · rw [if_neg h, if_pos (by rw [i_le] at h; rw [i_lt]; omega)]; rfl
theorem mgreat_loop {p : Nat} (hp : p < 6) : ∀ (m a n : Nat) (w : XW) (Z : Nat → Int32) (tw : Int32) (S : PS) (most : Int32), Mo w kd0 ch0 Z tw → zS Z 198 S → sk S + m < 2 ^ 30 → a + m = 200 → m + 1 ≤ n → ∃ w', loX8_greatest n w 72 (nI p) most (nI a) = some (gr kd0 ch0 p m S most, w') ∧ Off sZ w w' := by
  intro m
  induction m with
  | zero =>
    intro a n w Z tw S most h hz hk ha hn
    obtain ⟨n, rfl⟩ : ∃ z, n = z + 1 := ⟨n - 1, by omega⟩
    have h2 : a = 200 := by omega
    subst h2
    refine ⟨w, ?_, Off.rf⟩
    show hX8_greatest_31 (loX8_greatest n) w 72 (nI p) most (nI 200) = _
    unfold hX8_greatest_31
    rw [if_pos (by decide)]
    rfl
  | succ m ih =>
    intro a n w Z tw S most h hz hk ha hn
    obtain ⟨n, rfl⟩ : ∃ z, n = z + 1 := ⟨n - 1, by omega⟩
    have h3 : ¬ (200 : Int32) ≤ nI a := nI_ge (a := a) (b := 200) (by omega) (by omega)
    obtain ⟨w1, Z1, t1, s1, m1, o1, y1, x1, _⟩ := step_spec h hz (by omega) (by omega)
    have s1' : fX8_step w 72 198 = some (nxt kd0 ch0 S, w1) := s1
    have hs := sk_st (kd := kd0) (ch := ch0) (S := S)
    have e : aI w1 0 78 (198 + nI p) = some (sP (stS kd0 ch0 S) p) := by rw [← y1.2.1 p (by omega)]; exact m1.zo (a := 198) (by omega)
    obtain ⟨w2, r1, r2⟩ := ih (a + 1) n w1 Z1 t1 _ (imx most (sP (stS kd0 ch0 S) p)) m1 y1 (by omega) (by omega) (by omega)
    refine ⟨w2, ?_, o1.tr r2⟩
    show hX8_greatest_31 (loX8_greatest n) w 72 (nI p) most (nI a) = _
    unfold hX8_greatest_31
    rw [if_neg h3, s1', Option.bind_some, m1.g7, Option.bind_some, e, Option.bind_some, larger_s, Option.bind_some, nI_1, gr]
    exact r1
theorem ag_X7_greatest (a : Int32) : agr (fX7_greatest WN 0 a) (fun w => fX8_greatest w 72 a) := by
  by_cases ha : 0 ≤ a ∧ a ≤ 5
  · obtain ⟨p, hp, rfl⟩ := rn (n := 5) (by decide) ha
    refine agM (v := gr kd0 ch0 p 200 S0 (sP S0 p)) ?_ ?_
    · obtain ⟨w1, t1, c1, c2, c3, c4⟩ := oc_cp Off.rf an20
      obtain ⟨q1, q2⟩ := oc_P c2 (p := p) (by omega)
      obtain ⟨w2, d1, d2⟩ := great_loop (p := p) (by omega) 200 0 FU w1 S0 t1 (sP S0 p) c4 c2 (by rw [i_lt]; omega) (by omega) (by unfold FU; omega)
      refine ⟨w2, ?_, d2⟩
      unfold fX7_greatest eX7_greatest
      rw [if_pos o7, isPr, Option.bind_some, if_pos ha, if_neg n10, oc_5 Off.rf, Option.bind_some, oc_4 Off.rf, Option.bind_some, c1, Option.bind_some, oc_5 c4, Option.bind_some, q1, Option.bind_some, q2, Option.bind_some]
      exact d1
    · intro w hw
      have hm := oc_M hw
      obtain ⟨w1, Z1, c1, c2, c3, c4, c5⟩ := mcp hm zs0
      obtain ⟨w2, d1, d2⟩ := mgreat_loop (p := p) (by omega) 200 0 FU w1 Z1 0 S0 (sP S0 p) c2 c4 (by rw [sk0]; omega) (by omega) (by unfold FU; omega)
      have e : aI w1 0 78 (nI p) = some (sP S0 p) := by
        rw [← zs0.2.1 p (by omega), ← c5 (0 + p) (by omega), Nat.zero_add]
        exact c2.z (by omega)
      refine ⟨w2, ?_, (c3.tr d2).1, (c3.tr d2).2.1⟩
      show fX8_greatest w 72 (nI p) = _
      unfold fX8_greatest eX8_greatest
      rw [if_pos hm.o, in8 w _ 0 5 _ _ (by decide) (by decide), Option.bind_some, if_pos ha, if_neg n10, c1, Option.bind_some, c2.g7, Option.bind_some, e, Option.bind_some]
      exact d1
  · refine agB ?_ ?_
    · unfold fX7_greatest eX7_greatest
      rw [if_pos o7, isPr, Option.bind_some, if_neg ha]; rfl
    · show fX8_greatest WN 72 a = _
      unfold fX8_greatest eX8_greatest
      rw [if_pos o8, in8 WN _ 0 5 _ _ (by decide) (by decide), Option.bind_some, if_neg ha]; rfl
def oft (kd ch : Nat → Int32) (f : Int32) : Nat → PS → Int32 → Int32
  | 0, _, m => m
  | n + 1, S, m => oft kd ch f n (stS kd ch S) (if nxt kd ch S = f then m + (if twi kd ch S (nxt kd ch S).toNatClampNeg = true then 2 else 1) else m)
theorem often_loop {f : Int32} (hf : ¬ f = -4) : ∀ (m a n : Nat) (w : XW) (S : PS) (ti times : Int32), Off sC WN w → Cl w 20 S ti → a + m = 200 → m + 1 ≤ n → ∃ w', loX7_often n w 0 f times (nI a) = some (oft kd0 ch0 f m S times, w') ∧ Off sC WN w' := by
  intro m
  induction m with
  | zero =>
    intro a n w S ti most ho hC ha hn
    obtain ⟨n, rfl⟩ : ∃ z, n = z + 1 := ⟨n - 1, by omega⟩
    have h2 : a = 200 := by omega
    subst h2
    refine ⟨w, ?_, ho⟩
    show hX7_often_25 (loX7_often n) w 0 f most (nI 200) = _
    unfold hX7_often_25
    rw [if_pos (by decide)]
    rfl
  | succ m ih =>
    intro a n w S ti most ho hC ha hn
    obtain ⟨n, rfl⟩ : ∃ z, n = z + 1 := ⟨n - 1, by omega⟩
    have h3 : ¬ (200 : Int32) ≤ nI a := nI_ge (a := a) (b := 200) (by omega) (by omega)
    obtain ⟨w1, t1, g1, g2, g3, g4⟩ := takeStep_spec hC (oc_F ho) (by omega)
    have o1 := ho.tr (oc_t g3)
    show ∃ w', hX7_often_25 (loX7_often n) w 0 f most (nI a) = some (oft kd0 ch0 f (m + 1) S most, w') ∧ Off sC WN w'
    unfold hX7_often_25
    rw [if_neg h3, oc_5 ho, Option.bind_some, oc_2 ho, Option.bind_some, g1, Option.bind_some, oft]
    show ∃ w', (if nxt kd0 ch0 S = f then _ else _) = _ ∧ _
    by_cases e : nxt kd0 ch0 S = f
    · have e6 : gI w1 20 5 6 = some t1 := by
        obtain ⟨_, P, R, s1, _⟩ := g2
        exact gI_at s1.1 rfl
      rw [if_pos e, if_pos e, oc_5 o1, Option.bind_some, e6, Option.bind_some, g4 (by rw [e]; exact hf)]
      unfold bX7_often_57
      rw [nI_1]
      exact ih (a + 1) n w1 _ t1 _ o1 g2 (by omega) (by omega)
    · rw [if_neg e, if_neg e]
      unfold bX7_often_57
      rw [nI_1]
      exact ih (a + 1) n w1 _ t1 _ o1 g2 (by omega) (by omega)
theorem add0 (x : Int32) : x + 0 = x := Int32.add_zero x
theorem moften_loop {f : Int32} (hf : ¬ f = -4) : ∀ (m a n : Nat) (w : XW) (Z : Nat → Int32) (tw : Int32) (S : PS) (most : Int32), Mo w kd0 ch0 Z tw → zS Z 198 S → sk S + m < 2 ^ 30 → a + m = 200 → m + 1 ≤ n → ∃ w', loX8_often n w 72 f most (nI a) = some (oft kd0 ch0 f m S most, w') ∧ Off sZ w w' := by
  intro m
  induction m with
  | zero =>
    intro a n w Z tw S most h hz hk ha hn
    obtain ⟨n, rfl⟩ : ∃ z, n = z + 1 := ⟨n - 1, by omega⟩
    have h2 : a = 200 := by omega
    subst h2
    refine ⟨w, ?_, Off.rf⟩
    show hX8_often_22 (loX8_often n) w 72 f most (nI 200) = _
    unfold hX8_often_22
    rw [if_pos (by decide)]
    rfl
  | succ m ih =>
    intro a n w Z tw S most h hz hk ha hn
    obtain ⟨n, rfl⟩ : ∃ z, n = z + 1 := ⟨n - 1, by omega⟩
    have h3 : ¬ (200 : Int32) ≤ nI a := nI_ge (a := a) (b := 200) (by omega) (by omega)
    obtain ⟨w1, Z1, t1, s1, m1, o1, y1, x1, g4⟩ := step_spec h hz (by omega) (by omega)
    have s1' : fX8_step w 72 198 = some (nxt kd0 ch0 S, w1) := s1
    have hs := sk_st (kd := kd0) (ch := ch0) (S := S)
    show ∃ w', hX8_often_22 (loX8_often n) w 72 f most (nI a) = some (oft kd0 ch0 f (m + 1) S most, w') ∧ Off sZ w w'
    unfold hX8_often_22
    rw [if_neg h3, s1', Option.bind_some, oft]
    show ∃ w', (if nxt kd0 ch0 S = f then _ else _) = _ ∧ _
    by_cases e : nxt kd0 ch0 S = f
    · rw [if_pos e, if_pos e, m1.gt, Option.bind_some, g4 (by rw [e]; exact hf)]
      unfold bX8_often_49
      rw [nI_1]
      obtain ⟨w2, r1, r2⟩ := ih (a + 1) n w1 Z1 t1 _ _ m1 y1 (by omega) (by omega) (by omega)
      exact ⟨w2, r1, o1.tr r2⟩
    · rw [if_neg e, if_neg e]
      unfold bX8_often_49
      rw [nI_1, add0]
      obtain ⟨w2, r1, r2⟩ := ih (a + 1) n w1 Z1 t1 _ _ m1 y1 (by omega) (by omega) (by omega)
      exact ⟨w2, r1, o1.tr r2⟩
theorem isF2 {w : XW} {kd ch Z : Nat → Int32} {tw : Int32} (h : Mo w kd ch Z tw) (f : Int32) : fX8_isFraction w 72 f = some (if 0 ≤ f ∧ f ≤ 5 then 1 else 0, w) := by
  unfold fX8_isFraction eX8_isFraction
  rw [if_pos h.o, gI_at (k := 0) h.1 rfl, Option.bind_some, in8 w f 0 5 _ _ (by decide) (by decide), Option.bind_some]
  by_cases c : 0 ≤ f ∧ f ≤ 5
  · simp only [if_pos c]; rfl
  · simp only [if_neg c]; rfl
theorem ag_X7_often (a : Int32) : agr (fX7_often WN 0 a) (fun w => fX8_often w 72 a) := by
  by_cases ha : 0 ≤ a ∧ a ≤ 5
  · have h4 : ¬ a = -4 := by
      intro z
      have := ha.1
      rw [z] at this
      exact absurd this (by decide)
    refine agM (v := oft kd0 ch0 a 200 S0 0) ?_ ?_
    · obtain ⟨w1, t1, c1, c2, c3, c4⟩ := oc_cp Off.rf an20
      obtain ⟨w2, d1, d2⟩ := often_loop h4 200 0 FU w1 S0 t1 0 c4 c2 (by omega) (by unfold FU; omega)
      refine ⟨w2, ?_, d2⟩
      unfold fX7_often eX7_often
      rw [if_pos o7, isT, Option.bind_some, if_pos ha, if_neg n10, oc_5 Off.rf, Option.bind_some, oc_4 Off.rf, Option.bind_some, c1, Option.bind_some]
      exact d1
    · intro w hw
      have hm := oc_M hw
      obtain ⟨w1, Z1, c1, c2, c3, c4, c5⟩ := mcp hm zs0
      obtain ⟨w2, d1, d2⟩ := moften_loop h4 200 0 FU w1 Z1 0 S0 0 c2 c4 (by rw [sk0]; omega) (by omega) (by unfold FU; omega)
      refine ⟨w2, ?_, (c3.tr d2).1, (c3.tr d2).2.1⟩
      show fX8_often w 72 a = _
      unfold fX8_often eX8_often
      rw [if_pos hm.o, isF2 hm, Option.bind_some, if_pos ha, if_neg n10, c1, Option.bind_some]
      exact d1
  · refine agB ?_ ?_
    · unfold fX7_often eX7_often
      rw [if_pos o7, isT, Option.bind_some, if_neg ha]; rfl
    · show fX8_often WN 72 a = _
      unfold fX8_often eX8_often
      rw [if_pos o8, isF2 mo0, Option.bind_some, if_neg ha]; rfl
