/-! a step of the model, many of them, a slot copied -/
theorem or2 (x y : Int32) : (x ||| y) ||| y = x ||| y := by rw [Int32.or_assoc, Int32.or_self]
theorem uses_loop {kd ch : Nat → Int32} {tw : Int32} {b f : Nat} (hb : b ≤ 216) (hf : f < 8) : ∀ (m p n : Nat) (w : XW) (Z : Nat → Int32), Mo w kd ch Z tw → p + m = 6 → m + 1 ≤ n → ∃ w' Z', loX8_uses n w 72 (nI b) (nI f) (nI p) = some w' ∧ Mo w' kd ch Z' tw ∧ Off sZ w w' ∧ (∀ q, p ≤ q → q < 6 → Z' (b + q) = Z (b + q) + ch (6 * f + q)) ∧ Z' (b + 15) = Z (b + 15) ||| ((1 : Int32) <<< (nI f &&& 31)) ∧ (∀ x, x ≠ b + 15 → (x < b + p ∨ b + 6 ≤ x) → Z' x = Z x) := by
  intro m
  induction m with
  | zero =>
    intro p n w Z h hp hn
    obtain ⟨n, rfl⟩ : ∃ z, n = z + 1 := ⟨n - 1, by omega⟩
    have hp6 : p = 6 := by omega
    subst hp6
    obtain ⟨w1, s1, m1, o1⟩ := h.so (a := b) (c := 15) (by omega) (Z (b + 15) ||| ((1 : Int32) <<< (nI f &&& 31)))
    have e15 : aI w 0 78 (nI b + 15) = some (Z (b + 15)) := h.zo (c := 15) (by omega)
    have s1' : sI w 0 78 (nI b + 15) (Z (b + 15) ||| ((1 : Int32) <<< (nI f &&& 31))) = some w1 := s1
    refine ⟨w1, _, ?_, m1, o1, fun q h1 h2 => by omega, pk_us, fun x hx _ => pk_un hx⟩
    show hX8_uses_2 (loX8_uses n) w 72 (nI b) (nI f) (nI 6) = _
    unfold hX8_uses_2
    rw [if_pos (by decide), h.g7, Option.bind_some, e15, Option.bind_some, s1', Option.bind_some]
  | succ m ih =>
    intro p n w Z h hp hn
    obtain ⟨n, rfl⟩ : ∃ z, n = z + 1 := ⟨n - 1, by omega⟩
    have hlt : ¬ (6 : Int32) ≤ nI p := nI_ge (a := p) (b := 6) (by omega) (by omega)
    obtain ⟨w1, s1, m1, o1⟩ := h.so (a := b) (c := p) (by omega) (Z (b + p) + ch (6 * f + p))
    obtain ⟨w2, Z2, r1, r2, r3, r4, r5, r6⟩ := ih (p + 1) n w1 _ m1 (by omega) (by omega)
    refine ⟨w2, Z2, ?_, r2, o1.tr r3, ?_, ?_, ?_⟩
    · show hX8_uses_2 (loX8_uses n) w 72 (nI b) (nI f) (nI p) = _
      unfold hX8_uses_2
      rw [if_neg hlt, h.g7, Option.bind_some, h.zo (by omega), Option.bind_some, h.g2, Option.bind_some, h.c hf (by omega), Option.bind_some, s1, Option.bind_some, nI_1]
      exact r1
    · intro q h1 h2
      by_cases e : q = p
      · subst e
        rw [r6 (b + q) (by omega) (by omega)]
        exact pk_us
      · rw [r4 q (by omega) h2, pk_un (by omega)]
    · rw [r5, pk_un (by omega)]
    · intro x h1 h2
      rw [r6 x h1 (by omega), pk_un (by omega)]
theorem uses_spec {w : XW} {kd ch Z : Nat → Int32} {tw : Int32} (h : Mo w kd ch Z tw) {b f : Nat} (hb : b ≤ 216) (hf : f < 8) : ∃ w' Z', fX8_uses w 72 (nI b) (nI f) = some w' ∧ Mo w' kd ch Z' tw ∧ Off sZ w w' ∧ (∀ q, q < 6 → Z' (b + q) = Z (b + q) + ch (6 * f + q)) ∧ Z' (b + 15) = Z (b + 15) ||| ((1 : Int32) <<< (nI f &&& 31)) ∧ (∀ x, x ≠ b + 15 → (x < b ∨ b + 6 ≤ x) → Z' x = Z x) := by
  obtain ⟨w2, Z2, r1, r2, r3, r4, r5, r6⟩ := uses_loop (kd := kd) (ch := ch) (tw := tw) hb hf 6 0 FU w Z h rfl (by unfold FU; omega)
  refine ⟨w2, Z2, ?_, r2, r3, fun q hq => r4 q (by omega) hq, r5, fun x h1 h2 => r6 x h1 h2⟩
  unfold fX8_uses
  rw [if_pos h.o]
  exact r1
theorem step59 {w : XW} {kd ch Z : Nat → Int32} {tw : Int32} (h : Mo w kd ch Z tw) {b f : Nat} (hb : b ≤ 216) (hf : f < 8) : ∃ w' Z', bX8_step_59 w 72 (nI b) (nI f) = some (nI f, w') ∧ Mo w' kd ch Z' tw ∧ Off sZ w w' ∧ Z' (b + 16) = Z (b + 16) + 1 ∧ Z' (b + 17) = bi (decide (kd f = 5)) ∧ (∀ x, x ≠ b + 16 → x ≠ b + 17 → Z' x = Z x) := by
  obtain ⟨w1, s1, m1, o1⟩ := h.so (a := b) (c := 16) (by omega) (Z (b + 16) + 1)
  obtain ⟨w2, s2, m2, o2⟩ := m1.so (a := b) (c := 17) (by omega) (bi (decide (kd f = 5)))
  have e16 : aI w 0 78 (nI b + 16) = some (Z (b + 16)) := h.zo (c := 16) (by omega)
  have s1' : sI w 0 78 (nI b + 16) (Z (b + 16) + 1) = some w1 := s1
  have s2' : sI w1 0 78 (nI b + 17) (bi (decide (kd f = 5))) = some w2 := s2
  refine ⟨w2, _, ?_, m2, o1.tr o2, ?_, pk_us, ?_⟩
  · unfold bX8_step_59
    rw [h.g7, Option.bind_some, e16, Option.bind_some, s1', Option.bind_some, m1.g7, Option.bind_some, m1.g1, Option.bind_some, m1.k hf, Option.bind_some]
    by_cases c : kd f = 5
    · rw [if_pos c]
      rw [decide_eq_true c] at s2'
      unfold bX8_step_95
      rw [show (1 : Int32) = bi true from rfl, s2']; rfl
    · rw [if_neg c]
      rw [decide_eq_false c] at s2'
      unfold bX8_step_95
      rw [show (0 : Int32) = bi false from rfl, s2']; rfl
  · rw [pk_un (by omega)]; exact pk_us
  · intro x h1 h2
    rw [pk_un h2, pk_un h1]
theorem sk_st {kd ch : Nat → Int32} {S : PS} : sk (stS kd ch S) ≤ sk S + 1 := by
  unfold stS
  split
  · omega
  · exact Nat.le_refl _
theorem step_spec {w : XW} {kd ch Z : Nat → Int32} {tw : Int32} (h : Mo w kd ch Z tw) {b : Nat} {S : PS} (hz : zS Z b S) (hb : b ≤ 216) (hk : sk S < 2 ^ 30) : ∃ w' Z' tw', fX8_step w 72 (nI b) = some (nxt kd ch S, w') ∧ Mo w' kd ch Z' tw' ∧ Off sZ w w' ∧ zS Z' b (stS kd ch S) ∧ (∀ x, x < b ∨ b + 18 ≤ x → Z' x = Z x) ∧ (¬ nxt kd ch S = -4 → tw' = if twi kd ch S (nxt kd ch S).toNatClampNeg = true then 2 else 1) := by
  have hw := who_spec h hz hb (by omega)
  have hzz := hz
  obtain ⟨z0, z1, z2, z3, z4, z5, z6⟩ := hz
  have hr8 := z0.1
  unfold fX8_step
  rw [if_pos h.o]
  unfold eX8_step
  rw [hw, Option.bind_some]
  rcases nxt_c (kd := kd) (ch := ch) z0 with e | ⟨f, hf, e, hc⟩
  · refine ⟨w, Z, tw, ?_, h, Off.rf, ?_, fun _ _ => rfl, fun z => absurd e z⟩
    · simp only [e]; rfl
    · unfold stS; rw [if_pos e]; exact hzz
  · have hn4 : ¬ nxt kd ch S = -4 := by rw [e]; exact nI_n4 (by omega)
    have hcl : (nxt kd ch S).toNatClampNeg = f := by rw [e]; exact nI_cl (by omega)
    have hstS : stS kd ch S = stF kd ch S f := by unfold stS; rw [if_neg hn4, hcl]
    rw [hstS, hcl]
    simp only [e]
    rw [if_neg (nI_nn (by omega))]
    obtain ⟨w1, Z1, u1, m1, o1, p1, b1, x1⟩ := uses_spec h hb hf
    rw [u1, Option.bind_some, m1.g1, Option.bind_some, m1.k hf, Option.bind_some]
    have hP1 : ∀ q, q < 6 → Z1 (b + q) = sP S q + ch (6 * f + q) := fun q hq => by rw [p1 q hq, z1 q hq]
    have hfit : fits6 (fun q => Z1 (b + q)) ch f = fits6 (fun q => sP S q + ch (6 * f + q)) ch f := fits6_cg hP1
    have hend : ∀ (v : XW) (Y : Nat → Int32) (t : Int32), Mo v kd ch Y t → Off sZ w v → (∀ q, q < 6 → Y (b + q) = sP (stF kd ch S f) q) → Y (b + 15) = su S ||| ((1 : Int32) <<< (nI f &&& 31)) → (∀ x, x ≠ b + 15 → (x < b ∨ b + 6 ≤ x) → Y x = Z x) → ∃ w' Z' tw', bX8_step_59 v 72 (nI b) (nI f) = some (nI f, w') ∧ Mo w' kd ch Z' tw' ∧ Off sZ w w' ∧ zS Z' b (stF kd ch S f) ∧ (∀ x, x < b ∨ b + 18 ≤ x → Z' x = Z x) ∧ tw' = t := by
      intro v Y t g1 g2 g3 g4 g5
      obtain ⟨w2, Z2, a1, a2, a3, a4, a5, a6⟩ := step59 g1 hb hf
      refine ⟨w2, Z2, t, a1, a2, g2.tr a3, ⟨z0, fun q hq => ?_, fun p hp => ?_, ?_, ?_, ?_, a5⟩, fun x hx => ?_, rfl⟩
      · rw [a6 _ (by omega) (by omega), g3 q hq]
      · have hp' : p < sr S := hp
        rw [a6 _ (by omega) (by omega), g5 _ (by omega) (by omega)]
        exact z2 p hp
      · rw [a6 _ (by omega) (by omega), g5 _ (by omega) (by omega)]
        exact z3
      · rw [a6 _ (by omega) (by omega), g4]; rfl
      · rw [a4, g5 _ (by omega) (by omega), z5, nI_1]; rfl
      · rw [a6 _ (by omega) (by omega), g5 _ (by omega) (by omega)]
    have h1 : ¬ twi kd ch S f = true → ∃ w' Z' tw', bX8_step_41 w1 72 (nI b) (nI f) 72 = some (nI f, w') ∧ Mo w' kd ch Z' tw' ∧ Off sZ w w' ∧ zS Z' b (stF kd ch S f) ∧ (∀ x, x < b ∨ b + 18 ≤ x → Z' x = Z x) ∧ tw' = 1 := by
      intro ht
      obtain ⟨w2, t1, m2, o2⟩ := m1.t 1
      unfold bX8_step_41 bX8_step_42
      rw [t1, Option.bind_some, m2.gt, Option.bind_some, if_neg (by decide)]
      refine hend w2 Z1 1 m2 (o1.tr o2) (fun q hq => ?_) ?_ x1
      · rw [hP1 q hq]
        show _ = (if twi kd ch S f = true then _ else _)
        rw [if_neg ht]
      · rw [b1, z4]
    by_cases c3 : kd f = 3
    · rw [if_pos c3, fits_spec m1 hb hf, hfit, Option.bind_some]
      by_cases c6 : fits6 (fun q => sP S q + ch (6 * f + q)) ch f = true
      · have ht : twi kd ch S f = true := by unfold twi; rw [c6, decide_eq_true c3]; rfl
        rw [c6, if_neg (show ¬ bi true = 0 by decide)]
        obtain ⟨w2, t1, m2, o2⟩ := m1.t 2
        obtain ⟨w3, Z3, u3, m3, o3, p3, b3, x3⟩ := uses_spec m2 hb hf
        unfold bX8_step_42
        rw [t1, Option.bind_some, m2.gt, Option.bind_some, if_pos rfl, u3, Option.bind_some]
        obtain ⟨w', Z', tw', k1, k2, k3, k4, k5, k6⟩ := hend w3 Z3 2 m3 ((o1.tr o2).tr o3) (fun q hq => by
          rw [p3 q hq, hP1 q hq]
          show _ = (if twi kd ch S f = true then _ else _)
          rw [if_pos ht]) (by rw [b3, b1, z4, or2]) (fun x hx1 hx2 => by rw [x3 x hx1 hx2, x1 x hx1 hx2])
        exact ⟨w', Z', tw', k1, k2, k3, k4, k5, fun _ => by rw [if_pos ht]; exact k6⟩
      · have ht : ¬ twi kd ch S f = true := by unfold twi; rw [Bool.and_eq_true]; exact fun z => c6 z.2
        have c6' : fits6 (fun q => sP S q + ch (6 * f + q)) ch f = false := by simpa using c6
        rw [c6', if_pos (show bi false = 0 by decide)]
        obtain ⟨w', Z', tw', k1, k2, k3, k4, k5, k6⟩ := h1 ht
        exact ⟨w', Z', tw', k1, k2, k3, k4, k5, fun _ => by rw [if_neg ht]; exact k6⟩
    · have ht : ¬ twi kd ch S f = true := by unfold twi; rw [Bool.and_eq_true, decide_eq_true_eq]; exact fun z => c3 z.1
      rw [if_neg c3]
      obtain ⟨w', Z', tw', k1, k2, k3, k4, k5, k6⟩ := h1 ht
      exact ⟨w', Z', tw', k1, k2, k3, k4, k5, fun _ => by rw [if_neg ht]; exact k6⟩
theorem copies_loop {kd ch : Nat → Int32} {tw : Int32} {b t : Nat} (hb : b ≤ 216) (ht : t ≤ 216) (hbt : b + 18 ≤ t ∨ t + 18 ≤ b) : ∀ (m p n : Nat) (w : XW) (Z : Nat → Int32), Mo w kd ch Z tw → p + m = 18 → m + 1 ≤ n → ∃ w' Z', loX8_copies n w 72 (nI b) (nI t) (nI p) = some w' ∧ Mo w' kd ch Z' tw ∧ Off sZ w w' ∧ (∀ q, p ≤ q → q < 18 → Z' (t + q) = Z (b + q)) ∧ (∀ x, x < t + p ∨ t + 18 ≤ x → Z' x = Z x) := by
  intro m
  induction m with
  | zero =>
    intro p n w Z h hp hn
    obtain ⟨n, rfl⟩ : ∃ z, n = z + 1 := ⟨n - 1, by omega⟩
    have hp6 : p = 18 := by omega
    subst hp6
    refine ⟨w, Z, ?_, h, Off.rf, fun q h1 h2 => by omega, fun _ _ => rfl⟩
    show hX8_copies_2 (loX8_copies n) w 72 (nI b) (nI t) (nI 18) = _
    unfold hX8_copies_2
    rw [if_pos (by decide)]
  | succ m ih =>
    intro p n w Z h hp hn
    obtain ⟨n, rfl⟩ : ∃ z, n = z + 1 := ⟨n - 1, by omega⟩
    have hlt : ¬ (18 : Int32) ≤ nI p := nI_ge (a := p) (b := 18) (by omega) (by omega)
    obtain ⟨w1, s1, m1, o1⟩ := h.so (a := t) (c := p) (by omega) (Z (b + p))
    obtain ⟨w2, Z2, r1, r2, r3, r4, r5⟩ := ih (p + 1) n w1 _ m1 (by omega) (by omega)
    refine ⟨w2, Z2, ?_, r2, o1.tr r3, ?_, ?_⟩
    · show hX8_copies_2 (loX8_copies n) w 72 (nI b) (nI t) (nI p) = _
      unfold hX8_copies_2
      rw [if_neg hlt, h.g7, Option.bind_some, Option.bind_some, h.zo (by omega), Option.bind_some, s1, Option.bind_some, nI_1]
      exact r1
    · intro q h1 h2
      by_cases e : q = p
      · subst e
        rw [r5 (t + q) (by omega)]
        exact pk_us
      · rw [r4 q (by omega) h2, pk_un (by omega)]
    · intro x h2
      rw [r5 x (by omega), pk_un (by omega)]
theorem copies_spec {w : XW} {kd ch Z : Nat → Int32} {tw : Int32} (h : Mo w kd ch Z tw) {b t : Nat} (hb : b ≤ 216) (ht : t ≤ 216) (hbt : b + 18 ≤ t ∨ t + 18 ≤ b) {S : PS} (hz : zS Z b S) : ∃ w' Z', fX8_copies w 72 (nI b) (nI t) = some w' ∧ Mo w' kd ch Z' tw ∧ Off sZ w w' ∧ zS Z' t S ∧ (∀ x, x < t ∨ t + 18 ≤ x → Z' x = Z x) := by
  obtain ⟨w2, Z2, r1, r2, r3, r4, r5⟩ := copies_loop (kd := kd) (ch := ch) (tw := tw) hb ht hbt 18 0 FU w Z h rfl (by unfold FU; omega)
  obtain ⟨z0, z1, z2, z3, z4, z5, z6⟩ := hz
  have hr8 := z0.1
  refine ⟨w2, Z2, ?_, r2, r3, ⟨z0, fun q hq => ?_, fun p hp => ?_, ?_, ?_, ?_, ?_⟩, fun x hx => r5 x hx⟩
  · unfold fX8_copies
    rw [if_pos h.o]
    exact r1
  · rw [r4 q (by omega) (by omega)]; exact z1 q hq
  · rw [show t + 6 + p = t + (6 + p) by omega, r4 (6 + p) (by omega) (by omega), show b + (6 + p) = b + 6 + p by omega]; exact z2 p hp
  · rw [r4 14 (by omega) (by omega)]; exact z3
  · rw [r4 15 (by omega) (by omega)]; exact z4
  · rw [r4 16 (by omega) (by omega)]; exact z5
  · rw [r4 17 (by omega) (by omega)]; exact z6
theorem goes_loop {kd ch : Nat → Int32} {b : Nat} (hb : b ≤ 216) : ∀ (m a n : Nat) (w : XW) (Z : Nat → Int32) (tw : Int32) (S : PS), Mo w kd ch Z tw → zS Z b S → a + m < 4000 → sk S + m < 2 ^ 30 → m + 1 ≤ n → ∃ w' Z' tw', loX8_goes n w 72 (nI b) (nI (a + m)) (nI a) = some w' ∧ Mo w' kd ch Z' tw' ∧ Off sZ w w' ∧ zS Z' b (itS kd ch m S) ∧ (∀ x, x < b ∨ b + 18 ≤ x → Z' x = Z x) := by
  intro m
  induction m with
  | zero =>
    intro a n w Z tw S h hz ha hk hn
    obtain ⟨n, rfl⟩ : ∃ z, n = z + 1 := ⟨n - 1, by omega⟩
    refine ⟨w, Z, tw, ?_, h, Off.rf, hz, fun _ _ => rfl⟩
    show hX8_goes_2 (loX8_goes n) w 72 (nI b) (nI (a + 0)) (nI a) = _
    unfold hX8_goes_2
    rw [if_pos (nI_le (by omega) (by omega))]
  | succ m ih =>
    intro a n w Z tw S h hz ha hk hn
    obtain ⟨n, rfl⟩ : ∃ z, n = z + 1 := ⟨n - 1, by omega⟩
    obtain ⟨w1, Z1, t1, s1, m1, o1, y1, x1, _⟩ := step_spec h hz hb (by omega)
    have := sk_st (kd := kd) (ch := ch) (S := S)
    obtain ⟨w2, Z2, t2, r1, r2, r3, r4, r5⟩ := ih (a + 1) n w1 Z1 t1 _ m1 y1 (by omega) (by omega) (by omega)
    refine ⟨w2, Z2, t2, ?_, r2, o1.tr r3, r4, fun x hx => by rw [r5 x hx, x1 x hx]⟩
    show hX8_goes_2 (loX8_goes n) w 72 (nI b) (nI (a + (m + 1))) (nI a) = _
    unfold hX8_goes_2
    rw [if_neg (nI_ge (by omega) (by omega)), s1, Option.bind_some, nI_1, show a + (m + 1) = a + 1 + m by omega]
    exact r1
theorem goes_spec {w : XW} {kd ch Z : Nat → Int32} {tw : Int32} (h : Mo w kd ch Z tw) {b n : Nat} (hb : b ≤ 216) {S : PS} (hz : zS Z b S) (hn : n < 4000) (hk : sk S + n < 2 ^ 30) : ∃ w' Z' tw', fX8_goes w 72 (nI b) (nI n) = some w' ∧ Mo w' kd ch Z' tw' ∧ Off sZ w w' ∧ zS Z' b (itS kd ch n S) ∧ (∀ x, x < b ∨ b + 18 ≤ x → Z' x = Z x) := by
  obtain ⟨w2, Z2, t2, r1, r2, r3, r4, r5⟩ := goes_loop (kd := kd) (ch := ch) hb n 0 FU w Z tw S h hz (by omega) hk (by unfold FU; omega)
  refine ⟨w2, Z2, t2, ?_, r2, r3, r4, r5⟩
  unfold fX8_goes
  rw [if_pos h.o]
  rw [Nat.zero_add] at r1
  exact r1
theorem restsBy_loop {kd ch : Nat → Int32} {b : Nat} (hb : b ≤ 216) : ∀ (m a n : Nat) (w : XW) (Z : Nat → Int32) (tw : Int32) (S : PS), Mo w kd ch Z tw → zS Z b S → a + m = 200 → sk S + m < 2 ^ 30 → m + 2 ≤ n → ∃ w' Z' tw', loX8_restsBy n w 72 (nI b) (nI a) = some (if nxt kd ch (itS kd ch m S) = -4 then nI (a + mkS kd ch m S) else -4, w') ∧ Mo w' kd ch Z' tw' ∧ Off sZ w w' ∧ zS Z' b (itS kd ch m S) ∧ (∀ x, x < b ∨ b + 18 ≤ x → Z' x = Z x) := by
  intro m
  induction m with
  | zero =>
    intro a n w Z tw S h hz ha hk hn
    obtain ⟨n, rfl⟩ : ∃ z, n = z + 2 := ⟨n - 2, by omega⟩
    have ha2 : a = 200 := by omega
    subst ha2
    refine ⟨w, Z, tw, ?_, h, Off.rf, hz, fun _ _ => rfl⟩
    show hX8_restsBy_2 (loX8_restsBy (n + 1)) w 72 (nI b) (nI 200) = _
    unfold hX8_restsBy_2
    rw [if_neg (by decide), who_spec h hz hb (by omega), Option.bind_some]
    show _ = some (if nxt kd ch S = -4 then nI (200 + 0) else -4, w)
    rcases nxt_c (kd := kd) (ch := ch) hz.1 with e | ⟨f, hf, e, hc⟩
    · rw [if_pos e]
      simp only [e]
      rfl
    · have hn4 : ¬ nxt kd ch S = -4 := by rw [e]; exact nI_n4 (by omega)
      have hp : 0 ≤ nxt kd ch S := by rw [e]; exact nI_pos' (by omega)
      rw [if_neg hn4]
      show (if 0 ≤ nxt kd ch S then _ else _) = _
      rw [if_pos hp, if_pos (by decide)]
      rfl
  | succ m ih =>
    intro a n w Z tw S h hz ha hk hn
    obtain ⟨n, rfl⟩ : ∃ z, n = z + 1 := ⟨n - 1, by omega⟩
    show ∃ w' Z' tw', hX8_restsBy_2 (loX8_restsBy n) w 72 (nI b) (nI a) = some (if nxt kd ch (itS kd ch m (stS kd ch S)) = -4 then nI (a + (if nxt kd ch S = -4 then 0 else mkS kd ch m (stS kd ch S) + 1)) else -4, w') ∧ Mo w' kd ch Z' tw' ∧ Off sZ w w' ∧ zS Z' b (itS kd ch m (stS kd ch S)) ∧ (∀ x, x < b ∨ b + 18 ≤ x → Z' x = Z x)
    have h200 : ¬ (200 : Int32) < nI a := nI_nlt (a := 200) (b := a) (by omega) (by omega)
    unfold hX8_restsBy_2
    rw [if_neg h200, who_spec h hz hb (by omega), Option.bind_some]
    rcases nxt_c (kd := kd) (ch := ch) hz.1 with e | ⟨f, hf, e, hc⟩
    · have e2 : stS kd ch S = S := by unfold stS; rw [if_pos e]
      rw [e2, itS_r e, if_pos e, if_pos e]
      refine ⟨w, Z, tw, ?_, h, Off.rf, hz, fun _ _ => rfl⟩
      simp only [e]
      rfl
    · have hn4 : ¬ nxt kd ch S = -4 := by rw [e]; exact nI_n4 (by omega)
      obtain ⟨w1, Z1, t1, s1, m1, o1, y1, x1, _⟩ := step_spec h hz hb (by omega)
      have := sk_st (kd := kd) (ch := ch) (S := S)
      obtain ⟨w2, Z2, t2, r1, r2, r3, r4, r5⟩ := ih (a + 1) n w1 Z1 t1 _ m1 y1 (by omega) (by omega) (by omega)
      refine ⟨w2, Z2, t2, ?_, r2, o1.tr r3, r4, fun x hx => by rw [r5 x hx, x1 x hx]⟩
      rw [if_neg hn4]
      have hp : 0 ≤ nxt kd ch S := by rw [e]; exact nI_pos' (by omega)
      have h3 : ¬ (200 : Int32) ≤ nI a := nI_ge (a := a) (b := 200) (by omega) (by omega)
      show (if 0 ≤ nxt kd ch S then _ else _) = _
      rw [if_pos hp, if_neg h3, s1, Option.bind_some]
      unfold bX8_restsBy_33
      rw [nI_1, show a + (mkS kd ch m (stS kd ch S) + 1) = a + 1 + mkS kd ch m (stS kd ch S) by omega]
      exact r1
theorem restsBy_spec {w : XW} {kd ch Z : Nat → Int32} {tw : Int32} (h : Mo w kd ch Z tw) {b : Nat} (hb : b ≤ 216) {S : PS} (hz : zS Z b S) (hk : sk S + 200 < 2 ^ 30) : ∃ w' Z' tw', fX8_restsBy w 72 (nI b) = some (rsS kd ch 200 S, w') ∧ Mo w' kd ch Z' tw' ∧ Off sZ w w' ∧ zS Z' b (itS kd ch 200 S) ∧ (∀ x, x < b ∨ b + 18 ≤ x → Z' x = Z x) := by
  obtain ⟨w2, Z2, t2, r1, r2, r3, r4, r5⟩ := restsBy_loop (kd := kd) (ch := ch) hb 200 0 FU w Z tw S h hz (by omega) hk (by unfold FU; omega)
  refine ⟨w2, Z2, t2, ?_, r2, r3, r4, r5⟩
  unfold fX8_restsBy
  rw [if_pos h.o]
  rw [Nat.zero_add] at r1
  exact r1
