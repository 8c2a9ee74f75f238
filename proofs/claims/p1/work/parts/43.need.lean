/-! which fractions are needed -/
def SD (f : Nat) : PS := (la [3, 2], fun p => if p < f then p else p + 1, 5, 0, 0, false)
theorem okSD (f : Nat) : okS (SD f) := ⟨(by decide : 5 ≤ 8), fun p (hp : p < 5) => by
  show (if p < f then p else p + 1) < 8
  split <;> omega⟩
theorem sR_at {w : XW} {i : Nat} {P R : Nat → Int32} {rs ub st en ti : Int32} (h : StA w i P R rs ub st en ti) {p : Nat} (hp : p < 8) (v : Int32) : ∃ w', sI w 0 (i + 2) (nI p) v = some w' ∧ StA w' i P (upd R p v) rs ub st en ti ∧ Off (St3 i) w w' :=
  ⟨_, sI_at h.2.2 hp (nI_cl (by omega)) (nI_nn (by omega)), h.R, Off.put ⟨by omega, by omega⟩⟩
theorem leave_loop {i f : Nat} {P : Nat → Int32} {ub st en ti : Int32} : ∀ (m p n : Nat) (w : XW) (R : Nat → Int32), StA w i P R (nI 6) ub st en ti → f ≤ p → (∀ q, q < p → R q = nI (if q < f then q else q + 1)) → (∀ q, p ≤ q → q < 6 → R q = nI q) → p + m = 5 → m + 1 ≤ n → ∃ w' R', loX5_leaveOut n w i (nI p) = some w' ∧ StA w' i P R' (nI 5) ub st 0 ti ∧ (∀ q, q < 5 → R' q = nI (if q < f then q else q + 1)) ∧ Off (St3 i) w w' := by
  have e65 : nI 6 - 1 = nI 5 := by decide
  intro m
  induction m with
  | zero =>
    intro p n w R h hfp h1 h2 hp hn
    obtain ⟨n, rfl⟩ : ∃ z, n = z + 1 := ⟨n - 1, by omega⟩
    have hp6 : p = 5 := by omega
    subst hp6
    obtain ⟨w1, a1, a2, a3⟩ := pX2 h (nI 5)
    obtain ⟨w2, b1, b2, b3⟩ := pX5 a2 0
    refine ⟨w2, R, ?_, b2, h1, a3.tr b3⟩
    show hX5_leaveOut_2 (loX5_leaveOut n) w i (nI 5) = _
    unfold hX5_leaveOut_2
    rw [gI_at (k := 2) h.1 rfl, Option.bind_some, e65, if_pos (by decide), Option.bind_some, e65, a1, Option.bind_some, b1, Option.bind_some]
  | succ m ih =>
    intro p n w R h hfp h1 h2 hp hn
    obtain ⟨n, rfl⟩ : ∃ z, n = z + 1 := ⟨n - 1, by omega⟩
    obtain ⟨w1, a1, a2, a3⟩ := sR_at h (p := p) (by omega) (nI (p + 1))
    obtain ⟨w2, R2, b1, b2, b3, b4⟩ := ih (p + 1) n w1 _ a2 (by omega) (fun q hq => by
      by_cases e : q = p
      · rw [e, if_neg (by omega)]; exact pk_us
      · rw [pk_un e]; exact h1 q (by omega)) (fun q hq1 hq2 => by rw [pk_un (by omega)]; exact h2 q (by omega) hq2) (by omega) (by omega)
    have e1 : aI w 0 (i + 2) (nI p + 1) = some (nI (p + 1)) := by
      have z := aI_at (x := nI (p + 1)) h.2.2 (j := p + 1) (by omega) (nI_cl (by omega)) (nI_nn (by omega))
      rw [h2 (p + 1) (by omega) (by omega)] at z
      rw [nI_1]
      exact z
    refine ⟨w2, R2, ?_, b2, b3, a3.tr b4⟩
    show hX5_leaveOut_2 (loX5_leaveOut n) w i (nI p) = _
    unfold hX5_leaveOut_2
    rw [gI_at (k := 2) h.1 rfl, Option.bind_some, e65, if_neg (nI_ge (by omega) (by omega)), gR_at (k := 1) h.1 rfl, Option.bind_some, Option.bind_some, e1, Option.bind_some, a1, Option.bind_some, nI_1]
    exact b1
theorem leave_spec {w : XW} {i f : Nat} {ti : Int32} (hC : Cl w i S0 ti) (hf : f < 6) : ∃ w', fX5_leaveOut w i (nI f) = some w' ∧ Cl w' i (SD f) ti ∧ Off (St3 i) w w' := by
  have ho := hC.o
  obtain ⟨h0, P, R, h1, h2, h3⟩ := hC
  have h3' : ∀ p, p < 6 → R p = nI p := h3
  obtain ⟨w2, R2, b1, b2, b3, b4⟩ := leave_loop (f := f) (5 - f) f FU w R h1 (Nat.le_refl _) (fun q hq => by rw [if_pos hq]; exact h3' q (by omega)) (fun q _ hq => h3' q hq) (by omega) (by unfold FU; omega)
  refine ⟨w2, ?_, ⟨okSD f, P, R2, b2, h2, b3⟩, b4⟩
  unfold fX5_leaveOut
  rw [if_pos ho]
  exact b1
def pq (P Q : Nat → Int32) : Nat → Nat → Bool
  | 0, _ => true
  | m + 1, p => decide (P p = Q p) && pq P Q m (p + 1)
theorem hasP_loop {w : XW} {i i2 : Nat} {S S2 : PS} {ti t2 : Int32} (h : Cl w i S ti) (h2 : Cl w i2 S2 t2) : ∀ (m p n : Nat), p + m = 6 → m + 1 ≤ n → loX5_hasPowersOf n w i i2 (nI p) = some (bi (pq (sP S) (sP S2) m p), w) := by
  intro m
  induction m with
  | zero =>
    intro p n hp hn
    obtain ⟨n, rfl⟩ : ∃ z, n = z + 1 := ⟨n - 1, by omega⟩
    have hp6 : p = 6 := by omega
    subst hp6
    show hX5_hasPowersOf_2 (loX5_hasPowersOf n) w i i2 (nI 6) = _
    unfold hX5_hasPowersOf_2
    rw [if_pos (by decide)]
    rfl
  | succ m ih =>
    intro p n hp hn
    obtain ⟨n, rfl⟩ : ∃ z, n = z + 1 := ⟨n - 1, by omega⟩
    have hlt : ¬ (6 : Int32) ≤ nI p := nI_ge (a := p) (b := 6) (by omega) (by omega)
    obtain ⟨q1, q2⟩ := oc_P h (p := p) (by omega)
    obtain ⟨q3, q4⟩ := oc_P h2 (p := p) (by omega)
    show hX5_hasPowersOf_2 (loX5_hasPowersOf n) w i i2 (nI p) = _
    unfold hX5_hasPowersOf_2
    rw [if_neg hlt, q1, Option.bind_some, q2, Option.bind_some, q3, Option.bind_some, q4, Option.bind_some, pq, nI_1]
    by_cases e : sP S p = sP S2 p
    · rw [if_pos e, decide_eq_true e]
      exact ih (p + 1) n (by omega) (by omega)
    · rw [if_neg e, decide_eq_false e]
      rfl
theorem hasP_spec {w : XW} {i i2 : Nat} {S S2 : PS} {ti t2 : Int32} (h : Cl w i S ti) (h2 : Cl w i2 S2 t2) : fX5_hasPowersOf w i i2 = some (bi (pq (sP S) (sP S2) 6 0), w) := by
  unfold fX5_hasPowersOf
  rw [if_pos h.o]
  exact hasP_loop h h2 6 0 FU rfl (by unfold FU; omega)
/-- is the fraction f needed -/
def ndf (f : Nat) : Bool := decide (rsS kd0 ch0 200 (SD f) = -4) || !pq (sP (itS kd0 ch0 200 (SD f))) (sP (itS kd0 ch0 200 S0)) 6 0
def nd : Nat → Nat → Int32 → Int32
  | 0, _, s => s
  | m + 1, f, s => nd m (f + 1) (if ndf f = true then s ||| ((1 : Int32) <<< (nI f &&& 31)) else s)
theorem need_loop : ∀ (m f n : Nat) (w : XW) (s t : Int32), Off sC WN w → anS w 20 → Cl w 23 (itS kd0 ch0 200 S0) t → f + m = 6 → m + 1 ≤ n → ∃ w', loX7_needed n w 0 s (nI f) = some (nd m f s, w') ∧ Off sC WN w' := by
  intro m
  induction m with
  | zero =>
    intro f n w s t ho ha hG hf hn
    obtain ⟨n, rfl⟩ : ∃ z, n = z + 1 := ⟨n - 1, by omega⟩
    have h6 : f = 6 := by omega
    subst h6
    have hN := oc_N ho
    obtain ⟨_, P, R, s1, _⟩ := hN
    refine ⟨w, ?_, ho⟩
    show hX7_needed_37 (loX7_needed n) w 0 s (nI 6) = _
    unfold hX7_needed_37
    rw [oc_4 ho, Option.bind_some, gI_at (k := 2) s1.1 rfl, Option.bind_some, if_pos (by decide)]
    rfl
  | succ m ih =>
    intro f n w s t ho ha hG hf hn
    obtain ⟨n, rfl⟩ : ∃ z, n = z + 1 := ⟨n - 1, by omega⟩
    have hN := oc_N ho
    obtain ⟨_, P, R, s1, _⟩ := hN
    have h6 : ¬ nI (sr S0) ≤ nI f := nI_ge (a := f) (b := 6) (by omega) (by omega)
    obtain ⟨w1, t1, c1, c2, c3, c4⟩ := oc_cp ho ha
    obtain ⟨w2, d1, d2, d3⟩ := leave_spec (f := f) c2 (by omega)
    have o2 := c4.tr (oc_t d3)
    obtain ⟨w3, t3, e1, e2, e3⟩ := toRest_spec d2 (oc_F o2) (by omega) (show 200 < 4000 by omega)
    have o3 := o2.tr (oc_t e3)
    have e1' : fX5_stepsToRest w2 20 5 200 = some (rsS kd0 ch0 200 (SD f), w3) := e1
    have hG3 : Cl w3 23 (itS kd0 ch0 200 S0) t := ((c3.tr d3).tr e3).Cl hG (fun k a b (z : 20 ≤ k ∧ k ≤ 20 + 2) => by omega)
    have hN3 := oc_N o3
    obtain ⟨_, P3, R3, s3, _, r3⟩ := hN3
    have r3' : R3 f = nI f := r3 f (show f < 6 by omega)
    have hR : aI w3 0 19 (nI f) = some (nI f) := by
      rw [← r3']
      exact r3' ▸ aI_at s3.2.2 (show f < 8 by omega) (nI_cl (by omega)) (nI_nn (by omega))
    have h100 : bX7_needed_100 (loX7_needed n) w3 0 s (nI f) = loX7_needed n w3 0 (s ||| ((1 : Int32) <<< (nI f &&& 31))) (nI (f + 1)) := by
      unfold bX7_needed_100
      rw [oc_4 o3, Option.bind_some, gR_at (k := 1) s3.1 rfl, Option.bind_some, hR, Option.bind_some]
      unfold bX7_needed_114
      rw [nI_1]
    have h114 : bX7_needed_114 (loX7_needed n) w3 0 s (nI f) = loX7_needed n w3 0 s (nI (f + 1)) := by
      unfold bX7_needed_114
      rw [nI_1]
    have hP := hasP_spec e2 hG3
    have ihA := fun s' => ih (f + 1) n w3 s' t o3 e2.an hG3 (by omega) (by omega)
    show ∃ w', hX7_needed_37 (loX7_needed n) w 0 s (nI f) = _ ∧ _
    unfold hX7_needed_37
    rw [oc_4 ho, Option.bind_some, gI_at (k := 2) s1.1 rfl, Option.bind_some, if_neg h6, oc_5 ho, Option.bind_some, Option.bind_some, c1, Option.bind_some, oc_5 c4, Option.bind_some, d1, Option.bind_some, oc_5 o2, Option.bind_some, oc_2 o2, Option.bind_some, e1', Option.bind_some, nd]
    unfold ndf
    generalize rsS kd0 ch0 200 (SD f) = r0
    generalize pq (sP (itS kd0 ch0 200 (SD f))) (sP (itS kd0 ch0 200 S0)) 6 0 = b0 at hP ⊢
    show ∃ w', (if r0 = -4 then bX7_needed_100 (loX7_needed n) w3 0 s (nI f) else _) = _ ∧ _
    by_cases e : r0 = -4
    · rw [if_pos e, h100, decide_eq_true e, Bool.true_or, if_pos rfl]
      exact ihA _
    · rw [if_neg e, decide_eq_false e, Bool.false_or, oc_5 o3, Option.bind_some, oc_6 o3, Option.bind_some, hP, Option.bind_some]
      cases b0 with
      | true =>
        rw [if_neg (show ¬ bi true = 0 by decide), h114]
        exact ihA _
      | false =>
        rw [if_pos (show bi false = 0 by decide), h100]
        exact ihA _
theorem oc_cg {w : XW} (h : Off sC WN w) (ha : anS w 23) : ∃ w' ti, fX5_copyFrom w 23 17 = some w' ∧ Cl w' 23 S0 ti ∧ Off (St3 23) w w' ∧ Off sC WN w' := by
  obtain ⟨P, R, rs, ub, st, en, ti, hs⟩ := ha
  obtain ⟨w', h1, h2, h3⟩ := copy_spec (oc_N h) hs (by omega)
  exact ⟨w', ti, h1, h2, h3, h.tr (oc_u h3)⟩
theorem need_class : ∃ w, fX7_needed WN 0 = some (if rsS kd0 ch0 200 S0 = -4 then -4 else nd 6 0 0, w) ∧ Off sC WN w := by
  obtain ⟨w1, t1, c1, c2, c3, c4⟩ := oc_cg Off.rf an23
  obtain ⟨w2, t2, e1, e2, e3⟩ := toRest_spec c2 (oc_F c4) (by omega) (show 200 < 4000 by omega)
  have o2 := c4.tr (oc_u e3)
  have e1' : fX5_stepsToRest w1 23 5 200 = some (rsS kd0 ch0 200 S0, w2) := e1
  have a2 : anS w2 20 := by
    obtain ⟨P, R, rs, ub, st, en, ti, hs⟩ := an20
    exact ⟨P, R, rs, ub, st, en, ti, (c3.tr e3).StA hs (fun k a b (z : 23 ≤ k ∧ k ≤ 23 + 2) => by omega)⟩
  obtain ⟨w3, d1, d2⟩ := need_loop 6 0 FU w2 0 t2 o2 a2 e2 rfl (by unfold FU; omega)
  unfold fX7_needed eX7_needed
  rw [if_pos o7, oc_6 Off.rf, Option.bind_some, oc_4 Off.rf, Option.bind_some, c1, Option.bind_some, oc_6 c4, Option.bind_some, oc_2 c4, Option.bind_some, e1', Option.bind_some]
  generalize rsS kd0 ch0 200 S0 = r0
  show ∃ w, (if r0 = -4 then _ else _) = _ ∧ _
  by_cases e : r0 = -4
  · rw [if_pos e, if_pos e]
    exact ⟨w2, rfl, o2⟩
  · rw [if_neg e, if_neg e]
    exact ⟨w3, d1, d2⟩
/-! the model's side: a place, a move, a fraction left out -/
theorem place_loop {w : XW} {kd ch Z : Nat → Int32} {tw : Int32} (h : Mo w kd ch Z tw) {b f : Nat} (hb : b ≤ 216) (hz : zS Z b S0) (hf : f < 6) : ∀ (m k n : Nat) (c : Int32), k + m = 6 → m + 1 ≤ n → loX8_placeOf n w 72 (nI b) (nI f) c (nI k) = some (if k ≤ f then nI f else c, w) := by
  have e14 : aI w 0 78 (nI b + 14) = some (nI 6) := by rw [show nI 6 = Z (b + 14) from hz.2.2.2.1.symm]; exact h.zo (c := 14) (by omega)
  intro m
  induction m with
  | zero =>
    intro k n c hk hn
    obtain ⟨n, rfl⟩ : ∃ z, n = z + 1 := ⟨n - 1, by omega⟩
    have h6 : k = 6 := by omega
    subst h6
    show hX8_placeOf_6 (loX8_placeOf n) w 72 (nI b) (nI f) c (nI 6) = _
    unfold hX8_placeOf_6
    rw [h.g7, Option.bind_some, e14, Option.bind_some, if_pos (by decide), if_neg (by omega)]
  | succ m ih =>
    intro k n c hk hn
    obtain ⟨n, rfl⟩ : ∃ z, n = z + 1 := ⟨n - 1, by omega⟩
    have e6 : aI w 0 78 ((nI b + 6) + nI k) = some (nI k) := by
      rw [show nI b + 6 = nI (b + 6) from nI_add b 6, show nI k = Z (b + 6 + k) from (hz.2.2.1 k (show k < 6 by omega)).symm]
      rw [show Z (b + 6 + k) = nI k from hz.2.2.1 k (show k < 6 by omega)]
      have := h.zo (a := b + 6) (c := k) (by omega)
      rw [show Z (b + 6 + k) = nI k from hz.2.2.1 k (show k < 6 by omega)] at this
      exact this
    show hX8_placeOf_6 (loX8_placeOf n) w 72 (nI b) (nI f) c (nI k) = _
    unfold hX8_placeOf_6
    rw [h.g7, Option.bind_some, e14, Option.bind_some, if_neg (nI_ge (by omega) (by omega)), Option.bind_some, e6, Option.bind_some]
    unfold bX8_placeOf_42
    rw [nI_1]
    by_cases e : k = f
    · rw [if_pos (by rw [e]), ih (k + 1) n _ (by omega) (by omega), if_neg (by omega), if_pos (by omega), e]
    · rw [if_neg (fun z => e ((nI_eq (by omega) (by omega)).mp z)), ih (k + 1) n _ (by omega) (by omega)]
      by_cases e2 : k ≤ f
      · rw [if_pos (by omega), if_pos e2]
      · rw [if_neg (by omega), if_neg e2]
theorem moves_loop {kd ch : Nat → Int32} {tw c : Int32} {b x y : Nat} (hb : b ≤ 216) (hy : y < 8) : ∀ (m p n : Nat) (w : XW) (Z : Nat → Int32), Mo w kd ch Z tw → p + m = y → x ≤ p → m + 2 ≤ n → ∃ w' Z', (loX8_moves n).1 w 72 (nI b) (nI x) (nI y) c (nI p) = some w' ∧ Mo w' kd ch Z' tw ∧ Off sZ w w' ∧ (∀ q, p ≤ q → q < y → Z' (b + 6 + q) = Z (b + 6 + q + 1)) ∧ Z' (b + 6 + y) = c ∧ Z' (b + 17) = 0 ∧ (∀ z, z ≠ b + 17 → (z < b + 6 + p ∨ b + 6 + y < z) → Z' z = Z z) := by
  intro m
  induction m with
  | zero =>
    intro p n w Z h hp hx hn
    obtain ⟨n, rfl⟩ : ∃ z, n = z + 2 := ⟨n - 2, by omega⟩
    have hpy : p = y := by omega
    subst hpy
    obtain ⟨w1, a1, a2, a3⟩ := h.so (a := b + 6) (c := p) (by omega) c
    obtain ⟨w2, b1, b2, b3⟩ := a2.so (a := b) (c := 17) (by omega) 0
    have b1' : sI w1 0 78 (nI b + 17) 0 = some w2 := b1
    refine ⟨w2, _, ?_, b2, a3.tr b3, fun q h1 h2 => by omega, ?_, pk_us, fun z h1 h2 => ?_⟩
    · show hX8_moves_16 (loX8_moves (n + 1)) w 72 (nI b) (nI x) (nI p) c (nI p) = _
      unfold hX8_moves_16
      rw [if_pos (nI_le (Nat.le_refl _) (by omega))]
      show hX8_moves_57 (loX8_moves n) w 72 (nI b) (nI p) c (nI x) = _
      unfold hX8_moves_57
      rw [if_pos (nI_le hx (by omega)), h.g7, Option.bind_some, show nI b + 6 = nI (b + 6) from nI_add b 6, a1, Option.bind_some, a2.g7, Option.bind_some, b1', Option.bind_some]
    · rw [pk_un (by omega)]; exact pk_us
    · rw [pk_un h1, pk_un (by omega)]
  | succ m ih =>
    intro p n w Z h hp hx hn
    obtain ⟨n, rfl⟩ : ∃ z, n = z + 1 := ⟨n - 1, by omega⟩
    obtain ⟨w1, a1, a2, a3⟩ := h.so (a := b + 6) (c := p) (by omega) (Z (b + 6 + p + 1))
    obtain ⟨w2, Z2, b1, b2, b3, b4, b5, b6, b7⟩ := ih (p + 1) n w1 _ a2 (by omega) (by omega) (by omega)
    have e1 : aI w 0 78 ((nI (b + 6) + nI p) + 1) = some (Z (b + 6 + p + 1)) := by rw [nI_add, nI_1]; exact h.z (by omega)
    refine ⟨w2, Z2, ?_, b2, a3.tr b3, fun q h1 h2 => ?_, b5, b6, fun z h1 h2 => ?_⟩
    · show hX8_moves_16 (loX8_moves n) w 72 (nI b) (nI x) (nI y) c (nI p) = _
      unfold hX8_moves_16
      rw [if_neg (nI_ge (by omega) (by omega)), h.g7, Option.bind_some, Option.bind_some, show nI b + 6 = nI (b + 6) from nI_add b 6, e1, Option.bind_some, a1, Option.bind_some, nI_1]
      exact b1
    · by_cases e : q = p
      · rw [e, b7 (b + 6 + p) (by omega) (by omega)]; exact pk_us
      · rw [b4 q (by omega) h2, pk_un (by omega)]
    · rw [b7 z h1 (by omega), pk_un (by omega)]
theorem moves_spec {w : XW} {kd ch Z : Nat → Int32} {tw : Int32} (h : Mo w kd ch Z tw) {b x y : Nat} (hb : b ≤ 216) (hy : y < 8) (hx : x ≤ y) : ∃ w' Z', fX8_moves w 72 (nI b) (nI x) (nI y) = some w' ∧ Mo w' kd ch Z' tw ∧ Off sZ w w' ∧ (∀ q, x ≤ q → q < y → Z' (b + 6 + q) = Z (b + 6 + q + 1)) ∧ Z' (b + 6 + y) = Z (b + 6 + x) ∧ Z' (b + 17) = 0 ∧ (∀ z, z ≠ b + 17 → (z < b + 6 + x ∨ b + 6 + y < z) → Z' z = Z z) := by
  obtain ⟨w2, Z2, b1, b2, b3, b4, b5, b6, b7⟩ := moves_loop (kd := kd) (ch := ch) (tw := tw) (c := Z (b + 6 + x)) (x := x) hb hy (y - x) x FU w Z h (by omega) (Nat.le_refl _) (by unfold FU; omega)
  refine ⟨w2, Z2, ?_, b2, b3, b4, b5, b6, b7⟩
  unfold fX8_moves eX8_moves
  rw [if_pos h.o, h.g7, Option.bind_some, show nI b + 6 = nI (b + 6) from nI_add b 6, h.zo (a := b + 6) (by omega), Option.bind_some]
  exact b1
theorem drops_spec {w : XW} {kd ch Z : Nat → Int32} {tw : Int32} (h : Mo w kd ch Z tw) (hz : zS Z 216 S0) {f : Nat} (hf : f < 6) : ∃ w' Z', fX8_drops w 72 216 (nI f) = some w' ∧ Mo w' kd ch Z' tw ∧ Off sZ w w' ∧ zS Z' 216 (SD f) ∧ (∀ x, x < 216 ∨ 234 ≤ x → Z' x = Z x) := by
  have hp : fX8_placeOf w 72 216 (nI f) = some (nI f, w) := by
    unfold fX8_placeOf eX8_placeOf
    rw [if_pos h.o]
    have := place_loop h (b := 216) (by omega) hz hf 6 0 FU (-4) rfl (by unfold FU; omega)
    rw [if_pos (Nat.zero_le _)] at this
    exact this
  have e14 : aI w 0 78 (216 + 14) = some (nI 6) := by rw [show nI 6 = Z (216 + 14) from hz.2.2.2.1.symm]; exact h.zo (a := 216) (c := 14) (by omega)
  obtain ⟨w2, Z2, b1, b2, b3, b4, b5, b6, b7⟩ := moves_spec h (b := 216) (x := f) (y := 5) (by omega) (by omega) (by omega)
  have b1' : fX8_moves w 72 216 (nI f) (nI 5) = some w2 := b1
  have e14' : aI w2 0 78 (216 + 14) = some (nI 6) := by
    have : Z2 (216 + 14) = nI 6 := by rw [b7 _ (by omega) (by omega)]; exact hz.2.2.2.1
    rw [← this]; exact b2.zo (a := 216) (c := 14) (by omega)
  obtain ⟨w3, d1, d2, d3⟩ := b2.so (a := 216) (c := 14) (by omega) (nI 5)
  have d1' : sI w2 0 78 (216 + 14) (nI 5) = some w3 := d1
  have e65 : nI 6 - 1 = nI 5 := by decide
  obtain ⟨z0, z1, z2, z3, z4, z5, z6⟩ := hz
  refine ⟨w3, _, ?_, d2, b3.tr d3, ⟨okSD f, fun q hq => ?_, fun p hp => ?_, pk_us, ?_, ?_, ?_⟩, fun x hx => ?_⟩
  · unfold fX8_drops eX8_drops
    rw [if_pos h.o, hp, Option.bind_some, h.g7, Option.bind_some, e14, Option.bind_some, e65, b1', Option.bind_some, b2.g7, Option.bind_some, e14', Option.bind_some, e65, d1', Option.bind_some]
  · rw [pk_un (by omega), b7 _ (by omega) (by omega)]; exact z1 q hq
  · have hp5 : p < 5 := hp
    rw [pk_un (by omega)]
    show _ = nI (if p < f then p else p + 1)
    by_cases e : p < f
    · rw [if_pos e, b7 _ (by omega) (by omega)]; exact z2 p (show p < 6 by omega)
    · rw [if_neg e, b4 p (by omega) (by omega)]; exact z2 (p + 1) (show p + 1 < 6 by omega)
  · rw [pk_un (by omega), b7 _ (by omega) (by omega)]; exact z4
  · rw [pk_un (by omega), b7 _ (by omega) (by omega)]; exact z5
  · rw [pk_un (by omega), b6]; rfl
  · rw [pk_un (by omega), b7 _ (by omega) (by omega)]
theorem or0 (x : Int32) : x ||| 0 = x := Int32.or_zero
theorem mneed_in {w : XW} {Z : Nat → Int32} {tw : Int32} (h : Mo w kd0 ch0 Z tw) {f : Nat} {s : Int32} {S1 S2 : PS} (hz1 : zS Z 216 S1) (hz2 : zS Z 198 S2) : ∀ (m p n : Nat) (B : Bool), p + m = 6 → 20 + m ≤ n → ∃ n', 20 ≤ n' + 1 ∧ n = n' + m + 1 ∧ (loX8_needed n).2 w 72 s (nI f) (nI f) (bi B) (nI p) = (loX8_needed n').1 w 72 (if (B && pq (sP S1) (sP S2) m p) = true then s else s ||| ((1 : Int32) <<< (nI f &&& 31))) (nI (f + 1)) := by
  intro m
  induction m with
  | zero =>
    intro p n B hp hn
    obtain ⟨n, rfl⟩ : ∃ z, n = z + 1 := ⟨n - 1, by omega⟩
    have h6 : p = 6 := by omega
    subst h6
    refine ⟨n, by omega, by omega, ?_⟩
    show hX8_needed_82 (loX8_needed n) w 72 s (nI f) (nI f) (bi B) (nI 6) = _
    unfold hX8_needed_82
    rw [if_pos (by decide)]
    unfold bX8_needed_145
    rw [nI_1, or0]
    cases B <;> rfl
  | succ m ih =>
    intro p n B hp hn
    obtain ⟨n, rfl⟩ : ∃ z, n = z + 1 := ⟨n - 1, by omega⟩
    have hlt : ¬ (6 : Int32) ≤ nI p := nI_ge (a := p) (b := 6) (by omega) (by omega)
    have ihB := fun B' => ih (p + 1) n B' (by omega) (by omega)
    show ∃ n', 20 ≤ n' + 1 ∧ n + 1 = n' + (m + 1) + 1 ∧ hX8_needed_82 (loX8_needed n) w 72 s (nI f) (nI f) (bi B) (nI p) = _
    unfold hX8_needed_82
    rw [if_neg hlt]
    have h124 : ∀ B' : Bool, bX8_needed_124 (loX8_needed n) w 72 s (nI f) (nI f) (nI p) (bi B') = (loX8_needed n).2 w 72 s (nI f) (nI f) (bi B') (nI (p + 1)) := by
      intro B'
      unfold bX8_needed_124
      rw [nI_1]
    cases B with
    | false =>
      rw [if_pos (by decide)]
      obtain ⟨n', g1, g2, g3⟩ := ihB false
      refine ⟨n', g1, by omega, ?_⟩
      unfold bX8_needed_123
      rw [show (0 : Int32) = bi false from rfl, h124, g3]
      rfl
    | true =>
      have e1 : aI w 0 78 (216 + nI p) = some (sP S1 p) := by rw [← hz1.2.1 p (by omega)]; exact h.zo (a := 216) (by omega)
      have e2 : aI w 0 78 (198 + nI p) = some (sP S2 p) := by rw [← hz2.2.1 p (by omega)]; exact h.zo (a := 198) (by omega)
      rw [if_neg (by decide), h.g7, Option.bind_some, e1, Option.bind_some, Option.bind_some, e2, Option.bind_some, pq]
      by_cases e : sP S1 p = sP S2 p
      · obtain ⟨n', g1, g2, g3⟩ := ihB true
        refine ⟨n', g1, by omega, ?_⟩
        rw [if_pos e, decide_eq_true e, show (1 : Int32) = bi true from rfl, h124, g3]
        rfl
      · obtain ⟨n', g1, g2, g3⟩ := ihB false
        refine ⟨n', g1, by omega, ?_⟩
        rw [if_neg e, decide_eq_false e]
        unfold bX8_needed_123
        rw [show (0 : Int32) = bi false from rfl, h124, g3]
        rfl
theorem mneed_loop : ∀ (m f n : Nat) (w : XW) (Z : Nat → Int32) (tw s : Int32), Mo w kd0 ch0 Z tw → zS Z 0 S0 → zS Z 198 (itS kd0 ch0 200 S0) → f + m = 6 → 40 + 8 * m ≤ n → ∃ w', (loX8_needed n).1 w 72 s (nI f) = some (nd m f s, w') ∧ Off sZ w w' := by
  intro m
  induction m with
  | zero =>
    intro f n w Z tw s h hz hg hf hn
    obtain ⟨n, rfl⟩ : ∃ z, n = z + 1 := ⟨n - 1, by omega⟩
    have h6 : f = 6 := by omega
    subst h6
    have e14 : aI w 0 78 14 = some (nI 6) := by rw [show nI 6 = Z (0 + 14) from hz.2.2.2.1.symm]; exact h.z (a := 14) (by omega)
    refine ⟨w, ?_, Off.rf⟩
    show hX8_needed_25 (loX8_needed n) w 72 s (nI 6) = _
    unfold hX8_needed_25
    rw [h.g7, Option.bind_some, e14, Option.bind_some, if_pos (by decide)]
    rfl
  | succ m ih =>
    intro f n w Z tw s h hz hg hf hn
    obtain ⟨n, rfl⟩ : ∃ z, n = z + 1 := ⟨n - 1, by omega⟩
    have e14 : aI w 0 78 14 = some (nI 6) := by rw [show nI 6 = Z (0 + 14) from hz.2.2.2.1.symm]; exact h.z (a := 14) (by omega)
    have e6 : aI w 0 78 (6 + nI f) = some (nI f) := by
      have z := h.zo (a := 6) (c := f) (by omega)
      have z2 := hz.2.2.1 f (show f < 6 by omega)
      rw [show 0 + 6 + f = 6 + f by omega] at z2
      rw [z2] at z
      exact z
    obtain ⟨w1, Z1, c1, c2, c3, c4, c5⟩ := mcp2 h hz
    obtain ⟨w2, Z2, d1, d2, d3, d4, d5⟩ := drops_spec c2 c4 (f := f) (by omega)
    obtain ⟨w3, Z3, t3, g1, g2, g3, g4, g5⟩ := restsBy_spec d2 (b := 216) (by omega) d4 (by show 0 + 200 < 2 ^ 30; omega)
    have g1' : fX8_restsBy w2 72 216 = some (rsS kd0 ch0 200 (SD f), w3) := g1
    have hE : ∀ x, x < 216 → Z3 x = Z x := fun x hx => by rw [g5 x (by omega), d5 x (by omega), c5 x (by omega)]
    have hz3 : zS Z3 0 S0 := zS_cg hz (fun x _ hx => hE x (by omega))
    have hg3 : zS Z3 198 (itS kd0 ch0 200 S0) := zS_cg hg (fun x _ hx => hE x (by omega))
    have hin := fun B => mneed_in g2 (f := f) (s := s) g4 hg3 6 0 n B rfl (by omega)
    have hb : ∀ B : Bool, ∃ w', bX8_needed_77 (loX8_needed n) w3 72 s (nI f) (nI f) (bi B) = some (nd m (f + 1) (if (B && pq (sP (itS kd0 ch0 200 (SD f))) (sP (itS kd0 ch0 200 S0)) 6 0) = true then s else s ||| ((1 : Int32) <<< (nI f &&& 31))), w') ∧ Off sZ w3 w' := by
      intro B
      obtain ⟨n', k1, k2, k3⟩ := hin B
      obtain ⟨w4, r1, r2⟩ := ih (f + 1) n' w3 Z3 t3 (if (B && pq (sP (itS kd0 ch0 200 (SD f))) (sP (itS kd0 ch0 200 S0)) 6 0) = true then s else s ||| ((1 : Int32) <<< (nI f &&& 31))) g2 hz3 hg3 (by omega) (by omega)
      refine ⟨w4, ?_, r2⟩
      unfold bX8_needed_77
      rw [← r1, ← k3]
      rfl
    show ∃ w', hX8_needed_25 (loX8_needed n) w 72 s (nI f) = _ ∧ _
    unfold hX8_needed_25
    rw [h.g7, Option.bind_some, e14, Option.bind_some, if_neg (nI_ge (by omega) (by omega)), Option.bind_some, e6, Option.bind_some, c1, Option.bind_some, d1, Option.bind_some, g1', Option.bind_some, nd]
    have hr0 := rsS_0 (kd := kd0) (ch := ch0) (S := SD f)
    unfold ndf
    generalize rsS kd0 ch0 200 (SD f) = r0 at hr0 ⊢
    generalize pq (sP (itS kd0 ch0 200 (SD f))) (sP (itS kd0 ch0 200 S0)) 6 0 = b0 at hb ⊢
    show ∃ w', (if r0 < 0 then bX8_needed_77 (loX8_needed n) w3 72 s (nI f) (nI f) (0 : Int32) else bX8_needed_77 (loX8_needed n) w3 72 s (nI f) (nI f) (1 : Int32)) = _ ∧ _
    by_cases e : r0 = -4
    · obtain ⟨w4, r1, r2⟩ := hb false
      have hl : r0 < 0 := by rw [e]; decide
      rw [if_pos hl, decide_eq_true e, Bool.true_or, if_pos rfl]
      exact ⟨w4, r1, (c3.tr d3).tr (g3.tr r2)⟩
    · obtain ⟨w4, r1, r2⟩ := hb true
      have hl : ¬ r0 < 0 := fun z => neg1 z (hr0.mpr e)
      rw [if_neg hl, decide_eq_false e, Bool.false_or]
      refine ⟨w4, ?_, (c3.tr d3).tr (g3.tr r2)⟩
      cases b0 with
      | true => exact r1
      | false => exact r1
theorem ag_X7_needed : agr (fX7_needed WN 0) (fun w => fX8_needed w 72) := by
  refine agM need_class ?_
  intro w hw
  have hm := oc_M hw
  obtain ⟨w1, Z1, c1, c2, c3, c4, c5⟩ := mcp hm zs0
  obtain ⟨w2, Z2, t2, d1, d2, d3, d4, d5⟩ := restsBy_spec c2 (b := 198) (by omega) c4 (by show 0 + 200 < 2 ^ 30; omega)
  have d1' : fX8_restsBy w1 72 198 = some (rsS kd0 ch0 200 S0, w2) := d1
  have hz2 : zS Z2 0 S0 := zS_cg zs0 (fun x _ hx => by rw [d5 x (by omega), c5 x (by omega)])
  obtain ⟨w3, r1, r2⟩ := mneed_loop 6 0 FU w2 Z2 t2 0 d2 hz2 d4 rfl (by unfold FU; omega)
  show ∃ w', fX8_needed w 72 = _ ∧ _
  unfold fX8_needed eX8_needed
  rw [if_pos hm.o, c1, Option.bind_some, d1', Option.bind_some]
  have hr0 := rsS_0 (kd := kd0) (ch := ch0) (S := S0)
  generalize rsS kd0 ch0 200 S0 = r0 at hr0 ⊢
  show ∃ w', (if 0 ≤ r0 then _ else _) = _ ∧ _
  by_cases e : r0 = -4
  · rw [if_neg (fun z => hr0.mp z e), if_pos e]
    exact ⟨w2, rfl, (c3.tr d3).1, (c3.tr d3).2.1⟩
  · rw [if_pos (hr0.mpr e), if_neg e]
    exact ⟨w3, r1, ((c3.tr d3).tr r2).1, ((c3.tr d3).tr r2).2.1⟩
