/-! by turns: the class -/
def SXY (x y : Nat) : PS := (fun q => if q = 0 then nI (3 + x) else if q = 1 then nI (2 + y) else 0, fun p => p, 6, 0, 0, false)
theorem okXY (x y : Nat) : okS (SXY x y) := ⟨(by decide : 6 ≤ 8), fun p (hp : p < 6) => (show p < 8 by omega)⟩
def gxy (x y : Nat) : Nat := mkS kd0 ch0 200 (SXY x y)
def vt : Nat → Nat → Nat → Nat → Nat
  | 0, _, x, y => gxy x y
  | m + 1, t, x, y => if t % 2 = 0 then max (max (vt m (t + 1) x y) (vt m (t + 1) (x + 1) y)) (vt m (t + 1) x (y + 1)) else min (min (vt m (t + 1) x y) (vt m (t + 1) (x + 1) y)) (vt m (t + 1) x (y + 1))
theorem vt_le : ∀ (m t x y : Nat), vt m t x y ≤ 200 := by
  intro m
  induction m with
  | zero => intro t x y; exact mkS_le 200 _
  | succ m ih =>
    intro t x y
    have h1 := ih (t + 1) x y
    have h2 := ih (t + 1) (x + 1) y
    have h3 := ih (t + 1) x (y + 1)
    rw [vt]
    generalize vt m (t + 1) x y = a at h1 ⊢
    generalize vt m (t + 1) (x + 1) y = b at h2 ⊢
    generalize vt m (t + 1) x (y + 1) = c at h3 ⊢
    split <;> omega
theorem imx_N {a b : Nat} (ha : a < 2 ^ 31) (hb : b < 2 ^ 31) : imx (nI a) (nI b) = nI (max a b) := by
  unfold imx
  by_cases h : a < b
  · rw [if_pos (nI_lt h hb), Nat.max_eq_right (by omega)]
  · rw [if_neg (nI_nlt (by omega) ha), Nat.max_eq_left (by omega)]
theorem imn_N {a b : Nat} (ha : a < 2 ^ 31) (hb : b < 2 ^ 31) : imn (nI a) (nI b) = nI (min a b) := by
  unfold imn
  by_cases h : b < a
  · rw [if_pos (nI_lt h ha), Nat.min_eq_right (by omega)]
  · rw [if_neg (nI_nlt (by omega) hb), Nat.min_eq_left (by omega)]
theorem better_s {w : XW} (b : Bool) {x y : Nat} (hx : x ≤ 200) (hy : y ≤ 200) : fX7_better w (bi b) (nI x) (nI y) = some (nI (if b = true then max x y else min x y), w) := by
  unfold fX7_better eX7_better
  cases b with
  | true => rw [if_neg (by decide), imx_N (by omega) (by omega), if_pos rfl]; rfl
  | false => rw [if_pos (by decide), imn_N (by omega) (by omega), if_neg (by decide)]; rfl
theorem Cl.p {w : XW} {i : Nat} {S S' : PS} {t : Int32} (h : Cl w i S t) (e2 : S'.2 = S.2) (e1 : ∀ q, q < 6 → sP S q = sP S' q) : Cl w i S' t := by
  obtain ⟨P', r'⟩ := S'
  have e2' : r' = S.2 := e2
  subst e2'
  obtain ⟨h0, P, R, h1, h2, h3⟩ := h
  exact ⟨h0, P, R, h1, fun q hq => (h2 q hq).trans (e1 q hq), h3⟩
theorem nI_z {x : Nat} (hx : x < 2 ^ 31) : nI x ≤ 0 ↔ x = 0 := by
  constructor
  · intro h
    rcases Nat.eq_zero_or_pos x with e | e
    · exact e
    · exact absurd h (nI_nle e hx)
  · intro h; rw [h]; decide
theorem behind_spec {w : XW} (ho : Off sC WN w) (ha : anS w 20) {x y : Nat} (hx : x ≤ 9) (hy : y ≤ 9) : ∃ w', fX7_stepsToRestBehind w 0 (nI x) (nI y) = some (nI (gxy x y), w') ∧ Off sC WN w' ∧ anS w' 20 := by
  obtain ⟨w1, t1, c1, c2, c3, c4⟩ := oc_cp ho ha
  have h37 : ∀ (v : XW) (t : Int32), Off sC WN v → Cl v 20 (SXY x y) t → ∃ w', bX7_stepsToRestBehind_37 v 0 = some (nI (gxy x y), w') ∧ Off sC WN w' ∧ anS w' 20 := by
    intro v t o1 k1
    obtain ⟨w2, t2, d1, d2, d3⟩ := takeSteps_spec k1 (oc_F o1) (by omega) (show 200 < 4000 by omega)
    have d1' : fX5_takeSteps v 20 5 200 = some (nI (gxy x y), w2) := d1
    refine ⟨w2, ?_, o1.tr (oc_t d3), d2.an⟩
    unfold bX7_stepsToRestBehind_37
    rw [oc_5 o1, Option.bind_some, oc_2 o1, Option.bind_some, d1', Option.bind_some]
  have h24 : ∀ (v : XW) (t : Int32), Off sC WN v → Cl v 20 (SXY x 0) t → ∃ w', bX7_stepsToRestBehind_24 v 0 (nI y) = some (nI (gxy x y), w') ∧ Off sC WN w' ∧ anS w' 20 := by
    intro v t o1 k1
    unfold bX7_stepsToRestBehind_24
    by_cases e : y = 0
    · rw [if_pos ((nI_z (by omega)).mpr e)]
      subst e
      exact h37 v t o1 k1
    · rw [if_neg (fun z => e ((nI_z (by omega)).mp z)), oc_5 o1, Option.bind_some]
      obtain ⟨w2, m1, m2, m3⟩ := mulBy_spec k1 (p := 1) (by omega) (nI y)
      have m1' : fX5_multiplyBy v 20 1 (nI y) = some w2 := m1
      rw [m1', Option.bind_some]
      refine h37 w2 t (o1.tr (oc_t m3)) (m2.p rfl (fun q hq => ?_))
      show upd (sP (SXY x 0)) 1 (nI (2 + 0) + nI y) q = (if q = 0 then nI (3 + x) else if q = 1 then nI (2 + y) else 0)
      by_cases e1 : q = 1
      · rw [e1, pk_us, if_neg (by omega), if_pos rfl, nI_add, Nat.add_zero]
      · rw [pk_un e1, if_neg e1]
        show (if q = 0 then nI (3 + x) else if q = 1 then nI (2 + 0) else 0) = _
        rw [if_neg e1]
  unfold fX7_stepsToRestBehind eX7_stepsToRestBehind
  rw [if_pos (oc_o ho), oc_5 ho, Option.bind_some, oc_4 ho, Option.bind_some, c1, Option.bind_some]
  have s0q : ∀ q, q < 6 → sP S0 q = if q = 0 then nI 3 else if q = 1 then nI 2 else 0 := by
    show ∀ q, q < 6 → la [3, 2] q = if q = 0 then nI 3 else if q = 1 then nI 2 else 0
    decide +kernel
  by_cases e : x = 0
  · rw [if_pos ((nI_z (by omega)).mpr e)]
    subst e
    exact h24 w1 t1 c4 (c2.p rfl s0q)
  · rw [if_neg (fun z => e ((nI_z (by omega)).mp z)), oc_5 c4, Option.bind_some]
    obtain ⟨w2, m1, m2, m3⟩ := mulBy_spec c2 (p := 0) (by omega) (nI x)
    have m1' : fX5_multiplyBy w1 20 0 (nI x) = some w2 := m1
    rw [m1', Option.bind_some]
    refine h24 w2 t1 (c4.tr (oc_t m3)) (m2.p rfl (fun q hq => ?_))
    show upd (sP S0) 0 (nI 3 + nI x) q = (if q = 0 then nI (3 + x) else if q = 1 then nI (2 + 0) else 0)
    by_cases e1 : q = 0
    · rw [e1, pk_us, if_pos rfl, nI_add]
    · rw [pk_un e1, if_neg e1, s0q q hq, if_neg e1]
theorem turns_spec {N : Nat} (hN : N ≤ 4) : ∀ (m t x y d : Nat) (w : XW), Off sC WN w → anS w 20 → t + m = N → x ≤ t → y ≤ t → m + 1 ≤ d → ∃ w', fdX7_valueOfTurns d w 0 (nI t) (nI N) (nI x) (nI y) = some (nI (vt m t x y), w') ∧ Off sC WN w' ∧ anS w' 20 := by
  intro m
  induction m with
  | zero =>
    intro t x y d w ho ha ht hx hy hd
    obtain ⟨d, rfl⟩ : ∃ z, d = z + 1 := ⟨d - 1, by omega⟩
    obtain ⟨w1, b1, b2, b3⟩ := behind_spec ho ha (x := x) (y := y) (by omega) (by omega)
    refine ⟨w1, ?_, b2, b3⟩
    show (if isO w 0 7 = true then eX7_valueOfTurns (fdX7_valueOfTurns d) w 0 (nI t) (nI N) (nI x) (nI y) else none) = _
    rw [if_pos (oc_o ho)]
    unfold eX7_valueOfTurns
    rw [if_pos (nI_le (by omega) (by omega))]
    unfold bX7_valueOfTurns_10
    rw [b1]
    rfl
  | succ m ih =>
    intro t x y d w ho ha ht hx hy hd
    obtain ⟨d, rfl⟩ : ∃ z, d = z + 1 := ⟨d - 1, by omega⟩
    obtain ⟨w1, a1, a2, a3⟩ := ih (t + 1) x y d w ho ha (by omega) (by omega) (by omega) (by omega)
    obtain ⟨w2, b1, b2, b3⟩ := ih (t + 1) (x + 1) y d w1 a2 a3 (by omega) (by omega) (by omega) (by omega)
    obtain ⟨w3, c1, c2, c3⟩ := ih (t + 1) x (y + 1) d w2 b2 b3 (by omega) (by omega) (by omega) (by omega)
    have v1 := vt_le m (t + 1) x y
    have v2 := vt_le m (t + 1) (x + 1) y
    have v3 := vt_le m (t + 1) x (y + 1)
    obtain ⟨p1, p2⟩ := oc_P (oc_N a2) (p := 0) (by omega)
    obtain ⟨q1, q2⟩ := oc_P (oc_N b2) (p := 1) (by omega)
    have p2' : aI w1 0 18 0 = some (nI 3) := p2
    have q2' : aI w2 0 18 1 = some (nI 2) := q2
    have hb : ∀ B : Bool, bX7_valueOfTurns_29 (fdX7_valueOfTurns d) w 0 (nI t) (nI N) (nI x) (nI y) (bi B) = some (nI (if B = true then max (max (vt m (t + 1) x y) (vt m (t + 1) (x + 1) y)) (vt m (t + 1) x (y + 1)) else min (min (vt m (t + 1) x y) (vt m (t + 1) (x + 1) y)) (vt m (t + 1) x (y + 1))), w3) := by
      intro B
      unfold bX7_valueOfTurns_29
      have h1 : ¬ (999 : Int32) ≤ nI 3 + nI x := by rw [nI_add]; exact nI_ge (a := 3 + x) (b := 999) (by omega) (by omega)
      have h2 : ¬ (999 : Int32) ≤ nI 2 + nI y := by rw [nI_add]; exact nI_ge (a := 2 + y) (b := 999) (by omega) (by omega)
      rw [nI_1, nI_1, a1, Option.bind_some, oc_4 a2, Option.bind_some, p1, Option.bind_some, p2', Option.bind_some, if_neg h1, b1, Option.bind_some, better_s B v1 v2, Option.bind_some]
      unfold bX7_valueOfTurns_83
      rw [nI_1, nI_1, oc_4 b2, Option.bind_some, q1, Option.bind_some, q2', Option.bind_some, if_neg h2, c1, Option.bind_some]
      generalize vt m (t + 1) x y = A at v1 ⊢
      generalize vt m (t + 1) (x + 1) y = B2 at v2 ⊢
      generalize vt m (t + 1) x (y + 1) = C at v3 ⊢
      have v4 : (if B = true then max A B2 else min A B2) ≤ 200 := by split <;> omega
      rw [better_s B v4 v3]
      cases B <;> rfl
    refine ⟨w3, ?_, c2, c3⟩
    show (if isO w 0 7 = true then eX7_valueOfTurns (fdX7_valueOfTurns d) w 0 (nI t) (nI N) (nI x) (nI y) else none) = _
    rw [if_pos (oc_o ho)]
    unfold eX7_valueOfTurns
    have h4 : nI t < 4 := nI_lt (a := t) (b := 4) (by omega) (by omega)
    rw [if_neg (nI_ge (by omega) (by omega)), if_pos h4, irm2 (by omega), vt]
    by_cases e : t % 2 = 0
    · rw [if_pos e, e, if_pos (by decide)]
      exact hb true
    · rw [if_neg e, if_neg (nI_ne0 (by omega) (by omega))]
      exact hb false
/-! by turns: the model -/
def dx (j : Nat) : Nat → Nat → Nat
  | 0, _ => 0
  | m + 1, c => (if c % 3 = j then 1 else 0) + dx j m (c / 3)
theorem dx_s (j : Nat) : ∀ (k q : Nat) (i : Nat), q < 3 ^ k → i < 3 → dx j (k + 1) (q + i * 3 ^ k) = dx j k q + (if i = j then 1 else 0) := by
  intro k
  induction k with
  | zero =>
    intro q i hq hi
    have hq0 : q = 0 := by simpa using hq
    subst hq0
    show (if (0 + i * 1) % 3 = j then 1 else 0) + 0 = 0 + _
    rw [show (0 + i * 1) % 3 = i by omega]
    omega
  | succ k ih =>
    intro q i hq hi
    have h3 : 3 ^ (k + 1) = 3 * 3 ^ k := by rw [Nat.pow_succ, Nat.mul_comm]
    have hT : i * 3 ^ (k + 1) = 3 * (i * 3 ^ k) := by rw [h3, Nat.mul_left_comm]
    rw [hT]
    show (if (q + 3 * (i * 3 ^ k)) % 3 = j then 1 else 0) + dx j (k + 1) ((q + 3 * (i * 3 ^ k)) / 3) = ((if q % 3 = j then 1 else 0) + dx j k (q / 3)) + (if i = j then 1 else 0)
    have e1 : (q + 3 * (i * 3 ^ k)) % 3 = q % 3 := by omega
    have e2 : (q + 3 * (i * 3 ^ k)) / 3 = q / 3 + i * 3 ^ k := by omega
    rw [e1, e2, ih (q / 3) i (by omega) hi]
    omega
theorem choice_s {w : XW} {a b t : Nat} (ha : a < 2 ^ 31) (hb : b < 2 ^ 31) (ht : t < 2 ^ 31) : fX8_choice w (nI a) (nI b) (nI t) = some (nI (if t % 2 = 0 then max a b else min a b), w) := by
  unfold fX8_choice eX8_choice
  rw [if_neg (nI_nn ha), if_pos (nI_pos' hb)]
  by_cases h : b ≤ a
  · rw [if_pos (nI_le h ha)]
    unfold bX8_choice_28
    rw [irm2 ht]
    by_cases e : t % 2 = 0
    · rw [e, if_pos (by decide), if_pos rfl, Nat.max_eq_left h]; rfl
    · rw [if_neg (nI_ne0 (by omega) (by omega)), if_neg e, Nat.min_eq_right h]; rfl
  · rw [if_neg (nI_ge (by omega) hb)]
    unfold bX8_choice_28
    rw [irm2 ht]
    by_cases e : t % 2 = 0
    · rw [e, if_pos (by decide), if_pos rfl, Nat.max_eq_right (by omega)]; rfl
    · rw [if_neg (nI_ne0 (by omega) (by omega)), if_neg e, Nat.min_eq_left (by omega)]; rfl
theorem mkS_n {kd ch : Nat → Int32} : ∀ (n : Nat) (S : PS), ¬ nxt kd ch (itS kd ch n S) = -4 → mkS kd ch n S = n := by
  intro n
  induction n with
  | zero => intro S _; rfl
  | succ n ih =>
    intro S h
    show (if nxt kd ch S = -4 then 0 else mkS kd ch n (stS kd ch S) + 1) = n + 1
    by_cases e : nxt kd ch S = -4
    · rw [itS_r e] at h; exact absurd e h
    · rw [if_neg e, ih (stS kd ch S) h]
theorem dl_a {N : Nat} (hN : N ≤ 4) {w : XW} : ∀ (m p n : Nat), p + m = N → (loX8_duel (n + m + 1)).1 w 72 (nI N) (nI (3 ^ p)) (nI p) = (loX8_duel n).2.1 w 72 (nI N) (nI (3 ^ N)) (nI 0) := by
  intro m
  induction m with
  | zero =>
    intro p n hp
    have e : p = N := by omega
    subst e
    show hX8_duel_18 (loX8_duel n) w 72 (nI p) (nI (3 ^ p)) (nI p) = _
    unfold hX8_duel_18
    rw [if_pos (nI_le (Nat.le_refl _) (by omega))]
    rfl
  | succ m ih =>
    intro p n hp
    show hX8_duel_18 (loX8_duel (n + m + 1)) w 72 (nI N) (nI (3 ^ p)) (nI p) = _
    unfold hX8_duel_18
    rw [if_neg (nI_ge (by omega) (by omega)), nI_1, show (3 : Int32) = nI 3 from rfl, pk_mul, ← Nat.pow_succ]
    exact ih (p + 1) n (by omega)
theorem zXY {Z : Nat → Int32} {x y j : Nat} (hz : zS Z 216 (SXY x y)) (hj : j < 2) : zS (upd (upd Z (216 + j) (Z (216 + j) + 1)) (216 + 17) 0) 216 (SXY (x + (if j = 0 then 1 else 0)) (y + (if j = 1 then 1 else 0))) := by
  obtain ⟨z0, z1, z2, z3, z4, z5, z6⟩ := hz
  refine ⟨okXY _ _, fun q hq => ?_, fun q hq => ?_, ?_, ?_, ?_, pk_us⟩
  · show _ = (if q = 0 then nI (3 + (x + (if j = 0 then 1 else 0))) else if q = 1 then nI (2 + (y + (if j = 1 then 1 else 0))) else 0)
    have hq1 : Z (216 + q) = (if q = 0 then nI (3 + x) else if q = 1 then nI (2 + y) else 0) := z1 q hq
    rw [pk_un (by omega)]
    have hj2 : j = 0 ∨ j = 1 := by omega
    rcases hj2 with rfl | rfl
    · by_cases e : q = 0
      · subst e
        rw [pk_us, hq1, if_pos rfl, if_pos rfl, if_pos rfl, nI_1]
        rfl
      · rw [pk_un (by omega), hq1, if_neg e, if_neg e, if_neg (show ¬ 0 = 1 by omega), Nat.add_zero]
    · by_cases e : q = 1
      · subst e
        rw [pk_us, hq1, if_neg (by omega), if_pos rfl, if_neg (by omega), if_pos rfl, if_pos rfl, nI_1]
        rfl
      · rw [pk_un (by omega), hq1, if_neg e, if_neg (show ¬ 1 = 0 by omega), Nat.add_zero, if_neg e]
  · have hq' : q < 6 := hq
    rw [pk_un (by omega), pk_un (by omega)]; exact z2 q hq
  · rw [pk_un (by omega), pk_un (by omega)]; exact z3
  · rw [pk_un (by omega), pk_un (by omega)]; exact z4
  · rw [pk_un (by omega), pk_un (by omega)]; exact z5
theorem Mo.g23 {w : XW} {kd ch Z : Nat → Int32} {tw : Int32} (h : Mo w kd ch Z tw) : gR w 72 8 23 = some 86 := gR_at h.1 rfl
theorem dl_b {N L code : Nat} (hN : N ≤ 4) : ∀ (m p n : Nat) (w : XW) (Z : Nat → Int32) (tw : Int32) (x y c : Nat), Mo w kd0 ch0 Z tw → zS Z 216 (SXY x y) → zS Z 0 S0 → p + m = N → x ≤ p → y ≤ p → c < 100 → ∃ w' Z' tw', (loX8_duel (n + m + 1)).2.2.1 w 72 (nI N) (nI L) (nI code) (nI c) 1 (nI p) = bX8_duel_189 (loX8_duel n) w' 72 (nI N) (nI L) (nI code) 86 (nI code) (nI (gxy (x + dx 1 m c) (y + dx 2 m c))) ∧ Mo w' kd0 ch0 Z' tw' ∧ Off sZ w w' ∧ zS Z' 0 S0 := by
  intro m
  induction m with
  | zero =>
    intro p n w Z tw x y c h hz hz0 hp hx hy hc
    have e : p = N := by omega
    subst e
    obtain ⟨w1, Z1, t1, d1, d2, d3, d4, d5⟩ := restsBy_spec h (b := 216) (by omega) hz (by show 0 + 200 < 2 ^ 30; omega)
    have d1' : fX8_restsBy w 72 216 = some (rsS kd0 ch0 200 (SXY x y), w1) := d1
    refine ⟨w1, Z1, t1, ?_, d2, d3, zS_cg hz0 (fun q _ hq => d5 q (by omega))⟩
    show hX8_duel_57 (loX8_duel n) w 72 (nI p) (nI L) (nI code) (nI c) 1 (nI p) = bX8_duel_189 (loX8_duel n) w1 72 (nI p) (nI L) (nI code) 86 (nI code) (nI (gxy x y))
    unfold hX8_duel_57
    rw [if_pos (nI_le (Nat.le_refl _) (by omega)), if_neg n10, d1', Option.bind_some]
    have hr0 := rsS_0 (kd := kd0) (ch := ch0) (S := SXY x y)
    have hr1 : (if rsS kd0 ch0 200 (SXY x y) = -4 then (200 : Int32) else rsS kd0 ch0 200 (SXY x y)) = nI (gxy x y) := by
      unfold gxy rsS
      by_cases e : nxt kd0 ch0 (itS kd0 ch0 200 (SXY x y)) = -4
      · rw [if_pos e, if_neg]
        have := mkS_le (kd := kd0) (ch := ch0) 200 (SXY x y)
        exact nI_n4 (by omega)
      · rw [if_neg e, if_pos rfl, mkS_n 200 _ e]
        rfl
    generalize rsS kd0 ch0 200 (SXY x y) = r0 at hr0 hr1 ⊢
    unfold bX8_duel_160
    rw [d2.g23, Option.bind_some, if_neg n10]
    show (if 0 ≤ r0 then _ else _) = _
    by_cases e : r0 = -4
    · rw [if_neg (fun z => hr0.mp z e)]
      rw [if_pos e] at hr1
      rw [← hr1]
    · rw [if_pos (hr0.mpr e)]
      rw [if_neg e] at hr1
      rw [← hr1]
  | succ m ih =>
    intro p n w Z tw x y c h hz hz0 hp hx hy hc
    have e3 : irm (nI c) 3 = nI (c % 3) := pk_rem (a := c) (d := 3) (by omega) (by omega) (by omega)
    have e3' : nI c / 3 = nI (c / 3) := pk_div (a := c) (d := 3) (by omega) (by omega) (by omega)
    have hc3 : c % 3 < 3 := Nat.mod_lt _ (by omega)
    show ∃ w' Z' tw', hX8_duel_57 (loX8_duel (n + m + 1)) w 72 (nI N) (nI L) (nI code) (nI c) 1 (nI p) = _ ∧ _
    unfold hX8_duel_57
    rw [if_neg (nI_ge (by omega) (by omega)), e3, e3']
    unfold bX8_duel_109 bX8_duel_137
    rw [nI_1, dx, dx]
    by_cases c0 : c % 3 = 0
    · rw [c0, if_pos (by decide), if_neg (by omega), if_neg (by omega), Nat.zero_add, Nat.zero_add]
      exact ih (p + 1) n w Z tw x y (c / 3) h hz hz0 (by omega) (by omega) (by omega) (by omega)
    · obtain ⟨j, hj, ej⟩ : ∃ j, j < 2 ∧ c % 3 = j + 1 := ⟨c % 3 - 1, by omega, by omega⟩
      have ei : (216 : Int32) + nI (j + 1) - 1 = nI (216 + j) := by
        rw [show (216 : Int32) = nI 216 from rfl, nI_add, ← Nat.add_assoc, nI_pred]
      have ez : aI w 0 78 (nI (216 + j)) = some (Z (216 + j)) := h.z (by omega)
      have hzj : ¬ (999 : Int32) ≤ Z (216 + j) := by
        have := hz.2.1 j (by omega)
        rw [this]
        show ¬ (999 : Int32) ≤ (if j = 0 then nI (3 + x) else if j = 1 then nI (2 + y) else 0)
        by_cases e : j = 0
        · rw [if_pos e]; exact nI_ge (a := 3 + x) (b := 999) (by omega) (by omega)
        · rw [if_neg e, if_pos (by omega)]; exact nI_ge (a := 2 + y) (b := 999) (by omega) (by omega)
      obtain ⟨w1, a1, a2, a3⟩ := h.s (a := 216 + j) (by omega) (Z (216 + j) + 1)
      obtain ⟨w2, b1, b2, b3⟩ := a2.s (a := 216 + 17) (by omega) 0
      have b1' : sI w1 0 78 233 0 = some w2 := b1
      have hz2 := zXY hz hj
      obtain ⟨w3, Z3, t3, r1, r2, r3, r4⟩ := ih (p + 1) n w2 _ tw _ _ (c / 3) b2 hz2 (zS_cg hz0 (fun q _ hq => by rw [pk_un (by omega), pk_un (by omega)])) (by omega) (by split <;> omega) (by split <;> omega) (by omega)
      refine ⟨w3, Z3, t3, ?_, r2, (a3.tr b3).tr r3, r4⟩
      rw [ej, if_neg (fun z => by rw [nI_z (by omega)] at z; omega), if_neg n10, h.g7, Option.bind_some, ei, ez, Option.bind_some, if_neg hzj]
      rw [Option.bind_some, ez, Option.bind_some, a1, Option.bind_some, a2.g7, Option.bind_some, b1', Option.bind_some, r1]
      have h1 : x + (if j = 0 then 1 else 0) + dx 1 m (c / 3) = x + ((if j + 1 = 1 then 1 else 0) + dx 1 m (c / 3)) := by
        rw [Nat.add_assoc]
        have : (if j = 0 then 1 else 0) = (if j + 1 = 1 then 1 else 0) := by
          by_cases e : j = 0
          · rw [if_pos e, if_pos (by omega)]
          · rw [if_neg e, if_neg (by omega)]
        rw [this]
      have h2 : y + (if j = 1 then 1 else 0) + dx 2 m (c / 3) = y + ((if j + 1 = 2 then 1 else 0) + dx 2 m (c / 3)) := by
        rw [Nat.add_assoc]
        have : (if j = 1 then 1 else 0) = (if j + 1 = 2 then 1 else 0) := by
          by_cases e : j = 1
          · rw [if_pos e, if_pos (by omega)]
          · rw [if_neg e, if_neg (by omega)]
        rw [this]
      rw [h1, h2]
