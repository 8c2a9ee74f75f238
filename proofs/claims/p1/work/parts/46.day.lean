/-! a day by draws -/
def dr (z k : Nat) : Nat := ((7919 * z + 6151 * k + 1) * (7919 * z + 6151 * k + 1)) % 65521
theorem dr_lt (z k : Nat) : dr z k < 65521 := Nat.mod_lt _ (by omega)
theorem dr_e {z k : Nat} (hz : z ≤ 9999) (hk : k ≤ 60) : (lrm (((((7919 : Int64) * ((nI z).toInt64)) + ((6151 : Int64) * ((nI k).toInt64))) + (1 : Int64)) * ((((7919 : Int64) * ((nI z).toInt64)) + ((6151 : Int64) * ((nI k).toInt64))) + (1 : Int64))) (65521 : Int64)).toInt32 = nI (dr z k) := by
  rw [nI_l (by omega), nI_l (by omega), show (7919 : Int64) = lN 7919 from rfl, show (6151 : Int64) = lN 6151 from rfl, lN_mul, lN_mul, lN_add, lN_1, lN_mul]
  have hb : (7919 * z + 6151 * k + 1) * (7919 * z + 6151 * k + 1) < 2 ^ 63 := by
    have h1 : 7919 * z + 6151 * k + 1 ≤ 79551142 := by omega
    have h2 : (7919 * z + 6151 * k + 1) * (7919 * z + 6151 * k + 1) ≤ 79551142 * 79551142 := Nat.mul_le_mul h1 h1
    have h3 : 79551142 * 79551142 < 2 ^ 63 := by decide
    omega
  have h := pk_lRem (b := 65521) hb (by omega) (by omega)
  show (lN _ - lN _ / lN 65521 * lN 65521).toInt32 = _
  rw [h, lN_i]
  rfl
def SMul (S : PS) (p : Nat) : PS := (upd (sP S) p (sP S p + 1), sO S, sr S, su S, sk S, false)
def SRot (S : PS) : PS := (sP S, fun q => if q = sr S - 1 then sO S 0 else sO S (q + 1), sr S, su S, sk S, false)
def dS (d : Nat) (S : PS) : PS := if d % 4 = 2 then (if 999 ≤ sP S (d / 8 % 6) then S else SMul S (d / 8 % 6)) else if d % 4 = 3 then SRot S else stS kd0 ch0 S
def dM (d : Nat) (S : PS) : Int32 := if d % 4 = 2 then 0 else if d % 4 = 3 then 0 else if nxt kd0 ch0 S = -4 then 0 else 1
def sumP (P : Nat → Int32) : Nat → Nat → Int32 → Int32
  | 0, _, c => c
  | m + 1, p, c => sumP P m (p + 1) (c + P p)
def dyE (what : Int32) (S : PS) (c : Int32) : Int32 := if what = 0 then c else if what = 1 then sumP (sP S) 6 0 0 else nI (sO S 0)
def dyR (z : Nat) (what : Int32) : Nat → Nat → PS → Int32 → Int32
  | 0, _, S, c => dyE what S c
  | m + 1, k, S, c => dyR z what m (k + 1) (dS (dr z k) S) (c + dM (dr z k) S)
theorem sr_st {kd ch : Nat → Int32} {S : PS} : sr (stS kd ch S) = sr S := by
  unfold stS
  split <;> rfl
theorem sr_d {d : Nat} {S : PS} : sr (dS d S) = sr S := by
  unfold dS
  split
  · split <;> rfl
  · split
    · rfl
    · exact sr_st
theorem okRot {S : PS} (h : okS S) (h6 : sr S = 6) : okS (SRot S) := by
  refine ⟨h.1, fun p hp => ?_⟩
  have hp6 : p < sr S := hp
  show (if p = sr S - 1 then sO S 0 else sO S (p + 1)) < 8
  split
  · exact h.2 0 (by omega)
  · exact h.2 (p + 1) (by omega)
theorem sk_d {d : Nat} {S : PS} : sk (dS d S) ≤ sk S + 1 := by
  unfold dS
  split
  · split
    · omega
    · show sk S ≤ sk S + 1; omega
  · split
    · show sk S ≤ sk S + 1; omega
    · exact sk_st
theorem mulBy_spec {w : XW} {i : Nat} {S : PS} {ti : Int32} (hC : Cl w i S ti) {p : Nat} (hp : p < 6) (v : Int32) : ∃ w', fX5_multiplyBy w i (nI p) v = some w' ∧ Cl w' i (upd (sP S) p (sP S p + v), sO S, sr S, su S, sk S, false) ti ∧ Off (St3 i) w w' := by
  have ho := hC.o
  obtain ⟨q1, q2⟩ := oc_P hC hp
  obtain ⟨h0, P, R, h1, h2, h3⟩ := hC
  obtain ⟨w1, a1, a2, a3⟩ := sP_at h1 hp (sP S p + v)
  obtain ⟨w2, b1, b2, b3⟩ := pX5 a2 0
  refine ⟨w2, ?_, ⟨h0, _, R, b2, fun q hq => ?_, h3⟩, a3.tr b3⟩
  · unfold fX5_multiplyBy eX5_multiplyBy
    rw [if_pos ho, q1, Option.bind_some, q2, Option.bind_some, a1, Option.bind_some, b1, Option.bind_some]
  · show upd P p (sP S p + v) q = upd (sP S) p (sP S p + v) q
    by_cases e : q = p
    · rw [e, pk_us, pk_us]
    · rw [pk_un e, pk_un e]; exact h2 q hq
theorem shift_loop {i y : Nat} {P : Nat → Int32} {rs ub st en ti c : Int32} (hy : y < 8) : ∀ (m p n : Nat) (w : XW) (R : Nat → Int32), StA w i P R rs ub st en ti → p + m = y → m + 2 ≤ n → ∃ w' R', (loX5_shift n).1 w i (nI 0) (nI y) c (nI p) = some w' ∧ StA w' i P R' rs ub st 0 ti ∧ Off (St3 i) w w' ∧ (∀ q, p ≤ q → q < y → R' q = R (q + 1)) ∧ R' y = c ∧ (∀ z, z < p ∨ y < z → R' z = R z) := by
  intro m
  induction m with
  | zero =>
    intro p n w R h hp hn
    obtain ⟨n, rfl⟩ : ∃ z, n = z + 2 := ⟨n - 2, by omega⟩
    have hpy : p = y := by omega
    subst hpy
    obtain ⟨w1, a1, a2, a3⟩ := sR_at h (p := p) hy c
    obtain ⟨w2, b1, b2, b3⟩ := pX5 a2 0
    refine ⟨w2, _, ?_, b2, a3.tr b3, fun q h1 h2 => by omega, pk_us, fun z hz => pk_un (by omega)⟩
    show hX5_shift_10 (loX5_shift (n + 1)) w i (nI 0) (nI p) c (nI p) = _
    unfold hX5_shift_10
    rw [if_pos (nI_le (Nat.le_refl _) (by omega))]
    show hX5_shift_41 (loX5_shift n) w i (nI p) c (nI 0) = _
    unfold hX5_shift_41
    rw [if_pos (nI_le (Nat.zero_le _) (by omega)), gR_at (k := 1) h.1 rfl, Option.bind_some, a1, Option.bind_some, b1, Option.bind_some]
  | succ m ih =>
    intro p n w R h hp hn
    obtain ⟨n, rfl⟩ : ∃ z, n = z + 1 := ⟨n - 1, by omega⟩
    obtain ⟨w1, a1, a2, a3⟩ := sR_at h (p := p) (by omega) (R (p + 1))
    obtain ⟨w2, R2, b1, b2, b3, b4, b5, b6⟩ := ih (p + 1) n w1 _ a2 (by omega) (by omega)
    have e1 : aI w 0 (i + 2) (nI p + 1) = some (R (p + 1)) := by
      rw [nI_1]
      exact aI_at h.2.2 (by omega) (nI_cl (by omega)) (nI_nn (by omega))
    refine ⟨w2, R2, ?_, b2, a3.tr b3, fun q h1 h2 => ?_, b5, fun z hz => ?_⟩
    · show hX5_shift_10 (loX5_shift n) w i (nI 0) (nI y) c (nI p) = _
      unfold hX5_shift_10
      rw [if_neg (nI_ge (by omega) (by omega)), gR_at (k := 1) h.1 rfl, Option.bind_some, Option.bind_some, e1, Option.bind_some, a1, Option.bind_some, nI_1]
      exact b1
    · by_cases e : q = p
      · rw [e, b6 p (by omega), pk_us]
      · rw [b4 q (by omega) h2, pk_un (by omega)]
    · rw [b6 z (by omega), pk_un (by omega)]
theorem shift_spec {w : XW} {i : Nat} {S : PS} {ti : Int32} (hC : Cl w i S ti) (h6 : sr S = 6) : ∃ w', fX5_shift w i 0 (nI 5) = some w' ∧ Cl w' i (SRot S) ti ∧ Off (St3 i) w w' := by
  have ho := hC.o
  obtain ⟨h0, P, R, h1, h2, h3⟩ := hC
  have e0 : aI w 0 (i + 2) (nI 0) = some (R 0) := aI_at h1.2.2 (by omega) (nI_cl (by omega)) (nI_nn (by omega))
  have e0' : aI w 0 (i + 2) 0 = some (R 0) := e0
  obtain ⟨w2, R2, b1, b2, b3, b4, b5, b6⟩ := shift_loop (i := i) (y := 5) (c := R 0) (by omega) 5 0 FU w R h1 rfl (by unfold FU; omega)
  refine ⟨w2, ?_, ⟨okRot h0 h6, P, R2, b2, h2, fun p hp => ?_⟩, b3⟩
  · unfold fX5_shift eX5_shift
    rw [if_pos ho, gR_at (k := 1) h1.1 rfl, Option.bind_some, e0', Option.bind_some]
    exact b1
  · have hp6 : p < sr S := hp
    show R2 p = nI (if p = sr S - 1 then sO S 0 else sO S (p + 1))
    by_cases e : p = sr S - 1
    · rw [if_pos e, show p = 5 by omega, b5]; exact h3 0 (by omega)
    · rw [if_neg e, b4 p (by omega) (by omega)]; exact h3 (p + 1) (by omega)
theorem drawn_spec {w : XW} {S : PS} {t : Int32} (ho : Off sC WN w) (hC : Cl w 20 S t) (h6 : sr S = 6) {d : Nat} (hd : d < 65521) : ∃ w' t', fX7_drawn w 0 (nI d) = some (dM d S, w') ∧ Cl w' 20 (dS d S) t' ∧ Off sC WN w' := by
  have e4 : irm (nI d) 4 = nI (d % 4) := pk_rem (a := d) (d := 4) (by omega) (by omega) (by omega)
  have e8 : irm (nI d / 8) 6 = nI (d / 8 % 6) := by
    rw [show nI d / 8 = nI (d / 8) from pk_div (a := d) (d := 8) (by omega) (by omega) (by omega)]
    exact pk_rem (a := d / 8) (d := 6) (by omega) (by omega) (by omega)
  have hp : d / 8 % 6 < 6 := Nat.mod_lt _ (by omega)
  have hd4 : d % 4 < 4 := Nat.mod_lt _ (by omega)
  unfold fX7_drawn eX7_drawn
  rw [if_pos (oc_o ho), e4, e8]
  by_cases c2 : d % 4 = 2
  · have eS : dS d S = (if 999 ≤ sP S (d / 8 % 6) then S else SMul S (d / 8 % 6)) := by unfold dS; rw [if_pos c2]
    have eM : dM d S = 0 := by unfold dM; rw [if_pos c2]
    obtain ⟨q1, q2⟩ := oc_P hC hp
    rw [eS, eM, c2, if_pos (by decide), oc_5 ho, Option.bind_some, q1, Option.bind_some, q2, Option.bind_some]
    by_cases c9 : 999 ≤ sP S (d / 8 % 6)
    · rw [if_pos c9, if_pos c9]
      exact ⟨w, t, rfl, hC, ho⟩
    · obtain ⟨w1, m1, m2, m3⟩ := mulBy_spec hC hp 1
      rw [if_neg c9, if_neg c9, Option.bind_some, m1, Option.bind_some]
      exact ⟨w1, t, rfl, m2, ho.tr (oc_t m3)⟩
  · have n2 : ¬ nI (d % 4) = 2 := fun z => c2 ((nI_eq (b := 2) (by omega) (by omega)).mp z)
    rw [if_neg n2]
    by_cases c3 : d % 4 = 3
    · have eS : dS d S = SRot S := by unfold dS; rw [if_neg c2, if_pos c3]
      have eM : dM d S = 0 := by unfold dM; rw [if_neg c2, if_pos c3]
      have g2 : gI w 20 5 2 = some (nI 6) := by
        obtain ⟨_, P, R, s1, _⟩ := hC
        rw [← h6]
        exact gI_at s1.1 rfl
      obtain ⟨w1, m1, m2, m3⟩ := shift_spec hC h6
      rw [eS, eM, c3, if_pos (by decide), oc_5 ho, Option.bind_some, g2, Option.bind_some, if_neg (by decide), Option.bind_some, Option.bind_some, g2, Option.bind_some, show nI 6 - 1 = nI 5 by decide, m1, Option.bind_some]
      exact ⟨w1, t, rfl, m2, ho.tr (oc_t m3)⟩
    · have n3 : ¬ nI (d % 4) = 3 := fun z => c3 ((nI_eq (b := 3) (by omega) (by omega)).mp z)
      have eS : dS d S = stS kd0 ch0 S := by unfold dS; rw [if_neg c2, if_neg c3]
      have eM : dM d S = if nxt kd0 ch0 S = -4 then 0 else 1 := by unfold dM; rw [if_neg c2, if_neg c3]
      obtain ⟨w1, t1, g1, g2, g3, g4⟩ := takeStep_spec hC (oc_F ho) (by omega)
      rw [eS, eM, if_neg n3, oc_5 ho, Option.bind_some, oc_2 ho, Option.bind_some, g1, Option.bind_some]
      refine ⟨w1, t1, ?_, g2, ho.tr (oc_t g3)⟩
      show (if nxt kd0 ch0 S = -4 then _ else _) = _
      by_cases e : nxt kd0 ch0 S = -4
      · rw [if_pos e, if_pos e]; rfl
      · rw [if_neg e, if_neg e]; rfl
theorem all_loop {w : XW} {i : Nat} {S : PS} {ti : Int32} (hC : Cl w i S ti) : ∀ (m p n : Nat) (c : Int32), p + m = 6 → m + 1 ≤ n → loX5_allPowers n w i c (nI p) = some (sumP (sP S) m p c, w) := by
  intro m
  induction m with
  | zero =>
    intro p n c hp hn
    obtain ⟨n, rfl⟩ : ∃ z, n = z + 1 := ⟨n - 1, by omega⟩
    have hp6 : p = 6 := by omega
    subst hp6
    show hX5_allPowers_4 (loX5_allPowers n) w i c (nI 6) = _
    unfold hX5_allPowers_4
    rw [if_pos (by decide)]
    rfl
  | succ m ih =>
    intro p n c hp hn
    obtain ⟨n, rfl⟩ : ∃ z, n = z + 1 := ⟨n - 1, by omega⟩
    have hlt : ¬ (6 : Int32) ≤ nI p := nI_ge (a := p) (b := 6) (by omega) (by omega)
    obtain ⟨q1, q2⟩ := oc_P hC (p := p) (by omega)
    show hX5_allPowers_4 (loX5_allPowers n) w i c (nI p) = _
    unfold hX5_allPowers_4
    rw [if_neg hlt, q1, Option.bind_some, q2, Option.bind_some, nI_1, sumP]
    exact ih (p + 1) n _ (by omega) (by omega)
theorem mall_loop {w : XW} {kd ch Z : Nat → Int32} {tw : Int32} (h : Mo w kd ch Z tw) {S : PS} (hz : zS Z 198 S) : ∀ (m p n : Nat) (c : Int32), p + m = 6 → m + 1 ≤ n → loX8_powersOf n w 72 (nI 198) c (nI p) = some (sumP (sP S) m p c, w) := by
  intro m
  induction m with
  | zero =>
    intro p n c hp hn
    obtain ⟨n, rfl⟩ : ∃ z, n = z + 1 := ⟨n - 1, by omega⟩
    have hp6 : p = 6 := by omega
    subst hp6
    show hX8_powersOf_4 (loX8_powersOf n) w 72 (nI 198) c (nI 6) = _
    unfold hX8_powersOf_4
    rw [if_pos (by decide)]
    rfl
  | succ m ih =>
    intro p n c hp hn
    obtain ⟨n, rfl⟩ : ∃ z, n = z + 1 := ⟨n - 1, by omega⟩
    have hlt : ¬ (6 : Int32) ≤ nI p := nI_ge (a := p) (b := 6) (by omega) (by omega)
    have e : aI w 0 78 (nI 198 + nI p) = some (sP S p) := by rw [← hz.2.1 p (by omega)]; exact h.zo (by omega)
    show hX8_powersOf_4 (loX8_powersOf n) w 72 (nI 198) c (nI p) = _
    unfold hX8_powersOf_4
    rw [if_neg hlt, h.g7, Option.bind_some, e, Option.bind_some, nI_1, sumP]
    exact ih (p + 1) n _ (by omega) (by omega)
theorem day_loop {z N : Nat} {what : Int32} (hz : z ≤ 9999) (hN : N ≤ 60) : ∀ (m k n : Nat) (w : XW) (S : PS) (t c : Int32), Off sC WN w → Cl w 20 S t → sr S = 6 → k + m = N → m + 1 ≤ n → ∃ w', loX7_day n w 0 (nI z) (nI N) what c (nI k) = some (dyR z what m k S c, w') ∧ Off sC WN w' := by
  intro m
  induction m with
  | zero =>
    intro k n w S t c ho hC h6 hk hn
    obtain ⟨n, rfl⟩ : ∃ z, n = z + 1 := ⟨n - 1, by omega⟩
    have hkN : k = N := by omega
    subst hkN
    refine ⟨w, ?_, ho⟩
    show hX7_day_50 (loX7_day n) w 0 (nI z) (nI k) what c (nI k) = _
    unfold hX7_day_50
    rw [if_pos (nI_le (Nat.le_refl _) (by omega))]
    show _ = some (dyE what S c, w)
    unfold dyE
    by_cases c0 : what = 0
    · rw [if_pos c0, if_pos c0]
    · rw [if_neg c0, if_neg c0]
      by_cases c1 : what = 1
      · have ha : fX5_allPowers w 20 = some (sumP (sP S) 6 0 0, w) := by
          unfold fX5_allPowers
          rw [if_pos hC.o]
          exact all_loop hC 6 0 FU 0 rfl (by unfold FU; omega)
        rw [if_pos c1, if_pos c1, oc_5 ho, Option.bind_some, ha, Option.bind_some]
        rfl
      · have hR : gR w 20 5 1 = some 22 ∧ aI w 0 22 0 = some (nI (sO S 0)) := by
          obtain ⟨h0, P, R, s1, s2, s3⟩ := hC
          refine ⟨gR_at s1.1 rfl, ?_⟩
          rw [← s3 0 (by omega)]
          have := aI_at (x := nI 0) s1.2.2 (j := 0) (by omega) (nI_cl (by omega)) (nI_nn (by omega))
          exact this
        rw [if_neg c1, if_neg c1, oc_5 ho, Option.bind_some, hR.1, Option.bind_some, hR.2, Option.bind_some]
        rfl
  | succ m ih =>
    intro k n w S t c ho hC h6 hk hn
    obtain ⟨n, rfl⟩ : ∃ z, n = z + 1 := ⟨n - 1, by omega⟩
    obtain ⟨w1, t1, d1, d2, d3⟩ := drawn_spec ho hC h6 (dr_lt z k)
    obtain ⟨w2, r1, r2⟩ := ih (k + 1) n w1 _ t1 (c + dM (dr z k) S) d3 d2 (by rw [sr_d]; exact h6) (by omega) (by omega)
    refine ⟨w2, ?_, r2⟩
    show hX7_day_50 (loX7_day n) w 0 (nI z) (nI N) what c (nI k) = _
    unfold hX7_day_50
    rw [if_neg (nI_ge (by omega) (by omega)), dr_e hz (by omega), d1, Option.bind_some, nI_1, dyR]
    exact r1
theorem zS_upd {Z : Nat → Int32} {S : PS} (hz : zS Z 198 S) {p : Nat} (hp : p < 6) : zS (upd (upd Z (198 + p) (Z (198 + p) + 1)) (198 + 17) 0) 198 (SMul S p) := by
  obtain ⟨z0, z1, z2, z3, z4, z5, z6⟩ := hz
  have hr8 := z0.1
  refine ⟨z0, fun q hq => ?_, fun q hq => ?_, ?_, ?_, ?_, pk_us⟩
  · show _ = upd (sP S) p (sP S p + 1) q
    rw [pk_un (by omega)]
    by_cases e : q = p
    · rw [e, pk_us, pk_us, z1 p hp]
    · rw [pk_un (by omega), pk_un e]; exact z1 q hq
  · have hq' : q < sr S := hq
    rw [pk_un (by omega), pk_un (by omega)]; exact z2 q hq
  · rw [pk_un (by omega), pk_un (by omega)]; exact z3
  · rw [pk_un (by omega), pk_un (by omega)]; exact z4
  · rw [pk_un (by omega), pk_un (by omega)]; exact z5
theorem mday_loop {z N : Nat} {what : Int32} (hz9 : z ≤ 9999) (hN : N ≤ 60) : ∀ (m k n : Nat) (w : XW) (Z : Nat → Int32) (tw : Int32) (S : PS) (c : Int32), Mo w kd0 ch0 Z tw → zS Z 198 S → sr S = 6 → sk S + m < 2 ^ 30 → k + m = N → m + 1 ≤ n → ∃ w', loX8_day n w 72 (nI z) (nI N) what c (nI k) = some (dyR z what m k S c, w') ∧ Off sZ w w' := by
  intro m
  induction m with
  | zero =>
    intro k n w Z tw S c h hz h6 hsk hk hn
    obtain ⟨n, rfl⟩ : ∃ z, n = z + 1 := ⟨n - 1, by omega⟩
    have hkN : k = N := by omega
    subst hkN
    refine ⟨w, ?_, Off.rf⟩
    show hX8_day_52 (loX8_day n) w 72 (nI z) (nI k) what c (nI k) = _
    unfold hX8_day_52
    rw [if_pos (nI_le (Nat.le_refl _) (by omega))]
    show _ = some (dyE what S c, w)
    unfold dyE
    by_cases c0 : what = 0
    · rw [if_pos c0, if_pos c0]; rfl
    · rw [if_neg c0, if_neg c0]
      by_cases c1 : what = 1
      · have ha : fX8_powersOf w 72 198 = some (sumP (sP S) 6 0 0, w) := by
          unfold fX8_powersOf
          rw [if_pos h.o]
          exact mall_loop h hz 6 0 FU 0 rfl (by unfold FU; omega)
        rw [if_pos c1, if_pos c1, ha, Option.bind_some]
        rfl
      · have hR : aI w 0 78 204 = some (nI (sO S 0)) := by
          rw [← hz.2.2.1 0 (by omega)]
          exact h.z (a := 204) (by omega)
        rw [if_neg c1, if_neg c1, h.g7, Option.bind_some, hR, Option.bind_some]
        rfl
  | succ m ih =>
    intro k n w Z tw S c h hz h6 hsk hk hn
    obtain ⟨n, rfl⟩ : ∃ z, n = z + 1 := ⟨n - 1, by omega⟩
    have hd := dr_lt z k
    show ∃ w', hX8_day_52 (loX8_day n) w 72 (nI z) (nI N) what c (nI k) = some (dyR z what m (k + 1) (dS (dr z k) S) (c + dM (dr z k) S), w') ∧ Off sZ w w'
    have hsd := sk_d (d := dr z k) (S := S)
    have h6d : sr (dS (dr z k) S) = 6 := by rw [sr_d]; exact h6
    unfold hX8_day_52
    rw [if_neg (nI_ge (by omega) (by omega)), dr_e hz9 (by omega)]
    generalize dr z k = d at hd hsd h6d ⊢
    have e4 : irm (nI d) 4 = nI (d % 4) := pk_rem (a := d) (d := 4) (by omega) (by omega) (by omega)
    have e8 : irm (nI d / 8) 6 = nI (d / 8 % 6) := by
      rw [show nI d / 8 = nI (d / 8) from pk_div (a := d) (d := 8) (by omega) (by omega) (by omega)]
      exact pk_rem (a := d / 8) (d := 6) (by omega) (by omega) (by omega)
    have hp : d / 8 % 6 < 6 := Nat.mod_lt _ (by omega)
    have hd4 : d % 4 < 4 := Nat.mod_lt _ (by omega)
    have hgo : ∀ (v : XW) (Y : Nat → Int32) (t : Int32) (c' : Int32), Mo v kd0 ch0 Y t → zS Y 198 (dS d S) → Off sZ w v → c' = c + dM d S → ∃ w', bX8_day_219 (loX8_day n) v 72 (nI z) (nI N) what c' (nI k) = some (dyR z what m (k + 1) (dS d S) (c + dM d S), w') ∧ Off sZ w w' := by
      intro v Y t c' g1 g2 g3 g4
      unfold bX8_day_219
      rw [nI_1, g4]
      obtain ⟨w2, r1, r2⟩ := ih (k + 1) n v Y t _ (c + dM d S) g1 g2 h6d (by omega) (by omega) (by omega)
      exact ⟨w2, r1, g3.tr r2⟩
    rw [e4, e8]
    by_cases c2 : d % 4 = 2
    · have eS : dS d S = (if 999 ≤ sP S (d / 8 % 6) then S else SMul S (d / 8 % 6)) := by unfold dS; rw [if_pos c2]
      have eM : dM d S = 0 := by unfold dM; rw [if_pos c2]
      have ep : aI w 0 78 (198 + nI (d / 8 % 6)) = some (sP S (d / 8 % 6)) := by rw [← hz.2.1 _ hp]; exact h.zo (a := 198) (by omega)
      rw [c2, if_pos (by decide), if_pos (by decide), h.g7, Option.bind_some, ep, Option.bind_some]
      by_cases c9 : 999 ≤ sP S (d / 8 % 6)
      · rw [if_pos c9]
        unfold bX8_day_181
        rw [e4, c2, if_neg (by decide)]
        exact hgo w Z tw c h (by rw [eS, if_pos c9]; exact hz) Off.rf (by rw [eM, add0])
      · obtain ⟨w1, a1, a2, a3⟩ := h.so (a := 198) (c := d / 8 % 6) (by omega) (Z (198 + d / 8 % 6) + 1)
        obtain ⟨w2, b1, b2, b3⟩ := a2.so (a := 198) (c := 17) (by omega) 0
        have a1' : sI w 0 78 (198 + nI (d / 8 % 6)) (sP S (d / 8 % 6) + 1) = some w1 := by rw [← hz.2.1 _ hp]; exact a1
        have b1' : sI w1 0 78 215 0 = some w2 := b1
        rw [if_neg c9, Option.bind_some, ep, Option.bind_some, a1', Option.bind_some, a2.g7, Option.bind_some, b1', Option.bind_some]
        exact hgo w2 _ tw c b2 (by rw [eS, if_neg c9]; exact zS_upd hz hp) (a3.tr b3) (by rw [eM, add0])
    · have n2 : ¬ nI (d % 4) = 2 := fun z => c2 ((nI_eq (b := 2) (by omega) (by omega)).mp z)
      by_cases c3 : d % 4 = 3
      · have eS : dS d S = SRot S := by unfold dS; rw [if_neg c2, if_pos c3]
        have eM : dM d S = 0 := by unfold dM; rw [if_neg c2, if_pos c3]
        have el : aI w 0 78 212 = some (nI 6) := by
          have := h.z (a := 198 + 14) (by omega)
          rw [hz.2.2.2.1, h6] at this
          exact this
        obtain ⟨w2, Z2, b1, b2, b3, b4, b5, b6, b7⟩ := moves_spec h (b := 198) (x := 0) (y := 5) (by omega) (by omega) (by omega)
        have b1' : fX8_moves w 72 198 0 (nI 5) = some w2 := b1
        rw [c3, if_pos (by decide), if_neg (by decide)]
        unfold bX8_day_181
        rw [e4, c3, if_pos (by decide), h.g7, Option.bind_some, el, Option.bind_some, if_neg (by decide), Option.bind_some, el, Option.bind_some, show nI 6 - 1 = nI 5 by decide, b1', Option.bind_some]
        obtain ⟨z0, z1, z2, z3, z4, z5, z6⟩ := hz
        refine hgo w2 Z2 tw c b2 ?_ b3 (by rw [eM, add0])
        rw [eS]
        refine ⟨okRot z0 h6, fun q hq => ?_, fun p hp => ?_, ?_, ?_, ?_, b6⟩
        · rw [b7 _ (by omega) (by omega)]; exact z1 q hq
        · have hp6 : p < sr S := hp
          show Z2 (198 + 6 + p) = nI (if p = sr S - 1 then sO S 0 else sO S (p + 1))
          by_cases e : p = sr S - 1
          · rw [if_pos e, show p = 5 by omega, b5]; exact z2 0 (by omega)
          · rw [if_neg e, b4 p (by omega) (by omega)]; exact z2 (p + 1) (by omega)
        · rw [b7 _ (by omega) (by omega)]; exact z3
        · rw [b7 _ (by omega) (by omega)]; exact z4
        · rw [b7 _ (by omega) (by omega)]; exact z5
      · have eS : dS d S = stS kd0 ch0 S := by unfold dS; rw [if_neg c2, if_neg c3]
        have eM : dM d S = if nxt kd0 ch0 S = -4 then 0 else 1 := by unfold dM; rw [if_neg c2, if_neg c3]
        have n2' : ¬ (2 : Int32) ≤ nI (d % 4) := nI_ge (a := d % 4) (b := 2) (by omega) (by omega)
        obtain ⟨w1, Z1, t1, s1, m1, o1, y1, x1, _⟩ := step_spec h hz (by omega) (by omega)
        have s1' : fX8_step w 72 198 = some (nxt kd0 ch0 S, w1) := s1
        rw [if_neg n2', s1', Option.bind_some]
        show ∃ w', (if 0 ≤ nxt kd0 ch0 S then _ else _) = _ ∧ _
        unfold bX8_day_123
        rcases nxt_c (kd := kd0) (ch := ch0) hz.1 with e | ⟨f, hf, e, hc⟩
        · have hn : ¬ 0 ≤ nxt kd0 ch0 S := by rw [e]; decide
          rw [if_neg hn]
          exact hgo w1 Z1 t1 (c + 0) m1 (by rw [eS]; exact y1) o1 (by rw [eM, if_pos e])
        · have hn : 0 ≤ nxt kd0 ch0 S := by rw [e]; exact nI_pos' (by omega)
          have hn4 : ¬ nxt kd0 ch0 S = -4 := by rw [e]; exact nI_n4 (by omega)
          rw [if_pos hn]
          exact hgo w1 Z1 t1 (c + 1) m1 (by rw [eS]; exact y1) o1 (by rw [eM, if_neg hn4])
theorem ag_X7_day (a b c : Int32) : agr (fX7_day WN 0 a b c) (fun w => fX8_day w 72 a b c) := by
  by_cases ha : 0 ≤ a ∧ a ≤ 9999
  · by_cases hb : 1 ≤ b ∧ b ≤ 60
    · by_cases hc : 0 ≤ c ∧ c ≤ 2
      · obtain ⟨z, hz, rfl⟩ := rn (n := 9999) (by decide) ha
        obtain ⟨N, hN, rfl⟩ := rn1 (n := 60) (by decide) hb
        refine agM (v := dyR z c (N + 1) 0 S0 0) ?_ ?_
        · obtain ⟨w1, t1, c1, c2, c3, c4⟩ := oc_cp Off.rf an20
          obtain ⟨w2, d1, d2⟩ := day_loop (what := c) hz hN (N + 1) 0 FU w1 S0 t1 0 c4 c2 rfl (by omega) (by unfold FU; omega)
          refine ⟨w2, ?_, d2⟩
          unfold fX7_day eX7_day
          rw [if_pos o7, if3i ha, if3i hb, if2i hc, oc_5 Off.rf, Option.bind_some, oc_4 Off.rf, Option.bind_some, c1, Option.bind_some]
          exact d1
        · intro w hw
          have hm := oc_M hw
          obtain ⟨w1, Z1, c1, c2, c3, c4, c5⟩ := mcp hm zs0
          obtain ⟨w2, d1, d2⟩ := mday_loop (what := c) hz hN (N + 1) 0 FU w1 Z1 0 S0 0 c2 c4 rfl (by rw [sk0]; omega) (by omega) (by unfold FU; omega)
          refine ⟨w2, ?_, (c3.tr d2).1, (c3.tr d2).2.1⟩
          show fX8_day w 72 (nI z) (nI (N + 1)) c = _
          unfold fX8_day eX8_day
          rw [if_pos hm.o, in8 w _ 0 9999 _ _ (by decide) (by decide), Option.bind_some, if_pos ha, if_neg n10, in8 w _ 1 60 _ _ (by decide) (by decide), Option.bind_some, if_pos hb, if_neg n10, in8 w _ 0 2 _ _ (by decide) (by decide), Option.bind_some, if_pos hc, if_neg n10, c1, Option.bind_some]
          exact d1
      · refine agB ?_ ?_
        · unfold fX7_day eX7_day
          rw [if_pos o7, if3i ha, if3i hb, if2 hc]; rfl
        · show fX8_day WN 72 a b c = _
          unfold fX8_day eX8_day
          rw [if_pos o8, in8 WN _ 0 9999 _ _ (by decide) (by decide), Option.bind_some, if_pos ha, if_neg n10, in8 WN _ 1 60 _ _ (by decide) (by decide), Option.bind_some, if_pos hb, if_neg n10, in8 WN _ 0 2 _ _ (by decide) (by decide), Option.bind_some, if_neg hc]; rfl
    · refine agB ?_ ?_
      · unfold fX7_day eX7_day
        rw [if_pos o7, if3i ha, if3 hb]; rfl
      · show fX8_day WN 72 a b c = _
        unfold fX8_day eX8_day
        rw [if_pos o8, in8 WN _ 0 9999 _ _ (by decide) (by decide), Option.bind_some, if_pos ha, if_neg n10, in8 WN _ 1 60 _ _ (by decide) (by decide), Option.bind_some, if_neg hb]; rfl
  · refine agB ?_ ?_
    · unfold fX7_day eX7_day
      rw [if_pos o7, if3 ha]; rfl
    · show fX8_day WN 72 a b c = _
      unfold fX8_day eX8_day
      rw [if_pos o8, in8 WN _ 0 9999 _ _ (by decide) (by decide), Option.bind_some, if_neg ha]; rfl
