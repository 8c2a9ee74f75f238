/-! maps and sources -/
def SA (a : Nat) : PS := (fun q => if q = 0 then nI a else 0, fun p => p, 6, 0, 0, false)
def mapV (p a : Nat) : Int32 := if rsS kd0 ch0 200 (SA a) = -4 then -4 else sP (itS kd0 ch0 200 (SA a)) p
theorem okSA (a : Nat) : okS (SA a) := ⟨(by decide : 6 ≤ 8), fun p (hp : p < 6) => (show p < 8 by omega)⟩
theorem rsS_0 {kd ch : Nat → Int32} {S : PS} : (0 ≤ rsS kd ch 200 S) ↔ ¬ rsS kd ch 200 S = -4 := by
  unfold rsS
  have h := mkS_le (kd := kd) (ch := ch) 200 S
  split
  · constructor
    · intro _; exact nI_n4 (by omega)
    · intro _; exact nI_pos' (by omega)
  · constructor
    · intro z; exact absurd z (by decide)
    · intro z; exact absurd rfl z
theorem sP_at {w : XW} {i : Nat} {P R : Nat → Int32} {rs ub st en ti : Int32} (h : StA w i P R rs ub st en ti) {p : Nat} (hp : p < 6) (v : Int32) : ∃ w', sI w 0 (i + 1) (nI p) v = some w' ∧ StA w' i (upd P p v) R rs ub st en ti ∧ Off (St3 i) w w' :=
  ⟨_, sI_at h.2.1 hp (nI_cl (by omega)) (nI_nn (by omega)), h.P, Off.put ⟨by omega, by omega⟩⟩
theorem forget_spec {w : XW} {i : Nat} {P R : Nat → Int32} {rs ub st en ti : Int32} (h : StA w i P R rs ub st en ti) : ∃ w', fX5_forgetSteps w i = some w' ∧ StA w' i P R rs 0 0 0 ti ∧ Off (St3 i) w w' := by
  obtain ⟨w1, a1, a2, a3⟩ := pX3 h 0
  obtain ⟨w2, b1, b2, b3⟩ := pX4 a2 0
  obtain ⟨w3, c1, c2, c3⟩ := pX5 b2 0
  refine ⟨w3, ?_, c2, (a3.tr b3).tr c3⟩
  unfold fX5_forgetSteps eX5_forgetSteps
  rw [if_pos (isO_at h.1), a1, Option.bind_some, b1, Option.bind_some, c1, Option.bind_some]
theorem begin_loop {i a : Nat} {R : Nat → Int32} {rs ub st en ti : Int32} : ∀ (m p n : Nat) (w : XW) (P : Nat → Int32), StA w i P R rs ub st en ti → (∀ q, q < p → P q = 0) → p + m = 6 → m + 1 ≤ n → ∃ w' P', loX5_beginAtPowerOfTwo n w i (nI a) (nI p) = some w' ∧ StA w' i P' R rs 0 0 0 ti ∧ (∀ q, q < 6 → P' q = if q = 0 then nI a else 0) ∧ Off (St3 i) w w' := by
  intro m
  induction m with
  | zero =>
    intro p n w P h hP hp hn
    obtain ⟨n, rfl⟩ : ∃ z, n = z + 1 := ⟨n - 1, by omega⟩
    have hp6 : p = 6 := by omega
    subst hp6
    obtain ⟨w1, a1, a2, a3⟩ := sP_at h (p := 0) (by omega) (nI a)
    obtain ⟨w2, b1, b2, b3⟩ := forget_spec a2
    have a1' : sI w 0 (i + 1) 0 (nI a) = some w1 := a1
    refine ⟨w2, _, ?_, b2, fun q hq => ?_, a3.tr b3⟩
    · show hX5_beginAtPowerOfTwo_2 (loX5_beginAtPowerOfTwo n) w i (nI a) (nI 6) = _
      unfold hX5_beginAtPowerOfTwo_2
      rw [if_pos (by decide), gR_at (k := 0) h.1 rfl, Option.bind_some, a1', Option.bind_some, b1, Option.bind_some]
    · by_cases e : q = 0
      · rw [if_pos e, e]; exact pk_us
      · rw [if_neg e, pk_un e]; exact hP q hq
  | succ m ih =>
    intro p n w P h hP hp hn
    obtain ⟨n, rfl⟩ : ∃ z, n = z + 1 := ⟨n - 1, by omega⟩
    have hlt : ¬ (6 : Int32) ≤ nI p := nI_ge (a := p) (b := 6) (by omega) (by omega)
    obtain ⟨w1, a1, a2, a3⟩ := sP_at h (p := p) (by omega) 0
    obtain ⟨w2, P2, b1, b2, b3, b4⟩ := ih (p + 1) n w1 _ a2 (fun q hq => by
      by_cases e : q = p
      · rw [e]; exact pk_us
      · rw [pk_un e]; exact hP q (by omega)) (by omega) (by omega)
    refine ⟨w2, P2, ?_, b2, b3, a3.tr b4⟩
    show hX5_beginAtPowerOfTwo_2 (loX5_beginAtPowerOfTwo n) w i (nI a) (nI p) = _
    unfold hX5_beginAtPowerOfTwo_2
    rw [if_neg hlt, gR_at (k := 0) h.1 rfl, Option.bind_some, a1, Option.bind_some, nI_1]
    exact b1
theorem begin_spec {w : XW} {i a : Nat} {ti : Int32} (hC : Cl w i S0 ti) : ∃ w', fX5_beginAtPowerOfTwo w i (nI a) = some w' ∧ Cl w' i (SA a) ti ∧ Off (St3 i) w w' := by
  have ho := hC.o
  obtain ⟨h0, P, R, h1, h2, h3⟩ := hC
  obtain ⟨w2, P2, b1, b2, b3, b4⟩ := begin_loop (a := a) 6 0 FU w P h1 (fun q hq => by omega) rfl (by unfold FU; omega)
  refine ⟨w2, ?_, ⟨okSA a, P2, R, b2, b3, h3⟩, b4⟩
  unfold fX5_beginAtPowerOfTwo
  rw [if_pos ho]
  exact b1
theorem pfrom_spec {w : XW} (ho : Off sC WN w) (ha : anS w 20) {a p : Nat} (hp : p < 6) : ∃ w', fX7_powerAtRestFrom w 0 (nI a) (nI p) = some (mapV p a, w') ∧ Off sC WN w' ∧ anS w' 20 := by
  obtain ⟨w1, t1, c1, c2, c3, c4⟩ := oc_cp ho ha
  obtain ⟨w2, d1, d2, d3⟩ := begin_spec (a := a) c2
  have o2 := c4.tr (oc_t d3)
  obtain ⟨w3, t3, e1, e2, e3⟩ := toRest_spec d2 (oc_F o2) (by omega) (show 200 < 4000 by omega)
  have o3 := o2.tr (oc_t e3)
  have e1' : fX5_stepsToRest w2 20 5 200 = some (rsS kd0 ch0 200 (SA a), w3) := e1
  refine ⟨w3, ?_, o3, e2.an⟩
  unfold fX7_powerAtRestFrom eX7_powerAtRestFrom
  rw [if_pos (oc_o ho), oc_5 ho, Option.bind_some, oc_4 ho, Option.bind_some, c1, Option.bind_some, oc_5 c4, Option.bind_some, d1, Option.bind_some, oc_5 o2, Option.bind_some, oc_2 o2, Option.bind_some, e1', Option.bind_some]
  unfold mapV
  obtain ⟨q1, q2⟩ := oc_P e2 hp
  generalize rsS kd0 ch0 200 (SA a) = r0
  generalize sP (itS kd0 ch0 200 (SA a)) p = v0 at q2 ⊢
  show (if r0 = -4 then _ else _) = _
  by_cases e : r0 = -4
  · rw [if_pos e, if_pos e]; rfl
  · rw [if_neg e, if_neg e, oc_5 o3, Option.bind_some, q1, Option.bind_some, q2, Option.bind_some]
    rfl
theorem zS_cg {Z Z' : Nat → Int32} {b : Nat} {S : PS} (h : zS Z b S) (he : ∀ x, b ≤ x → x < b + 18 → Z' x = Z x) : zS Z' b S := by
  obtain ⟨z0, z1, z2, z3, z4, z5, z6⟩ := h
  have hr8 := z0.1
  refine ⟨z0, fun q hq => ?_, fun p hp => ?_, ?_, ?_, ?_, ?_⟩
  · rw [he _ (by omega) (by omega)]; exact z1 q hq
  · rw [he _ (by omega) (by omega)]; exact z2 p hp
  · rw [he _ (by omega) (by omega)]; exact z3
  · rw [he _ (by omega) (by omega)]; exact z4
  · rw [he _ (by omega) (by omega)]; exact z5
  · rw [he _ (by omega) (by omega)]; exact z6
theorem mapOf_loop {a pr : Nat} (hpr : pr < 6) : ∀ (m p n : Nat) (w : XW) (Z : Nat → Int32) (tw : Int32), Mo w kd0 ch0 Z tw → (∀ q, q < 6 → Z (198 + 6 + q) = nI q) → Z (198 + 14) = nI 6 → (∀ q, q < p → Z (198 + q) = sP (SA a) q) → p + m = 6 → m + 1 ≤ n → ∃ w' Z' tw', loX8_mapOf n w 72 (nI a) (nI pr) (nI p) = some (mapV pr a, w') ∧ Mo w' kd0 ch0 Z' tw' ∧ Off sZ w w' ∧ (∀ x, x < 198 ∨ 216 ≤ x → Z' x = Z x) := by
  intro m
  induction m with
  | zero =>
    intro p n w Z tw h hr hl hP hp hn
    obtain ⟨n, rfl⟩ : ∃ z, n = z + 1 := ⟨n - 1, by omega⟩
    have hp6 : p = 6 := by omega
    subst hp6
    obtain ⟨w1, a1, a2, a3⟩ := h.s (a := 213) (by omega) 0
    obtain ⟨w2, b1, b2, b3⟩ := a2.s (a := 214) (by omega) 0
    obtain ⟨w3, c1, c2, c3⟩ := b2.s (a := 215) (by omega) 0
    have hz : zS (upd (upd (upd Z 213 0) 214 0) 215 0) 198 (SA a) := by
      refine ⟨okSA a, fun q hq => ?_, fun q hq => ?_, ?_, ?_, ?_, ?_⟩
      · rw [pk_un (by omega), pk_un (by omega), pk_un (by omega)]; exact hP q hq
      · have hq6 : q < 6 := hq
        rw [pk_un (by omega), pk_un (by omega), pk_un (by omega)]; exact hr q hq6
      · rw [pk_un (by omega), pk_un (by omega), pk_un (by omega)]; exact hl
      · rw [pk_un (by omega), pk_un (by omega)]; exact pk_us
      · rw [pk_un (by omega)]; exact pk_us
      · exact pk_us
    obtain ⟨w4, Z4, t4, d1, d2, d3, d4, d5⟩ := restsBy_spec c2 (b := 198) (by omega) hz (by show 0 + 200 < 2 ^ 30; omega)
    have a1' : sI w 0 78 213 0 = some w1 := a1
    have b1' : sI w1 0 78 214 0 = some w2 := b1
    have c1' : sI w2 0 78 215 0 = some w3 := c1
    have d1' : fX8_restsBy w3 72 198 = some (rsS kd0 ch0 200 (SA a), w4) := d1
    have e : aI w4 0 78 (198 + nI pr) = some (sP (itS kd0 ch0 200 (SA a)) pr) := by rw [← d4.2.1 pr (by omega)]; exact d2.zo (a := 198) (by omega)
    refine ⟨w4, Z4, t4, ?_, d2, ((a3.tr b3).tr c3).tr d3, fun x hx => ?_⟩
    · show hX8_mapOf_10 (loX8_mapOf n) w 72 (nI a) (nI pr) (nI 6) = _
      unfold hX8_mapOf_10
      rw [if_pos (by decide), h.g7, Option.bind_some, a1', Option.bind_some, a2.g7, Option.bind_some, b1', Option.bind_some, b2.g7, Option.bind_some, c1', Option.bind_some, d1', Option.bind_some]
      unfold mapV
      have hr0 := rsS_0 (kd := kd0) (ch := ch0) (S := SA a)
      generalize rsS kd0 ch0 200 (SA a) = r0 at hr0 ⊢
      generalize sP (itS kd0 ch0 200 (SA a)) pr = v0 at e ⊢
      show (if 0 ≤ r0 then _ else _) = _
      by_cases e4 : r0 = -4
      · rw [if_neg (fun z => hr0.mp z e4), if_pos e4]; rfl
      · rw [if_pos (hr0.mpr e4), if_neg e4, d2.g7, Option.bind_some, e, Option.bind_some]; rfl
    · rw [d5 x (by omega), pk_un (by omega), pk_un (by omega), pk_un (by omega)]
  | succ m ih =>
    intro p n w Z tw h hr hl hP hp hn
    obtain ⟨n, rfl⟩ : ∃ z, n = z + 1 := ⟨n - 1, by omega⟩
    have hlt : ¬ (6 : Int32) ≤ nI p := nI_ge (a := p) (b := 6) (by omega) (by omega)
    obtain ⟨w1, a1, a2, a3⟩ := h.so (a := 198) (c := p) (by omega) (sP (SA a) p)
    have a1' : sI w 0 78 (198 + nI p) (sP (SA a) p) = some w1 := a1
    obtain ⟨w2, Z2, t2, b1, b2, b3, b4⟩ := ih (p + 1) n w1 _ tw a2 (fun q hq => by rw [pk_un (by omega)]; exact hr q hq) (by rw [pk_un (by omega)]; exact hl) (fun q hq => by
      by_cases e : q = p
      · rw [e]; exact pk_us
      · rw [pk_un (by omega)]; exact hP q (by omega)) (by omega) (by omega)
    refine ⟨w2, Z2, t2, ?_, b2, a3.tr b3, fun x hx => by rw [b4 x hx, pk_un (by omega)]⟩
    show hX8_mapOf_10 (loX8_mapOf n) w 72 (nI a) (nI pr) (nI p) = _
    unfold hX8_mapOf_10
    rw [if_neg hlt, h.g7, Option.bind_some]
    cases p with
    | zero =>
      rw [if_pos (by decide)]
      unfold bX8_mapOf_34
      have a2' : sI w 0 78 (198 + nI 0) (nI a) = some w1 := a1'
      rw [a2', Option.bind_some, nI_1]
      exact b1
    | succ p =>
      rw [if_neg (nI_ne0 (by omega) (by omega))]
      unfold bX8_mapOf_34
      have a2' : sI w 0 78 (198 + nI (p + 1)) 0 = some w1 := a1'
      rw [a2', Option.bind_some, nI_1]
      exact b1
theorem mapOf_spec {w : XW} {Z : Nat → Int32} {tw : Int32} (h : Mo w kd0 ch0 Z tw) (hz : zS Z 0 S0) {a p : Nat} (hp : p < 6) : ∃ w' Z' tw', fX8_mapOf w 72 (nI a) (nI p) = some (mapV p a, w') ∧ Mo w' kd0 ch0 Z' tw' ∧ Off sZ w w' ∧ zS Z' 0 S0 := by
  obtain ⟨w1, Z1, c1, c2, c3, c4, c5⟩ := mcp h hz
  obtain ⟨w2, Z2, t2, d1, d2, d3, d4⟩ := mapOf_loop (a := a) hp 6 0 FU w1 Z1 tw c2 (fun q hq => c4.2.2.1 q hq) c4.2.2.2.1 (fun q hq => by omega) rfl (by unfold FU; omega)
  refine ⟨w2, Z2, t2, ?_, d2, c3.tr d3, zS_cg hz (fun x h1 h2 => by rw [d4 x (by omega), c5 x (by omega)])⟩
  unfold fX8_mapOf eX8_mapOf
  rw [if_pos h.o, c1, Option.bind_some]
  exact d1
theorem if40 {α : Type} {x : Int32} {A B : α} (h : 0 ≤ x ∧ x ≤ 40) : (if x < 0 then B else if 40 < x then B else A) = A := if3i h
theorem ag_X7_map (a b : Int32) : agr (fX7_map WN 0 a b) (fun w => fX8_map w 72 a b) := by
  by_cases ha : 0 ≤ a ∧ a ≤ 40
  · by_cases hb : 0 ≤ b ∧ b ≤ 5
    · obtain ⟨a, ha2, rfl⟩ := rn (n := 40) (by decide) ha
      obtain ⟨p, hp, rfl⟩ := rn (n := 5) (by decide) hb
      refine agM (v := mapV p a) ?_ ?_
      · obtain ⟨w1, c1, c2, c3⟩ := pfrom_spec (a := a) (p := p) Off.rf an20 (by omega)
        refine ⟨w1, ?_, c2⟩
        unfold fX7_map eX7_map
        rw [if_pos o7, if3i ha, isPr, Option.bind_some, if_pos hb, if_neg n10, c1, Option.bind_some]
      · intro w hw
        have hm := oc_M hw
        obtain ⟨w1, Z1, t1, c1, c2, c3, c4⟩ := mapOf_spec (a := a) (p := p) hm zs0 (by omega)
        refine ⟨w1, ?_, c3.1, c3.2.1⟩
        show fX8_map w 72 (nI a) (nI p) = _
        unfold fX8_map eX8_map
        rw [if_pos hm.o, in8 w _ 0 40 _ _ (by decide) (by decide), Option.bind_some, if_pos ha, if_neg n10, in8 w _ 0 5 _ _ (by decide) (by decide), Option.bind_some, if_pos hb, if_neg n10, c1, Option.bind_some]
        unfold bX8_map_34
        generalize mapV p a = v0
        rfl
    · refine agB ?_ ?_
      · unfold fX7_map eX7_map
        rw [if_pos o7, if3i ha, isPr, Option.bind_some, if_neg hb]; rfl
      · show fX8_map WN 72 a b = _
        unfold fX8_map eX8_map
        rw [if_pos o8, in8 WN _ 0 40 _ _ (by decide) (by decide), Option.bind_some, if_pos ha, if_neg n10, in8 WN _ 0 5 _ _ (by decide) (by decide), Option.bind_some, if_neg hb]; rfl
  · refine agB ?_ ?_
    · unfold fX7_map eX7_map
      rw [if_pos o7, if3 ha]; rfl
    · show fX8_map WN 72 a b = _
      unfold fX8_map eX8_map
      rw [if_pos o8, in8 WN _ 0 40 _ _ (by decide) (by decide), Option.bind_some, if_neg ha]; rfl
/-! sources -/
def fu (g : Nat → Int32) (v : Int32) : Nat → Nat → Int32 → Int32
  | 0, _, d => d
  | m + 1, a, d => if g a = v then nI a else fu g v m (a + 1) d
def cu (g : Nat → Int32) (v : Int32) : Nat → Nat → Nat
  | 0, _ => 0
  | m + 1, a => (if g a = v then 1 else 0) + cu g v m (a + 1)
theorem fu_s (g : Nat → Int32) (v : Int32) : ∀ (m a : Nat) (d : Int32), fu g v (m + 1) a d = fu g v m a (if g (a + m) = v then nI (a + m) else d) := by
  intro m
  induction m with
  | zero => intro a d; rfl
  | succ m ih =>
    intro a d
    rw [fu, ih (a + 1) d, fu, show a + 1 + m = a + (m + 1) by omega]
theorem cu_s (g : Nat → Int32) (v : Int32) : ∀ (m a : Nat), cu g v (m + 1) a = cu g v m a + (if g (a + m) = v then 1 else 0) := by
  intro m
  induction m with
  | zero => intro a; show _ + 0 = 0 + _; rw [Nat.add_comm]; rfl
  | succ m ih =>
    intro a
    rw [cu, ih (a + 1), cu, show a + 1 + m = a + (m + 1) by omega, Nat.add_assoc]
theorem src_loop {p : Nat} (hp : p < 6) {v what : Int32} : ∀ (m a n c : Nat) (w : XW), Off sC WN w → anS w 20 → a + m = 41 → m + 1 ≤ n → ∃ w', loX7_sources n w 0 (nI p) v what (nI c) (nI a) = some (if what = 1 then fu (mapV p) v m a (-4) else nI (c + cu (mapV p) v m a), w') ∧ Off sC WN w' := by
  intro m
  induction m with
  | zero =>
    intro a n c w ho hs ha hn
    obtain ⟨n, rfl⟩ : ∃ z, n = z + 1 := ⟨n - 1, by omega⟩
    have h2 : a = 41 := by omega
    subst h2
    refine ⟨w, ?_, ho⟩
    show hX7_sources_35 (loX7_sources n) w 0 (nI p) v what (nI c) (nI 41) = _
    unfold hX7_sources_35
    rw [if_pos (by decide)]
    by_cases e : what = 1
    · rw [if_pos e, if_pos e]; rfl
    · rw [if_neg e, if_neg e]; rfl
  | succ m ih =>
    intro a n c w ho hs ha hn
    obtain ⟨n, rfl⟩ : ∃ z, n = z + 1 := ⟨n - 1, by omega⟩
    have h3 : ¬ (40 : Int32) < nI a := nI_nlt (a := 40) (b := a) (by omega) (by omega)
    obtain ⟨w1, c1, c2, c3⟩ := pfrom_spec (a := a) ho hs hp
    show ∃ w', hX7_sources_35 (loX7_sources n) w 0 (nI p) v what (nI c) (nI a) = _ ∧ _
    unfold hX7_sources_35
    rw [if_neg h3, c1, Option.bind_some, fu, cu]
    generalize mapV p a = v0
    show ∃ w', (if v0 = v then _ else _) = _ ∧ _
    by_cases e : v0 = v
    · rw [if_pos e, if_pos e, if_pos e]
      by_cases e1 : what = 1
      · rw [if_pos e1, if_pos e1]; exact ⟨w1, rfl, c2⟩
      · rw [if_neg e1, if_neg e1]
        unfold bX7_sources_64
        rw [nI_1, nI_1]
        obtain ⟨w2, d1, d2⟩ := ih (a + 1) n (c + 1) w1 c2 c3 (by omega) (by omega)
        rw [if_neg e1, Nat.add_assoc] at d1
        exact ⟨w2, d1, d2⟩
    · rw [if_neg e, if_neg e, if_neg e]
      unfold bX7_sources_64
      rw [nI_1, Nat.zero_add]
      exact ih (a + 1) n c w1 c2 c3 (by omega) (by omega)
theorem msrc_loop {p : Nat} (hp : p < 6) {v what : Int32} : ∀ (m n c : Nat) (least : Int32) (w : XW) (Z : Nat → Int32) (tw : Int32), Mo w kd0 ch0 Z tw → zS Z 0 S0 → m ≤ 41 → m + 1 ≤ n → ∃ w', loX8_sources n w 72 (nI p) v what (nI c) least (nI m + (-1)) = some (if what = 0 then nI (c + cu (mapV p) v m 0) else fu (mapV p) v m 0 least, w') ∧ Off sZ w w' := by
  intro m
  induction m with
  | zero =>
    intro n c least w Z tw h hz hm hn
    obtain ⟨n, rfl⟩ : ∃ z, n = z + 1 := ⟨n - 1, by omega⟩
    refine ⟨w, ?_, Off.rf⟩
    show hX8_sources_47 (loX8_sources n) w 72 (nI p) v what (nI c) least (nI 0 + (-1)) = _
    unfold hX8_sources_47
    rw [if_pos (by decide)]
    by_cases e : what = 0
    · rw [if_pos e, if_pos e]; rfl
    · rw [if_neg e, if_neg e]; rfl
  | succ m ih =>
    intro n c least w Z tw h hz hm hn
    obtain ⟨n, rfl⟩ : ∃ z, n = z + 1 := ⟨n - 1, by omega⟩
    obtain ⟨w1, Z1, t1, c1, c2, c3, c4⟩ := mapOf_spec (a := m) h hz hp
    rw [pk_m1]
    show ∃ w', hX8_sources_47 (loX8_sources n) w 72 (nI p) v what (nI c) least (nI m) = _ ∧ _
    unfold hX8_sources_47
    rw [if_neg (nI_nn (by omega)), c1, Option.bind_some, fu_s, cu_s, Nat.zero_add]
    generalize mapV p m = v0
    show ∃ w', (if v0 = v then _ else _) = _ ∧ _
    by_cases e : v0 = v
    · rw [if_pos e, if_pos e, if_pos e]
      unfold bX8_sources_68
      rw [if_neg n10]
      unfold bX8_sources_82
      rw [if_neg n10]
      unfold bX8_sources_97
      rw [nI_1]
      obtain ⟨w2, d1, d2⟩ := ih n (c + 1) (nI m) w1 Z1 t1 c2 c4 (by omega) (by omega)
      rw [show c + 1 + cu (mapV p) v m 0 = c + (cu (mapV p) v m 0 + 1) by omega] at d1
      exact ⟨w2, d1, c3.tr d2⟩
    · rw [if_neg e, if_neg e, if_neg e]
      unfold bX8_sources_68
      rw [if_pos rfl]
      unfold bX8_sources_82
      rw [if_pos rfl]
      unfold bX8_sources_97
      rw [add0, Nat.add_zero]
      obtain ⟨w2, d1, d2⟩ := ih n c least w1 Z1 t1 c2 c4 (by omega) (by omega)
      exact ⟨w2, d1, c3.tr d2⟩
theorem ag_X7_sources (a b c : Int32) : agr (fX7_sources WN 0 a b c) (fun w => fX8_sources w 72 a b c) := by
  by_cases ha : 0 ≤ a ∧ a ≤ 5
  · by_cases hb : 0 ≤ b ∧ b ≤ 999
    · by_cases hc : 0 ≤ c ∧ c ≤ 1
      · obtain ⟨p, hp, rfl⟩ := rn (n := 5) (by decide) ha
        obtain ⟨k, hk, rfl⟩ := rn (n := 1) (by decide) hc
        have hk2 : (if nI k = 1 then fu (mapV p) b 41 0 (-4) else nI (0 + cu (mapV p) b 41 0)) = (if nI k = 0 then nI (0 + cu (mapV p) b 41 0) else fu (mapV p) b 41 0 (-4)) := by
          have h2 : k = 0 ∨ k = 1 := by omega
          rcases h2 with rfl | rfl
          · rw [if_neg (by decide), if_pos (by decide)]
          · rw [if_pos (by decide), if_neg (by decide)]
        refine agM (v := if nI k = 1 then fu (mapV p) b 41 0 (-4) else nI (0 + cu (mapV p) b 41 0)) ?_ ?_
        · obtain ⟨w1, d1, d2⟩ := src_loop (p := p) (by omega) (v := b) (what := nI k) 41 0 FU 0 WN Off.rf an20 rfl (by unfold FU; omega)
          refine ⟨w1, ?_, d2⟩
          unfold fX7_sources eX7_sources
          rw [if_pos o7, isPr, Option.bind_some, if_pos ha, if_neg n10, if3i hb, if2i hc]
          exact d1
        · intro w hw
          have hm := oc_M hw
          obtain ⟨w1, d1, d2⟩ := msrc_loop (p := p) (by omega) (v := b) (what := nI k) 41 FU 0 (-4) w Z0 0 hm zs0 (by omega) (by unfold FU; omega)
          rw [← hk2] at d1
          refine ⟨w1, ?_, d2.1, d2.2.1⟩
          show fX8_sources w 72 (nI p) b (nI k) = _
          unfold fX8_sources eX8_sources
          rw [if_pos hm.o, in8 w _ 0 5 _ _ (by decide) (by decide), Option.bind_some, if_pos ha, if_neg n10, in8 w _ 0 999 _ _ (by decide) (by decide), Option.bind_some, if_pos hb, if_neg n10, in8 w _ 0 1 _ _ (by decide) (by decide), Option.bind_some, if_pos hc, if_neg n10]
          exact d1
      · refine agB ?_ ?_
        · unfold fX7_sources eX7_sources
          rw [if_pos o7, isPr, Option.bind_some, if_pos ha, if_neg n10, if3i hb, if2 hc]; rfl
        · show fX8_sources WN 72 a b c = _
          unfold fX8_sources eX8_sources
          rw [if_pos o8, in8 WN _ 0 5 _ _ (by decide) (by decide), Option.bind_some, if_pos ha, if_neg n10, in8 WN _ 0 999 _ _ (by decide) (by decide), Option.bind_some, if_pos hb, if_neg n10, in8 WN _ 0 1 _ _ (by decide) (by decide), Option.bind_some, if_neg hc]; rfl
    · refine agB ?_ ?_
      · unfold fX7_sources eX7_sources
        rw [if_pos o7, isPr, Option.bind_some, if_pos ha, if_neg n10, if3 hb]; rfl
      · show fX8_sources WN 72 a b c = _
        unfold fX8_sources eX8_sources
        rw [if_pos o8, in8 WN _ 0 5 _ _ (by decide) (by decide), Option.bind_some, if_pos ha, if_neg n10, in8 WN _ 0 999 _ _ (by decide) (by decide), Option.bind_some, if_neg hb]; rfl
  · refine agB ?_ ?_
    · unfold fX7_sources eX7_sources
      rw [if_pos o7, isPr, Option.bind_some, if_neg ha]; rfl
    · show fX8_sources WN 72 a b c = _
      unfold fX8_sources eX8_sources
      rw [if_pos o8, in8 WN _ 0 5 _ _ (by decide) (by decide), Option.bind_some, if_neg ha]; rfl
