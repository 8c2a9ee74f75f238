/-! the fresh object's two sides -/
abbrev kd0 : Nat → Int32 := la []
abbrev ch0 : Nat → Int32 := la [0, (-1), 1, 1, (-1), 1, 0, 0, 0, 0, 1, (-1), 0, 0, 0, 0, (-1), 0, 0, 1, 0, (-1), 0, 0, (-1), 0, 0, 0, 1, 0, 0, (-1)]
abbrev Z0 : Nat → Int32 := la [3, 2, 0, 0, 0, 0, 0, 1, 2, 3, 4, 5, 0, 0, 6]
def S0 : PS := (la [3, 2], fun p => p, 6, 0, 0, false)
def sC : Nat → Prop := fun k => (11 ≤ k ∧ k ≤ 16) ∨ (20 ≤ k ∧ k ≤ 25) ∨ k = 67
theorem okS0 : okS S0 := ⟨(by decide : 6 ≤ 8), fun p (hp : p < 6) => (show p < 8 by omega)⟩
theorem cl0 : Cl WN 17 S0 0 := by
  refine ⟨okS0, la [3, 2], la [0, 1, 2, 3, 4, 5], ⟨⟨by decide, rfl⟩, ⟨by decide, rfl⟩, ⟨by decide, rfl⟩⟩, fun _ _ => rfl, ?_⟩
  show ∀ p, p < 6 → la [0, 1, 2, 3, 4, 5] p = nI p
  decide +kernel
theorem fr0 : FrA WN 5 kd0 ch0 := ⟨⟨6, by decide, rfl⟩, ⟨by decide, rfl⟩, ⟨by decide, rfl⟩⟩
theorem mo0 : Mo WN kd0 ch0 Z0 0 := ⟨⟨by decide, rfl⟩, ⟨by decide, rfl⟩, ⟨by decide, rfl⟩, ⟨by decide, rfl⟩⟩
theorem zs0 : zS Z0 0 S0 := by
  refine ⟨okS0, ?_, ?_, ?_, ?_, ?_, ?_⟩
  · show ∀ q, q < 6 → la [3, 2, 0, 0, 0, 0, 0, 1, 2, 3, 4, 5, 0, 0, 6] (0 + q) = la [3, 2] q
    decide +kernel
  · show ∀ p, p < 6 → la [3, 2, 0, 0, 0, 0, 0, 1, 2, 3, 4, 5, 0, 0, 6] (0 + 6 + p) = nI p
    decide +kernel
  · decide +kernel
  · decide +kernel
  · decide +kernel
  · decide +kernel
theorem tr0 : StA WN 20 (la []) (la []) 0 0 0 0 0 := ⟨⟨by decide, rfl⟩, ⟨by decide, rfl⟩, ⟨by decide, rfl⟩⟩
theorem go0 : StA WN 23 (la []) (la []) 0 0 0 0 0 := ⟨⟨by decide, rfl⟩, ⟨by decide, rfl⟩, ⟨by decide, rfl⟩⟩
section OC
variable {w : XW}
theorem oc_xat (h : Off sC WN w) {k : Nat} {c : XC} (hx : xat WN k c) (hk : ¬ ((11 ≤ k ∧ k ≤ 16) ∨ (20 ≤ k ∧ k ≤ 25) ∨ k = 67)) : xat w k c := h.xat hx hk
abbrev cfs : List Value := [.ref 1, .ref 3, .ref 5, .ref 11, .ref 17, .ref 20, .ref 23, .ref 26, .ref 52, .ref 65, .ref 66, .int 0, .ref 67, .ref 68, .ref 71]
theorem oc_0 (h : Off sC WN w) : xat w 0 (xo 7 cfs) := oc_xat h ⟨by decide, rfl⟩ (by omega)
theorem oc_o (h : Off sC WN w) : isO w 0 7 = true := isO_at (oc_0 h)
theorem oc_g (h : Off sC WN w) {k a : Nat} (hk : cfs[k]? = some (.ref a)) : gR w 0 7 k = some a := gR_at (oc_0 h) hk
theorem oc_2 (h : Off sC WN w) : gR w 0 7 2 = some 5 := oc_g h rfl
theorem oc_3 (h : Off sC WN w) : gR w 0 7 3 = some 11 := oc_g h rfl
theorem oc_4 (h : Off sC WN w) : gR w 0 7 4 = some 17 := oc_g h rfl
theorem oc_5 (h : Off sC WN w) : gR w 0 7 5 = some 20 := oc_g h rfl
theorem oc_6 (h : Off sC WN w) : gR w 0 7 6 = some 23 := oc_g h rfl
theorem oc_F (h : Off sC WN w) : FrA w 5 kd0 ch0 := h.FrA fr0 (fun k a b (z : (11 ≤ k ∧ k ≤ 16) ∨ (20 ≤ k ∧ k ≤ 25) ∨ k = 67) => by omega)
theorem oc_N (h : Off sC WN w) : Cl w 17 S0 0 := h.Cl cl0 (fun k a b (z : (11 ≤ k ∧ k ≤ 16) ∨ (20 ≤ k ∧ k ≤ 25) ∨ k = 67) => by omega)
theorem oc_M (h : Off sC WN w) : Mo w kd0 ch0 Z0 0 :=
  ⟨oc_xat h mo0.1 (by omega), oc_xat h mo0.2.1 (by omega), oc_xat h mo0.2.2.1 (by omega), oc_xat h mo0.2.2.2 (by omega)⟩
end OC
theorem oc_t {w w' : XW} (h : Off (St3 20) w w') : Off sC w w' := h.mono (fun k (z : 20 ≤ k ∧ k ≤ 20 + 2) => Or.inr (Or.inl ⟨z.1, by omega⟩))
theorem oc_u {w w' : XW} (h : Off (St3 23) w w') : Off sC w w' := h.mono (fun k (z : 23 ≤ k ∧ k ≤ 23 + 2) => Or.inr (Or.inl ⟨by omega, by omega⟩))
/-- some State lies at i -/
def anS (w : XW) (i : Nat) : Prop := ∃ P R rs ub st en ti, StA w i P R rs ub st en ti
theorem Cl.an {w : XW} {i : Nat} {S : PS} {ti : Int32} (h : Cl w i S ti) : anS w i := by
  obtain ⟨_, P, R, h1, _⟩ := h
  exact ⟨P, R, _, _, _, _, _, h1⟩
theorem an20 : anS WN 20 := ⟨_, _, _, _, _, _, _, tr0⟩
theorem an23 : anS WN 23 := ⟨_, _, _, _, _, _, _, go0⟩
theorem oc_cp {w : XW} (h : Off sC WN w) (ha : anS w 20) : ∃ w' ti, fX5_copyFrom w 20 17 = some w' ∧ Cl w' 20 S0 ti ∧ Off (St3 20) w w' ∧ Off sC WN w' := by
  obtain ⟨P, R, rs, ub, st, en, ti, hs⟩ := ha
  obtain ⟨w', h1, h2, h3⟩ := copy_spec (oc_N h) hs (by omega)
  exact ⟨w', ti, h1, h2, h3, h.tr (oc_t h3)⟩
theorem agM {a : Option (Int32 × XW)} {g : XW → Option (Int32 × XW)} {v : Int32} (h1 : ∃ w, a = some (v, w) ∧ Off sC WN w) (h2 : ∀ w, Off sC WN w → ∃ w', g w = some (v, w') ∧ w'.1 = w.1 ∧ w'.2.1 = w.2.1) : agr a g := by
  obtain ⟨w, e, o⟩ := h1
  obtain ⟨w', e2, o1, o2⟩ := h2 w o
  exact ⟨(v, w), (v, w'), e, e2, rfl, o1.trans o.1, o2.trans o.2.1⟩
theorem rn {x : Int32} {M : Int32} {n : Nat} (hM : M.toInt = n) (h : 0 ≤ x ∧ x ≤ M) : ∃ j : Nat, j ≤ n ∧ x = nI j := nI_of2 hM (fun z => neg1 z h.1) h.2
theorem n10 : ¬ (1 : Int32) = 0 := by decide
theorem rn1 {x : Int32} {M : Int32} {n : Nat} (hM : M.toInt = n) (h : 1 ≤ x ∧ x ≤ M) : ∃ j : Nat, j + 1 ≤ n ∧ x = nI (j + 1) := by
  have h1 : (1 : Int32).toInt = 1 := by decide
  have h0 : (0 : Int32).toInt = 0 := by decide
  have hx := h.1
  rw [i_le] at hx
  obtain ⟨j, hj, e⟩ := rn hM (x := x) ⟨by rw [i_le]; omega, h.2⟩
  cases j with
  | zero => exfalso; rw [e] at hx; exact absurd hx (by decide)
  | succ j => exact ⟨j, hj, e⟩
theorem oc_P {w : XW} {i : Nat} {S : PS} {ti : Int32} (h : Cl w i S ti) {p : Nat} (hp : p < 6) : gR w i 5 0 = some (i + 1) ∧ aI w 0 (i + 1) (nI p) = some (sP S p) := by
  obtain ⟨_, P, R, h1, h2, _⟩ := h
  refine ⟨gR_at h1.1 rfl, ?_⟩
  rw [← h2 p hp]
  exact aI_at h1.2.1 hp (nI_cl (by omega)) (nI_nn (by omega))
theorem mcp {w : XW} {kd ch Z : Nat → Int32} {tw : Int32} (h : Mo w kd ch Z tw) (hz : zS Z 0 S0) : ∃ w' Z', fX8_copies w 72 0 198 = some w' ∧ Mo w' kd ch Z' tw ∧ Off sZ w w' ∧ zS Z' 198 S0 ∧ (∀ x, x < 198 ∨ 216 ≤ x → Z' x = Z x) := copies_spec h (b := 0) (t := 198) (by omega) (by omega) (by omega) hz
theorem mcp2 {w : XW} {kd ch Z : Nat → Int32} {tw : Int32} (h : Mo w kd ch Z tw) (hz : zS Z 0 S0) : ∃ w' Z', fX8_copies w 72 0 216 = some w' ∧ Mo w' kd ch Z' tw ∧ Off sZ w w' ∧ zS Z' 216 S0 ∧ (∀ x, x < 216 ∨ 234 ≤ x → Z' x = Z x) := copies_spec h (b := 0) (t := 216) (by omega) (by omega) (by omega) hz
theorem sk0 : sk S0 = 0 := rfl
theorem skI {kd ch : Nat → Int32} : ∀ (n : Nat) (S : PS), sk (itS kd ch n S) ≤ sk S + n := by
  intro n
  induction n with
  | zero => intro S; exact Nat.le_refl _
  | succ n ih =>
    intro S
    have h1 := ih (stS kd ch S)
    have h2 := sk_st (kd := kd) (ch := ch) (S := S)
    show sk (itS kd ch n (stS kd ch S)) ≤ sk S + (n + 1)
    omega
theorem ag_X7_power (a b : Int32) : agr (fX7_power WN 0 a b) (fun w => fX8_power w 72 a b) := by
  by_cases ha : 0 ≤ a ∧ a ≤ 5
  · by_cases hb : 0 ≤ b ∧ b ≤ 200
    · obtain ⟨p, hp, rfl⟩ := rn (n := 5) (by decide) ha
      obtain ⟨n, hn, rfl⟩ := rn (n := 200) (by decide) hb
      refine agM (v := sP (itS kd0 ch0 n S0) p) ?_ ?_
      · obtain ⟨w1, t1, c1, c2, c3, c4⟩ := oc_cp Off.rf an20
        obtain ⟨w2, t2, d1, d2, d3⟩ := takeSteps_spec c2 (oc_F c4) (by omega) (show n < 4000 by omega)
        have o2 := c4.tr (oc_t d3)
        obtain ⟨q1, q2⟩ := oc_P d2 (p := p) (by omega)
        refine ⟨w2, ?_, o2⟩
        unfold fX7_power eX7_power
        rw [if_pos o7, isPr, Option.bind_some, if_pos ha, if_neg n10, if2i hb, oc_5 Off.rf, Option.bind_some, oc_4 Off.rf, Option.bind_some, c1, Option.bind_some, oc_5 c4, Option.bind_some, oc_2 c4, Option.bind_some, d1, Option.bind_some, oc_5 o2, Option.bind_some, q1, Option.bind_some, q2, Option.bind_some]
      · intro w hw
        have hm := oc_M hw
        obtain ⟨w1, Z1, c1, c2, c3, c4, c5⟩ := mcp hm zs0
        obtain ⟨w2, Z2, t2, d1, d2, d3, d4, d5⟩ := goes_spec c2 (b := 198) (n := n) (by omega) c4 (by omega) (by rw [sk0]; omega)
        have d1' : fX8_goes w1 72 198 (nI n) = some w2 := d1
        have e : aI w2 0 78 (198 + nI p) = some (sP (itS kd0 ch0 n S0) p) := by rw [← d4.2.1 p (by omega)]; exact d2.zo (a := 198) (by omega)
        refine ⟨w2, ?_, (c3.tr d3).1, (c3.tr d3).2.1⟩
        show fX8_power w 72 (nI p) (nI n) = _
        unfold fX8_power eX8_power
        rw [if_pos hm.o, in8 w _ 0 5 _ _ (by decide) (by decide), Option.bind_some, if_pos ha, if_neg n10, in8 w _ 0 200 _ _ (by decide) (by decide), Option.bind_some, if_pos hb, if_neg n10, c1, Option.bind_some, d1', Option.bind_some, d2.g7, Option.bind_some, e, Option.bind_some]
    · refine agB ?_ ?_
      · unfold fX7_power eX7_power
        rw [if_pos o7, isPr, Option.bind_some, if_pos ha, if_neg n10, if2 hb]; rfl
      · show fX8_power WN 72 a b = _
        unfold fX8_power eX8_power
        rw [if_pos o8, in8 WN _ 0 5 _ _ (by decide) (by decide), Option.bind_some, if_pos ha, if_neg n10, in8 WN _ 0 200 _ _ (by decide) (by decide), Option.bind_some, if_neg hb]; rfl
  · refine agB ?_ ?_
    · unfold fX7_power eX7_power
      rw [if_pos o7, isPr, Option.bind_some, if_neg ha]; rfl
    · show fX8_power WN 72 a b = _
      unfold fX8_power eX8_power
      rw [if_pos o8, in8 WN _ 0 5 _ _ (by decide) (by decide), Option.bind_some, if_neg ha]; rfl
theorem ag_X7_used (a : Int32) : agr (fX7_used WN 0 a) (fun w => fX8_used w 72 a) := by
  by_cases ha : 1 ≤ a ∧ a ≤ 200
  · obtain ⟨m, hm1, rfl⟩ := rn1 (n := 200) (by decide) ha
    refine agM (v := nxt kd0 ch0 (itS kd0 ch0 m S0)) ?_ ?_
    · obtain ⟨w1, t1, c1, c2, c3, c4⟩ := oc_cp Off.rf an20
      obtain ⟨w2, t2, d1, d2, d3⟩ := takeSteps_spec c2 (oc_F c4) (by omega) (show m < 4000 by omega)
      have o2 := c4.tr (oc_t d3)
      refine ⟨w2, ?_, o2⟩
      unfold fX7_used eX7_used
      rw [if_pos o7, if2i ha, oc_5 Off.rf, Option.bind_some, oc_4 Off.rf, Option.bind_some, c1, Option.bind_some, oc_5 c4, Option.bind_some, oc_2 c4, Option.bind_some, nI_pred, d1, Option.bind_some, oc_5 o2, Option.bind_some, oc_2 o2, Option.bind_some, cl_next d2 (oc_F o2), Option.bind_some]
    · intro w hw
      have hm := oc_M hw
      obtain ⟨w1, Z1, c1, c2, c3, c4, c5⟩ := mcp hm zs0
      obtain ⟨w2, Z2, t2, d1, d2, d3, d4, d5⟩ := goes_spec c2 (b := 198) (n := m) (by omega) c4 (by omega) (by rw [sk0]; omega)
      have d1' : fX8_goes w1 72 198 (nI m) = some w2 := d1
      have hsk := skI (kd := kd0) (ch := ch0) m S0
      rw [sk0] at hsk
      obtain ⟨w3, Z3, t3, e1, e2, e3, _⟩ := step_spec d2 d4 (by omega) (by omega)
      have e1' : fX8_step w2 72 198 = some (nxt kd0 ch0 (itS kd0 ch0 m S0), w3) := e1
      refine ⟨w3, ?_, ((c3.tr d3).tr e3).1, ((c3.tr d3).tr e3).2.1⟩
      show fX8_used w 72 (nI (m + 1)) = _
      unfold fX8_used eX8_used
      rw [if_pos hm.o, in8 w _ 1 200 _ _ (by decide) (by decide), Option.bind_some, if_pos ha, if_neg n10, c1, Option.bind_some, nI_pred, d1', Option.bind_some, e1', Option.bind_some]
  · refine agB ?_ ?_
    · unfold fX7_used eX7_used
      rw [if_pos o7, if2 ha]; rfl
    · show fX8_used WN 72 a = _
      unfold fX8_used eX8_used
      rw [if_pos o8, in8 WN _ 1 200 _ _ (by decide) (by decide), Option.bind_some, if_neg ha]; rfl
