/-! of which kind: the model's run -/
abbrev sM : Nat → Prop := fun k => k = 72 ∨ k = 73 ∨ k = 78
theorem om_Z {w w' : XW} (h : Off sZ w w') : Off sM w w' := h.mono (fun k (z : k = 72 ∨ k = 78) => z.elim Or.inl (fun e => Or.inr (Or.inr e)))
theorem Mo.sk {w : XW} {kd ch Z : Nat → Int32} {tw : Int32} (h : Mo w kd ch Z tw) {a : Nat} (ha : a < 8) (v : Int32) : ∃ w', sI w 0 73 (nI a) v = some w' ∧ Mo w' (upd kd a v) ch Z tw ∧ Off (fun k => k = 73) w w' :=
  ⟨_, sI_at h.2.1 ha (nI_cl (by omega)) (nI_nn (by omega)), ⟨xat_ne h.1 (by omega), xat_put h.2.1, xat_ne h.2.2.1 (by omega), xat_ne h.2.2.2 (by omega)⟩, Off.put rfl⟩
theorem om_73 {w w' : XW} (h : Off (fun k => k = 73) w w') : Off sM w w' := h.mono (fun k (z : k = 73) => Or.inr (Or.inl z))
theorem isSo_loop {K : Nat → Int32} : ∀ (m a n : Nat) (w : XW) (Z : Nat → Int32) (tw : Int32) (S : PS), Mo w K ch0 Z tw → zS Z 198 S → sk S + m < 2 ^ 30 → a + m = 60 → 2 * m + 1 ≤ n → ∃ w' Z' tw', (loX8_isSo n).1 w 72 1 (nI (a + 1)) = some (1, w') ∧ Mo w' K ch0 Z' tw' ∧ Off sZ w w' ∧ (∀ x, x < 198 ∨ 216 ≤ x → Z' x = Z x) := by
  intro m
  induction m with
  | zero =>
    intro a n w Z tw S h hz hk ha hn
    obtain ⟨n, rfl⟩ : ∃ z, n = z + 1 := ⟨n - 1, by omega⟩
    have h60 : a = 60 := by omega
    subst h60
    refine ⟨w, Z, tw, ?_, h, Off.rf, fun _ _ => rfl⟩
    show hX8_isSo_12 (loX8_isSo n) w 72 1 (nI 61) = _
    unfold hX8_isSo_12
    rw [if_pos (by decide), if_pos (by decide)]
  | succ m ih =>
    intro a n w Z tw S h hz hk ha hn
    obtain ⟨n, rfl⟩ : ∃ z, n = z + 2 := ⟨n - 2, by omega⟩
    have h60 : ¬ (60 : Int32) < nI (a + 1) := nI_nlt (a := 60) (b := a + 1) (by omega) (by omega)
    obtain ⟨w1, Z1, t1, s1, m1, o1, y1, x1, _⟩ := step_spec h hz (by omega) (by omega)
    have s1' : fX8_step w 72 198 = some (nxt K ch0 S, w1) := s1
    have hs := sk_st (kd := K) (ch := ch0) (S := S)
    obtain ⟨w2, Z2, t2, r1, r2, r3, r4⟩ := ih (a + 1) n w1 Z1 t1 _ m1 y1 (by omega) (by omega) (by omega)
    refine ⟨w2, Z2, t2, ?_, r2, o1.tr r3, fun x hx => by rw [r4 x hx, x1 x hx]⟩
    show hX8_isSo_12 (loX8_isSo (n + 1)) w 72 1 (nI (a + 1)) = _
    unfold hX8_isSo_12
    rw [if_neg h60, s1', Option.bind_some]
    show hX8_isSo_29 (loX8_isSo n) w1 72 1 (nI (a + 1)) _ 0 = _
    unfold hX8_isSo_29
    rw [gI_at (k := 15) m1.1 rfl, Option.bind_some, if_pos (by decide), nI_1]
    exact r1
theorem isSo_spec {w : XW} {K Z : Nat → Int32} {tw : Int32} (h : Mo w K ch0 Z tw) (hz : zS Z 0 S0) : ∃ w' Z' tw', fX8_isSo w 72 = some (1, w') ∧ Mo w' K ch0 Z' tw' ∧ Off sZ w w' ∧ zS Z' 0 S0 := by
  obtain ⟨w1, Z1, c1, c2, c3, c4, c5⟩ := mcp h hz
  obtain ⟨w2, Z2, t2, r1, r2, r3, r4⟩ := isSo_loop 60 0 FU w1 Z1 tw S0 c2 c4 (by rw [sk0]; omega) rfl (by unfold FU; omega)
  refine ⟨w2, Z2, t2, ?_, r2, c3.tr r3, zS_cg hz (fun x _ hx => by rw [r4 x (by omega), c5 x (by omega)])⟩
  unfold fX8_isSo eX8_isSo
  rw [if_pos h.o, c1, Option.bind_some]
  exact r1
theorem ko_loop {f : Nat} (hf : f < 6) : ∀ (m k n : Nat) (w : XW) (K Z : Nat → Int32) (tw s : Int32), Mo w K ch0 Z tw → zS Z 0 S0 → (∀ q, q ≠ f → K q = kd0 q) → k + m = 6 → m + 1 ≤ n → ∃ w' Z' tw', loX8_kindsOf n w 72 (nI f) (kd0 f) s (nI k) = some (kb m k s, w') ∧ Mo w' kd0 ch0 Z' tw' ∧ Off sM w w' ∧ zS Z' 0 S0 := by
  intro m
  induction m with
  | zero =>
    intro k n w K Z tw s h hz hK hk hn
    obtain ⟨n, rfl⟩ : ∃ z, n = z + 1 := ⟨n - 1, by omega⟩
    have h6 : k = 6 := by omega
    subst h6
    obtain ⟨w1, s1, m1, o1⟩ := h.sk (a := f) (by omega) (kd0 f)
    rw [upd_0 hK] at m1
    refine ⟨w1, Z, tw, ?_, m1, om_73 o1, hz⟩
    show hX8_kindsOf_12 (loX8_kindsOf n) w 72 (nI f) (kd0 f) s (nI 6) = _
    unfold hX8_kindsOf_12
    rw [if_pos (by decide), h.g1, Option.bind_some, s1, Option.bind_some]
    rfl
  | succ m ih =>
    intro k n w K Z tw s h hz hK hk hn
    obtain ⟨n, rfl⟩ : ∃ z, n = z + 1 := ⟨n - 1, by omega⟩
    have h6 : ¬ (6 : Int32) ≤ nI k := nI_ge (a := k) (b := 6) (by omega) (by omega)
    obtain ⟨w1, s1, m1, o1⟩ := h.sk (a := f) (by omega) (nI k)
    rw [upd_k hK] at m1
    obtain ⟨w2, Z2, t2, r1, r2, r3, r4⟩ := isSo_spec m1 hz
    obtain ⟨w3, Z3, t3, q1, q2, q3, q4⟩ := ih (k + 1) n w2 _ Z2 t2 (s ||| ((1 : Int32) <<< (nI k &&& 31))) r2 r4 (upd_b (nI k)) (by omega) (by omega)
    refine ⟨w3, Z3, t3, ?_, q2, ((om_73 o1).tr (om_Z r3)).tr q3, q4⟩
    show hX8_kindsOf_12 (loX8_kindsOf n) w 72 (nI f) (kd0 f) s (nI k) = _
    unfold hX8_kindsOf_12
    rw [if_neg h6, h.g1, Option.bind_some, s1, Option.bind_some, r1, Option.bind_some, if_neg n10]
    unfold bX8_kindsOf_43
    rw [nI_1, kb]
    exact q1
theorem ko_spec {f : Nat} (hf : f < 6) {w : XW} {Z : Nat → Int32} {tw : Int32} (h : Mo w kd0 ch0 Z tw) (hz : zS Z 0 S0) : ∃ w' Z' tw', fX8_kindsOf w 72 (nI f) = some (kb 6 0 0, w') ∧ Mo w' kd0 ch0 Z' tw' ∧ Off sM w w' ∧ zS Z' 0 S0 := by
  obtain ⟨w3, Z3, t3, q1, q2, q3, q4⟩ := ko_loop hf 6 0 FU w kd0 Z tw 0 h hz (fun _ _ => rfl) rfl (by unfold FU; omega)
  refine ⟨w3, Z3, t3, ?_, q2, q3, q4⟩
  unfold fX8_kindsOf eX8_kindsOf
  rw [if_pos h.o, h.g1, Option.bind_some, h.k (by omega), Option.bind_some]
  exact q1
theorem ag_X7_kinds (a : Int32) : agr (fX7_kinds WN 0 a) (fun w => fX8_kinds w 72 a) := by
  by_cases ha : 0 ≤ a ∧ a ≤ 5
  · obtain ⟨f, hf, rfl⟩ := rn (n := 5) (by decide) ha
    refine agM (v := kb 6 0 0) ?_ ?_
    · obtain ⟨w1, U1, d1, d2, _⟩ := fk_spec (f := f) (by omega)
      refine ⟨w1, ?_, d2⟩
      unfold fX7_kinds eX7_kinds
      rw [if_pos o7, isT, Option.bind_some, if_pos ha, if_neg n10, d1, Option.bind_some]
      rfl
    · intro w hw
      have hm := oc_M hw
      obtain ⟨w1, Z1, t1, d1, d2, d3, d4⟩ := ko_spec (f := f) (by omega) hm zs0
      refine ⟨w1, ?_, d3.1, d3.2.1⟩
      show fX8_kinds w 72 (nI f) = _
      unfold fX8_kinds eX8_kinds
      rw [if_pos hm.o, isF2 hm, Option.bind_some, if_pos ha, if_neg n10, d1, Option.bind_some]
      rfl
  · refine agB ?_ ?_
    · unfold fX7_kinds eX7_kinds
      rw [if_pos o7, isT, Option.bind_some, if_neg ha]; rfl
    · show fX8_kinds WN 72 a = _
      unfold fX8_kinds eX8_kinds
      rw [if_pos o8, isF2 mo0, Option.bind_some, if_neg ha]; rfl
