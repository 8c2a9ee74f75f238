/-! the model's slots: what can be used, and which is next -/
abbrev mfs (tw : Int32) : List Value := [.int 6, .ref 73, .ref 74, .int 6, .ref 75, .ref 76, .ref 77, .ref 78, .int 0, .int 0, .int 0, .ref 79, .int 0, .int 0, .int 0, .int 0, .ref 80, .ref 81, .int tw, .ref 82, .ref 83, .ref 84, .ref 85, .ref 86]
def Mo (w : XW) (kd ch Z : Nat → Int32) (tw : Int32) : Prop := xat w 72 (xo 8 (mfs tw)) ∧ xat w 73 (xi 0 8 kd) ∧ xat w 74 (xi 0 48 ch) ∧ xat w 78 (xi 0 234 Z)
abbrev sZ : Nat → Prop := fun k => k = 72 ∨ k = 78
def zS (Z : Nat → Int32) (b : Nat) (S : PS) : Prop := okS S ∧ (∀ q, q < 6 → Z (b + q) = sP S q) ∧ (∀ p, p < sr S → Z (b + 6 + p) = nI (sO S p)) ∧ Z (b + 14) = nI (sr S) ∧ Z (b + 15) = su S ∧ Z (b + 16) = nI (sk S) ∧ Z (b + 17) = bi (se S)
section MM
variable {w : XW} {kd ch Z : Nat → Int32} {tw : Int32}
theorem Mo.o (h : Mo w kd ch Z tw) : isO w 72 8 = true := isO_at h.1
theorem Mo.g7 (h : Mo w kd ch Z tw) : gR w 72 8 7 = some 78 := gR_at h.1 rfl
theorem Mo.g1 (h : Mo w kd ch Z tw) : gR w 72 8 1 = some 73 := gR_at h.1 rfl
theorem Mo.g2 (h : Mo w kd ch Z tw) : gR w 72 8 2 = some 74 := gR_at h.1 rfl
theorem Mo.z (h : Mo w kd ch Z tw) {a : Nat} (ha : a < 234) : aI w 0 78 (nI a) = some (Z a) := aI_at h.2.2.2 ha (nI_cl (by omega)) (nI_nn (by omega))
theorem Mo.zo (h : Mo w kd ch Z tw) {a c : Nat} (ha : a + c < 234) : aI w 0 78 (nI a + nI c) = some (Z (a + c)) := by rw [nI_add]; exact h.z ha
theorem Mo.k (h : Mo w kd ch Z tw) {a : Nat} (ha : a < 8) : aI w 0 73 (nI a) = some (kd a) := aI_at h.2.1 ha (nI_cl (by omega)) (nI_nn (by omega))
theorem Mo.c (h : Mo w kd ch Z tw) {f p : Nat} (hf : f < 8) (hp : p < 6) : aI w 0 74 (((6 : Int32) * nI f) + nI p) = some (ch (6 * f + p)) := by
  rw [show (6 : Int32) = nI 6 from rfl, pk_mul, nI_add]
  exact aI_at h.2.2.1 (by omega) (nI_cl (by omega)) (nI_nn (by omega))
theorem Mo.s (h : Mo w kd ch Z tw) {a : Nat} (ha : a < 234) (v : Int32) : ∃ w', sI w 0 78 (nI a) v = some w' ∧ Mo w' kd ch (upd Z a v) tw ∧ Off sZ w w' :=
  ⟨_, sI_at h.2.2.2 ha (nI_cl (by omega)) (nI_nn (by omega)), ⟨xat_ne h.1 (by omega), xat_ne h.2.1 (by omega), xat_ne h.2.2.1 (by omega), xat_put h.2.2.2⟩, Off.put (Or.inr rfl)⟩
theorem Mo.so (h : Mo w kd ch Z tw) {a c : Nat} (ha : a + c < 234) (v : Int32) : ∃ w', sI w 0 78 (nI a + nI c) v = some w' ∧ Mo w' kd ch (upd Z (a + c) v) tw ∧ Off sZ w w' := by rw [nI_add]; exact h.s ha v
theorem Mo.t (h : Mo w kd ch Z tw) (v : Int32) : ∃ w', pV w 72 8 18 (.int v) = some w' ∧ Mo w' kd ch Z v ∧ Off sZ w w' :=
  ⟨_, pV_at h.1 (by simp), ⟨xat_put h.1, xat_ne h.2.1 (by omega), xat_ne h.2.2.1 (by omega), xat_ne h.2.2.2 (by omega)⟩, Off.put (Or.inl rfl)⟩
theorem Mo.gt (h : Mo w kd ch Z tw) : gI w 72 8 18 = some tw := gI_at h.1 rfl
end MM
def fa (P ch : Nat → Int32) (f : Nat) : Nat → Nat → Bool
  | 0, _ => true
  | m + 1, p => (decide (¬ (P p + ch (6 * f + p)) < 0) && decide ((P p + ch (6 * f + p)) ≤ 999)) && fa P ch f m (p + 1)
theorem fa6 (P ch : Nat → Int32) (f : Nat) : fa P ch f 6 0 = fits6 P ch f := rfl
theorem fits_loop {w : XW} {kd ch Z : Nat → Int32} {tw : Int32} (h : Mo w kd ch Z tw) {b f : Nat} (hb : b ≤ 216) (hf : f < 8) : ∀ (m p n : Nat) (B : Bool), p + m = 6 → m + 1 ≤ n → loX8_fits n w 72 (nI b) (nI f) (bi B) (nI p) = some (bi (B && fa (fun q => Z (b + q)) ch f m p), w) := by
  intro m
  induction m with
  | zero =>
    intro p n B hp hn
    obtain ⟨n, rfl⟩ : ∃ z, n = z + 1 := ⟨n - 1, by omega⟩
    have hp6 : p = 6 := by omega
    subst hp6
    show hX8_fits_5 (loX8_fits n) w 72 (nI b) (nI f) (bi B) (nI 6) = _
    unfold hX8_fits_5
    rw [if_pos (by decide), if_pos (by cases B <;> decide)]
    cases B <;> rfl
  | succ m ih =>
    intro p n B hp hn
    obtain ⟨n, rfl⟩ : ∃ z, n = z + 1 := ⟨n - 1, by omega⟩
    have hlt : ¬ (6 : Int32) ≤ nI p := nI_ge (a := p) (b := 6) (by omega) (by omega)
    have h54 : ∀ B : Bool, bX8_fits_54 (loX8_fits n) w 72 (nI b) (nI f) (nI p) (bi B) = some (bi (B && fa (fun q => Z (b + q)) ch f m (p + 1)), w) := by
      intro B
      unfold bX8_fits_54
      rw [nI_1]
      exact ih (p + 1) n B (by omega) (by omega)
    show hX8_fits_5 (loX8_fits n) w 72 (nI b) (nI f) (bi B) (nI p) = _
    unfold hX8_fits_5
    rw [if_neg hlt]
    cases B with
    | false =>
      rw [if_pos (by decide)]
      exact h54 false
    | true =>
      rw [if_neg (by decide), h.g7, Option.bind_some, h.zo (by omega), Option.bind_some, h.g2, Option.bind_some, h.c hf (by omega), Option.bind_some, in8 w _ 0 999 _ _ (by decide) (by decide), Option.bind_some]
      rw [fa]
      by_cases c : 0 ≤ Z (b + p) + ch (6 * f + p) ∧ Z (b + p) + ch (6 * f + p) ≤ 999
      · simp only [if_pos c]
        rw [if_neg (by decide)]
        have e1 : decide (¬ (Z (b + p) + ch (6 * f + p)) < 0) = true := decide_eq_true (fun z => neg1 z c.1)
        have e2 : decide ((Z (b + p) + ch (6 * f + p)) ≤ 999) = true := decide_eq_true c.2
        rw [e1, e2]
        exact h54 true
      · simp only [if_neg c]
        rw [if_pos trivial]
        have e1 : (decide (¬ (Z (b + p) + ch (6 * f + p)) < 0) && decide ((Z (b + p) + ch (6 * f + p)) ≤ 999)) = false := by
          rw [Bool.and_eq_false_iff, decide_eq_false_iff_not, decide_eq_false_iff_not]
          by_cases z : Z (b + p) + ch (6 * f + p) < 0
          · exact Or.inl (fun q => q z)
          · exact Or.inr (fun q => c ⟨neg2 z, q⟩)
        rw [e1]
        exact h54 false
theorem fits_spec {w : XW} {kd ch Z : Nat → Int32} {tw : Int32} (h : Mo w kd ch Z tw) {b f : Nat} (hb : b ≤ 216) (hf : f < 8) : fX8_fits w 72 (nI b) (nI f) = some (bi (fits6 (fun q => Z (b + q)) ch f), w) := by
  unfold fX8_fits
  rw [if_pos h.o]
  exact fits_loop h hb hf 6 0 FU true rfl (by unfold FU; omega)
theorem has_spec (w : XW) (x k : Int32) : fX8_has w x k = some (bi (decide (((x >>> (k &&& 31)) &&& (1 : Int32)) = 1)), w) := by
  unfold fX8_has eX8_has
  by_cases c : ((x >>> (k &&& 31)) &&& (1 : Int32)) = 1
  · rw [if_pos c, decide_eq_true c]; rfl
  · rw [if_neg c, decide_eq_false c]; rfl
theorem irm2 {k : Nat} (hk : k < 2 ^ 31) : irm (nI k) 2 = nI (k % 2) := pk_rem (a := k) (d := 2) hk (by decide) (by decide)
theorem irm2c {k : Nat} (hk : k < 2 ^ 31) : irm (nI k) 2 = 1 ↔ ¬ irm (nI k) 2 = 0 := by
  rw [irm2 hk]
  have : k % 2 < 2 := Nat.mod_lt _ (by omega)
  have h2 : k % 2 = 0 ∨ k % 2 = 1 := by omega
  rcases h2 with e | e <;> rw [e] <;> decide
theorem can_spec {w : XW} {kd ch Z : Nat → Int32} {tw : Int32} (h : Mo w kd ch Z tw) {b f : Nat} {S : PS} (hz : zS Z b S) (hb : b ≤ 216) (hf : f < 8) (hk : sk S < 2 ^ 31) : fX8_can w 72 (nI b) (nI f) = some (bi (can kd ch S f), w) := by
  obtain ⟨z0, z1, z2, z3, z4, z5, z6⟩ := hz
  have e17 : aI w 0 78 (nI b + 17) = some (bi (se S)) := by rw [← z6]; exact h.zo (c := 17) (by omega)
  have e16 : aI w 0 78 (nI b + 16) = some (nI (sk S)) := by rw [← z5]; exact h.zo (c := 16) (by omega)
  have e15 : aI w 0 78 (nI b + 15) = some (su S) := by rw [← z4]; exact h.zo (c := 15) (by omega)
  have hfit : fits6 (fun q => Z (b + q)) ch f = fits6 (sP S) ch f := fits6_cg z1
  have h62 : ∀ B1 B2 : Bool, bX8_can_62 w 72 (nI b) (nI f) (bi B1) (bi B2) = some (bi (decide (bi (se S) = 0 ∧ ¬ B1 = true ∧ ¬ B2 = true ∧ fits6 (sP S) ch f = true)), w) := by
    intro B1 B2
    unfold bX8_can_62
    rw [h.g7, Option.bind_some, e17, Option.bind_some, fits_spec h hb hf, hfit]
    cases se S <;> cases B1 <;> cases B2 <;> cases fits6 (sP S) ch f <;> rfl
  have h31 : ∀ B1 : Bool, bX8_can_31 w 72 (nI b) (nI f) (bi B1) = some (bi (decide (bi (se S) = 0 ∧ ¬ B1 = true ∧ ¬ (kd f = 2 ∧ ¬ irm (nI (sk S)) 2 = 0) ∧ fits6 (sP S) ch f = true)), w) := by
    intro B1
    unfold bX8_can_31
    rw [h.g1, Option.bind_some, h.k hf, Option.bind_some]
    by_cases c2 : kd f = 2
    · rw [if_pos c2, h.g7, Option.bind_some, e16, Option.bind_some]
      by_cases c3 : irm (nI (sk S)) 2 = 1
      · rw [if_pos c3]
        have := h62 B1 true
        simp only [c2, (irm2c hk).mp c3, not_false_eq_true, true_and, and_true, not_true_eq_false, false_and, and_false] at this ⊢
        exact this
      · rw [if_neg c3]
        have c4 : irm (nI (sk S)) 2 = 0 := by
          rcases Decidable.em (irm (nI (sk S)) 2 = 0) with z | z
          · exact z
          · exact absurd ((irm2c hk).mpr z) c3
        have := h62 B1 false
        simp only [c4, not_true_eq_false, and_false, not_false_eq_true, true_and, Bool.false_eq_true] at this ⊢
        exact this
    · rw [if_neg c2]
      have := h62 B1 false
      simp only [c2, false_and, not_false_eq_true, true_and, Bool.false_eq_true] at this ⊢
      exact this
  unfold fX8_can
  rw [if_pos h.o]
  unfold eX8_can
  rw [h.g1, Option.bind_some, h.k hf, Option.bind_some]
  unfold can us
  by_cases c1 : kd f = 1
  · rw [if_pos c1, h.g7, Option.bind_some, e15, Option.bind_some, has_spec, Option.bind_some]
    by_cases c2 : ((su S >>> (nI f &&& 31)) &&& (1 : Int32)) = 1
    · rw [decide_eq_true c2, if_neg (show ¬ bi true = 0 by decide)]
      have := h31 true
      simp only [c1, c2, not_true_eq_false, false_and, and_false, and_self] at this ⊢
      exact this
    · rw [decide_eq_false c2, if_pos (show bi false = 0 by decide)]
      have := h31 false
      simp only [c2, and_false, not_false_eq_true, true_and, Bool.false_eq_true] at this ⊢
      exact this
  · rw [if_neg c1]
    have := h31 false
    simp only [c1, false_and, not_false_eq_true, true_and, Bool.false_eq_true] at this ⊢
    exact this
