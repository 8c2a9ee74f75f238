/-! THE STATE AND THE FRACTIONS, as cells; the rows of reading and writing them -/
/-- six numbers at the places of an array -/
def six (f : Nat → Int32) (p : List Int32) : Prop := ∀ j, j < 6 → f j = p.getD j 0
section RW
variable {w : XW} {i ci k n t : Nat} {fs : List Value} {f : Nat → Int32} {x v : Int32} {a : Nat}
theorem gI_at (h : xat w i (xo ci fs)) (hk : fs[k]? = some (.int x)) : gI w i ci k = some x := by
  unfold gI
  rw [h.2]
  simp only [h.1, hk, and_self, if_true]
theorem gR_at (h : xat w i (xo ci fs)) (hk : fs[k]? = some (.ref a)) : gR w i ci k = some a := by
  unfold gR
  rw [h.2]
  simp only [h.1, hk, and_self, if_true]
theorem pV_at {y : Value} (h : xat w i (xo ci fs)) (hk : k < fs.length) : pV w i ci k y = some (xput w i (xo ci (fs.set k y))) := by
  unfold pV
  rw [h.2]
  simp only [h.1, hk, and_self, if_true]
theorem isO_at (h : xat w i (xo ci fs)) : isO w i ci = true := by
  unfold isO
  rw [h.2]
  simp only [h.1, and_self, decide_true]
theorem aI_at (h : xat w i (xi t n f)) {j : Nat} (hj : j < n) (hx : x.toNatClampNeg = j) (h0 : ¬ x < 0) : aI w t i x = some (f j) := by
  subst hx
  unfold aI
  rw [h.2]
  have hc : ¬ (x < 0 ∨ n ≤ x.toNatClampNeg) := fun q => q.elim h0 (fun z => by omega)
  simp only [h.1, hc, true_and, not_false_eq_true, if_true, and_self]
theorem sI_at (h : xat w i (xi t n f)) {j : Nat} (hj : j < n) (hx : x.toNatClampNeg = j) (h0 : ¬ x < 0) : sI w t i x v = some (xput w i (xi t n (upd f j v))) := by
  subst hx
  unfold sI
  rw [h.2]
  have hc : ¬ (x < 0 ∨ n ≤ x.toNatClampNeg) := fun q => q.elim h0 (fun z => by omega)
  simp only [h.1, hc, true_and, not_false_eq_true, if_true, and_self]
theorem xat_put {c d : XC} (h : xat w i d) : xat (xput w i c) i c := ⟨h.1, if_pos rfl⟩
theorem xat_ne {j : Nat} {c d : XC} (h : xat w i d) (hne : i ≠ j) : xat (xput w j c) i d := ⟨h.1, (if_neg hne).trans h.2⟩
end RW
/-- the State whose cells are i, i + 1, i + 2: powers, row, how long it is, used, step, ended, times -/
def StA (w : XW) (i : Nat) (P R : Nat → Int32) (rs ub st en ti : Int32) : Prop :=
  xat w i (xo 5 [.ref (i + 1), .ref (i + 2), .int rs, .int ub, .int st, .int en, .int ti]) ∧ xat w (i + 1) (xi 0 6 P) ∧ xat w (i + 2) (xi 0 8 R)
/-- the Fractions whose cells are j .. j + 5: kinds, changes -/
def FrA (w : XW) (j : Nat) (kd ch : Nat → Int32) : Prop :=
  (∃ sz : Int32, xat w j (xo 1 [.ref (j + 1), .ref (j + 2), .ref (j + 3), .ref (j + 4), .ref (j + 5), .int sz])) ∧ xat w (j + 1) (xi 0 8 kd) ∧ xat w (j + 4) (xi 0 48 ch)
theorem nI_cl {n : Nat} (h : n < 2 ^ 31) : (nI n).toNatClampNeg = n := nI_clamp h
theorem nI_nn {n : Nat} (h : n < 2 ^ 31) : ¬ nI n < 0 := nI_pos h
/-- a fraction's six changes keep every power within 0 .. 999 -/
abbrev fit (P ch : Nat → Int32) (f p : Nat) : Prop := ¬ (P p + ch (6 * f + p)) < 0 ∧ (P p + ch (6 * f + p)) ≤ 999
theorem lo_us {w : XW} {i j : Nat} {P R kd ch : Nat → Int32} {rs ub st en ti : Int32} (hS : StA w i P R rs ub st en ti) (hF : FrA w j kd ch) {f : Nat} (hf : f < 8) : ∀ (m p n : Nat), p + m = 6 → m + 1 ≤ n → ((∀ q, p ≤ q → q < 6 → fit P ch f q) ∧ loX5_isUsable n w i j (nI (6 * f)) (nI p) = some (1, w)) ∨ ((∃ q, p ≤ q ∧ q < 6 ∧ ¬ fit P ch f q) ∧ loX5_isUsable n w i j (nI (6 * f)) (nI p) = some (0, w)) := by
  obtain ⟨s1, s2, s3⟩ := hS
  obtain ⟨⟨sz, t1⟩, t2, t3⟩ := hF
  intro m
  induction m with
  | zero =>
    intro p n hp hn
    obtain ⟨n, rfl⟩ : ∃ z, n = z + 1 := ⟨n - 1, by omega⟩
    left
    have hp6 : p = 6 := by omega
    subst hp6
    refine ⟨fun q h1 h2 => by omega, ?_⟩
    show hX5_isUsable_56 (loX5_isUsable n) w i j (nI (6 * f)) (nI 6) = _
    unfold hX5_isUsable_56
    rw [if_pos (by decide)]
  | succ m ih =>
    intro p n hp hn
    obtain ⟨n, rfl⟩ : ∃ z, n = z + 1 := ⟨n - 1, by omega⟩
    have e1 : gR w i 5 0 = some (i + 1) := gR_at s1 rfl
    have e2 : aI w 0 (i + 1) (nI p) = some (P p) := aI_at s2 (by omega) (nI_cl (by omega)) (nI_nn (by omega))
    have e3 : gR w j 1 3 = some (j + 4) := gR_at t1 rfl
    have e4 : aI w 0 (j + 4) (nI (6 * f) + nI p) = some (ch (6 * f + p)) := by rw [nI_add]; exact aI_at t3 (by omega) (nI_cl (by omega)) (nI_nn (by omega))
    have hlt : ¬ (6 : Int32) ≤ nI p := nI_ge (a := p) (b := 6) (by omega) (by omega)
    have hcall : loX5_isUsable (n + 1) w i j (nI (6 * f)) (nI p) = if (P p + ch (6 * f + p)) < 0 then some (0, w) else if (P p + ch (6 * f + p)) ≤ 999 then loX5_isUsable n w i j (nI (6 * f)) (nI p + 1) else some (0, w) := by
      show hX5_isUsable_56 (loX5_isUsable n) w i j (nI (6 * f)) (nI p) = _
      unfold hX5_isUsable_56
      rw [if_neg hlt, e1, Option.bind_some, e2, Option.bind_some, e3, Option.bind_some, e4, Option.bind_some]
      rfl
    rw [hcall]
    by_cases c1 : (P p + ch (6 * f + p)) < 0
    · right
      exact ⟨⟨p, Nat.le_refl _, by omega, fun z => z.1 c1⟩, if_pos c1⟩
    · rw [if_neg c1]
      by_cases c2 : (P p + ch (6 * f + p)) ≤ 999
      · rw [if_pos c2, nI_1]
        rcases ih (p + 1) n (by omega) (by omega) with ⟨h1, h2⟩ | ⟨⟨q, g1, g2, g3⟩, h2⟩
        · left
          refine ⟨fun q z1 z2 => ?_, h2⟩
          by_cases e : q = p
          · rw [e]; exact ⟨c1, c2⟩
          · exact h1 q (by omega) z2
        · right
          exact ⟨⟨q, by omega, g2, g3⟩, h2⟩
      · right
        exact ⟨⟨p, Nat.le_refl _, by omega, fun z => c2 z.2⟩, if_neg c2⟩
