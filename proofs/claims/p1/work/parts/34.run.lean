/-! steps of the class, many; one State copied from another -/
def itS (kd ch : Nat → Int32) : Nat → PS → PS
  | 0, S => S
  | n + 1, S => itS kd ch n (stS kd ch S)
def mkS (kd ch : Nat → Int32) : Nat → PS → Nat
  | 0, _ => 0
  | n + 1, S => if nxt kd ch S = -4 then 0 else mkS kd ch n (stS kd ch S) + 1
theorem itS_ok {kd ch : Nat → Int32} : ∀ (n : Nat) {S : PS}, okS S → okS (itS kd ch n S)
  | 0, _, h => h
  | n + 1, _, h => itS_ok n (stS_ok h)
theorem itS_r {kd ch : Nat → Int32} {S : PS} (h : nxt kd ch S = -4) : ∀ n, itS kd ch n S = S := by
  intro n
  induction n with
  | zero => rfl
  | succ n ih =>
    show itS kd ch n (stS kd ch S) = S
    have e : stS kd ch S = S := by unfold stS; rw [if_pos h]
    rw [e]
    exact ih
theorem itS_s {kd ch : Nat → Int32} : ∀ (n : Nat) (S : PS), itS kd ch (n + 1) S = stS kd ch (itS kd ch n S)
  | 0, _ => rfl
  | n + 1, S => by
    show itS kd ch (n + 1) (stS kd ch S) = _
    rw [itS_s n (stS kd ch S)]
    rfl
theorem mkS_le {kd ch : Nat → Int32} : ∀ (n : Nat) (S : PS), mkS kd ch n S ≤ n := by
  intro n
  induction n with
  | zero => intro S; exact Nat.le_refl 0
  | succ n ih =>
    intro S
    show (if nxt kd ch S = -4 then 0 else mkS kd ch n (stS kd ch S) + 1) ≤ n + 1
    split
    · omega
    · have := ih (stS kd ch S); omega
theorem takeSteps_loop {i j : Nat} {kd ch : Nat → Int32} (hij : j + 5 < i ∨ i + 2 < j) : ∀ (m : Nat) (w : XW) (S : PS) (ti : Int32) (a n : Nat), Cl w i S ti → FrA w j kd ch → a + m < 4000 → m + 1 ≤ n → ∃ w' ti', loX5_takeSteps n w i j (nI (a + m)) (nI a) = some (nI (a + mkS kd ch m S), w') ∧ Cl w' i (itS kd ch m S) ti' ∧ Off (St3 i) w w' := by
  intro m
  induction m with
  | zero =>
    intro w S ti a n hC hF ha hn
    obtain ⟨n, rfl⟩ : ∃ z, n = z + 1 := ⟨n - 1, by omega⟩
    refine ⟨w, ti, ?_, hC, Off.rf⟩
    show hX5_takeSteps_2 (loX5_takeSteps n) w i j (nI (a + 0)) (nI a) = _
    unfold hX5_takeSteps_2
    rw [if_pos (nI_le (by omega) (by omega))]
    rfl
  | succ m ih =>
    intro w S ti a n hC hF ha hn
    obtain ⟨n, rfl⟩ : ∃ z, n = z + 1 := ⟨n - 1, by omega⟩
    obtain ⟨w1, t1, g1, g2, g3, g4⟩ := takeStep_spec hC hF hij
    have hh : hX5_takeSteps_2 (loX5_takeSteps n) w i j (nI (a + (m + 1))) (nI a) = if nxt kd ch S = -4 then some (nI a, w1) else loX5_takeSteps n w1 i j (nI (a + (m + 1))) (nI (a + 1)) := by
      unfold hX5_takeSteps_2
      rw [if_neg (nI_ge (by omega) (by omega)), g1, Option.bind_some, nI_1]
      rfl
    show ∃ w' ti', hX5_takeSteps_2 (loX5_takeSteps n) w i j (nI (a + (m + 1))) (nI a) = some (nI (a + (if nxt kd ch S = -4 then 0 else mkS kd ch m (stS kd ch S) + 1)), w') ∧ Cl w' i (itS kd ch m (stS kd ch S)) ti' ∧ Off (St3 i) w w'
    rw [hh]
    by_cases e : nxt kd ch S = -4
    · rw [if_pos e, if_pos e]
      refine ⟨w1, t1, rfl, ?_, g3⟩
      have e2 : stS kd ch S = S := by unfold stS; rw [if_pos e]
      rw [e2] at g2 ⊢
      rw [itS_r e]
      exact g2
    · rw [if_neg e, if_neg e]
      obtain ⟨w2, t2, k1, k2, k3⟩ := ih w1 (stS kd ch S) t1 (a + 1) n g2 (g3.FrA hF (fun k h1 h2 z => by have := z.1; have := z.2; omega)) (by omega) (by omega)
      refine ⟨w2, t2, ?_, k2, g3.tr k3⟩
      rw [show a + (m + 1) = a + 1 + m by omega, k1, show a + 1 + mkS kd ch m (stS kd ch S) = a + (mkS kd ch m (stS kd ch S) + 1) by omega]
theorem Cl.o {w : XW} {i : Nat} {S : PS} {ti : Int32} (h : Cl w i S ti) : isO w i 5 = true := by
  obtain ⟨_, _, _, h1, _⟩ := h
  exact isO_at h1.1
theorem takeSteps_spec {w : XW} {i j : Nat} {S : PS} {ti : Int32} {kd ch : Nat → Int32} (hC : Cl w i S ti) (hF : FrA w j kd ch) (hij : j + 5 < i ∨ i + 2 < j) {n : Nat} (hn : n < 4000) : ∃ w' ti', fX5_takeSteps w i j (nI n) = some (nI (mkS kd ch n S), w') ∧ Cl w' i (itS kd ch n S) ti' ∧ Off (St3 i) w w' := by
  obtain ⟨w', t', h1, h2, h3⟩ := takeSteps_loop hij n w S ti 0 FU hC hF (by omega) (by unfold FU; omega)
  refine ⟨w', t', ?_, h2, h3⟩
  unfold fX5_takeSteps
  rw [if_pos hC.o]
  unfold eX5_takeSteps
  rw [Nat.zero_add, Nat.zero_add] at h1
  exact h1
theorem rest_spec {w : XW} {i j : Nat} {S : PS} {ti : Int32} {kd ch : Nat → Int32} (hC : Cl w i S ti) (hF : FrA w j kd ch) : fX5_isAtRest w i j = some (bi (decide (nxt kd ch S = -4)), w) := by
  unfold fX5_isAtRest
  rw [if_pos hC.o]
  unfold eX5_isAtRest
  rw [cl_next hC hF, Option.bind_some]
  by_cases e : nxt kd ch S = -4
  · rw [if_pos e, decide_eq_true e]; rfl
  · rw [if_neg e, decide_eq_false e]; rfl
/-- behind how many of n steps it rests, or -4 -/
def rsS (kd ch : Nat → Int32) (n : Nat) (S : PS) : Int32 := if nxt kd ch (itS kd ch n S) = -4 then nI (mkS kd ch n S) else -4
theorem toRest_spec {w : XW} {i j : Nat} {S : PS} {ti : Int32} {kd ch : Nat → Int32} (hC : Cl w i S ti) (hF : FrA w j kd ch) (hij : j + 5 < i ∨ i + 2 < j) {n : Nat} (hn : n < 4000) : ∃ w' ti', fX5_stepsToRest w i j (nI n) = some (rsS kd ch n S, w') ∧ Cl w' i (itS kd ch n S) ti' ∧ Off (St3 i) w w' := by
  obtain ⟨w', t', h1, h2, h3⟩ := takeSteps_spec hC hF hij hn
  refine ⟨w', t', ?_, h2, h3⟩
  unfold fX5_stepsToRest
  rw [if_pos hC.o]
  unfold eX5_stepsToRest
  rw [h1, Option.bind_some, rest_spec h2 (h3.FrA hF (fun k z1 z2 z => by have := z.1; have := z.2; omega)), Option.bind_some]
  unfold rsS
  by_cases e : nxt kd ch (itS kd ch n S) = -4
  · rw [decide_eq_true e, if_neg (show ¬ bi true = 0 by decide), if_pos e]; rfl
  · rw [decide_eq_false e, if_pos (show bi false = 0 by decide), if_neg e]; rfl
theorem cpI_at {w : XW} {i j n1 n2 n : Nat} {f g : Nat → Int32} (h1 : xat w i (xi 0 n1 f)) (h2 : xat w j (xi 0 n2 g)) (hn : n < 2 ^ 31) (a1 : n ≤ n1) (a2 : n ≤ n2) : cpI w 0 i 0 j 0 (nI n) = some (xput w j (xi 0 n2 (va_cpy f g 0 0 n))) := by
  unfold cpI
  rw [h1.2]
  show (match w.2.2 j with | .inl o => _ | _ => none) = _
  rw [h2.2]
  show (if _ then _ else _) = _
  have z0 : (0 : Int32).toNatClampNeg = 0 := by decide
  have z1 : ¬ (0 : Int32) < 0 := by decide
  rw [z0, nI_cl hn]
  rw [if_pos]
  exact ⟨h1.1, rfl, h2.1, rfl, z1, z1, nI_nn hn, (show 0 + n ≤ n1 by omega), (show 0 + n ≤ n2 by omega), fun z => by cases z⟩
theorem StA.P {w : XW} {i : Nat} {P R P' : Nat → Int32} {rs ub st en ti : Int32} (h : StA w i P R rs ub st en ti) : StA (xput w (i + 1) (xi 0 6 P')) i P' R rs ub st en ti :=
  ⟨xat_ne h.1 (by omega), xat_put h.2.1, xat_ne h.2.2 (by omega)⟩
theorem StA.R {w : XW} {i : Nat} {P R R' : Nat → Int32} {rs ub st en ti : Int32} (h : StA w i P R rs ub st en ti) : StA (xput w (i + 2) (xi 0 8 R')) i P R' rs ub st en ti :=
  ⟨xat_ne h.1 (by omega), xat_ne h.2.1 (by omega), xat_put h.2.2⟩
theorem pX2 {w : XW} {i : Nat} {P R : Nat → Int32} {rs ub st en ti : Int32} (hS : StA w i P R rs ub st en ti) (x : Int32) : ∃ w', pV w i 5 2 (.int x) = some w' ∧ StA w' i P R x ub st en ti ∧ Off (St3 i) w w' := ⟨_, pS2 hS, stp_at hS _ _ _ _ _ _, stp_off3⟩
theorem pX3 {w : XW} {i : Nat} {P R : Nat → Int32} {rs ub st en ti : Int32} (hS : StA w i P R rs ub st en ti) (x : Int32) : ∃ w', pV w i 5 3 (.int x) = some w' ∧ StA w' i P R rs x st en ti ∧ Off (St3 i) w w' := ⟨_, pS3 hS, stp_at hS _ _ _ _ _ _, stp_off3⟩
theorem pX4 {w : XW} {i : Nat} {P R : Nat → Int32} {rs ub st en ti : Int32} (hS : StA w i P R rs ub st en ti) (x : Int32) : ∃ w', pV w i 5 4 (.int x) = some w' ∧ StA w' i P R rs ub x en ti ∧ Off (St3 i) w w' := ⟨_, pS4 hS, stp_at hS _ _ _ _ _ _, stp_off3⟩
theorem pX5 {w : XW} {i : Nat} {P R : Nat → Int32} {rs ub st en ti : Int32} (hS : StA w i P R rs ub st en ti) (x : Int32) : ∃ w', pV w i 5 5 (.int x) = some w' ∧ StA w' i P R rs ub st x ti ∧ Off (St3 i) w w' := ⟨_, pS5 hS, stp_at hS _ _ _ _ _ _, stp_off3⟩
theorem pX6 {w : XW} {i : Nat} {P R : Nat → Int32} {rs ub st en ti : Int32} (hS : StA w i P R rs ub st en ti) (x : Int32) : ∃ w', pV w i 5 6 (.int x) = some w' ∧ StA w' i P R rs ub st en x ∧ Off (St3 i) w w' := ⟨_, pS6 hS, stp_at hS _ _ _ _ _ _, stp_off3⟩
theorem copy_spec {w : XW} {i i2 : Nat} {S : PS} {t2 : Int32} {P R : Nat → Int32} {rs ub st en ti : Int32} (hC : Cl w i2 S t2) (hS : StA w i P R rs ub st en ti) (hij : i2 + 2 < i ∨ i + 2 < i2) : ∃ w', fX5_copyFrom w i i2 = some w' ∧ Cl w' i S ti ∧ Off (St3 i) w w' := by
  obtain ⟨h0, P2, R2, h1, h2, h3⟩ := hC
  unfold fX5_copyFrom
  rw [if_pos (isO_at hS.1)]
  unfold eX5_copyFrom
  rw [gR_at (k := 0) h1.1 rfl, Option.bind_some, gR_at (k := 0) hS.1 rfl, Option.bind_some]
  rw [show (6 : Int32) = nI 6 from rfl, show (8 : Int32) = nI 8 from rfl]
  rw [cpI_at h1.2.1 hS.2.1 (by omega) (Nat.le_refl _) (Nat.le_refl _), Option.bind_some]
  have o1 : Off (St3 i) w (xput w (i + 1) (xi 0 6 (va_cpy P2 P 0 0 6))) := Off.put ⟨by omega, by omega⟩
  have s1 : StA (xput w (i + 1) (xi 0 6 (va_cpy P2 P 0 0 6))) i (va_cpy P2 P 0 0 6) R rs ub st en ti := hS.P
  have k1 := o1.StA h1 (fun k z1 z2 z => by have := z.1; have := z.2; omega)
  rw [gR_at (k := 1) k1.1 rfl, Option.bind_some, gR_at (k := 1) s1.1 rfl, Option.bind_some]
  rw [cpI_at k1.2.2 s1.2.2 (by omega) (Nat.le_refl _) (Nat.le_refl _), Option.bind_some]
  have o2 : Off (St3 i) _ (xput (xput w (i + 1) (xi 0 6 (va_cpy P2 P 0 0 6))) (i + 2) (xi 0 8 (va_cpy R2 R 0 0 8))) := Off.put ⟨by omega, by omega⟩
  have s2 := StA.R (R' := va_cpy R2 R 0 0 8) s1
  have k2 := o2.StA k1 (fun k z1 z2 z => by have := z.1; have := z.2; omega)
  have o2' := o1.tr o2
  generalize xput (xput w (i + 1) (xi 0 6 (va_cpy P2 P 0 0 6))) (i + 2) (xi 0 8 (va_cpy R2 R 0 0 8)) = v at o2' s2 k2 ⊢
  have hk : ∀ {v v' : XW}, Off (St3 i) v v' → StA v i2 P2 R2 (nI (sr S)) (su S) (nI (sk S)) (bi (se S)) t2 → StA v' i2 P2 R2 (nI (sr S)) (su S) (nI (sk S)) (bi (se S)) t2 := fun o k => o.StA k (fun k z1 z2 z => by have := z.1; have := z.2; omega)
  obtain ⟨v3, e3, s3, o3⟩ := pX2 s2 (nI (sr S))
  have k3 := hk o3 k2
  rw [gI_at (k := 2) k2.1 rfl, Option.bind_some, e3, Option.bind_some]
  obtain ⟨v4, e4, s4, o4⟩ := pX3 s3 (su S)
  have k4 := hk o4 k3
  rw [gI_at (k := 3) k3.1 rfl, Option.bind_some, e4, Option.bind_some]
  obtain ⟨v5, e5, s5, o5⟩ := pX4 s4 (nI (sk S))
  have k5 := hk o5 k4
  rw [gI_at (k := 4) k4.1 rfl, Option.bind_some, e5, Option.bind_some]
  have hb : bi (se S) &&& 1 = bi (se S) := by cases se S <;> decide
  obtain ⟨v6, e6, s6, o6⟩ := pX5 s5 (bi (se S))
  rw [gI_at (k := 5) k5.1 rfl, Option.bind_some, if_pos hb, e6, Option.bind_some]
  refine ⟨_, rfl, ?_, (((o2'.tr o3).tr o4).tr o5).tr o6⟩
  refine ⟨h0, _, _, s6, fun q hq => ?_, fun p hp => ?_⟩
  · show (if 0 ≤ q ∧ q < 0 + 6 then P2 (0 + (q - 0)) else P q) = _
    rw [if_pos ⟨by omega, by omega⟩, show 0 + (q - 0) = q by omega, h2 q hq]
  · show (if 0 ≤ p ∧ p < 0 + 8 then R2 (0 + (p - 0)) else R p) = _
    have := h0.1
    rw [if_pos ⟨by omega, by omega⟩, show 0 + (p - 0) = p by omega, h3 p hp]
