/-! a step of the class -/
theorem xput_self {w : XW} {k : Nat} {c : XC} (h : w.2.2 k = c) : xput w k c = w := by
  obtain ⟨a, b, f⟩ := w
  show (a, b, xup f k c) = (a, b, f)
  congr 2
  funext q
  unfold xup
  by_cases e : q = k
  · rw [if_pos e, e]; exact h.symm
  · rw [if_neg e]
theorem xput_two {w : XW} {k : Nat} {c d : XC} : xput (xput w k c) k d = xput w k d := by
  obtain ⟨a, b, f⟩ := w
  show (a, b, xup (xup f k c) k d) = (a, b, xup f k d)
  congr 2
  funext q
  unfold xup
  by_cases e : q = k
  · rw [if_pos e, if_pos e]
  · rw [if_neg e, if_neg e, if_neg e]
theorem xput_com {w : XW} {k l : Nat} {c d : XC} (h : k ≠ l) : xput (xput w k c) l d = xput (xput w l d) k c := by
  obtain ⟨a, b, f⟩ := w
  show (a, b, xup (xup f k c) l d) = (a, b, xup (xup f l d) k c)
  congr 2
  funext q
  unfold xup
  by_cases e : q = l
  · rw [if_pos e, if_neg (fun z => h (z.symm.trans e)), if_pos e]
  · rw [if_neg e, if_neg e]
/-- the powers, multiplied by the fraction f at the first p primes -/
def mulp (P ch : Nat → Int32) (f p : Nat) : Nat → Int32 := fun q => if q < p then P q + ch (6 * f + q) else P q
theorem mulp_0 (P ch : Nat → Int32) (f : Nat) : mulp P ch f 0 = P := by funext q; rfl
theorem mulp_s (P ch : Nat → Int32) (f p : Nat) : upd (mulp P ch f p) p (P p + ch (6 * f + p)) = mulp P ch f (p + 1) := by
  funext q
  unfold upd mulp
  by_cases e : q = p
  · rw [if_pos e, if_pos (by omega), e]
  · rw [if_neg e]
    by_cases e2 : q < p
    · rw [if_pos e2, if_pos (by omega)]
    · rw [if_neg e2, if_neg (by omega)]
abbrev mul6 (P ch : Nat → Int32) (f : Nat) : Nat → Int32 := mulp P ch f 6
theorem mul_loop {w : XW} {i j : Nat} {P R kd ch : Nat → Int32} {rs ub st en ti : Int32} (hS : StA w i P R rs ub st en ti) (hF : FrA w j kd ch) (hij : j + 5 < i ∨ i + 2 < j) {f : Nat} (hf : f < 8) : ∀ (m p n : Nat), p + m = 6 → m + 1 ≤ n → loX5_multiplyByFraction n (xput w (i + 1) (xi 0 6 (mulp P ch f p))) i j (nI (6 * f)) (nI p) = some (xput w (i + 1) (xi 0 6 (mul6 P ch f))) := by
  obtain ⟨s1, s2, s3⟩ := hS
  obtain ⟨⟨sz, t1⟩, t2, t3⟩ := hF
  intro m
  induction m with
  | zero =>
    intro p n hp hn
    obtain ⟨n, rfl⟩ : ∃ z, n = z + 1 := ⟨n - 1, by omega⟩
    have hp6 : p = 6 := by omega
    subst hp6
    show hX5_multiplyByFraction_8 (loX5_multiplyByFraction n) _ i j (nI (6 * f)) (nI 6) = _
    unfold hX5_multiplyByFraction_8
    rw [if_pos (by decide)]
  | succ m ih =>
    intro p n hp hn
    obtain ⟨n, rfl⟩ : ∃ z, n = z + 1 := ⟨n - 1, by omega⟩
    have u1 : xat (xput w (i + 1) (xi 0 6 (mulp P ch f p))) i (xo 5 [.ref (i + 1), .ref (i + 2), .int rs, .int ub, .int st, .int en, .int ti]) := xat_ne s1 (by omega)
    have u2 : xat (xput w (i + 1) (xi 0 6 (mulp P ch f p))) (i + 1) (xi 0 6 (mulp P ch f p)) := xat_put s2
    have u3 : xat (xput w (i + 1) (xi 0 6 (mulp P ch f p))) j (xo 1 [.ref (j + 1), .ref (j + 2), .ref (j + 3), .ref (j + 4), .ref (j + 5), .int sz]) := xat_ne t1 (by omega)
    have u4 : xat (xput w (i + 1) (xi 0 6 (mulp P ch f p))) (j + 4) (xi 0 48 ch) := xat_ne t3 (by omega)
    have e1 := gR_at (k := 0) u1 rfl
    have e2 : aI (xput w (i + 1) (xi 0 6 (mulp P ch f p))) 0 (i + 1) (nI p) = some (P p) := by
      rw [aI_at u2 (show p < 6 by omega) (nI_cl (by omega)) (nI_nn (by omega))]
      unfold mulp
      rw [if_neg (by omega)]
    have e3 := gR_at (k := 3) u3 rfl
    have e4 : aI (xput w (i + 1) (xi 0 6 (mulp P ch f p))) 0 (j + 4) (nI (6 * f) + nI p) = some (ch (6 * f + p)) := by rw [nI_add]; exact aI_at u4 (by omega) (nI_cl (by omega)) (nI_nn (by omega))
    have e5 : sI (xput w (i + 1) (xi 0 6 (mulp P ch f p))) 0 (i + 1) (nI p) (P p + ch (6 * f + p)) = some (xput w (i + 1) (xi 0 6 (mulp P ch f (p + 1)))) := by
      rw [sI_at u2 (show p < 6 by omega) (nI_cl (by omega)) (nI_nn (by omega)), xput_two, mulp_s]
    show hX5_multiplyByFraction_8 (loX5_multiplyByFraction n) _ i j (nI (6 * f)) (nI p) = _
    unfold hX5_multiplyByFraction_8
    have hlt : ¬ (6 : Int32) ≤ nI p := nI_ge (a := p) (b := 6) (by omega) (by omega)
    rw [if_neg hlt, e1, Option.bind_some, e2, Option.bind_some, e3, Option.bind_some, e4, Option.bind_some, e5, Option.bind_some, nI_1]
    exact ih (p + 1) n (by omega) (by omega)
theorem mul_spec {w : XW} {i j : Nat} {P R kd ch : Nat → Int32} {rs ub st en ti : Int32} (hS : StA w i P R rs ub st en ti) (hF : FrA w j kd ch) (hij : j + 5 < i ∨ i + 2 < j) {f : Nat} (hf : f < 8) : fX5_multiplyByFraction w i j (nI f) = some (xput w (i + 1) (xi 0 6 (mul6 P ch f))) := by
  have h := mul_loop hS hF hij hf 6 0 FU rfl (by unfold FU; omega)
  unfold fX5_multiplyByFraction
  rw [if_pos (isO_at hS.1)]
  unfold eX5_multiplyByFraction
  have e6 : nI f * (6 : Int32) = nI (6 * f) := by rw [show (6 : Int32) = nI 6 from rfl, pk_mul, Nat.mul_comm]
  rw [e6]
  rw [mulp_0, xput_self hS.2.1.2] at h
  exact h
/-- the State's cells, written anew -/
def stp (w : XW) (i : Nat) (P : Nat → Int32) (rs ub st en ti : Int32) : XW := xput (xput w (i + 1) (xi 0 6 P)) i (xo 5 [.ref (i + 1), .ref (i + 2), .int rs, .int ub, .int st, .int en, .int ti])
theorem stp_at {w : XW} {i : Nat} {P R : Nat → Int32} {rs ub st en ti : Int32} (hS : StA w i P R rs ub st en ti) (P' : Nat → Int32) (rs' ub' st' en' ti' : Int32) : StA (stp w i P' rs' ub' st' en' ti') i P' R rs' ub' st' en' ti' :=
  ⟨xat_put (xat_ne hS.1 (by omega)), xat_ne (xat_put hS.2.1) (by omega), xat_ne (xat_ne hS.2.2 (by omega)) (by omega)⟩
theorem stp_fr {w : XW} {i j : Nat} {kd ch : Nat → Int32} (hF : FrA w j kd ch) (hij : j + 5 < i ∨ i + 2 < j) (P' : Nat → Int32) (rs' ub' st' en' ti' : Int32) : FrA (stp w i P' rs' ub' st' en' ti') j kd ch :=
  ⟨hF.1.imp fun sz h => xat_ne (xat_ne h (by omega)) (by omega), xat_ne (xat_ne hF.2.1 (by omega)) (by omega), xat_ne (xat_ne hF.2.2 (by omega)) (by omega)⟩
theorem stp_self {w : XW} {i : Nat} {P R : Nat → Int32} {rs ub st en ti : Int32} (hS : StA w i P R rs ub st en ti) : stp w i P rs ub st en ti = w := by
  unfold stp
  rw [xput_self (w := w) hS.2.1.2, xput_self hS.1.2]
theorem stp_stp {w : XW} {i : Nat} {P P' : Nat → Int32} {rs ub st en ti rs' ub' st' en' ti' : Int32} : stp (stp w i P rs ub st en ti) i P' rs' ub' st' en' ti' = stp w i P' rs' ub' st' en' ti' := by
  unfold stp
  rw [xput_com (k := i) (l := i + 1) (by omega), xput_two, xput_two]
theorem stp_off {w : XW} {i : Nat} {P : Nat → Int32} {rs ub st en ti : Int32} {k : Nat} (h1 : k ≠ i) (h2 : k ≠ i + 1) : (stp w i P rs ub st en ti).2.2 k = w.2.2 k := by
  show (if k = i then _ else (if k = i + 1 then _ else w.2.2 k)) = _
  rw [if_neg h1, if_neg h2]
theorem stp_P {w : XW} {i : Nat} {P P' R : Nat → Int32} {rs ub st en ti : Int32} (hS : StA w i P R rs ub st en ti) : xput w (i + 1) (xi 0 6 P') = stp w i P' rs ub st en ti := by
  unfold stp
  rw [xput_self (w := xput w (i + 1) (xi 0 6 P')) (xat_ne hS.1 (by omega)).2]
theorem stp_pV {w : XW} {i k : Nat} {P R : Nat → Int32} {rs ub st en ti : Int32} {v : Value} {fs : List Value} (hS : StA w i P R rs ub st en ti) (hk : k < 7) (hf : ([.ref (i + 1), .ref (i + 2), .int rs, .int ub, .int st, .int en, .int ti] : List Value).set k v = fs) : pV w i 5 k v = some (xput w i (xo 5 fs)) := by
  rw [pV_at hS.1 (by simpa using hk), hf]
theorem stp_of {w : XW} {i : Nat} {P R : Nat → Int32} {rs ub st en ti rs' ub' st' en' ti' : Int32} (hS : StA w i P R rs ub st en ti) : xput w i (xo 5 [.ref (i + 1), .ref (i + 2), .int rs', .int ub', .int st', .int en', .int ti']) = stp w i P rs' ub' st' en' ti' := by
  unfold stp
  rw [xput_self (w := w) hS.2.1.2]
theorem pS2 {w : XW} {i : Nat} {P R : Nat → Int32} {rs ub st en ti x : Int32} (hS : StA w i P R rs ub st en ti) : pV w i 5 2 (.int x) = some (stp w i P x ub st en ti) := by
  rw [pV_at hS.1 (by simp)]
  exact congrArg some (stp_of hS)
theorem pS3 {w : XW} {i : Nat} {P R : Nat → Int32} {rs ub st en ti x : Int32} (hS : StA w i P R rs ub st en ti) : pV w i 5 3 (.int x) = some (stp w i P rs x st en ti) := by
  rw [pV_at hS.1 (by simp)]
  exact congrArg some (stp_of hS)
theorem pS4 {w : XW} {i : Nat} {P R : Nat → Int32} {rs ub st en ti x : Int32} (hS : StA w i P R rs ub st en ti) : pV w i 5 4 (.int x) = some (stp w i P rs ub x en ti) := by
  rw [pV_at hS.1 (by simp)]
  exact congrArg some (stp_of hS)
theorem pS5 {w : XW} {i : Nat} {P R : Nat → Int32} {rs ub st en ti x : Int32} (hS : StA w i P R rs ub st en ti) : pV w i 5 5 (.int x) = some (stp w i P rs ub st x ti) := by
  rw [pV_at hS.1 (by simp)]
  exact congrArg some (stp_of hS)
theorem pS6 {w : XW} {i : Nat} {P R : Nat → Int32} {rs ub st en ti x : Int32} (hS : StA w i P R rs ub st en ti) : pV w i 5 6 (.int x) = some (stp w i P rs ub st en x) := by
  rw [pV_at hS.1 (by simp)]
  exact congrArg some (stp_of hS)
