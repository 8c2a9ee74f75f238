/-! the state of powers, row, used, step, ended, and a step of it; the class's State says it -/
abbrev PS : Type := (Nat → Int32) × (Nat → Nat) × Nat × Int32 × Nat × Bool
abbrev sP (S : PS) : Nat → Int32 := S.1
abbrev sO (S : PS) : Nat → Nat := S.2.1
abbrev sr (S : PS) : Nat := S.2.2.1
abbrev su (S : PS) : Int32 := S.2.2.2.1
abbrev sk (S : PS) : Nat := S.2.2.2.2.1
abbrev se (S : PS) : Bool := S.2.2.2.2.2
def okS (S : PS) : Prop := sr S ≤ 8 ∧ ∀ p, p < sr S → sO S p < 8
/-- outside the cells s all is as it was -/
def Off (s : Nat → Prop) (w w' : XW) : Prop := w'.1 = w.1 ∧ w'.2.1 = w.2.1 ∧ ∀ k, ¬ s k → w'.2.2 k = w.2.2 k
theorem Off.rf {s : Nat → Prop} {w : XW} : Off s w w := ⟨rfl, rfl, fun _ _ => rfl⟩
theorem Off.tr {s : Nat → Prop} {w w1 w2 : XW} (a : Off s w w1) (b : Off s w1 w2) : Off s w w2 := ⟨b.1.trans a.1, b.2.1.trans a.2.1, fun k h => (b.2.2 k h).trans (a.2.2 k h)⟩
theorem Off.mono {s t : Nat → Prop} {w w' : XW} (a : Off s w w') (h : ∀ k, s k → t k) : Off t w w' := ⟨a.1, a.2.1, fun k hk => a.2.2 k (fun z => hk (h k z))⟩
theorem Off.put {s : Nat → Prop} {w : XW} {k : Nat} {c : XC} (h : s k) : Off s w (xput w k c) := ⟨rfl, rfl, fun j hj => if_neg (fun (z : j = k) => hj (by rw [z]; exact h))⟩
theorem Off.xat {s : Nat → Prop} {w w' : XW} {k : Nat} {c : XC} (a : Off s w w') (h : xat w k c) (hk : ¬ s k) : xat w' k c := ⟨by rw [a.1]; exact h.1, by rw [a.2.2 k hk]; exact h.2⟩
abbrev St3 (i : Nat) : Nat → Prop := fun k => i ≤ k ∧ k ≤ i + 2
theorem Off.StA {s : Nat → Prop} {w w' : XW} {i : Nat} {P R : Nat → Int32} {rs ub st en ti : Int32} (a : Off s w w') (h : StA w i P R rs ub st en ti) (hs : ∀ k, i ≤ k → k ≤ i + 2 → ¬ s k) : StA w' i P R rs ub st en ti :=
  ⟨a.xat h.1 (hs _ (by omega) (by omega)), a.xat h.2.1 (hs _ (by omega) (by omega)), a.xat h.2.2 (hs _ (by omega) (by omega))⟩
theorem Off.FrA {s : Nat → Prop} {w w' : XW} {j : Nat} {kd ch : Nat → Int32} (a : Off s w w') (h : FrA w j kd ch) (hs : ∀ k, j ≤ k → k ≤ j + 5 → ¬ s k) : FrA w' j kd ch :=
  ⟨h.1.imp fun _ z => a.xat z (hs _ (by omega) (by omega)), a.xat h.2.1 (hs _ (by omega) (by omega)), a.xat h.2.2 (hs _ (by omega) (by omega))⟩
def Cl (w : XW) (i : Nat) (S : PS) (ti : Int32) : Prop := okS S ∧ ∃ P R, StA w i P R (nI (sr S)) (su S) (nI (sk S)) (bi (se S)) ti ∧ (∀ q, q < 6 → P q = sP S q) ∧ ∀ p, p < sr S → R p = nI (sO S p)
theorem Off.Cl {s : Nat → Prop} {w w' : XW} {i : Nat} {S : PS} {ti : Int32} (a : Off s w w') (h : Cl w i S ti) (hs : ∀ k, i ≤ k → k ≤ i + 2 → ¬ s k) : Cl w' i S ti := by
  obtain ⟨h0, P, R, h1, h2, h3⟩ := h
  exact ⟨h0, P, R, a.StA h1 hs, h2, h3⟩
theorem fits6_cg {P P' ch : Nat → Int32} {f : Nat} (h : ∀ q, q < 6 → P q = P' q) : fits6 P ch f = fits6 P' ch f := by
  have key : fits6 P ch f = true ↔ fits6 P' ch f = true := by
    rw [fits6_iff, fits6_iff]
    constructor
    · intro z q hq; have := z q hq; unfold fit at this ⊢; rw [← h q hq]; exact this
    · intro z q hq; have := z q hq; unfold fit at this ⊢; rw [h q hq]; exact this
  exact Bool.eq_iff_iff.mpr key
theorem us_cg {kd ch P P' : Nat → Int32} {ub st en : Int32} {f : Nat} (h : ∀ q, q < 6 → P q = P' q) : us kd ch P ub st en f = us kd ch P' ub st en f := by
  unfold us
  rw [fits6_cg h]
def can (kd ch : Nat → Int32) (S : PS) (f : Nat) : Bool := us kd ch (sP S) (su S) (nI (sk S)) (bi (se S)) f
def nxt (kd ch : Nat → Int32) (S : PS) : Int32 := nfs (can kd ch S) (fun f => decide (kd f = 4)) (sO S) (sr S) 0 (-4)
theorem nfs_c (u l : Nat → Bool) (o : Nat → Nat) : ∀ (m p : Nat) (z : Int32), nfs u l o m p z = z ∨ ∃ q, p ≤ q ∧ q < p + m ∧ u (o q) = true ∧ nfs u l o m p z = nI (o q) := by
  intro m
  induction m with
  | zero => intro p z; exact Or.inl rfl
  | succ m ih =>
    intro p z
    rw [nfs]
    by_cases h : u (o p) = true ∧ (l (o p) = false ∨ z = -4)
    · rw [if_pos h]
      by_cases h2 : l (o p) = false
      · rw [if_pos h2]; exact Or.inr ⟨p, by omega, by omega, h.1, rfl⟩
      · rw [if_neg h2]
        rcases ih (p + 1) (nI (o p)) with e | ⟨q, a, b, c, d⟩
        · exact Or.inr ⟨p, by omega, by omega, h.1, e⟩
        · exact Or.inr ⟨q, by omega, by omega, c, d⟩
    · rw [if_neg h]
      rcases ih (p + 1) z with e | ⟨q, a, b, c, d⟩
      · exact Or.inl e
      · exact Or.inr ⟨q, by omega, by omega, c, d⟩
theorem nxt_c {kd ch : Nat → Int32} {S : PS} (h : okS S) : nxt kd ch S = -4 ∨ ∃ f, f < 8 ∧ nxt kd ch S = nI f ∧ can kd ch S f = true := by
  rcases nfs_c (can kd ch S) (fun f => decide (kd f = 4)) (sO S) (sr S) 0 (-4) with e | ⟨q, a, b, c, d⟩
  · exact Or.inl e
  · exact Or.inr ⟨sO S q, h.2 q (by omega), d, c⟩
theorem nI_n4 {f : Nat} (h : f < 2 ^ 31) : ¬ nI f = -4 := by
  intro z
  have := nI_pos h
  rw [z] at this
  exact this (by decide)
theorem cl_next {w : XW} {i j : Nat} {S : PS} {ti : Int32} {kd ch : Nat → Int32} (hC : Cl w i S ti) (hF : FrA w j kd ch) : fX5_nextFraction w i j = some (nxt kd ch S, w) := by
  obtain ⟨h0, P, R, h1, h2, h3⟩ := hC
  rw [next_spec h1 hF (ρ := sO S) ⟨h0.1, fun p hp => ⟨h3 p hp, h0.2 p hp⟩⟩]
  have e : us kd ch P (su S) (nI (sk S)) (bi (se S)) = can kd ch S := by
    funext f
    exact us_cg h2
  rw [e]
  rfl
def twi (kd ch : Nat → Int32) (S : PS) (f : Nat) : Bool := decide (kd f = 3) && fits6 (fun q => sP S q + ch (6 * f + q)) ch f
def stF (kd ch : Nat → Int32) (S : PS) (f : Nat) : PS := (fun q => if twi kd ch S f = true then sP S q + ch (6 * f + q) + ch (6 * f + q) else sP S q + ch (6 * f + q), sO S, sr S, su S ||| ((1 : Int32) <<< (nI f &&& 31)), sk S + 1, decide (kd f = 5))
def stS (kd ch : Nat → Int32) (S : PS) : PS := if nxt kd ch S = -4 then S else stF kd ch S (nxt kd ch S).toNatClampNeg
theorem stS_ok {kd ch : Nat → Int32} {S : PS} (h : okS S) : okS (stS kd ch S) := by
  unfold stS
  split
  · exact h
  · exact h
theorem b56 {w : XW} {i j : Nat} {P R kd ch : Nat → Int32} {rs ub st en ti : Int32} (hS : StA w i P R rs ub st en ti) (hF : FrA w j kd ch) (hij : j + 5 < i ∨ i + 2 < j) {f : Nat} (hf : f < 8) : bX5_takeStep_56 w i j (nI f) = some (nI f, stp w i P rs (ub ||| ((1 : Int32) <<< (nI f &&& 31))) (st + 1) (bi (decide (kd f = 5))) ti) := by
  have h84 : ∀ (w : XW) (ub : Int32) (b : Bool), StA w i P R rs ub st en ti → bX5_takeStep_84 w i (nI f) i (bi b) = some (nI f, stp w i P rs ub (st + 1) (bi b) ti) := by
    intro w ub b h
    unfold bX5_takeStep_84
    have hb : bi b &&& 1 = bi b := by cases b <;> decide
    have h2 := stp_at h P rs ub st (bi b) ti
    rw [if_pos hb, pS5 h, Option.bind_some, gI_at (k := 4) h2.1 rfl, Option.bind_some, pS4 h2, Option.bind_some, stp_stp]
  unfold bX5_takeStep_56
  rw [gI_at (k := 3) hS.1 rfl, Option.bind_some, pS3 hS, Option.bind_some]
  have h2 := stp_at hS P rs (ub ||| ((1 : Int32) <<< (nI f &&& 31))) st en ti
  have h3 := stp_fr hF hij P rs (ub ||| ((1 : Int32) <<< (nI f &&& 31))) st en ti
  obtain ⟨⟨sz, t1⟩, t2, t3⟩ := h3
  rw [gR_at (k := 0) t1 rfl, Option.bind_some, aI_at t2 hf (nI_cl (by omega)) (nI_nn (by omega)), Option.bind_some]
  by_cases h5 : kd f = 5
  · rw [if_pos h5]
    have := h84 _ _ true h2
    rw [stp_stp] at this
    rw [decide_eq_true h5]
    exact this
  · rw [if_neg h5]
    have := h84 _ _ false h2
    rw [stp_stp] at this
    rw [decide_eq_false h5]
    exact this
theorem stp_off3 {w : XW} {i : Nat} {P : Nat → Int32} {rs ub st en ti : Int32} : Off (St3 i) w (stp w i P rs ub st en ti) :=
  (Off.put (w := w) (k := i + 1) (s := St3 i) ⟨by omega, by omega⟩).tr (Off.put (k := i) ⟨by omega, by omega⟩)
theorem takeStep_spec {w : XW} {i j : Nat} {S : PS} {ti : Int32} {kd ch : Nat → Int32} (hC : Cl w i S ti) (hF : FrA w j kd ch) (hij : j + 5 < i ∨ i + 2 < j) : ∃ w' ti', fX5_takeStep w i j = some (nxt kd ch S, w') ∧ Cl w' i (stS kd ch S) ti' ∧ Off (St3 i) w w' ∧ (¬ nxt kd ch S = -4 → ti' = if twi kd ch S (nxt kd ch S).toNatClampNeg = true then 2 else 1) := by
  have hN := cl_next hC hF
  have hCC := hC
  obtain ⟨h0, P, R, hS, h2, h3⟩ := hC
  unfold fX5_takeStep
  rw [if_pos (isO_at hS.1)]
  unfold eX5_takeStep
  rw [hN, Option.bind_some]
  rcases nxt_c (kd := kd) (ch := ch) h0 with e | ⟨f, hf, e, hc⟩
  · refine ⟨w, ti, ?_, ?_, Off.rf, fun z => absurd e z⟩
    · rw [if_pos e, e]
    · unfold stS; rw [if_pos e]; exact hCC
  · have hn4 : ¬ nxt kd ch S = -4 := by rw [e]; exact nI_n4 (by omega)
    have hcl : (nxt kd ch S).toNatClampNeg = f := by rw [e]; exact nI_cl (by omega)
    rw [if_neg hn4]
    have m1 := mul_spec hS hF hij hf
    rw [stp_P hS] at m1
    have a1 := stp_at hS (mul6 P ch f) (nI (sr S)) (su S) (nI (sk S)) (bi (se S)) ti
    have a8 := stp_at hS (mul6 P ch f) (nI (sr S)) (su S) (nI (sk S)) (bi (se S)) 1
    have f8 := stp_fr hF hij (mul6 P ch f) (nI (sr S)) (su S) (nI (sk S)) (bi (se S)) 1
    have f8' := f8
    obtain ⟨⟨sz, t1⟩, t2, t3⟩ := f8'
    have hP1 : ∀ q, q < 6 → mul6 P ch f q = sP S q + ch (6 * f + q) := fun q hq => by
      show (if q < 6 then P q + ch (6 * f + q) else P q) = _
      rw [if_pos hq, h2 q hq]
    have hend : ∀ (Q : Nat → Int32) (t : Int32), StA (stp w i Q (nI (sr S)) (su S) (nI (sk S)) (bi (se S)) t) i Q R (nI (sr S)) (su S) (nI (sk S)) (bi (se S)) t → FrA (stp w i Q (nI (sr S)) (su S) (nI (sk S)) (bi (se S)) t) j kd ch → (∀ q, q < 6 → Q q = sP (stF kd ch S f) q) → ∃ w' ti', bX5_takeStep_56 (stp w i Q (nI (sr S)) (su S) (nI (sk S)) (bi (se S)) t) i j (nI f) = some (nI f, w') ∧ Cl w' i (stF kd ch S f) ti' ∧ Off (St3 i) w w' ∧ ti' = t := by
      intro Q t g1 g2 g3
      refine ⟨_, t, b56 g1 g2 hij hf, ?_, ?_, rfl⟩
      · refine ⟨h0, Q, R, ?_, g3, h3⟩
        have := stp_at g1 Q (nI (sr S)) (su S ||| ((1 : Int32) <<< (nI f &&& 31))) (nI (sk S) + 1) (bi (decide (kd f = 5))) t
        rw [nI_1] at this ⊢
        exact this
      · rw [stp_stp]; exact stp_off3
    have hstS : stS kd ch S = stF kd ch S f := by unfold stS; rw [if_neg hn4, hcl]
    rw [hstS, hcl]
    simp only [e]
    rw [m1, Option.bind_some, pS6 a1, Option.bind_some, stp_stp, gR_at (k := 0) t1 rfl, Option.bind_some, aI_at t2 hf (nI_cl (by omega)) (nI_nn (by omega)), Option.bind_some]
    by_cases c3 : kd f = 3
    · rw [if_pos c3, isUsable_spec a8 f8 hf, Option.bind_some]
      have hus : us kd ch (mul6 P ch f) (su S) (nI (sk S)) (bi (se S)) f = fits6 (fun q => sP S q + ch (6 * f + q)) ch f := by
        have z := of_decide_eq_true hc
        rw [us_cg hP1]
        unfold us
        simp only [z.1, c3, true_and]
        have n1 : ¬ (3 : Int32) = 1 := by decide
        have n2 : ¬ (3 : Int32) = 2 := by decide
        simp only [n1, n2, false_and, not_false_eq_true, true_and, Bool.decide_eq_true]
      rw [hus]
      by_cases c6 : fits6 (fun q => sP S q + ch (6 * f + q)) ch f = true
      · have ht : twi kd ch S f = true := by unfold twi; rw [c6, decide_eq_true c3]; rfl
        rw [c6, if_neg (show ¬ bi true = 0 by decide)]
        have m2 := mul_spec a8 f8 hij hf
        rw [stp_P a8, stp_stp] at m2
        have a2 := stp_at hS (mul6 (mul6 P ch f) ch f) (nI (sr S)) (su S) (nI (sk S)) (bi (se S)) 1
        rw [m2, Option.bind_some, pS6 a2, Option.bind_some, stp_stp]
        obtain ⟨w', ti', g1, g2, g3, g4⟩ := hend (mul6 (mul6 P ch f) ch f) 2 (stp_at hS _ _ _ _ _ _) (stp_fr hF hij _ _ _ _ _ _) (fun q hq => by
          show (if q < 6 then mul6 P ch f q + ch (6 * f + q) else mul6 P ch f q) = (if twi kd ch S f = true then _ else _)
          rw [if_pos hq, if_pos ht, hP1 q hq])
        exact ⟨w', ti', g1, g2, g3, fun _ => by rw [if_pos ht]; exact g4⟩
      · have ht : ¬ twi kd ch S f = true := by unfold twi; rw [Bool.and_eq_true]; exact fun z => c6 z.2
        have c6' : fits6 (fun q => sP S q + ch (6 * f + q)) ch f = false := by simpa using c6
        rw [c6', if_pos (show bi false = 0 by decide)]
        obtain ⟨w', ti', g1, g2, g3, g4⟩ := hend (mul6 P ch f) 1 a8 f8 (fun q hq => by
          show _ = (if twi kd ch S f = true then _ else _)
          rw [if_neg ht, hP1 q hq])
        exact ⟨w', ti', g1, g2, g3, fun _ => by rw [if_neg ht]; exact g4⟩
    · have ht : ¬ twi kd ch S f = true := by unfold twi; rw [Bool.and_eq_true, decide_eq_true_eq]; exact fun z => c3 z.1
      rw [if_neg c3]
      obtain ⟨w', ti', g1, g2, g3, g4⟩ := hend (mul6 P ch f) 1 a8 f8 (fun q hq => by
        show _ = (if twi kd ch S f = true then _ else _)
        rw [if_neg ht, hP1 q hq])
      exact ⟨w', ti', g1, g2, g3, fun _ => by rw [if_neg ht]; exact g4⟩
