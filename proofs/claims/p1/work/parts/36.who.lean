/-! which fraction is next, by the model -/
def f1 (u l : Nat → Bool) (o : Nat → Nat) : Nat → Nat → Int32 → Int32
  | 0, _, d => d
  | m + 1, p, d => if u (o p) = true ∧ l (o p) = false then nI (o p) else f1 u l o m (p + 1) d
def f2 (u l : Nat → Bool) (o : Nat → Nat) : Nat → Nat → Int32
  | 0, _ => -4
  | m + 1, p => if u (o p) = true ∧ l (o p) = true then nI (o p) else f2 u l o m (p + 1)
theorem nfs_f1 (u l : Nat → Bool) (o : Nat → Nat) : ∀ (m p : Nat) (z : Int32), ¬ z = -4 → nfs u l o m p z = f1 u l o m p z := by
  intro m
  induction m with
  | zero => intro p z hz; rfl
  | succ m ih =>
    intro p z hz
    rw [nfs, f1]
    by_cases h : u (o p) = true ∧ l (o p) = false
    · rw [if_pos ⟨h.1, Or.inl h.2⟩, if_pos h.2, if_pos h]
    · rw [if_neg (fun q => h ⟨q.1, q.2.elim id (fun e => absurd e hz)⟩), if_neg h]
      exact ih (p + 1) z hz
theorem nfs_f2 (u l : Nat → Bool) (o : Nat → Nat) : ∀ (m p : Nat), (∀ q, p ≤ q → q < p + m → o q < 8) → nfs u l o m p (-4) = f1 u l o m p (f2 u l o m p) := by
  intro m
  induction m with
  | zero => intro p ho; rfl
  | succ m ih =>
    intro p ho
    have ih2 := ih (p + 1) (fun q h1 h2 => ho q (by omega) (by omega))
    rw [nfs, f1, f2]
    by_cases hu : u (o p) = true
    · cases hl : l (o p) with
      | false => rw [if_pos ⟨hu, Or.inl rfl⟩, if_pos rfl, if_pos ⟨hu, rfl⟩]
      | true =>
        rw [if_pos ⟨hu, Or.inr rfl⟩, if_neg (by decide), if_neg (fun q => by cases q.2), if_pos ⟨hu, rfl⟩]
        exact nfs_f1 u l o m (p + 1) _ (nI_n4 (by have := ho p (by omega) (by omega); omega))
    · rw [if_neg (fun q => hu q.1), if_neg (fun q => hu q.1), if_neg (fun q => hu q.1)]
      exact ih2
def wh (u l : Nat → Bool) (o : Nat → Nat) (r : Nat) : Nat → Nat → Int32
  | 0, _ => -4
  | m + 1, k => if l (o (k % r)) = decide (r ≤ k) ∧ u (o (k % r)) = true then nI (o (k % r)) else wh u l o r m (k + 1)
theorem wh_2 (u l : Nat → Bool) (o : Nat → Nat) (r : Nat) : ∀ (m p : Nat), p + m = r → wh u l o r m (r + p) = f2 u l o m p := by
  intro m
  induction m with
  | zero => intro p hp; rfl
  | succ m ih =>
    intro p hp
    rw [wh, f2]
    have e : (r + p) % r = p := by rw [Nat.add_mod_left]; exact Nat.mod_eq_of_lt (by omega)
    rw [e, decide_eq_true (show r ≤ r + p by omega)]
    by_cases h : u (o p) = true ∧ l (o p) = true
    · rw [if_pos ⟨h.2, h.1⟩, if_pos h]
    · rw [if_neg (fun q => h ⟨q.2, q.1⟩), if_neg h]
      exact ih (p + 1) (by omega)
theorem wh_1 (u l : Nat → Bool) (o : Nat → Nat) (r : Nat) : ∀ (m p : Nat), p + m = r → wh u l o r (m + r) p = f1 u l o m p (wh u l o r r r) := by
  intro m
  induction m with
  | zero =>
    intro p hp
    have : p = r := by omega
    subst this
    rw [Nat.zero_add]
    rfl
  | succ m ih =>
    intro p hp
    rw [show m + 1 + r = m + r + 1 by omega, wh, f1]
    have e : p % r = p := Nat.mod_eq_of_lt (by omega)
    rw [e, decide_eq_false (show ¬ r ≤ p by omega)]
    by_cases h : u (o p) = true ∧ l (o p) = false
    · rw [if_pos ⟨h.2, h.1⟩, if_pos h]
    · rw [if_neg (fun q => h ⟨q.2, q.1⟩), if_neg h]
      exact ih (p + 1) (by omega)
theorem wh_nxt {kd ch : Nat → Int32} {S : PS} (h : okS S) : wh (can kd ch S) (fun f => decide (kd f = 4)) (sO S) (sr S) (2 * sr S) 0 = nxt kd ch S := by
  unfold nxt
  rw [nfs_f2 _ _ _ _ _ (fun q _ h2 => h.2 q (by omega)), ← wh_2 (can kd ch S) (fun f => decide (kd f = 4)) (sO S) (sr S) (sr S) 0 (by omega), Nat.add_zero, ← wh_1 _ _ _ _ _ _ (Nat.zero_add _), show 2 * sr S = sr S + sr S by omega]
theorem who_loop {w : XW} {kd ch Z : Nat → Int32} {tw : Int32} (h : Mo w kd ch Z tw) {b : Nat} {S : PS} (hz : zS Z b S) (hb : b ≤ 216) (hk : sk S < 2 ^ 31) : ∀ (m k n : Nat), k + m = 2 * sr S → m + 1 ≤ n → loX8_who n w 72 (nI b) 0 (nI k) = some (wh (can kd ch S) (fun f => decide (kd f = 4)) (sO S) (sr S) m k, w) := by
  have hzz := hz
  obtain ⟨z0, z1, z2, z3, z4, z5, z6⟩ := hz
  have hr8 := z0.1
  have e14 : aI w 0 78 (nI b + 14) = some (nI (sr S)) := by rw [← z3]; exact h.zo (c := 14) (by omega)
  have e2r : (2 : Int32) * nI (sr S) = nI (2 * sr S) := by rw [show (2 : Int32) = nI 2 from rfl, pk_mul]
  intro m
  induction m with
  | zero =>
    intro k n hk0 hn
    obtain ⟨n, rfl⟩ : ∃ z, n = z + 1 := ⟨n - 1, by omega⟩
    show hX8_who_2 (loX8_who n) w 72 (nI b) 0 (nI k) = _
    unfold hX8_who_2
    rw [h.g7, Option.bind_some, e14, Option.bind_some, e2r, if_pos (nI_le (by omega) (by omega))]
    rfl
  | succ m ih =>
    intro k n hk0 hn
    obtain ⟨n, rfl⟩ : ∃ z, n = z + 1 := ⟨n - 1, by omega⟩
    have hr0 : 0 < sr S := by omega
    have hkr : k % sr S < sr S := Nat.mod_lt _ hr0
    have hoq := z0.2 _ hkr
    have e6 : aI w 0 78 ((nI b + 6) + irm (nI k) (nI (sr S))) = some (nI (sO S (k % sr S))) := by
      rw [show irm (nI k) (nI (sr S)) = nI (k % sr S) from pk_rem (by omega) hr0 (by omega), show nI b + 6 = nI (b + 6) from nI_add b 6, ← z2 _ hkr]
      exact h.zo (by omega)
    have h111 : bX8_who_111 (loX8_who n) w 72 (nI b) 0 (nI k) = some (wh (can kd ch S) (fun f => decide (kd f = 4)) (sO S) (sr S) m (k + 1), w) := by
      unfold bX8_who_111
      rw [nI_1]
      exact ih (k + 1) n (by omega) (by omega)
    have hhas : fX8_has w 0 (nI (sO S (k % sr S))) = some (bi false, w) := by
      rw [has_spec]
      have e0 : ∀ f, f < 8 → ¬ (((0 : Int32) >>> (nI f &&& 31)) &&& (1 : Int32)) = 1 := by decide +kernel
      rw [decide_eq_false (e0 _ hoq)]
    have h82 : ∀ B : Bool, bX8_who_82 (loX8_who n) w 72 (nI b) 0 (nI k) (nI (sO S (k % sr S))) (bi B) = some (if B = true ∧ can kd ch S (sO S (k % sr S)) = true then nI (sO S (k % sr S)) else wh (can kd ch S) (fun f => decide (kd f = 4)) (sO S) (sr S) m (k + 1), w) := by
      intro B
      unfold bX8_who_82
      rw [hhas, Option.bind_some, can_spec h hzz hb hoq hk, Option.bind_some, h111]
      cases B <;> cases can kd ch S (sO S (k % sr S)) <;> rfl
    have h74 : ∀ B1 B2 : Bool, bX8_who_74 (loX8_who n) w 72 (nI b) 0 (nI k) (nI (sO S (k % sr S))) (bi B1) (bi B2) = some (if B1 = B2 ∧ can kd ch S (sO S (k % sr S)) = true then nI (sO S (k % sr S)) else wh (can kd ch S) (fun f => decide (kd f = 4)) (sO S) (sr S) m (k + 1), w) := by
      intro B1 B2
      unfold bX8_who_74
      have a0 := h82 false
      have a1 := h82 true
      simp only [true_and, Bool.false_eq_true, false_and, if_false] at a0 a1
      cases B1 <;> cases B2
      · rw [if_pos rfl]; simp only [true_and]; exact a1
      · rw [if_neg (by decide), if_neg (fun q => by cases q.1)]; exact a0
      · rw [if_neg (by decide), if_neg (fun q => by cases q.1)]; exact a0
      · rw [if_pos rfl]; simp only [true_and]; exact a1
    have h56 : ∀ B : Bool, bX8_who_56 (loX8_who n) w 72 (nI b) 0 (nI k) (nI (sO S (k % sr S))) (bi B) = some (if B = decide (sr S ≤ k) ∧ can kd ch S (sO S (k % sr S)) = true then nI (sO S (k % sr S)) else wh (can kd ch S) (fun f => decide (kd f = 4)) (sO S) (sr S) m (k + 1), w) := by
      intro B
      unfold bX8_who_56
      rw [h.g7, Option.bind_some, e14, Option.bind_some]
      by_cases c : sr S ≤ k
      · rw [if_neg (nI_nlt c (by omega)), decide_eq_true c]; exact h74 B true
      · rw [if_pos (nI_lt (by omega) (by omega)), decide_eq_false c]; exact h74 B false
    show hX8_who_2 (loX8_who n) w 72 (nI b) 0 (nI k) = _
    unfold hX8_who_2
    rw [h.g7, Option.bind_some, e14, Option.bind_some, e2r, if_neg (nI_ge (by omega) (by omega)), Option.bind_some, Option.bind_some, e14, Option.bind_some, if_neg (nI_ne0 hr0 (by omega)), e6, Option.bind_some, h.g1, Option.bind_some, h.k hoq, Option.bind_some]
    rw [wh]
    by_cases c4 : kd (sO S (k % sr S)) = 4
    · rw [if_pos c4]
      have := h56 true
      simp only [decide_eq_true c4]
      exact this
    · rw [if_neg c4]
      have := h56 false
      simp only [decide_eq_false c4]
      exact this
theorem who_spec {w : XW} {kd ch Z : Nat → Int32} {tw : Int32} (h : Mo w kd ch Z tw) {b : Nat} {S : PS} (hz : zS Z b S) (hb : b ≤ 216) (hk : sk S < 2 ^ 31) : fX8_who w 72 (nI b) 0 = some (nxt kd ch S, w) := by
  have hr8 := hz.1.1
  unfold fX8_who
  rw [if_pos h.o, ← wh_nxt hz.1]
  exact who_loop h hz hb hk (2 * sr S) 0 FU (by omega) (by unfold FU; omega)
