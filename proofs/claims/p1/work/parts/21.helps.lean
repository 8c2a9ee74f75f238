theorem if2 {α : Type} {x lo hi : Int32} {A B : α} (h : ¬ (lo ≤ x ∧ x ≤ hi)) : (if x < lo then B else if x ≤ hi then A else B) = B := by
  by_cases h1 : x < lo
  · rw [if_pos h1]
  · rw [if_neg h1, if_neg]
    intro h2
    exact h ⟨by rw [i_lt] at h1; rw [i_le]; omega, h2⟩
theorem if3 {α : Type} {x lo hi : Int32} {A B : α} (h : ¬ (lo ≤ x ∧ x ≤ hi)) : (if x < lo then B else if hi < x then B else A) = B := by
  by_cases h1 : x < lo
  · rw [if_pos h1]
  · rw [if_neg h1, if_pos]
    rw [i_lt] at h1
    rw [i_le, i_le] at h
    rw [i_lt]
    omega
theorem if2i {α : Type} {x lo hi : Int32} {A B : α} (h : lo ≤ x ∧ x ≤ hi) : (if x < lo then B else if x ≤ hi then A else B) = A := by
  rw [if_neg (fun q => by have := h.1; rw [i_le] at this; rw [i_lt] at q; omega), if_pos h.2]
theorem if3i {α : Type} {x lo hi : Int32} {A B : α} (h : lo ≤ x ∧ x ≤ hi) : (if x < lo then B else if hi < x then B else A) = A := by
  rw [if_neg (fun q => by have := h.1; rw [i_le] at this; rw [i_lt] at q; omega), if_neg (fun q => by have := h.2; rw [i_le] at this; rw [i_lt] at q; omega)]
theorem isW (f : Int32) : fX8_isWho WN 72 f = some (if (0 ≤ f ∧ f ≤ 5) ∨ f = 8 then 1 else 0, WN) := by
  unfold fX8_isWho
  rw [if_pos o8]
  unfold eX8_isWho
  rw [isF, Option.bind_some]
  by_cases h : 0 ≤ f ∧ f ≤ 5
  · rw [if_pos h, if_pos (Or.inl h)]; rfl
  · rw [if_neg h]
    by_cases h8 : f = 8
    · rw [if_pos (Or.inr h8), if_pos rfl, if_pos h8]; rfl
    · have hw : ¬ ((0 ≤ f ∧ f ≤ 5) ∨ f = 8) := fun q => q.elim h h8
      rw [if_neg hw, if_pos rfl, if_neg h8]; rfl
theorem in08 {f : Int32} (h : ¬ (0 ≤ f ∧ f ≤ 8)) : ¬ (0 ≤ f ∧ f ≤ 5) ∧ ¬ f = 8 := by
  refine ⟨fun q => h ⟨q.1, ?_⟩, fun q => h (by rw [q]; decide)⟩
  have := q.2
  rw [i_le] at this ⊢
  have a1 : (8 : Int32).toInt = 8 := by decide
  have a2 : (5 : Int32).toInt = 5 := by decide
  omega
