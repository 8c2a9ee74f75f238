/-! worlds that hold the same -/
def ceqb (c d : XC) : Bool := match c, d with
  | .inl a, .inl b => decide (a.1 = b.1) && (decide (a.2.1 = b.2.1) && (List.range a.2.1).all (fun j => decide (a.2.2 j = b.2.2 j)))
  | .inr (.inl a), .inr (.inl b) => decide (a.1 = b.1) && (List.range a.1).all (fun j => decide (a.2 j = b.2 j))
  | .inr (.inr (.inl a)), .inr (.inr (.inl b)) => decide (a.1 = b.1) && (decide (a.2.1 = b.2.1) && (List.range a.2.1).all (fun j => decide (a.2.2 j = b.2.2 j)))
  | .inr (.inr (.inr a)), .inr (.inr (.inr b)) => decide (a.1 = b.1) && decide (a.2 = b.2)
  | _, _ => false
def weqb (w v : XW) : Bool := decide (w.1 = v.1) && (decide (w.2.1 = v.2.1) && (List.range w.1).all (fun k => ceqb (w.2.2 k) (v.2.2 k)))
theorem arrV_congr {c : ClassId} {n : Nat} {f g : Nat → Value} (h : ∀ j, j < n → f j = g j) : arrV c n f = arrV c n g := by
  unfold arrV
  congr 1
  apply Array.ext
  · simp
  · intro j h1 h2
    simp only [Array.getElem_ofFn]
    exact h j (by simpa using h1)
theorem all_rng {n : Nat} {p : Nat → Bool} (h : (List.range n).all p = true) : ∀ j, j < n → p j = true := fun j hj => List.all_eq_true.mp h j (List.mem_range.mpr hj)
theorem ceqb_cell {K : CX} {a : Nat} {c d : XC} {H : Heap} (h : ceqb c d = true) (hc : xcell K a c H) : xcell K a d H := by
  rcases c with c | c | c | c <;> rcases d with d | d | d | d <;> try (exact (Bool.false_ne_true h).elim)
  · simp only [ceqb, Bool.and_eq_true, decide_eq_true_eq] at h
    obtain ⟨h1, h2, h3⟩ := h
    show H[a]? = some (arrV _ _ _)
    rw [← h1, ← h2, show H[a]? = some (arrV (cI K c.1) c.2.1 (fun j => .int (c.2.2 j))) from hc]
    exact congrArg some (arrV_congr (fun j hj => congrArg Value.int (of_decide_eq_true (all_rng h3 j hj))))
  · simp only [ceqb, Bool.and_eq_true, decide_eq_true_eq] at h
    obtain ⟨h1, h3⟩ := h
    show H[a]? = some (arrV _ _ _)
    rw [← h1, show H[a]? = some (arrV (cI K 3) c.1 (fun j => .long (c.2 j))) from hc]
    exact congrArg some (arrV_congr (fun j hj => congrArg Value.long (of_decide_eq_true (all_rng h3 j hj))))
  · simp only [ceqb, Bool.and_eq_true, decide_eq_true_eq] at h
    obtain ⟨h1, h2, h3⟩ := h
    show H[a]? = some (arrV _ _ _)
    rw [← h1, ← h2, show H[a]? = some (arrV (cI K (4 + c.1)) c.2.1 (fun j => cvr K (c.2.2 j))) from hc]
    exact congrArg some (arrV_congr (fun j hj => congrArg (cvr K) (of_decide_eq_true (all_rng h3 j hj))))
  · simp only [ceqb, Bool.and_eq_true, decide_eq_true_eq] at h
    obtain ⟨h1, h2⟩ := h
    obtain ⟨r, g1, g2⟩ := hc
    refine ⟨r, by rw [← h1]; exact g1, ?_⟩
    rw [← h1, ← h2]
    exact g2
theorem weqb_rep {K : CX} {w v : XW} {H : Heap} (h : weqb w v = true) (hr : rep K w H) : rep K v H := by
  simp only [weqb, Bool.and_eq_true, decide_eq_true_eq] at h
  obtain ⟨h1, h2, h3⟩ := h
  refine ⟨by rw [← h1]; exact hr.1, fun k hk => ?_, hr.2.2⟩
  have hk' : k < w.1 := by rw [h1]; exact hk
  exact ceqb_cell (all_rng h3 k hk') (hr.2.1 k hk')
theorem WP.cong {K : CX} {l : Launch} {y : MR} {fr lo n0 k0 : Nat} {r : Option Value} {w' : XW} {pc : Nat} {L : List (Option Value)} {S : List Value} {w v : XW} (h : weqb w v = true) (k : WP K l y fr lo n0 k0 r w' pc L S v) : WP K l y fr lo n0 k0 r w' pc L S w := by
  have h0 := h
  simp only [weqb, Bool.and_eq_true, decide_eq_true_eq] at h0
  obtain ⟨h1, h2, -⟩ := h0
  obtain ⟨a1, a2, a3⟩ := k
  rw [← h1] at a1
  rw [← h2] at a2
  refine ⟨a1, a2, fun b1 b2 p e s m args below meth c H locs ls R r1 r2 r3 r4 X hr hl hL => ?_⟩
  have hW := a3 (by rw [← h1]; exact b1) (by rw [← h2]; exact b2) p e s m args below meth c H locs ls R r1 r2 r3 r4 X (weqb_rep h hr) hl hL
  rw [← h1, ← h2] at hW
  exact hW
