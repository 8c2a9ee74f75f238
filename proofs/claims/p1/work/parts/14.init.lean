def wA : XW := xpush w00 15 (xo 7 [.null, .null, .null, .null, .null, .null, .null, .null, .null, .null, .null, .int 0, .null, .null, .null])
theorem ev_both : (match fX7_init wA 0 with | some q => (match fX8_init (xpush q 24 (xo 8 [.int 0, .null, .null, .int 0, .null, .null, .null, .null, .int 0, .int 0, .int 0, .null, .int 0, .int 0, .int 0, .int 0, .null, .null, .int 0, .null, .null, .null, .null, .null])) q.1 with | some p => weqb p WN && decide (q.1 = 72) | none => false) | none => false) = true := by decide +kernel
theorem ev_ex : ∃ q4 q10 : XW, fX7_init wA 0 = some q4 ∧ fX8_init (xpush q4 24 (xo 8 [.int 0, .null, .null, .int 0, .null, .null, .null, .null, .int 0, .int 0, .int 0, .null, .int 0, .int 0, .int 0, .int 0, .null, .null, .int 0, .null, .null, .null, .null, .null])) q4.1 = some q10 ∧ weqb q10 WN = true ∧ q4.1 = 72 := by
  have h := ev_both
  cases h1 : fX7_init wA 0 with
  | none => rw [h1] at h; cases h
  | some q =>
    rw [h1] at h
    dsimp only at h
    cases h2 : fX8_init (xpush q 24 (xo 8 [.int 0, .null, .null, .int 0, .null, .null, .null, .null, .int 0, .int 0, .int 0, .null, .int 0, .int 0, .int 0, .int 0, .null, .null, .int 0, .null, .null, .null, .null, .null])) q.1 with
    | none => rw [h2] at h; cases h
    | some p =>
      rw [h2] at h
      dsimp only at h
      rw [Bool.and_eq_true, decide_eq_true_eq] at h
      exact ⟨q, p, rfl, h2, h.1, h.2⟩
theorem law_pre {K : CX} {l : Launch} {n0 k0 : Nat} {r : Option Value} {w' : XW} (hk : WP K l mL_law 14 341 n0 k0 r w' 18 [some (.float 0), some (.ref 0), some (.ref 72), some (.int 0)] [] WN) : WP K l mL_law 14 341 n0 k0 r w' 0 [some (.float 0), none, none, none] [] w00 := by
  obtain ⟨q4, q10, e6, e12, hq, h72⟩ := ev_ex
  refine wp_new (fs := [.null, .null, .null, .null, .null, .null, .null, .null, .null, .null, .null, .int 0, .null, .null, .null]) okX7 tw17 tw18 tw1 dL_law_0 (by decide +kernel) rfl ?_
  refine wp_dup dL_law_3 rfl ?_
  refine wp_callI (As := []) (S := [.ref 0]) okM_X7_init rfl tw20 rfl tw19 rfl ⟨(Nat.le_of_ble_eq_true rfl), (Nat.le_of_ble_eq_true rfl)⟩ (Nat.le_of_ble_eq_true rfl) rfl dL_law_4 (MX7_init e6) ?_
  refine wp_astore_n (L1 := [some (.float 0), some (.ref 0), none, none]) dL_law_7 (Nat.le_of_ble_eq_true rfl) rfl ?_
  refine wp_new (fs := [.int 0, .null, .null, .int 0, .null, .null, .null, .null, .int 0, .int 0, .int 0, .null, .int 0, .int 0, .int 0, .int 0, .null, .null, .int 0, .null, .null, .null, .null, .null]) okX8 tw685 tw686 tw15 dL_law_8 (by decide +kernel) rfl ?_
  refine wp_dup dL_law_11 rfl ?_
  refine wp_callI (As := []) (S := [.ref q4.1]) okM_X8_init rfl tw688 rfl tw687 rfl ⟨(Nat.le_of_ble_eq_true rfl), (Nat.le_of_ble_eq_true rfl)⟩ (Nat.le_of_ble_eq_true rfl) rfl dL_law_12 (MX8_init e12) ?_
  refine wp_astore_n (L1 := [some (.float 0), some (.ref 0), some (.ref q4.1), none]) dL_law_15 (Nat.le_of_ble_eq_true rfl) rfl ?_
  refine wp_iconst (v := (0 : Int32)) dL_law_16 (by decide) ?_
  refine wp_istore_n (L1 := [some (.float 0), some (.ref 0), some (.ref q4.1), some (.int (0 : Int32))]) dL_law_17 (Nat.le_of_ble_eq_true rfl) rfl ?_
  rw [h72]
  exact WP.cong hq hk
/-- the two answers of a call, the class's and the model's, are the same, and nothing is made -/
def agr (a : Option (Int32 × XW)) (g : XW → Option (Int32 × XW)) : Prop := ∃ q p : Int32 × XW, a = some q ∧ g q.2 = some p ∧ q.1 = p.1 ∧ p.2.1 = 87 ∧ p.2.2.1 = 4287
