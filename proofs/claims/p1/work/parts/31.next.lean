/-! which fraction can be used, and which is used next -/
theorem fit_dec (P ch : Nat → Int32) (f q : Nat) : fit P ch f q ↔ (decide (¬ (P q + ch (6 * f + q)) < 0) && decide ((P q + ch (6 * f + q)) ≤ 999)) = true := by
  unfold fit
  rw [Bool.and_eq_true, decide_eq_true_eq, decide_eq_true_eq]
/-- all six powers stay within 0 .. 999 -/
def fits6 (P ch : Nat → Int32) (f : Nat) : Bool := (List.range 6).all (fun q => decide (¬ (P q + ch (6 * f + q)) < 0) && decide ((P q + ch (6 * f + q)) ≤ 999))
theorem fits6_iff {P ch : Nat → Int32} {f : Nat} : fits6 P ch f = true ↔ ∀ q, q < 6 → fit P ch f q := by
  unfold fits6
  rw [List.all_eq_true]
  constructor
  · intro h q hq
    exact (fit_dec P ch f q).mpr (h q (List.mem_range.mpr hq))
  · intro h q hq
    exact (fit_dec P ch f q).mp (h q (List.mem_range.mp hq))
def us (kd ch P : Nat → Int32) (ub st en : Int32) (f : Nat) : Bool := decide (en = 0 ∧ ¬ (kd f = 1 ∧ ((ub >>> (nI f &&& 31)) &&& 1) = 1) ∧ ¬ (kd f = 2 ∧ ¬ irm st 2 = 0) ∧ fits6 P ch f = true)
def bi (b : Bool) : Int32 := if b = true then 1 else 0
theorem us_loop {w : XW} {i j : Nat} {P R kd ch : Nat → Int32} {rs ub st en ti : Int32} (hS : StA w i P R rs ub st en ti) (hF : FrA w j kd ch) {f : Nat} (hf : f < 8) : loX5_isUsable FU w i j (nI f * 6) 0 = some (bi (fits6 P ch f), w) := by
  have e6 : nI f * (6 : Int32) = nI (6 * f) := by rw [show (6 : Int32) = nI 6 from rfl, pk_mul, Nat.mul_comm]
  rw [e6]
  rcases lo_us hS hF hf 6 0 FU rfl (by unfold FU; omega) with ⟨h1, h2⟩ | ⟨⟨q, g1, g2, g3⟩, h2⟩
  · have h3 : ∀ q, q < 6 → fit P ch f q := fun q z => h1 q (Nat.zero_le _) z
    rw [show (0 : Int32) = nI 0 from rfl, h2, bi, if_pos (fits6_iff.mpr h3)]
  · have h3 : ¬ ∀ q, q < 6 → fit P ch f q := fun z => g3 (z q g2)
    rw [show (0 : Int32) = nI 0 from rfl, h2, bi, if_neg (fun z => h3 (fits6_iff.mp z))]
theorem isUsable_spec {w : XW} {i j : Nat} {P R kd ch : Nat → Int32} {rs ub st en ti : Int32} (hS : StA w i P R rs ub st en ti) (hF : FrA w j kd ch) {f : Nat} (hf : f < 8) : fX5_isUsable w i j (nI f) = some (bi (us kd ch P ub st en f), w) := by
  have hloop := us_loop hS hF hf
  obtain ⟨s1, s2, s3⟩ := hS
  obtain ⟨⟨sz, t1⟩, t2, t3⟩ := hF
  unfold fX5_isUsable
  rw [if_pos (isO_at s1)]
  unfold eX5_isUsable
  have e1 : gR w j 1 0 = some (j + 1) := gR_at t1 rfl
  have e2 : aI w 0 (j + 1) (nI f) = some (kd f) := aI_at t2 hf (nI_cl (by omega)) (nI_nn (by omega))
  have e3 : gI w i 5 5 = some en := gI_at s1 rfl
  have e4 : gI w i 5 3 = some ub := gI_at s1 rfl
  have e5 : gI w i 5 4 = some st := gI_at s1 rfl
  rw [e1, Option.bind_some, e2, Option.bind_some, e3, Option.bind_some]
  have h31 : bX5_isUsable_31 (loX5_isUsable FU) w i j (nI f) (kd f) = some (bi (decide (¬ (kd f = 2 ∧ ¬ irm st 2 = 0) ∧ fits6 P ch f = true)), w) := by
    unfold bX5_isUsable_31
    by_cases c2 : kd f = 2
    · rw [if_pos c2, e5, Option.bind_some]
      by_cases c3 : irm st 2 = 0
      · rw [if_pos c3]
        show loX5_isUsable FU w i j (nI f * 6) 0 = _
        rw [hloop]
        congr 3
        simp [c3]
      · rw [if_neg c3]
        show some ((0 : Int32), w) = _
        rw [bi, if_neg]
        intro z
        exact (of_decide_eq_true z).1 ⟨c2, c3⟩
    · rw [if_neg c2]
      show loX5_isUsable FU w i j (nI f * 6) 0 = _
      rw [hloop]
      congr 3
      simp [c2]
  unfold us
  by_cases c0 : en = 0
  · rw [if_pos c0]
    by_cases c1 : kd f = 1
    · rw [if_pos c1, e4, Option.bind_some]
      by_cases c2 : ((ub >>> (nI f &&& 31)) &&& 1) = 1
      · rw [if_pos c2]
        show some ((0 : Int32), w) = _
        rw [bi, if_neg]
        intro z
        exact (of_decide_eq_true z).2.1 ⟨c1, c2⟩
      · rw [if_neg c2, h31]
        congr 3
        simp [c0, c2]
    · rw [if_neg c1, h31]
      congr 3
      simp [c0, c1]
  · rw [if_neg c0]
    show some ((0 : Int32), w) = _
    rw [bi, if_neg]
    intro z
    exact c0 (of_decide_eq_true z).1
/-- the search along the row, from the place p on, m places left -/
def nfs (u l : Nat → Bool) (ρ : Nat → Nat) : Nat → Nat → Int32 → Int32
  | 0, _, z => z
  | m + 1, p, z => if u (ρ p) = true ∧ (l (ρ p) = false ∨ z = -4) then (if l (ρ p) = false then nI (ρ p) else nfs u l ρ m (p + 1) (nI (ρ p))) else nfs u l ρ m (p + 1) z
/-- the row holds the numbers ρ at its first r places -/
def rowOk (R : Nat → Int32) (ρ : Nat → Nat) (r : Nat) : Prop := r ≤ 8 ∧ ∀ p, p < r → R p = nI (ρ p) ∧ ρ p < 8
theorem bi0 {b : Bool} : bi b = 0 ↔ b = false := by cases b <;> decide
theorem nf_loop {w : XW} {i j : Nat} {P R kd ch : Nat → Int32} {ub st en ti : Int32} {r : Nat} {ρ : Nat → Nat} (hS : StA w i P R (nI r) ub st en ti) (hF : FrA w j kd ch) (hR : rowOk R ρ r) : ∀ (m p n : Nat) (z : Int32), p + m = r → m + 1 ≤ n → loX5_nextFraction n w i j z (nI p) = some (nfs (us kd ch P ub st en) (fun f => decide (kd f = 4)) ρ m p z, w) := by
  have hSS := hS
  have hFF := hF
  obtain ⟨s1, s2, s3⟩ := hS
  obtain ⟨⟨sz, t1⟩, t2, t3⟩ := hF
  intro m
  induction m with
  | zero =>
    intro p n z hp hn
    obtain ⟨n, rfl⟩ : ∃ y, n = y + 1 := ⟨n - 1, by omega⟩
    show hX5_nextFraction_5 (loX5_nextFraction n) w i j z (nI p) = _
    unfold hX5_nextFraction_5
    have e1 : gI w i 5 2 = some (nI r) := gI_at s1 rfl
    rw [e1, Option.bind_some, if_pos (nI_le (by omega) (by have := hR.1; omega))]
    rfl
  | succ m ih =>
    intro p n z hp hn
    obtain ⟨n, rfl⟩ : ∃ y, n = y + 1 := ⟨n - 1, by omega⟩
    have hr8 := hR.1
    obtain ⟨hRp, hρ⟩ := hR.2 p (by omega)
    have e1 : gI w i 5 2 = some (nI r) := gI_at s1 rfl
    have e2 : gR w i 5 1 = some (i + 2) := gR_at s1 rfl
    have e3 : aI w 0 (i + 2) (nI p) = some (nI (ρ p)) := by rw [← hRp]; exact aI_at s3 (by omega) (nI_cl (by omega)) (nI_nn (by omega))
    have e4 : gR w j 1 0 = some (j + 1) := gR_at t1 rfl
    have e5 : aI w 0 (j + 1) (nI (ρ p)) = some (kd (ρ p)) := aI_at t2 hρ (nI_cl (by omega)) (nI_nn (by omega))
    have eU := isUsable_spec hSS hFF hρ
    have h71 : ∀ y : Int32, bX5_nextFraction_71 (loX5_nextFraction n) w i j y (nI p) = some (nfs (us kd ch P ub st en) (fun f => decide (kd f = 4)) ρ m (p + 1) y, w) := by
      intro y
      show loX5_nextFraction n w i j y (nI p + 1) = _
      rw [nI_1]
      exact ih (p + 1) n y (by omega) (by omega)
    show hX5_nextFraction_5 (loX5_nextFraction n) w i j z (nI p) = _
    unfold hX5_nextFraction_5
    rw [e1, Option.bind_some, if_neg (nI_ge (by omega) (by omega)), e2, Option.bind_some, e3, Option.bind_some, e4, Option.bind_some, e5, Option.bind_some]
    rw [nfs]
    by_cases hu : us kd ch P ub st en (ρ p) = true
    · have h50 : ∀ s5 : Int32, bX5_nextFraction_50 (loX5_nextFraction n) w i j z (nI p) (nI (ρ p)) s5 = if s5 = 0 then some (nI (ρ p), w) else some (nfs (us kd ch P ub st en) (fun f => decide (kd f = 4)) ρ m (p + 1) (nI (ρ p)), w) := by
        intro s5
        unfold bX5_nextFraction_50
        rw [eU, Option.bind_some, if_neg (fun q => by rw [bi0, hu] at q; cases q)]
        by_cases c5 : s5 = 0
        · rw [if_pos c5, if_pos c5]
        · rw [if_neg c5, if_neg c5, h71]
      by_cases c4 : kd (ρ p) = 4
      · rw [if_pos c4]
        unfold bX5_nextFraction_37
        rw [if_neg (by decide)]
        by_cases cz : z = -4
        · rw [if_pos cz, h50, if_neg (by decide), if_pos ⟨hu, Or.inr cz⟩, if_neg (by simp [c4])]
        · rw [if_neg cz, h71, if_neg (by simp [c4, cz])]
      · rw [if_neg c4]
        unfold bX5_nextFraction_37
        rw [if_pos rfl, h50, if_pos rfl, if_pos ⟨hu, Or.inl (by simp [c4])⟩, if_pos (by simp [c4])]
    · have h50 : ∀ s5 : Int32, bX5_nextFraction_50 (loX5_nextFraction n) w i j z (nI p) (nI (ρ p)) s5 = some (nfs (us kd ch P ub st en) (fun f => decide (kd f = 4)) ρ m (p + 1) z, w) := by
        intro s5
        unfold bX5_nextFraction_50
        rw [eU, Option.bind_some, if_pos (bi0.mpr (by simpa using hu)), h71]
      rw [if_neg (c := us kd ch P ub st en (ρ p) = true ∧ _) (fun q => hu q.1)]
      by_cases c4 : kd (ρ p) = 4
      · rw [if_pos c4]
        unfold bX5_nextFraction_37
        rw [if_neg (by decide)]
        by_cases cz : z = -4
        · rw [if_pos cz, h50]
        · rw [if_neg cz, h71]
      · rw [if_neg c4]
        unfold bX5_nextFraction_37
        rw [if_pos rfl, h50]
theorem next_spec {w : XW} {i j : Nat} {P R kd ch : Nat → Int32} {ub st en ti : Int32} {r : Nat} {ρ : Nat → Nat} (hS : StA w i P R (nI r) ub st en ti) (hF : FrA w j kd ch) (hR : rowOk R ρ r) : fX5_nextFraction w i j = some (nfs (us kd ch P ub st en) (fun f => decide (kd f = 4)) ρ r 0 (-4), w) := by
  unfold fX5_nextFraction
  rw [if_pos (isO_at hS.1)]
  exact nf_loop hS hF hR r 0 FU (-4) (by omega) (by have := hR.1; unfold FU; omega)
